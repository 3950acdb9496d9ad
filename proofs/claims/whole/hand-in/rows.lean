section
/-! rows taken from the rows to paste: pk_sub, pk_ix, pk_le, pk_lt, pk_eq, pk_in, pk_cl, nx_and -/
theorem pk_sub {a b : Nat} (h : b ≤ a) : nI a - nI b = nI (a - b) := by
  obtain ⟨c, rfl⟩ : ∃ c, a = c + b := ⟨a - b, by omega⟩
  rw [← nI_add, Int32.add_sub_cancel, Nat.add_sub_cancel]
theorem pk_ix (x : Int32) {n : Nat} (hn : n < 2 ^ 31) : x < 0 ∨ nI n ≤ x ∨ ∃ j : Nat, j < n ∧ x = nI j := by
  by_cases h : x < 0
  · exact Or.inl h
  · obtain ⟨j, hj, rfl⟩ := nI_of h
    by_cases h2 : j < n
    · exact Or.inr (Or.inr ⟨j, h2, rfl⟩)
    · exact Or.inr (Or.inl (nI_le (by omega) hj))
theorem pk_le {x y : Int32} {A B : Prop} (a b : Nat) (f : a ≤ b → A) (g : b < a → B) (hx : x = nI a := by rfl) (hy : y = nI b := by rfl) (ha : a < 2 ^ 31 := by omega) (hb : b < 2 ^ 31 := by omega) : (x ≤ y → A) ∧ (¬ x ≤ y → B) := by
  subst hx hy
  rw [nI_leI ha hb]
  exact ⟨f, fun z => g (by omega)⟩
theorem pk_lt {x y : Int32} {A B : Prop} (a b : Nat) (f : a < b → A) (g : b ≤ a → B) (hx : x = nI a := by rfl) (hy : y = nI b := by rfl) (ha : a < 2 ^ 31 := by omega) (hb : b < 2 ^ 31 := by omega) : (x < y → A) ∧ (¬ x < y → B) := by
  subst hx hy
  rw [nI_ltI ha hb]
  exact ⟨f, fun z => g (by omega)⟩
theorem pk_eq {x y : Int32} {A B : Prop} (a b : Nat) (f : a = b → A) (g : a ≠ b → B) (hx : x = nI a := by rfl) (hy : y = nI b := by rfl) (ha : a < 2 ^ 31 := by omega) (hb : b < 2 ^ 31 := by omega) : (x = y → A) ∧ (¬ x = y → B) := by
  subst hx hy
  rw [nI_eq ha hb]
  exact ⟨f, g⟩
theorem pk_in {x : Int32} (n N : Nat) (h : n < N) (hx : x = nI n := by rfl) (hN : N < 2 ^ 31 := by omega) : vp_in x N := by
  subst hx
  exact vp_in_nI h hN
theorem pk_cl {x : Int32} (n : Nat) (hx : x = nI n := by rfl) (h : n < 2 ^ 31 := by omega) : x.toNatClampNeg = n := by
  subst hx
  exact nI_clamp h
theorem nx_and (a b : Nat) : nI a &&& nI b = nI (a &&& b) := by
  apply Int32.toBitVec_inj.1
  show BitVec.ofNat 32 a &&& BitVec.ofNat 32 b = BitVec.ofNat 32 (a &&& b)
  apply BitVec.eq_of_getLsbD_eq
  intro i hi
  simp [hi]
/-! bits of a long -/
def rb_t (x : Int64) (a : Nat) : Bool := x.toBitVec.getLsbD a
def rb_i (b : Bool) : Int32 := if b then 1 else 0
theorem rb_ext {x y : Int64} (h : ∀ a, a < 64 → rb_t x a = rb_t y a) : x = y := Int64.toBitVec_inj.mp (BitVec.eq_of_getLsbD_eq (fun i hi => h i hi))
theorem rb_or (x y : Int64) (i : Nat) : rb_t (x ||| y) i = (rb_t x i || rb_t y i) := by unfold rb_t; rw [Int64.toBitVec_or, BitVec.getLsbD_or]
theorem rb_and (x y : Int64) (i : Nat) : rb_t (x &&& y) i = (rb_t x i && rb_t y i) := by unfold rb_t; rw [Int64.toBitVec_and, BitVec.getLsbD_and]
theorem rb_xor (x y : Int64) (i : Nat) : rb_t (x ^^^ y) i = (rb_t x i ^^ rb_t y i) := by unfold rb_t; rw [Int64.toBitVec_xor, BitVec.getLsbD_xor]
theorem rb_0 (i : Nat) : rb_t 0 i = false := BitVec.getLsbD_zero
theorem rb_big {x : Int64} {i : Nat} (h : 64 ≤ i) : rb_t x i = false := BitVec.getLsbD_of_ge _ _ h
theorem rb_m1 : ∀ i, i < 64 → rb_t (-1) i = true := by decide +kernel
theorem rb_1 : ∀ i, i < 64 → rb_t 1 i = decide (i = 0) := by decide +kernel
theorem rb_not (x : Int64) {i : Nat} (h : i < 64) : rb_t (x ^^^ (-1)) i = !rb_t x i := by rw [rb_xor, rb_m1 i h, Bool.xor_true]
theorem rb_sc : ∀ n, n < 64 → (((nI n).toInt64 &&& 63).toBitVec.smod 64).toNat = n := by decide +kernel
theorem rb_su : ∀ n, n < 64 → (((nI n).toInt64.toUInt64 &&& Int64.toUInt64 63).toBitVec % 64).toNat = n := by decide +kernel
theorem rb_shl (n : Nat) (hn : n < 64) (x : Int64) {i : Nat} (hi : i < 64) : rb_t (x <<< ((nI n).toInt64 &&& 63)) i = (decide (n ≤ i) && rb_t x (i - n)) := by
  unfold rb_t
  rw [Int64.toBitVec_shiftLeft]
  show (x.toBitVec <<< (((nI n).toInt64 &&& 63).toBitVec.smod 64).toNat).getLsbD i = _
  rw [rb_sc n hn, BitVec.getLsbD_shiftLeft]
  rcases Nat.lt_or_ge i n with h | h
  · simp [h, Nat.not_le.mpr h]
  · simp [hi, h, Nat.not_lt.mpr h]
theorem rb_ushr (n : Nat) (hn : n < 64) (x : Int64) (i : Nat) : rb_t ((x.toUInt64 >>> ((nI n).toInt64.toUInt64 &&& Int64.toUInt64 63)).toInt64) i = rb_t x (n + i) := by
  show (x.toUInt64 >>> ((nI n).toInt64.toUInt64 &&& Int64.toUInt64 63)).toBitVec.getLsbD i = x.toUInt64.toBitVec.getLsbD (n + i)
  rw [UInt64.toBitVec_shiftRight]
  show (x.toUInt64.toBitVec >>> (((nI n).toInt64.toUInt64 &&& Int64.toUInt64 63).toBitVec % 64).toNat).getLsbD i = _
  rw [rb_su n hn, BitVec.getLsbD_ushiftRight]
theorem rb_sshr (n : Nat) (hn : n < 64) (x : Int64) : rb_t (x >>> ((nI n).toInt64 &&& 63)) 0 = rb_t x n := by
  unfold rb_t
  rw [Int64.toBitVec_shiftRight]
  show (x.toBitVec.sshiftRight (((nI n).toInt64 &&& 63).toBitVec.smod 64).toNat).getLsbD 0 = _
  rw [rb_sc n hn, BitVec.getLsbD_sshiftRight]
  simp [hn]
theorem rb_one (a : Nat) (ha : a < 64) {i : Nat} (hi : i < 64) : rb_t ((1 : Int64) <<< ((nI a).toInt64 &&& 63)) i = decide (i = a) := by
  rw [rb_shl a ha _ hi, rb_1 (i - a) (by omega), Bool.eq_iff_iff, Bool.and_eq_true, decide_eq_true_iff, decide_eq_true_iff, decide_eq_true_iff]
  omega
theorem rb_x1 (y : Int64) : (y &&& 1).toInt32 = rb_i (rb_t y 0) := by
  have h : (y &&& 1) = if rb_t y 0 then 1 else 0 := by
    apply rb_ext
    intro i hi
    rw [rb_and, rb_1 i hi]
    by_cases e : i = 0
    · subst e
      cases hb : rb_t y 0
      · rfl
      · rfl
    · rw [decide_eq_false e, Bool.and_false]
      cases hb : rb_t y 0
      · exact (rb_0 i).symm
      · show false = rb_t 1 i
        rw [rb_1 i hi, decide_eq_false e]
  rw [h]
  cases rb_t y 0
  · rfl
  · rfl
theorem rb_y1 (z : Int32) : z &&& 1 = rb_i (z.toBitVec.getLsbD 0) := by
  apply Int32.toBitVec_inj.mp
  rw [Int32.toBitVec_and]
  show z.toBitVec &&& 1#32 = _
  rw [BitVec.and_one_eq_setWidth_ofBool_getLsbD]
  cases z.toBitVec.getLsbD 0
  · decide
  · decide
theorem rb_lo (x : Int64) : x.toInt32.toBitVec.getLsbD 0 = rb_t x 0 := by
  rw [Int64.toBitVec_toInt32, BitVec.getLsbD_signExtend]
  simp [rb_t]
theorem rb_X (x : Int64) {a : Nat} (h : a < 64) : ((x.toUInt64 >>> ((nI a).toInt64.toUInt64 &&& Int64.toUInt64 63)).toInt64 &&& 1).toInt32 = rb_i (rb_t x a) := by
  rw [rb_x1, rb_ushr a h, Nat.add_zero]
theorem rb_Y (x : Int64) {a : Nat} (h : a < 64) : ((x >>> ((nI a).toInt64 &&& 63)).toInt32 &&& 1) = rb_i (rb_t x a) := by
  rw [rb_y1, rb_lo, rb_sshr a h]
theorem rb_i1 (b : Bool) : rb_i b = 1 ↔ b = true := by cases b <;> decide
theorem rb_i0 (b : Bool) : rb_i b = 0 ↔ b = false := by cases b <;> decide
theorem rb_ii (b c : Bool) : rb_i b = rb_i c ↔ b = c := by cases b <;> cases c <;> decide
theorem rb_nf {x : Bool} (h : ¬ x = false) : x = true := by cases x <;> first | rfl | exact absurd rfl h
theorem rb_nt {x : Bool} (h : ¬ x = true) : x = false := by cases x <;> first | rfl | exact absurd rfl h
/-! one bit, as each side asks for it -/
theorem rb_bitX {post : Int32 → Prop} (x : Int64) {a : Nat} (h : a < 64) (hp : post (rb_i (rb_t x a))) : wpX_bitAt post x (nI a) := by
  unfold wpX_bitAt
  rw [rb_X x h]
  exact hp
theorem rb_bitY {post : Int32 → Prop} (x : Int64) {a : Nat} (h : a < 64) (hp : post (rb_i (rb_t x a))) : wpY_bit post x (nI a) := by
  unfold wpY_bit
  rw [rb_Y x h]
  exact hp
theorem rb_if {b : Bool} {A B : Prop} (f : b = true → A) (g : b = false → B) : (rb_i b = 1 → A) ∧ (¬ rb_i b = 1 → B) :=
  ⟨fun h => f ((rb_i1 b).mp h), fun h => g (rb_nt (fun z => h ((rb_i1 b).mpr z)))⟩
theorem rb_if0 {b : Bool} {A B : Prop} (f : b = false → A) (g : b = true → B) : (rb_i b = 0 → A) ∧ (¬ rb_i b = 0 → B) :=
  ⟨fun h => f ((rb_i0 b).mp h), fun h => g (rb_nf (fun z => h ((rb_i0 b).mpr z)))⟩
end
section
/-! longs built bit by bit -/
def rs_f (c : Nat → Bool) : Nat → Int64
  | 0 => 0
  | n + 1 => if c n then rs_f c n ||| ((1 : Int64) <<< ((nI n).toInt64 &&& 63)) else rs_f c n
theorem rs_t (c : Nat → Bool) {n : Nat} (h : c n = true) : rs_f c (n + 1) = rs_f c n ||| ((1 : Int64) <<< ((nI n).toInt64 &&& 63)) := if_pos h
theorem rs_n (c : Nat → Bool) {n : Nat} (h : c n = false) : rs_f c (n + 1) = rs_f c n := if_neg (by rw [h]; decide)
theorem rs_bit (c : Nat → Bool) : ∀ n, n ≤ 64 → ∀ i, i < 64 → rb_t (rs_f c n) i = (decide (i < n) && c i) := by
  intro n
  induction n with
  | zero =>
    intro _ i _
    rw [decide_eq_false (Nat.not_lt_zero i), Bool.false_and]
    exact rb_0 i
  | succ n ih =>
    intro hn i hi
    cases hc : c n with
    | false =>
      rw [rs_n c hc, ih (by omega) i hi]
      by_cases e : i = n
      · subst e
        rw [hc, Bool.and_false, Bool.and_false]
      · have : (i < n) ↔ (i < n + 1) := by omega
        rw [decide_eq_decide.mpr this]
    | true =>
      rw [rs_t c hc, rb_or, ih (by omega) i hi, rb_one n (by omega) hi]
      by_cases e : i = n
      · subst e
        rw [hc, decide_eq_true (Nat.lt_succ_self i), decide_eq_true (rfl : i = i), Bool.or_true, Bool.true_and]
      · have : (i < n) ↔ (i < n + 1) := by omega
        rw [decide_eq_decide.mpr this, decide_eq_false e, Bool.or_false]
theorem rs_all (c : Nat → Bool) {i : Nat} (hi : i < 64) : rb_t (rs_f c 64) i = c i := by
  rw [rs_bit c 64 (Nat.le_refl _) i hi, decide_eq_true hi, Bool.true_and]
theorem rs_eq {c : Nat → Bool} {x : Int64} (h : ∀ i, i < 64 → c i = rb_t x i) : rs_f c 64 = x := rb_ext (fun i hi => (rs_all c hi).trans (h i hi))
/-- setting by exclusive or is setting by or: the bit was 0 -/
theorem rs_x (c : Nat → Bool) {n : Nat} (hn : n < 64) (h : c n = true) : rs_f c (n + 1) = rs_f c n ^^^ ((1 : Int64) <<< ((nI n).toInt64 &&& 63)) := by
  apply rb_ext
  intro i hi
  rw [rs_t c h, rb_or, rb_xor, rb_one n hn hi, rs_bit c n (by omega) i hi]
  by_cases e : i = n
  · subst e
    rw [decide_eq_false (Nat.lt_irrefl i), Bool.false_and, Bool.false_or, Bool.false_xor]
  · rw [decide_eq_false e, Bool.or_false, Bool.xor_false]
/-! the long of a variable -/
def rs_v (v : Nat) : Int64 := rs_f (fun a => a.testBit v) 64
theorem rs_vb (v : Nat) {i : Nat} (hi : i < 64) : rb_t (rs_v v) i = i.testBit v := rs_all _ hi
theorem rs_tabX : ∀ a, a < 64 → ∀ v, v < 6 → rb_t (nI a).toInt64 v = a.testBit v := by decide +kernel
theorem rs_tabY : ∀ a, a < 64 → ∀ v, v < 6 → (nI a >>> (nI v &&& 31)) &&& 1 = rb_i (a.testBit v) := by decide +kernel
theorem rs_loopX {v : Nat} (hv : v < 6) {post : Int64 → Prop} (hp : post (rs_v v)) : ∀ d a, a + d = 64 → wX_valuesOfVariable_4 post (nI v) (d + 1) (rs_f (fun a => a.testBit v) a) (nI a) := by
  intro d
  induction d with
  | zero =>
    intro a h
    obtain rfl : a = 64 := by omega
    exact pk_le 64 64 (fun _ => hp) (fun h => absurd h (by omega))
  | succ d ih =>
    intro a h
    refine pk_le 64 a (fun z => absurd z (by omega)) (fun _ => ?_)
    refine rb_bitX _ (by omega) ?_
    rw [rs_tabX a (by omega) v hv]
    refine rb_if (fun hb => ?_) (fun hb => ?_)
    · exact nm_r (rs_t (fun a => a.testBit v) hb).symm (nm_r (nI_1 a) (ih (a + 1) (by omega)))
    · refine nm_r (nI_1 a) ?_
      have := ih (a + 1) (by omega)
      rw [rs_n (fun a => a.testBit v) hb] at this
      exact this
theorem rs_X {v : Nat} (hv : v < 6) {post : Int64 → Prop} (hp : post (rs_v v)) : wpX_valuesOfVariable post (nI v) := ⟨65, rs_loopX hv hp 64 0 rfl⟩
/-! push -/
theorem rv_pushX {post : Int32 → SX → Prop} {n : Nat} (hn : n ≤ 12) (s : Nat → Int64) (x : Int64) (h1 : n < 12 → post (nI (n + 1)) (nI (n + 1), vp_updL s n x)) (h2 : n = 12 → post (-1) (nI n, s)) : wpX_push post (nI n, s) x :=
  pk_lt n 12 (fun h => ⟨pk_in n 12 h, nm_r (congrArg (fun j => vp_updL s j x) (nI_clamp (by omega))) (nm_r (nI_1 n) (h1 h))⟩) (fun h => h2 (by omega))
theorem rv_pushY {post : Int32 → SY → Prop} {n : Nat} (hn : n ≤ 12) (s : Nat → Int64) (x : Int64) (h1 : n < 12 → post (nI (n + 1)) (nI (n + 1), vp_updL s n x)) (h2 : n = 12 → post (-1) (nI n, s)) : wpY_push post (nI n, s) x :=
  pk_eq n 12 (fun h => h2 h) (fun h => ⟨pk_in n 12 (by omega), nm_r (congrArg (fun j => vp_updL s j x) (nI_clamp (by omega))) (nm_r (nI_1 n) (h1 (by omega)))⟩)
theorem rs_loopY {v : Nat} (hv : v < 6) {post : Int32 → SY → Prop} {n : Nat} (hn : n ≤ 12) (s : Nat → Int64) (h1 : n < 12 → post (nI (n + 1)) (nI (n + 1), vp_updL s n (rs_v v))) (h2 : n = 12 → post (-1) (nI n, s)) : ∀ d a, a + d = 64 → wY_variable_16 post (nI v) (nI n) s (d + 1) (rs_f (fun a => a.testBit v) a) (nI a) := by
  intro d
  induction d with
  | zero =>
    intro a h
    obtain rfl : a = 64 := by omega
    exact pk_le 64 64 (fun _ => rv_pushY hn s _ h1 h2) (fun h => absurd h (by omega))
  | succ d ih =>
    intro a h
    refine pk_le 64 a (fun z => absurd z (by omega)) (fun _ => ?_)
    rw [rs_tabY a (by omega) v hv]
    refine rb_if (fun hb => ?_) (fun hb => ?_)
    · exact nm_r (rs_t (fun a => a.testBit v) hb).symm (nm_r (nI_1 a) (ih (a + 1) (by omega)))
    · refine nm_r (nI_1 a) ?_
      have := ih (a + 1) (by omega)
      rw [rs_n (fun a => a.testBit v) hb] at this
      exact this
/-! counting ones -/
def rc_f (x : Int64) : Nat → Int32
  | 0 => 0
  | n + 1 => rc_f x n + rb_i (rb_t x n)
theorem rc_loopX (x : Int64) {post : Int32 → Prop} (hp : post (rc_f x 64)) : ∀ d a, a + d = 64 → wX_countOnes_4 post x (d + 1) (rc_f x a) (nI a) := by
  intro d
  induction d with
  | zero =>
    intro a h
    obtain rfl : a = 64 := by omega
    exact pk_le 64 64 (fun _ => hp) (fun h => absurd h (by omega))
  | succ d ih =>
    intro a h
    refine pk_le 64 a (fun z => absurd z (by omega)) (fun _ => ?_)
    refine rb_bitX _ (by omega) ?_
    exact nm_e (nm_r (nI_1 a) (ih (a + 1) (by omega)))
theorem rc_loopY (x : Int64) {post : Int32 → Prop} (hp : post (rc_f x 64)) : ∀ d a, a + d = 64 → wY_ones_4 post x (d + 1) (rc_f x a) (nI a) := by
  intro d
  induction d with
  | zero =>
    intro a h
    obtain rfl : a = 64 := by omega
    exact pk_le 64 64 (fun _ => hp) (fun h => absurd h (by omega))
  | succ d ih =>
    intro a h
    refine pk_le 64 a (fun z => absurd z (by omega)) (fun _ => ?_)
    refine rb_bitY _ (by omega) ?_
    exact nm_e (nm_r (nI_1 a) (ih (a + 1) (by omega)))
theorem rc_X (x : Int64) {post : Int32 → Prop} (hp : post (rc_f x 64)) : wpX_countOnes post x := ⟨65, rc_loopX x hp 64 0 rfl⟩
theorem rc_Y (x : Int64) {post : Int32 → Prop} (hp : post (rc_f x 64)) : wpY_ones post x := ⟨65, rc_loopY x hp 64 0 rfl⟩
/-! the degree: the greatest size of a product in the set -/
def rd_f (x : Int64) : Nat → Int32
  | 0 => 0
  | p + 1 => if rb_t x p = true then (if rc_f (nI p).toInt64 64 ≤ rd_f x p then rd_f x p else rc_f (nI p).toInt64 64) else rd_f x p
theorem rd_loopX (x : Int64) (F : Int32) (s : Nat → Int64) {post : Int32 → Prop} (hp : post (rd_f x 64)) : ∀ d p, p + d = 64 → wX_degree_22 post x F s (d + 1) (rd_f x p) (nI p) := by
  intro d
  induction d with
  | zero =>
    intro p h
    obtain rfl : p = 64 := by omega
    exact pk_le 64 64 (fun _ => hp) (fun h => absurd h (by omega))
  | succ d ih =>
    intro p h
    refine pk_le 64 p (fun z => absurd z (by omega)) (fun _ => ?_)
    refine rc_X _ ?_
    refine rb_bitX _ (by omega) ?_
    have I := ih (p + 1) (by omega)
    refine rb_if (fun hb => br_c (fun hc => ?_) (fun hc => ?_)) (fun hb => ?_)
    · have e : rd_f x (p + 1) = rd_f x p := (if_pos hb).trans (if_pos hc)
      rw [e] at I
      exact nm_r (nI_1 p) I
    · have e : rd_f x (p + 1) = rc_f (nI p).toInt64 64 := (if_pos hb).trans (if_neg hc)
      rw [e] at I
      exact nm_r (nI_1 p) I
    · have e : rd_f x (p + 1) = rd_f x p := if_neg (by rw [hb]; decide)
      rw [e] at I
      exact nm_r (nI_1 p) I
theorem rd_loopY (x : Int64) (F : Int32) (s : Nat → Int64) {post : Int32 → Prop} (hp : post (rd_f x 64)) : ∀ d p, p + d = 64 → wY_degree_22 post x F s (d + 1) (rd_f x p) (nI p) := by
  intro d
  induction d with
  | zero =>
    intro p h
    obtain rfl : p = 64 := by omega
    exact pk_le 64 64 (fun _ => hp) (fun h => absurd h (by omega))
  | succ d ih =>
    intro p h
    refine pk_le 64 p (fun z => absurd z (by omega)) (fun _ => ?_)
    refine rb_bitY _ (by omega) ?_
    have I := ih (p + 1) (by omega)
    refine rb_if (fun hb => ?_) (fun hb => ?_)
    · refine rc_Y _ ?_
      refine br_c (fun hc => ?_) (fun hc => ?_)
      · have e : rd_f x (p + 1) = rd_f x p := (if_pos hb).trans (if_pos hc)
        rw [e] at I
        exact nm_r (nI_1 p) I
      · have e : rd_f x (p + 1) = rc_f (nI p).toInt64 64 := (if_pos hb).trans (if_neg hc)
        rw [e] at I
        refine rc_Y _ ?_
        exact nm_r (nI_1 p) I
    · have e : rd_f x (p + 1) = rd_f x p := if_neg (by rw [hb]; decide)
      rw [e] at I
      exact nm_r (nI_1 p) I
/-! the first place where two longs differ -/
def rf_f (x y : Int64) : Nat → Nat → Int32
  | 0, _ => 64
  | d + 1, a => if rb_t x a = rb_t y a then rf_f x y d (a + 1) else nI a
theorem rf_loopX (x y : Int64) (F : Int32) (s : Nat → Int64) {post : Int32 → Prop} : ∀ d a, a + d = 64 → post (rf_f x y d a) → wX_differ_33 post (x ^^^ y) F s (d + 1) (nI a) := by
  intro d
  induction d with
  | zero =>
    intro a h hp
    obtain rfl : a = 64 := by omega
    exact pk_le 64 64 (fun _ => hp) (fun h => absurd h (by omega))
  | succ d ih =>
    intro a h hp
    refine pk_le 64 a (fun z => absurd z (by omega)) (fun _ => ?_)
    refine rb_bitX _ (by omega) ?_
    rw [rb_xor]
    refine rb_if (fun hb => ?_) (fun hb => ?_)
    · have e : ¬ rb_t x a = rb_t y a := by
        intro z
        rw [z, Bool.xor_self] at hb
        exact absurd hb (by decide)
      have g : rf_f x y (d + 1) a = nI a := if_neg e
      rw [g] at hp
      exact hp
    · have e : rb_t x a = rb_t y a := by
        revert hb
        cases rb_t x a <;> cases rb_t y a <;> decide
      have g : rf_f x y (d + 1) a = rf_f x y d (a + 1) := if_pos e
      rw [g] at hp
      exact nm_r (nI_1 a) (ih (a + 1) (by omega) hp)
theorem rf_loopY (F : Int32) (s : Nat → Int64) (k l : Int32) (hk : vp_in (F - 1 - k) 12) (hl : vp_in (F - 1 - l) 12) {post : Int32 → Prop} : ∀ d a, a + d = 64 → post (rf_f (s (F - 1 - k).toNatClampNeg) (s (F - 1 - l).toNatClampNeg) d a) → wY_differ_20 post k l F s (d + 1) (nI a) := by
  intro d
  induction d with
  | zero =>
    intro a h hp
    obtain rfl : a = 64 := by omega
    exact pk_le 64 64 (fun _ => hp) (fun h => absurd h (by omega))
  | succ d ih =>
    intro a h hp
    refine pk_le 64 a (fun z => absurd z (by omega)) (fun _ => ⟨hk, ?_⟩)
    refine rb_bitY _ (by omega) ?_
    refine ⟨hl, ?_⟩
    refine rb_bitY _ (by omega) ?_
    refine br_c (fun hc => ?_) (fun hc => ?_)
    · have g : rf_f (s (F - 1 - k).toNatClampNeg) (s (F - 1 - l).toNatClampNeg) (d + 1) a = rf_f (s (F - 1 - k).toNatClampNeg) (s (F - 1 - l).toNatClampNeg) d (a + 1) := if_pos ((rb_ii _ _).mp hc)
      rw [g] at hp
      exact nm_r (nI_1 a) (ih (a + 1) (by omega) hp)
    · have g : rf_f (s (F - 1 - k).toNatClampNeg) (s (F - 1 - l).toNatClampNeg) (d + 1) a = nI a := if_neg (fun z => hc ((rb_ii _ _).mpr z))
      rw [g] at hp
      exact hp
end
section
/-! X's sums, one variable after the other -/
theorem rm_2 : ∀ v, v < 6 → (1 : Int32) <<< (nI v &&& 31) = nI (2 ^ v) := by decide +kernel
theorem rm_p {v : Nat} (h : v < 6) : 2 ^ v < 64 := Nat.pow_lt_pow_right (n := 6) (by decide) h
def rm_s (v : Nat) (s : Int64) : Int64 := s ^^^ ((s &&& (rs_v v ^^^ (-1))) <<< ((nI (2 ^ v)).toInt64 &&& 63))
def rm_f (x : Int64) : Nat → Int64
  | 0 => x
  | v + 1 => rm_s v (rm_f x v)
theorem rm_loopX (x : Int64) (F : Int32) (s : Nat → Int64) {post : Int64 → Prop} (hp : post (rm_f x 6)) : ∀ d v, v + d = 6 → wX_productsOfFormula_9 post F s (d + 1) (rm_f x v) (nI v) := by
  intro d
  induction d with
  | zero =>
    intro v h
    obtain rfl : v = 6 := by omega
    exact pk_le 6 6 (fun _ => hp) (fun h => absurd h (by omega))
  | succ d ih =>
    intro v h
    refine pk_le 6 v (fun z => absurd z (by omega)) (fun _ => ?_)
    refine rs_X (by omega) ?_
    refine nm_e (nm_r (e' := rm_f x (v + 1)) ?_ (nm_r (nI_1 v) (ih (v + 1) (by omega))))
    rw [rm_2 v (by omega)]
    rfl
theorem rm_bit {v : Nat} (hv : v < 6) (s : Int64) {i : Nat} (hi : i < 64) : rb_t (rm_s v s) i = (rb_t s i ^^ (decide (2 ^ v ≤ i) && (rb_t s (i - 2 ^ v) && !(i - 2 ^ v).testBit v))) := by
  have hl : i - 2 ^ v < 64 := Nat.lt_of_le_of_lt (Nat.sub_le _ _) hi
  unfold rm_s
  rw [rb_xor, rb_shl (2 ^ v) (rm_p hv) _ hi, rb_and, rb_not _ hl, rs_vb v hl]
theorem rm_bb : ∀ a b c d e f : Bool, ((a ^^ b) ^^ (e && ((c ^^ d) && f))) = ((a ^^ (e && (c && f))) ^^ (b ^^ (e && (d && f)))) := by decide
theorem rm_add {v : Nat} (hv : v < 6) (x y : Int64) : rm_s v (x ^^^ y) = rm_s v x ^^^ rm_s v y := by
  apply rb_ext
  intro i hi
  rw [rb_xor, rm_bit hv _ hi, rm_bit hv _ hi, rm_bit hv _ hi, rb_xor, rb_xor]
  exact rm_bb _ _ _ _ _ _
theorem rm_addF (x y : Int64) : ∀ v, v ≤ 6 → rm_f (x ^^^ y) v = rm_f x v ^^^ rm_f y v := by
  intro v
  induction v with
  | zero => intro _; rfl
  | succ v ih =>
    intro h
    show rm_s v (rm_f (x ^^^ y) v) = _
    rw [ih (by omega), rm_add (by omega)]
    rfl
theorem rm_zero : rm_f 0 6 = 0 := by
  have h := rm_addF 0 0 6 (by omega)
  rw [Int64.xor_self, Int64.xor_self] at h
  exact h
/-! the assignments that a product holds for -/
def rp_c (p : Nat) : Nat → Bool := fun a => (a &&& p) == p
def rp_s (p : Nat) : Int64 := rs_f (rp_c p) 64
theorem rp_tab : ∀ p, p < 64 → rm_f (rp_s p) 6 = (1 : Int64) <<< ((nI p).toInt64 &&& 63) := by decide +kernel
theorem rp_holds {post : Int32 → Prop} {p a : Nat} (hp : p < 64) (h : post (rb_i (rp_c p a))) : wpY_holds post (nI p) (nI a) := by
  unfold wpY_holds
  rw [nx_and]
  have hl : a &&& p ≤ p := Nat.and_le_right
  refine pk_eq (a &&& p) p (fun e => ?_) (fun e => ?_)
  · have : rp_c p a = true := beq_iff_eq.mpr e
    rw [this] at h
    exact h
  · have : rp_c p a = false := beq_eq_false_iff_ne.mpr e
    rw [this] at h
    exact h
theorem rp_in {post : Int64 → Prop} {J : Int64 → Int64 → Int32 → Prop} {rest found : Int64} {p : Nat} (hp : p < 64) (hJ : J (rest ^^^ rp_s p) found (nI (p + 1))) : ∀ d a r, a + d = 64 → r = rest ^^^ rs_f (rp_c p) a → wY_productsOf_37 post J found (nI p) (d + 1) r (nI a) := by
  intro d
  induction d with
  | zero =>
    intro a r h e
    obtain rfl : a = 64 := by omega
    subst e
    exact pk_le 64 64 (fun _ => nm_r (nI_1 p) hJ) (fun h => absurd h (by omega))
  | succ d ih =>
    intro a r h e
    refine pk_le 64 a (fun z => absurd z (by omega)) (fun _ => ?_)
    refine rp_holds hp ?_
    refine rb_if0 (fun hb => ?_) (fun hb => ?_)
    · exact nm_r (nI_1 a) (ih (a + 1) r (by omega) (by rw [rs_n _ hb]; exact e))
    · exact nm_e (nm_r (nI_1 a) (ih (a + 1) _ (by omega) (by rw [rs_x _ (by omega) hb, e, Int64.xor_assoc])))
/-! peeling off the least product -/
def rp_I (x rest found : Int64) (p : Nat) : Prop := rm_f rest 6 = rm_f x 6 ^^^ found ∧ (∀ i, i < p → rb_t rest i = false) ∧ (∀ i, p ≤ i → i < 64 → rb_t found i = false)
theorem rp_end {x rest found : Int64} (h : rp_I x rest found 64) : found = rm_f x 6 := by
  obtain ⟨h1, h2, _⟩ := h
  have e : rest = 0 := rb_ext (fun i hi => by rw [h2 i hi, rb_0])
  rw [e, rm_zero] at h1
  have h3 : rm_f x 6 ^^^ (rm_f x 6 ^^^ found) = rm_f x 6 ^^^ 0 := by rw [← h1]
  rw [← Int64.xor_assoc, Int64.xor_self, Int64.zero_xor, Int64.xor_zero] at h3
  exact h3
theorem rp_no {x rest found : Int64} {p : Nat} (h : rp_I x rest found p) (hb : rb_t rest p = false) : rp_I x rest found (p + 1) := by
  obtain ⟨h1, h2, h3⟩ := h
  refine ⟨h1, fun i hi => ?_, fun i hi => h3 i (by omega)⟩
  by_cases e : i = p
  · rw [e, hb]
  · exact h2 i (by omega)
theorem rp_yes {x rest found : Int64} {p : Nat} (hp : p < 64) (h : rp_I x rest found p) (hb : rb_t rest p = true) : rp_I x (rest ^^^ rp_s p) (found ||| ((1 : Int64) <<< ((nI p).toInt64 &&& 63))) (p + 1) := by
  obtain ⟨h1, h2, h3⟩ := h
  have e : (found ||| ((1 : Int64) <<< ((nI p).toInt64 &&& 63))) = found ^^^ ((1 : Int64) <<< ((nI p).toInt64 &&& 63)) := by
    apply rb_ext
    intro i hi
    rw [rb_or, rb_xor, rb_one p hp hi]
    by_cases e : i = p
    · subst e
      rw [h3 i (Nat.le_refl _) hi, Bool.false_or, Bool.false_xor]
    · rw [decide_eq_false e, Bool.or_false, Bool.xor_false]
  refine ⟨?_, fun i hi => ?_, fun i hi hi2 => ?_⟩
  · rw [e, rm_addF _ _ 6 (Nat.le_refl _), rp_tab p hp, h1, Int64.xor_assoc]
  · rw [rb_xor]
    have g : rb_t (rp_s p) i = rp_c p i := rs_all _ (by omega)
    rw [g]
    by_cases e : i = p
    · subst e
      have : rp_c i i = true := beq_iff_eq.mpr (Nat.and_self i)
      rw [hb, this]
      rfl
    · have hl : i &&& p ≤ i := Nat.and_le_left
      have : rp_c p i = false := beq_eq_false_iff_ne.mpr (by omega)
      rw [h2 i (by omega), this]
      rfl
  · rw [rb_or, rb_one p hp hi2, h3 i (by omega) hi2, decide_eq_false (by omega)]
    rfl
theorem rp_loopY (x : Int64) {post : Int64 → Prop} (hp : post (rm_f x 6)) : ∀ d p rest found, p + d = 64 → rp_I x rest found p → wY_productsOf_8 post (d + 1) rest found (nI p) := by
  intro d
  induction d with
  | zero =>
    intro p rest found h I
    obtain rfl : p = 64 := by omega
    rw [rp_end I]
    exact pk_le 64 64 (fun _ => hp) (fun h => absurd h (by omega))
  | succ d ih =>
    intro p rest found h I
    refine pk_le 64 p (fun z => absurd z (by omega)) (fun _ => ?_)
    refine rb_bitY _ (by omega) ?_
    refine rb_if (fun hb => ?_) (fun hb => ?_)
    · refine nm_e ⟨65, ?_⟩
      exact rp_in (by omega) (ih (p + 1) _ _ (by omega) (rp_yes (by omega) I hb)) 64 0 rest rfl (Int64.xor_zero).symm
    · exact nm_r (nI_1 p) (ih (p + 1) rest found (by omega) (rp_no I hb))
theorem rp_Y (x : Int64) {post : Int64 → Prop} (hp : post (rm_f x 6)) : wpY_productsOf post x :=
  ⟨65, rp_loopY x hp 64 0 x 0 rfl ⟨(Int64.xor_zero).symm, fun i hi => absurd hi (Nat.not_lt_zero i), fun i _ _ => rb_0 i⟩⟩
end
section
/-! join -/
def rj_c (s : Nat) (p q : Bool) : Bool := match s with
  | 0 => p && q
  | 1 => p || q
  | 2 => p ^^ q
  | 3 => !(p ^^ q)
  | 4 => !p || q
  | _ => !(p && q)
def rj_f (s : Nat) (x y : Int64) : Int64 := rs_f (fun a => rj_c s (rb_t x a) (rb_t y a)) 64
theorem rj_6 {s : Nat} (hs : s < 6) : s = 0 ∨ s = 1 ∨ s = 2 ∨ s = 3 ∨ s = 4 ∨ s = 5 := by omega
theorem rj_Y {post : Int32 → Prop} {s : Nat} (hs : s < 6) (p q : Bool) (hp : post (rb_i (rj_c s p q))) : wpY_joined post (nI s) (rb_i p) (rb_i q) := by
  unfold wpY_joined
  rcases rj_6 hs with rfl | rfl | rfl | rfl | rfl | rfl <;> cases p <;> cases q <;> repeat (first | exact hp | refine br_t (by decide) ?_ | refine br_f (by decide) ?_)
theorem rj_X {post : Int64 → Prop} {s : Nat} (hs : s < 6) (x y : Int64) (hp : post (rj_f s x y)) : wpX_joinedValues post (nI s) x y := by
  have e0 : rj_f 0 x y = x &&& y := rs_eq (fun i hi => by rw [rb_and]; rfl)
  have e1 : rj_f 1 x y = x ||| y := rs_eq (fun i hi => by rw [rb_or]; rfl)
  have e2 : rj_f 2 x y = x ^^^ y := rs_eq (fun i hi => by rw [rb_xor]; rfl)
  have e3 : rj_f 3 x y = (x ^^^ y) ^^^ (-1) := rs_eq (fun i hi => by rw [rb_not _ hi, rb_xor]; rfl)
  have e4 : rj_f 4 x y = (x ^^^ (-1)) ||| y := rs_eq (fun i hi => by rw [rb_or, rb_not _ hi]; rfl)
  have e5 : rj_f 5 x y = (x &&& y) ^^^ (-1) := rs_eq (fun i hi => by rw [rb_not _ hi, rb_and]; rfl)
  unfold wpX_joinedValues
  rcases rj_6 hs with rfl | rfl | rfl | rfl | rfl | rfl
  · rw [e0] at hp
    repeat (first | exact hp | refine br_t (by decide) ?_ | refine br_f (by decide) ?_)
  · rw [e1] at hp
    repeat (first | exact hp | refine br_t (by decide) ?_ | refine br_f (by decide) ?_)
  · rw [e2] at hp
    repeat (first | exact hp | refine br_t (by decide) ?_ | refine br_f (by decide) ?_)
  · rw [e3] at hp
    repeat (first | exact hp | refine br_t (by decide) ?_ | refine br_f (by decide) ?_)
  · rw [e4] at hp
    repeat (first | exact hp | refine br_t (by decide) ?_ | refine br_f (by decide) ?_)
  · rw [e5] at hp
    repeat (first | exact hp | refine br_t (by decide) ?_ | refine br_f (by decide) ?_)
theorem rb_ifi {b : Bool} {P : Int32 → Prop} (h : P (rb_i b)) : (rb_i b = 1 → P 1) ∧ (¬ rb_i b = 1 → P 0) := by
  cases b
  · exact ⟨fun z => absurd z (by decide), fun _ => h⟩
  · exact ⟨fun _ => h, fun z => absurd rfl z⟩
theorem rj_loopY {s : Nat} (hs : s < 6) (F : Int32) (S : Nat → Int64) (h2 : vp_in (F - 2) 12) (h1 : vp_in (F - 1) 12) {post : Int32 → SY → Prop}
    (hp : ∀ f : Int32, f = F - 1 → (vp_in (f - 1) 12 ∧ ∀ b : Nat → Int64, b = vp_updL S (f - 1).toNatClampNeg (rj_f s (S (F - 2).toNatClampNeg) (S (F - 1).toNatClampNeg)) → post f (f, b))) :
    ∀ d a, a + d = 64 → wY_join_24 post (nI s) F S (d + 1) (rs_f (fun a => rj_c s (rb_t (S (F - 2).toNatClampNeg) a) (rb_t (S (F - 1).toNatClampNeg) a)) a) (nI a) := by
  intro d
  induction d with
  | zero =>
    intro a h
    obtain rfl : a = 64 := by omega
    exact pk_le 64 64 (fun _ => hp) (fun h => absurd h (by omega))
  | succ d ih =>
    intro a h
    refine pk_le 64 a (fun z => absurd z (by omega)) (fun _ => ⟨h2, ?_⟩)
    refine rb_bitY _ (by omega) ?_
    have I := ih (a + 1) (by omega)
    refine rb_ifi (P := fun z => wY_join_56 post (wY_join_24 post (nI s) F S (d + 1)) (nI s) (rs_f (fun a => rj_c s (rb_t (S (F - 2).toNatClampNeg) a) (rb_t (S (F - 1).toNatClampNeg) a)) a) (nI a) z F S) ?_
    refine And.intro h1 ?_
    refine rb_bitY _ (by omega) ?_
    refine rb_ifi (P := fun z => wY_join_83 post (wY_join_24 post (nI s) F S (d + 1)) (nI s) (rs_f (fun a => rj_c s (rb_t (S (F - 2).toNatClampNeg) a) (rb_t (S (F - 1).toNatClampNeg) a)) a) (nI a) (rb_i (rb_t (S (F - 2).toNatClampNeg) a)) z F S) ?_
    unfold wY_join_83
    refine rj_Y hs _ _ ?_
    refine rb_if0 (fun hb => ?_) (fun hb => ?_)
    · rw [rs_n (fun a => rj_c s (rb_t (S (F - 2).toNatClampNeg) a) (rb_t (S (F - 1).toNatClampNeg) a)) hb] at I
      exact nm_r (nI_1 a) I
    · exact nm_r (rs_t (fun a => rj_c s (rb_t (S (F - 2).toNatClampNeg) a) (rb_t (S (F - 1).toNatClampNeg) a)) hb).symm (nm_r (nI_1 a) I)
/-! replace: x on top, y below -/
def rr_p (a v : Nat) (b : Bool) : Nat := if b = a.testBit v then a else if b = true then 2 ^ v + a else a - 2 ^ v
theorem rr_tab : ∀ a, a < 64 → ∀ v, v < 6 → ∀ b : Bool, ((nI a &&& (((1 : Int32) <<< (nI v &&& 31)) ^^^ (-1))) ||| (rb_i b <<< (nI v &&& 31))) = nI (rr_p a v b) ∧ rr_p a v b < 64 := by decide +kernel
def rr_c (v : Nat) (x y : Int64) : Nat → Bool := fun a => rb_t x (rr_p a v (rb_t y a))
theorem rr_loopY {v : Nat} (hv : v < 6) (x y : Int64) (F : Int32) (S : Nat → Int64) {post : Int32 → SY → Prop}
    (hp : ∀ f : Int32, f = F - 1 → (vp_in (f - 1) 12 ∧ ∀ b : Nat → Int64, b = vp_updL S (f - 1).toNatClampNeg (rs_f (rr_c v x y) 64) → post f (f, b))) :
    ∀ d a, a + d = 64 → wY_replace_50 post (nI v) x y F S (d + 1) (rs_f (rr_c v x y) a) (nI a) := by
  intro d
  induction d with
  | zero =>
    intro a h
    obtain rfl : a = 64 := by omega
    exact pk_le 64 64 (fun _ => hp) (fun h => absurd h (by omega))
  | succ d ih =>
    intro a h
    refine pk_le 64 a (fun z => absurd z (by omega)) (fun _ => ?_)
    refine rb_bitY _ (by omega) ?_
    have T := rr_tab a (by omega) v hv (rb_t y a)
    have I := ih (a + 1) (by omega)
    refine nm_r T.1 ?_
    refine rb_bitY _ T.2 ?_
    refine rb_if (fun hb => ?_) (fun hb => ?_)
    · exact nm_r (rs_t (rr_c v x y) hb).symm (nm_r (nI_1 a) I)
    · rw [rs_n (rr_c v x y) hb] at I
      exact nm_r (nI_1 a) I
def rr_1 (x : Int64) (v : Nat) : Int64 := (x &&& rs_v v) ||| (((x &&& rs_v v).toUInt64 >>> ((nI (2 ^ v)).toInt64.toUInt64 &&& Int64.toUInt64 63)).toInt64)
def rr_0 (x : Int64) (v : Nat) : Int64 := (x &&& (rs_v v ^^^ (-1))) ||| ((x &&& (rs_v v ^^^ (-1))) <<< ((nI (2 ^ v)).toInt64 &&& 63))
theorem rr_X1 {post : Int64 → Prop} {v : Nat} (hv : v < 6) (x : Int64) (hp : post (rr_1 x v)) : wpX_valuesWithVariableOne post x (nI v) := by
  unfold wpX_valuesWithVariableOne
  refine rs_X hv ?_
  refine nm_e ?_
  rw [rm_2 v hv]
  exact hp
theorem rr_X0 {post : Int64 → Prop} {v : Nat} (hv : v < 6) (x : Int64) (hp : post (rr_0 x v)) : wpX_valuesWithVariableZero post x (nI v) := by
  unfold wpX_valuesWithVariableZero
  refine rs_X hv ?_
  refine nm_e ?_
  rw [rm_2 v hv]
  exact hp
theorem rr_t1 : ∀ a, a < 64 → ∀ v, v < 6 → (a.testBit v = false → 2 ^ v + a < 64 ∧ (2 ^ v + a).testBit v = true) ∧ (a.testBit v = true → (2 ^ v + a).testBit v = false) := by decide +kernel
theorem rr_t0 : ∀ a, a < 64 → ∀ v, v < 6 → (a.testBit v = false → 2 ^ v ≤ a → (a - 2 ^ v).testBit v = true) ∧ (a.testBit v = true → 2 ^ v ≤ a ∧ (a - 2 ^ v).testBit v = false) := by decide +kernel
theorem rr_b1 {v : Nat} (hv : v < 6) (x : Int64) {a : Nat} (ha : a < 64) : rb_t (rr_1 x v) a = rb_t x (rr_p a v true) := by
  unfold rr_1
  rw [rb_or, rb_ushr (2 ^ v) (rm_p hv), rb_and, rb_and, rs_vb v ha]
  have T := rr_t1 a ha v hv
  cases hb : a.testBit v
  · have e : rr_p a v true = 2 ^ v + a := by unfold rr_p; rw [hb]; rfl
    obtain ⟨t1, t2⟩ := T.1 hb
    rw [e, rs_vb v t1, t2, Bool.and_false, Bool.false_or, Bool.and_true]
  · have e : rr_p a v true = a := by unfold rr_p; rw [hb]; rfl
    have t := T.2 hb
    have z : rb_t (rs_v v) (2 ^ v + a) = false := by
      rcases Nat.lt_or_ge (2 ^ v + a) 64 with g | g
      · rw [rs_vb v g, t]
      · exact rb_big g
    rw [e, z, Bool.and_true, Bool.and_false, Bool.or_false]
theorem rr_b0 {v : Nat} (hv : v < 6) (x : Int64) {a : Nat} (ha : a < 64) : rb_t (rr_0 x v) a = rb_t x (rr_p a v false) := by
  have hl : a - 2 ^ v < 64 := Nat.lt_of_le_of_lt (Nat.sub_le _ _) ha
  unfold rr_0
  rw [rb_or, rb_shl (2 ^ v) (rm_p hv) _ ha, rb_and, rb_and, rb_not _ ha, rb_not _ hl, rs_vb v ha, rs_vb v hl]
  have T := rr_t0 a ha v hv
  cases hb : a.testBit v
  · have e : rr_p a v false = a := by unfold rr_p; rw [hb]; rfl
    have z : (decide (2 ^ v ≤ a) && (rb_t x (a - 2 ^ v) && !(a - 2 ^ v).testBit v)) = false := by
      by_cases g : 2 ^ v ≤ a
      · rw [T.1 hb g, Bool.not_true, Bool.and_false, Bool.and_false]
      · rw [decide_eq_false g, Bool.false_and]
    rw [e, z, Bool.not_false, Bool.and_true, Bool.or_false]
  · have e : rr_p a v false = a - 2 ^ v := by unfold rr_p; rw [hb]; rfl
    obtain ⟨t1, t2⟩ := T.2 hb
    rw [e, t2, decide_eq_true t1, Bool.not_true, Bool.and_false, Bool.false_or, Bool.true_and, Bool.not_false, Bool.and_true]
theorem rr_eq {v : Nat} (hv : v < 6) (x y : Int64) : (y &&& rr_1 x v) ||| ((y ^^^ (-1)) &&& rr_0 x v) = rs_f (rr_c v x y) 64 := by
  refine (rs_eq (fun i hi => ?_)).symm
  rw [rb_or, rb_and, rb_and, rb_not _ hi, rr_b1 hv x hi, rr_b0 hv x hi]
  show rb_t x (rr_p i v (rb_t y i)) = _
  cases rb_t y i
  · rw [Bool.false_and, Bool.not_false, Bool.true_and, Bool.false_or]
  · rw [Bool.true_and, Bool.not_true, Bool.false_and, Bool.or_false]
/-! small methods -/
theorem rv_s2 (m : Nat) : nI (m + 2) - 2 = nI m := pk_sub (a := m + 2) (b := 2) (by omega)
theorem rv_top {m : Nat} (hm : m + 2 ≤ 12) (S : Nat → Int64) (x : Int64) {post : Int32 → SX → Prop} (hp : post (nI (m + 1)) (nI (m + 1), vp_updL S m x)) : ∀ f : Int32, f = nI (m + 2) - 1 → (vp_in (f - 1) 12 ∧ ∀ b : Nat → Int64, b = vp_updL S (f - 1).toNatClampNeg x → post f (f, b)) :=
  nm_r (nI_pred (m + 1)) ⟨pk_in m 12 (by omega) (nI_pred m), nm_r (congrArg (fun j => vp_updL S j x) (pk_cl m (nI_pred m))) hp⟩
theorem rv_vXn {post : Int32 → Prop} {j : Nat} (h : 6 ≤ j) (hj : j < 2 ^ 31) (hp : post 0) : wpX_isVariable post (nI j) :=
  br_f (nI_pos hj) (pk_le 6 j (fun _ => hp) (fun z => absurd z (by omega)))
theorem rv_vXy {post : Int32 → Prop} {j : Nat} (h : j < 6) (hp : post 1) : wpX_isVariable post (nI j) :=
  br_f (nI_pos (by omega)) (pk_le 6 j (fun z => absurd z (by omega)) (fun _ => hp))
theorem rv_fXn {post : Int32 → Prop} {n j : Nat} (s : Nat → Int64) (hn : n ≤ 12) (h : n ≤ j) (hj : j < 2 ^ 31) (hp : post 0) : wpX_isFormula post (nI n, s) (nI j) :=
  br_f (nI_pos hj) (pk_le n j (fun _ => hp) (fun z => absurd z (by omega)))
theorem rv_fXy {post : Int32 → Prop} {n j : Nat} (s : Nat → Int64) (hn : n ≤ 12) (h : j < n) (hp : post 1) : wpX_isFormula post (nI n, s) (nI j) :=
  br_f (nI_pos (by omega)) (pk_le n j (fun z => absurd z (by omega)) (fun _ => hp))
theorem rv_fYn {post : Int32 → Prop} {n j : Nat} (s : Nat → Int64) (hn : n ≤ 12) (h : n ≤ j) (hj : j < 2 ^ 31) (hp : post 1) : wpY_missing post (nI n, s) (nI j) :=
  br_f (nI_pos hj) (pk_lt j n (fun z => absurd z (by omega)) (fun _ => hp))
theorem rv_fYy {post : Int32 → Prop} {n j : Nat} (s : Nat → Int64) (hn : n ≤ 12) (h : j < n) (hp : post 0) : wpY_missing post (nI n, s) (nI j) :=
  br_f (nI_pos (by omega)) (pk_lt j n (fun _ => hp) (fun z => absurd z (by omega)))
theorem rv_ix {n j : Nat} (h : j < n) : nI n - 1 - nI j = nI (n - 1 - j) := by
  have e : nI n - 1 = nI (n - 1) := pk_sub (b := 1) (by omega)
  rw [e, pk_sub (by omega)]
theorem rv_in {n j : Nat} (hn : n ≤ 12) (h : j < n) : vp_in (nI n - 1 - nI j) 12 := pk_in (n - 1 - j) 12 (by omega) (rv_ix h)
theorem rv_gX {post : Int64 → Prop} {n j : Nat} (s : Nat → Int64) (hn : n ≤ 12) (h : j < n) (hp : post (s (nI n - 1 - nI j).toNatClampNeg)) : wpX_valuesOfFormula post (nI n, s) (nI j) := ⟨rv_in hn h, hp⟩
theorem rv_pX {post : Int64 → Prop} {n j : Nat} (s : Nat → Int64) (hn : n ≤ 12) (h : j < n) (hp : post (rm_f (s (nI n - 1 - nI j).toNatClampNeg) 6)) : wpX_productsOfFormula post (nI n, s) (nI j) := by
  unfold wpX_productsOfFormula
  dsimp only
  refine rv_gX s hn h ?_
  exact ⟨7, rm_loopX _ _ _ hp 6 0 rfl⟩
theorem rv_pY {post : Int64 → Prop} {n j : Nat} (s : Nat → Int64) (hn : n ≤ 12) (h : j < n) (hp : post (rm_f (s (nI n - 1 - nI j).toNatClampNeg) 6)) : wpY_found post (nI n, s) (nI j) := by
  unfold wpY_found
  dsimp only
  exact ⟨rv_in hn h, rp_Y _ hp⟩
end
section
/-! one answer and one next state for both sides -/
def rz_ok (t : SX) : Prop := ∃ n S, n ≤ 12 ∧ t = (nI n, S)
theorem rz_mk {n : Nat} (hn : n ≤ 12) (S : Nat → Int64) : rz_ok (nI n, S) := ⟨n, S, hn, rfl⟩
theorem rz_variable {n : Nat} (hn : n ≤ 12) (S : Nat → Int64) (k : Int32) : ∃ r t, rz_ok t ∧ (∀ post : Int32 → SX → Prop, post r t → wpX_variable post (nI n, S) k) ∧ (∀ post : Int32 → SY → Prop, post r t → wpY_variable post (nI n, S) k) := by
  by_cases h0 : k < 0
  · refine ⟨-1, (nI n, S), rz_mk hn S, fun post hp => ?_, fun post hp => br_t h0 hp⟩
    unfold wpX_variable
    dsimp only
    exact br_t h0 (br_t rfl hp)
  · obtain ⟨j, hj, rfl⟩ := nI_of h0
    by_cases h6 : j < 6
    · by_cases hl : n < 12
      · refine ⟨nI (n + 1), (nI (n + 1), vp_updL S n (rs_v j)), rz_mk (by omega) _, fun post hp => ?_, fun post hp => ?_⟩
        · unfold wpX_variable
          dsimp only
          refine rv_vXy h6 ?_
          refine br_f (by decide) ?_
          refine rs_X h6 ?_
          exact rv_pushX hn S _ (fun _ => hp) (fun z => absurd z (by omega))
        · exact br_f h0 (pk_le j 5 (fun _ => ⟨65, rs_loopY h6 hn S (fun _ => hp) (fun z => absurd z (by omega)) 64 0 rfl⟩) (fun z => absurd z (by omega)))
      · refine ⟨-1, (nI n, S), rz_mk hn S, fun post hp => ?_, fun post hp => ?_⟩
        · unfold wpX_variable
          dsimp only
          refine rv_vXy h6 ?_
          refine br_f (by decide) ?_
          refine rs_X h6 ?_
          exact rv_pushX hn S _ (fun z => absurd z hl) (fun _ => hp)
        · exact br_f h0 (pk_le j 5 (fun _ => ⟨65, rs_loopY h6 hn S (fun z => absurd z hl) (fun _ => hp) 64 0 rfl⟩) (fun z => absurd z (by omega)))
    · refine ⟨-1, (nI n, S), rz_mk hn S, fun post hp => ?_, fun post hp => br_f h0 (pk_le j 5 (fun z => absurd z (by omega)) (fun _ => hp))⟩
      unfold wpX_variable
      dsimp only
      refine rv_vXn (by omega) hj ?_
      exact br_t rfl hp
theorem rz_push {n : Nat} (hn : n ≤ 12) (S : Nat → Int64) (x : Int64) : ∃ (r : Int32) (m : Nat) (T : Nat → Int64), m ≤ 12 ∧ (∀ post : Int32 → SX → Prop, post r (nI m, T) → wpX_push post (nI n, S) x) ∧ (∀ post : Int32 → SY → Prop, post r (nI m, T) → wpY_push post (nI n, S) x) := by
  by_cases hl : n < 12
  · exact ⟨nI (n + 1), n + 1, vp_updL S n x, by omega, fun post hp => rv_pushX hn S x (fun _ => hp) (fun z => absurd z (by omega)), fun post hp => rv_pushY hn S x (fun _ => hp) (fun z => absurd z (by omega))⟩
  · exact ⟨-1, n, S, hn, fun post hp => rv_pushX hn S x (fun z => absurd z hl) (fun _ => hp), fun post hp => rv_pushY hn S x (fun z => absurd z hl) (fun _ => hp)⟩
theorem rz_constant {n : Nat} (hn : n ≤ 12) (S : Nat → Int64) (k : Int32) : ∃ r t, rz_ok t ∧ (∀ post : Int32 → SX → Prop, post r t → wpX_constant post (nI n, S) k) ∧ (∀ post : Int32 → SY → Prop, post r t → wpY_constant post (nI n, S) k) := by
  by_cases h : (k &&& 1) = 1
  · obtain ⟨r, m, T, hm, hX, hY⟩ := rz_push hn S (-1)
    exact ⟨r, (nI m, T), rz_mk hm T, fun post hp => br_t h (hX _ hp), fun post hp => br_t h (hY _ hp)⟩
  · obtain ⟨r, m, T, hm, hX, hY⟩ := rz_push hn S 0
    exact ⟨r, (nI m, T), rz_mk hm T, fun post hp => br_f h (hX _ hp), fun post hp => br_f h (hY _ hp)⟩
theorem rz_join {n : Nat} (hn : n ≤ 12) (S : Nat → Int64) (k : Int32) : ∃ r t, rz_ok t ∧ (∀ post : Int32 → SX → Prop, post r t → wpX_join post (nI n, S) k) ∧ (∀ post : Int32 → SY → Prop, post r t → wpY_join post (nI n, S) k) := by
  by_cases h2 : n < 2
  · exact ⟨-1, (nI n, S), rz_mk hn S, fun post hp => pk_lt n 2 (fun _ => hp) (fun z => absurd z (by omega)), fun post hp => pk_lt n 2 (fun _ => hp) (fun z => absurd z (by omega))⟩
  · obtain ⟨m, rfl⟩ : ∃ m, n = m + 2 := ⟨n - 2, by omega⟩
    by_cases h0 : k < 0
    · exact ⟨-1, (nI (m + 2), S), rz_mk hn S, fun post hp => pk_lt (m + 2) 2 (fun z => absurd z h2) (fun _ => br_t h0 hp), fun post hp => pk_lt (m + 2) 2 (fun z => absurd z h2) (fun _ => br_t h0 hp)⟩
    · obtain ⟨j, hj, rfl⟩ := nI_of h0
      by_cases h5 : j ≤ 5
      · have i2 : vp_in (nI (m + 2) - 2) 12 := pk_in m 12 (by omega) (rv_s2 m)
        have i1 : vp_in (nI (m + 2) - 1) 12 := pk_in (m + 1) 12 (by omega) (nI_pred (m + 1))
        refine ⟨nI (m + 1), (nI (m + 1), vp_updL S m (rj_f j (S (nI (m + 2) - 2).toNatClampNeg) (S (nI (m + 2) - 1).toNatClampNeg))), rz_mk (by omega) _, fun post hp => ?_, fun post hp => ?_⟩
        · refine pk_lt (m + 2) 2 (fun z => absurd z h2) (fun _ => br_f h0 (pk_le j 5 (fun _ => ⟨i2, i1, ?_⟩) (fun z => absurd z (by omega))))
          refine rj_X (by omega) _ _ ?_
          exact rv_top hn S _ hp
        · refine pk_lt (m + 2) 2 (fun z => absurd z h2) (fun _ => br_f h0 (pk_le j 5 (fun _ => ⟨65, ?_⟩) (fun z => absurd z (by omega))))
          exact rj_loopY (by omega) _ _ i2 i1 (rv_top hn S _ hp) 64 0 rfl
      · exact ⟨-1, (nI (m + 2), S), rz_mk hn S, fun post hp => pk_lt (m + 2) 2 (fun z => absurd z h2) (fun _ => br_f h0 (pk_le j 5 (fun z => absurd z h5) (fun _ => hp))), fun post hp => pk_lt (m + 2) 2 (fun z => absurd z h2) (fun _ => br_f h0 (pk_le j 5 (fun z => absurd z h5) (fun _ => hp)))⟩
theorem rz_not {n : Nat} (hn : n ≤ 12) (S : Nat → Int64) : ∃ r t, rz_ok t ∧ (∀ post : Int32 → SX → Prop, post r t → wpX_not post (nI n, S)) ∧ (∀ post : Int32 → SY → Prop, post r t → wpY_not post (nI n, S)) := by
  cases n with
  | zero => exact ⟨-1, (nI 0, S), rz_mk hn S, fun post hp => pk_le 1 0 (fun z => absurd z (by omega)) (fun _ => hp), fun post hp => pk_eq 0 0 (fun _ => hp) (fun z => absurd rfl z)⟩
  | succ m =>
    have i1 : vp_in (nI (m + 1) - 1) 12 := pk_in m 12 (by omega) (nI_pred m)
    exact ⟨0, (nI (m + 1), vp_updL S (nI (m + 1) - 1).toNatClampNeg ((S (nI (m + 1) - 1).toNatClampNeg) ^^^ (-1))), rz_mk hn _, fun post hp => pk_le 1 (m + 1) (fun _ => ⟨i1, i1, nm_e hp⟩) (fun z => absurd z (by omega)), fun post hp => pk_eq (m + 1) 0 (fun z => absurd z (by omega)) (fun _ => ⟨i1, i1, nm_e hp⟩)⟩
theorem rz_copy {n : Nat} (hn : n ≤ 12) (S : Nat → Int64) (k : Int32) : ∃ r t, rz_ok t ∧ (∀ post : Int32 → SX → Prop, post r t → wpX_copy post (nI n, S) k) ∧ (∀ post : Int32 → SY → Prop, post r t → wpY_copy post (nI n, S) k) := by
  by_cases h0 : k < 0
  · refine ⟨-1, (nI n, S), rz_mk hn S, fun post hp => ?_, fun post hp => ?_⟩
    · unfold wpX_copy
      dsimp only
      exact br_t h0 (br_t rfl hp)
    · unfold wpY_copy
      dsimp only
      exact br_t h0 (br_f (by decide) hp)
  · obtain ⟨j, hj, rfl⟩ := nI_of h0
    by_cases hl : j < n
    · obtain ⟨r, m, T, hm, hX, hY⟩ := rz_push hn S (S (nI n - 1 - nI j).toNatClampNeg)
      refine ⟨r, (nI m, T), rz_mk hm T, fun post hp => ?_, fun post hp => ?_⟩
      · unfold wpX_copy
        dsimp only
        refine rv_fXy S hn hl ?_
        refine br_f (by decide) ?_
        refine rv_gX S hn hl ?_
        exact hX _ hp
      · unfold wpY_copy
        dsimp only
        refine rv_fYy S hn hl ?_
        exact br_t rfl ⟨rv_in hn hl, hY _ hp⟩
    · refine ⟨-1, (nI n, S), rz_mk hn S, fun post hp => ?_, fun post hp => ?_⟩
      · unfold wpX_copy
        dsimp only
        refine rv_fXn S hn (by omega) hj ?_
        exact br_t rfl hp
      · unfold wpY_copy
        dsimp only
        refine rv_fYn S hn (by omega) hj ?_
        exact br_f (by decide) hp
theorem rz_drop {n : Nat} (hn : n ≤ 12) (S : Nat → Int64) : ∃ r t, rz_ok t ∧ (∀ post : Int32 → SX → Prop, post r t → wpX_drop post (nI n, S)) ∧ (∀ post : Int32 → SY → Prop, post r t → wpY_drop post (nI n, S)) := by
  cases n with
  | zero => exact ⟨-1, (nI 0, S), rz_mk hn S, fun post hp => pk_le 1 0 (fun z => absurd z (by omega)) (fun _ => hp), fun post hp => pk_eq 0 0 (fun _ => hp) (fun z => absurd rfl z)⟩
  | succ m => exact ⟨nI m, (nI m, S), rz_mk (by omega) S, fun post hp => pk_le 1 (m + 1) (fun _ => nm_r (nI_pred m) hp) (fun z => absurd z (by omega)), fun post hp => pk_eq (m + 1) 0 (fun z => absurd z (by omega)) (fun _ => nm_r (nI_pred m) hp)⟩
theorem rz_replace {n : Nat} (hn : n ≤ 12) (S : Nat → Int64) (k : Int32) : ∃ r t, rz_ok t ∧ (∀ post : Int32 → SX → Prop, post r t → wpX_replace post (nI n, S) k) ∧ (∀ post : Int32 → SY → Prop, post r t → wpY_replace post (nI n, S) k) := by
  by_cases h2 : n < 2
  · exact ⟨-1, (nI n, S), rz_mk hn S, fun post hp => pk_lt n 2 (fun _ => hp) (fun z => absurd z (by omega)), fun post hp => pk_lt n 2 (fun _ => hp) (fun z => absurd z (by omega))⟩
  · obtain ⟨m, rfl⟩ : ∃ m, n = m + 2 := ⟨n - 2, by omega⟩
    by_cases h0 : k < 0
    · refine ⟨-1, (nI (m + 2), S), rz_mk hn S, fun post hp => pk_lt (m + 2) 2 (fun z => absurd z h2) (fun _ => ?_), fun post hp => pk_lt (m + 2) 2 (fun z => absurd z h2) (fun _ => br_t h0 hp)⟩
      exact br_t h0 (br_t rfl hp)
    · obtain ⟨j, hj, rfl⟩ := nI_of h0
      by_cases h6 : j < 6
      · have i2 : vp_in (nI (m + 2) - 2) 12 := pk_in m 12 (by omega) (rv_s2 m)
        have i1 : vp_in (nI (m + 2) - 1) 12 := pk_in (m + 1) 12 (by omega) (nI_pred (m + 1))
        refine ⟨nI (m + 1), (nI (m + 1), vp_updL S m (rs_f (rr_c j (S (nI (m + 2) - 1).toNatClampNeg) (S (nI (m + 2) - 2).toNatClampNeg)) 64)), rz_mk (by omega) _, fun post hp => ?_, fun post hp => ?_⟩
        · refine pk_lt (m + 2) 2 (fun z => absurd z h2) (fun _ => ?_)
          refine rv_vXy h6 ?_
          refine br_f (by decide) ⟨i2, nm_e ⟨i1, nm_e ?_⟩⟩
          refine rr_X1 h6 _ ?_
          refine rr_X0 h6 _ ?_
          rw [rr_eq h6]
          exact rv_top hn S _ hp
        · refine pk_lt (m + 2) 2 (fun z => absurd z h2) (fun _ => br_f h0 (pk_le j 5 (fun _ => ⟨i1, nm_e ⟨i2, nm_e ⟨65, ?_⟩⟩⟩) (fun z => absurd z (by omega))))
          exact rr_loopY h6 _ _ _ _ (rv_top hn S _ hp) 64 0 rfl
      · refine ⟨-1, (nI (m + 2), S), rz_mk hn S, fun post hp => pk_lt (m + 2) 2 (fun z => absurd z h2) (fun _ => ?_), fun post hp => pk_lt (m + 2) 2 (fun z => absurd z h2) (fun _ => br_f h0 (pk_le j 5 (fun z => absurd z (by omega)) (fun _ => hp)))⟩
        refine rv_vXn (by omega) hj ?_
        exact br_t rfl hp
end
section
theorem rz_products {n : Nat} (hn : n ≤ 12) (S : Nat → Int64) (k : Int32) : ∃ r, (∀ post : Int32 → Prop, post r → wpX_products post (nI n, S) k) ∧ (∀ post : Int32 → Prop, post r → wpY_products post (nI n, S) k) := by
  unfold wpX_products wpY_products
  dsimp only
  by_cases h0 : k < 0
  · exact ⟨-1, fun post hp => br_t h0 (br_t rfl hp), fun post hp => br_t h0 (br_f (by decide) hp)⟩
  · obtain ⟨j, hj, rfl⟩ := nI_of h0
    by_cases hl : j < n
    · refine ⟨rc_f (rm_f (S (nI n - 1 - nI j).toNatClampNeg) 6) 64, fun post hp => ?_, fun post hp => ?_⟩
      · refine rv_fXy S hn hl ?_
        refine br_f (by decide) ?_
        refine rv_pX S hn hl ?_
        exact rc_X _ hp
      · refine rv_fYy S hn hl ?_
        refine br_t rfl ?_
        refine rv_pY S hn hl ?_
        exact rc_Y _ hp
    · refine ⟨-1, fun post hp => ?_, fun post hp => ?_⟩
      · refine rv_fXn S hn (by omega) hj ?_
        exact br_t rfl hp
      · refine rv_fYn S hn (by omega) hj ?_
        exact br_f (by decide) hp
theorem rz_has {n : Nat} (hn : n ≤ 12) (S : Nat → Int64) (k p : Int32) : ∃ r, (∀ post : Int32 → Prop, post r → wpX_has post (nI n, S) k p) ∧ (∀ post : Int32 → Prop, post r → wpY_has post (nI n, S) k p) := by
  unfold wpX_has wpY_has
  dsimp only
  by_cases h0 : k < 0
  · exact ⟨-1, fun post hp => br_t h0 (br_t rfl hp), fun post hp => br_t h0 (br_f (by decide) hp)⟩
  · obtain ⟨j, hj, rfl⟩ := nI_of h0
    by_cases hl : j < n
    · by_cases p0 : p < 0
      · refine ⟨-1, fun post hp => ?_, fun post hp => ?_⟩
        · refine rv_fXy S hn hl ?_
          exact br_f (by decide) (br_t p0 hp)
        · refine rv_fYy S hn hl ?_
          exact br_t rfl (br_t p0 hp)
      · obtain ⟨q, hq, rfl⟩ := nI_of p0
        by_cases h63 : q < 64
        · refine ⟨rb_i (rb_t (rm_f (S (nI n - 1 - nI j).toNatClampNeg) 6) q), fun post hp => ?_, fun post hp => ?_⟩
          · refine rv_fXy S hn hl ?_
            refine br_f (by decide) (br_f p0 (pk_lt q 64 (fun _ => ?_) (fun z => absurd z (by omega))))
            refine rv_pX S hn hl ?_
            exact rb_bitX _ h63 hp
          · refine rv_fYy S hn hl ?_
            refine br_t rfl (br_f p0 (pk_le q 63 (fun _ => ?_) (fun z => absurd z (by omega))))
            refine rv_pY S hn hl ?_
            exact rb_bitY _ h63 hp
        · refine ⟨-1, fun post hp => ?_, fun post hp => ?_⟩
          · refine rv_fXy S hn hl ?_
            exact br_f (by decide) (br_f p0 (pk_lt q 64 (fun z => absurd z h63) (fun _ => hp)))
          · refine rv_fYy S hn hl ?_
            exact br_t rfl (br_f p0 (pk_le q 63 (fun z => absurd z (by omega)) (fun _ => hp)))
    · refine ⟨-1, fun post hp => ?_, fun post hp => ?_⟩
      · refine rv_fXn S hn (by omega) hj ?_
        exact br_t rfl hp
      · refine rv_fYn S hn (by omega) hj ?_
        exact br_f (by decide) hp
theorem rz_degree {n : Nat} (hn : n ≤ 12) (S : Nat → Int64) (k : Int32) : ∃ r, (∀ post : Int32 → Prop, post r → wpX_degree post (nI n, S) k) ∧ (∀ post : Int32 → Prop, post r → wpY_degree post (nI n, S) k) := by
  unfold wpX_degree wpY_degree
  dsimp only
  by_cases h0 : k < 0
  · exact ⟨-1, fun post hp => br_t h0 (br_t rfl hp), fun post hp => br_t h0 (br_f (by decide) hp)⟩
  · obtain ⟨j, hj, rfl⟩ := nI_of h0
    by_cases hl : j < n
    · refine ⟨rd_f (rm_f (S (nI n - 1 - nI j).toNatClampNeg) 6) 64, fun post hp => ?_, fun post hp => ?_⟩
      · refine rv_fXy S hn hl ?_
        refine br_f (by decide) ?_
        refine rv_pX S hn hl ?_
        exact ⟨65, rd_loopX _ _ _ hp 64 0 rfl⟩
      · refine rv_fYy S hn hl ?_
        refine br_t rfl ?_
        refine rv_pY S hn hl ?_
        exact ⟨65, rd_loopY _ _ _ hp 64 0 rfl⟩
    · refine ⟨-1, fun post hp => ?_, fun post hp => ?_⟩
      · refine rv_fXn S hn (by omega) hj ?_
        exact br_t rfl hp
      · refine rv_fYn S hn (by omega) hj ?_
        exact br_f (by decide) hp
theorem rz_models {n : Nat} (hn : n ≤ 12) (S : Nat → Int64) (k : Int32) : ∃ r, (∀ post : Int32 → Prop, post r → wpX_models post (nI n, S) k) ∧ (∀ post : Int32 → Prop, post r → wpY_models post (nI n, S) k) := by
  unfold wpX_models wpY_models
  dsimp only
  by_cases h0 : k < 0
  · exact ⟨-1, fun post hp => br_t h0 (br_t rfl hp), fun post hp => br_t h0 (br_f (by decide) hp)⟩
  · obtain ⟨j, hj, rfl⟩ := nI_of h0
    by_cases hl : j < n
    · refine ⟨rc_f (S (nI n - 1 - nI j).toNatClampNeg) 64, fun post hp => ?_, fun post hp => ?_⟩
      · refine rv_fXy S hn hl ?_
        refine br_f (by decide) ?_
        refine rv_gX S hn hl ?_
        exact rc_X _ hp
      · refine rv_fYy S hn hl ?_
        exact br_t rfl ⟨rv_in hn hl, rc_Y _ hp⟩
    · refine ⟨-1, fun post hp => ?_, fun post hp => ?_⟩
      · refine rv_fXn S hn (by omega) hj ?_
        exact br_t rfl hp
      · refine rv_fYn S hn (by omega) hj ?_
        exact br_f (by decide) hp
theorem rz_differ {n : Nat} (hn : n ≤ 12) (S : Nat → Int64) (k l : Int32) : ∃ r, (∀ post : Int32 → Prop, post r → wpX_differ post (nI n, S) k l) ∧ (∀ post : Int32 → Prop, post r → wpY_differ post (nI n, S) k l) := by
  unfold wpX_differ wpY_differ
  dsimp only
  by_cases h0 : k < 0
  · exact ⟨-1, fun post hp => br_t h0 (br_t rfl hp), fun post hp => br_t h0 (br_f (by decide) hp)⟩
  · obtain ⟨j, hj, rfl⟩ := nI_of h0
    by_cases hl : j < n
    · by_cases l0 : l < 0
      · refine ⟨-1, fun post hp => ?_, fun post hp => ?_⟩
        · refine rv_fXy S hn hl ?_
          exact br_f (by decide) (br_t l0 (br_t rfl hp))
        · refine rv_fYy S hn hl ?_
          exact br_t rfl (br_t l0 (br_f (by decide) hp))
      · obtain ⟨q, hq, rfl⟩ := nI_of l0
        by_cases hm : q < n
        · refine ⟨rf_f (S (nI n - 1 - nI j).toNatClampNeg) (S (nI n - 1 - nI q).toNatClampNeg) 64 0, fun post hp => ?_, fun post hp => ?_⟩
          · refine rv_fXy S hn hl ?_
            refine br_f (by decide) ?_
            refine rv_fXy S hn hm ?_
            refine br_f (by decide) ?_
            refine rv_gX S hn hl ?_
            refine rv_gX S hn hm ?_
            exact nm_e ⟨65, rf_loopX _ _ _ _ 64 0 rfl hp⟩
          · refine rv_fYy S hn hl ?_
            refine br_t rfl ?_
            refine rv_fYy S hn hm ?_
            exact br_t rfl ⟨65, rf_loopY _ _ _ _ (rv_in hn hl) (rv_in hn hm) 64 0 rfl hp⟩
        · refine ⟨-1, fun post hp => ?_, fun post hp => ?_⟩
          · refine rv_fXy S hn hl ?_
            refine br_f (by decide) ?_
            refine rv_fXn S hn (by omega) hq ?_
            exact br_t rfl hp
          · refine rv_fYy S hn hl ?_
            refine br_t rfl ?_
            refine rv_fYn S hn (by omega) hq ?_
            exact br_f (by decide) hp
    · refine ⟨-1, fun post hp => ?_, fun post hp => ?_⟩
      · refine rv_fXn S hn (by omega) hj ?_
        exact br_t rfl hp
      · refine rv_fYn S hn (by omega) hj ?_
        exact br_f (by decide) hp
end
section
/-! what is owed: both states are the same, with at most twelve formulas in use -/
def i_Rel (k : Nat) (u : SX) (v : SY) : Prop := u = v ∧ rz_ok u
theorem i_up {k : Nat} {u : SX} {v : SY} (h : i_Rel k u v) : i_Rel (k + 3) u v := h
theorem i_vc0 : wpX_init (fun u => wpY_init (fun v => i_Rel 0 u v)) := ⟨rfl, 0, (fun _ => 0), by omega, rfl⟩
theorem i_vc_variable {k : Nat} {u : SX} {v : SY} (I : i_Rel k u v) (hk : k + 3 ≤ 1536) (v1 : Int32) : wpX_variable (fun r u' => wpY_variable (fun r' v' => r' = r ∧ i_Rel (k + 3) u' v') v v1) u v1 := by
  obtain ⟨rfl, n, S, hn, rfl⟩ := I
  obtain ⟨r, t, ht, hX, hY⟩ := rz_variable hn S v1
  exact hX _ (hY _ ⟨rfl, rfl, ht⟩)
theorem i_vc_constant {k : Nat} {u : SX} {v : SY} (I : i_Rel k u v) (hk : k + 3 ≤ 1536) (v1 : Int32) : wpX_constant (fun r u' => wpY_constant (fun r' v' => r' = r ∧ i_Rel (k + 3) u' v') v v1) u v1 := by
  obtain ⟨rfl, n, S, hn, rfl⟩ := I
  obtain ⟨r, t, ht, hX, hY⟩ := rz_constant hn S v1
  exact hX _ (hY _ ⟨rfl, rfl, ht⟩)
theorem i_vc_join {k : Nat} {u : SX} {v : SY} (I : i_Rel k u v) (hk : k + 3 ≤ 1536) (v1 : Int32) : wpX_join (fun r u' => wpY_join (fun r' v' => r' = r ∧ i_Rel (k + 3) u' v') v v1) u v1 := by
  obtain ⟨rfl, n, S, hn, rfl⟩ := I
  obtain ⟨r, t, ht, hX, hY⟩ := rz_join hn S v1
  exact hX _ (hY _ ⟨rfl, rfl, ht⟩)
theorem i_vc_not {k : Nat} {u : SX} {v : SY} (I : i_Rel k u v) (hk : k + 3 ≤ 1536) : wpX_not (fun r u' => wpY_not (fun r' v' => r' = r ∧ i_Rel (k + 3) u' v') v) u := by
  obtain ⟨rfl, n, S, hn, rfl⟩ := I
  obtain ⟨r, t, ht, hX, hY⟩ := rz_not hn S
  exact hX _ (hY _ ⟨rfl, rfl, ht⟩)
theorem i_vc_copy {k : Nat} {u : SX} {v : SY} (I : i_Rel k u v) (hk : k + 3 ≤ 1536) (v1 : Int32) : wpX_copy (fun r u' => wpY_copy (fun r' v' => r' = r ∧ i_Rel (k + 3) u' v') v v1) u v1 := by
  obtain ⟨rfl, n, S, hn, rfl⟩ := I
  obtain ⟨r, t, ht, hX, hY⟩ := rz_copy hn S v1
  exact hX _ (hY _ ⟨rfl, rfl, ht⟩)
theorem i_vc_drop {k : Nat} {u : SX} {v : SY} (I : i_Rel k u v) (hk : k + 3 ≤ 1536) : wpX_drop (fun r u' => wpY_drop (fun r' v' => r' = r ∧ i_Rel (k + 3) u' v') v) u := by
  obtain ⟨rfl, n, S, hn, rfl⟩ := I
  obtain ⟨r, t, ht, hX, hY⟩ := rz_drop hn S
  exact hX _ (hY _ ⟨rfl, rfl, ht⟩)
theorem i_vc_replace {k : Nat} {u : SX} {v : SY} (I : i_Rel k u v) (hk : k + 3 ≤ 1536) (v1 : Int32) : wpX_replace (fun r u' => wpY_replace (fun r' v' => r' = r ∧ i_Rel (k + 3) u' v') v v1) u v1 := by
  obtain ⟨rfl, n, S, hn, rfl⟩ := I
  obtain ⟨r, t, ht, hX, hY⟩ := rz_replace hn S v1
  exact hX _ (hY _ ⟨rfl, rfl, ht⟩)
theorem i_vc_products {k : Nat} {u : SX} {v : SY} (I : i_Rel k u v) (hk : k + 3 ≤ 1536) (v1 : Int32) : wpX_products (fun r => wpY_products (fun r' => r' = r ∧ i_Rel (k + 3) u v) v v1) u v1 := by
  obtain ⟨rfl, n, S, hn, rfl⟩ := I
  obtain ⟨r, hX, hY⟩ := rz_products hn S v1
  exact hX _ (hY _ ⟨rfl, rfl, n, S, hn, rfl⟩)
theorem i_vc_has {k : Nat} {u : SX} {v : SY} (I : i_Rel k u v) (hk : k + 3 ≤ 1536) (v1 : Int32) (v2 : Int32) : wpX_has (fun r => wpY_has (fun r' => r' = r ∧ i_Rel (k + 3) u v) v v1 v2) u v1 v2 := by
  obtain ⟨rfl, n, S, hn, rfl⟩ := I
  obtain ⟨r, hX, hY⟩ := rz_has hn S v1 v2
  exact hX _ (hY _ ⟨rfl, rfl, n, S, hn, rfl⟩)
theorem i_vc_degree {k : Nat} {u : SX} {v : SY} (I : i_Rel k u v) (hk : k + 3 ≤ 1536) (v1 : Int32) : wpX_degree (fun r => wpY_degree (fun r' => r' = r ∧ i_Rel (k + 3) u v) v v1) u v1 := by
  obtain ⟨rfl, n, S, hn, rfl⟩ := I
  obtain ⟨r, hX, hY⟩ := rz_degree hn S v1
  exact hX _ (hY _ ⟨rfl, rfl, n, S, hn, rfl⟩)
theorem i_vc_models {k : Nat} {u : SX} {v : SY} (I : i_Rel k u v) (hk : k + 3 ≤ 1536) (v1 : Int32) : wpX_models (fun r => wpY_models (fun r' => r' = r ∧ i_Rel (k + 3) u v) v v1) u v1 := by
  obtain ⟨rfl, n, S, hn, rfl⟩ := I
  obtain ⟨r, hX, hY⟩ := rz_models hn S v1
  exact hX _ (hY _ ⟨rfl, rfl, n, S, hn, rfl⟩)
theorem i_vc_differ {k : Nat} {u : SX} {v : SY} (I : i_Rel k u v) (hk : k + 3 ≤ 1536) (v1 : Int32) (v2 : Int32) : wpX_differ (fun r => wpY_differ (fun r' => r' = r ∧ i_Rel (k + 3) u v) v v1 v2) u v1 v2 := by
  obtain ⟨rfl, n, S, hn, rfl⟩ := I
  obtain ⟨r, hX, hY⟩ := rz_differ hn S v1 v2
  exact hX _ (hY _ ⟨rfl, rfl, n, S, hn, rfl⟩)
end
