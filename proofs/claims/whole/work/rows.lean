section
/-! rows taken from the rows to paste: pk_sub, pk_ix, pk_le, pk_lt, pk_eq, pk_in, pk_cl, nx_and -/
theorem pk_sub {a b : Nat} (h : b ≤ a) : nI a - nI b = nI (a - b) := by
  obtain ⟨c, rfl⟩ : ∃ c, a = c + b := ⟨a - b, by omega⟩
  rw [← nI_add, Int32.add_sub_cancel, Nat.add_sub_cancel]
theorem pk_ix (x : Int32) {n : Nat} (hn : n < 2 ^ 31) : x < 0 ∨ nI n ≤ x ∨ ∃ j : Nat, j < n ∧ x = nI j := by
  by_cases h : x < 0
  · exact Or.inl h
  · obtain ⟨j, hj, rfl⟩ := nI_of h
    by_cases h2 : j < n
    · exact Or.inr (Or.inr ⟨j, h2, rfl⟩)
    · exact Or.inr (Or.inl (nI_le (by omega) hj))
theorem pk_le {x y : Int32} {A B : Prop} (a b : Nat) (f : a ≤ b → A) (g : b < a → B) (hx : x = nI a := by rfl) (hy : y = nI b := by rfl) (ha : a < 2 ^ 31 := by omega) (hb : b < 2 ^ 31 := by omega) : (x ≤ y → A) ∧ (¬ x ≤ y → B) := by
  subst hx hy
  rw [nI_leI ha hb]
  exact ⟨f, fun z => g (by omega)⟩
theorem pk_lt {x y : Int32} {A B : Prop} (a b : Nat) (f : a < b → A) (g : b ≤ a → B) (hx : x = nI a := by rfl) (hy : y = nI b := by rfl) (ha : a < 2 ^ 31 := by omega) (hb : b < 2 ^ 31 := by omega) : (x < y → A) ∧ (¬ x < y → B) := by
  subst hx hy
  rw [nI_ltI ha hb]
  exact ⟨f, fun z => g (by omega)⟩
theorem pk_eq {x y : Int32} {A B : Prop} (a b : Nat) (f : a = b → A) (g : a ≠ b → B) (hx : x = nI a := by rfl) (hy : y = nI b := by rfl) (ha : a < 2 ^ 31 := by omega) (hb : b < 2 ^ 31 := by omega) : (x = y → A) ∧ (¬ x = y → B) := by
  subst hx hy
  rw [nI_eq ha hb]
  exact ⟨f, g⟩
theorem pk_in {x : Int32} (n N : Nat) (h : n < N) (hx : x = nI n := by rfl) (hN : N < 2 ^ 31 := by omega) : vp_in x N := by
  subst hx
  exact vp_in_nI h hN
theorem pk_cl {x : Int32} (n : Nat) (hx : x = nI n := by rfl) (h : n < 2 ^ 31 := by omega) : x.toNatClampNeg = n := by
  subst hx
  exact nI_clamp h
theorem nx_and (a b : Nat) : nI a &&& nI b = nI (a &&& b) := by
  apply Int32.toBitVec_inj.1
  show BitVec.ofNat 32 a &&& BitVec.ofNat 32 b = BitVec.ofNat 32 (a &&& b)
  apply BitVec.eq_of_getLsbD_eq
  intro i hi
  simp [hi]
/-! bits of a long -/
def rb_t (x : Int64) (a : Nat) : Bool := x.toBitVec.getLsbD a
def rb_i (b : Bool) : Int32 := if b then 1 else 0
theorem rb_ext {x y : Int64} (h : ∀ a, a < 64 → rb_t x a = rb_t y a) : x = y := Int64.toBitVec_inj.mp (BitVec.eq_of_getLsbD_eq (fun i hi => h i hi))
theorem rb_or (x y : Int64) (i : Nat) : rb_t (x ||| y) i = (rb_t x i || rb_t y i) := by unfold rb_t; rw [Int64.toBitVec_or, BitVec.getLsbD_or]
theorem rb_and (x y : Int64) (i : Nat) : rb_t (x &&& y) i = (rb_t x i && rb_t y i) := by unfold rb_t; rw [Int64.toBitVec_and, BitVec.getLsbD_and]
theorem rb_xor (x y : Int64) (i : Nat) : rb_t (x ^^^ y) i = (rb_t x i ^^ rb_t y i) := by unfold rb_t; rw [Int64.toBitVec_xor, BitVec.getLsbD_xor]
theorem rb_0 (i : Nat) : rb_t 0 i = false := BitVec.getLsbD_zero
theorem rb_big {x : Int64} {i : Nat} (h : 64 ≤ i) : rb_t x i = false := BitVec.getLsbD_of_ge _ _ h
theorem rb_m1 : ∀ i, i < 64 → rb_t (-1) i = true := by decide +kernel
theorem rb_1 : ∀ i, i < 64 → rb_t 1 i = decide (i = 0) := by decide +kernel
theorem rb_not (x : Int64) {i : Nat} (h : i < 64) : rb_t (x ^^^ (-1)) i = !rb_t x i := by rw [rb_xor, rb_m1 i h, Bool.xor_true]
theorem rb_sc : ∀ n, n < 64 → (((nI n).toInt64 &&& 63).toBitVec.smod 64).toNat = n := by decide +kernel
theorem rb_su : ∀ n, n < 64 → (((nI n).toInt64.toUInt64 &&& Int64.toUInt64 63).toBitVec % 64).toNat = n := by decide +kernel
theorem rb_shl (n : Nat) (hn : n < 64) (x : Int64) {i : Nat} (hi : i < 64) : rb_t (x <<< ((nI n).toInt64 &&& 63)) i = (decide (n ≤ i) && rb_t x (i - n)) := by
  unfold rb_t
  rw [Int64.toBitVec_shiftLeft]
  show (x.toBitVec <<< (((nI n).toInt64 &&& 63).toBitVec.smod 64).toNat).getLsbD i = _
  rw [rb_sc n hn, BitVec.getLsbD_shiftLeft]
  rcases Nat.lt_or_ge i n with h | h
  · simp [h, Nat.not_le.mpr h]
  · simp [hi, h, Nat.not_lt.mpr h]
theorem rb_ushr (n : Nat) (hn : n < 64) (x : Int64) (i : Nat) : rb_t ((x.toUInt64 >>> ((nI n).toInt64.toUInt64 &&& Int64.toUInt64 63)).toInt64) i = rb_t x (n + i) := by
  show (x.toUInt64 >>> ((nI n).toInt64.toUInt64 &&& Int64.toUInt64 63)).toBitVec.getLsbD i = x.toUInt64.toBitVec.getLsbD (n + i)
  rw [UInt64.toBitVec_shiftRight]
  show (x.toUInt64.toBitVec >>> (((nI n).toInt64.toUInt64 &&& Int64.toUInt64 63).toBitVec % 64).toNat).getLsbD i = _
  rw [rb_su n hn, BitVec.getLsbD_ushiftRight]
theorem rb_sshr (n : Nat) (hn : n < 64) (x : Int64) : rb_t (x >>> ((nI n).toInt64 &&& 63)) 0 = rb_t x n := by
  unfold rb_t
  rw [Int64.toBitVec_shiftRight]
  show (x.toBitVec.sshiftRight (((nI n).toInt64 &&& 63).toBitVec.smod 64).toNat).getLsbD 0 = _
  rw [rb_sc n hn, BitVec.getLsbD_sshiftRight]
  simp [hn]
theorem rb_one (a : Nat) (ha : a < 64) {i : Nat} (hi : i < 64) : rb_t ((1 : Int64) <<< ((nI a).toInt64 &&& 63)) i = decide (i = a) := by
  rw [rb_shl a ha _ hi, rb_1 (i - a) (by omega), Bool.eq_iff_iff, Bool.and_eq_true, decide_eq_true_iff, decide_eq_true_iff, decide_eq_true_iff]
  omega
theorem rb_x1 (y : Int64) : (y &&& 1).toInt32 = rb_i (rb_t y 0) := by
  have h : (y &&& 1) = if rb_t y 0 then 1 else 0 := by
    apply rb_ext
    intro i hi
    rw [rb_and, rb_1 i hi]
    by_cases e : i = 0
    · subst e
      cases hb : rb_t y 0
      · rfl
      · rfl
    · rw [decide_eq_false e, Bool.and_false]
      cases hb : rb_t y 0
      · exact (rb_0 i).symm
      · show false = rb_t 1 i
        rw [rb_1 i hi, decide_eq_false e]
  rw [h]
  cases rb_t y 0
  · rfl
  · rfl
theorem rb_y1 (z : Int32) : z &&& 1 = rb_i (z.toBitVec.getLsbD 0) := by
  apply Int32.toBitVec_inj.mp
  rw [Int32.toBitVec_and]
  show z.toBitVec &&& 1#32 = _
  rw [BitVec.and_one_eq_setWidth_ofBool_getLsbD]
  cases z.toBitVec.getLsbD 0
  · decide
  · decide
theorem rb_lo (x : Int64) : x.toInt32.toBitVec.getLsbD 0 = rb_t x 0 := by
  rw [Int64.toBitVec_toInt32, BitVec.getLsbD_signExtend]
  simp [rb_t]
theorem rb_X (x : Int64) {a : Nat} (h : a < 64) : ((x.toUInt64 >>> ((nI a).toInt64.toUInt64 &&& Int64.toUInt64 63)).toInt64 &&& 1).toInt32 = rb_i (rb_t x a) := by
  rw [rb_x1, rb_ushr a h, Nat.add_zero]
theorem rb_Y (x : Int64) {a : Nat} (h : a < 64) : ((x >>> ((nI a).toInt64 &&& 63)).toInt32 &&& 1) = rb_i (rb_t x a) := by
  rw [rb_y1, rb_lo, rb_sshr a h]
theorem rb_i1 (b : Bool) : rb_i b = 1 ↔ b = true := by cases b <;> decide
theorem rb_i0 (b : Bool) : rb_i b = 0 ↔ b = false := by cases b <;> decide
theorem rb_ii (b c : Bool) : rb_i b = rb_i c ↔ b = c := by cases b <;> cases c <;> decide
theorem rb_nf {x : Bool} (h : ¬ x = false) : x = true := by cases x <;> first | rfl | exact absurd rfl h
theorem rb_nt {x : Bool} (h : ¬ x = true) : x = false := by cases x <;> first | rfl | exact absurd rfl h
/-! one bit, as each side asks for it -/
theorem rb_bitX {post : Int32 → Prop} (x : Int64) {a : Nat} (h : a < 64) (hp : post (rb_i (rb_t x a))) : wpX_bitAt post x (nI a) := by
  unfold wpX_bitAt
  rw [rb_X x h]
  exact hp
theorem rb_bitY {post : Int32 → Prop} (x : Int64) {a : Nat} (h : a < 64) (hp : post (rb_i (rb_t x a))) : wpY_bit post x (nI a) := by
  unfold wpY_bit
  rw [rb_Y x h]
  exact hp
theorem rb_if {b : Bool} {A B : Prop} (f : b = true → A) (g : b = false → B) : (rb_i b = 1 → A) ∧ (¬ rb_i b = 1 → B) :=
  ⟨fun h => f ((rb_i1 b).mp h), fun h => g (rb_nt (fun z => h ((rb_i1 b).mpr z)))⟩
theorem rb_if0 {b : Bool} {A B : Prop} (f : b = false → A) (g : b = true → B) : (rb_i b = 0 → A) ∧ (¬ rb_i b = 0 → B) :=
  ⟨fun h => f ((rb_i0 b).mp h), fun h => g (rb_nf (fun z => h ((rb_i0 b).mpr z)))⟩
end
section
/-! longs built bit by bit -/
def rs_f (c : Nat → Bool) : Nat → Int64
  | 0 => 0
  | n + 1 => if c n then rs_f c n ||| ((1 : Int64) <<< ((nI n).toInt64 &&& 63)) else rs_f c n
theorem rs_t (c : Nat → Bool) {n : Nat} (h : c n = true) : rs_f c (n + 1) = rs_f c n ||| ((1 : Int64) <<< ((nI n).toInt64 &&& 63)) := if_pos h
theorem rs_n (c : Nat → Bool) {n : Nat} (h : c n = false) : rs_f c (n + 1) = rs_f c n := if_neg (by rw [h]; decide)
theorem rs_bit (c : Nat → Bool) : ∀ n, n ≤ 64 → ∀ i, i < 64 → rb_t (rs_f c n) i = (decide (i < n) && c i) := by
  intro n
  induction n with
  | zero =>
    intro _ i _
    rw [decide_eq_false (Nat.not_lt_zero i), Bool.false_and]
    exact rb_0 i
  | succ n ih =>
    intro hn i hi
    cases hc : c n with
    | false =>
      rw [rs_n c hc, ih (by omega) i hi]
      by_cases e : i = n
      · subst e
        rw [hc, Bool.and_false, Bool.and_false]
      · have : (i < n) ↔ (i < n + 1) := by omega
        rw [decide_eq_decide.mpr this]
    | true =>
      rw [rs_t c hc, rb_or, ih (by omega) i hi, rb_one n (by omega) hi]
      by_cases e : i = n
      · subst e
        rw [hc, decide_eq_true (Nat.lt_succ_self i), decide_eq_true (rfl : i = i), Bool.or_true, Bool.true_and]
      · have : (i < n) ↔ (i < n + 1) := by omega
        rw [decide_eq_decide.mpr this, decide_eq_false e, Bool.or_false]
theorem rs_all (c : Nat → Bool) {i : Nat} (hi : i < 64) : rb_t (rs_f c 64) i = c i := by
  rw [rs_bit c 64 (Nat.le_refl _) i hi, decide_eq_true hi, Bool.true_and]
theorem rs_eq {c : Nat → Bool} {x : Int64} (h : ∀ i, i < 64 → c i = rb_t x i) : rs_f c 64 = x := rb_ext (fun i hi => (rs_all c hi).trans (h i hi))
/-- setting by exclusive or is setting by or: the bit was 0 -/
theorem rs_x (c : Nat → Bool) {n : Nat} (hn : n < 64) (h : c n = true) : rs_f c (n + 1) = rs_f c n ^^^ ((1 : Int64) <<< ((nI n).toInt64 &&& 63)) := by
  apply rb_ext
  intro i hi
  rw [rs_t c h, rb_or, rb_xor, rb_one n hn hi, rs_bit c n (by omega) i hi]
  by_cases e : i = n
  · subst e
    rw [decide_eq_false (Nat.lt_irrefl i), Bool.false_and, Bool.false_or, Bool.false_xor]
  · rw [decide_eq_false e, Bool.or_false, Bool.xor_false]
/-! the long of a variable -/
def rs_v (v : Nat) : Int64 := rs_f (fun a => a.testBit v) 64
theorem rs_vb (v : Nat) {i : Nat} (hi : i < 64) : rb_t (rs_v v) i = i.testBit v := rs_all _ hi
theorem rs_tabX : ∀ a, a < 64 → ∀ v, v < 6 → rb_t (nI a).toInt64 v = a.testBit v := by decide +kernel
theorem rs_tabY : ∀ a, a < 64 → ∀ v, v < 6 → (nI a >>> (nI v &&& 31)) &&& 1 = rb_i (a.testBit v) := by decide +kernel
theorem rs_loopX {v : Nat} (hv : v < 6) {post : Int64 → Prop} (hp : post (rs_v v)) : ∀ d a, a + d = 64 → wX_valuesOfVariable_4 post (nI v) (d + 1) (rs_f (fun a => a.testBit v) a) (nI a) := by
  intro d
  induction d with
  | zero =>
    intro a h
    obtain rfl : a = 64 := by omega
    exact pk_le 64 64 (fun _ => hp) (fun h => absurd h (by omega))
  | succ d ih =>
    intro a h
    refine pk_le 64 a (fun z => absurd z (by omega)) (fun _ => ?_)
    refine rb_bitX _ (by omega) ?_
    rw [rs_tabX a (by omega) v hv]
    refine rb_if (fun hb => ?_) (fun hb => ?_)
    · exact nm_r (rs_t (fun a => a.testBit v) hb).symm (nm_r (nI_1 a) (ih (a + 1) (by omega)))
    · refine nm_r (nI_1 a) ?_
      have := ih (a + 1) (by omega)
      rw [rs_n (fun a => a.testBit v) hb] at this
      exact this
theorem rs_X {v : Nat} (hv : v < 6) {post : Int64 → Prop} (hp : post (rs_v v)) : wpX_valuesOfVariable post (nI v) := ⟨65, rs_loopX hv hp 64 0 rfl⟩
/-! push -/
theorem rv_pushX {post : Int32 → SX → Prop} {n : Nat} (hn : n ≤ 12) (s : Nat → Int64) (x : Int64) (h1 : n < 12 → post (nI (n + 1)) (nI (n + 1), vp_updL s n x)) (h2 : n = 12 → post (-1) (nI n, s)) : wpX_push post (nI n, s) x :=
  pk_lt n 12 (fun h => ⟨pk_in n 12 h, nm_r (congrArg (fun j => vp_updL s j x) (nI_clamp (by omega))) (nm_r (nI_1 n) (h1 h))⟩) (fun h => h2 (by omega))
theorem rv_pushY {post : Int32 → SY → Prop} {n : Nat} (hn : n ≤ 12) (s : Nat → Int64) (x : Int64) (h1 : n < 12 → post (nI (n + 1)) (nI (n + 1), vp_updL s n x)) (h2 : n = 12 → post (-1) (nI n, s)) : wpY_push post (nI n, s) x :=
  pk_eq n 12 (fun h => h2 h) (fun h => ⟨pk_in n 12 (by omega), nm_r (congrArg (fun j => vp_updL s j x) (nI_clamp (by omega))) (nm_r (nI_1 n) (h1 (by omega)))⟩)
theorem rs_loopY {v : Nat} (hv : v < 6) {post : Int32 → SY → Prop} {n : Nat} (hn : n ≤ 12) (s : Nat → Int64) (h1 : n < 12 → post (nI (n + 1)) (nI (n + 1), vp_updL s n (rs_v v))) (h2 : n = 12 → post (-1) (nI n, s)) : ∀ d a, a + d = 64 → wY_variable_16 post (nI v) (nI n) s (d + 1) (rs_f (fun a => a.testBit v) a) (nI a) := by
  intro d
  induction d with
  | zero =>
    intro a h
    obtain rfl : a = 64 := by omega
    exact pk_le 64 64 (fun _ => rv_pushY hn s _ h1 h2) (fun h => absurd h (by omega))
  | succ d ih =>
    intro a h
    refine pk_le 64 a (fun z => absurd z (by omega)) (fun _ => ?_)
    rw [rs_tabY a (by omega) v hv]
    refine rb_if (fun hb => ?_) (fun hb => ?_)
    · exact nm_r (rs_t (fun a => a.testBit v) hb).symm (nm_r (nI_1 a) (ih (a + 1) (by omega)))
    · refine nm_r (nI_1 a) ?_
      have := ih (a + 1) (by omega)
      rw [rs_n (fun a => a.testBit v) hb] at this
      exact this
/-! counting ones -/
def rc_f (x : Int64) : Nat → Int32
  | 0 => 0
  | n + 1 => rc_f x n + rb_i (rb_t x n)
theorem rc_loopX (x : Int64) {post : Int32 → Prop} (hp : post (rc_f x 64)) : ∀ d a, a + d = 64 → wX_countOnes_4 post x (d + 1) (rc_f x a) (nI a) := by
  intro d
  induction d with
  | zero =>
    intro a h
    obtain rfl : a = 64 := by omega
    exact pk_le 64 64 (fun _ => hp) (fun h => absurd h (by omega))
  | succ d ih =>
    intro a h
    refine pk_le 64 a (fun z => absurd z (by omega)) (fun _ => ?_)
    refine rb_bitX _ (by omega) ?_
    exact nm_e (nm_r (nI_1 a) (ih (a + 1) (by omega)))
theorem rc_loopY (x : Int64) {post : Int32 → Prop} (hp : post (rc_f x 64)) : ∀ d a, a + d = 64 → wY_ones_4 post x (d + 1) (rc_f x a) (nI a) := by
  intro d
  induction d with
  | zero =>
    intro a h
    obtain rfl : a = 64 := by omega
    exact pk_le 64 64 (fun _ => hp) (fun h => absurd h (by omega))
  | succ d ih =>
    intro a h
    refine pk_le 64 a (fun z => absurd z (by omega)) (fun _ => ?_)
    refine rb_bitY _ (by omega) ?_
    exact nm_e (nm_r (nI_1 a) (ih (a + 1) (by omega)))
theorem rc_X (x : Int64) {post : Int32 → Prop} (hp : post (rc_f x 64)) : wpX_countOnes post x := ⟨65, rc_loopX x hp 64 0 rfl⟩
theorem rc_Y (x : Int64) {post : Int32 → Prop} (hp : post (rc_f x 64)) : wpY_ones post x := ⟨65, rc_loopY x hp 64 0 rfl⟩
/-! the degree: the greatest size of a product in the set -/
def rd_f (x : Int64) : Nat → Int32
  | 0 => 0
  | p + 1 => if rb_t x p = true then (if rc_f (nI p).toInt64 64 ≤ rd_f x p then rd_f x p else rc_f (nI p).toInt64 64) else rd_f x p
theorem rd_loopX (x : Int64) (F : Int32) (s : Nat → Int64) {post : Int32 → Prop} (hp : post (rd_f x 64)) : ∀ d p, p + d = 64 → wX_degree_22 post x F s (d + 1) (rd_f x p) (nI p) := by
  intro d
  induction d with
  | zero =>
    intro p h
    obtain rfl : p = 64 := by omega
    exact pk_le 64 64 (fun _ => hp) (fun h => absurd h (by omega))
  | succ d ih =>
    intro p h
    refine pk_le 64 p (fun z => absurd z (by omega)) (fun _ => ?_)
    refine rc_X _ ?_
    refine rb_bitX _ (by omega) ?_
    have I := ih (p + 1) (by omega)
    refine rb_if (fun hb => br_c (fun hc => ?_) (fun hc => ?_)) (fun hb => ?_)
    · have e : rd_f x (p + 1) = rd_f x p := (if_pos hb).trans (if_pos hc)
      rw [e] at I
      exact nm_r (nI_1 p) I
    · have e : rd_f x (p + 1) = rc_f (nI p).toInt64 64 := (if_pos hb).trans (if_neg hc)
      rw [e] at I
      exact nm_r (nI_1 p) I
    · have e : rd_f x (p + 1) = rd_f x p := if_neg (by rw [hb]; decide)
      rw [e] at I
      exact nm_r (nI_1 p) I
theorem rd_loopY (x : Int64) (F : Int32) (s : Nat → Int64) {post : Int32 → Prop} (hp : post (rd_f x 64)) : ∀ d p, p + d = 64 → wY_degree_22 post x F s (d + 1) (rd_f x p) (nI p) := by
  intro d
  induction d with
  | zero =>
    intro p h
    obtain rfl : p = 64 := by omega
    exact pk_le 64 64 (fun _ => hp) (fun h => absurd h (by omega))
  | succ d ih =>
    intro p h
    refine pk_le 64 p (fun z => absurd z (by omega)) (fun _ => ?_)
    refine rb_bitY _ (by omega) ?_
    have I := ih (p + 1) (by omega)
    refine rb_if (fun hb => ?_) (fun hb => ?_)
    · refine rc_Y _ ?_
      refine br_c (fun hc => ?_) (fun hc => ?_)
      · have e : rd_f x (p + 1) = rd_f x p := (if_pos hb).trans (if_pos hc)
        rw [e] at I
        exact nm_r (nI_1 p) I
      · have e : rd_f x (p + 1) = rc_f (nI p).toInt64 64 := (if_pos hb).trans (if_neg hc)
        rw [e] at I
        refine rc_Y _ ?_
        exact nm_r (nI_1 p) I
    · have e : rd_f x (p + 1) = rd_f x p := if_neg (by rw [hb]; decide)
      rw [e] at I
      exact nm_r (nI_1 p) I
/-! the first place where two longs differ -/
def rf_f (x y : Int64) : Nat → Nat → Int32
  | 0, _ => 64
  | d + 1, a => if rb_t x a = rb_t y a then rf_f x y d (a + 1) else nI a
theorem rf_loopX (x y : Int64) (F : Int32) (s : Nat → Int64) {post : Int32 → Prop} : ∀ d a, a + d = 64 → post (rf_f x y d a) → wX_differ_33 post (x ^^^ y) F s (d + 1) (nI a) := by
  intro d
  induction d with
  | zero =>
    intro a h hp
    obtain rfl : a = 64 := by omega
    exact pk_le 64 64 (fun _ => hp) (fun h => absurd h (by omega))
  | succ d ih =>
    intro a h hp
    refine pk_le 64 a (fun z => absurd z (by omega)) (fun _ => ?_)
    refine rb_bitX _ (by omega) ?_
    rw [rb_xor]
    refine rb_if (fun hb => ?_) (fun hb => ?_)
    · have e : ¬ rb_t x a = rb_t y a := by
        intro z
        rw [z, Bool.xor_self] at hb
        exact absurd hb (by decide)
      have g : rf_f x y (d + 1) a = nI a := if_neg e
      rw [g] at hp
      exact hp
    · have e : rb_t x a = rb_t y a := by
        revert hb
        cases rb_t x a <;> cases rb_t y a <;> decide
      have g : rf_f x y (d + 1) a = rf_f x y d (a + 1) := if_pos e
      rw [g] at hp
      exact nm_r (nI_1 a) (ih (a + 1) (by omega) hp)
theorem rf_loopY (F : Int32) (s : Nat → Int64) (k l : Int32) (hk : vp_in (F - 1 - k) 12) (hl : vp_in (F - 1 - l) 12) {post : Int32 → Prop} : ∀ d a, a + d = 64 → post (rf_f (s (F - 1 - k).toNatClampNeg) (s (F - 1 - l).toNatClampNeg) d a) → wY_differ_20 post k l F s (d + 1) (nI a) := by
  intro d
  induction d with
  | zero =>
    intro a h hp
    obtain rfl : a = 64 := by omega
    exact pk_le 64 64 (fun _ => hp) (fun h => absurd h (by omega))
  | succ d ih =>
    intro a h hp
    refine pk_le 64 a (fun z => absurd z (by omega)) (fun _ => ⟨hk, ?_⟩)
    refine rb_bitY _ (by omega) ?_
    refine ⟨hl, ?_⟩
    refine rb_bitY _ (by omega) ?_
    refine br_c (fun hc => ?_) (fun hc => ?_)
    · have g : rf_f (s (F - 1 - k).toNatClampNeg) (s (F - 1 - l).toNatClampNeg) (d + 1) a = rf_f (s (F - 1 - k).toNatClampNeg) (s (F - 1 - l).toNatClampNeg) d (a + 1) := if_pos ((rb_ii _ _).mp hc)
      rw [g] at hp
      exact nm_r (nI_1 a) (ih (a + 1) (by omega) hp)
    · have g : rf_f (s (F - 1 - k).toNatClampNeg) (s (F - 1 - l).toNatClampNeg) (d + 1) a = nI a := if_neg (fun z => hc ((rb_ii _ _).mpr z))
      rw [g] at hp
      exact hp
end
