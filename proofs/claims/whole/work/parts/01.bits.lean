/-! rows taken from the rows to paste: pk_sub, pk_ix, pk_le, pk_lt, pk_eq, pk_in, pk_cl, nx_and -/
theorem pk_sub {a b : Nat} (h : b ≤ a) : nI a - nI b = nI (a - b) := by
  obtain ⟨c, rfl⟩ : ∃ c, a = c + b := ⟨a - b, by omega⟩
  rw [← nI_add, Int32.add_sub_cancel, Nat.add_sub_cancel]
theorem pk_ix (x : Int32) {n : Nat} (hn : n < 2 ^ 31) : x < 0 ∨ nI n ≤ x ∨ ∃ j : Nat, j < n ∧ x = nI j := by
  by_cases h : x < 0
  · exact Or.inl h
  · obtain ⟨j, hj, rfl⟩ := nI_of h
    by_cases h2 : j < n
    · exact Or.inr (Or.inr ⟨j, h2, rfl⟩)
    · exact Or.inr (Or.inl (nI_le (by omega) hj))
theorem pk_le {x y : Int32} {A B : Prop} (a b : Nat) (f : a ≤ b → A) (g : b < a → B) (hx : x = nI a := by rfl) (hy : y = nI b := by rfl) (ha : a < 2 ^ 31 := by omega) (hb : b < 2 ^ 31 := by omega) : (x ≤ y → A) ∧ (¬ x ≤ y → B) := by
  subst hx hy
  rw [nI_leI ha hb]
  exact ⟨f, fun z => g (by omega)⟩
theorem pk_lt {x y : Int32} {A B : Prop} (a b : Nat) (f : a < b → A) (g : b ≤ a → B) (hx : x = nI a := by rfl) (hy : y = nI b := by rfl) (ha : a < 2 ^ 31 := by omega) (hb : b < 2 ^ 31 := by omega) : (x < y → A) ∧ (¬ x < y → B) := by
  subst hx hy
  rw [nI_ltI ha hb]
  exact ⟨f, fun z => g (by omega)⟩
theorem pk_eq {x y : Int32} {A B : Prop} (a b : Nat) (f : a = b → A) (g : a ≠ b → B) (hx : x = nI a := by rfl) (hy : y = nI b := by rfl) (ha : a < 2 ^ 31 := by omega) (hb : b < 2 ^ 31 := by omega) : (x = y → A) ∧ (¬ x = y → B) := by
  subst hx hy
  rw [nI_eq ha hb]
  exact ⟨f, g⟩
theorem pk_in {x : Int32} (n N : Nat) (h : n < N) (hx : x = nI n := by rfl) (hN : N < 2 ^ 31 := by omega) : vp_in x N := by
  subst hx
  exact vp_in_nI h hN
theorem pk_cl {x : Int32} (n : Nat) (hx : x = nI n := by rfl) (h : n < 2 ^ 31 := by omega) : x.toNatClampNeg = n := by
  subst hx
  exact nI_clamp h
theorem nx_and (a b : Nat) : nI a &&& nI b = nI (a &&& b) := by
  apply Int32.toBitVec_inj.1
  show BitVec.ofNat 32 a &&& BitVec.ofNat 32 b = BitVec.ofNat 32 (a &&& b)
  apply BitVec.eq_of_getLsbD_eq
  intro i hi
  simp [hi]
/-! bits of a long -/
def rb_t (x : Int64) (a : Nat) : Bool := x.toBitVec.getLsbD a
def rb_i (b : Bool) : Int32 := if b then 1 else 0
theorem rb_ext {x y : Int64} (h : ∀ a, a < 64 → rb_t x a = rb_t y a) : x = y := Int64.toBitVec_inj.mp (BitVec.eq_of_getLsbD_eq (fun i hi => h i hi))
theorem rb_or (x y : Int64) (i : Nat) : rb_t (x ||| y) i = (rb_t x i || rb_t y i) := by unfold rb_t; rw [Int64.toBitVec_or, BitVec.getLsbD_or]
theorem rb_and (x y : Int64) (i : Nat) : rb_t (x &&& y) i = (rb_t x i && rb_t y i) := by unfold rb_t; rw [Int64.toBitVec_and, BitVec.getLsbD_and]
theorem rb_xor (x y : Int64) (i : Nat) : rb_t (x ^^^ y) i = (rb_t x i ^^ rb_t y i) := by unfold rb_t; rw [Int64.toBitVec_xor, BitVec.getLsbD_xor]
theorem rb_0 (i : Nat) : rb_t 0 i = false := BitVec.getLsbD_zero
theorem rb_big {x : Int64} {i : Nat} (h : 64 ≤ i) : rb_t x i = false := BitVec.getLsbD_of_ge _ _ h
theorem rb_m1 : ∀ i, i < 64 → rb_t (-1) i = true := by decide +kernel
theorem rb_1 : ∀ i, i < 64 → rb_t 1 i = decide (i = 0) := by decide +kernel
theorem rb_not (x : Int64) {i : Nat} (h : i < 64) : rb_t (x ^^^ (-1)) i = !rb_t x i := by rw [rb_xor, rb_m1 i h, Bool.xor_true]
theorem rb_sc : ∀ n, n < 64 → (((nI n).toInt64 &&& 63).toBitVec.smod 64).toNat = n := by decide +kernel
theorem rb_su : ∀ n, n < 64 → (((nI n).toInt64.toUInt64 &&& Int64.toUInt64 63).toBitVec % 64).toNat = n := by decide +kernel
theorem rb_shl (n : Nat) (hn : n < 64) (x : Int64) {i : Nat} (hi : i < 64) : rb_t (x <<< ((nI n).toInt64 &&& 63)) i = (decide (n ≤ i) && rb_t x (i - n)) := by
  unfold rb_t
  rw [Int64.toBitVec_shiftLeft]
  show (x.toBitVec <<< (((nI n).toInt64 &&& 63).toBitVec.smod 64).toNat).getLsbD i = _
  rw [rb_sc n hn, BitVec.getLsbD_shiftLeft]
  rcases Nat.lt_or_ge i n with h | h
  · simp [h, Nat.not_le.mpr h]
  · simp [hi, h, Nat.not_lt.mpr h]
theorem rb_ushr (n : Nat) (hn : n < 64) (x : Int64) (i : Nat) : rb_t ((x.toUInt64 >>> ((nI n).toInt64.toUInt64 &&& Int64.toUInt64 63)).toInt64) i = rb_t x (n + i) := by
  show (x.toUInt64 >>> ((nI n).toInt64.toUInt64 &&& Int64.toUInt64 63)).toBitVec.getLsbD i = x.toUInt64.toBitVec.getLsbD (n + i)
  rw [UInt64.toBitVec_shiftRight]
  show (x.toUInt64.toBitVec >>> (((nI n).toInt64.toUInt64 &&& Int64.toUInt64 63).toBitVec % 64).toNat).getLsbD i = _
  rw [rb_su n hn, BitVec.getLsbD_ushiftRight]
theorem rb_sshr (n : Nat) (hn : n < 64) (x : Int64) : rb_t (x >>> ((nI n).toInt64 &&& 63)) 0 = rb_t x n := by
  unfold rb_t
  rw [Int64.toBitVec_shiftRight]
  show (x.toBitVec.sshiftRight (((nI n).toInt64 &&& 63).toBitVec.smod 64).toNat).getLsbD 0 = _
  rw [rb_sc n hn, BitVec.getLsbD_sshiftRight]
  simp [hn]
theorem rb_one (a : Nat) (ha : a < 64) {i : Nat} (hi : i < 64) : rb_t ((1 : Int64) <<< ((nI a).toInt64 &&& 63)) i = decide (i = a) := by
  rw [rb_shl a ha _ hi, rb_1 (i - a) (by omega), Bool.eq_iff_iff, Bool.and_eq_true, decide_eq_true_iff, decide_eq_true_iff, decide_eq_true_iff]
  omega
theorem rb_x1 (y : Int64) : (y &&& 1).toInt32 = rb_i (rb_t y 0) := by
  have h : (y &&& 1) = if rb_t y 0 then 1 else 0 := by
    apply rb_ext
    intro i hi
    rw [rb_and, rb_1 i hi]
    by_cases e : i = 0
    · subst e
      cases hb : rb_t y 0
      · rfl
      · rfl
    · rw [decide_eq_false e, Bool.and_false]
      cases hb : rb_t y 0
      · exact (rb_0 i).symm
      · show false = rb_t 1 i
        rw [rb_1 i hi, decide_eq_false e]
  rw [h]
  cases rb_t y 0
  · rfl
  · rfl
theorem rb_y1 (z : Int32) : z &&& 1 = rb_i (z.toBitVec.getLsbD 0) := by
  apply Int32.toBitVec_inj.mp
  rw [Int32.toBitVec_and]
  show z.toBitVec &&& 1#32 = _
  rw [BitVec.and_one_eq_setWidth_ofBool_getLsbD]
  cases z.toBitVec.getLsbD 0
  · decide
  · decide
theorem rb_lo (x : Int64) : x.toInt32.toBitVec.getLsbD 0 = rb_t x 0 := by
  rw [Int64.toBitVec_toInt32, BitVec.getLsbD_signExtend]
  simp [rb_t]
theorem rb_X (x : Int64) {a : Nat} (h : a < 64) : ((x.toUInt64 >>> ((nI a).toInt64.toUInt64 &&& Int64.toUInt64 63)).toInt64 &&& 1).toInt32 = rb_i (rb_t x a) := by
  rw [rb_x1, rb_ushr a h, Nat.add_zero]
theorem rb_Y (x : Int64) {a : Nat} (h : a < 64) : ((x >>> ((nI a).toInt64 &&& 63)).toInt32 &&& 1) = rb_i (rb_t x a) := by
  rw [rb_y1, rb_lo, rb_sshr a h]
theorem rb_i1 (b : Bool) : rb_i b = 1 ↔ b = true := by cases b <;> decide
theorem rb_i0 (b : Bool) : rb_i b = 0 ↔ b = false := by cases b <;> decide
theorem rb_ii (b c : Bool) : rb_i b = rb_i c ↔ b = c := by cases b <;> cases c <;> decide
theorem rb_nf {x : Bool} (h : ¬ x = false) : x = true := by cases x <;> first | rfl | exact absurd rfl h
theorem rb_nt {x : Bool} (h : ¬ x = true) : x = false := by cases x <;> first | rfl | exact absurd rfl h
/-! one bit, as each side asks for it -/
theorem rb_bitX {post : Int32 → Prop} (x : Int64) {a : Nat} (h : a < 64) (hp : post (rb_i (rb_t x a))) : wpX_bitAt post x (nI a) := by
  unfold wpX_bitAt
  rw [rb_X x h]
  exact hp
theorem rb_bitY {post : Int32 → Prop} (x : Int64) {a : Nat} (h : a < 64) (hp : post (rb_i (rb_t x a))) : wpY_bit post x (nI a) := by
  unfold wpY_bit
  rw [rb_Y x h]
  exact hp
theorem rb_if {b : Bool} {A B : Prop} (f : b = true → A) (g : b = false → B) : (rb_i b = 1 → A) ∧ (¬ rb_i b = 1 → B) :=
  ⟨fun h => f ((rb_i1 b).mp h), fun h => g (rb_nt (fun z => h ((rb_i1 b).mpr z)))⟩
theorem rb_if0 {b : Bool} {A B : Prop} (f : b = false → A) (g : b = true → B) : (rb_i b = 0 → A) ∧ (¬ rb_i b = 0 → B) :=
  ⟨fun h => f ((rb_i0 b).mp h), fun h => g (rb_nf (fun z => h ((rb_i0 b).mpr z)))⟩
