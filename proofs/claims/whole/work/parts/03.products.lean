/-! X's sums, one variable after the other -/
theorem rm_2 : ∀ v, v < 6 → (1 : Int32) <<< (nI v &&& 31) = nI (2 ^ v) := by decide +kernel
theorem rm_p {v : Nat} (h : v < 6) : 2 ^ v < 64 := Nat.pow_lt_pow_right (n := 6) (by decide) h
def rm_s (v : Nat) (s : Int64) : Int64 := s ^^^ ((s &&& (rs_v v ^^^ (-1))) <<< ((nI (2 ^ v)).toInt64 &&& 63))
def rm_f (x : Int64) : Nat → Int64
  | 0 => x
  | v + 1 => rm_s v (rm_f x v)
theorem rm_loopX (x : Int64) (F : Int32) (s : Nat → Int64) {post : Int64 → Prop} (hp : post (rm_f x 6)) : ∀ d v, v + d = 6 → wX_productsOfFormula_9 post F s (d + 1) (rm_f x v) (nI v) := by
  intro d
  induction d with
  | zero =>
    intro v h
    obtain rfl : v = 6 := by omega
    exact pk_le 6 6 (fun _ => hp) (fun h => absurd h (by omega))
  | succ d ih =>
    intro v h
    refine pk_le 6 v (fun z => absurd z (by omega)) (fun _ => ?_)
    refine rs_X (by omega) ?_
    refine nm_e (nm_r (e' := rm_f x (v + 1)) ?_ (nm_r (nI_1 v) (ih (v + 1) (by omega))))
    rw [rm_2 v (by omega)]
    rfl
theorem rm_bit {v : Nat} (hv : v < 6) (s : Int64) {i : Nat} (hi : i < 64) : rb_t (rm_s v s) i = (rb_t s i ^^ (decide (2 ^ v ≤ i) && (rb_t s (i - 2 ^ v) && !(i - 2 ^ v).testBit v))) := by
  have hl : i - 2 ^ v < 64 := Nat.lt_of_le_of_lt (Nat.sub_le _ _) hi
  unfold rm_s
  rw [rb_xor, rb_shl (2 ^ v) (rm_p hv) _ hi, rb_and, rb_not _ hl, rs_vb v hl]
theorem rm_bb : ∀ a b c d e f : Bool, ((a ^^ b) ^^ (e && ((c ^^ d) && f))) = ((a ^^ (e && (c && f))) ^^ (b ^^ (e && (d && f)))) := by decide
theorem rm_add {v : Nat} (hv : v < 6) (x y : Int64) : rm_s v (x ^^^ y) = rm_s v x ^^^ rm_s v y := by
  apply rb_ext
  intro i hi
  rw [rb_xor, rm_bit hv _ hi, rm_bit hv _ hi, rm_bit hv _ hi, rb_xor, rb_xor]
  exact rm_bb _ _ _ _ _ _
theorem rm_addF (x y : Int64) : ∀ v, v ≤ 6 → rm_f (x ^^^ y) v = rm_f x v ^^^ rm_f y v := by
  intro v
  induction v with
  | zero => intro _; rfl
  | succ v ih =>
    intro h
    show rm_s v (rm_f (x ^^^ y) v) = _
    rw [ih (by omega), rm_add (by omega)]
    rfl
theorem rm_zero : rm_f 0 6 = 0 := by
  have h := rm_addF 0 0 6 (by omega)
  rw [Int64.xor_self, Int64.xor_self] at h
  exact h
/-! the assignments that a product holds for -/
def rp_c (p : Nat) : Nat → Bool := fun a => (a &&& p) == p
def rp_s (p : Nat) : Int64 := rs_f (rp_c p) 64
theorem rp_tab : ∀ p, p < 64 → rm_f (rp_s p) 6 = (1 : Int64) <<< ((nI p).toInt64 &&& 63) := by decide +kernel
theorem rp_holds {post : Int32 → Prop} {p a : Nat} (hp : p < 64) (h : post (rb_i (rp_c p a))) : wpY_holds post (nI p) (nI a) := by
  unfold wpY_holds
  rw [nx_and]
  have hl : a &&& p ≤ p := Nat.and_le_right
  refine pk_eq (a &&& p) p (fun e => ?_) (fun e => ?_)
  · have : rp_c p a = true := beq_iff_eq.mpr e
    rw [this] at h
    exact h
  · have : rp_c p a = false := beq_eq_false_iff_ne.mpr e
    rw [this] at h
    exact h
theorem rp_in {post : Int64 → Prop} {J : Int64 → Int64 → Int32 → Prop} {rest found : Int64} {p : Nat} (hp : p < 64) (hJ : J (rest ^^^ rp_s p) found (nI (p + 1))) : ∀ d a r, a + d = 64 → r = rest ^^^ rs_f (rp_c p) a → wY_productsOf_37 post J found (nI p) (d + 1) r (nI a) := by
  intro d
  induction d with
  | zero =>
    intro a r h e
    obtain rfl : a = 64 := by omega
    subst e
    exact pk_le 64 64 (fun _ => nm_r (nI_1 p) hJ) (fun h => absurd h (by omega))
  | succ d ih =>
    intro a r h e
    refine pk_le 64 a (fun z => absurd z (by omega)) (fun _ => ?_)
    refine rp_holds hp ?_
    refine rb_if0 (fun hb => ?_) (fun hb => ?_)
    · exact nm_r (nI_1 a) (ih (a + 1) r (by omega) (by rw [rs_n _ hb]; exact e))
    · exact nm_e (nm_r (nI_1 a) (ih (a + 1) _ (by omega) (by rw [rs_x _ (by omega) hb, e, Int64.xor_assoc])))
/-! peeling off the least product -/
def rp_I (x rest found : Int64) (p : Nat) : Prop := rm_f rest 6 = rm_f x 6 ^^^ found ∧ (∀ i, i < p → rb_t rest i = false) ∧ (∀ i, p ≤ i → i < 64 → rb_t found i = false)
theorem rp_end {x rest found : Int64} (h : rp_I x rest found 64) : found = rm_f x 6 := by
  obtain ⟨h1, h2, _⟩ := h
  have e : rest = 0 := rb_ext (fun i hi => by rw [h2 i hi, rb_0])
  rw [e, rm_zero] at h1
  have h3 : rm_f x 6 ^^^ (rm_f x 6 ^^^ found) = rm_f x 6 ^^^ 0 := by rw [← h1]
  rw [← Int64.xor_assoc, Int64.xor_self, Int64.zero_xor, Int64.xor_zero] at h3
  exact h3
theorem rp_no {x rest found : Int64} {p : Nat} (h : rp_I x rest found p) (hb : rb_t rest p = false) : rp_I x rest found (p + 1) := by
  obtain ⟨h1, h2, h3⟩ := h
  refine ⟨h1, fun i hi => ?_, fun i hi => h3 i (by omega)⟩
  by_cases e : i = p
  · rw [e, hb]
  · exact h2 i (by omega)
theorem rp_yes {x rest found : Int64} {p : Nat} (hp : p < 64) (h : rp_I x rest found p) (hb : rb_t rest p = true) : rp_I x (rest ^^^ rp_s p) (found ||| ((1 : Int64) <<< ((nI p).toInt64 &&& 63))) (p + 1) := by
  obtain ⟨h1, h2, h3⟩ := h
  have e : (found ||| ((1 : Int64) <<< ((nI p).toInt64 &&& 63))) = found ^^^ ((1 : Int64) <<< ((nI p).toInt64 &&& 63)) := by
    apply rb_ext
    intro i hi
    rw [rb_or, rb_xor, rb_one p hp hi]
    by_cases e : i = p
    · subst e
      rw [h3 i (Nat.le_refl _) hi, Bool.false_or, Bool.false_xor]
    · rw [decide_eq_false e, Bool.or_false, Bool.xor_false]
  refine ⟨?_, fun i hi => ?_, fun i hi hi2 => ?_⟩
  · rw [e, rm_addF _ _ 6 (Nat.le_refl _), rp_tab p hp, h1, Int64.xor_assoc]
  · rw [rb_xor]
    have g : rb_t (rp_s p) i = rp_c p i := rs_all _ (by omega)
    rw [g]
    by_cases e : i = p
    · subst e
      have : rp_c i i = true := beq_iff_eq.mpr (Nat.and_self i)
      rw [hb, this]
      rfl
    · have hl : i &&& p ≤ i := Nat.and_le_left
      have : rp_c p i = false := beq_eq_false_iff_ne.mpr (by omega)
      rw [h2 i (by omega), this]
      rfl
  · rw [rb_or, rb_one p hp hi2, h3 i (by omega) hi2, decide_eq_false (by omega)]
    rfl
theorem rp_loopY (x : Int64) {post : Int64 → Prop} (hp : post (rm_f x 6)) : ∀ d p rest found, p + d = 64 → rp_I x rest found p → wY_productsOf_8 post (d + 1) rest found (nI p) := by
  intro d
  induction d with
  | zero =>
    intro p rest found h I
    obtain rfl : p = 64 := by omega
    rw [rp_end I]
    exact pk_le 64 64 (fun _ => hp) (fun h => absurd h (by omega))
  | succ d ih =>
    intro p rest found h I
    refine pk_le 64 p (fun z => absurd z (by omega)) (fun _ => ?_)
    refine rb_bitY _ (by omega) ?_
    refine rb_if (fun hb => ?_) (fun hb => ?_)
    · refine nm_e ⟨65, ?_⟩
      exact rp_in (by omega) (ih (p + 1) _ _ (by omega) (rp_yes (by omega) I hb)) 64 0 rest rfl (Int64.xor_zero).symm
    · exact nm_r (nI_1 p) (ih (p + 1) rest found (by omega) (rp_no I hb))
theorem rp_Y (x : Int64) {post : Int64 → Prop} (hp : post (rm_f x 6)) : wpY_productsOf post x :=
  ⟨65, rp_loopY x hp 64 0 x 0 rfl ⟨(Int64.xor_zero).symm, fun i hi => absurd hi (Nat.not_lt_zero i), fun i _ _ => rb_0 i⟩⟩
