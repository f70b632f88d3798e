/-! the number of bits of a long -/
theorem j_ofN (x : Int64) : Int64.ofNat x.toBitVec.toNat = x := by
  apply Int64.toBitVec_inj.mp
  rw [j_v]
  exact BitVec.eq_of_toNat_eq (by rw [BitVec.toNat_ofNat]; exact Nat.mod_eq_of_lt x.toBitVec.isLt)
theorem j_add (a b : Nat) : Int64.ofNat a + Int64.ofNat b = Int64.ofNat (a + b) := (Int64.ofNat_add a b).symm
theorem j_sub {a b : Nat} (h : b ≤ a) : Int64.ofNat a - Int64.ofNat b = Int64.ofNat (a - b) := by
  have h1 : Int64.ofNat (a - b) + Int64.ofNat b = Int64.ofNat a := by rw [j_add, Nat.sub_add_cancel h]
  rw [← h1, Int64.add_sub_cancel]
theorem j_and (a b : Nat) : Int64.ofNat a &&& Int64.ofNat b = Int64.ofNat (a &&& b) := by
  apply Int64.toBitVec_inj.mp
  rw [Int64.toBitVec_and, j_v, j_v, j_v]
  apply BitVec.eq_of_toNat_eq
  rw [BitVec.toNat_and, BitVec.toNat_ofNat, BitVec.toNat_ofNat, BitVec.toNat_ofNat, Nat.and_mod_two_pow]
theorem j_shr {a : Nat} {c : UInt64} {s : Nat} (ha : a < 2 ^ 64) (hc : c.toBitVec = BitVec.ofNat 64 s) (hs : s < 64) : ((Int64.ofNat a).toUInt64 >>> c).toInt64 = Int64.ofNat (a >>> s) := by
  apply Int64.toBitVec_inj.mp
  rw [j_v]
  show ((Int64.ofNat a).toUInt64 >>> c).toBitVec = _
  rw [UInt64.toBitVec_shiftRight, hc]
  show ((Int64.ofNat a).toBitVec >>> (BitVec.ofNat 64 s % 64#64)) = _
  rw [j_v]
  apply BitVec.eq_of_toNat_eq
  rw [BitVec.ushiftRight_eq', BitVec.toNat_ushiftRight, BitVec.toNat_ofNat, BitVec.toNat_ofNat, BitVec.toNat_umod, BitVec.toNat_ofNat, BitVec.toNat_ofNat, Nat.mod_eq_of_lt ha]
  have e : s % 2 ^ 64 % (64 % 2 ^ 64) = s := by rw [show (64 % 2 ^ 64 : Nat) = 64 from rfl, Nat.mod_eq_of_lt (show s < 2 ^ 64 by omega), Nat.mod_eq_of_lt hs]
  rw [e, Nat.mod_eq_of_lt]
  rw [Nat.shiftRight_eq_div_pow]
  exact Nat.lt_of_le_of_lt (Nat.div_le_self _ _) ha
theorem j_i32 (a : Nat) : (Int64.ofNat a).toInt32 = nI a := by
  apply Int32.toBitVec_inj.mp
  rw [b_v]
  show (Int64.ofNat a).toBitVec.signExtend 32 = _
  rw [j_v]
  apply BitVec.eq_of_toNat_eq
  rw [BitVec.signExtend_eq_setWidth_of_le _ (by omega), BitVec.toNat_setWidth, BitVec.toNat_ofNat, BitVec.toNat_ofNat]
  omega
/-- eight bytes -/
def y8_ (D : Nat → Nat) : Nat := D 0 + 256 * D 1 + 65536 * D 2 + 16777216 * D 3 + 4294967296 * D 4 + 1099511627776 * D 5 + 281474976710656 * D 6 + 72057594037927936 * D 7
theorem y8_lt {D : Nat → Nat} (h : ∀ i, D i < 256) : y8_ D < 2 ^ 64 := by
  have h0 := h 0
  have h1 := h 1
  have h2 := h 2
  have h3 := h 3
  have h4 := h 4
  have h5 := h 5
  have h6 := h 6
  have h7 := h 7
  unfold y8_
  omega
theorem y8_tb {D : Nat → Nat} (h : ∀ i, D i < 256) (i : Nat) : (y8_ D).testBit i = if i < 64 then (D (i / 8)).testBit (i % 8) else false := by
  have step : ∀ (a b k i : Nat), a < 2 ^ k → (a + 2 ^ k * b).testBit i = if i < k then a.testBit i else b.testBit (i - k) := by
    intro a b k i ha
    rw [Nat.add_comm, Nat.testBit_two_pow_mul_add _ ha]
  have h0 := h 0
  have h1 := h 1
  have h2 := h 2
  have h3 := h 3
  have h4 := h 4
  have h5 := h 5
  have h6 := h 6
  have h7 := h 7
  have hb : ∀ q i, D q < 256 → 8 ≤ i → (D q).testBit i = false := fun q i hq hi => Nat.testBit_lt_two_pow (Nat.lt_of_lt_of_le hq (show 2 ^ 8 ≤ 2 ^ i from Nat.pow_le_pow_right (by omega) hi))
  unfold y8_
  rw [show (72057594037927936 : Nat) = 2 ^ 56 by rfl, step _ _ 56 i (by omega), show (281474976710656 : Nat) = 2 ^ 48 by rfl, step _ _ 48 i (by omega), show (1099511627776 : Nat) = 2 ^ 40 by rfl, step _ _ 40 i (by omega), show (4294967296 : Nat) = 2 ^ 32 by rfl, step _ _ 32 i (by omega), show (16777216 : Nat) = 2 ^ 24 by rfl, step _ _ 24 i (by omega), show (65536 : Nat) = 2 ^ 16 by rfl, step _ _ 16 i (by omega), show (256 : Nat) = 2 ^ 8 by rfl, step _ _ 8 i (by omega)]
  by_cases c : i < 64
  · rw [if_pos c]
    rcases (show i / 8 = 0 ∨ i / 8 = 1 ∨ i / 8 = 2 ∨ i / 8 = 3 ∨ i / 8 = 4 ∨ i / 8 = 5 ∨ i / 8 = 6 ∨ i / 8 = 7 by omega) with q | q | q | q | q | q | q | q
    · rw [if_pos (by omega), if_pos (by omega), if_pos (by omega), if_pos (by omega), if_pos (by omega), if_pos (by omega), if_pos (by omega), q, show i % 8 = i by omega]
    · rw [if_pos (by omega), if_pos (by omega), if_pos (by omega), if_pos (by omega), if_pos (by omega), if_pos (by omega), if_neg (by omega), q, show i % 8 = i - 8 by omega]
    · rw [if_pos (by omega), if_pos (by omega), if_pos (by omega), if_pos (by omega), if_pos (by omega), if_neg (by omega), q, show i % 8 = i - 16 by omega]
    · rw [if_pos (by omega), if_pos (by omega), if_pos (by omega), if_pos (by omega), if_neg (by omega), q, show i % 8 = i - 24 by omega]
    · rw [if_pos (by omega), if_pos (by omega), if_pos (by omega), if_neg (by omega), q, show i % 8 = i - 32 by omega]
    · rw [if_pos (by omega), if_pos (by omega), if_neg (by omega), q, show i % 8 = i - 40 by omega]
    · rw [if_pos (by omega), if_neg (by omega), q, show i % 8 = i - 48 by omega]
    · rw [if_neg (by omega), q, show i % 8 = i - 56 by omega]
  · rw [if_neg c, if_neg (by omega), hb 7 _ h7 (by omega)]
theorem y8_and {D : Nat → Nat} {s c : Nat} (h : ∀ i, D i < 256) (hs : s < 8) (hc : c < 2 ^ (8 - s)) : (y8_ D >>> s) &&& y8_ (fun _ => c) = y8_ (fun i => (D i >>> s) &&& c) := by
  have hc2 : c < 256 := Nat.lt_of_lt_of_le hc (show 2 ^ (8 - s) ≤ 2 ^ 8 from Nat.pow_le_pow_right (by omega) (by omega))
  have h2 : ∀ i, (fun i => (D i >>> s) &&& c) i < 256 := fun i => Nat.lt_of_le_of_lt Nat.and_le_right hc2
  apply Nat.eq_of_testBit_eq
  intro i
  rw [Nat.testBit_and, Nat.testBit_shiftRight, y8_tb h, y8_tb (fun _ => hc2), y8_tb h2]
  by_cases c1 : i < 64
  · rw [if_pos c1, if_pos c1]
    show _ = ((D (i / 8) >>> s) &&& c).testBit (i % 8)
    rw [Nat.testBit_and, Nat.testBit_shiftRight]
    by_cases c2 : i % 8 + s < 8
    · rw [if_pos (by omega), show (s + i) / 8 = i / 8 by omega, show (s + i) % 8 = s + i % 8 by omega]
    · have : c.testBit (i % 8) = false := Nat.testBit_lt_two_pow (Nat.lt_of_lt_of_le hc (Nat.pow_le_pow_right (by omega) (by omega)))
      rw [this, Bool.and_false, Bool.and_false]
  · rw [if_neg c1, if_neg c1, Bool.and_false]
def s1_ (d : Nat) : Nat := d - ((d >>> 1) &&& 85)
def s2_ (d : Nat) : Nat := (d &&& 51) + ((d >>> 2) &&& 51)
def s3_ (d : Nat) : Nat := (d + d / 16) % 16
/-- the bits below k, from j on -/
def bu_ (p : Nat → Bool) : Nat → Nat → Nat
  | 0, _ => 0
  | d + 1, j => (if p j = true then 1 else 0) + bu_ p d (j + 1)
theorem bu_s {p : Nat → Bool} {d j : Nat} : bu_ p (d + 1) j = (if p j = true then 1 else 0) + bu_ p d (j + 1) := rfl
theorem bu_add {p : Nat → Bool} : ∀ {a b j : Nat}, bu_ p (a + b) j = bu_ p a j + bu_ p b (j + a)
  | 0, b, j => by rw [Nat.zero_add]; show _ = 0 + _; rw [Nat.zero_add]; rfl
  | a + 1, b, j => by rw [show a + 1 + b = a + b + 1 by omega, bu_s, bu_s, bu_add, show j + 1 + a = j + (a + 1) by omega, Nat.add_assoc]
theorem bu_ext {p q : Nat → Bool} : ∀ {d j i : Nat}, (∀ k, k < d → p (j + k) = q (i + k)) → bu_ p d j = bu_ q d i
  | 0, j, i, _ => rfl
  | d + 1, j, i, h => by
    rw [bu_s, bu_s, show p j = q i from h 0 (by omega), bu_ext (d := d) (j := j + 1) (i := i + 1) (fun k hk => by rw [show j + 1 + k = j + (k + 1) by omega, show i + 1 + k = i + (k + 1) by omega]; exact h (k + 1) (by omega))]
theorem bu_le {p : Nat → Bool} : ∀ {d j : Nat}, bu_ p d j ≤ d
  | 0, j => Nat.le_refl _
  | d + 1, j => by
    have := bu_le (p := p) (d := d) (j := j + 1)
    rw [bu_s]
    split <;> omega
theorem bu_0 {p : Nat → Bool} : ∀ {d j : Nat}, (∀ k, k < d → p (j + k) = false) → bu_ p d j = 0
  | 0, j, _ => rfl
  | d + 1, j, h => by
    rw [bu_s, show p j = false from h 0 (by omega), if_neg Bool.false_ne_true, bu_0 (fun k hk => by rw [show j + 1 + k = j + (k + 1) by omega]; exact h (k + 1) (by omega))]
theorem byte_pc : ∀ d, d < 256 → s3_ (s2_ (s1_ d)) = bu_ d.testBit 8 0 ∧ s1_ d < 256 ∧ s2_ (s1_ d) % 16 ≤ 4 ∧ s2_ (s1_ d) / 16 ≤ 4 ∧ ((d >>> 1) &&& 85) ≤ d ∧ s3_ (s2_ (s1_ d)) ≤ 8 := by decide +kernel
theorem y8_byte {D : Nat → Nat} (h : ∀ i, D i < 256) : bu_ (y8_ D).testBit 64 0 = bu_ (D 0).testBit 8 0 + bu_ (D 1).testBit 8 0 + bu_ (D 2).testBit 8 0 + bu_ (D 3).testBit 8 0 + bu_ (D 4).testBit 8 0 + bu_ (D 5).testBit 8 0 + bu_ (D 6).testBit 8 0 + bu_ (D 7).testBit 8 0 := by
  have e : ∀ q, q < 8 → bu_ (y8_ D).testBit 8 (8 * q) = bu_ (D q).testBit 8 0 := by
    intro q hq
    apply bu_ext
    intro k hk
    rw [y8_tb h, if_pos (by omega), show (8 * q + k) / 8 = q by omega, show (8 * q + k) % 8 = 0 + k by omega]
  rw [show (64 : Nat) = 8 + (8 + (8 + (8 + (8 + (8 + (8 + 8)))))) by rfl, bu_add, bu_add, bu_add, bu_add, bu_add, bu_add, bu_add]
  rw [show (0 : Nat) + 8 = 8 * 1 by rfl, show 8 * 1 + 8 = 8 * 2 by rfl, show 8 * 2 + 8 = 8 * 3 by rfl, show 8 * 3 + 8 = 8 * 4 by rfl, show 8 * 4 + 8 = 8 * 5 by rfl, show 8 * 5 + 8 = 8 * 6 by rfl, show 8 * 6 + 8 = 8 * 7 by rfl]
  have e0 := e 0 (by omega)
  rw [Nat.mul_zero] at e0
  rw [e0, e 1 (by omega), e 2 (by omega), e 3 (by omega), e 4 (by omega), e 5 (by omega), e 6 (by omega), e 7 (by omega)]
  omega
theorem y8_of {X : Nat} (h : X < 2 ^ 64) : X = y8_ (fun i => X / 2 ^ (8 * i) % 256) := by
  unfold y8_
  show X = X / 2 ^ (8 * 0) % 256 + 256 * (X / 2 ^ (8 * 1) % 256) + 65536 * (X / 2 ^ (8 * 2) % 256) + 16777216 * (X / 2 ^ (8 * 3) % 256) + 4294967296 * (X / 2 ^ (8 * 4) % 256) + 1099511627776 * (X / 2 ^ (8 * 5) % 256) + 281474976710656 * (X / 2 ^ (8 * 6) % 256) + 72057594037927936 * (X / 2 ^ (8 * 7) % 256)
  omega
