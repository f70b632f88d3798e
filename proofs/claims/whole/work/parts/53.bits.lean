/-! bits of numbers -/
theorem b_v (a : Nat) : (nI a).toBitVec = BitVec.ofNat 32 a := by
  rw [← n_of]
  rfl
theorem b_or (a b : Nat) : nI a ||| nI b = nI (a ||| b) := by
  apply Int32.toBitVec_inj.mp
  rw [Int32.toBitVec_or, b_v, b_v, b_v]
  apply BitVec.eq_of_toNat_eq
  rw [BitVec.toNat_or, BitVec.toNat_ofNat, BitVec.toNat_ofNat, BitVec.toNat_ofNat, Nat.or_mod_two_pow]
theorem b_and (a b : Nat) : nI a &&& nI b = nI (a &&& b) := by
  apply Int32.toBitVec_inj.mp
  rw [Int32.toBitVec_and, b_v, b_v, b_v]
  apply BitVec.eq_of_toNat_eq
  rw [BitVec.toNat_and, BitVec.toNat_ofNat, BitVec.toNat_ofNat, BitVec.toNat_ofNat, Nat.and_mod_two_pow]
theorem b_smod {k : Nat} (hk : k < 32) : ((nI k).toBitVec.smod (32 : BitVec 32)).toNat = k := by
  rw [b_v]
  have : ∀ k, k < 32 → ((BitVec.ofNat 32 k).smod 32#32).toNat = k := by decide +kernel
  exact this k hk
theorem b_shl {a k : Nat} (hk : k < 32) : nI a <<< nI k = nI (a <<< k) := by
  apply Int32.toBitVec_inj.mp
  rw [Int32.toBitVec_shiftLeft, BitVec.shiftLeft_eq', b_smod hk, b_v, b_v]
  apply BitVec.eq_of_toNat_eq
  rw [BitVec.toNat_shiftLeft, BitVec.toNat_ofNat, BitVec.toNat_ofNat, Nat.shiftLeft_eq, Nat.shiftLeft_eq, Nat.mod_mul_mod]
theorem b_shr {a k : Nat} (ha : a < 2147483648) (hk : k < 32) : nI a >>> nI k = nI (a >>> k) := by
  apply Int32.toBitVec_inj.mp
  rw [Int32.toBitVec_shiftRight, BitVec.sshiftRight_eq', b_smod hk, b_v, b_v]
  have hmsb : (BitVec.ofNat 32 a).msb = false := by
    rw [BitVec.msb_eq_decide, BitVec.toNat_ofNat, Nat.mod_eq_of_lt (by omega)]
    simp
    omega
  rw [BitVec.sshiftRight_eq_of_msb_false hmsb]
  apply BitVec.eq_of_toNat_eq
  rw [BitVec.toNat_ushiftRight, BitVec.toNat_ofNat, BitVec.toNat_ofNat, Nat.mod_eq_of_lt (by omega), Nat.mod_eq_of_lt]
  rw [Nat.shiftRight_eq_div_pow]
  exact Nat.lt_of_le_of_lt (Nat.div_le_self _ _) (by omega)
/-! numbers made of fields of two bits -/
def gd_ (D : Nat → Nat) : Nat → Nat
  | 0 => 0
  | n + 1 => 2 ^ (2 * n) * D n + gd_ D n
theorem gd_lt {D : Nat → Nat} (h : ∀ k, D k < 4) : ∀ n, gd_ D n < 2 ^ (2 * n)
  | 0 => by simp [gd_]
  | n + 1 => by
    have h1 := gd_lt h n
    have h2 := h n
    show 2 ^ (2 * n) * D n + gd_ D n < 2 ^ (2 * (n + 1))
    rw [show 2 * (n + 1) = 2 * n + 2 by omega, Nat.pow_add]
    have : 2 ^ (2 * n) * D n ≤ 2 ^ (2 * n) * 3 := Nat.mul_le_mul_left _ (by omega)
    omega
theorem tb_4 {r i : Nat} (h : r < 4) (hi : 2 ≤ i) : r.testBit i = false := Nat.testBit_lt_two_pow (Nat.lt_of_lt_of_le h (show 2 ^ 2 ≤ 2 ^ i from Nat.pow_le_pow_right (by omega) hi))
theorem gd_tb {D : Nat → Nat} (h : ∀ k, D k < 4) : ∀ (n i : Nat), (gd_ D n).testBit i = if i / 2 < n then (D (i / 2)).testBit (i % 2) else false
  | 0, i => by
    rw [if_neg (by omega)]
    exact Nat.zero_testBit i
  | n + 1, i => by
    show (2 ^ (2 * n) * D n + gd_ D n).testBit i = _
    rw [Nat.testBit_two_pow_mul_add _ (gd_lt h n), gd_tb h n i]
    by_cases c : i < 2 * n
    · rw [if_pos c, if_pos (by omega), if_pos (by omega)]
    · rw [if_neg c]
      by_cases c2 : i / 2 < n + 1
      · rw [if_pos c2, show i / 2 = n by omega, show i - 2 * n = i % 2 by omega]
      · rw [if_neg c2, tb_4 (h n) (by omega)]
/-- a field read -/
theorem gd_get {D : Nat → Nat} (h : ∀ k, D k < 4) {n k : Nat} (hk : k < n) : (gd_ D n >>> (2 * k)) &&& 3 = D k := by
  apply Nat.eq_of_testBit_eq
  intro i
  rw [Nat.testBit_and, Nat.testBit_shiftRight, gd_tb h]
  by_cases c : i < 2
  · rw [if_pos (by omega), show (2 * k + i) / 2 = k by omega, show (2 * k + i) % 2 = i by omega]
    have : (3 : Nat).testBit i = true := by
      rcases (show i = 0 ∨ i = 1 by omega) with rfl | rfl <;> decide
    rw [this, Bool.and_true]
  · rw [tb_4 (r := 3) (by omega) (by omega), Bool.and_false, tb_4 (h k) (by omega)]
/-- a field set -/
theorem gd_set {D : Nat → Nat} (h : ∀ k, D k < 4) {n k r : Nat} (hk : k < n) (h0 : D k = 0) (hr : r < 4) : gd_ D n ||| (r <<< (2 * k)) = gd_ (fun j => if j = k then r else D j) n := by
  have h2 : ∀ j, (fun j => if j = k then r else D j) j < 4 := by
    intro j
    show (if j = k then r else D j) < 4
    split
    · exact hr
    · exact h j
  apply Nat.eq_of_testBit_eq
  intro i
  rw [Nat.testBit_or, Nat.testBit_shiftLeft, gd_tb h, gd_tb h2]
  by_cases c : i / 2 = k
  · have c1 : 2 * k ≤ i := by omega
    rw [if_pos (by omega), if_pos (by omega), c, h0, Nat.zero_testBit, Bool.false_or, if_pos rfl, decide_eq_true (show i ≥ 2 * k from c1), Bool.true_and, show i - 2 * k = i % 2 by omega]
  · have e : (decide (i ≥ 2 * k) && r.testBit (i - 2 * k)) = false := by
      by_cases c1 : i ≥ 2 * k
      · rw [tb_4 hr (by omega), Bool.and_false]
      · rw [decide_eq_false c1, Bool.false_and]
    rw [e, Bool.or_false]
    by_cases c2 : i / 2 < n
    · rw [if_pos c2, if_pos c2, if_neg c]
    · rw [if_neg c2, if_neg c2]
theorem gd_ext {D E : Nat → Nat} : ∀ {n : Nat}, (∀ k, k < n → D k = E k) → gd_ D n = gd_ E n
  | 0, _ => rfl
  | n + 1, h => by
    show 2 ^ (2 * n) * D n + gd_ D n = 2 ^ (2 * n) * E n + gd_ E n
    rw [h n (by omega), gd_ext (fun k hk => h k (by omega))]
theorem gd_inj {D E : Nat → Nat} (hD : ∀ k, D k < 4) (hE : ∀ k, E k < 4) {n : Nat} (h : gd_ D n = gd_ E n) : ∀ k, k < n → D k = E k := fun k hk => by
  rw [← gd_get hD hk, ← gd_get hE hk, h]
/-! a size-change graph as such a number: nine relations, the source, the target -/
def gg_ (D : Nat → Nat) : Int32 := nI (gd_ D 11)
theorem gg_b {D : Nat → Nat} (h : ∀ k, D k < 4) : gd_ D 11 < 2147483648 := Nat.lt_of_lt_of_le (gd_lt h 11) (by decide)
theorem x_sourceOf {fu : Nat} {D : Nat → Nat} {σ : js_S} (h : ∀ k, D k < 4) : fX11_sourceOf fu (gg_ D) σ = some (nI (D 9), σ) := by
  unfold fX11_sourceOf gg_
  rw [show ((18 : Int32) &&& 31) = nI 18 from by decide, b_shr (gg_b h) (by omega), show (3 : Int32) = nI 3 from rfl, b_and, gd_get h (k := 9) (by omega)]
theorem x_targetOf {fu : Nat} {D : Nat → Nat} {σ : js_S} (h : ∀ k, D k < 4) : fX11_targetOf fu (gg_ D) σ = some (nI (D 10), σ) := by
  unfold fX11_targetOf gg_
  rw [show ((20 : Int32) &&& 31) = nI 20 from by decide, b_shr (gg_b h) (by omega), show (3 : Int32) = nI 3 from rfl, b_and, gd_get h (k := 10) (by omega)]
theorem n_fld {i j : Nat} (hi : i < 3) (hj : j < 3) : (2 * ((3 * nI i) + nI j)) &&& 31 = nI (2 * (3 * i + j)) := by
  have : ∀ i, i < 3 → ∀ j, j < 3 → (2 * ((3 * nI i) + nI j)) &&& 31 = nI (2 * (3 * i + j)) := by decide +kernel
  exact this i hi j hj
theorem x_relationIn {fu i j : Nat} {D : Nat → Nat} {σ : js_S} (h : ∀ k, D k < 4) (hi : i < 3) (hj : j < 3) : fX11_relationIn fu (gg_ D) (nI i) (nI j) σ = some (nI (D (3 * i + j)), σ) := by
  unfold fX11_relationIn gg_
  rw [n_fld hi hj, b_shr (gg_b h) (by omega), show (3 : Int32) = nI 3 from rfl, b_and, gd_get h (k := 3 * i + j) (by omega)]
theorem x_withRelation {fu i j r : Nat} {D : Nat → Nat} {σ : js_S} (h : ∀ k, D k < 4) (hi : i < 3) (hj : j < 3) (h0 : D (3 * i + j) = 0) (hr : r < 4) : fX11_withRelation fu (gg_ D) (nI i) (nI j) (nI r) σ = some (gg_ (fun k => if k = 3 * i + j then r else D k), σ) := by
  unfold fX11_withRelation gg_
  rw [n_fld hi hj, b_shl (by omega), b_or, gd_set h (k := 3 * i + j) (by omega) h0 hr]
theorem x_emptyGraph {fu s t : Nat} {σ : js_S} (hs : s < 3) (ht : t < 3) : fX11_emptyGraph fu (nI s) (nI t) σ = some (gg_ (fun k => if k = 10 then t else if k = 9 then s else 0), σ) := by
  unfold fX11_emptyGraph
  have : ∀ s, s < 3 → ∀ t, t < 3 → ((nI s <<< ((18 : Int32) &&& 31)) ||| (nI t <<< ((20 : Int32) &&& 31))) = gg_ (fun k => if k = 10 then t else if k = 9 then s else 0) := by decide +kernel
  rw [this s hs t ht]
