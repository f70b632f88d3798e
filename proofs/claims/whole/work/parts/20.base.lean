/-! numbers -/
theorem n_lit (n : Nat) : (OfNat.ofNat n : Int32) = nI n := Eq.trans (show (OfNat.ofNat n : Int32) = Int32.ofNat n from rfl) rfl
theorem n_lt {a b : Nat} (ha : a < 2147483648) (hb : b < 2147483648) : (nI a < nI b) ↔ a < b := nI_ltI ha hb
theorem n_le {a b : Nat} (ha : a < 2147483648) (hb : b < 2147483648) : (nI a ≤ nI b) ↔ a ≤ b := nI_leI ha hb
theorem n_eq {a b : Nat} (ha : a < 2147483648) (hb : b < 2147483648) : (nI a = nI b) ↔ a = b := nI_eq ha hb
theorem n_cl {a : Nat} (ha : a < 2147483648) : (nI a).toNatClampNeg = a := nI_clamp ha
theorem n_add (a b : Nat) : nI a + nI b = nI (a + b) := nI_add a b
theorem n_sub {a b : Nat} (h : b ≤ a) : nI a - nI b = nI (a - b) := by
  have h1 : nI (a - b) + nI b = nI a := by rw [n_add, Nat.sub_add_cancel h]
  rw [← h1, Int32.add_sub_cancel]
theorem n_mul (a b : Nat) : nI a * nI b = nI (a * b) := (Int32.ofNat_mul a b).symm
theorem n_ib {a n : Nat} (ha : a < 2147483648) : ib_ (nI a) n = decide (a < n) := by
  unfold ib_
  rw [n_cl ha]
  have : (0 : Int32) ≤ nI a := nI_pos' ha
  simp [this]
theorem n_of (a : Nat) : Int32.ofNat a = nI a := Eq.trans (show Int32.ofNat a = Int32.ofNat a from rfl) rfl
