/-! Long.bitCount -/
theorem y8_add {D E : Nat → Nat} : y8_ D + y8_ E = y8_ (fun i => D i + E i) := by
  simp only [y8_]
  omega
theorem y8_sub {D E : Nat → Nat} (h : ∀ i, E i ≤ D i) : y8_ D - y8_ E = y8_ (fun i => D i - E i) := by
  have e : y8_ E + y8_ (fun i => D i - E i) = y8_ D := by
    rw [y8_add]
    congr 1
    funext i
    exact Nat.add_sub_cancel' (h i)
  rw [← e, Nat.add_sub_cancel_left]
theorem y8_mono {D E : Nat → Nat} (h : ∀ i, E i ≤ D i) : y8_ E ≤ y8_ D := by
  have h0 := h 0
  have h1 := h 1
  have h2 := h 2
  have h3 := h 3
  have h4 := h 4
  have h5 := h 5
  have h6 := h 6
  have h7 := h 7
  unfold y8_
  omega
theorem y8_16 {D : Nat → Nat} (h : ∀ i, D i < 256) (h8 : D 8 = 0) : y8_ D >>> 4 = y8_ (fun i => D i / 16 + 16 * (D (i + 1) % 16)) := by
  have h0 := h 0
  have h1 := h 1
  have h2 := h 2
  have h3 := h 3
  have h4 := h 4
  have h5 := h 5
  have h6 := h 6
  have h7 := h 7
  rw [Nat.shiftRight_eq_div_pow]
  unfold y8_
  show _ / 2 ^ 4 = D 0 / 16 + 16 * (D 1 % 16) + 256 * (D 1 / 16 + 16 * (D 2 % 16)) + 65536 * (D 2 / 16 + 16 * (D 3 % 16)) + 16777216 * (D 3 / 16 + 16 * (D 4 % 16)) + 4294967296 * (D 4 / 16 + 16 * (D 5 % 16)) + 1099511627776 * (D 5 / 16 + 16 * (D 6 % 16)) + 281474976710656 * (D 6 / 16 + 16 * (D 7 % 16)) + 72057594037927936 * (D 7 / 16 + 16 * (D 8 % 16))
  rw [h8]
  omega
theorem y8_hA {D : Nat → Nat} (h : ∀ i, D i ≤ 8) : D 0 + D 1 + D 2 + D 3 + 256 * (D 1 + D 2 + D 3 + D 4) + 65536 * (D 2 + D 3 + D 4 + D 5) + 16777216 * (D 3 + D 4 + D 5 + D 6) < 2 ^ 32 := by
  have h0 := h 0
  have h1 := h 1
  have h2 := h 2
  have h3 := h 3
  have h4 := h 4
  have h5 := h 5
  have h6 := h 6
  clear h
  omega
theorem y8_hB {D : Nat → Nat} : D 0 + D 1 + D 2 + D 3 + 256 * (D 1 + D 2 + D 3 + D 4) + 65536 * (D 2 + D 3 + D 4 + D 5) + 16777216 * (D 3 + D 4 + D 5 + D 6) + 4294967296 * (D 4 + D 5 + D 6 + D 7) + 1099511627776 * (D 5 + D 6 + D 7) + 281474976710656 * (D 6 + D 7) + 72057594037927936 * D 7 = (D 0 + D 1 + D 2 + D 3 + 256 * (D 1 + D 2 + D 3 + D 4) + 65536 * (D 2 + D 3 + D 4 + D 5) + 16777216 * (D 3 + D 4 + D 5 + D 6)) + 2 ^ 32 * (D 4 + D 5 + D 6 + D 7 + 256 * (D 5 + D 6 + D 7) + 65536 * (D 6 + D 7) + 16777216 * D 7) := by
  omega
theorem y8_hC {D : Nat → Nat} : D 0 + D 1 + D 2 + D 3 + 256 * (D 1 + D 2 + D 3 + D 4) + 65536 * (D 2 + D 3 + D 4 + D 5) + 16777216 * (D 3 + D 4 + D 5 + D 6) + 4294967296 * (D 4 + D 5 + D 6 + D 7) + 1099511627776 * (D 5 + D 6 + D 7) + 281474976710656 * (D 6 + D 7) + 72057594037927936 * D 7 + (D 4 + D 5 + D 6 + D 7 + 256 * (D 5 + D 6 + D 7) + 65536 * (D 6 + D 7) + 16777216 * D 7) = (D 0 + D 1 + D 2 + D 3 + D 4 + D 5 + D 6 + D 7) + 128 * (2 * (D 1 + D 2 + D 3 + D 4 + D 5 + D 6 + D 7) + 512 * (D 2 + D 3 + D 4 + D 5 + D 6 + D 7) + 131072 * (D 3 + D 4 + D 5 + D 6 + D 7) + 33554432 * (D 4 + D 5 + D 6 + D 7) + 8589934592 * (D 5 + D 6 + D 7) + 2199023255552 * (D 6 + D 7) + 562949953421312 * D 7) := by
  omega
theorem y8_fold {D : Nat → Nat} {X : Nat} (h : ∀ i, D i ≤ 8) (hX : X = y8_ D) : ∃ Z, X + X >>> 8 + (X + X >>> 8) >>> 16 + (X + X >>> 8 + (X + X >>> 8) >>> 16) >>> 32 = Z ∧ X + X >>> 8 < 2 ^ 64 ∧ X + X >>> 8 + (X + X >>> 8) >>> 16 < 2 ^ 64 ∧ Z % 128 = D 0 + D 1 + D 2 + D 3 + D 4 + D 5 + D 6 + D 7 := by
  have h0 := h 0
  have h1 := h 1
  have h2 := h 2
  have h3 := h 3
  have h4 := h 4
  have h5 := h 5
  have h6 := h 6
  have h7 := h 7
  refine ⟨_, rfl, ?_⟩
  have e1 : X + X >>> 8 = D 0 + D 1 + 256 * (D 1 + D 2) + 65536 * (D 2 + D 3) + 16777216 * (D 3 + D 4) + 4294967296 * (D 4 + D 5) + 1099511627776 * (D 5 + D 6) + 281474976710656 * (D 6 + D 7) + 72057594037927936 * D 7 := by
    rw [Nat.shiftRight_eq_div_pow, hX]
    unfold y8_
    omega
  have e2 : X + X >>> 8 + (X + X >>> 8) >>> 16 = D 0 + D 1 + D 2 + D 3 + 256 * (D 1 + D 2 + D 3 + D 4) + 65536 * (D 2 + D 3 + D 4 + D 5) + 16777216 * (D 3 + D 4 + D 5 + D 6) + 4294967296 * (D 4 + D 5 + D 6 + D 7) + 1099511627776 * (D 5 + D 6 + D 7) + 281474976710656 * (D 6 + D 7) + 72057594037927936 * D 7 := by
    rw [e1, Nat.shiftRight_eq_div_pow]
    omega
  refine ⟨by rw [e1]; omega, by rw [e2]; omega, ?_⟩
  have e3 : (X + X >>> 8 + (X + X >>> 8) >>> 16) >>> 32 = D 4 + D 5 + D 6 + D 7 + 256 * (D 5 + D 6 + D 7) + 65536 * (D 6 + D 7) + 16777216 * D 7 := by
    have hA := y8_hA h
    have hB := y8_hB (D := D)
    rw [e2, Nat.shiftRight_eq_div_pow, hB, Nat.add_mul_div_left _ _ (by decide), Nat.div_eq_of_lt hA, Nat.zero_add]
  have hC := y8_hC (D := D)
  rw [e3, e2, hC, Nat.add_mul_mod_self_left, Nat.mod_eq_of_lt (by clear e1 e2 e3 hC; omega)]
/-- the shift counts -/
theorem c_sh : ((Int64.toUInt64 (Int32.toInt64 1)) &&& Int64.toUInt64 63).toBitVec = BitVec.ofNat 64 1 ∧ ((Int64.toUInt64 (Int32.toInt64 2)) &&& Int64.toUInt64 63).toBitVec = BitVec.ofNat 64 2 ∧ ((Int64.toUInt64 (Int32.toInt64 4)) &&& Int64.toUInt64 63).toBitVec = BitVec.ofNat 64 4 ∧ ((Int64.toUInt64 (Int32.toInt64 8)) &&& Int64.toUInt64 63).toBitVec = BitVec.ofNat 64 8 ∧ ((Int64.toUInt64 (Int32.toInt64 16)) &&& Int64.toUInt64 63).toBitVec = BitVec.ofNat 64 16 ∧ ((Int64.toUInt64 (Int32.toInt64 32)) &&& Int64.toUInt64 63).toBitVec = BitVec.ofNat 64 32 := by decide +kernel
theorem n_127 (a : Nat) : nI a &&& 127 = nI (a % 128) := by
  rw [show (127 : Int32) = nI 127 from rfl, b_and, show (127 : Nat) = 2 ^ 7 - 1 by rfl, Nat.and_two_pow_sub_one_eq_mod]
theorem j13_bitCount {fu : Nat} {x : Int64} {σ : js_S} : fJ13_bitCount_95d88 fu x σ = some (nI (bu_ (jb_ x) 64 0), σ) := by
  obtain ⟨c1, c2, c3, c4, c5, c6⟩ := c_sh
  obtain ⟨D, hx, hD, h8, hb⟩ : ∃ D : Nat → Nat, x = Int64.ofNat (y8_ D) ∧ (∀ i, D i < 256) ∧ D 8 = 0 ∧ bu_ (jb_ x) 64 0 = bu_ (y8_ D).testBit 64 0 := by
    have hX : x.toBitVec.toNat < 2 ^ 64 := x.toBitVec.isLt
    refine ⟨fun i => x.toBitVec.toNat / 2 ^ (8 * i) % 256, by rw [← y8_of hX, j_ofN], fun i => Nat.mod_lt _ (by omega), ?_, ?_⟩
    · show x.toBitVec.toNat / 2 ^ (8 * 8) % 256 = 0
      rw [Nat.div_eq_of_lt hX]
    · rw [← y8_of hX]
      rfl
  rw [hb, y8_byte hD]
  clear hb
  subst hx
  have p : ∀ i, _ := fun i => byte_pc (D i) (hD i)
  have m1 : (6148914691236517205 : Int64) = Int64.ofNat (y8_ (fun _ => 85)) := by decide +kernel
  have m2 : (3689348814741910323 : Int64) = Int64.ofNat (y8_ (fun _ => 51)) := by decide +kernel
  have m3 : (1085102592571150095 : Int64) = Int64.ofNat (y8_ (fun _ => 15)) := by decide +kernel
  have z51 : ∀ E : Nat → Nat, (∀ i, E i < 256) → y8_ E &&& y8_ (fun _ => 51) = y8_ (fun i => E i &&& 51) := fun E hE => by
    have := y8_and (s := 0) (c := 51) hE (by omega) (by decide)
    simpa using this
  have z15 : ∀ E : Nat → Nat, (∀ i, E i < 256) → y8_ E &&& y8_ (fun _ => 15) = y8_ (fun i => E i &&& 15) := fun E hE => by
    have := y8_and (s := 0) (c := 15) hE (by omega) (by decide)
    simpa using this
  have h1 : ∀ i, (fun i => s1_ (D i)) i < 256 := fun i => (p i).2.1
  have e1 : Int64.ofNat (y8_ D) - ((((Int64.toUInt64 (Int64.ofNat (y8_ D))) >>> ((Int64.toUInt64 (Int32.toInt64 1)) &&& Int64.toUInt64 63)).toInt64) &&& (6148914691236517205 : Int64)) = Int64.ofNat (y8_ (fun i => s1_ (D i))) := by
    rw [j_shr (y8_lt hD) c1 (by omega), m1, j_and, y8_and hD (by omega) (by decide), j_sub (y8_mono (fun i => (p i).2.2.2.2.1)), y8_sub (fun i => (p i).2.2.2.2.1)]
    rfl
  have h2 : ∀ i, (fun i => s2_ (s1_ (D i))) i < 256 := fun i => by
    have := (p i).2.2
    show s2_ (s1_ (D i)) < 256
    omega
  have e2 : (Int64.ofNat (y8_ (fun i => s1_ (D i))) &&& (3689348814741910323 : Int64)) + ((((Int64.toUInt64 (Int64.ofNat (y8_ (fun i => s1_ (D i))))) >>> ((Int64.toUInt64 (Int32.toInt64 2)) &&& Int64.toUInt64 63)).toInt64) &&& (3689348814741910323 : Int64)) = Int64.ofNat (y8_ (fun i => s2_ (s1_ (D i)))) := by
    rw [j_shr (y8_lt h1) c2 (by omega), m2, j_and, j_and, y8_and h1 (by omega) (by decide), z51 _ h1, j_add, y8_add]
    rfl
  have h28 : (fun i => s2_ (s1_ (D i))) 8 = 0 := by
    show s2_ (s1_ (D 8)) = 0
    rw [h8]
    rfl
  have h3 : ∀ i, (fun i => s2_ (s1_ (D i)) + (s2_ (s1_ (D i)) / 16 + 16 * (s2_ (s1_ (D (i + 1))) % 16))) i < 256 := fun i => by
    have q1 := (p i).2.2
    have q2 := (p (i + 1)).2.2
    show s2_ (s1_ (D i)) + (s2_ (s1_ (D i)) / 16 + 16 * (s2_ (s1_ (D (i + 1))) % 16)) < 256
    omega
  have e3 : (Int64.ofNat (y8_ (fun i => s2_ (s1_ (D i)))) + (((Int64.toUInt64 (Int64.ofNat (y8_ (fun i => s2_ (s1_ (D i)))))) >>> ((Int64.toUInt64 (Int32.toInt64 4)) &&& Int64.toUInt64 63)).toInt64)) &&& (1085102592571150095 : Int64) = Int64.ofNat (y8_ (fun i => s3_ (s2_ (s1_ (D i))))) := by
    rw [j_shr (y8_lt h2) c3 (by omega), y8_16 h2 h28, j_add, y8_add, m3, j_and, z15 _ h3]
    congr 2
    funext i
    have q1 := (p i).2.2
    show (s2_ (s1_ (D i)) + (s2_ (s1_ (D i)) / 16 + 16 * (s2_ (s1_ (D (i + 1))) % 16))) &&& 15 = (s2_ (s1_ (D i)) + s2_ (s1_ (D i)) / 16) % 16
    rw [show (15 : Nat) = 2 ^ 4 - 1 by rfl, Nat.and_two_pow_sub_one_eq_mod]
    omega
  obtain ⟨Z, f1, f2, f3, f4⟩ := y8_fold (D := fun i => s3_ (s2_ (s1_ (D i)))) (X := y8_ (fun i => s3_ (s2_ (s1_ (D i))))) (fun i => (p i).2.2.2.2.2) rfl
  have hX3 : y8_ (fun i => s3_ (s2_ (s1_ (D i)))) < 2 ^ 64 := y8_lt (fun i => by have := (p i).2.2.2.2.2; show s3_ (s2_ (s1_ (D i))) < 256; omega)
  unfold fJ13_bitCount_95d88
  rw [e1, e2, e3, j_shr hX3 c4 (by omega), j_add, j_shr f2 c5 (by omega), j_add, j_shr f3 c6 (by omega), j_add, f1, j_i32, n_127, f4, (p 0).1, (p 1).1, (p 2).1, (p 3).1, (p 4).1, (p 5).1, (p 6).1, (p 7).1]
