/-! bits of longs -/
theorem d_64 {t : Nat} (h : t < 240) : nI t / 64 = nI (t / 64) ∧ nI t - nI t / 64 * 64 = nI (t % 64) ∧ ((nI (t % 64)).toInt64 &&& 63) = Int64.ofNat (t % 64) := by
  have : ∀ t, t < 240 → nI t / 64 = nI (t / 64) ∧ nI t - nI t / 64 * 64 = nI (t % 64) ∧ ((nI (t % 64)).toInt64 &&& 63) = Int64.ofNat (t % 64) := by decide +kernel
  exact this t h
theorem j_v (a : Nat) : (Int64.ofNat a).toBitVec = BitVec.ofNat 64 a := rfl
theorem j_smod {k : Nat} (hk : k < 64) : ((Int64.ofNat k).toBitVec.smod (64 : BitVec 64)).toNat = k := by
  rw [j_v]
  have : ∀ k, k < 64 → ((BitVec.ofNat 64 k).smod 64#64).toNat = k := by decide +kernel
  exact this k hk
/-- bit k of a long -/
def jb_ (x : Int64) (k : Nat) : Bool := x.toBitVec.getLsbD k
theorem jb_0 {k : Nat} : jb_ 0 k = false := by
  unfold jb_
  show (0#64).getLsbD k = false
  exact BitVec.getLsbD_zero
theorem jb_or {x y : Int64} {k : Nat} : jb_ (x ||| y) k = (jb_ x k || jb_ y k) := by
  unfold jb_
  rw [Int64.toBitVec_or, BitVec.getLsbD_or]
theorem jb_one {k i : Nat} (hk : k < 64) (hi : i < 64) : jb_ ((1 : Int64) <<< Int64.ofNat k) i = decide (i = k) := by
  unfold jb_
  rw [Int64.toBitVec_shiftLeft, BitVec.shiftLeft_eq', j_smod hk]
  show ((1#64) <<< k).getLsbD i = _
  rw [BitVec.getLsbD_shiftLeft, BitVec.getLsbD_one]
  by_cases c : i = k
  · subst c
    simp [hi]
  · rw [decide_eq_false c]
    by_cases c2 : i < k
    · simp [c2]
    · have : ¬ i - k = 0 := by omega
      simp [this]
theorem jb_shr {x : Int64} {k : Nat} (hk : k < 64) : ((x >>> Int64.ofNat k) &&& (1 : Int64)) = if jb_ x k = true then 1 else 0 := by
  apply Int64.toBitVec_inj.mp
  rw [Int64.toBitVec_and, Int64.toBitVec_shiftRight, BitVec.sshiftRight_eq', j_smod hk]
  apply BitVec.eq_of_getLsbD_eq
  intro i hi
  rw [BitVec.getLsbD_and, BitVec.getLsbD_sshiftRight]
  have e1 : ((1 : Int64).toBitVec).getLsbD i = decide (i = 0) := by
    show (1#64).getLsbD i = _
    rw [BitVec.getLsbD_one]
    simp
  rw [e1]
  by_cases c : i = 0
  · subst c
    unfold jb_
    cases h : x.toBitVec.getLsbD k with
    | true =>
      simp [hk, h]
    | false =>
      simp [hk, h]
  · rw [decide_eq_false c, Bool.and_false]
    by_cases h : jb_ x k = true
    · rw [if_pos h, e1, decide_eq_false c]
    · rw [if_neg h]
      exact BitVec.getLsbD_zero.symm
/-! a graph of pairs, as the bits of its longs -/
def eb_ (σ : js_S) (o f t : Nat) : Bool := jb_ (σ.2.1 o (4 * f + t / 64)) (t % 64)
def go_ (σ : js_S) (p o : Nat) : Prop := σ.2.2 p 0 = o ∧ ln_ o = 960
theorem x4_covers {fu f t : Nat} {σ : js_S} (hf : f < 240) (ht : t < 240) : fX4_covers fu (nI f) (nI t) σ = some (1, σ) := by
  unfold fX4_covers
  have c1 : ¬ 240 ≤ nI f := fun z => by have := (n_le (a := 240) (by omega) (by omega)).mp z; omega
  have c2 : ¬ 240 ≤ nI t := fun z => by have := (n_le (a := 240) (by omega) (by omega)).mp z; omega
  rw [if_neg (nI_pos (by omega)), if_neg c1, if_neg (nI_pos (by omega)), if_neg c2]
theorem n_cell {f t : Nat} (ht : t < 240) : nI f * 4 + nI t / 64 = nI (4 * f + t / 64) := by
  rw [(d_64 ht).1, show nI f * 4 = nI (f * 4) from n_mul f 4, n_add, Nat.mul_comm f 4]
theorem x4_connect {σ : js_S} {p o f t : Nat} (h : go_ σ p o) (hf : f < 240) (ht : t < 240) : ∃ σ', fX4_connect 5000 p (nI f) (nI t) σ = some ((), σ') ∧ σ'.1 = σ.1 ∧ σ'.2.2 = σ.2.2 ∧ (∀ a, a ≠ o → σ'.2.1 a = σ.2.1 a) ∧ ∀ f' t', t' < 256 → eb_ σ' o f' t' = (eb_ σ o f' t' || (decide (f' = f) && decide (t' = t))) := by
  refine ⟨uJ_ σ o (4 * f + t / 64) (σ.2.1 o (4 * f + t / 64) ||| ((1 : Int64) <<< Int64.ofNat (t % 64))), ?_, rfl, rfl, fun a ha => ?_, fun f' t' ht' => ?_⟩
  · unfold fX4_connect
    rw [x4_covers hf ht, bd_s, if_neg (by decide), n_cell ht, h.1, h.2, n_ib (by omega), if_pos (by simp; omega), if_pos (by simp; omega), n_cl (by omega), (d_64 ht).2.1, (d_64 ht).2.2, lt_s_]
  · funext b
    show (if a = o ∧ b = 4 * f + t / 64 then _ else _) = _
    rw [if_neg (fun z => ha z.1)]
  · unfold eb_
    show jb_ (if o = o ∧ 4 * f' + t' / 64 = 4 * f + t / 64 then _ else _) _ = _
    by_cases c : 4 * f' + t' / 64 = 4 * f + t / 64
    · rw [if_pos ⟨rfl, c⟩, jb_or, jb_one (by omega) (by omega), c]
      have hff : f' = f := by omega
      rw [decide_eq_true hff, Bool.true_and]
      have : decide (t' % 64 = t % 64) = decide (t' = t) := by
        by_cases c2 : t' = t
        · rw [decide_eq_true c2, decide_eq_true (by rw [c2])]
        · rw [decide_eq_false c2, decide_eq_false (by omega)]
      rw [this]
    · rw [if_neg (fun z => c z.2)]
      have : (decide (f' = f) && decide (t' = t)) = false := by
        by_cases c2 : f' = f
        · rw [decide_eq_false (show ¬ t' = t from fun z => c (by rw [c2, z])), Bool.and_false]
        · rw [decide_eq_false c2, Bool.false_and]
      rw [this, Bool.or_false]
