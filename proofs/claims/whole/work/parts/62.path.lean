/-! numbers, shorter -/
theorem nle_t {a b : Nat} (h : a ≤ b) (hb : b < 2147483648) : nI a ≤ nI b := (n_le (by omega) hb).mpr h
theorem nle_f {a b : Nat} (h : b < a) (ha : a < 2147483648) : ¬ nI a ≤ nI b := fun z => by have := (n_le ha (by omega)).mp z; omega
theorem nlt_t {a b : Nat} (h : a < b) (hb : b < 2147483648) : nI a < nI b := (n_lt (by omega) hb).mpr h
theorem nlt_f {a b : Nat} (h : b ≤ a) (ha : a < 2147483648) : ¬ nI a < nI b := fun z => by have := (n_lt ha (by omega)).mp z; omega
theorem neq_f {a b : Nat} (h : a ≠ b) (ha : a < 2147483648) (hb : b < 2147483648) : ¬ nI a = nI b := fun z => h ((n_eq ha hb).mp z)
theorem n_s (a : Nat) : nI a + 1 = nI (a + 1) := n_add a 1
theorem ib_t {a n : Nat} (h : a < n) (ha : a < 2147483648) : ib_ (nI a) n = true := by rw [n_ib ha]; exact decide_eq_true h
theorem n4_t {w : Nat} (h : 4 ≤ w) (hw : w < 2147483648) : (4 : Int32) ≤ nI w := nle_t (a := 4) h hw
theorem n4_f {w : Nat} (h : w < 4) : ¬ (4 : Int32) ≤ nI w := nle_f (a := 4) h (by omega)
/-! paths: Warshall's rows -/
def wr_ (E : Nat → Nat → Bool) : Nat → Nat → Nat → Bool
  | 0, i, j => E i j
  | m + 1, i, j => wr_ E m i j || (wr_ E m i m && wr_ E m m j)
theorem wr_s {E : Nat → Nat → Bool} {m i j : Nat} : wr_ E (m + 1) i j = (wr_ E m i j || (wr_ E m i m && wr_ E m m j)) := rfl
theorem wr_trans {E : Nat → Nat → Bool} : ∀ {m i j k : Nat}, k < m → wr_ E m i k = true → wr_ E m k j = true → wr_ E m i j = true
  | 0, i, j, k, hk, _, _ => by omega
  | m + 1, i, j, k, hk, h1, h2 => by
    rw [wr_s] at h1 h2 ⊢
    simp only [Bool.or_eq_true, Bool.and_eq_true] at h1 h2 ⊢
    by_cases c : k = m
    · subst c
      have a1 : wr_ E k i k = true := h1.elim id (fun q => q.1)
      have a2 : wr_ E k k j = true := h2.elim id (fun q => q.2)
      exact Or.inr ⟨a1, a2⟩
    · have hk2 : k < m := by omega
      rcases h1 with h1 | h1 <;> rcases h2 with h2 | h2
      · exact Or.inl (wr_trans hk2 h1 h2)
      · exact Or.inr ⟨wr_trans hk2 h1 h2.1, h2.2⟩
      · exact Or.inr ⟨h1.1, wr_trans hk2 h1.2 h2⟩
      · exact Or.inr ⟨h1.1, h2.2⟩
theorem wr_src {E : Nat → Nat → Bool} {p : Nat → Prop} (h : ∀ i j, E i j = true → p i) : ∀ {m i j : Nat}, wr_ E m i j = true → p i
  | 0, i, j, q => h i j q
  | m + 1, i, j, q => by
    rw [wr_s] at q
    simp only [Bool.or_eq_true, Bool.and_eq_true] at q
    exact q.elim (fun z => wr_src h z) (fun z => wr_src h z.1)
theorem wr_tgt {E : Nat → Nat → Bool} {p : Nat → Prop} (h : ∀ i j, E i j = true → p j) : ∀ {m i j : Nat}, wr_ E m i j = true → p j
  | 0, i, j, q => h i j q
  | m + 1, i, j, q => by
    rw [wr_s] at q
    simp only [Bool.or_eq_true, Bool.and_eq_true] at q
    exact q.elim (fun z => wr_tgt h z) (fun z => wr_tgt h z.2)
theorem wr_ext {E F : Nat → Nat → Bool} {n : Nat} (h : ∀ i j, i < n → j < n → E i j = F i j) : ∀ {m i j : Nat}, m ≤ n → i < n → j < n → wr_ E m i j = wr_ F m i j
  | 0, i, j, _, hi, hj => h i j hi hj
  | m + 1, i, j, hm, hi, hj => by
    rw [wr_s, wr_s, wr_ext h (m := m) (by omega) hi hj, wr_ext h (m := m) (i := i) (j := m) (by omega) hi (by omega), wr_ext h (m := m) (i := m) (j := j) (by omega) (by omega) hj]
/-- columns cut as well as rows -/
theorem wr_cut {E : Nat → Nat → Bool} {L : Nat → Bool} : ∀ {m i j : Nat}, wr_ (fun i j => E i j && (L i && L j)) m i j = (wr_ (fun i j => E i j && L i) m i j && L j)
  | 0, i, j => by
    show (E i j && (L i && L j)) = ((E i j && L i) && L j)
    rw [Bool.and_assoc]
  | m + 1, i, j => by
    rw [wr_s, wr_s, wr_cut, wr_cut, wr_cut]
    have h : wr_ (fun i j => E i j && L i) m m j = true → L m = true := fun q => wr_src (p := fun i => L i = true) (fun i j z => by simp only [Bool.and_eq_true] at z; exact z.2) q
    cases h1 : wr_ (fun i j => E i j && L i) m m j with
    | false => simp
    | true =>
      rw [h h1]
      cases wr_ (fun i j => E i j && L i) m i j <;> cases wr_ (fun i j => E i j && L i) m i m <;> cases L j <;> rfl
/-! on a cycle together -/
def mu_ (r : Nat → Nat → Bool) (i j : Nat) : Bool := r i j && r j i
def qv_ (R : Nat → Nat → Bool) (n : Nat) : Prop := (∀ i j, R i j = true → R j i = true) ∧ (∀ i j k, R i k = true → R k j = true → R i j = true) ∧ ∀ i j, R i j = true → i < n ∧ j < n
theorem mu_qv {E : Nat → Nat → Bool} {n : Nat} (h : ∀ i j, E i j = true → i < n ∧ j < n) : qv_ (mu_ (wr_ E n)) n := by
  have hb : ∀ i j, wr_ E n i j = true → i < n ∧ j < n := fun i j q => ⟨wr_src (p := fun i => i < n) (fun i j z => (h i j z).1) q, wr_tgt (p := fun i => i < n) (fun i j z => (h i j z).2) q⟩
  refine ⟨fun i j q => ?_, fun i j k q r => ?_, fun i j q => ?_⟩
  · unfold mu_ at q ⊢
    rw [Bool.and_comm]
    exact q
  · unfold mu_ at q r ⊢
    simp only [Bool.and_eq_true] at q r ⊢
    have hk := (hb i k q.1).2
    exact ⟨wr_trans hk q.1 r.1, wr_trans hk r.2 q.2⟩
  · unfold mu_ at q
    simp only [Bool.and_eq_true] at q
    exact hb i j q.1
theorem mu_d {r : Nat → Nat → Bool} {i : Nat} : mu_ r i i = r i i := Bool.and_self _
theorem mu_cut {E : Nat → Nat → Bool} {L : Nat → Bool} {m i j : Nat} : mu_ (wr_ (fun i j => E i j && (L i && L j)) m) i j = mu_ (wr_ (fun i j => E i j && L i) m) i j := by
  have h : ∀ {i j}, wr_ (fun i j => E i j && L i) m i j = true → L i = true := fun q => wr_src (p := fun i => L i = true) (fun i j z => by simp only [Bool.and_eq_true] at z; exact z.2) q
  unfold mu_
  rw [wr_cut, wr_cut]
  cases h1 : wr_ (fun i j => E i j && L i) m i j with
  | false => simp
  | true =>
    rw [h h1]
    cases h2 : wr_ (fun i j => E i j && L i) m j i with
    | false => simp
    | true => rw [h h2]; rfl
/-! the lowest of a component, the components' numbers -/
def ll_ (R : Nat → Nat → Bool) (i : Nat) : Nat → Nat → Nat
  | 0, l => l
  | d + 1, l => if R i l = true then l else ll_ R i d (l + 1)
theorem ll_s {R : Nat → Nat → Bool} {i d l : Nat} : ll_ R i (d + 1) l = if R i l = true then l else ll_ R i d (l + 1) := rfl
theorem ll_spec {R : Nat → Nat → Bool} {i : Nat} (hi : R i i = true) : ∀ (d l : Nat), l + d = i → R i (ll_ R i d l) = true ∧ l ≤ ll_ R i d l ∧ ll_ R i d l ≤ i ∧ ∀ q, l ≤ q → q < ll_ R i d l → R i q = false
  | 0, l, h => by
    have e : l = i := by omega
    subst e
    exact ⟨hi, Nat.le_refl _, Nat.le_refl _, fun q h1 h2 => by have : q < l := h2; omega⟩
  | d + 1, l, h => by
    rw [ll_s]
    by_cases c : R i l = true
    · rw [if_pos c]
      exact ⟨c, Nat.le_refl _, by omega, fun q h1 h2 => by omega⟩
    · rw [if_neg c]
      obtain ⟨a1, a2, a3, a4⟩ := ll_spec hi d (l + 1) (by omega)
      refine ⟨a1, by omega, a3, fun q h1 h2 => ?_⟩
      by_cases e : q = l
      · rw [e]; simpa using c
      · exact a4 q (by omega) h2
def lo2_ (R : Nat → Nat → Bool) (i : Nat) : Nat := ll_ R i i 0
theorem lo2_spec {R : Nat → Nat → Bool} {i : Nat} (hi : R i i = true) : R i (lo2_ R i) = true ∧ lo2_ R i ≤ i ∧ ∀ q, q < lo2_ R i → R i q = false := by
  obtain ⟨a1, a2, a3, a4⟩ := ll_spec hi i 0 (by omega)
  exact ⟨a1, a3, fun q h => a4 q (Nat.zero_le _) h⟩
theorem lo2_eq {R : Nat → Nat → Bool} {n i j : Nat} (h : qv_ R n) (hr : R i j = true) : lo2_ R i = lo2_ R j := by
  have ii := h.2.1 i i j hr (h.1 _ _ hr)
  have jj := h.2.1 j j i (h.1 _ _ hr) hr
  obtain ⟨a1, a2, a3⟩ := lo2_spec ii
  obtain ⟨b1, b2, b3⟩ := lo2_spec jj
  have c1 := h.2.1 i (lo2_ R j) j hr b1
  have c2 := h.2.1 j (lo2_ R i) i (h.1 _ _ hr) a1
  rcases Nat.lt_trichotomy (lo2_ R i) (lo2_ R j) with q | q | q
  · rw [b3 _ q] at c2; cases c2
  · exact q
  · rw [a3 _ q] at c1; cases c1
theorem lo2_lo {R : Nat → Nat → Bool} {n i : Nat} (h : qv_ R n) (hi : R i i = true) : lo2_ R (lo2_ R i) = lo2_ R i := (lo2_eq h (lo2_spec hi).1).symm
def lb_ (R : Nat → Nat → Bool) (i : Nat) : Bool := R i i && decide (lo2_ R i = i)
def ct2_ (R : Nat → Nat → Bool) : Nat → Nat
  | 0 => 0
  | i + 1 => ct2_ R i + (if lb_ R i = true then 1 else 0)
def mb_ (R : Nat → Nat → Bool) : Nat → Nat
  | 0 => 0
  | i + 1 => mb_ R i + (if R i i = true then 1 else 0)
theorem ct2_s {R : Nat → Nat → Bool} {i : Nat} : ct2_ R (i + 1) = ct2_ R i + (if lb_ R i = true then 1 else 0) := rfl
theorem mb_s {R : Nat → Nat → Bool} {i : Nat} : mb_ R (i + 1) = mb_ R i + (if R i i = true then 1 else 0) := rfl
theorem ct2_le {R : Nat → Nat → Bool} : ∀ {i : Nat}, ct2_ R i ≤ i
  | 0 => Nat.le_refl _
  | i + 1 => by
    have := ct2_le (R := R) (i := i)
    rw [ct2_s]
    split <;> omega
theorem mb_le {R : Nat → Nat → Bool} : ∀ {i : Nat}, mb_ R i ≤ i
  | 0 => Nat.le_refl _
  | i + 1 => by
    have := mb_le (R := R) (i := i)
    rw [mb_s]
    split <;> omega
theorem ct2_mono {R : Nat → Nat → Bool} {i : Nat} : ∀ {d : Nat}, ct2_ R i ≤ ct2_ R (i + d)
  | 0 => Nat.le_refl _
  | d + 1 => by
    have := ct2_mono (R := R) (i := i) (d := d)
    rw [← Nat.add_assoc, ct2_s]
    omega
/-- the number of i's component -/
def nu_ (R : Nat → Nat → Bool) (i : Nat) : Nat := ct2_ R (lo2_ R i)
theorem nu_lt {R : Nat → Nat → Bool} {n i : Nat} (h : qv_ R n) (hi : R i i = true) : nu_ R i < ct2_ R n := by
  have hl := (h.2.2 _ _ (lo2_spec hi).1).2
  have e : lb_ R (lo2_ R i) = true := by
    unfold lb_
    have := h.2.1 _ _ i (h.1 _ _ (lo2_spec hi).1) (lo2_spec hi).1
    rw [this, lo2_lo h hi]
    simp
  have h1 : ct2_ R (lo2_ R i + 1) = ct2_ R (lo2_ R i) + 1 := by rw [ct2_s, if_pos e]
  have h2 := ct2_mono (R := R) (i := lo2_ R i + 1) (d := n - (lo2_ R i + 1))
  rw [show lo2_ R i + 1 + (n - (lo2_ R i + 1)) = n by omega] at h2
  unfold nu_
  omega
/-- the class's number, the model's number -/
def nc2_ (R : Nat → Nat → Bool) (i : Nat) : Int32 := if R i i = true then nI (nu_ R i) else -1
def nm_ (R : Nat → Nat → Bool) (i : Nat) : Int32 := if R i i = true then nI (nu_ R i) else -5
theorem lb_f {R : Nat → Nat → Bool} {i : Nat} (h : R i i = false) : lb_ R i = false := by
  unfold lb_
  rw [h]
  rfl
theorem ct2_ext {R S : Nat → Nat → Bool} {n : Nat} (h : ∀ i j, i < n → j < n → R i j = S i j) : ∀ {m : Nat}, m ≤ n → ct2_ R m = ct2_ S m ∧ mb_ R m = mb_ S m
  | 0, _ => ⟨rfl, rfl⟩
  | m + 1, hm => by
    have ih := ct2_ext h (m := m) (by omega)
    have hl : ∀ d l, l + d = m → ll_ R m d l = ll_ S m d l := by
      intro d
      induction d with
      | zero => intro l _; rfl
      | succ d ihd =>
        intro l hl
        rw [ll_s, ll_s, ihd (l + 1) (by omega), h m l (by omega) (by omega)]
    have e : lb_ R m = lb_ S m := by
      unfold lb_ lo2_
      rw [hl m 0 (by omega), h m m (by omega) (by omega)]
    rw [ct2_s, ct2_s, mb_s, mb_s, ih.1, ih.2, e, h m m (by omega) (by omega)]
    exact ⟨rfl, rfl⟩
