/-! the model: what is read -/
theorem m_isIn {fu : Nat} {x a b : Int32} {σ : js_S} : fX12_isIn fu x a b σ = some ((if x < a then 0 else if b < x then 0 else 1), σ) := by
  unfold fX12_isIn
  split
  · rfl
  · split <;> rfl
theorem m_nzi {x a b : Int32} : nz_ (if x < a then (0 : Int32) else if b < x then 0 else 1) = (if x < a then 0 else if b < x then 0 else 1) := by
  split
  · exact nz0
  · split
    · exact nz0
    · exact nz1
theorem n_neg {x : Int32} {a : Nat} (h : x < 0) (ha : a < 2147483648) : x < nI a := by
  have h1 : (0 : Int32) ≤ nI a := nI_pos' ha
  rw [Int32.lt_iff_toInt_lt] at h ⊢
  rw [Int32.le_iff_toInt_le] at h1
  omega
theorem n_negc {x : Int32} (h : x < 0) : ¬ ∃ k, k < 2147483648 ∧ x = nI k := by
  rintro ⟨k, hk, rfl⟩
  exact nI_pos hk h
theorem isF_neg {x : Int32} (h : x < 0) : isF_ x = false := by
  have e : ∀ y : Int32, ¬ y < 0 → (x == y) = false := fun y hy => by
    rw [beq_eq_false_iff_ne]
    exact fun q => hy (q ▸ h)
  unfold isF_
  rw [e 102 (by decide), e 103 (by decide), e 104 (by decide)]
  rfl
theorem n_beq {a b : Nat} (ha : a < 2147483648) (hb : b < 2147483648) : (nI a == nI b) = decide (a = b) := by
  by_cases h : a = b
  · subst h
    simp
  · simp only [h, decide_false, beq_eq_false_iff_ne]
    exact fun q => h ((n_eq ha hb).mp q)
theorem isF_nat {k : Nat} (hk : k < 2147483648) : isF_ (nI k) = decide (102 ≤ k ∧ k ≤ 104) := by
  unfold isF_
  simp (disch := omega) only [n_lit, n_beq]
  by_cases h : 102 ≤ k ∧ k ≤ 104
  · rcases (show k = 102 ∨ k = 103 ∨ k = 104 by omega) with rfl | rfl | rfl <;> rfl
  · simp only [h, decide_false, Bool.or_eq_false_iff, decide_eq_false_iff_not]
    omega
theorem m_isFunction {fu : Nat} {x : Int32} {σ : js_S} : fX12_isFunction fu x σ = some ((if isF_ x = true then 1 else 0), σ) := by
  unfold fX12_isFunction
  rw [m_isIn, bd_s, if_pos m_nzi]
  rcases n_cases x with h | ⟨k, hk, rfl⟩
  · have h1 : x < 102 := n_neg (a := 102) h (by omega)
    rw [if_pos h1, isF_neg h]
    rfl
  · rw [isF_nat hk]
    simp (disch := omega) only [n_lit, n_lt, decide_eq_true_eq]
    by_cases h1 : k < 102
    · rw [if_pos h1, if_neg (by omega)]
    · rw [if_neg h1]
      by_cases h2 : 104 < k
      · rw [if_pos h2, if_neg (by omega)]
      · rw [if_neg h2, if_pos (by omega)]
theorem m_isVariable {fu : Nat} {x : Int32} {σ : js_S} : fX12_isVariable fu x σ = some ((if isV_ x = true then 1 else 0), σ) := by
  unfold fX12_isVariable fX12_isVariable_18 isV_
  by_cases h1 : x = 120
  · subst h1; rfl
  · by_cases h2 : x = 121
    · subst h2; rfl
    · by_cases h3 : x = 119
      · subst h3; rfl
      · rw [if_neg h1, if_neg h2, if_neg h3]
        simp [h1, h2, h3]
theorem m_arityOf {fu : Nat} {x : Int32} {σ : js_S} {a : Nat → Nat} (h : lm_ σ.2.2) (ha : ∀ f, f < 3 → σ.1 391 f = nI (a f)) : fX12_arityOf fu 390 x σ = some (nI (sa_ a x), σ) := by
  unfold fX12_arityOf
  rw [m_isFunction, bd_s, lm_0 h, ln_391]
  by_cases hF : isF_ x = true
  · rw [if_pos hF, if_neg (by decide)]
    unfold isF_ at hF
    simp only [Bool.or_eq_true, beq_iff_eq] at hF
    rcases hF with (rfl | rfl) | rfl
    · rw [show (102 : Int32) - 102 = nI 0 from by decide]
      rw [if_pos (by decide), show (nI 0).toNatClampNeg = 0 from by decide, ha 0 (by omega)]
      rfl
    · rw [show (103 : Int32) - 102 = nI 1 from by decide]
      rw [if_pos (by decide), show (nI 1).toNatClampNeg = 1 from by decide, ha 1 (by omega)]
      rfl
    · rw [show (104 : Int32) - 102 = nI 2 from by decide]
      rw [if_pos (by decide), show (nI 2).toNatClampNeg = 2 from by decide, ha 2 (by omega)]
      rfl
  · rw [if_neg hF, if_pos rfl]
    unfold isF_ at hF
    simp only [Bool.or_eq_true, beq_iff_eq, not_or] at hF
    unfold sa_
    rw [if_neg hF.1.1, if_neg hF.1.2, if_neg hF.2]
    by_cases h1 : x = 115
    · rw [if_pos h1, if_pos h1]
      rfl
    · rw [if_neg h1, if_neg h1]
      by_cases h2 : x = 99
      · rw [if_pos h2, if_pos h2]
        rfl
      · rw [if_neg h2, if_neg h2]
        rfl
theorem m_end_loop {σ : js_S} {fu o : Nat} {a : Nat → Nat} (h : lm_ σ.2.2) (ha : ∀ f, f < 3 → σ.1 391 f = nI (a f)) (hga : ga_ a) (hn : ln_ o < 2147480000) :
    ∀ (l : List Int32) (m e k : Nat), ok_ a l m → vw_ σ o e l → l.length < k → e + l.length ≤ ln_ o → m + 3 * l.length < 1000000 → fX12_end_5 fu k 390 o (nI m) (nI e) σ = some (nI (e + sk_ a l m), σ) := by
  intro l
  induction l with
  | nil =>
    intro m e k hok hv hk hb hm
    obtain ⟨k, rfl⟩ : ∃ j, k = j + 1 := ⟨k - 1, by simp at hk; omega⟩
    have : m = 0 := hok
    subst this
    rw [sX12_end_5]
    unfold fX12_end_5b
    rw [if_pos (by decide)]
    rfl
  | cons s l ih =>
    intro m e k hok hv hk hb hm
    simp only [List.length_cons] at hk hb hm
    obtain ⟨k, rfl⟩ : ∃ j, k = j + 1 := ⟨k - 1, by omega⟩
    rw [sX12_end_5]
    unfold fX12_end_5b
    simp (disch := omega) only [n_lit, n_le, n_ib, n_cl, decide_eq_true_eq]
    unfold sk_
    by_cases hm0 : m = 0
    · rw [if_pos (by omega), if_pos hm0]
      rfl
    · have hsa := sa_le hga s
      rw [if_neg (by omega), if_neg hm0, if_pos (by omega), vw_head hv, m_arityOf h ha, bd_s, n_ms (by omega), n_add]
      have hok2 : ok_ a l (m - 1 + sa_ a s) := by
        rcases hok with q | q
        · exact absurd q hm0
        · exact q.2
      rw [ih _ (e + 1) k hok2 (vw_tail hv) (by omega) (by omega) (by omega), Nat.add_assoc, Nat.add_comm 1 (sk_ a l _)]
theorem m_end {σ : js_S} {o e : Nat} {a : Nat → Nat} {l : List Int32} (h : lm_ σ.2.2) (ha : ∀ f, f < 3 → σ.1 391 f = nI (a f)) (hga : ga_ a) (hn : ln_ o < 2147480000) (hok : ok_ a l 1) (hv : vw_ σ o e l) (hl : l.length ≤ 1000) (hb : e + l.length ≤ ln_ o) : fX12_end 5000 390 o (nI e) σ = some (nI (e + sk_ a l 1), σ) := by
  unfold fX12_end
  exact m_end_loop h ha hga hn l 1 e 5000 hok hv (by omega) hb (by omega)
