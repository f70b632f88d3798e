/-! copies and comparisons of the model -/
theorem cI_step {σ : js_S} {o i p j e : Nat} (h : ¬ (o = p ∧ j ≤ i + e ∧ i + e < j + e)) : uI_ (cI_ σ o i p j e) p (j + e) ((cI_ σ o i p j e).1 o (i + e)) = cI_ σ o i p j (e + 1) := by
  have e1 : (cI_ σ o i p j e).1 o (i + e) = σ.1 o (i + e) := by simp only [cI_, if_neg h]
  rw [e1]
  refine Prod.ext ?_ rfl
  funext a b
  simp only [uI_, cI_]
  by_cases h1 : a = p ∧ b = j + e
  · rw [if_pos h1, if_pos ⟨h1.1, by omega, by omega⟩, h1.2, Nat.add_sub_cancel_left]
  · rw [if_neg h1]
    by_cases h2 : a = p ∧ j ≤ b ∧ b < j + e
    · rw [if_pos h2, if_pos ⟨h2.1, h2.2.1, by omega⟩]
    · rw [if_neg h2, if_neg (fun q => ?_)]
      have q1 := q.2.1
      have q2 := q.2.2
      by_cases h3 : b = j + e
      · exact h1 ⟨q.1, h3⟩
      · exact h2 ⟨q.1, q1, by omega⟩
theorem cI_0 {σ : js_S} {o i p j : Nat} : cI_ σ o i p j 0 = σ := by
  refine Prod.ext ?_ rfl
  funext a b
  simp only [cI_]
  rw [if_neg (by omega)]
theorem m_copy_loop {fu o p i j n : Nat} (ho : i + n ≤ ln_ o) (hp : j + n ≤ ln_ p) (h1 : ln_ o < 1000000000) (h2 : ln_ p < 1000000000) (hd : o ≠ p ∨ i = j ∨ i + n ≤ j ∨ j + n ≤ i) (σ : js_S) :
    ∀ (d e k : Nat), e + d = n → d < k → fX12_copy_3 fu k o (nI i) p (nI j) (nI n) (nI e) (cI_ σ o i p j e) = some ((), cI_ σ o i p j n) := by
  intro d
  induction d with
  | zero =>
    intro e k he hk
    obtain ⟨k, rfl⟩ : ∃ j, k = j + 1 := ⟨k - 1, by omega⟩
    rw [sX12_copy_3]
    unfold fX12_copy_3b
    simp (disch := omega) only [n_le]
    rw [if_pos (by omega), show e = n by omega]
  | succ d ih =>
    intro e k he hk
    obtain ⟨k, rfl⟩ : ∃ j, k = j + 1 := ⟨k - 1, by omega⟩
    rw [sX12_copy_3]
    unfold fX12_copy_3b
    simp (disch := omega) only [n_le, n_lit, n_add, n_ib, n_cl, decide_eq_true_eq, lt_s_]
    rw [if_neg (by omega), if_pos (by omega), if_pos (by omega), cI_step (by omega)]
    exact ih (e + 1) k (by omega) (by omega)
theorem m_copy {o p i j n : Nat} (ho : i + n ≤ ln_ o) (hp : j + n ≤ ln_ p) (h1 : ln_ o < 1000000000) (h2 : ln_ p < 1000000000) (hd : o ≠ p ∨ i = j ∨ i + n ≤ j ∨ j + n ≤ i) (hn : n < 5000) (σ : js_S) : fX12_copy 5000 o (nI i) p (nI j) (nI n) σ = some ((), cI_ σ o i p j n) := by
  unfold fX12_copy
  have := m_copy_loop (fu := 5000) ho hp h1 h2 hd σ n 0 5000 (by omega) hn
  rw [cI_0] at this
  exact this
theorem cI_in {σ : js_S} {o i p j n b : Nat} (h : j ≤ b ∧ b < j + n) : (cI_ σ o i p j n).1 p b = σ.1 o (i + (b - j)) := by
  show (if p = p ∧ j ≤ b ∧ b < j + n then σ.1 o (i + (b - j)) else σ.1 p b) = _
  rw [if_pos ⟨rfl, h⟩]
theorem cI_out {σ : js_S} {o i p j n a b : Nat} (h : ¬ (a = p ∧ j ≤ b ∧ b < j + n)) : (cI_ σ o i p j n).1 a b = σ.1 a b := by simp only [cI_, if_neg h]
/-- known symbols are small numbers -/
theorem isS_lt {s : Int32} (h : isS_ s = true) : ∃ k, k < 128 ∧ s = nI k := by
  unfold isS_ isF_ isV_ at h
  simp only [Bool.or_eq_true, beq_iff_eq] at h
  rcases h with (((((rfl | rfl) | rfl) | ((rfl | rfl) | rfl)) | rfl) | rfl) | rfl
  · exact ⟨102, by omega, rfl⟩
  · exact ⟨103, by omega, rfl⟩
  · exact ⟨104, by omega, rfl⟩
  · exact ⟨120, by omega, rfl⟩
  · exact ⟨121, by omega, rfl⟩
  · exact ⟨119, by omega, rfl⟩
  · exact ⟨122, by omega, rfl⟩
  · exact ⟨115, by omega, rfl⟩
  · exact ⟨99, by omega, rfl⟩
/-- the sign of a difference of small numbers -/
def sgn_ (v c : Int32) : Prop := (v = 0 ↔ c = 0) ∧ (v < 0 ↔ c < 0)
theorem n_diff {a b : Nat} (ha : a < 100000) (hb : b < 100000) (h : ¬ a = b) : sgn_ (nI a - nI b) (if b ≤ a then 1 else -1) := by
  have e : (nI a - nI b).toInt = (a : Int) - b := by
    rw [Int32.toInt_sub, nI_toInt (by omega), nI_toInt (by omega)]
    rw [Int.bmod_eq_of_le (by omega) (by omega)]
  have e0 : (0 : Int32).toInt = 0 := by decide
  unfold sgn_
  by_cases h1 : b ≤ a
  · rw [if_pos h1]
    refine ⟨⟨fun q => ?_, fun q => absurd q (by decide)⟩, ⟨fun q => ?_, fun q => absurd q (by decide)⟩⟩
    · rw [← Int32.toInt_inj, e, e0] at q
      omega
    · rw [Int32.lt_iff_toInt_lt, e, e0] at q
      omega
  · rw [if_neg h1]
    refine ⟨⟨fun q => ?_, fun q => absurd q (by decide)⟩, ⟨fun q => by decide, fun q => ?_⟩⟩
    · rw [← Int32.toInt_inj, e, e0] at q
      omega
    · rw [Int32.lt_iff_toInt_lt, e, e0]
      omega
theorem sgn_0 : sgn_ 0 0 := ⟨Iff.rfl, Iff.rfl⟩
theorem m_cmp_loop {σ : js_S} {fu o p q r : Nat} {t u : List Int32} (ho : p + 1 + t.length ≤ ln_ o) (hq : r + 1 + u.length ≤ ln_ q) (h1 : ln_ o < 1000000000) (h2 : ln_ q < 1000000000) (ht : rw_ σ o p t) (hu : rw_ σ q r u) (hs : ∀ k, k < t.length → isS_ (at_ t k) = true) (hs2 : ∀ k, k < u.length → isS_ (at_ u k) = true) (hl : t.length = u.length) (h40 : t.length ≤ 1000) :
    ∀ (d e k : Nat), e + d = t.length → d < k → ∃ v, fX12_compare_20 fu k o (nI p) q (nI r) (nI (e + 1)) σ = some (v, σ) ∧ sgn_ v (cp_ (t.drop e) (u.drop e)) := by
  intro d
  induction d with
  | zero =>
    intro e k he hk
    obtain ⟨k, rfl⟩ : ∃ j, k = j + 1 := ⟨k - 1, by omega⟩
    refine ⟨0, ?_, ?_⟩
    · rw [sX12_compare_20]
      unfold fX12_compare_20b
      simp (disch := omega) only [n_ib, n_cl, decide_eq_true_eq]
      rw [if_pos (by omega), ht.1]
      simp (disch := omega) only [n_lt]
      rw [if_pos (by omega)]
    · rw [drop_end (by omega)]
      exact sgn_0
  | succ d ih =>
    intro e k he hk
    obtain ⟨k, rfl⟩ : ∃ j, k = j + 1 := ⟨k - 1, by omega⟩
    rw [sX12_compare_20]
    unfold fX12_compare_20b
    simp (disch := omega) only [n_ib, n_cl, decide_eq_true_eq]
    rw [if_pos (by omega), ht.1]
    simp (disch := omega) only [n_lt, n_add, n_ib, n_cl, decide_eq_true_eq]
    rw [if_neg (by omega), if_pos (by omega), if_pos (by omega)]
    have a1 : σ.1 o (p + (e + 1)) = at_ t e := by rw [show p + (e + 1) = p + 1 + e by omega]; exact ht.2 e (by omega)
    have a2 : σ.1 q (r + (e + 1)) = at_ u e := by rw [show r + (e + 1) = r + 1 + e by omega]; exact hu.2 e (by omega)
    rw [a1, a2, drop_get (l := t) (by omega), drop_get (l := u) (by omega), cp_cons]
    by_cases hc : at_ t e = at_ u e
    · rw [if_pos hc, if_pos hc, show nI (e + 1) + 1 = nI (e + 1 + 1) from n_add (e + 1) 1]
      exact ih (e + 1) k (by omega) (by omega)
    · rw [if_neg hc, if_neg hc, if_pos (by omega), if_pos (by omega)]
      obtain ⟨x, hx, ex⟩ := isS_lt (hs e (by omega))
      obtain ⟨y, hy, ey⟩ := isS_lt (hs2 e (by omega))
      rw [ex, ey] at hc ⊢
      refine ⟨_, rfl, ?_⟩
      have hxy : ¬ x = y := fun z => hc (by rw [z])
      have := n_diff (a := x) (b := y) (by omega) (by omega) hxy
      simp (disch := omega) only [n_le]
      exact this
theorem m_compare {σ : js_S} {o p q r : Nat} {t u : List Int32} (ho : p + 1 + t.length ≤ ln_ o) (hq : r + 1 + u.length ≤ ln_ q) (h1 : ln_ o < 1000000000) (h2 : ln_ q < 1000000000) (ht : rw_ σ o p t) (hu : rw_ σ q r u) (hs : ∀ k, k < t.length → isS_ (at_ t k) = true) (hs2 : ∀ k, k < u.length → isS_ (at_ u k) = true) (h40 : t.length ≤ 1000) (h41 : u.length ≤ 1000) : ∃ v, fX12_compare 5000 o (nI p) q (nI r) σ = some (v, σ) ∧ sgn_ v (cmp_ t u) := by
  unfold fX12_compare cmp_
  simp (disch := omega) only [n_ib, n_cl, decide_eq_true_eq]
  rw [if_pos (by omega), if_pos (by omega), ht.1, hu.1]
  by_cases hl : t.length = u.length
  · rw [if_pos (by rw [hl]), if_pos hl]
    exact m_cmp_loop ho hq h1 h2 ht hu hs hs2 hl h40 t.length 0 5000 (by omega) (by omega)
  · rw [if_neg (fun z => hl ((n_eq (by omega) (by omega)).mp z)), if_neg hl, if_pos (by omega), if_pos (by omega)]
    exact ⟨_, rfl, n_diff (by omega) (by omega) hl⟩
/-! which registers and rules there are -/
theorem x_reg {fu r : Nat} {σ : js_S} (h : r < 4) : fX11_hasRegister fu (nI r) σ = some (1, σ) := by
  unfold fX11_hasRegister
  simp (disch := omega) only [n_lit, n_lt, n_le, Nat.not_lt_zero, if_false]
  rw [if_neg (by omega)]
theorem x_noreg {fu : Nat} {x : Int32} {σ : js_S} (h : ¬ ∃ r, r < 4 ∧ x = nI r) : fX11_hasRegister fu x σ = some (0, σ) := by
  unfold fX11_hasRegister
  rcases n_cases x with q | ⟨k, hk, rfl⟩
  · rw [if_pos q]
  · have : ¬ k < 4 := fun q => h ⟨k, q, rfl⟩
    simp (disch := omega) only [n_lit, n_lt, n_le, Nat.not_lt_zero, if_false]
    rw [if_pos (by omega)]
theorem m_reg {fu r : Nat} {σ : js_S} (h : r < 4) : fX12_isRegister fu (nI r) σ = some (1, σ) := by
  unfold fX12_isRegister
  rw [m_isIn, bd_s, if_pos m_nzi]
  simp (disch := omega) only [n_lit, n_lt, Nat.not_lt_zero, if_false]
  rw [if_neg (by omega)]
theorem m_noreg {fu : Nat} {x : Int32} {σ : js_S} (h : ¬ ∃ r, r < 4 ∧ x = nI r) : fX12_isRegister fu x σ = some (0, σ) := by
  unfold fX12_isRegister
  rw [m_isIn, bd_s, if_pos m_nzi]
  rcases n_cases x with q | ⟨k, hk, rfl⟩
  · rw [if_pos q]
  · have : ¬ k < 4 := fun q => h ⟨k, q, rfl⟩
    simp (disch := omega) only [n_lit, n_lt, Nat.not_lt_zero, if_false]
    rw [if_pos (by omega)]
theorem x_rule {fu i n : Nat} {σ : js_S} (hl : lx_ σ.2.2) (hn : σ.1 2 5 = nI n) (h6 : n ≤ 6) (h : i < n) : fX11_hasRule fu 1 (nI i) σ = some (1, σ) := by
  unfold fX11_hasRule
  rw [lx_1_0 hl, hn]
  simp (disch := omega) only [n_lit, n_lt, n_le, Nat.not_lt_zero, if_false]
  rw [if_neg (by omega)]
theorem x_norule {fu n : Nat} {x : Int32} {σ : js_S} (hl : lx_ σ.2.2) (hn : σ.1 2 5 = nI n) (h6 : n ≤ 6) (h : ¬ ∃ i, i < n ∧ x = nI i) : fX11_hasRule fu 1 x σ = some (0, σ) := by
  unfold fX11_hasRule
  rw [lx_1_0 hl, hn]
  rcases n_cases x with q | ⟨k, hk, rfl⟩
  · rw [if_pos q]
  · have : ¬ k < n := fun q => h ⟨k, q, rfl⟩
    simp (disch := omega) only [n_lit, n_lt, n_le, Nat.not_lt_zero, if_false]
    rw [if_pos (by omega)]
theorem n_pred {n : Nat} (h : 0 < n) : nI n - 1 = nI (n - 1) := n_sub (b := 1) h
theorem m_rule {fu i n : Nat} {σ : js_S} (hn : σ.1 390 6 = nI n) (h6 : n ≤ 6) (h : i < n) : fX12_isRule fu 390 (nI i) σ = some (1, σ) := by
  unfold fX12_isRule
  rw [hn, n_pred (by omega), m_isIn, bd_s, if_pos m_nzi]
  simp (disch := omega) only [n_lit, n_lt, Nat.not_lt_zero, if_false]
  rw [if_neg (by omega)]
theorem m_norule {fu n : Nat} {x : Int32} {σ : js_S} (hn : σ.1 390 6 = nI n) (h6 : n ≤ 6) (h : ¬ ∃ i, i < n ∧ x = nI i) : fX12_isRule fu 390 x σ = some (0, σ) := by
  unfold fX12_isRule
  rw [hn, m_isIn, bd_s, if_pos m_nzi]
  rcases n_cases x with q | ⟨k, hk, rfl⟩
  · rw [if_pos q]
  · have h1 : ¬ k < n := fun q => h ⟨k, q, rfl⟩
    by_cases h0 : n = 0
    · subst h0
      have : nI 0 - 1 < nI k := by
        have : nI 0 - 1 < 0 := by decide
        exact n_neg this hk
      rw [if_pos this]
      split <;> rfl
    · rw [n_pred (by omega)]
      simp (disch := omega) only [n_lit, n_lt, Nat.not_lt_zero, if_false]
      rw [if_pos (by omega)]
/-! the first operations, both sides at once -/
/-- what both sides hold of the system, and where things lie -/
def pq_ (σ : js_S) (y : js_Y) : Prop := lx_ σ.2.2 ∧ lm_ σ.2.2 ∧ sx_ σ 2 y ∧ sm_ σ 391 393 395 6 y ∧ gy_ y
theorem op_ruleCount {σ : js_S} {y : js_Y} (h : pq_ σ y) : fX11_ruleCount 5000 1 σ = some (nI y.2.1.length, σ) ∧ fX12_ruleCount 5000 390 σ = some (nI y.2.1.length, σ) := by
  obtain ⟨hx, hm, sx, sm, gy⟩ := h
  unfold fX11_ruleCount fX12_ruleCount
  rw [lx_1_0 hx, sx.2.1, sm.2.1]
  exact ⟨rfl, rfl⟩
theorem x_fnum {fu f : Nat} {σ : js_S} (h : f < 3) : fX11_isFunctionNumber fu (nI f) σ = some (1, σ) := by
  unfold fX11_isFunctionNumber
  simp (disch := omega) only [n_lit, n_lt, n_le, Nat.not_lt_zero, if_false]
  rw [if_neg (by omega)]
theorem x_nofnum {fu : Nat} {x : Int32} {σ : js_S} (h : ¬ ∃ f, f < 3 ∧ x = nI f) : fX11_isFunctionNumber fu x σ = some (0, σ) := by
  unfold fX11_isFunctionNumber
  rcases n_cases x with q | ⟨k, hk, rfl⟩
  · rw [if_pos q]
  · have : ¬ k < 3 := fun q => h ⟨k, q, rfl⟩
    simp (disch := omega) only [n_lit, n_lt, n_le, Nat.not_lt_zero, if_false]
    rw [if_pos (by omega)]
theorem m_fnum {fu f : Nat} {σ : js_S} (h : f < 3) : fX12_isIn fu (nI f) 0 2 σ = some (1, σ) := by
  rw [m_isIn]
  simp (disch := omega) only [n_lit, n_lt, Nat.not_lt_zero, if_false]
  rw [if_neg (by omega)]
theorem m_nofnum {fu : Nat} {x : Int32} {σ : js_S} (h : ¬ ∃ f, f < 3 ∧ x = nI f) : fX12_isIn fu x 0 2 σ = some (0, σ) := by
  rw [m_isIn]
  rcases n_cases x with q | ⟨k, hk, rfl⟩
  · rw [if_pos q]
  · have : ¬ k < 3 := fun q => h ⟨k, q, rfl⟩
    simp (disch := omega) only [n_lit, n_lt, Nat.not_lt_zero, if_false]
    rw [if_pos (by omega)]
theorem op_arity {σ : js_S} {y : js_Y} (h : pq_ σ y) (x : Int32) : ∃ r, fX11_arity 5000 1 x σ = some (r, σ) ∧ fX12_arity 5000 390 x σ = some (r, σ) := by
  obtain ⟨hx, hm, sx, sm, gy⟩ := h
  unfold fX11_arity fX12_arity
  by_cases hc : ∃ f, f < 3 ∧ x = nI f
  · obtain ⟨k, h3, rfl⟩ := hc
    rw [x_fnum h3, m_fnum h3, bd_s, bd_s, if_neg (by decide), if_neg (by decide), lx_1_0 hx, lx_2_0 hx, x8_ofFunction (lx_3_0 hx) ln_4 sx.1 h3, bd_s, lm_0 hm, ln_391]
    simp (disch := omega) only [n_ib, n_cl, decide_eq_true_eq]
    rw [if_pos h3, sm.1 k h3]
    exact ⟨_, rfl, rfl⟩
  · rw [x_nofnum hc, m_nofnum hc, bd_s, bd_s, if_pos rfl, if_pos rfl]
    exact ⟨_, rfl, rfl⟩
theorem op_leftSize {σ : js_S} {y : js_Y} (h : pq_ σ y) (x : Int32) : ∃ r, fX11_leftSize 5000 1 x σ = some (r, σ) ∧ fX12_leftSize 5000 390 x σ = some (r, σ) := by
  obtain ⟨hx, hm, sx, sm, gy⟩ := h
  have h6 := gy.2.1
  unfold fX11_leftSize fX12_leftSize
  by_cases hc : ∃ i, i < y.2.1.length ∧ x = nI i
  · obtain ⟨i, hi, rfl⟩ := hc
    rw [x_rule hx sx.2.1 h6 hi, m_rule sm.2.1 h6 hi, bd_s, bd_s, if_neg (by decide), if_neg (by decide), lx_1_0 hx, x6_left hx (by omega), bd_s]
    unfold fX12_left
    rw [bd_s, lm_2 hm, ln_393]
    have e : (2 * nI i) * 96 = nI (192 * i) := by
      simp only [n_lit, n_mul]
      congr 1
      omega
    rw [e]
    simp (disch := omega) only [n_ib, n_cl, decide_eq_true_eq]
    rw [if_pos (by omega), ((sm.2.2.1 i hi).1).1]
    have := ((sx.2.2.1 i hi).1).1
    rw [show 2 + 8 + 4 * i = 10 + 4 * i by omega] at this
    rw [this]
    exact ⟨_, rfl, rfl⟩
  · rw [x_norule hx sx.2.1 h6 hc, m_norule sm.2.1 h6 hc, bd_s, bd_s, if_pos rfl, if_pos rfl]
    exact ⟨_, rfl, rfl⟩
theorem op_rightSize {σ : js_S} {y : js_Y} (h : pq_ σ y) (x : Int32) : ∃ r, fX11_rightSize 5000 1 x σ = some (r, σ) ∧ fX12_rightSize 5000 390 x σ = some (r, σ) := by
  obtain ⟨hx, hm, sx, sm, gy⟩ := h
  have h6 := gy.2.1
  unfold fX11_rightSize fX12_rightSize
  by_cases hc : ∃ i, i < y.2.1.length ∧ x = nI i
  · obtain ⟨i, hi, rfl⟩ := hc
    rw [x_rule hx sx.2.1 h6 hi, m_rule sm.2.1 h6 hi, bd_s, bd_s, if_neg (by decide), if_neg (by decide), lx_1_0 hx, x6_right hx (by omega), bd_s]
    unfold fX12_right
    rw [bd_s, lm_2 hm, ln_393]
    have e : ((2 * nI i) + 1) * 96 = nI (192 * i + 96) := by
      simp only [n_lit, n_mul, n_add]
      congr 1
      omega
    rw [e]
    simp (disch := omega) only [n_ib, n_cl, decide_eq_true_eq]
    rw [if_pos (by omega), ((sm.2.2.1 i hi).2).1]
    have := ((sx.2.2.1 i hi).2).1
    rw [show 2 + 10 + 4 * i = 12 + 4 * i by omega] at this
    rw [this]
    exact ⟨_, rfl, rfl⟩
  · rw [x_norule hx sx.2.1 h6 hc, m_norule sm.2.1 h6 hc, bd_s, bd_s, if_pos rfl, if_pos rfl]
    exact ⟨_, rfl, rfl⟩
theorem sx_reg {σ : js_S} {y : js_Y} (h : sx_ σ 2 y) {i : Nat} (hi : i < 4) : tm_ σ (34 + 2 * i) (y.2.2 i) := by
  have := h.2.2.2 i hi
  rwa [show 2 + 32 + 2 * i = 34 + 2 * i by omega] at this
theorem sx_left {σ : js_S} {y : js_Y} (h : sx_ σ 2 y) {i : Nat} (hi : i < y.2.1.length) : tm_ σ (10 + 4 * i) (rl_ y i).1 := by
  have := (h.2.2.1 i hi).1
  rwa [show 2 + 8 + 4 * i = 10 + 4 * i by omega] at this
theorem sx_right {σ : js_S} {y : js_Y} (h : sx_ σ 2 y) {i : Nat} (hi : i < y.2.1.length) : tm_ σ (12 + 4 * i) (rl_ y i).2 := by
  have := (h.2.2.1 i hi).2
  rwa [show 2 + 10 + 4 * i = 12 + 4 * i by omega] at this
theorem n_96 (i : Nat) : 96 * nI i = nI (96 * i) := n_mul 96 i
theorem op_termSize {σ : js_S} {y : js_Y} (h : pq_ σ y) (x : Int32) : ∃ r, fX11_termSize 5000 1 x σ = some (r, σ) ∧ fX12_termSize 5000 390 x σ = some (r, σ) := by
  obtain ⟨hx, hm, sx, sm, gy⟩ := h
  unfold fX11_termSize fX12_termSize
  by_cases hc : ∃ i, i < 4 ∧ x = nI i
  · obtain ⟨i, hi, rfl⟩ := hc
    rw [x_reg hi, m_reg hi, bd_s, bd_s, if_neg (by decide), if_neg (by decide), lx_1_0 hx, x6_register hx hi, bd_s, lm_4 hm, ln_395, n_96]
    simp (disch := omega) only [n_ib, n_cl, decide_eq_true_eq]
    rw [if_pos (by omega), (sm.2.2.2 i hi).1, (sx_reg sx hi).1]
    exact ⟨_, rfl, rfl⟩
  · rw [x_noreg hc, m_noreg hc, bd_s, bd_s, if_pos rfl, if_pos rfl]
    exact ⟨_, rfl, rfl⟩
theorem gt_sym {a : Nat → Nat} {t : List Int32} (h : gt_ a t) : ∀ k, k < t.length → isS_ (at_ t k) = true := fun _ hk => wt_sym h.1 hk
theorem op_compareTerms {σ : js_S} {y : js_Y} (h : pq_ σ y) (x z : Int32) : ∃ r, fX11_compareTerms 5000 1 x z σ = some (r, σ) ∧ fX12_compareTerms 5000 390 x z σ = some (r, σ) := by
  obtain ⟨hx, hm, sx, sm, gy⟩ := h
  unfold fX11_compareTerms fX12_compareTerms
  by_cases hc : ∃ i, i < 4 ∧ x = nI i
  · obtain ⟨i, hi, rfl⟩ := hc
    rw [x_reg hi, m_reg hi, bd_s, bd_s, if_neg (by decide), if_neg (by decide)]
    by_cases hd : ∃ i, i < 4 ∧ z = nI i
    · obtain ⟨j, hj, rfl⟩ := hd
      have g1 := gy.2.2.2 i hi
      have g2 := gy.2.2.2 j hj
      have l1 := g1.2
      have l2 := g2.2
      rw [x_reg hj, m_reg hj, bd_s, bd_s, if_neg (by decide), if_neg (by decide), lx_1_0 hx, x6_register hx hi, bd_s, lx_1_0 hx, x6_register hx hj, bd_s, lm_4 hm, n_96, n_96]
      rw [x9_order (to_reg hx i hi) (sx_reg sx hi) l1 (to_reg hx j hj) (sx_reg sx hj) l2, bd_s]
      obtain ⟨v, hv, s1, s2⟩ := m_compare (σ := σ) (o := 395) (p := 96 * i) (q := 395) (r := 96 * j) (by rw [ln_395]; omega) (by rw [ln_395]; omega) (by rw [ln_395]; omega) (by rw [ln_395]; omega) (sm.2.2.2 i hi) (sm.2.2.2 j hj) (gt_sym g1) (gt_sym g2) (by omega) (by omega)
      rw [hv, bd_s]
      by_cases h0 : cmp_ (y.2.2 i) (y.2.2 j) = 0
      · have v0 := s1.mpr h0
        rw [if_pos h0, v0, if_pos (by decide), if_pos rfl]
        exact ⟨_, rfl, rfl⟩
      · have v0 : ¬ v = 0 := fun q => h0 (s1.mp q)
        rw [if_neg h0]
        by_cases h1 : cmp_ (y.2.2 i) (y.2.2 j) < 0
        · have v1 := s2.mpr h1
          rw [if_neg (by rw [Int32.not_le]; exact h1), if_neg (by rw [Int32.not_le]; exact v1)]
          exact ⟨_, rfl, rfl⟩
        · have v1 : ¬ v < 0 := fun q => h1 (s2.mp q)
          rw [if_pos (by rw [← Int32.not_lt]; exact h1), if_pos (by rw [← Int32.not_lt]; exact v1), if_neg v0]
          exact ⟨_, rfl, rfl⟩
    · rw [x_noreg hd, m_noreg hd, bd_s, bd_s, if_pos rfl, if_pos rfl]
      exact ⟨_, rfl, rfl⟩
  · rw [x_noreg hc, m_noreg hc, bd_s, bd_s, if_pos rfl, if_pos rfl]
    exact ⟨_, rfl, rfl⟩
