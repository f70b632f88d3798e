/-! running the functions -/
def at_ (l : List Int32) (k : Nat) : Int32 := List.getD l k 0
theorem bd_s {α β : Type} (r : α) (σ : js_S) (f : α → js_S → Option β) : bd_ (some (r, σ)) f = f r σ := rfl
theorem lt_s_ {α β : Type} (x : α) (f : α → β) : lt_ x f = f x := rfl
theorem n_ms {m r : Nat} (h : 1 ≤ m) : nI m + (nI r - nI 1) = nI (m - 1 + r) := by
  have h1 : nI (m - 1) + nI 1 = nI m := by rw [n_add, Nat.sub_add_cancel h]
  have h2 : nI (m - 1 + r) = nI (m - 1) + nI r := (n_add _ _).symm
  rw [h2, ← h1, Int32.add_assoc, Int32.add_comm (nI 1) (nI r - nI 1), Int32.sub_add_cancel]
theorem nz0 : nz_ 0 = 0 := by decide +kernel
theorem nz1 : nz_ 1 = 1 := by decide +kernel
theorem n_one (x : Nat) : (1 : Int32) = nI 1 := rfl
/-- every int is a negative one or a number -/
theorem n_cases (x : Int32) : x < 0 ∨ ∃ k : Nat, k < 2147483648 ∧ x = nI k := by
  by_cases h : x < 0
  · exact Or.inl h
  · exact Or.inr (nI_of h)
/-! symbols -/
def sa_ (a : Nat → Nat) (s : Int32) : Nat := if s = 102 then a 0 else if s = 103 then a 1 else if s = 104 then a 2 else if s = 115 then 1 else if s = 99 then 2 else 0
def isF_ (s : Int32) : Bool := s == 102 || s == 103 || s == 104
def isV_ (s : Int32) : Bool := s == 120 || s == 121 || s == 119
def isS_ (s : Int32) : Bool := isF_ s || isV_ s || s == 122 || s == 115 || s == 99
/-- the arities that are used -/
def ga_ (a : Nat → Nat) : Prop := ∀ f, f < 3 → 1 ≤ a f ∧ a f ≤ 3
theorem sa_le {a : Nat → Nat} (h : ga_ a) (s : Int32) : sa_ a s ≤ 3 := by
  have h0 := h 0 (by omega)
  have h1 := h 1 (by omega)
  have h2 := h 2 (by omega)
  unfold sa_
  split
  · omega
  · split
    · omega
    · split
      · omega
      · split
        · omega
        · split <;> omega
/-- how many symbols n terms take -/
def sk_ (a : Nat → Nat) : List Int32 → Nat → Nat
  | [], _ => 0
  | s :: t, n => if n = 0 then 0 else sk_ a t (n - 1 + sa_ a s) + 1
/-- n terms stand at the head of the row -/
def ok_ (a : Nat → Nat) : List Int32 → Nat → Prop
  | [], n => n = 0
  | s :: t, n => n = 0 ∨ (isS_ s = true ∧ ok_ a t (n - 1 + sa_ a s))
/-- the row is n terms -/
def wt_ (a : Nat → Nat) : List Int32 → Nat → Prop
  | [], n => n = 0
  | s :: t, n => 0 < n ∧ isS_ s = true ∧ wt_ a t (n - 1 + sa_ a s)
theorem sk_le (a : Nat → Nat) : ∀ (l : List Int32) (n : Nat), sk_ a l n ≤ l.length
  | [], n => by simp [sk_]
  | s :: t, n => by
    have := sk_le a t (n - 1 + sa_ a s)
    unfold sk_
    split
    · omega
    · simp only [List.length_cons]
      omega
theorem sk_0 (a : Nat → Nat) (l : List Int32) : sk_ a l 0 = 0 := by cases l <;> simp [sk_]
theorem ok_0 (a : Nat → Nat) (l : List Int32) : ok_ a l 0 := by cases l <;> simp [ok_]
theorem ok_wt {a : Nat → Nat} : ∀ {l : List Int32} {n : Nat}, wt_ a l n → ok_ a l n
  | [], n, h => h
  | s :: t, n, h => Or.inr ⟨h.2.1, ok_wt h.2.2⟩
theorem sk_wt {a : Nat → Nat} : ∀ {l : List Int32} {n : Nat}, wt_ a l n → sk_ a l n = l.length
  | [], n, h => by simp [sk_]
  | s :: t, n, h => by
    have := sk_wt h.2.2
    have h1 := h.1
    unfold sk_
    rw [if_neg (by omega), this]
    rfl
/-- a shorter demand is met too -/
theorem ok_le {a : Nat → Nat} : ∀ {l : List Int32} {n m : Nat}, ok_ a l n → m ≤ n → ok_ a l m
  | [], n, m, h, hm => by
    have : n = 0 := h
    show m = 0
    omega
  | s :: t, n, m, h, hm => by
    rcases h with h | ⟨h1, h⟩
    · exact Or.inl (by omega)
    · by_cases h0 : m = 0
      · exact Or.inl h0
      · exact Or.inr ⟨h1, ok_le h (by omega)⟩
theorem wt_tail {a : Nat → Nat} : ∀ {l : List Int32} {n p : Nat}, wt_ a l n → p < l.length → ok_ a (l.drop p) 1
  | [], n, p, h, hp => by simp at hp
  | s :: t, n, 0, h, hp => by
    have h1 := h.1
    exact ok_le (ok_wt h) (by omega)
  | s :: t, n, p + 1, h, hp => by
    rw [List.drop_succ_cons]
    exact wt_tail h.2.2 (by simpa using hp)
theorem wt_sym {a : Nat → Nat} : ∀ {l : List Int32} {n p : Nat}, wt_ a l n → p < l.length → isS_ (at_ l p) = true
  | [], n, p, h, hp => by simp at hp
  | s :: t, n, 0, h, hp => by simpa [at_] using h.2.1
  | s :: t, n, p + 1, h, hp => by
    have := wt_sym (p := p) h.2.2 (by simpa using hp)
    simpa [at_] using this
theorem drop_get {l : List Int32} {p : Nat} (h : p < l.length) : l.drop p = at_ l p :: l.drop (p + 1) := by
  unfold at_
  rw [List.drop_eq_getElem_cons h, List.getD_eq_getElem?_getD, List.getElem?_eq_getElem h]
  rfl
theorem drop_end {l : List Int32} {p : Nat} (h : l.length ≤ p) : l.drop p = [] := List.drop_eq_nil_of_le h
theorem getD_end {l : List Int32} {p : Nat} (h : l.length ≤ p) : at_ l p = 0 := by
  unfold at_
  rw [List.getD_eq_getElem?_getD, List.getElem?_eq_none h]
  rfl
/-! rows of ints in the store -/
def vw_ (σ : js_S) (o p : Nat) (l : List Int32) : Prop := ∀ k, k < l.length → σ.1 o (p + k) = at_ l k
theorem vw_tail {σ : js_S} {o p : Nat} {s : Int32} {l : List Int32} (h : vw_ σ o p (s :: l)) : vw_ σ o (p + 1) l := by
  intro k hk
  have := h (k + 1) (by simp; omega)
  rw [show p + 1 + k = p + (k + 1) by omega, this]
  simp [at_]
theorem vw_head {σ : js_S} {o p : Nat} {s : Int32} {l : List Int32} (h : vw_ σ o p (s :: l)) : σ.1 o p = s := by
  have := h 0 (by simp)
  simpa [at_] using this
theorem vw_drop {σ : js_S} {o p q : Nat} {l : List Int32} (h : vw_ σ o p l) : vw_ σ o (p + q) (l.drop q) := by
  intro k hk
  rw [List.length_drop] at hk
  rw [Nat.add_assoc, h (q + k) (by omega)]
  simp [at_, List.getD_eq_getElem?_getD]
/-- a term object: its size and its first forty symbols -/
def tm_ (σ : js_S) (o : Nat) (t : List Int32) : Prop := σ.1 o 1 = nI t.length ∧ ∀ k, k < t.length → k < 40 → σ.1 (o + 1) k = at_ t k
theorem x9_symbolAt {σ : js_S} {fu o p : Nat} {t : List Int32} (h0 : σ.2.2 o 0 = o + 1) (hl : ln_ (o + 1) = 40) (ht : tm_ σ o t) (hs : t.length ≤ 40) (hp : p < 2147483648) : fX9_symbolAt fu o (nI p) σ = some (at_ t p, σ) := by
  unfold fX9_symbolAt
  rw [h0, hl, ht.1]
  simp (disch := omega) only [n_lit, n_of, n_lt, n_le, n_ib, n_cl, decide_eq_true_eq, Nat.not_lt_zero, if_false]
  by_cases h : p < t.length
  · rw [if_neg (by omega), if_neg (by omega), if_pos (by omega), ht.2 p h (by omega)]
  · rw [if_pos (by omega), getD_end (by omega)]
    rfl
/-- the arities of a system's signature -/
def sg_ (σ : js_S) (o : Nat) (a : Nat → Nat) : Prop := ∀ k, k < 128 → σ.1 (o + 1) k = nI (sa_ a (nI k))
theorem sa_neg {a : Nat → Nat} {x : Int32} (h : x < 0) : sa_ a x = 0 := by
  have e : ∀ y : Int32, ¬ y < 0 → ¬ x = y := fun y hy q => hy (q ▸ h)
  unfold sa_
  rw [if_neg (e 102 (by decide)), if_neg (e 103 (by decide)), if_neg (e 104 (by decide)), if_neg (e 115 (by decide)), if_neg (e 99 (by decide))]
theorem sa_big {a : Nat → Nat} {k : Nat} (h : 128 ≤ k) (hk : k < 2147483648) : sa_ a (nI k) = 0 := by
  unfold sa_
  simp (disch := omega) only [n_lit, n_eq]
  rw [if_neg (by omega), if_neg (by omega), if_neg (by omega), if_neg (by omega), if_neg (by omega)]
theorem x8_ofSymbol {σ : js_S} {fu o : Nat} {a : Nat → Nat} (h0 : σ.2.2 o 0 = o + 1) (hl : ln_ (o + 1) = 128) (hg : sg_ σ o a) (x : Int32) : fX8_ofSymbol fu o x σ = some (nI (sa_ a x), σ) := by
  unfold fX8_ofSymbol
  rw [h0, hl]
  rcases n_cases x with h | ⟨k, hk, rfl⟩
  · rw [if_pos h, sa_neg h]
    rfl
  · simp (disch := omega) only [n_lit, n_of, n_lt, n_le, n_ib, n_cl, decide_eq_true_eq, Nat.not_lt_zero, if_false]
    by_cases h : k < 128
    · rw [if_neg (by omega), if_pos h, hg k h]
    · rw [if_pos (by omega), sa_big (by omega) hk]
theorem x8_ofFunction {σ : js_S} {fu o f : Nat} {a : Nat → Nat} (h0 : σ.2.2 o 0 = o + 1) (hl : ln_ (o + 1) = 128) (hg : sg_ σ o a) (hf : f < 3) : fX8_ofFunction fu o (nI f) σ = some (nI (a f), σ) := by
  unfold fX8_ofFunction
  rw [h0, hl]
  simp (disch := omega) only [n_lit, n_add, n_lt, n_le, n_ib, n_cl, decide_eq_true_eq, Nat.not_lt_zero, if_false]
  rw [if_neg (by omega), if_pos (by omega), hg (102 + f) (by omega)]
  rcases (show f = 0 ∨ f = 1 ∨ f = 2 by omega) with rfl | rfl | rfl <;> rfl
theorem x8_endOf_loop {σ : js_S} {fu s o : Nat} {a : Nat → Nat} {t : List Int32} (h0 : σ.2.2 s 0 = s + 1) (hl : ln_ (s + 1) = 128) (hg : sg_ σ s a) (h1 : σ.2.2 o 0 = o + 1) (h2 : ln_ (o + 1) = 40) (ht : tm_ σ o t) (hs : t.length ≤ 40) (ha : ga_ a) :
    ∀ (d e m k : Nat), e + d = t.length → d < k → m < 1000 + 3 * e → fX8_endOf_5 fu k s o (nI m) (nI e) σ = some (nI (e + sk_ a (t.drop e) m), σ) := by
  intro d
  induction d with
  | zero =>
    intro e m k he hk hm
    obtain ⟨k, rfl⟩ : ∃ j, k = j + 1 := ⟨k - 1, by omega⟩
    rw [sX8_endOf_5]
    unfold fX8_endOf_5b
    rw [ht.1]
    simp (disch := omega) only [n_le]
    rw [if_pos (by omega), drop_end (by omega)]
    simp [sk_]
  | succ d ih =>
    intro e m k he hk hm
    obtain ⟨k, rfl⟩ : ∃ j, k = j + 1 := ⟨k - 1, by omega⟩
    rw [sX8_endOf_5]
    unfold fX8_endOf_5b
    rw [ht.1, x9_symbolAt h1 h2 ht hs (by omega), bd_s, x8_ofSymbol h0 hl hg, bd_s, drop_get (by omega)]
    simp (disch := omega) only [n_le, n_lit]
    rw [if_neg (by omega)]
    unfold sk_
    by_cases hm0 : m = 0
    · rw [if_pos (by omega), if_pos hm0]
      rfl
    · have hsa := sa_le ha (at_ t e)
      rw [if_neg (by omega), if_neg hm0, n_ms (by omega), n_add, ih (e + 1) _ k (by omega) (by omega) (by omega)]
      rw [show e + 1 + sk_ a (t.drop (e + 1)) (m - 1 + sa_ a (at_ t e)) = e + (sk_ a (t.drop (e + 1)) (m - 1 + sa_ a (at_ t e)) + 1) by omega]
/-- the end of the subterm at p -/
def ep_ (a : Nat → Nat) (t : List Int32) (p : Nat) : Nat := p + sk_ a (t.drop p) 1
theorem ep_le {a : Nat → Nat} {t : List Int32} {p : Nat} (h : p ≤ t.length) : ep_ a t p ≤ t.length := by
  have := sk_le a (t.drop p) 1
  rw [List.length_drop] at this
  unfold ep_
  omega
theorem ep_gt {a : Nat → Nat} {t : List Int32} {p : Nat} (h : p < t.length) : p < ep_ a t p := by
  unfold ep_
  rw [drop_get h]
  simp [sk_]
theorem x8_endOf {σ : js_S} {s o p : Nat} {a : Nat → Nat} {t : List Int32} (h0 : σ.2.2 s 0 = s + 1) (hl : ln_ (s + 1) = 128) (hg : sg_ σ s a) (h1 : σ.2.2 o 0 = o + 1) (h2 : ln_ (o + 1) = 40) (ht : tm_ σ o t) (hs : t.length ≤ 40) (ha : ga_ a) (hp : p ≤ t.length) : fX8_endOf 5000 s o (nI p) σ = some (nI (ep_ a t p), σ) := by
  unfold fX8_endOf
  rw [show (1 : Int32) = nI 1 from rfl, x8_endOf_loop h0 hl hg h1 h2 ht hs ha (t.length - p) p 1 5000 (by omega) (by omega) (by omega)]
  rfl
