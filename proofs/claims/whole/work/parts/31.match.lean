/-! lists of terms -/
theorem ok_drop {a : Nat → Nat} : ∀ {l : List Int32} {m n : Nat}, ok_ a l (m + n) → ok_ a (l.drop (sk_ a l m)) n
  | [], m, n, h => by
    have : m + n = 0 := h
    show n = 0
    omega
  | s :: t, m, n, h => by
    unfold sk_
    by_cases hm : m = 0
    · rw [if_pos hm, List.drop_zero]
      rw [hm, Nat.zero_add] at h
      exact h
    · rw [if_neg hm, List.drop_succ_cons]
      rcases h with h | ⟨h1, h⟩
      · omega
      · rw [show m + n - 1 + sa_ a s = (m - 1 + sa_ a s) + n by omega] at h
        exact ok_drop h
theorem wt_split1 {a : Nat → Nat} : ∀ {l : List Int32} {m n : Nat}, wt_ a l (m + n) → wt_ a (l.take (sk_ a l m)) m ∧ wt_ a (l.drop (sk_ a l m)) n
  | [], m, n, h => by
    have : m + n = 0 := h
    refine ⟨?_, ?_⟩
    · show wt_ a [] m
      show m = 0
      omega
    · show n = 0
      omega
  | s :: t, m, n, h => by
    unfold sk_
    by_cases hm : m = 0
    · subst hm
      rw [if_pos rfl, List.take_zero, List.drop_zero]
      rw [Nat.zero_add] at h
      exact ⟨rfl, h⟩
    · rw [if_neg hm, List.drop_succ_cons, List.take_succ_cons]
      have h3 := h.2.2
      rw [show m + n - 1 + sa_ a s = (m - 1 + sa_ a s) + n by omega] at h3
      have := wt_split1 h3
      exact ⟨⟨by omega, h.2.1, this.1⟩, this.2⟩
theorem wt_app {a : Nat → Nat} : ∀ {l u : List Int32} {m n : Nat}, wt_ a l m → wt_ a u n → wt_ a (l ++ u) (m + n)
  | [], u, m, n, h, hu => by
    have : m = 0 := h
    rw [this, Nat.zero_add]
    exact hu
  | s :: t, u, m, n, h, hu => by
    have h1 := h.1
    refine ⟨by omega, h.2.1, ?_⟩
    have := wt_app h.2.2 hu
    show wt_ a (t ++ u) (m + n - 1 + sa_ a s)
    rw [show m + n - 1 + sa_ a s = (m - 1 + sa_ a s) + n by omega]
    exact this
/-- what stands behind place e, and that it may be replaced -/
theorem wt_at {a : Nat → Nat} : ∀ {t : List Int32} {n e : Nat}, wt_ a t n → e ≤ t.length → ∃ m, wt_ a (t.drop e) m ∧ (e < t.length → 1 ≤ m) ∧ ∀ u, wt_ a u m → wt_ a (t.take e ++ u) n
  | t, n, 0, h, he => by
    refine ⟨n, h, fun q => ?_, fun u hu => hu⟩
    cases t with
    | nil => simp at q
    | cons s t => exact h.1
  | [], n, e + 1, h, he => by simp at he
  | s :: t, n, e + 1, h, he => by
    obtain ⟨m, h1, h2, h3⟩ := wt_at (e := e) h.2.2 (by simpa using he)
    exact ⟨m, h1, fun q => h2 (by simpa using q), fun u hu => ⟨h.1, h.2.1, h3 u hu⟩⟩
theorem wt_uniq {a : Nat → Nat} : ∀ {t : List Int32} {n m : Nat}, wt_ a t n → wt_ a t m → n = m
  | [], n, m, h1, h2 => by
    have e1 : n = 0 := h1
    have e2 : m = 0 := h2
    omega
  | s :: t, n, m, h1, h2 => by
    have := wt_uniq h1.2.2 h2.2.2
    have q1 := h1.1
    have q2 := h2.1
    omega
/-- the subterm at p -/
def su_ (a : Nat → Nat) (t : List Int32) (p : Nat) : List Int32 := (t.drop p).take (sk_ a (t.drop p) 1)
theorem su_ne {a : Nat → Nat} {t : List Int32} {p : Nat} (h : p < t.length) : su_ a t p ≠ [] := by
  unfold su_
  rw [drop_get h]
  simp [sk_]
theorem su_len {a : Nat → Nat} {t : List Int32} {p : Nat} : (su_ a t p).length = ep_ a t p - p := by
  unfold su_ ep_
  have := sk_le a (t.drop p) 1
  rw [List.length_take]
  omega
theorem su_wt {a : Nat → Nat} {t : List Int32} {n p : Nat} (h : wt_ a t n) (hp : p < t.length) : wt_ a (su_ a t p) 1 := by
  obtain ⟨m, h1, h2, -⟩ := wt_at h (Nat.le_of_lt hp)
  have := h2 hp
  have h3 : wt_ a (t.drop p) (1 + (m - 1)) := by rw [show 1 + (m - 1) = m by omega]; exact h1
  exact (wt_split1 h3).1
/-- two rows of m terms are the same -/
def se_ (a : Nat → Nat) : List Int32 → List Int32 → Nat → Bool
  | [], _, _ => true
  | s :: l, u, m => if m = 0 then true else if s = at_ u 0 then se_ a l (u.drop 1) (m - 1 + sa_ a s) else false
theorem se_eq {a : Nat → Nat} : ∀ {l u : List Int32} {m : Nat}, ok_ a l m → ok_ a u m → se_ a l u m = decide (l.take (sk_ a l m) = u.take (sk_ a u m))
  | [], u, m, h, hu => by
    have : m = 0 := h
    subst this
    simp [se_, sk_0]
  | s :: l, u, m, h, hu => by
    unfold se_
    by_cases hm : m = 0
    · subst hm
      simp [sk_0]
    · rw [if_neg hm]
      cases u with
      | nil => exact absurd hu hm
      | cons r u =>
        have e0 : at_ (r :: u) 0 = r := rfl
        have h1 : ok_ a l (m - 1 + sa_ a s) := h.elim (fun q => absurd q hm) (fun q => q.2)
        have h2 : ok_ a u (m - 1 + sa_ a r) := hu.elim (fun q => absurd q hm) (fun q => q.2)
        have k1 : sk_ a (s :: l) m = sk_ a l (m - 1 + sa_ a s) + 1 := by show (if m = 0 then 0 else _) = _; rw [if_neg hm]
        have k2 : sk_ a (r :: u) m = sk_ a u (m - 1 + sa_ a r) + 1 := by show (if m = 0 then 0 else _) = _; rw [if_neg hm]
        rw [e0, k1, k2, List.take_succ_cons, List.take_succ_cons]
        by_cases hs : s = r
        · subst hs
          rw [if_pos rfl, List.drop_succ_cons, List.drop_zero, se_eq h1 h2]
          simp
        · rw [if_neg hs]
          simp [hs]
theorem bi_t : bi_ true = 1 := rfl
theorem bi_f : bi_ false = 0 := rfl
theorem at_drop {l : List Int32} {p k : Nat} : at_ (l.drop p) k = at_ l (p + k) := by
  unfold at_
  simp [List.getD_eq_getElem?_getD]
theorem x8_same_loop {σ : js_S} {fu s o q : Nat} {a : Nat → Nat} {t u : List Int32} {p r : Nat} (h0 : σ.2.2 s 0 = s + 1) (hl : ln_ (s + 1) = 128) (hg : sg_ σ s a) (ho : to_ σ o) (ht : tm_ σ o t) (hs : t.length ≤ 40) (hq : to_ σ q) (hu : tm_ σ q u) (hs2 : u.length ≤ 40) (ha : ga_ a) (hr : r ≤ u.length) :
    ∀ (d e m k : Nat), p + e + d = t.length → d < k → m < 1000 + 3 * e → fX8_sameSubterms_6 fu k s o (nI p) q (nI r) (nI m) (nI e) σ = some (bi_ (se_ a (t.drop (p + e)) (u.drop (r + e)) m), σ) := by
  intro d
  induction d with
  | zero =>
    intro e m k he hk hm
    obtain ⟨k, rfl⟩ : ∃ j, k = j + 1 := ⟨k - 1, by omega⟩
    rw [sX8_sameSubterms_6]
    unfold fX8_sameSubterms_6b
    rw [ht.1, n_add, if_pos ((n_le (by omega) (by omega)).mpr (by omega)), drop_end (l := t) (by omega)]
    rfl
  | succ d ih =>
    intro e m k he hk hm
    obtain ⟨k, rfl⟩ : ∃ j, k = j + 1 := ⟨k - 1, by omega⟩
    rw [sX8_sameSubterms_6]
    unfold fX8_sameSubterms_6b
    rw [ht.1, n_add, n_add, x9_symbolAt ho.1 ho.2.1 ht hs (by omega), bd_s, x9_symbolAt hq.1 hq.2.1 hu hs2 (by omega), bd_s, x8_ofSymbol h0 hl hg, bd_s, if_neg (fun z => by have := (n_le (by omega) (by omega)).mp z; omega), drop_get (l := t) (p := p + e) (by omega)]
    unfold se_
    rw [at_drop, Nat.add_zero, List.drop_drop]
    by_cases hm0 : m = 0
    · have c0 : nI m ≤ 0 := (n_le (b := 0) (by omega) (by omega)).mpr (by omega)
      rw [if_pos c0, if_pos hm0]
      rfl
    · have hsa := sa_le ha (at_ t (p + e))
      have c0 : ¬ nI m ≤ 0 := fun z => by have := (n_le (b := 0) (by omega) (by omega)).mp z; omega
      rw [if_neg c0, if_neg hm0, show (1 : Int32) = nI 1 from rfl, n_ms (by omega), n_add, ih (e + 1) _ k (by omega) (by omega) (by omega)]
      by_cases hc : at_ t (p + e) = at_ u (r + e)
      · rw [if_pos hc, if_pos hc]
        rfl
      · rw [if_neg hc, if_neg hc]
        rfl
theorem x8_same {σ : js_S} {s o q p r : Nat} {a : Nat → Nat} {t u : List Int32} (h0 : σ.2.2 s 0 = s + 1) (hl : ln_ (s + 1) = 128) (hg : sg_ σ s a) (ho : to_ σ o) (ht : tm_ σ o t) (hs : t.length ≤ 40) (hq : to_ σ q) (hu : tm_ σ q u) (hs2 : u.length ≤ 40) (ha : ga_ a) (hp : p ≤ t.length) (hr : r ≤ u.length) (ok1 : ok_ a (t.drop p) 1) (ok2 : ok_ a (u.drop r) 1) : fX8_sameSubterms 5000 s o (nI p) q (nI r) σ = some (bi_ (decide (su_ a t p = su_ a u r)), σ) := by
  unfold fX8_sameSubterms
  have := x8_same_loop (fu := 5000) (p := p) h0 hl hg ho ht hs hq hu hs2 ha hr (t.length - p) 0 1 5000 (by omega) (by omega) (by omega)
  rw [show (1 : Int32) = nI 1 from rfl, show (0 : Int32) = nI 0 from rfl, this, Nat.add_zero, Nat.add_zero, se_eq ok1 ok2]
  rfl
/-! matching -/
def vn_ (s : Int32) : Nat := if s = 120 then 0 else if s = 121 then 1 else 2
theorem vn_lt (s : Int32) : vn_ s < 3 := by
  unfold vn_
  split
  · omega
  · split <;> omega
def mt_ (a : Nat → Nat) (t : List Int32) : List Int32 → Nat → (Nat → List Int32) → Option (Nat → List Int32)
  | [], _, b => some b
  | s :: p, e, b => if isV_ s = true then (if b (vn_ s) = [] ∨ b (vn_ s) = su_ a t e then mt_ a t p (ep_ a t e) (fun v => if v = vn_ s then su_ a t e else b v) else none) else if at_ t e = s then mt_ a t p (e + 1) b else none
theorem x_varnum {fu : Nat} {s : Int32} {σ : js_S} : fX11_variableNumber fu s σ = some ((if isV_ s = true then nI (vn_ s) else -1), σ) := by
  unfold fX11_variableNumber isV_ vn_
  by_cases h1 : s = 119
  · subst h1; rfl
  · by_cases h2 : s = 120
    · subst h2; rfl
    · by_cases h3 : s = 121
      · subst h3; rfl
      · rw [if_neg h1, if_neg h2, if_neg h3]
        simp [h1, h2, h3]
theorem x_isVar {fu : Nat} {s : Int32} {σ : js_S} : fX11_isVariable fu s σ = some (bi_ (isV_ s), σ) := by
  unfold fX11_isVariable
  rw [x_varnum, bd_s]
  by_cases h : isV_ s = true
  · have := vn_lt s
    rw [if_pos h, if_neg (nI_pos (by omega)), h]
    rfl
  · rw [if_neg h, if_pos (by decide)]
    simp at h
    rw [h]
    rfl
/-- the class's bindings -/
def bx_ (σ : js_S) (a : Nat → Nat) (t : List Int32) (b : Nat → List Int32) : Prop := ∀ v, v < 3 → (b v = [] ∧ σ.1 89 v = -1) ∨ ∃ q, q < t.length ∧ σ.1 89 v = nI q ∧ b v = su_ a t q
theorem ok_ne {a : Nat → Nat} {t : List Int32} {e m : Nat} (h : ok_ a (t.drop e) m) (hm : 1 ≤ m) : e < t.length := by
  rcases Nat.lt_or_ge e t.length with q | q
  · exact q
  · rw [drop_end q] at h
    have : m = 0 := h
    omega
theorem ok_step {a : Nat → Nat} {t : List Int32} {e m : Nat} (h : ok_ a (t.drop e) m) (hm : 1 ≤ m) : ok_ a (t.drop (e + 1)) (m - 1 + sa_ a (at_ t e)) := by
  have he := ok_ne h hm
  rw [drop_get he] at h
  exact h.elim (fun q => by omega) (fun q => q.2)
theorem ok_skip {a : Nat → Nat} {t : List Int32} {e m : Nat} (h : ok_ a (t.drop e) m) (hm : 1 ≤ m) : ok_ a (t.drop (ep_ a t e)) (m - 1) := by
  rw [show m = 1 + (m - 1) by omega] at h
  have := ok_drop h
  rw [List.drop_drop] at this
  exact this
theorem isV_sa {a : Nat → Nat} {s : Int32} (h : isV_ s = true) : sa_ a s = 0 := by
  unfold isV_ at h
  simp only [Bool.or_eq_true, beq_iff_eq] at h
  rcases h with (rfl | rfl) | rfl <;> rfl
theorem x7_fits_loop {i o : Nat} {a : Nat → Nat} {t pt : List Int32} (hi : i < 6) (ha : ga_ a) (hs : t.length ≤ 40) (hwt : wt_ a t 1) (hps : pt.length ≤ 40) (ho89 : o ≠ 89 ∧ o + 1 ≠ 89) :
    ∀ (d j e m k : Nat) (σ : js_S) (b : Nat → List Int32), j + d = pt.length → d < k → lx_ σ.2.2 → sg_ σ 3 a → tm_ σ (10 + 4 * i) pt → to_ σ o → tm_ σ o t → wt_ a (pt.drop j) m → ok_ a (t.drop e) m → e ≤ t.length → bx_ σ a t b →
      ∃ σ', fX7_ruleFits_18 5000 k 88 2 o (10 + 4 * i) (nI e) (nI j) σ = some (bi_ (mt_ a t (pt.drop j) e b).isSome, σ') ∧ fi_ (fun z => z = 89) σ σ' ∧ ∀ b', mt_ a t (pt.drop j) e b = some b' → bx_ σ' a t b' := by
  intro d
  induction d with
  | zero =>
    intro j e m k σ b he hk hl hg hp ho ht hw hok hel hb
    obtain ⟨k, rfl⟩ : ∃ j, k = j + 1 := ⟨k - 1, by omega⟩
    rw [drop_end (l := pt) (by omega)]
    refine ⟨σ, ?_, fi_rf, fun b' hb' => by cases hb'; exact hb⟩
    rw [sX7_ruleFits_18]
    unfold fX7_ruleFits_18b
    rw [hp.1, if_pos ((n_le (by omega) (by omega)).mpr (by omega))]
    rfl
  | succ d ih =>
    intro j e m k σ b he hk hl hg hp ho ht hw hok hel hb
    obtain ⟨k, rfl⟩ : ∃ j, k = j + 1 := ⟨k - 1, by omega⟩
    rw [drop_get (l := pt) (by omega)] at hw
    have hm := hw.1
    have hlt := ok_ne hok hm
    have hvs := hw.2.2
    rw [sX7_ruleFits_18]
    unfold fX7_ruleFits_18b fX7_ruleFits_115 fX7_ruleFits_91 fX7_ruleFits_134
    have tl := to_left hl i hi
    rw [hp.1, if_neg (fun z => by have := (n_le (by omega) (by omega)).mp z; omega), x9_symbolAt tl.1 tl.2.1 hp hps (by omega), bd_s, x_varnum, bd_s, drop_get (l := pt) (p := j) (by omega), lx_88_0 hl, ln_89, lx_2_0 hl, n_of]
    unfold mt_
    rw [show nI j + 1 = nI (j + 1) from n_add j 1]
    by_cases hV : isV_ (at_ pt j) = true
    · have hv := vn_lt (at_ pt j)
      rw [if_pos hV, if_pos hV, if_neg (nI_pos (by omega)), if_neg (fun z => by have := (n_le (by omega) (by omega)).mp z; omega), n_ib (by omega), n_cl (by omega), if_pos (by simpa using hv)]
      rw [isV_sa hV, Nat.add_zero] at hvs
      have hep := ep_le (a := a) hel
      -- the run behind a binding of the variable to e
      have key : ∃ σ', (if decide (vn_ (at_ pt j) < 3) = true then lt_ (uI_ σ 89 (vn_ (at_ pt j)) (nI e)) fun σ2 => bd_ (fX8_endOf 5000 (σ2.2.2 2 0) o (nI e) σ2) fun r4 σ4 => fX7_ruleFits_18 5000 k 88 2 o (10 + 4 * i) r4 (nI (j + 1)) σ4 else none) = some (bi_ (mt_ a t (pt.drop (j + 1)) (ep_ a t e) (fun v => if v = vn_ (at_ pt j) then su_ a t e else b v)).isSome, σ') ∧ fi_ (fun z => z = 89) σ σ' ∧ ∀ b', mt_ a t (pt.drop (j + 1)) (ep_ a t e) (fun v => if v = vn_ (at_ pt j) then su_ a t e else b v) = some b' → bx_ σ' a t b' := by
        have f1 : fi_ (fun z => z = 89) σ (uI_ σ 89 (vn_ (at_ pt j)) (nI e)) := fi_u rfl
        have tm1 := tm_fi f1 ho89.1 ho89.2 ht
        have hl1 : lx_ (uI_ σ 89 (vn_ (at_ pt j)) (nI e)).2.2 := hl
        have sg1 := sg_fi (o := 3) f1 (by omega) hg
        obtain ⟨σ', r1, r2, r3⟩ := ih (j + 1) (ep_ a t e) (m - 1) k (uI_ σ 89 (vn_ (at_ pt j)) (nI e)) (fun v => if v = vn_ (at_ pt j) then su_ a t e else b v) (by omega) (by omega) hl1 sg1 (tm_fi f1 (by omega) (by omega) hp) ho tm1 hvs (ok_skip hok hm) hep (fun v hv3 => by
          by_cases hvv : v = vn_ (at_ pt j)
          · right
            refine ⟨e, hlt, by rw [hvv, uI_same], ?_⟩
            show (if v = vn_ (at_ pt j) then su_ a t e else b v) = _
            rw [if_pos hvv]
          · show ((if v = vn_ (at_ pt j) then su_ a t e else b v) = [] ∧ _) ∨ ∃ q, q < t.length ∧ _ ∧ (if v = vn_ (at_ pt j) then su_ a t e else b v) = _
            rw [if_neg hvv, uI_ne (by omega)]
            exact hb v hv3)
        refine ⟨σ', ?_, fi_tr f1 r2 (fun a h => h) (fun a h => h), r3⟩
        rw [if_pos (by simpa using hv), lt_s_, lx_2_0 hl1, x8_endOf (lx_3_0 hl1) ln_4 sg1 ho.1 ho.2.1 tm1 hs ha (by omega), bd_s, r1]
      rcases hb _ hv with ⟨b1, b2⟩ | ⟨q, b0, b1, b2⟩
      · rw [b2, if_pos (by decide), if_pos (Or.inl b1)]
        exact key
      · rw [b1, if_neg (nI_pos (by omega)), x8_same (lx_3_0 hl) ln_4 hg ho ht hs ho ht hs ha (by omega) (by omega) (wt_tail hwt b0) (ok_le hok (by omega)), bd_s]
        · by_cases hsu : su_ a t q = su_ a t e
          · rw [decide_eq_true hsu, if_neg (by decide), if_pos (Or.inr (by rw [b2]; exact hsu)), lx_88_0 hl, ln_89, n_ib (by omega)]
            exact key
          · rw [decide_eq_false hsu, if_pos (by decide), if_neg (fun z => z.elim (fun z => su_ne b0 (b2 ▸ z)) (fun z => hsu (b2 ▸ z)))]
            exact ⟨σ, rfl, fi_rf, fun b' hb' => by cases hb'⟩
    · rw [if_neg hV, if_neg hV, if_pos (by decide), x9_symbolAt ho.1 ho.2.1 ht hs (by omega), bd_s]
      by_cases hc : at_ t e = at_ pt j
      · rw [if_pos hc, if_pos hc, show nI e + 1 = nI (e + 1) from n_add e 1]
        have hok2 := ok_step hok hm
        rw [hc] at hok2
        exact ih (j + 1) (e + 1) _ k σ b (by omega) (by omega) hl hg hp ho ht hvs hok2 hlt hb
      · rw [if_neg hc, if_neg hc]
        exact ⟨σ, rfl, fi_rf, fun b' hb' => by cases hb'⟩
