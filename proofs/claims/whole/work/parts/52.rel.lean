/-! arguments and size relations -/
def ag_ (a : Nat → Nat) (t : List Int32) (p : Nat) : Nat → Nat
  | 0 => p + 1
  | k + 1 => ep_ a t (ag_ a t p k)
theorem ag_ok {a : Nat → Nat} {t : List Int32} {p : Nat} (h : ok_ a (t.drop p) 1) : ∀ {k : Nat}, k ≤ sa_ a (at_ t p) → ok_ a (t.drop (ag_ a t p k)) (sa_ a (at_ t p) - k) ∧ p < ag_ a t p k ∧ ag_ a t p k ≤ t.length
  | 0, _ => by
    have hlt := ok_ne h (by omega)
    have := ok_step h (by omega)
    rw [show 1 - 1 + sa_ a (at_ t p) = sa_ a (at_ t p) - 0 by omega] at this
    exact ⟨this, Nat.lt_succ_self _, hlt⟩
  | k + 1, hk => by
    obtain ⟨h1, h2, h3⟩ := ag_ok h (k := k) (by omega)
    have := ok_skip h1 (by omega)
    rw [show sa_ a (at_ t p) - k - 1 = sa_ a (at_ t p) - (k + 1) by omega] at this
    have hl := ok_ne h1 (by omega)
    have := ep_gt (a := a) hl
    exact ⟨by assumption, by show p < ep_ a t (ag_ a t p k); omega, ep_le h3⟩
theorem ag_lt {a : Nat → Nat} {t : List Int32} {p k : Nat} (h : ok_ a (t.drop p) 1) (hk : k < sa_ a (at_ t p)) : ag_ a t p k < t.length ∧ ok_ a (t.drop (ag_ a t p k)) 1 := by
  have := ag_ok h (k := k) (by omega)
  exact ⟨ok_ne this.1 (by omega), ok_le this.1 (by omega)⟩
theorem x8_argLoop {σ : js_S} {s o p k : Nat} {a : Nat → Nat} {t : List Int32} (h0 : σ.2.2 s 0 = s + 1) (hl : ln_ (s + 1) = 128) (hg : sg_ σ s a) (ho : to_ σ o) (ht : tm_ σ o t) (hs : t.length ≤ 40) (ha : ga_ a) (hp : ok_ a (t.drop p) 1) (hk : k ≤ sa_ a (at_ t p)) :
    ∀ (d j n : Nat), j + d = k → d < n → fX8_argumentOf_8 5000 n s o (nI k) (nI (ag_ a t p j)) (nI j) σ = some (nI (ag_ a t p k), σ) := by
  have hsa := sa_le ha (at_ t p)
  intro d
  induction d with
  | zero =>
    intro j n hj hn
    obtain ⟨n, rfl⟩ : ∃ j, n = j + 1 := ⟨n - 1, by omega⟩
    rw [sX8_argumentOf_8]
    unfold fX8_argumentOf_8b
    rw [if_pos ((n_le (by omega) (by omega)).mpr (by omega)), show j = k by omega]
  | succ d ih =>
    intro j n hj hn
    obtain ⟨n, rfl⟩ : ∃ j, n = j + 1 := ⟨n - 1, by omega⟩
    have h2 := ag_ok hp (k := j) (by omega)
    rw [sX8_argumentOf_8]
    unfold fX8_argumentOf_8b
    rw [if_neg (fun z => by have := (n_le (by omega) (by omega)).mp z; omega), x8_endOf h0 hl hg ho.1 ho.2.1 ht hs ha h2.2.2, bd_s, show nI j + 1 = nI (j + 1) from n_add j 1]
    exact ih (j + 1) n (by omega) (by omega)
theorem x8_argumentOf {σ : js_S} {s o p k : Nat} {a : Nat → Nat} {t : List Int32} (h0 : σ.2.2 s 0 = s + 1) (hl : ln_ (s + 1) = 128) (hg : sg_ σ s a) (ho : to_ σ o) (ht : tm_ σ o t) (hs : t.length ≤ 40) (ha : ga_ a) (hp : ok_ a (t.drop p) 1) (hk : k ≤ sa_ a (at_ t p)) : fX8_argumentOf 5000 s o (nI p) (nI k) σ = some (nI (ag_ a t p k), σ) := by
  have hsa := sa_le ha (at_ t p)
  unfold fX8_argumentOf
  rw [show nI p + 1 = nI (ag_ a t p 0) from n_add p 1, show (0 : Int32) = nI 0 from rfl]
  exact x8_argLoop h0 hl hg ho ht hs ha hp hk k 0 5000 (by omega) (by omega)
theorem m_argLoop {σ : js_S} {o b p k : Nat} {a : Nat → Nat} {t : List Int32} (hm : lm_ σ.2.2) (ha2 : ∀ f, f < 3 → σ.1 391 f = nI (a f)) (ha : ga_ a) (hn : ln_ o < 1000000000) (hv : vw_ σ o b t) (hs : t.length ≤ 40) (hb : b + t.length ≤ ln_ o) (hp : ok_ a (t.drop p) 1) (hk : k ≤ sa_ a (at_ t p)) :
    ∀ (d j n : Nat), j + d = k → d < n → fX12_argument_8 5000 n 390 o (nI k) (nI (b + ag_ a t p j)) (nI j) σ = some (nI (b + ag_ a t p k), σ) := by
  have hsa := sa_le ha (at_ t p)
  intro d
  induction d with
  | zero =>
    intro j n hj hn2
    obtain ⟨n, rfl⟩ : ∃ j, n = j + 1 := ⟨n - 1, by omega⟩
    rw [sX12_argument_8]
    unfold fX12_argument_8b
    rw [if_pos ((n_le (by omega) (by omega)).mpr (by omega)), show j = k by omega]
  | succ d ih =>
    intro j n hj hn2
    obtain ⟨n, rfl⟩ : ∃ j, n = j + 1 := ⟨n - 1, by omega⟩
    have h2 := ag_lt hp (k := j) (by omega)
    rw [sX12_argument_8]
    unfold fX12_argument_8b
    rw [if_neg (fun z => by have := (n_le (by omega) (by omega)).mp z; omega), m_end hm ha2 ha (by omega) h2.2 (vw_drop hv) (by rw [List.length_drop]; omega) (by rw [List.length_drop]; omega), bd_s, show nI j + 1 = nI (j + 1) from n_add j 1]
    have := ih (j + 1) n (by omega) (by omega)
    rw [show b + ag_ a t p j + sk_ a (t.drop (ag_ a t p j)) 1 = b + ag_ a t p (j + 1) by show _ = b + (ag_ a t p j + sk_ a (t.drop (ag_ a t p j)) 1); omega]
    exact this
theorem m_argument {σ : js_S} {o b p k : Nat} {a : Nat → Nat} {t : List Int32} (hm : lm_ σ.2.2) (ha2 : ∀ f, f < 3 → σ.1 391 f = nI (a f)) (ha : ga_ a) (hn : ln_ o < 1000000000) (hv : vw_ σ o b t) (hs : t.length ≤ 40) (hb : b + t.length ≤ ln_ o) (hp : ok_ a (t.drop p) 1) (hk : k ≤ sa_ a (at_ t p)) : fX12_argument 5000 390 o (nI (b + p)) (nI k) σ = some (nI (b + ag_ a t p k), σ) := by
  have hsa := sa_le ha (at_ t p)
  unfold fX12_argument
  rw [show nI (b + p) + 1 = nI (b + ag_ a t p 0) from n_add (b + p) 1, show (0 : Int32) = nI 0 from rfl]
  exact m_argLoop hm ha2 ha hn hv hs hb hp hk k 0 5000 (by omega) (by omega)
/-- the relation of the subterm at f in L to the one at t in R -/
def rb_ (a : Nat → Nat) (L R : List Int32) (f t : Nat) : Nat → Nat → Nat
  | 0, _ => 0
  | d + 1, q => if su_ a L q = su_ a R t then (if q = f then 1 else 2) else rb_ a L R f t d (q + 1)
theorem x5_relLoop {σ : js_S} {ol or_ f t : Nat} {a : Nat → Nat} {L R : List Int32} (hl : lx_ σ.2.2) (hg : sg_ σ 3 a) (ha : ga_ a) (hol : to_ σ ol) (hL : tm_ σ ol L) (l40 : L.length ≤ 40) (hor : to_ σ or_) (hR : tm_ σ or_ R) (r40 : R.length ≤ 40) (hwL : wt_ a L 1) (ht : t < R.length) (okR : ok_ a (R.drop t) 1) (hf : f ≤ L.length) {e : Nat} (he : e ≤ L.length) :
    ∀ (d q k : Nat), q + d = e → d < k → fX5_relationBetween_11 5000 k 3 ol (nI f) or_ (nI t) (nI e) (nI q) σ = some (nI (rb_ a L R f t d q), σ) := by
  intro d
  induction d with
  | zero =>
    intro q k hq hk
    obtain ⟨k, rfl⟩ : ∃ j, k = j + 1 := ⟨k - 1, by omega⟩
    rw [sX5_relationBetween_11]
    unfold fX5_relationBetween_11b
    rw [if_pos ((n_le (by omega) (by omega)).mpr (by omega))]
    rfl
  | succ d ih =>
    intro q k hq hk
    obtain ⟨k, rfl⟩ : ∃ j, k = j + 1 := ⟨k - 1, by omega⟩
    rw [sX5_relationBetween_11]
    unfold fX5_relationBetween_11b rb_
    rw [if_neg (fun z => by have := (n_le (by omega) (by omega)).mp z; omega), x8_same (lx_3_0 hl) ln_4 hg hol hL l40 hor hR r40 ha (by omega) (by omega) (wt_tail hwL (by omega)) okR, bd_s, show nI q + 1 = nI (q + 1) from n_add q 1]
    by_cases c : su_ a L q = su_ a R t
    · rw [decide_eq_true c, bi_t, if_neg (by decide), if_pos c]
      by_cases c2 : q = f
      · rw [if_pos (by rw [c2]), if_pos c2]
        rfl
      · rw [if_neg (fun z => c2 ((n_eq (by omega) (by omega)).mp z)), if_neg c2]
        rfl
    · rw [decide_eq_false c, bi_f, if_pos rfl, if_neg c]
      exact ih (q + 1) k (by omega) (by omega)
/-- the relation, of all parts of the subterm at f -/
def rv_ (a : Nat → Nat) (L R : List Int32) (f t : Nat) : Nat := rb_ a L R f t (ep_ a L f - f) f
theorem x5_rel {σ : js_S} {ol or_ f t : Nat} {a : Nat → Nat} {L R : List Int32} (hl : lx_ σ.2.2) (hg : sg_ σ 3 a) (ha : ga_ a) (hol : to_ σ ol) (hL : tm_ σ ol L) (l40 : L.length ≤ 40) (hor : to_ σ or_) (hR : tm_ σ or_ R) (r40 : R.length ≤ 40) (hwL : wt_ a L 1) (ht : t < R.length) (okR : ok_ a (R.drop t) 1) (hf : f < L.length) : fX5_relationBetween 5000 3 ol (nI f) or_ (nI t) σ = some (nI (rv_ a L R f t), σ) := by
  have h1 := ep_le (a := a) (Nat.le_of_lt hf)
  have h2 := ep_gt (a := a) hf
  unfold fX5_relationBetween
  rw [x8_endOf (lx_3_0 hl) ln_4 hg hol.1 hol.2.1 hL l40 ha (by omega), bd_s]
  exact x5_relLoop hl hg ha hol hL l40 hor hR r40 hwL ht okR (by omega) h1 (ep_ a L f - f) f 5000 (by omega) (by omega)
theorem su_eq_iff {a : Nat → Nat} {L R : List Int32} {q t : Nat} : su_ a L q = su_ a R t ↔ ep_ a L q - q = ep_ a R t - t ∧ (L.drop q).take (ep_ a R t - t) = (R.drop t).take (ep_ a R t - t) := by
  rw [← su_range (a := a) (t := L), ← su_range (a := a) (t := R)]
  constructor
  · intro h
    have hlen := congrArg List.length h
    rw [su_range, su_range, su_len, su_len] at hlen
    rw [hlen] at h
    exact ⟨hlen, h⟩
  · intro h
    rw [h.1]
    exact h.2
theorem m_relLoop {σ : js_S} {bl br f t : Nat} {a : Nat → Nat} {L R : List Int32} (hm : lm_ σ.2.2) (ha2 : ∀ f, f < 3 → σ.1 391 f = nI (a f)) (ha : ga_ a) (hL : vw_ σ 393 bl L) (l40 : L.length ≤ 40) (hbl : bl + L.length ≤ 1152) (hR : vw_ σ 393 br R) (r40 : R.length ≤ 40) (hbr : br + R.length ≤ 1152) (hwL : wt_ a L 1) (ht : t < R.length) (hf : f ≤ L.length) {e : Nat} (he : e ≤ L.length) :
    ∀ (d q k : Nat), q + d = e → d < k → fX12_relation_63 5000 k 390 (nI (bl + f)) (nI (br + t)) (nI (ep_ a R t - t)) (nI (bl + e)) (nI (bl + q)) σ = some (nI (rb_ a L R f t d q), σ) := by
  have hept := ep_le (a := a) (Nat.le_of_lt ht)
  intro d
  induction d with
  | zero =>
    intro q k hq hk
    obtain ⟨k, rfl⟩ : ∃ j, k = j + 1 := ⟨k - 1, by omega⟩
    rw [sX12_relation_63]
    unfold fX12_relation_63b
    rw [if_pos ((n_le (by omega) (by omega)).mpr (by omega))]
    rfl
  | succ d ih =>
    intro q k hq hk
    obtain ⟨k, rfl⟩ : ∃ j, k = j + 1 := ⟨k - 1, by omega⟩
    have hepq := ep_le (a := a) (show q ≤ L.length by omega)
    have hend : fX12_end 5000 390 393 (nI (bl + q)) σ = some (nI (bl + ep_ a L q), σ) := by
      rw [m_end hm ha2 ha (by rw [ln_393]; omega) (wt_tail hwL (show q < L.length by omega)) (vw_drop hL) (by rw [List.length_drop]; omega) (by rw [List.length_drop, ln_393]; omega)]
      unfold ep_
      rw [Nat.add_assoc]
    have hgt := ep_gt (a := a) (show q < L.length by omega)
    rw [sX12_relation_63]
    unfold fX12_relation_63b fX12_relation_121 rb_
    rw [if_neg (fun z => by have := (n_le (by omega) (by omega)).mp z; omega), lm_2 hm, hend, bd_s, n_sub (by omega), show bl + ep_ a L q - (bl + q) = ep_ a L q - q by omega, show nI (bl + q) + 1 = nI (bl + (q + 1)) from n_add (bl + q) 1]
    by_cases c1 : ep_ a L q - q = ep_ a R t - t
    · rw [if_pos (by rw [c1]), lm_2 hm, m_areEqual (vw_drop (q := q) hL) (vw_drop (q := t) hR) (by rw [List.length_drop]; omega) (by rw [List.length_drop]; omega) (by rw [ln_393]; omega) (by rw [ln_393]; omega) (by rw [ln_393]; omega) (by omega), bd_s]
      by_cases c2 : (L.drop q).take (ep_ a R t - t) = (R.drop t).take (ep_ a R t - t)
      · rw [decide_eq_true c2, bi_t, if_neg (by decide), if_pos (su_eq_iff.mpr ⟨c1, c2⟩)]
        by_cases c3 : q = f
        · rw [if_pos (by rw [c3]), if_pos c3]
          rfl
        · rw [if_neg (fun z => c3 (by have := (n_eq (by omega) (by omega)).mp z; omega)), if_neg c3]
          rfl
      · rw [decide_eq_false c2, bi_f, if_pos rfl, if_neg (fun z => c2 (su_eq_iff.mp z).2)]
        exact ih (q + 1) k (by omega) (by omega)
    · rw [if_neg (fun z => c1 ((n_eq (by omega) (by omega)).mp z)), if_neg (fun z => c1 (su_eq_iff.mp z).1)]
      exact ih (q + 1) k (by omega) (by omega)
