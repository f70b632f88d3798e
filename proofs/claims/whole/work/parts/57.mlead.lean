/-! the model's compatibility -/
theorem sk_add {a : Nat → Nat} : ∀ {l : List Int32} {m n : Nat}, sk_ a l (m + n) = sk_ a l m + sk_ a (l.drop (sk_ a l m)) n
  | [], m, n => by simp [sk_]
  | s :: l, m, n => by
    by_cases hm : m = 0
    · subst hm
      rw [sk_0, List.drop_zero, Nat.zero_add, Nat.zero_add]
    · have e1 : sk_ a (s :: l) m = sk_ a l (m - 1 + sa_ a s) + 1 := by show (if m = 0 then 0 else _) = _; rw [if_neg hm]
      have e2 : sk_ a (s :: l) (m + n) = sk_ a l (m + n - 1 + sa_ a s) + 1 := by show (if m + n = 0 then 0 else _) = _; rw [if_neg (by omega)]
      rw [e1, e2, List.drop_succ_cons, show m + n - 1 + sa_ a s = (m - 1 + sa_ a s) + n by omega, sk_add]
      omega
theorem ag_sk {a : Nat → Nat} {t : List Int32} {p : Nat} : ∀ {k : Nat}, ag_ a t p k = p + 1 + sk_ a (t.drop (p + 1)) k
  | 0 => by rw [sk_0]; rfl
  | k + 1 => by
    show ep_ a t (ag_ a t p k) = _
    rw [ag_sk (k := k), sk_add]
    unfold ep_
    rw [List.drop_drop]
    omega
theorem ag_end {a : Nat → Nat} {t : List Int32} {p : Nat} (h : p < t.length) : ag_ a t p (sa_ a (at_ t p)) = ep_ a t p := by
  rw [ag_sk]
  unfold ep_
  rw [drop_get h]
  show _ = p + (if 1 = 0 then 0 else sk_ a (t.drop (p + 1)) (1 - 1 + sa_ a (at_ t p)) + 1)
  rw [if_neg (by omega), show 1 - 1 + sa_ a (at_ t p) = sa_ a (at_ t p) by omega]
  omega
def ca_ (a : Nat → Nat) (R L : List Int32) (f : Nat → Nat → Bool) (t s : Nat) : Nat → Nat → Bool
  | 0, _ => true
  | r + 1, j => f (ag_ a R t j) (ag_ a L s j) && ca_ a R L f t s r (j + 1)
def cm_ (a : Nat → Nat) (R L : List Int32) : Nat → Nat → Nat → Bool
  | 0, _, _ => true
  | d + 1, t, s => if (isV_ (at_ R t) || isV_ (at_ L s) || isF_ (at_ R t)) = true then true else if at_ R t = at_ L s then ca_ a R L (cm_ a R L d) t s (sa_ a (at_ R t)) 0 else false
/-- the linear pass goes through the arguments -/
theorem ld_cm {a : Nat → Nat} {R L : List Int32} : ∀ {d t s n : Nat}, ok_ a (R.drop t) 1 → ok_ a (L.drop s) 1 → L.length < s + d → L.length < s + n → ld_ a R L n t s = (cm_ a R L d t s && ld_ a R L n (ep_ a R t) (ep_ a L s))
  | 0, t, s, n, hR, hL, hd, hn => by
    have := ok_ne hL (by omega)
    omega
  | d + 1, t, s, n, hR, hL, hd, hn => by
    have hs := ok_ne hL (by omega)
    have ht := ok_ne hR (by omega)
    have hgt := ep_gt (a := a) hs
    obtain ⟨n, rfl⟩ : ∃ j, n = j + 1 := ⟨n - 1, by omega⟩
    rw [ld_s, if_neg (by omega)]
    unfold cm_
    by_cases c : (isV_ (at_ R t) || isV_ (at_ L s) || isF_ (at_ R t)) = true
    · rw [if_pos c, if_pos c, Bool.true_and]
      exact ld_fuel (by omega) (by omega)
    · rw [if_neg c, if_neg c]
      by_cases c2 : at_ R t = at_ L s
      · rw [if_pos c2, if_pos c2]
        have key : ∀ (r j : Nat), j + r = sa_ a (at_ R t) → ld_ a R L (n + 1) (ag_ a R t j) (ag_ a L s j) = (ca_ a R L (cm_ a R L d) t s r j && ld_ a R L (n + 1) (ep_ a R t) (ep_ a L s)) := by
          intro r
          induction r with
          | zero =>
            intro j hj
            have e1 : ag_ a R t j = ep_ a R t := by rw [show j = sa_ a (at_ R t) by omega]; exact ag_end ht
            have e2 : ag_ a L s j = ep_ a L s := by rw [show j = sa_ a (at_ L s) by rw [← c2]; omega]; exact ag_end hs
            rw [e1, e2]
            show _ = (true && _)
            rw [Bool.true_and]
          | succ r ih =>
            intro j hj
            have h1 := ag_lt hR (k := j) (by omega)
            have h2 := ag_lt hL (k := j) (by rw [← c2]; omega)
            have h3 := (ag_ok hL (k := j) (by rw [← c2]; omega)).2.1
            rw [ld_cm (d := d) h1.2 h2.2 (by omega) (by omega)]
            show (cm_ a R L d (ag_ a R t j) (ag_ a L s j) && ld_ a R L (n + 1) (ag_ a R t (j + 1)) (ag_ a L s (j + 1))) = _
            rw [ih (j + 1) (by omega), ← Bool.and_assoc]
            rfl
        rw [ld_fuel (d := n) (d' := n + 1) (by omega) (by omega)]
        exact key (sa_ a (at_ R t)) 0 (by omega)
      · rw [if_neg c2, if_neg c2]
        rfl
/-- the model's recursion -/
def mc5_ (a : Nat → Nat) (R L : List Int32) (br bl : Nat) (σ : js_S) (d : Nat) (rp : Nat → Int32 → Int32 → js_S → Option (Int32 × js_S)) : Prop := ∀ t s, ok_ a (R.drop t) 1 → ok_ a (L.drop s) 1 → L.length < s + d → rp 390 (nI (br + t)) (nI (bl + s)) σ = some (bi_ (cm_ a R L d t s), σ)
theorem m_cargs {σ : js_S} {a : Nat → Nat} {R L : List Int32} {br bl d t s : Nat} {rp : Nat → Int32 → Int32 → js_S → Option (Int32 × js_S)} (hm : lm_ σ.2.2) (ha2 : ∀ f, f < 3 → σ.1 391 f = nI (a f)) (ha : ga_ a) (hR : vw_ σ 393 br R) (r40 : R.length ≤ 40) (hbr : br + R.length ≤ 1152) (hL : vw_ σ 393 bl L) (l40 : L.length ≤ 40) (hbl : bl + L.length ≤ 1152) (hf : mc5_ a R L br bl σ d rp) (okR : ok_ a (R.drop t) 1) (okL : ok_ a (L.drop s) 1) (hsa : sa_ a (at_ R t) = sa_ a (at_ L s)) (hd : L.length < s + (d + 1)) :
    ∀ (r j k : Nat) (b : Bool), j + r = sa_ a (at_ R t) → r < k → fX12_areArgumentsCompatible_5 5000 rp k 390 (nI (br + t)) (nI (bl + s)) (bi_ b) (nI j) σ = some (bi_ (b && ca_ a R L (cm_ a R L d) t s r j), σ) := by
  have ht := ok_ne okR (by omega)
  have hsl := ok_ne okL (by omega)
  have h3 := sa_le ha (at_ R t)
  intro r
  induction r with
  | zero =>
    intro j k b hj hk
    obtain ⟨k, rfl⟩ : ∃ j, k = j + 1 := ⟨k - 1, by omega⟩
    show fX12_areArgumentsCompatible_5b 5000 rp (fX12_areArgumentsCompatible_5 5000 rp k) 390 (nI (br + t)) (nI (bl + s)) (bi_ b) (nI j) σ = _
    unfold fX12_areArgumentsCompatible_5b
    rw [lm_2 hm, ln_393, n_ib (by omega), if_pos (by simp; omega), n_cl (by omega), hR t ht, m_arityOf hm ha2, bd_s, if_pos ((n_le (by omega) (by omega)).mpr (by omega)), bi_nz, if_pos rfl]
    show _ = some (bi_ (b && true), σ)
    rw [Bool.and_true]
  | succ r ih =>
    intro j k b hj hk
    obtain ⟨k, rfl⟩ : ∃ j, k = j + 1 := ⟨k - 1, by omega⟩
    show fX12_areArgumentsCompatible_5b 5000 rp (fX12_areArgumentsCompatible_5 5000 rp k) 390 (nI (br + t)) (nI (bl + s)) (bi_ b) (nI j) σ = _
    unfold fX12_areArgumentsCompatible_5b
    rw [lm_2 hm, ln_393, n_ib (by omega), if_pos (by simp; omega), n_cl (by omega), hR t ht, m_arityOf hm ha2, bd_s, if_neg (fun z => by have := (n_le (by omega) (by omega)).mp z; omega)]
    cases b with
    | false =>
      rw [bi_f, if_pos rfl, nz0, if_pos rfl, Bool.false_and]
      rfl
    | true =>
      have h1 := ag_lt okR (k := j) (by omega)
      have h2 := ag_lt okL (k := j) (by omega)
      have h4 := (ag_ok okL (k := j) (by omega)).2.1
      rw [bi_t, if_neg (by decide), lm_2 hm, m_argument (k := j) hm ha2 ha (by rw [ln_393]; omega) hR r40 (by rw [ln_393]; omega) okR (by omega), bd_s, lm_2 hm, m_argument (k := j) hm ha2 ha (by rw [ln_393]; omega) hL l40 (by rw [ln_393]; omega) okL (by omega), bd_s, hf _ _ h1.2 h2.2 (by omega), bd_s, show nI j + 1 = nI (j + 1) from n_add j 1, ih (j + 1) k _ (by omega) (by omega), Bool.true_and]
      rfl
theorem m_compat {σ : js_S} {a : Nat → Nat} {R L : List Int32} {br bl : Nat} (hm : lm_ σ.2.2) (ha2 : ∀ f, f < 3 → σ.1 391 f = nI (a f)) (ha : ga_ a) (hR : vw_ σ 393 br R) (r40 : R.length ≤ 40) (hbr : br + R.length ≤ 1152) (hL : vw_ σ 393 bl L) (l40 : L.length ≤ 40) (hbl : bl + L.length ≤ 1152) : ∀ d, mc5_ a R L br bl σ d (fX12_isCompatible 5000 d)
  | 0 => fun t s h1 h2 h3 => by
    have := ok_ne h2 (by omega)
    omega
  | d + 1 => by
    intro t s okR okL hd
    have ih := m_compat hm ha2 ha hR r40 hbr hL l40 hbl d
    have ht := ok_ne okR (by omega)
    have hsl := ok_ne okL (by omega)
    show fX12_isCompatible_e 5000 (fun a0 a1 a2 σ => fX12_areArgumentsCompatible_e 5000 (fX12_isCompatible 5000 d) a0 a1 a2 σ) 390 (nI (br + t)) (nI (bl + s)) σ = _
    unfold fX12_isCompatible_e cm_
    rw [lm_2 hm, ln_393, n_ib (by omega), if_pos (by simp; omega), n_ib (by omega), if_pos (by simp; omega), n_cl (by omega), n_cl (by omega), hR t ht, hL s hsl, m_isV, bd_s]
    cases c1 : isV_ (at_ R t) with
    | true =>
      rw [bi_t, if_neg (by decide), if_pos (by simp)]
      rfl
    | false =>
      rw [bi_f, if_pos rfl, m_isV, bd_s]
      cases c2 : isV_ (at_ L s) with
      | true =>
        rw [bi_t, if_neg (by decide), if_pos (by simp)]
        rfl
      | false =>
        rw [bi_f, if_pos rfl, m_isFunction, bd_s]
        cases c3 : isF_ (at_ R t) with
        | true =>
          rw [if_pos rfl, if_neg (by decide), if_pos (by simp)]
          rfl
        | false =>
          rw [if_neg Bool.false_ne_true, if_pos rfl, if_neg (show ¬ ((false || false || false) = true) from by decide)]
          by_cases c4 : at_ R t = at_ L s
          · have hsa := sa_le ha (at_ R t)
            have hargs := m_cargs hm ha2 ha hR r40 hbr hL l40 hbl ih okR okL (by rw [c4]) hd (sa_ a (at_ R t)) 0 5000 true (by omega) (by omega)
            rw [if_pos c4, if_pos c4]
            show bd_ (fX12_areArgumentsCompatible_5 5000 (fX12_isCompatible 5000 d) 5000 390 (nI (br + t)) (nI (bl + s)) 1 0 σ) _ = _
            rw [show fX12_areArgumentsCompatible_5 5000 (fX12_isCompatible 5000 d) 5000 390 (nI (br + t)) (nI (bl + s)) 1 0 σ = _ from hargs, bd_s, Bool.true_and, bi_ite]
          · rw [if_neg c4, if_neg c4]
            rfl
