/-! which pair leads to which -/
def ld_ (a : Nat → Nat) (R L : List Int32) : Nat → Nat → Nat → Bool
  | 0, _, _ => true
  | d + 1, t, s => if L.length ≤ s then true else if (isV_ (at_ R t) || isV_ (at_ L s) || isF_ (at_ R t)) = true then ld_ a R L d (ep_ a R t) (ep_ a L s) else if at_ R t = at_ L s then ld_ a R L d (t + 1) (s + 1) else false
theorem ld_s {a : Nat → Nat} {R L : List Int32} {d t s : Nat} : ld_ a R L (d + 1) t s = if L.length ≤ s then true else if (isV_ (at_ R t) || isV_ (at_ L s) || isF_ (at_ R t)) = true then ld_ a R L d (ep_ a R t) (ep_ a L s) else if at_ R t = at_ L s then ld_ a R L d (t + 1) (s + 1) else false := rfl
/-- fuel beyond the rest of L changes nothing -/
theorem ld_fuel {a : Nat → Nat} {R L : List Int32} : ∀ {d d' t s : Nat}, L.length < s + d → L.length < s + d' → ld_ a R L d t s = ld_ a R L d' t s
  | 0, 0, t, s, _, _ => rfl
  | 0, d' + 1, t, s, h, _ => by rw [ld_s, if_pos (by omega)]; rfl
  | d + 1, 0, t, s, _, h => by rw [ld_s, if_pos (by omega)]; rfl
  | d + 1, d' + 1, t, s, h, h' => by
    rw [ld_s, ld_s]
    by_cases c : L.length ≤ s
    · rw [if_pos c, if_pos c]
    · have hgt := ep_gt (a := a) (show s < L.length by omega)
      rw [if_neg c, if_neg c, ld_fuel (d := d) (d' := d') (t := ep_ a R t) (s := ep_ a L s) (by omega) (by omega), ld_fuel (d := d) (d' := d') (t := t + 1) (s := s + 1) (by omega) (by omega)]
theorem x5_leadLoop {σ : js_S} {ol or_ : Nat} {a : Nat → Nat} {L R : List Int32} (hl : lx_ σ.2.2) (hg : sg_ σ 3 a) (ha : ga_ a) (hol : to_ σ ol) (hL : tm_ σ ol L) (gL : gt_ a L) (hor : to_ σ or_) (hR : tm_ σ or_ R) (r40 : R.length ≤ 40) :
    ∀ (d t s k : Nat), L.length ≤ s + d → d < k → t ≤ R.length → s ≤ L.length → fX5_leadsTo_23 5000 k 3 or_ ol (nI t) (nI s) σ = some (bi_ (ld_ a R L (d + 1) t s), σ) := by
  have l40 := gL.2
  intro d
  induction d with
  | zero =>
    intro t s k hs hk ht hsl
    obtain ⟨k, rfl⟩ : ∃ j, k = j + 1 := ⟨k - 1, by omega⟩
    rw [sX5_leadsTo_23, ld_s]
    unfold fX5_leadsTo_23b
    rw [hL.1, if_pos ((n_le (by omega) (by omega)).mpr (by omega)), if_pos (by omega)]
    rfl
  | succ d ih =>
    intro t s k hs hk ht hsl
    obtain ⟨k, rfl⟩ : ∃ j, k = j + 1 := ⟨k - 1, by omega⟩
    rw [sX5_leadsTo_23, ld_s]
    unfold fX5_leadsTo_23b
    by_cases c : L.length ≤ s
    · rw [hL.1, if_pos ((n_le (by omega) (by omega)).mpr (by omega)), if_pos c]
      rfl
    · have hgt := ep_gt (a := a) (show s < L.length by omega)
      have hle := ep_le (a := a) hsl
      have hle2 := ep_le (a := a) ht
      have e72 : fX5_leadsTo_72 5000 (fX5_leadsTo_23 5000 k) 3 or_ ol (nI t) (nI s) σ = some (bi_ (ld_ a R L (d + 1) (ep_ a R t) (ep_ a L s)), σ) := by
        unfold fX5_leadsTo_72 fX5_leadsTo_118
        rw [x8_endOf (lx_3_0 hl) ln_4 hg hor.1 hor.2.1 hR r40 ha ht, bd_s, x8_endOf (lx_3_0 hl) ln_4 hg hol.1 hol.2.1 hL l40 ha hsl, bd_s, show nI s + 1 = nI (s + 1) from n_add s 1]
        have emax : (if nI (s + 1) < nI (ep_ a L s) then nI (ep_ a L s) else nI (s + 1)) = nI (ep_ a L s) := by
          by_cases c2 : s + 1 < ep_ a L s
          · rw [if_pos ((n_lt (by omega) (by omega)).mpr c2)]
          · rw [if_neg (fun z => c2 ((n_lt (by omega) (by omega)).mp z)), show s + 1 = ep_ a L s by omega]
        rw [emax]
        exact ih (ep_ a R t) (ep_ a L s) k (by omega) (by omega) hle2 hle
      rw [hL.1, if_neg (fun z => by have := (n_le (by omega) (by omega)).mp z; omega), if_neg c, x9_symbolAt hor.1 hor.2.1 hR r40 (by omega), bd_s, x9_symbolAt hol.1 hol.2.1 hL l40 (by omega), bd_s, x_isVar, bd_s, e72]
      cases c1 : isV_ (at_ R t) with
      | true => rw [bi_t, if_neg (by decide), if_pos (by simp)]
      | false =>
        rw [bi_f, if_pos rfl, x_isVar, bd_s]
        cases c2 : isV_ (at_ L s) with
        | true => rw [bi_t, if_neg (by decide), if_pos (by simp), e72]
        | false =>
          rw [bi_f, if_pos rfl, x_isFun, bd_s]
          cases c3 : isF_ (at_ R t) with
          | true => rw [bi_t, if_neg (by decide), if_pos (by simp), e72]
          | false =>
            rw [bi_f, if_pos rfl, if_neg (show ¬ ((false || false || false) = true) from by decide)]
            by_cases c4 : at_ R t = at_ L s
            · have ht2 : t < R.length := isS_in (by rw [c4]; exact gt_sym gL s (by omega))
              unfold fX5_leadsTo_118
              rw [if_pos c4, if_pos c4, show nI t + 1 = nI (t + 1) from n_add t 1, show nI s + 1 = nI (s + 1) from n_add s 1]
              exact ih (t + 1) (s + 1) k (by omega) (by omega) ht2 (by omega)
            · rw [if_neg c4, if_neg c4]
              rfl
/-- the edge from a pair at e of R to one with the left side L -/
def eg_ (a : Nat → Nat) (R L : List Int32) (e : Nat) : Bool := decide (at_ R e = at_ L 0) && ld_ a R L (L.length + 1) (e + 1) 1
theorem x5_leadsTo {σ : js_S} {ol or_ e : Nat} {a : Nat → Nat} {L R : List Int32} (hl : lx_ σ.2.2) (hg : sg_ σ 3 a) (ha : ga_ a) (hol : to_ σ ol) (hL : tm_ σ ol L) (gL : gt_ a L) (hor : to_ σ or_) (hR : tm_ σ or_ R) (r40 : R.length ≤ 40) (he : e < R.length) : fX5_leadsTo 5000 3 or_ (nI e) ol σ = some (bi_ (eg_ a R L e), σ) := by
  have l0 := gt_pos gL
  have l40 := gL.2
  unfold fX5_leadsTo eg_
  rw [x9_symbolAt hor.1 hor.2.1 hR r40 (by omega), bd_s, show fX9_symbolAt 5000 ol 0 σ = _ from x9_symbolAt (p := 0) hol.1 hol.2.1 hL gL.2 (by omega), bd_s]
  by_cases c : at_ R e = at_ L 0
  · rw [if_pos c, decide_eq_true c, Bool.true_and, show nI e + 1 = nI (e + 1) from n_add e 1]
    exact x5_leadLoop hl hg ha hol hL gL hor hR r40 L.length (e + 1) 1 5000 (by omega) (by omega) he (by omega)
  · rw [if_neg c, decide_eq_false c]
    rfl
