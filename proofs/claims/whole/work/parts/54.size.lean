/-! the size-change graph of a pair -/
def fn_ (s : Int32) : Nat := if s = 102 then 0 else if s = 103 then 1 else 2
theorem fn_lt (s : Int32) : fn_ s < 3 := by
  unfold fn_
  split
  · omega
  · split <;> omega
theorem isF_cases {s : Int32} (h : isF_ s = true) : s = 102 ∨ s = 103 ∨ s = 104 := by
  unfold isF_ at h
  simp only [Bool.or_eq_true, beq_iff_eq] at h
  rcases h with (h | h) | h
  · exact Or.inl h
  · exact Or.inr (Or.inl h)
  · exact Or.inr (Or.inr h)
theorem x_funOf {fu : Nat} {s : Int32} {σ : js_S} (h : isF_ s = true) : fX11_functionOfSymbol fu s σ = some (nI (fn_ s), σ) := by
  rcases isF_cases h with rfl | rfl | rfl <;> rfl
theorem sa_fn {a : Nat → Nat} {s : Int32} (h : isF_ s = true) : sa_ a s = a (fn_ s) := by
  rcases isF_cases h with rfl | rfl | rfl <;> rfl
theorem fn_nI {s : Int32} (h : isF_ s = true) : s - 102 = nI (fn_ s) := by
  rcases isF_cases h with rfl | rfl | rfl <;> rfl
theorem rb_le {a : Nat → Nat} {L R : List Int32} {f t : Nat} : ∀ {d q : Nat}, rb_ a L R f t d q ≤ 2
  | 0, q => by simp [rb_]
  | d + 1, q => by
    unfold rb_
    split
    · split <;> omega
    · exact rb_le
/-- the fields of the graph -/
def dg_ (a : Nat → Nat) (L R : List Int32) (e : Nat) (k : Nat) : Nat := if k = 10 then fn_ (at_ R e) else if k = 9 then fn_ (at_ L 0) else if k < 9 ∧ k / 3 < a (fn_ (at_ L 0)) ∧ k % 3 < a (fn_ (at_ R e)) then rv_ a L R (ag_ a L 0 (k / 3)) (ag_ a R e (k % 3)) else 0
theorem dg_lt {a : Nat → Nat} {L R : List Int32} {e : Nat} : ∀ k, dg_ a L R e k < 4 := by
  intro k
  have h1 := fn_lt (at_ R e)
  have h2 := fn_lt (at_ L 0)
  unfold dg_
  split
  · omega
  · split
    · omega
    · split
      · unfold rv_
        have := rb_le (a := a) (L := L) (R := R) (f := ag_ a L 0 (k / 3)) (t := ag_ a R e (k % 3)) (d := ep_ a L (ag_ a L 0 (k / 3)) - ag_ a L 0 (k / 3)) (q := ag_ a L 0 (k / 3))
        omega
      · omega
/-- the first n of the nine relations -/
def de_ (D : Nat → Nat) (n k : Nat) : Nat := if k = 9 ∨ k = 10 then D k else if k < n then D k else 0
theorem de_lt {D : Nat → Nat} (h : ∀ k, D k < 4) {n : Nat} : ∀ k, de_ D n k < 4 := by
  intro k
  unfold de_
  split
  · exact h k
  · split
    · exact h k
    · omega
theorem gg_ext {D E : Nat → Nat} (h : ∀ k, k < 11 → D k = E k) : gg_ D = gg_ E := by
  unfold gg_
  rw [gd_ext h]
theorem x5_size56 {σ : js_S} {ol or_ e i : Nat} {a : Nat → Nat} {L R : List Int32} {rc : Nat → Nat → Nat → Int32 → Int32 → Int32 → Int32 → Int32 → js_S → Option (Int32 × js_S)} (hl : lx_ σ.2.2) (hg : sg_ σ 3 a) (ha : ga_ a) (hol : to_ σ ol) (hL : tm_ σ ol L) (gL : gt_ a L) (hor : to_ σ or_) (hR : tm_ σ or_ R) (gR : gt_ a R) (he : e < R.length) (hF : isF_ (at_ R e) = true) (hF0 : isF_ (at_ L 0) = true) (hi : i < a (fn_ (at_ L 0))) :
    ∀ (d j k : Nat), j + d = a (fn_ (at_ R e)) → d < k → fX5_sizeChange_56 5000 rc k 3 ol or_ (nI e) (nI (fn_ (at_ L 0))) (nI (fn_ (at_ R e))) (gg_ (de_ (dg_ a L R e) (3 * i + j))) (nI i) (nI (ag_ a L 0 i)) (nI j) σ = rc 3 ol or_ (nI e) (nI (fn_ (at_ L 0))) (nI (fn_ (at_ R e))) (gg_ (de_ (dg_ a L R e) (3 * (i + 1)))) (nI (i + 1)) σ := by
  have l40 := gL.2
  have r40 := gR.2
  have h1 := fn_lt (at_ R e)
  have h2 := fn_lt (at_ L 0)
  have a1 := ha _ h1
  have a2 := ha _ h2
  have okR := wt_tail gR.1 he
  have okL : ok_ a (L.drop 0) 1 := ok_wt gL.1
  intro d
  induction d with
  | zero =>
    intro j k hj hk
    obtain ⟨k, rfl⟩ : ∃ j, k = j + 1 := ⟨k - 1, by omega⟩
    rw [sX5_sizeChange_56]
    unfold fX5_sizeChange_56b
    rw [x8_ofFunction (lx_3_0 hl) ln_4 hg h1, bd_s, if_pos ((n_le (by omega) (by omega)).mpr (by omega)), show nI i + 1 = nI (i + 1) from n_add i 1]
    have : gg_ (de_ (dg_ a L R e) (3 * i + j)) = gg_ (de_ (dg_ a L R e) (3 * (i + 1))) := by
      apply gg_ext
      intro q hq
      unfold de_
      by_cases c : q = 9 ∨ q = 10
      · rw [if_pos c, if_pos c]
      · rw [if_neg c, if_neg c]
        by_cases c1 : q < 3 * i + j
        · rw [if_pos c1, if_pos (by omega)]
        · rw [if_neg c1]
          by_cases c2 : q < 3 * (i + 1)
          · rw [if_pos c2]
            unfold dg_
            rw [if_neg (by omega), if_neg (by omega), if_neg (by omega)]
          · rw [if_neg c2]
    rw [this]
  | succ d ih =>
    intro j k hj hk
    obtain ⟨k, rfl⟩ : ∃ j, k = j + 1 := ⟨k - 1, by omega⟩
    have hagR := ag_lt okR (k := j) (by rw [sa_fn hF]; omega)
    have hagL := ag_lt okL (k := i) (by rw [sa_fn hF0]; omega)
    have hrv : rv_ a L R (ag_ a L 0 i) (ag_ a R e j) < 4 := by
      unfold rv_
      have := rb_le (a := a) (L := L) (R := R) (f := ag_ a L 0 i) (t := ag_ a R e j) (d := ep_ a L (ag_ a L 0 i) - ag_ a L 0 i) (q := ag_ a L 0 i)
      omega
    rw [sX5_sizeChange_56]
    unfold fX5_sizeChange_56b
    rw [x8_ofFunction (lx_3_0 hl) ln_4 hg h1, bd_s, if_neg (fun z => by have := (n_le (by omega) (by omega)).mp z; omega), x8_argumentOf (lx_3_0 hl) ln_4 hg hor hR r40 ha okR (by rw [sa_fn hF]; omega), bd_s, x5_rel hl hg ha hol hL l40 hor hR r40 gL.1 hagR.1 hagR.2 hagL.1, bd_s, x_withRelation (de_lt dg_lt) (by omega) (by omega) (by unfold de_; rw [if_neg (by omega), if_neg (by omega)]) hrv, bd_s, show nI j + 1 = nI (j + 1) from n_add j 1]
    have : gg_ (fun q => if q = 3 * i + j then rv_ a L R (ag_ a L 0 i) (ag_ a R e j) else de_ (dg_ a L R e) (3 * i + j) q) = gg_ (de_ (dg_ a L R e) (3 * i + (j + 1))) := by
      apply gg_ext
      intro q hq
      show (if q = 3 * i + j then rv_ a L R (ag_ a L 0 i) (ag_ a R e j) else de_ (dg_ a L R e) (3 * i + j) q) = _
      unfold de_
      by_cases c0 : q = 3 * i + j
      · rw [if_pos c0, if_neg (by omega), if_pos (by omega)]
        unfold dg_
        rw [if_neg (by omega), if_neg (by omega), if_pos (by omega), show q / 3 = i by omega, show q % 3 = j by omega]
      · rw [if_neg c0]
        by_cases c : q = 9 ∨ q = 10
        · rw [if_pos c, if_pos c]
        · rw [if_neg c, if_neg c]
          by_cases c1 : q < 3 * i + j
          · rw [if_pos c1, if_pos (by omega)]
          · rw [if_neg c1, if_neg (by omega)]
    rw [this]
    exact ih (j + 1) k (by omega) (by omega)
theorem x5_size32 {σ : js_S} {ol or_ e : Nat} {a : Nat → Nat} {L R : List Int32} (hl : lx_ σ.2.2) (hg : sg_ σ 3 a) (ha : ga_ a) (hol : to_ σ ol) (hL : tm_ σ ol L) (gL : gt_ a L) (hor : to_ σ or_) (hR : tm_ σ or_ R) (gR : gt_ a R) (he : e < R.length) (hF : isF_ (at_ R e) = true) (hF0 : isF_ (at_ L 0) = true) :
    ∀ (d i k : Nat), i + d = a (fn_ (at_ L 0)) → d < k → fX5_sizeChange_32 5000 k 3 ol or_ (nI e) (nI (fn_ (at_ L 0))) (nI (fn_ (at_ R e))) (gg_ (de_ (dg_ a L R e) (3 * i))) (nI i) σ = some (gg_ (dg_ a L R e), σ) := by
  have l40 := gL.2
  have h1 := fn_lt (at_ R e)
  have h2 := fn_lt (at_ L 0)
  have a1 := ha _ h1
  have a2 := ha _ h2
  have okL : ok_ a (L.drop 0) 1 := ok_wt gL.1
  intro d
  induction d with
  | zero =>
    intro i k hi hk
    obtain ⟨k, rfl⟩ : ∃ j, k = j + 1 := ⟨k - 1, by omega⟩
    rw [sX5_sizeChange_32]
    unfold fX5_sizeChange_32b
    rw [x8_ofFunction (lx_3_0 hl) ln_4 hg h2, bd_s, if_pos ((n_le (by omega) (by omega)).mpr (by omega))]
    have : gg_ (de_ (dg_ a L R e) (3 * i)) = gg_ (dg_ a L R e) := by
      apply gg_ext
      intro q hq
      unfold de_
      by_cases c : q = 9 ∨ q = 10
      · rw [if_pos c]
      · rw [if_neg c]
        by_cases c1 : q < 3 * i
        · rw [if_pos c1]
        · rw [if_neg c1]
          unfold dg_
          rw [if_neg (by omega), if_neg (by omega), if_neg (by omega)]
    rw [this]
  | succ d ih =>
    intro i k hi hk
    obtain ⟨k, rfl⟩ : ∃ j, k = j + 1 := ⟨k - 1, by omega⟩
    rw [sX5_sizeChange_32]
    unfold fX5_sizeChange_32b
    have harg : fX8_argumentOf 5000 3 ol 0 (nI i) σ = some (nI (ag_ a L 0 i), σ) := x8_argumentOf (p := 0) (lx_3_0 hl) ln_4 hg hol hL l40 ha okL (by rw [sa_fn hF0]; omega)
    rw [x8_ofFunction (lx_3_0 hl) ln_4 hg h2, bd_s, if_neg (fun z => by have := (n_le (by omega) (by omega)).mp z; omega), harg, bd_s]
    have h56 := x5_size56 (rc := fX5_sizeChange_32 5000 k) hl hg ha hol hL gL hor hR gR he hF hF0 (i := i) (by omega) (a (fn_ (at_ R e))) 0 5000 (by omega) (by omega)
    rw [show fX5_sizeChange_56 5000 (fX5_sizeChange_32 5000 k) 5000 3 ol or_ (nI e) (nI (fn_ (at_ L 0))) (nI (fn_ (at_ R e))) (gg_ (de_ (dg_ a L R e) (3 * i))) (nI i) (nI (ag_ a L 0 i)) 0 σ = _ from h56]
    exact ih (i + 1) k (by omega) (by omega)
theorem x5_sizeChange {σ : js_S} {ol or_ e : Nat} {a : Nat → Nat} {L R : List Int32} (hl : lx_ σ.2.2) (hg : sg_ σ 3 a) (ha : ga_ a) (hol : to_ σ ol) (hL : tm_ σ ol L) (gL : gt_ a L) (hor : to_ σ or_) (hR : tm_ σ or_ R) (gR : gt_ a R) (he : e < R.length) (hF : isF_ (at_ R e) = true) (hF0 : isF_ (at_ L 0) = true) : fX5_sizeChange 5000 3 ol or_ (nI e) σ = some (gg_ (dg_ a L R e), σ) := by
  have a2 := ha _ (fn_lt (at_ L 0))
  have r40 := gR.2
  unfold fX5_sizeChange
  rw [show fX9_symbolAt 5000 ol 0 σ = _ from x9_symbolAt (p := 0) hol.1 hol.2.1 hL gL.2 (by omega), bd_s, x_funOf hF0, bd_s, x9_symbolAt hor.1 hor.2.1 hR gR.2 (by omega), bd_s, x_funOf hF, bd_s, x_emptyGraph (fn_lt _) (fn_lt _), bd_s]
  have : gg_ (fun k => if k = 10 then fn_ (at_ R e) else if k = 9 then fn_ (at_ L 0) else 0) = gg_ (de_ (dg_ a L R e) (3 * 0)) := by
    apply gg_ext
    intro q hq
    show (if q = 10 then fn_ (at_ R e) else if q = 9 then fn_ (at_ L 0) else 0) = _
    unfold de_ dg_
    by_cases c1 : q = 10
    · rw [if_pos c1, if_pos (by omega), if_pos c1]
    · rw [if_neg c1]
      by_cases c2 : q = 9
      · rw [if_pos c2, if_pos (by omega), if_neg c1, if_pos c2]
      · rw [if_neg c2, if_neg (by omega), if_neg (by omega)]
  rw [this]
  exact x5_size32 hl hg ha hol hL gL hor hR gR he hF hF0 (a (fn_ (at_ L 0))) 0 5000 (by omega) (by omega)
