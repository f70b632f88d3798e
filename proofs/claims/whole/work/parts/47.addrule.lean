/-! addRule -/
def vr_ (L R : List Int32) : Bool := decide (L.length ≤ 40) && (decide (R.length ≤ 40) && (isF_ (at_ L 0) && ((L.drop 1).all (fun s => !isF_ s) && R.all (fun s => !isV_ s || decide (s ∈ L)))))
theorem x_leftLoop {σ : js_S} {o : Nat} {L : List Int32} (ho : to_ σ o) (hL : tm_ σ o L) (h40 : L.length ≤ 40) :
    ∀ (d e k : Nat), e + d = L.length → d < k → fX11_isLeftSide_15 5000 k o (nI e) σ = some (bi_ ((L.drop e).all fun s => !isF_ s), σ) := by
  intro d
  induction d with
  | zero =>
    intro e k he hk
    obtain ⟨k, rfl⟩ : ∃ j, k = j + 1 := ⟨k - 1, by omega⟩
    rw [sX11_isLeftSide_15]
    unfold fX11_isLeftSide_15b
    rw [hL.1, if_pos ((n_le (by omega) (by omega)).mpr (by omega)), drop_end (by omega)]
    rfl
  | succ d ih =>
    intro e k he hk
    obtain ⟨k, rfl⟩ : ∃ j, k = j + 1 := ⟨k - 1, by omega⟩
    rw [sX11_isLeftSide_15]
    unfold fX11_isLeftSide_15b
    rw [hL.1, if_neg (fun z => by have := (n_le (by omega) (by omega)).mp z; omega), x9_symbolAt ho.1 ho.2.1 hL h40 (by omega), bd_s, x_isFun, bd_s, drop_get (by omega), List.all_cons, show nI e + 1 = nI (e + 1) from n_add e 1]
    by_cases c : isF_ (at_ L e) = true
    · rw [c, bi_t, if_neg (by decide)]
      rfl
    · rw [show isF_ (at_ L e) = false by simpa using c, bi_f, if_pos rfl, ih (e + 1) k (by omega) (by omega)]
      rfl
theorem x_bindLoop {σ : js_S} {o q : Nat} {L R : List Int32} (ho : to_ σ o) (hL : tm_ σ o L) (h40 : L.length ≤ 40) (hq : to_ σ q) (hR : tm_ σ q R) (hR40 : R.length ≤ 40) :
    ∀ (d e k : Nat), e + d = R.length → d < k → fX11_bindsVariables_2 5000 k o q (nI e) σ = some (bi_ ((R.drop e).all fun s => !isV_ s || decide (s ∈ L)), σ) := by
  intro d
  induction d with
  | zero =>
    intro e k he hk
    obtain ⟨k, rfl⟩ : ∃ j, k = j + 1 := ⟨k - 1, by omega⟩
    rw [sX11_bindsVariables_2]
    unfold fX11_bindsVariables_2b
    rw [hR.1, if_pos ((n_le (by omega) (by omega)).mpr (by omega)), drop_end (by omega)]
    rfl
  | succ d ih =>
    intro e k he hk
    obtain ⟨k, rfl⟩ : ∃ j, k = j + 1 := ⟨k - 1, by omega⟩
    rw [sX11_bindsVariables_2]
    unfold fX11_bindsVariables_2b fX11_bindsVariables_33
    rw [hR.1, if_neg (fun z => by have := (n_le (by omega) (by omega)).mp z; omega), x9_symbolAt hq.1 hq.2.1 hR hR40 (by omega), bd_s, x_isVar, bd_s, drop_get (by omega), List.all_cons, show nI e + 1 = nI (e + 1) from n_add e 1]
    by_cases c : isV_ (at_ R e) = true
    · rw [c, bi_t, if_neg (by decide), x9_contains ho hL h40, bd_s]
      by_cases c2 : at_ R e ∈ L
      · rw [if_pos c2, if_neg (by decide), ih (e + 1) k (by omega) (by omega), decide_eq_true c2]
        rfl
      · rw [if_neg c2, if_pos rfl, decide_eq_false c2]
        rfl
    · rw [show isV_ (at_ R e) = false by simpa using c, bi_f, if_pos rfl, ih (e + 1) k (by omega) (by omega)]
      rfl
theorem x_isRule {σ : js_S} {o q : Nat} {L R : List Int32} (ho : to_ σ o) (hL : tm_ σ o L) (hq : to_ σ q) (hR : tm_ σ q R) (l80 : L.length ≤ 80) (r80 : R.length ≤ 80) (h1 : 0 < L.length) : fX11_isRule 5000 o q σ = some (bi_ (vr_ L R), σ) := by
  unfold fX11_isRule vr_
  rw [hL.1, hR.1]
  by_cases c1 : L.length ≤ 40
  · have e1 : ¬ 40 < nI L.length := fun z => by have := (n_lt (a := 40) (by omega) (by omega)).mp z; omega
    rw [if_neg e1, decide_eq_true c1, Bool.true_and]
    by_cases c2 : R.length ≤ 40
    · have e2 : ¬ 40 < nI R.length := fun z => by have := (n_lt (a := 40) (by omega) (by omega)).mp z; omega
      rw [if_neg e2, decide_eq_true c2, Bool.true_and]
      unfold fX11_isLeftSide
      rw [show fX9_symbolAt 5000 o 0 σ = _ from x9_symbolAt (p := 0) ho.1 ho.2.1 hL c1 (by omega), bd_s, x_isFun, bd_s]
      by_cases c3 : isF_ (at_ L 0) = true
      · rw [c3, bi_t, if_neg (by decide), Bool.true_and, show fX11_isLeftSide_15 5000 5000 o 1 σ = _ from x_leftLoop ho hL c1 (L.length - 1) 1 5000 (by omega) (by omega), bd_s]
        cases ((L.drop 1).all fun s => !isF_ s) with
        | false => rfl
        | true =>
          rw [bi_t, if_neg (by decide), Bool.true_and]
          unfold fX11_bindsVariables
          rw [show fX11_bindsVariables_2 5000 5000 o q 0 σ = _ from x_bindLoop ho hL c1 hq hR c2 R.length 0 5000 (by omega) (by omega), bd_s, List.drop_zero]
          cases (R.all fun s => !isV_ s || decide (s ∈ L)) <;> rfl
      · rw [show isF_ (at_ L 0) = false by simpa using c3, bi_f, if_pos rfl, bd_s, if_pos rfl]
        rfl
    · have e2 : 40 < nI R.length := (n_lt (a := 40) (by omega) (by omega)).mpr (by omega)
      rw [if_pos e2, decide_eq_false c2]
      rfl
  · have e1 : 40 < nI L.length := (n_lt (a := 40) (by omega) (by omega)).mpr (by omega)
    rw [if_pos e1, decide_eq_false c1]
    rfl
/-! the model's check -/
theorem m_hasLoop {σ : js_S} {o : Nat} {t : List Int32} {c : Int32} (ht : rw_ σ o 0 t) (hl : t.length + 1 ≤ ln_ o) (h80 : t.length ≤ 80) :
    ∀ (d e k : Nat) (b : Bool), e + d = t.length → d < k → fX12_hasSymbol_4 5000 k o c (bi_ b) (nI (e + 1)) σ = some (bi_ (b || decide (c ∈ t.drop e)), σ) := by
  intro d
  induction d with
  | zero =>
    intro e k b he hk
    obtain ⟨k, rfl⟩ : ∃ j, k = j + 1 := ⟨k - 1, by omega⟩
    rw [sX12_hasSymbol_4]
    unfold fX12_hasSymbol_4b
    rw [show ib_ 0 (ln_ o) = true by rw [show (0 : Int32) = nI 0 from rfl, n_ib (by omega)]; simp; omega, if_pos rfl, show Int32.toNatClampNeg 0 = 0 from rfl, ht.1, if_pos ((n_lt (by omega) (by omega)).mpr (by omega)), bi_nz, if_pos rfl, drop_end (by omega)]
    simp
  | succ d ih =>
    intro e k b he hk
    obtain ⟨k, rfl⟩ : ∃ j, k = j + 1 := ⟨k - 1, by omega⟩
    have hv := ht.2 e (by omega)
    rw [show 0 + 1 + e = e + 1 by omega] at hv
    rw [sX12_hasSymbol_4]
    unfold fX12_hasSymbol_4b fX12_hasSymbol_24
    rw [show ib_ 0 (ln_ o) = true by rw [show (0 : Int32) = nI 0 from rfl, n_ib (by omega)]; simp; omega, if_pos rfl, show Int32.toNatClampNeg 0 = 0 from rfl, ht.1, if_neg (fun z => by have := (n_lt (by omega) (by omega)).mp z; omega), n_ib (by omega), if_pos (by simp; omega), n_cl (by omega), hv, drop_get (by omega), show nI (e + 1) + 1 = nI (e + 1 + 1) from n_add (e + 1) 1]
    by_cases cc : at_ t e = c
    · rw [if_pos cc, show bi_ b ||| 1 = bi_ (b || true) from bi_or b true, ih (e + 1) k _ (by omega) (by omega), decide_eq_true (show c ∈ at_ t e :: t.drop (e + 1) from by rw [cc]; exact List.mem_cons_self)]
      simp
    · rw [if_neg cc, show bi_ b ||| 0 = bi_ (b || false) from bi_or b false, ih (e + 1) k _ (by omega) (by omega), Bool.or_false]
      have : (c ∈ at_ t e :: t.drop (e + 1)) ↔ c ∈ t.drop (e + 1) := by
        rw [List.mem_cons]
        exact ⟨fun z => z.elim (fun w => absurd w.symm cc) (fun w => w), Or.inr⟩
      rw [show decide (c ∈ at_ t e :: t.drop (e + 1)) = decide (c ∈ t.drop (e + 1)) by simp only [this]]
theorem m_valid80 {σ : js_S} {L R : List Int32} (hm : lm_ σ.2.2) (hL : rw_ σ 402 0 L) (hR : rw_ σ 401 0 R) (l80 : L.length ≤ 80) (r80 : R.length ≤ 80) :
    ∀ (d e k : Nat) (b : Bool), e + d = R.length → d < k → fX12_isValidRule_80 5000 k 390 (bi_ b) (nI (e + 1)) σ = some (bi_ (b && (R.drop e).all fun s => !isV_ s || decide (s ∈ L)), σ) := by
  intro d
  induction d with
  | zero =>
    intro e k b he hk
    obtain ⟨k, rfl⟩ : ∃ j, k = j + 1 := ⟨k - 1, by omega⟩
    rw [sX12_isValidRule_80]
    unfold fX12_isValidRule_80b
    rw [lm_13 hm, ln_401, if_pos (by decide), show Int32.toNatClampNeg 0 = 0 from rfl, hR.1, if_pos ((n_lt (by omega) (by omega)).mpr (by omega)), bi_nz, if_pos rfl, drop_end (by omega)]
    simp
  | succ d ih =>
    intro e k b he hk
    obtain ⟨k, rfl⟩ : ∃ j, k = j + 1 := ⟨k - 1, by omega⟩
    have hv := hR.2 e (by omega)
    rw [show 0 + 1 + e = e + 1 by omega] at hv
    have hs : fX12_hasSymbol 5000 402 (at_ R e) σ = some (bi_ (decide (at_ R e ∈ L)), σ) := by
      have := m_hasLoop (c := at_ R e) hL (by rw [ln_402]; omega) l80 L.length 0 5000 false (by omega) (by omega)
      rw [List.drop_zero, Bool.false_or] at this
      exact this
    rw [sX12_isValidRule_80]
    unfold fX12_isValidRule_80b fX12_isValidRule_119 fX12_isValidRule_124
    rw [lm_13 hm, ln_401, if_pos (by decide), show Int32.toNatClampNeg 0 = 0 from rfl, hR.1, if_neg (fun z => by have := (n_lt (by omega) (by omega)).mp z; omega), n_ib (by omega), if_pos (by simp; omega), n_cl (by omega), hv, m_isV, bd_s, drop_get (by omega), List.all_cons, show nI (e + 1) + 1 = nI (e + 1 + 1) from n_add (e + 1) 1]
    by_cases c : isV_ (at_ R e) = true
    · rw [c, bi_t, if_neg (by decide), lm_13 hm, ln_401, n_ib (by omega), if_pos (by simp; omega), hv, lm_14 hm, hs, bd_s]
      by_cases c2 : at_ R e ∈ L
      · rw [decide_eq_true c2, bi_t, if_neg (by decide), show bi_ b &&& 1 = bi_ (b && true) from bi_and b true, ih (e + 1) k _ (by omega) (by omega)]
        simp
      · rw [decide_eq_false c2, bi_f, if_pos rfl, show bi_ b &&& 0 = bi_ (b && false) from bi_and b false, ih (e + 1) k _ (by omega) (by omega)]
        simp
    · rw [show isV_ (at_ R e) = false by simpa using c, bi_f, if_pos rfl, show bi_ b &&& 1 = bi_ (b && true) from bi_and b true, ih (e + 1) k _ (by omega) (by omega)]
      simp
theorem m_valid42 {σ : js_S} {L R : List Int32} (hm : lm_ σ.2.2) (hL : rw_ σ 402 0 L) (hR : rw_ σ 401 0 R) (l80 : L.length ≤ 80) (r80 : R.length ≤ 80) :
    ∀ (d e k : Nat) (b : Bool), e + d = L.length → d < k → fX12_isValidRule_42 5000 k 390 (bi_ b) (nI (e + 1)) σ = some (bi_ (b && ((L.drop e).all (fun s => !isF_ s) && R.all fun s => !isV_ s || decide (s ∈ L))), σ) := by
  intro d
  induction d with
  | zero =>
    intro e k b he hk
    obtain ⟨k, rfl⟩ : ∃ j, k = j + 1 := ⟨k - 1, by omega⟩
    rw [sX12_isValidRule_42]
    unfold fX12_isValidRule_42b
    have := m_valid80 hm hL hR l80 r80 R.length 0 5000 b (by omega) (by omega)
    rw [List.drop_zero] at this
    rw [lm_14 hm, ln_402, if_pos (by decide), show Int32.toNatClampNeg 0 = 0 from rfl, hL.1, if_pos ((n_lt (by omega) (by omega)).mpr (by omega)), drop_end (by omega), show fX12_isValidRule_80 5000 5000 390 (bi_ b) 1 σ = _ from this]
    simp
  | succ d ih =>
    intro e k b he hk
    obtain ⟨k, rfl⟩ : ∃ j, k = j + 1 := ⟨k - 1, by omega⟩
    have hv := hL.2 e (by omega)
    rw [show 0 + 1 + e = e + 1 by omega] at hv
    rw [sX12_isValidRule_42]
    unfold fX12_isValidRule_42b fX12_isValidRule_70
    rw [lm_14 hm, ln_402, if_pos (by decide), show Int32.toNatClampNeg 0 = 0 from rfl, hL.1, if_neg (fun z => by have := (n_lt (by omega) (by omega)).mp z; omega), n_ib (by omega), if_pos (by simp; omega), n_cl (by omega), hv, m_isFunction, bd_s, drop_get (by omega), List.all_cons, show nI (e + 1) + 1 = nI (e + 1 + 1) from n_add (e + 1) 1]
    by_cases c : isF_ (at_ L e) = true
    · rw [if_pos c, if_neg (by decide), c, show bi_ b &&& 0 = bi_ (b && false) from bi_and b false, ih (e + 1) k _ (by omega) (by omega)]
      simp
    · rw [if_neg c, if_pos rfl, show isF_ (at_ L e) = false by simpa using c, show bi_ b &&& 1 = bi_ (b && true) from bi_and b true, ih (e + 1) k _ (by omega) (by omega)]
      simp
theorem m_isValidRule {σ : js_S} {L R : List Int32} (hm : lm_ σ.2.2) (hL : rw_ σ 402 0 L) (hR : rw_ σ 401 0 R) (l80 : L.length ≤ 80) (r80 : R.length ≤ 80) (h1 : 0 < L.length) : fX12_isValidRule 5000 390 σ = some (bi_ (vr_ L R), σ) := by
  have hv := hL.2 0 h1
  rw [show 0 + 1 + 0 = 1 from rfl] at hv
  have run : ∀ b, fX12_isValidRule_39 5000 390 (bi_ b) σ = some (bi_ (b && ((L.drop 1).all (fun s => !isF_ s) && R.all fun s => !isV_ s || decide (s ∈ L))), σ) := by
    intro b
    unfold fX12_isValidRule_39
    exact m_valid42 hm hL hR l80 r80 (L.length - 1) 1 5000 b (by omega) (by omega)
  have run0 : fX12_isValidRule_38 5000 390 σ = some (0, σ) := by
    unfold fX12_isValidRule_38
    exact run false
  unfold fX12_isValidRule vr_
  rw [lm_14 hm, ln_402, if_pos (by decide), show Int32.toNatClampNeg 1 = 1 from rfl, hv, m_isFunction, bd_s, run0, lm_14 hm, ln_402, show Int32.toNatClampNeg 0 = 0 from rfl, hL.1, lm_13 hm, ln_401, hR.1]
  by_cases c3 : isF_ (at_ L 0) = true
  · rw [if_pos c3, if_neg (by decide), if_pos (by decide), c3]
    by_cases c1 : L.length ≤ 40
    · have e1 : ¬ 40 < nI L.length := fun z => by have := (n_lt (a := 40) (by omega) (by omega)).mp z; omega
      rw [if_neg e1, if_pos (by decide), decide_eq_true c1]
      by_cases c2 : R.length ≤ 40
      · have e2 : ¬ 40 < nI R.length := fun z => by have := (n_lt (a := 40) (by omega) (by omega)).mp z; omega
        rw [if_neg e2, decide_eq_true c2, show (1 : Int32) = bi_ true from rfl, run true]
        simp
      · have e2 : 40 < nI R.length := (n_lt (a := 40) (by omega) (by omega)).mpr (by omega)
        rw [if_pos e2, decide_eq_false c2]
        rfl
    · have e1 : 40 < nI L.length := (n_lt (a := 40) (by omega) (by omega)).mpr (by omega)
      rw [if_pos e1, decide_eq_false c1]
      rfl
  · rw [if_neg c3, if_pos rfl, show isF_ (at_ L 0) = false by simpa using c3]
    simp
    rfl
/-- a rule put behind the others -/
def ar_ (y : js_Y) (L R : List Int32) : js_Y := (y.1, y.2.1 ++ [(L, R)], y.2.2)
theorem rl_ar {y : js_Y} {L R : List Int32} {i : Nat} (h : i < y.2.1.length + 1) : rl_ (ar_ y L R) i = if i < y.2.1.length then rl_ y i else (L, R) := by
  unfold rl_ ar_
  show (y.2.1 ++ [(L, R)]).getD i ([], []) = _
  rw [List.getD_eq_getElem?_getD, List.getD_eq_getElem?_getD]
  by_cases c : i < y.2.1.length
  · rw [if_pos c, List.getElem?_append_left c]
  · rw [if_neg c, List.getElem?_append_right (by omega), show i - y.2.1.length = 0 by omega]
    rfl
theorem gy_ar {y : js_Y} {L R : List Int32} (g : gy_ y) (h6 : y.2.1.length < 6) (hL : wt_ y.1 L 1) (hR : wt_ y.1 R 1) (hv : vr_ L R = true) : gy_ (ar_ y L R) := by
  unfold vr_ at hv
  simp only [Bool.and_eq_true, decide_eq_true_eq] at hv
  obtain ⟨v1, v2, v3, v4, v5⟩ := hv
  refine ⟨g.1, by show (y.2.1 ++ [(L, R)]).length ≤ 6; rw [List.length_append, List.length_singleton]; omega, fun i hi => ?_, g.2.2.2⟩
  have hi2 : i < y.2.1.length + 1 := by
    have : i < (y.2.1 ++ [(L, R)]).length := hi
    rw [List.length_append, List.length_singleton] at this
    exact this
  rw [rl_ar hi2]
  by_cases c : i < y.2.1.length
  · rw [if_pos c]; exact g.2.2.1 i c
  · rw [if_neg c]
    refine ⟨⟨hL, v1⟩, ⟨hR, v2⟩, v3, fun k h0 hk => ?_, fun k hk hV => ?_⟩
    · have hm : at_ L k ∈ L.drop 1 := by
        have hk' : k < L.length := hk
        have := at_mem (l := L.drop 1) (k := k - 1) (by rw [List.length_drop]; omega)
        rw [at_drop, show 1 + (k - 1) = k by omega] at this
        exact this
      have := List.all_eq_true.mp v4 _ hm
      simpa using this
    · have := List.all_eq_true.mp v5 _ (at_mem (l := R) hk)
      have hV' : isV_ (at_ R k) = true := hV
      rw [hV'] at this
      simpa using this
