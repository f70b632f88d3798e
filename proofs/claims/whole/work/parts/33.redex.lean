/-! the lowest rule that matches, redexes -/
def lr_ (y : js_Y) (t : List Int32) (e : Nat) : Nat → Nat → Option Nat
  | 0, _ => none
  | d + 1, i => if (mt_ y.1 t (rl_ y i).1 e (fun _ => [])).isSome = true then some i else lr_ y t e d (i + 1)
def lo_ (z : Int32) : Option Nat → Int32
  | some r => nI r
  | none => z
theorem lr_lt {y : js_Y} {t : List Int32} {e : Nat} : ∀ {d i r : Nat}, lr_ y t e d i = some r → i ≤ r ∧ r < i + d ∧ (mt_ y.1 t (rl_ y r).1 e (fun _ => [])).isSome = true
  | 0, i, r, h => by cases h
  | d + 1, i, r, h => by
    unfold lr_ at h
    by_cases c : (mt_ y.1 t (rl_ y i).1 e (fun _ => [])).isSome = true
    · rw [if_pos c] at h
      cases h
      exact ⟨by omega, by omega, c⟩
    · rw [if_neg c] at h
      have := lr_lt h
      exact ⟨by omega, by omega, this.2.2⟩
theorem x7_lowest {y : js_Y} {t : List Int32} {o e : Nat} (g : gy_ y) (ho89 : o ≠ 89 ∧ o + 1 ≠ 89) (gt : gt_ y.1 t) (he : e < t.length) :
    ∀ (d i k : Nat) (σ : js_S), i + d = y.2.1.length → d < k → xs_ σ y → to_ σ o → tm_ σ o t → ∃ σ', fX7_lowestRuleAt_3 5000 k 88 2 o (nI e) (nI i) σ = some (lo_ (-1) (lr_ y t e d i), σ') ∧ fi_ (fun z => z = 89) σ σ' ∧ ∀ r b', lr_ y t e d i = some r → mt_ y.1 t (rl_ y r).1 e (fun _ => []) = some b' → bx_ σ' y.1 t b' := by
  have h6 := g.2.1
  intro d
  induction d with
  | zero =>
    intro i k σ hi hk hx ho ht
    obtain ⟨k, rfl⟩ : ∃ j, k = j + 1 := ⟨k - 1, by omega⟩
    refine ⟨σ, ?_, fi_rf, fun r b' h => by cases h⟩
    rw [sX7_lowestRuleAt_3]
    unfold fX7_lowestRuleAt_3b
    rw [hx.2.2.1, if_pos ((n_le (by omega) (by omega)).mpr (by omega))]
    rfl
  | succ d ih =>
    intro i k σ hi hk hx ho ht
    obtain ⟨k, rfl⟩ : ∃ j, k = j + 1 := ⟨k - 1, by omega⟩
    obtain ⟨σ1, r1, f1, u1⟩ := x7_fits hx g (i := i) (by omega) ho ho89 ht gt he
    rw [sX7_lowestRuleAt_3]
    unfold fX7_lowestRuleAt_3b lr_
    rw [hx.2.2.1, if_neg (fun z => by have := (n_le (by omega) (by omega)).mp z; omega), r1, bd_s]
    by_cases c : (mt_ y.1 t (rl_ y i).1 e (fun _ => [])).isSome = true
    · rw [c, bi_t, if_neg (by decide), if_pos rfl]
      refine ⟨σ1, rfl, f1, fun r b' h hb => ?_⟩
      cases h
      exact u1 b' hb
    · have c2 : (mt_ y.1 t (rl_ y i).1 e (fun _ => [])).isSome = false := by simpa using c
      rw [c2, bi_f, if_pos rfl, if_neg (by decide), show nI i + 1 = nI (i + 1) from n_add i 1]
      obtain ⟨σ2, r2, f2, u2⟩ := ih (i + 1) k σ1 (by omega) (by omega) (xs_fi f1 h6 (fun a q => by omega) hx) (to_fi f1 ho) (tm_fi f1 ho89.1 ho89.2 ht)
      exact ⟨σ2, r2, fi_tr f1 f2 (fun a h => h) (fun a h => h), u2⟩
/-- the rule at a place, of all rules -/
def lw_ (y : js_Y) (t : List Int32) (e : Nat) : Option Nat := lr_ y t e y.2.1.length 0
theorem x7_lowestRuleAt {σ : js_S} {y : js_Y} {t : List Int32} {o e : Nat} (g : gy_ y) (ho89 : o ≠ 89 ∧ o + 1 ≠ 89) (gt : gt_ y.1 t) (he : e < t.length) (hx : xs_ σ y) (ho : to_ σ o) (ht : tm_ σ o t) : ∃ σ', fX7_lowestRuleAt 5000 88 2 o (nI e) σ = some (lo_ (-1) (lw_ y t e), σ') ∧ fi_ (fun z => z = 89) σ σ' ∧ ∀ r b', lw_ y t e = some r → mt_ y.1 t (rl_ y r).1 e (fun _ => []) = some b' → bx_ σ' y.1 t b' := by
  have h6 := g.2.1
  exact x7_lowest g ho89 gt he y.2.1.length 0 5000 σ (by omega) (by omega) hx ho ht
theorem m_lowest {y : js_Y} {t : List Int32} {o p e : Nat} (g : gy_ y) (gt : gt_ y.1 t) (ho : o ≠ 397 ∧ o ≠ 398) (hb : p + t.length ≤ ln_ o) (hn : ln_ o < 1000000000) (he : e < t.length) :
    ∀ (d i k : Nat) (σ : js_S), i + d = y.2.1.length → d < k → ms_ σ y → vw_ σ o p t → ∃ σ', fX12_matching_2 5000 k 390 o (nI (p + e)) (nI i) σ = some (lo_ (-5) (lr_ y t e d i), σ') ∧ fi_ (fun z => z = 397 ∨ z = 398) σ σ' ∧ ∀ r b', lr_ y t e d i = some r → mt_ y.1 t (rl_ y r).1 e (fun _ => []) = some b' → bm_ σ' y.1 p t b' := by
  have h6 := g.2.1
  intro d
  induction d with
  | zero =>
    intro i k σ hi hk hx hv
    obtain ⟨k, rfl⟩ : ∃ j, k = j + 1 := ⟨k - 1, by omega⟩
    refine ⟨σ, ?_, fi_rf, fun r b' h => by cases h⟩
    rw [sX12_matching_2]
    unfold fX12_matching_2b
    rw [hx.2.2.1, if_pos ((n_le (by omega) (by omega)).mpr (by omega))]
    rfl
  | succ d ih =>
    intro i k σ hi hk hx hv
    obtain ⟨k, rfl⟩ : ∃ j, k = j + 1 := ⟨k - 1, by omega⟩
    obtain ⟨σ1, r1, f1, u1⟩ := m_match g (i := i) (by omega) gt ho hb hn hx hv he
    rw [sX12_matching_2]
    unfold fX12_matching_2b lr_
    rw [hx.2.2.1, if_neg (fun z => by have := (n_le (by omega) (by omega)).mp z; omega), r1, bd_s]
    by_cases c : (mt_ y.1 t (rl_ y i).1 e (fun _ => [])).isSome = true
    · rw [c, bi_t, if_neg (by decide), if_pos rfl]
      refine ⟨σ1, rfl, f1, fun r b' h hb => ?_⟩
      cases h
      exact u1 b' hb
    · have c2 : (mt_ y.1 t (rl_ y i).1 e (fun _ => [])).isSome = false := by simpa using c
      rw [c2, bi_f, if_pos rfl, if_neg (by decide), show nI i + 1 = nI (i + 1) from n_add i 1]
      obtain ⟨σ2, r2, f2, u2⟩ := ih (i + 1) k σ1 (by omega) (by omega) (ms_fi f1 (fun a q => by omega) hx) (vw_fi f1 (by omega) hv)
      exact ⟨σ2, r2, fi_tr f1 f2 (fun a h => h) (fun a h => h), u2⟩
theorem m_matching {σ : js_S} {y : js_Y} {t : List Int32} {o p e : Nat} (g : gy_ y) (gt : gt_ y.1 t) (ho : o ≠ 397 ∧ o ≠ 398) (hb : p + t.length ≤ ln_ o) (hn : ln_ o < 1000000000) (he : e < t.length) (hm : ms_ σ y) (hv : vw_ σ o p t) : ∃ σ', fX12_matching 5000 390 o (nI (p + e)) σ = some (lo_ (-5) (lw_ y t e), σ') ∧ fi_ (fun z => z = 397 ∨ z = 398) σ σ' ∧ ∀ r b', lw_ y t e = some r → mt_ y.1 t (rl_ y r).1 e (fun _ => []) = some b' → bm_ σ' y.1 p t b' := by
  have h6 := g.2.1
  exact m_lowest g gt ho hb hn he y.2.1.length 0 5000 σ (by omega) (by omega) hm hv
theorem lo_neg {y : js_Y} {t : List Int32} {e : Nat} {z : Int32} (h6 : y.2.1.length ≤ 6) (hz : z < 0) : (lo_ z (lw_ y t e) < 0) ↔ lw_ y t e = none := by
  cases h : lw_ y t e with
  | none => exact ⟨fun _ => rfl, fun _ => hz⟩
  | some r =>
    have := lr_lt h
    exact ⟨fun q => absurd q (nI_pos (by omega)), fun q => by cases q⟩
/-- redexes counted from e on -/
def rcn_ (P : Nat → Bool) : Nat → Nat → Nat
  | 0, _ => 0
  | d + 1, e => (if P e = true then 1 else 0) + rcn_ P d (e + 1)
/-- the redex of number i from e on -/
def rfi_ (P : Nat → Bool) : Nat → Nat → Nat → Option Nat
  | 0, _, _ => none
  | d + 1, e, i => if P e = true then (if i = 0 then some e else rfi_ P d (e + 1) (i - 1)) else rfi_ P d (e + 1) i
def rx_ (y : js_Y) (t : List Int32) (e : Nat) : Bool := (lw_ y t e).isSome
theorem rx_iff {y : js_Y} {t : List Int32} {e : Nat} : (lw_ y t e = none) ↔ ¬ rx_ y t e = true := by
  unfold rx_
  cases lw_ y t e <;> simp
theorem rcn_le (P : Nat → Bool) : ∀ (d e : Nat), rcn_ P d e ≤ d
  | 0, e => by simp [rcn_]
  | d + 1, e => by
    have := rcn_le P d (e + 1)
    unfold rcn_
    split <;> omega
theorem rfi_lt {P : Nat → Bool} : ∀ {d e i p : Nat}, rfi_ P d e i = some p → e ≤ p ∧ p < e + d ∧ P p = true
  | 0, e, i, p, h => by cases h
  | d + 1, e, i, p, h => by
    unfold rfi_ at h
    by_cases c : P e = true
    · rw [if_pos c] at h
      by_cases c2 : i = 0
      · rw [if_pos c2] at h
        cases h
        exact ⟨by omega, by omega, c⟩
      · rw [if_neg c2] at h
        have := rfi_lt h
        exact ⟨by omega, by omega, this.2.2⟩
    · rw [if_neg c] at h
      have := rfi_lt h
      exact ⟨by omega, by omega, this.2.2⟩
theorem x7_count {y : js_Y} {t : List Int32} {o : Nat} (g : gy_ y) (ho89 : o ≠ 89 ∧ o + 1 ≠ 89) (gt : gt_ y.1 t) :
    ∀ (d e k c : Nat) (σ : js_S), e + d = t.length → d < k → c + d < 1000 → xs_ σ y → to_ σ o → tm_ σ o t → ∃ σ', fX7_countRedexes_5 5000 k 88 2 o (nI c) (nI e) σ = some (nI (c + rcn_ (rx_ y t) d e), σ') ∧ fi_ (fun z => z = 89) σ σ' := by
  have h6 := g.2.1
  have g40 := gt.2
  intro d
  induction d with
  | zero =>
    intro e k c σ he hk hc hx ho ht
    obtain ⟨k, rfl⟩ : ∃ j, k = j + 1 := ⟨k - 1, by omega⟩
    refine ⟨σ, ?_, fi_rf⟩
    rw [sX7_countRedexes_5]
    unfold fX7_countRedexes_5b
    rw [ht.1, if_pos ((n_le (by omega) (by omega)).mpr (by omega))]
    rfl
  | succ d ih =>
    intro e k c σ he hk hc hx ho ht
    obtain ⟨k, rfl⟩ : ∃ j, k = j + 1 := ⟨k - 1, by omega⟩
    obtain ⟨σ1, r1, f1, -⟩ := x7_lowestRuleAt g ho89 gt (e := e) (by omega) hx ho ht
    have hx1 := xs_fi f1 h6 (fun a q => by omega) hx
    rw [sX7_countRedexes_5]
    unfold fX7_countRedexes_5b fX7_countRedexes_28 rcn_
    rw [ht.1, if_neg (fun z => by have := (n_le (by omega) (by omega)).mp z; omega), r1, bd_s, show nI e + 1 = nI (e + 1) from n_add e 1, show nI c + 1 = nI (c + 1) from n_add c 1]
    by_cases h : rx_ y t e = true
    · rw [if_neg (fun z => rx_iff.mp ((lo_neg h6 (by decide)).mp z) h), if_pos h]
      obtain ⟨σ2, r2, f2⟩ := ih (e + 1) k (c + 1) σ1 (by omega) (by omega) (by omega) hx1 (to_fi f1 ho) (tm_fi f1 ho89.1 ho89.2 ht)
      exact ⟨σ2, by rw [r2, Nat.add_assoc], fi_tr f1 f2 (fun a h => h) (fun a h => h)⟩
    · rw [if_pos ((lo_neg h6 (by decide)).mpr (rx_iff.mpr h)), if_neg h, Nat.zero_add]
      obtain ⟨σ2, r2, f2⟩ := ih (e + 1) k c σ1 (by omega) (by omega) (by omega) hx1 (to_fi f1 ho) (tm_fi f1 ho89.1 ho89.2 ht)
      exact ⟨σ2, r2, fi_tr f1 f2 (fun a h => h) (fun a h => h)⟩
theorem x7_find {y : js_Y} {t : List Int32} {o : Nat} (g : gy_ y) (ho89 : o ≠ 89 ∧ o + 1 ≠ 89) (gt : gt_ y.1 t) :
    ∀ (d e k c i : Nat) (σ : js_S), e + d = t.length → d < k → c ≤ e → c + i < 2147483648 → xs_ σ y → to_ σ o → tm_ σ o t → ∃ σ', fX7_findRedex_6 5000 k 88 2 o (nI (c + i)) (nI c) (nI e) σ = some (lo_ (-1) (rfi_ (rx_ y t) d e i), σ') ∧ fi_ (fun z => z = 89) σ σ' := by
  have h6 := g.2.1
  have g40 := gt.2
  intro d
  induction d with
  | zero =>
    intro e k c i σ he hk hc hci hx ho ht
    obtain ⟨k, rfl⟩ : ∃ j, k = j + 1 := ⟨k - 1, by omega⟩
    refine ⟨σ, ?_, fi_rf⟩
    rw [sX7_findRedex_6]
    unfold fX7_findRedex_6b
    rw [ht.1, if_pos ((n_le (by omega) (by omega)).mpr (by omega))]
    rfl
  | succ d ih =>
    intro e k c i σ he hk hc hci hx ho ht
    obtain ⟨k, rfl⟩ : ∃ j, k = j + 1 := ⟨k - 1, by omega⟩
    obtain ⟨σ1, r1, f1, -⟩ := x7_lowestRuleAt g ho89 gt (e := e) (by omega) hx ho ht
    have hx1 := xs_fi f1 h6 (fun a q => by omega) hx
    have hto := to_fi f1 ho
    have htm := tm_fi f1 ho89.1 ho89.2 ht
    rw [sX7_findRedex_6]
    unfold fX7_findRedex_6b fX7_findRedex_38 rfi_
    rw [ht.1, if_neg (fun z => by have := (n_le (by omega) (by omega)).mp z; omega), r1, bd_s, show nI e + 1 = nI (e + 1) from n_add e 1, show nI c + 1 = nI (c + 1) from n_add c 1]
    by_cases h : rx_ y t e = true
    · rw [if_neg (fun z => rx_iff.mp ((lo_neg h6 (by decide)).mp z) h), if_pos h]
      by_cases h0 : i = 0
      · subst h0
        rw [Nat.add_zero, if_pos rfl, if_pos rfl]
        exact ⟨σ1, rfl, f1⟩
      · rw [if_neg (fun z => by have := (n_eq (by omega) (by omega)).mp z; omega), if_neg h0]
        obtain ⟨σ2, r2, f2⟩ := ih (e + 1) k (c + 1) (i - 1) σ1 (by omega) (by omega) (by omega) (by omega) hx1 hto htm
        rw [show c + 1 + (i - 1) = c + i by omega] at r2
        exact ⟨σ2, r2, fi_tr f1 f2 (fun a h => h) (fun a h => h)⟩
    · rw [if_pos ((lo_neg h6 (by decide)).mpr (rx_iff.mpr h)), if_neg h]
      obtain ⟨σ2, r2, f2⟩ := ih (e + 1) k c i σ1 (by omega) (by omega) (by omega) hci hx1 hto htm
      exact ⟨σ2, r2, fi_tr f1 f2 (fun a h => h) (fun a h => h)⟩
theorem x7_findRedex {σ : js_S} {y : js_Y} {t : List Int32} {o i : Nat} (g : gy_ y) (ho89 : o ≠ 89 ∧ o + 1 ≠ 89) (gt : gt_ y.1 t) (hi : i < 2147483648) (hx : xs_ σ y) (ho : to_ σ o) (ht : tm_ σ o t) : ∃ σ', fX7_findRedex 5000 88 2 o (nI i) σ = some (lo_ (-1) (rfi_ (rx_ y t) t.length 0 i), σ') ∧ fi_ (fun z => z = 89) σ σ' := by
  have g40 := gt.2
  have := x7_find g ho89 gt t.length 0 5000 0 i σ (by omega) (by omega) (by omega) (by omega) hx ho ht
  rw [Nat.zero_add] at this
  exact this
/-- the model's redex with number i -/
theorem m_find {y : js_Y} {t : List Int32} {o p : Nat} (g : gy_ y) (gt : gt_ y.1 t) (ho : o ≠ 397 ∧ o ≠ 398) (hb : p + 1 + t.length ≤ ln_ o) (hn : ln_ o < 1000000000) :
    ∀ (d e k c i : Nat) (σ : js_S), e + d = t.length → d < k → c ≤ e → c + i < 2147483648 → ms_ σ y → rw_ σ o p t → ∃ σ', fX12_redex_6 5000 k 390 o (nI p) (nI (c + i)) (nI c) (nI e) σ = some (lo_ (-5) (rfi_ (rx_ y t) d e i), σ') ∧ fi_ (fun z => z = 397 ∨ z = 398) σ σ' := by
  have h6 := g.2.1
  have g40 := gt.2
  intro d
  induction d with
  | zero =>
    intro e k c i σ he hk hc hci hx hv
    obtain ⟨k, rfl⟩ : ∃ j, k = j + 1 := ⟨k - 1, by omega⟩
    refine ⟨σ, ?_, fi_rf⟩
    rw [sX12_redex_6]
    unfold fX12_redex_6b
    have c0 : (0 : Int32) ≤ nI (c + i) := nI_pos' hci
    rw [n_ib (by omega), n_cl (by omega), if_pos (by simp; omega), hv.1, if_pos ((n_le (by omega) (by omega)).mpr (by omega)), if_pos c0]
    rfl
  | succ d ih =>
    intro e k c i σ he hk hc hci hx hv
    obtain ⟨k, rfl⟩ : ∃ j, k = j + 1 := ⟨k - 1, by omega⟩
    obtain ⟨σ1, r1, f1, -⟩ := m_matching g gt ho hb hn (e := e) (by omega) hx hv.2
    have hx1 := ms_fi f1 (fun a q => by omega) hx
    have hv1 := rw_fi f1 (by omega) hv
    rw [sX12_redex_6]
    unfold fX12_redex_6b fX12_redex_40 rfi_
    rw [n_ib (by omega), n_cl (by omega), if_pos (by simp; omega), hv.1, if_neg (fun z => by have := (n_le (by omega) (by omega)).mp z; omega), show nI p + 1 + nI e = nI (p + 1 + e) by rw [show nI p + 1 = nI (p + 1) from n_add p 1, n_add], r1, bd_s, show nI e + 1 = nI (e + 1) from n_add e 1, show nI c + 1 = nI (c + 1) from n_add c 1]
    by_cases h : rx_ y t e = true
    · rw [if_neg (fun z => rx_iff.mp ((lo_neg h6 (by decide)).mp z) h), if_pos h]
      by_cases h0 : i = 0
      · subst h0
        rw [Nat.add_zero, if_pos rfl, if_pos rfl]
        exact ⟨σ1, rfl, f1⟩
      · rw [if_neg (fun z => by have := (n_eq (by omega) (by omega)).mp z; omega), if_neg h0]
        obtain ⟨σ2, r2, f2⟩ := ih (e + 1) k (c + 1) (i - 1) σ1 (by omega) (by omega) (by omega) (by omega) hx1 hv1
        rw [show c + 1 + (i - 1) = c + i by omega] at r2
        exact ⟨σ2, r2, fi_tr f1 f2 (fun a h => h) (fun a h => h)⟩
    · rw [if_pos ((lo_neg h6 (by decide)).mpr (rx_iff.mpr h)), if_neg h]
      obtain ⟨σ2, r2, f2⟩ := ih (e + 1) k c i σ1 (by omega) (by omega) (by omega) hci hx1 hv1
      exact ⟨σ2, r2, fi_tr f1 f2 (fun a h => h) (fun a h => h)⟩
theorem m_redex {σ : js_S} {y : js_Y} {t : List Int32} {o p i : Nat} (g : gy_ y) (gt : gt_ y.1 t) (ho : o ≠ 397 ∧ o ≠ 398) (hb : p + 1 + t.length ≤ ln_ o) (hn : ln_ o < 1000000000) (hi : i < 2147483648) (hx : ms_ σ y) (hv : rw_ σ o p t) : ∃ σ', fX12_redex 5000 390 o (nI p) (nI i) σ = some (lo_ (-5) (rfi_ (rx_ y t) t.length 0 i), σ') ∧ fi_ (fun z => z = 397 ∨ z = 398) σ σ' := by
  have g40 := gt.2
  have := m_find g gt ho hb hn t.length 0 5000 0 i σ (by omega) (by omega) (by omega) (by omega) hx hv
  rw [Nat.zero_add] at this
  exact this
/-- the model's count of redexes -/
theorem m_count {y : js_Y} {t : List Int32} {o p : Nat} (g : gy_ y) (gt : gt_ y.1 t) (ho : o ≠ 397 ∧ o ≠ 398) (hb : p + 1 + t.length ≤ ln_ o) (hn : ln_ o < 1000000000) :
    ∀ (d e k c : Nat) (σ : js_S), e + d = t.length → d < k → c ≤ e → ms_ σ y → rw_ σ o p t → ∃ σ', fX12_redex_6 5000 k 390 o (nI p) (-1) (nI c) (nI e) σ = some (nI (c + rcn_ (rx_ y t) d e), σ') ∧ fi_ (fun z => z = 397 ∨ z = 398) σ σ' := by
  have h6 := g.2.1
  have g40 := gt.2
  intro d
  induction d with
  | zero =>
    intro e k c σ he hk hc hx hv
    obtain ⟨k, rfl⟩ : ∃ j, k = j + 1 := ⟨k - 1, by omega⟩
    refine ⟨σ, ?_, fi_rf⟩
    rw [sX12_redex_6]
    unfold fX12_redex_6b
    rw [n_ib (by omega), n_cl (by omega), if_pos (by simp; omega), hv.1, if_pos ((n_le (by omega) (by omega)).mpr (by omega)), if_neg (by decide)]
    rfl
  | succ d ih =>
    intro e k c σ he hk hc hx hv
    obtain ⟨k, rfl⟩ : ∃ j, k = j + 1 := ⟨k - 1, by omega⟩
    obtain ⟨σ1, r1, f1, -⟩ := m_matching g gt ho hb hn (e := e) (by omega) hx hv.2
    have hx1 := ms_fi f1 (fun a q => by omega) hx
    have hv1 := rw_fi f1 (by omega) hv
    rw [sX12_redex_6]
    unfold fX12_redex_6b fX12_redex_40 rcn_
    rw [n_ib (by omega), n_cl (by omega), if_pos (by simp; omega), hv.1, if_neg (fun z => by have := (n_le (by omega) (by omega)).mp z; omega), show nI p + 1 + nI e = nI (p + 1 + e) by rw [show nI p + 1 = nI (p + 1) from n_add p 1, n_add], r1, bd_s, show nI e + 1 = nI (e + 1) from n_add e 1, show nI c + 1 = nI (c + 1) from n_add c 1]
    by_cases h : rx_ y t e = true
    · have hcn : ¬ nI c = -1 := fun z => by
        have : nI c < 0 := by rw [z]; decide
        exact nI_pos (by omega) this
      rw [if_neg (fun z => rx_iff.mp ((lo_neg h6 (by decide)).mp z) h), if_pos h, if_neg hcn]
      obtain ⟨σ2, r2, f2⟩ := ih (e + 1) k (c + 1) σ1 (by omega) (by omega) (by omega) hx1 hv1
      exact ⟨σ2, by rw [r2, Nat.add_assoc], fi_tr f1 f2 (fun a h => h) (fun a h => h)⟩
    · rw [if_pos ((lo_neg h6 (by decide)).mpr (rx_iff.mpr h)), if_neg h, Nat.zero_add]
      obtain ⟨σ2, r2, f2⟩ := ih (e + 1) k c σ1 (by omega) (by omega) (by omega) hx1 hv1
      exact ⟨σ2, r2, fi_tr f1 f2 (fun a h => h) (fun a h => h)⟩
theorem m_redexn {σ : js_S} {y : js_Y} {t : List Int32} {o p : Nat} (g : gy_ y) (gt : gt_ y.1 t) (ho : o ≠ 397 ∧ o ≠ 398) (hb : p + 1 + t.length ≤ ln_ o) (hn : ln_ o < 1000000000) (hx : ms_ σ y) (hv : rw_ σ o p t) : ∃ σ', fX12_redex 5000 390 o (nI p) (-1) σ = some (nI (rcn_ (rx_ y t) t.length 0), σ') ∧ fi_ (fun z => z = 397 ∨ z = 398) σ σ' := by
  have g40 := gt.2
  have := m_count g gt ho hb hn t.length 0 5000 0 σ (by omega) (by omega) (by omega) hx hv
  rw [Nat.zero_add] at this
  exact this
/-! operations that look for redexes -/
theorem fx89 {σ σ' : js_S} (h : fi_ (fun z => z = 89) σ σ') : fx_ σ σ' := fx_fi h (fun a b q z => q (by unfold sX_; omega))
theorem fm97 {σ σ' : js_S} (h : fi_ (fun z => z = 397 ∨ z = 398) σ σ') : fm_ σ σ' := fm_fi h (fun a b q z => q (by unfold sM_; omega))
theorem op_redexCount {σ : js_S} {y : js_Y} {sn : Option js_Y} {tx : List Int32} (h : iv_ σ y sn tx) (x : Int32) : ∃ r σ1 σ2, fX11_redexCount 5000 1 x σ = some (r, σ1) ∧ fx_ σ σ1 ∧ fX12_redexCount 5000 390 x σ1 = some (r, σ2) ∧ fm_ σ1 σ2 := by
  have gy := h.2.2.1
  unfold fX11_redexCount fX12_redexCount
  by_cases hc : ∃ i, i < 4 ∧ x = nI i
  · obtain ⟨i, hi, rfl⟩ := hc
    have gt := gy.2.2.2 i hi
    have g40 := gt.2
    obtain ⟨σ1, r1, f1⟩ := x7_count gy (by omega) gt (o := 34 + 2 * i) (y.2.2 i).length 0 5000 0 σ (by omega) (by omega) (by omega) (xs_of h.1.1 h.1.2.2.1) (to_reg h.1.1 i hi) (sx_reg h.1.2.2.1 hi)
    have h1 := iv_x (fx89 f1) h
    obtain ⟨σ2, r2, f2⟩ := m_redexn (σ := σ1) (o := 395) (p := 96 * i) gy gt (by omega) (by rw [ln_395]; omega) (by rw [ln_395]; omega) (ms_of h1.2.1.1 h1.2.1.2.1) (h1.2.1.2.1.2.2.2 i hi)
    refine ⟨nI (rcn_ (rx_ y (y.2.2 i)) (y.2.2 i).length 0), σ1, σ2, ?_, fx89 f1, ?_, fm97 f2⟩
    · unfold fX7_countRedexes
      rw [x_reg hi, bd_s, if_neg (by decide), lx_1_0 h.1.1, x6_register h.1.1 hi, bd_s, lx_1_5 h.1.1, show (0 : Int32) = nI 0 from rfl, r1, bd_s, Nat.zero_add]
    · rw [m_reg hi, bd_s, if_neg (by decide), lm_4 h1.2.1.1, n_96, r2, bd_s]
  · refine ⟨-1, σ, σ, ?_, fx_rf, ?_, fm_rf⟩
    · rw [x_noreg hc, bd_s, if_pos rfl]
    · rw [m_noreg hc, bd_s, if_pos rfl]
