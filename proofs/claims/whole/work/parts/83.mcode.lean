/-! the model's codes: digits to the base 3 -/
def dn_ (D : Nat → Nat) : Nat → Nat → Nat
  | 0, _ => 3 * D 9 + D 10
  | d + 1, k => D k + 3 * dn_ D d (k + 1)
theorem dn_s {D : Nat → Nat} {d k : Nat} : dn_ D (d + 1) k = D k + 3 * dn_ D d (k + 1) := rfl
theorem dn_ext {D E : Nat → Nat} (h : ∀ k, k < 11 → D k = E k) : ∀ {d k : Nat}, k + d = 9 → dn_ D d k = dn_ E d k
  | 0, k, _ => by
    show 3 * D 9 + D 10 = 3 * E 9 + E 10
    rw [h 9 (by omega), h 10 (by omega)]
  | d + 1, k, hk => by rw [dn_s, dn_s, h k (by omega), dn_ext h (by omega)]
theorem dn_lt {D : Nat → Nat} (h : ∀ k, k < 11 → D k < 3) : ∀ {d k : Nat}, k + d = 9 → dn_ D d k < 9 * 3 ^ d
  | 0, k, _ => by
    have h9 := h 9 (by omega)
    have h10 := h 10 (by omega)
    show 3 * D 9 + D 10 < 9 * 1
    omega
  | d + 1, k, hk => by
    have h1 := dn_lt h (d := d) (k := k + 1) (by omega)
    have h2 := h k (by omega)
    rw [dn_s, Nat.pow_succ]
    omega
theorem dn_b {D : Nat → Nat} (h : ∀ k, k < 11 → D k < 3) {d k : Nat} (hk : k + d = 9) : dn_ D d k < 177147 := by
  have h1 := dn_lt h hk
  have h2 : 3 ^ d ≤ 3 ^ 9 := Nat.pow_le_pow_right (by omega) (by omega)
  have h3 : (3 : Nat) ^ 9 = 19683 := by decide
  omega
theorem dn_top {D : Nat → Nat} (h : ∀ k, k < 11 → D k < 3) : ∀ {d k : Nat}, k + d = 9 → dn_ D d k / 3 ^ d = 3 * D 9 + D 10
  | 0, k, _ => Nat.div_one _
  | d + 1, k, hk => by
    have h2 := h k (by omega)
    rw [dn_s, Nat.pow_succ, Nat.mul_comm (3 ^ d) 3, ← Nat.div_div_eq_div_mul, show (D k + 3 * dn_ D d (k + 1)) / 3 = dn_ D d (k + 1) by omega, dn_top h (by omega)]
theorem dn_inj {D E : Nat → Nat} (h : ∀ k, k < 11 → D k < 3) (h2 : ∀ k, k < 11 → E k < 3) : ∀ {d k : Nat}, k + d = 9 → dn_ D d k = dn_ E d k → (∀ j, k ≤ j → j < 11 → D j = E j)
  | 0, k, hk, he => by
    intro j h1 h3
    have a9 := h 9 (by omega)
    have a10 := h 10 (by omega)
    have b9 := h2 9 (by omega)
    have b10 := h2 10 (by omega)
    have he : 3 * D 9 + D 10 = 3 * E 9 + E 10 := he
    rcases (show j = 9 ∨ j = 10 by omega) with rfl | rfl <;> omega
  | d + 1, k, hk, he => by
    intro j h1 h3
    have ak := h k (by omega)
    have bk := h2 k (by omega)
    rw [dn_s, dn_s] at he
    have e1 : D k = E k := by omega
    have e2 : dn_ D d (k + 1) = dn_ E d (k + 1) := by omega
    by_cases c : j = k
    · rw [c]; exact e1
    · exact dn_inj h h2 (by omega) e2 j (by omega) h3
/-- the model's code of a graph -/
def mc2_ (x : Nat) : Nat := dn_ (fe_ x) 9 0
theorem mc2_lt {x : Nat} (h : gc_ x) : mc2_ x < 177147 := dn_b (fun k hk => gc_fe h hk) (by omega)
theorem mc2_inj {x z : Nat} (h : gc_ x) (h2 : gc_ z) (he : mc2_ x = mc2_ z) : x = z := gc_eq h h2 (fun k hk => dn_inj (fun k hk => gc_fe h hk) (fun k hk => gc_fe h2 hk) (by omega) he k (Nat.zero_le k) hk)
theorem mc2_top {x : Nat} (h : gc_ x) : mc2_ x / 19683 = 3 * fe_ x 9 + fe_ x 10 := by
  have := dn_top (fun k hk => gc_fe h hk) (d := 9) (k := 0) (by omega)
  rw [show (3 : Nat) ^ 9 = 19683 by decide] at this
  exact this
theorem m_functions {x : Nat} {σ : js_S} (h : gc_ x) : fX12_functions 5000 (nI (mc2_ x)) σ = some (nI (3 * fe_ x 9 + fe_ x 10), σ) := by
  have := mc2_lt h
  unfold fX12_functions
  rw [show nI (mc2_ x) / 19683 = nI (mc2_ x / 19683) from n_div (b := 19683) (by omega) (by omega), mc2_top h]
theorem m_decodeLoop {D : Nat → Nat} {o : Nat} (h : ∀ k, k < 11 → D k < 3) (ho : ln_ o = 9) : ∀ (d k m : Nat) (σ : js_S), k + d = 9 → d < m → ∃ σ', fX12_decode_4 5000 m o (nI (dn_ D d k)) (nI k) σ = some ((), σ') ∧ fi_ (fun a => a = o) σ σ' ∧ (∀ j, j < k → σ'.1 o j = σ.1 o j) ∧ ∀ j, k ≤ j → j < 9 → σ'.1 o j = nI (D j) := by
  intro d
  induction d with
  | zero =>
    intro k m σ hk hm
    obtain ⟨m, rfl⟩ : ∃ j, m = j + 1 := ⟨m - 1, by omega⟩
    refine ⟨σ, ?_, fi_rf, fun _ _ => rfl, fun j h1 h2 => by omega⟩
    rw [sX12_decode_4]
    unfold fX12_decode_4b
    rw [if_pos (show (9 : Int32) ≤ nI k from nle_t (a := 9) (by omega) (by omega))]
  | succ d ih =>
    intro k m σ hk hm
    obtain ⟨m, rfl⟩ : ∃ j, m = j + 1 := ⟨m - 1, by omega⟩
    have hb := dn_b h (d := d + 1) (k := k) (by omega)
    have hdk := h k (by omega)
    have e1 : dn_ D (d + 1) k % 3 = D k := by rw [dn_s]; omega
    have e2 : dn_ D (d + 1) k / 3 = dn_ D d (k + 1) := by rw [dn_s]; omega
    have f1 : fi_ (fun a => a = o) σ (uI_ σ o k (nI (D k))) := fi_u rfl
    obtain ⟨σ2, r2, f2, q2, q3⟩ := ih (k + 1) m (uI_ σ o k (nI (D k))) (by omega) (by omega)
    refine ⟨σ2, ?_, fi_tr f1 f2 (fun a q => q) (fun a q => q), fun j hj => ?_, fun j h1 h2 => ?_⟩
    · rw [sX12_decode_4]
      unfold fX12_decode_4b
      rw [if_neg (show ¬ (9 : Int32) ≤ nI k from nle_f (a := 9) (by omega) (by omega)), ho, if_pos (ib_t (by omega) (by omega)), n_cl (by omega), show nI (dn_ D (d + 1) k) - nI (dn_ D (d + 1) k) / 3 * 3 = nI (dn_ D (d + 1) k % 3) from n_rem (b := 3) (by omega) (by omega), show nI (dn_ D (d + 1) k) / 3 = nI (dn_ D (d + 1) k / 3) from n_div (b := 3) (by omega) (by omega), e1, e2, lt_s_, n_s, r2]
    · rw [q2 j (by omega), uI_ne (by omega)]
    · by_cases c : j = k
      · rw [q2 j (by omega), c, uI_same]
      · exact q3 j (by omega) h2
theorem m_decode {x o : Nat} {σ : js_S} (hx : gc_ x) (ho : ln_ o = 9) : ∃ σ', fX12_decode 5000 (nI (mc2_ x)) o σ = some ((), σ') ∧ fi_ (fun a => a = o) σ σ' ∧ ∀ j, j < 9 → σ'.1 o j = nI (fe_ x j) := by
  obtain ⟨σ2, r2, f2, q2, q3⟩ := m_decodeLoop (D := fe_ x) (fun k hk => gc_fe hx hk) ho 9 0 5000 σ (by omega) (by omega)
  exact ⟨σ2, r2, f2, fun j hj => q3 j (Nat.zero_le j) hj⟩
theorem n_dec (k : Nat) : nI (k + 1) + (-1) = nI k := by
  rw [← Int32.sub_eq_add_neg, n_pred (by omega), Nat.add_sub_cancel]
theorem m_encodeLoop {D : Nat → Nat} {o : Nat} {σ : js_S} (ho : ln_ o = 9) (hr : ∀ j, j < 9 → σ.1 o j = nI (D j)) : ∀ (k m : Nat), k < 9 → k + 1 < m → fX12_encode_5 5000 m o (nI (dn_ D (8 - k) (k + 1))) (nI k) σ = some (nI (dn_ D 9 0), σ) := by
  intro k
  induction k with
  | zero =>
    intro m hk hm
    obtain ⟨m, rfl⟩ : ∃ j, m = j + 1 := ⟨m - 1, by omega⟩
    obtain ⟨m, rfl⟩ : ∃ j, m = j + 1 := ⟨m - 1, by omega⟩
    rw [sX12_encode_5]
    unfold fX12_encode_5b
    rw [if_neg (by decide), ho, if_pos (by decide), show σ.1 o (Int32.toNatClampNeg (nI 0)) = nI (D 0) from hr 0 (by omega), show (3 : Int32) * nI (dn_ D (8 - 0) (0 + 1)) = nI (3 * dn_ D 8 1) from n_mul 3 _, n_add, sX12_encode_5]
    unfold fX12_encode_5b
    rw [if_pos (by decide), Nat.add_comm]
    rfl
  | succ k ih =>
    intro m hk hm
    obtain ⟨m, rfl⟩ : ∃ j, m = j + 1 := ⟨m - 1, by omega⟩
    have ih1 := ih m (by omega) (by omega)
    rw [show 8 - k = (8 - (k + 1)) + 1 by omega, dn_s] at ih1
    rw [sX12_encode_5]
    unfold fX12_encode_5b
    rw [if_neg (nI_pos (by omega)), ho, if_pos (ib_t (by omega) (by omega)), n_cl (by omega), hr (k + 1) (by omega), show (3 : Int32) * nI (dn_ D (8 - (k + 1)) (k + 1 + 1)) = nI (3 * dn_ D (8 - (k + 1)) (k + 1 + 1)) from n_mul 3 _, n_add, n_dec, Nat.add_comm (3 * _)]
    exact ih1
theorem m_encode {D : Nat → Nat} {o : Nat} {σ : js_S} (ho : ln_ o = 9) (hr : ∀ j, j < 9 → σ.1 o j = nI (D j)) : fX12_encode 5000 (nI (3 * D 9 + D 10)) o σ = some (nI (dn_ D 9 0), σ) := by
  unfold fX12_encode
  exact m_encodeLoop ho hr 8 5000 (by omega) (by omega)
/-! the model composes -/
theorem n_3c (i j : Nat) : 3 * nI i + nI j = nI (3 * i + j) := by
  rw [show 3 * nI i = nI (3 * i) from n_mul 3 i, n_add]
theorem m_co56s {D E : Nat → Nat} {i j m b k : Nat} {x1 x2 : Int32} {σ : js_S} {rc36 : Nat → Int32 → Int32 → Int32 → js_S → Option (Int32 × js_S)} {rc44 : Nat → Int32 → Int32 → Int32 → Int32 → js_S → Option (Int32 × js_S)} (hl : lm_ σ.2.2) (hA : ∀ k, k < 9 → σ.1 410 k = nI (D k) ∧ D k < 3) (hB : ∀ k, k < 9 → σ.1 411 k = nI (E k) ∧ E k < 3) (hi : i < 3) (hj : j < 3) (hm : m < 3) (hb : b < 3) : fX12_compose_56 5000 rc36 rc44 (k + 1) 390 x1 x2 (nI i) (nI j) (nI b) (nI m) σ = fX12_compose_56 5000 rc36 rc44 k 390 x1 x2 (nI i) (nI j) (nI (max b (h2_ (D (3 * i + m)) (E (3 * m + j))))) (nI (m + 1)) σ := by
  obtain ⟨a1, a2⟩ := hA (3 * i + m) (by omega)
  obtain ⟨b1, b2⟩ := hB (3 * m + j) (by omega)
  rw [sX12_compose_56]
  unfold fX12_compose_56b fX12_compose_101 fX12_compose_112
  rw [if_neg (show ¬ (3 : Int32) ≤ nI m from nle_f (a := 3) hm (by omega)), n_3c, n_3c, lm_26 hl, ln_410, if_pos (ib_t (by omega) (by omega)), lm_27 hl, ln_411, if_pos (ib_t (by omega) (by omega)), n_cl (by omega), n_cl (by omega), a1, b1, n_s]
  unfold h2_
  have e0 : (if nI b < (0 : Int32) then (0 : Int32) else nI b) = nI b := if_neg (nI_pos (by omega))
  by_cases c1 : D (3 * i + m) = 0
  · rw [if_pos (show nI (D (3 * i + m)) = 0 by rw [c1]; rfl), if_pos (Or.inl c1), e0, Nat.max_eq_left (by omega)]
  · rw [if_neg (show ¬ nI (D (3 * i + m)) = 0 from neq_f (b := 0) c1 (by omega) (by omega))]
    by_cases c2 : E (3 * m + j) = 0
    · rw [if_pos (show nI (E (3 * m + j)) = 0 by rw [c2]; rfl), if_pos (Or.inr c2), e0, Nat.max_eq_left (by omega)]
    · rw [if_neg (show ¬ nI (E (3 * m + j)) = 0 from neq_f (b := 0) c2 (by omega) (by omega)), if_neg (show ¬ (D (3 * i + m) = 0 ∨ E (3 * m + j) = 0) by omega), n_max (by omega) (by omega), n_max (by omega) (by omega)]
theorem m_co56 {D E : Nat → Nat} {i j : Nat} {x1 x2 : Int32} {σ : js_S} {rc36 : Nat → Int32 → Int32 → Int32 → js_S → Option (Int32 × js_S)} {rc44 : Nat → Int32 → Int32 → Int32 → Int32 → js_S → Option (Int32 × js_S)} (hl : lm_ σ.2.2) (hA : ∀ k, k < 9 → σ.1 410 k = nI (D k) ∧ D k < 3) (hB : ∀ k, k < 9 → σ.1 411 k = nI (E k) ∧ E k < 3) (hi : i < 3) (hj : j < 3) : fX12_compose_56 5000 rc36 rc44 5000 390 x1 x2 (nI i) (nI j) 0 0 σ = rc44 390 x1 x2 (nI i) (nI (j + 1)) (uI_ σ 413 (3 * i + j) (nI (cp2_ D E (3 * i + j)))) := by
  have a0 := h2_lt (hA (3 * i + 0) (by omega)).2 (hB (3 * 0 + j) (by omega)).2
  have a1 := h2_lt (hA (3 * i + (0 + 1)) (by omega)).2 (hB (3 * (0 + 1) + j) (by omega)).2
  have s0 := m_co56s (rc36 := rc36) (rc44 := rc44) (k := 4999) (m := 0) (b := 0) (x1 := x1) (x2 := x2) hl hA hB hi hj (by omega) (by omega)
  have s1 := m_co56s (rc36 := rc36) (rc44 := rc44) (k := 4998) (m := 0 + 1) (b := max 0 (h2_ (D (3 * i + 0)) (E (3 * 0 + j)))) (x1 := x1) (x2 := x2) hl hA hB hi hj (by omega) (by omega)
  have s2 := m_co56s (rc36 := rc36) (rc44 := rc44) (k := 4997) (m := 0 + 1 + 1) (b := max (max 0 (h2_ (D (3 * i + 0)) (E (3 * 0 + j)))) (h2_ (D (3 * i + (0 + 1))) (E (3 * (0 + 1) + j)))) (x1 := x1) (x2 := x2) hl hA hB hi hj (by omega) (by omega)
  have e : max (max (max 0 (h2_ (D (3 * i + 0)) (E (3 * 0 + j)))) (h2_ (D (3 * i + (0 + 1))) (E (3 * (0 + 1) + j)))) (h2_ (D (3 * i + (0 + 1 + 1))) (E (3 * (0 + 1 + 1) + j))) = cp2_ D E (3 * i + j) := by
    rw [cp2_r hi hj, Nat.zero_max, show 3 * i + 0 = 3 * i from rfl, show 3 * 0 + j = j by omega, show 3 * i + (0 + 1) = 3 * i + 1 from rfl, show 3 * (0 + 1) + j = 3 + j by omega, show 3 * i + (0 + 1 + 1) = 3 * i + 2 from rfl, show 3 * (0 + 1 + 1) + j = 6 + j by omega]
  rw [e] at s2
  rw [show fX12_compose_56 5000 rc36 rc44 5000 390 x1 x2 (nI i) (nI j) 0 0 σ = _ from s0, show fX12_compose_56 5000 rc36 rc44 4999 _ _ _ _ _ _ _ _ = _ from s1, show fX12_compose_56 5000 rc36 rc44 4998 _ _ _ _ _ _ _ _ = _ from s2, show (4997 : Nat) = 4996 + 1 from rfl, sX12_compose_56]
  unfold fX12_compose_56b
  rw [if_pos (show (3 : Int32) ≤ nI (0 + 1 + 1 + 1) from by decide), n_3c, lm_30 hl, ln_413, if_pos (ib_t (by omega) (by omega)), n_cl (by omega), lt_s_, n_s]
theorem m_co44 {D E : Nat → Nat} {i : Nat} {x1 x2 : Int32} {rc36 : Nat → Int32 → Int32 → Int32 → js_S → Option (Int32 × js_S)} (hi : i < 3) : ∀ (d j k : Nat) (σ : js_S), j + d = 3 → d < k → lm_ σ.2.2 → (∀ k, k < 9 → σ.1 410 k = nI (D k) ∧ D k < 3) → (∀ k, k < 9 → σ.1 411 k = nI (E k) ∧ E k < 3) → (∀ q, q < 3 * i + j → σ.1 413 q = nI (cp2_ D E q)) → ∃ σ', fX12_compose_44 5000 rc36 k 390 x1 x2 (nI i) (nI j) σ = rc36 390 x1 x2 (nI (i + 1)) σ' ∧ fi_ (fun a => a = 413) σ σ' ∧ ∀ q, q < 3 * (i + 1) → σ'.1 413 q = nI (cp2_ D E q) := by
  intro d
  induction d with
  | zero =>
    intro j k σ hj hk hl hA hB hC
    obtain ⟨k, rfl⟩ : ∃ j, k = j + 1 := ⟨k - 1, by omega⟩
    refine ⟨σ, ?_, fi_rf, fun q hq => hC q (by omega)⟩
    rw [sX12_compose_44]
    unfold fX12_compose_44b
    rw [if_pos (show (3 : Int32) ≤ nI j from nle_t (a := 3) (by omega) (by omega)), n_s]
  | succ d ih =>
    intro j k σ hj hk hl hA hB hC
    obtain ⟨k, rfl⟩ : ∃ j, k = j + 1 := ⟨k - 1, by omega⟩
    have f1 : fi_ (fun a => a = 413) σ (uI_ σ 413 (3 * i + j) (nI (cp2_ D E (3 * i + j)))) := fi_u rfl
    obtain ⟨σ2, r2, f2, e2⟩ := ih (j + 1) k (uI_ σ 413 (3 * i + j) (nI (cp2_ D E (3 * i + j)))) (by omega) (by omega) hl (fun k hk => by rw [uI_ne (by omega)]; exact hA k hk) (fun k hk => by rw [uI_ne (by omega)]; exact hB k hk) (fun q hq => by
      by_cases z : q = 3 * i + j
      · rw [z, uI_same]
      · rw [uI_ne (by omega)]; exact hC q (by omega))
    refine ⟨σ2, ?_, fi_tr f1 f2 (fun a q => q) (fun a q => q), e2⟩
    rw [sX12_compose_44]
    unfold fX12_compose_44b
    rw [if_neg (show ¬ (3 : Int32) ≤ nI j from nle_f (a := 3) (by omega) (by omega)), m_co56 hl hA hB hi (by omega), r2]
theorem m_co36 {x z : Nat} (hx : gc_ x) (hz : gc_ z) : ∀ (d i k : Nat) (σ : js_S), i + d = 3 → d < k → lm_ σ.2.2 → (∀ k, k < 9 → σ.1 410 k = nI (fe_ x k) ∧ fe_ x k < 3) → (∀ k, k < 9 → σ.1 411 k = nI (fe_ z k) ∧ fe_ z k < 3) → (∀ q, q < 3 * i → σ.1 413 q = nI (cp2_ (fe_ x) (fe_ z) q)) → ∃ σ', fX12_compose_36 5000 k 390 (nI (mc2_ x)) (nI (mc2_ z)) (nI i) σ = some (nI (mc2_ (cx_ x z)), σ') ∧ fi_ (fun a => a = 413) σ σ' := by
  have x9 := gc_fe hx (k := 9) (by omega)
  have x10 := gc_fe hx (k := 10) (by omega)
  have z9 := gc_fe hz (k := 9) (by omega)
  have z10 := gc_fe hz (k := 10) (by omega)
  intro d
  induction d with
  | zero =>
    intro i k σ hi hk hl hA hB hC
    obtain ⟨k, rfl⟩ : ∃ j, k = j + 1 := ⟨k - 1, by omega⟩
    refine ⟨σ, ?_, fi_rf⟩
    have e1 : nI (3 * fe_ x 9 + fe_ x 10) / 3 = nI (fe_ x 9) := by
      rw [show nI (3 * fe_ x 9 + fe_ x 10) / 3 = nI ((3 * fe_ x 9 + fe_ x 10) / 3) from n_div (b := 3) (by omega) (by omega), show (3 * fe_ x 9 + fe_ x 10) / 3 = fe_ x 9 by omega]
    have e2 : nI (3 * fe_ z 9 + fe_ z 10) - nI (3 * fe_ z 9 + fe_ z 10) / 3 * 3 = nI (fe_ z 10) := by
      rw [show nI (3 * fe_ z 9 + fe_ z 10) - nI (3 * fe_ z 9 + fe_ z 10) / 3 * 3 = nI ((3 * fe_ z 9 + fe_ z 10) % 3) from n_rem (b := 3) (by omega) (by omega), show (3 * fe_ z 9 + fe_ z 10) % 3 = fe_ z 10 by omega]
    have e3 : nI (fe_ x 9) * 3 + nI (fe_ z 10) = nI (3 * cp2_ (fe_ x) (fe_ z) 9 + cp2_ (fe_ x) (fe_ z) 10) := by
      rw [cp2_9, cp2_10, show nI (fe_ x 9) * 3 = nI (fe_ x 9 * 3) from n_mul _ 3, n_add, Nat.mul_comm]
    have e4 : dn_ (cp2_ (fe_ x) (fe_ z)) 9 0 = mc2_ (cx_ x z) := dn_ext (fun k hk => (cx_fe hx hz hk).symm) (by omega)
    rw [sX12_compose_36]
    unfold fX12_compose_36b
    rw [if_pos (show (3 : Int32) ≤ nI i from nle_t (a := 3) (by omega) (by omega)), m_functions hx, bd_s, m_functions hz, bd_s, e1, e2, e3, lm_30 hl, m_encode ln_413 (fun j hj => hC j (by omega)), bd_s, e4]
  | succ d ih =>
    intro i k σ hi hk hl hA hB hC
    obtain ⟨k, rfl⟩ : ∃ j, k = j + 1 := ⟨k - 1, by omega⟩
    obtain ⟨σ1, r1, f1, e1⟩ := m_co44 (x1 := nI (mc2_ x)) (x2 := nI (mc2_ z)) (rc36 := fX12_compose_36 5000 k) (i := i) (by omega) 3 0 5000 σ (by omega) (by omega) hl hA hB (fun q hq => hC q (by omega))
    obtain ⟨σ2, r2, f2⟩ := ih (i + 1) k σ1 (by omega) (by omega) (by rw [fi_r f1]; exact hl) (fun k hk => by rw [f1.2 410 (by omega)]; exact hA k hk) (fun k hk => by rw [f1.2 411 (by omega)]; exact hB k hk) e1
    refine ⟨σ2, ?_, fi_tr f1 f2 (fun a q => q) (fun a q => q)⟩
    rw [sX12_compose_36]
    unfold fX12_compose_36b
    rw [if_neg (show ¬ (3 : Int32) ≤ nI i from nle_f (a := 3) (by omega) (by omega)), show fX12_compose_44 5000 (fX12_compose_36 5000 k) 5000 390 (nI (mc2_ x)) (nI (mc2_ z)) (nI i) 0 σ = _ from r1, r2]
def sQ_ (a : Nat) : Prop := a = 410 ∨ a = 411 ∨ a = 413
theorem m_compose {x z : Nat} {σ : js_S} (hl : lm_ σ.2.2) (hx : gc_ x) (hz : gc_ z) : ∃ σ', fX12_compose 5000 390 (nI (mc2_ x)) (nI (mc2_ z)) σ = some ((if fe_ x 10 = fe_ z 9 then nI (mc2_ (cx_ x z)) else -5), σ') ∧ fi_ sQ_ σ σ' := by
  have x9 := gc_fe hx (k := 9) (by omega)
  have x10 := gc_fe hx (k := 10) (by omega)
  have z9 := gc_fe hz (k := 9) (by omega)
  have z10 := gc_fe hz (k := 10) (by omega)
  have e1 : nI (3 * fe_ z 9 + fe_ z 10) / 3 = nI (fe_ z 9) := by
    rw [show nI (3 * fe_ z 9 + fe_ z 10) / 3 = nI ((3 * fe_ z 9 + fe_ z 10) / 3) from n_div (b := 3) (by omega) (by omega), show (3 * fe_ z 9 + fe_ z 10) / 3 = fe_ z 9 by omega]
  have e2 : nI (3 * fe_ x 9 + fe_ x 10) - nI (3 * fe_ x 9 + fe_ x 10) / 3 * 3 = nI (fe_ x 10) := by
    rw [show nI (3 * fe_ x 9 + fe_ x 10) - nI (3 * fe_ x 9 + fe_ x 10) / 3 * 3 = nI ((3 * fe_ x 9 + fe_ x 10) % 3) from n_rem (b := 3) (by omega) (by omega), show (3 * fe_ x 9 + fe_ x 10) % 3 = fe_ x 10 by omega]
  unfold fX12_compose
  rw [m_functions hx, bd_s, m_functions hz, bd_s, e1, e2]
  by_cases c : fe_ x 10 = fe_ z 9
  · obtain ⟨σ1, r1, f1, q1⟩ := m_decode (σ := σ) hx ln_410
    have l1 : lm_ σ1.2.2 := by rw [fi_r f1]; exact hl
    obtain ⟨σ2, r2, f2, q2⟩ := m_decode (σ := σ1) hz ln_411
    obtain ⟨σ3, r3, f3⟩ := m_co36 hx hz 3 0 5000 σ2 (by omega) (by omega) (by rw [fi_r f2]; exact l1) (fun k hk => ⟨by rw [f2.2 410 (by omega)]; exact q1 k hk, gc_fe hx (by omega)⟩) (fun k hk => ⟨q2 k hk, gc_fe hz (by omega)⟩) (fun q hq => by omega)
    refine ⟨σ3, ?_, fi_tr (fi_tr f1 f2 (S3 := sQ_) (fun a q => by unfold sQ_ at q; omega) (fun a q => by unfold sQ_ at q; omega)) f3 (fun a q => q) (fun a q => by unfold sQ_ at q; omega)⟩
    rw [if_pos (by rw [c]), if_pos c, lm_26 hl, r1, bd_s, lm_27 l1, r2, bd_s]
    exact r3
  · refine ⟨σ, ?_, fi_rf⟩
    rw [if_neg (neq_f c (by omega) (by omega)), if_neg c]
