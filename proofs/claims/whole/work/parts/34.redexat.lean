/-! redexAt, matches, normalFormRegisterCount -/
theorem lo_or {r : Option Nat} (h : ∀ p, r = some p → p < 2147483648) : (if lo_ (-1) r < 0 then (-5 : Int32) else lo_ (-1) r) = lo_ (-5) r := by
  cases r with
  | none => rfl
  | some p => exact if_neg (nI_pos (h p rfl))
theorem op_redexAt {σ : js_S} {y : js_Y} {sn : Option js_Y} {tx : List Int32} (h : iv_ σ y sn tx) (x z : Int32) : ∃ r σ1 σ2, fX11_redexAt 5000 1 x z σ = some (r, σ1) ∧ fx_ σ σ1 ∧ fX12_redexAt 5000 390 x z σ1 = some (r, σ2) ∧ fm_ σ1 σ2 := by
  have gy := h.2.2.1
  unfold fX11_redexAt fX12_redexAt
  by_cases hc : ∃ i, i < 4 ∧ x = nI i
  · obtain ⟨i, hi, rfl⟩ := hc
    have gt := gy.2.2.2 i hi
    have g40 := gt.2
    rcases n_cases z with hz | ⟨q, hq, rfl⟩
    · refine ⟨-1, σ, σ, ?_, fx_rf, ?_, fm_rf⟩
      · rw [x_reg hi, bd_s, if_neg (by decide), if_neg (fun c => absurd hz (Int32.not_lt.mpr c))]
      · rw [m_reg hi, bd_s, if_neg (by decide), if_pos hz]
    · obtain ⟨σ1, r1, f1⟩ := x7_findRedex gy (by omega) gt (o := 34 + 2 * i) hq (xs_of h.1.1 h.1.2.2.1) (to_reg h.1.1 i hi) (sx_reg h.1.2.2.1 hi)
      have h1 := iv_x (fx89 f1) h
      obtain ⟨σ2, r2, f2⟩ := m_redex (σ := σ1) (o := 395) (p := 96 * i) gy gt (by omega) (by rw [ln_395]; omega) (by rw [ln_395]; omega) hq (ms_of h1.2.1.1 h1.2.1.2.1) (h1.2.1.2.1.2.2.2 i hi)
      have hp : ∀ p, rfi_ (rx_ y (y.2.2 i)) (y.2.2 i).length 0 q = some p → p < 2147483648 := fun p hp => by have := rfi_lt hp; omega
      refine ⟨lo_ (-5) (rfi_ (rx_ y (y.2.2 i)) (y.2.2 i).length 0 q), σ1, σ2, ?_, fx89 f1, ?_, fm97 f2⟩
      · rw [x_reg hi, bd_s, if_neg (by decide), if_pos (nI_pos' hq), lx_1_0 h.1.1, x6_register h.1.1 hi, bd_s, lx_1_5 h.1.1, r1, bd_s, ← lo_or hp]
        split <;> rfl
      · rw [m_reg hi, bd_s, if_neg (by decide), if_neg (nI_pos hq), lm_4 h1.2.1.1, n_96, r2, bd_s]
  · refine ⟨-1, σ, σ, ?_, fx_rf, ?_, fm_rf⟩
    · rw [x_noreg hc, bd_s, if_pos rfl]
    · rw [m_noreg hc, bd_s, if_pos rfl]
/-- positions -/
theorem x_pos {σ : js_S} {y : js_Y} {sn : Option js_Y} {tx : List Int32} (h : iv_ σ y sn tx) {i q : Nat} (hi : i < 4) (hq : q < (y.2.2 i).length) : fX11_hasPosition 5000 1 (nI i) (nI q) σ = some (1, σ) := by
  have gt := h.2.2.1.2.2.2 i hi
  have g40 := gt.2
  unfold fX11_hasPosition
  rw [x_reg hi, bd_s, if_neg (by decide), if_neg (nI_pos (by omega)), lx_1_0 h.1.1, x6_register h.1.1 hi, bd_s, (sx_reg h.1.2.2.1 hi).1, if_neg (fun z => by have := (n_le (by omega) (by omega)).mp z; omega)]
theorem m_pos {σ : js_S} {y : js_Y} {sn : Option js_Y} {tx : List Int32} (h : iv_ σ y sn tx) {i q : Nat} (hi : i < 4) (hq : q < (y.2.2 i).length) : fX12_isPosition 5000 390 (nI i) (nI q) σ = some (1, σ) := by
  have gt := h.2.2.1.2.2.2 i hi
  have g40 := gt.2
  unfold fX12_isPosition
  rw [m_reg hi, bd_s, if_neg (by decide), n_96, lm_4 h.2.1.1, ln_395, n_ib (by omega), if_pos (by simp; omega), n_cl (by omega), (h.2.1.2.1.2.2.2 i hi).1, n_pred (by omega), m_isIn, bd_s]
  have c1 : ¬ nI q < 0 := nI_pos (by omega)
  have c2 : ¬ nI ((y.2.2 i).length - 1) < nI q := fun z => by have := (n_lt (by omega) (by omega)).mp z; omega
  rw [if_neg c1, if_neg c2]
  rfl
theorem x_nopos {σ : js_S} {y : js_Y} {sn : Option js_Y} {tx : List Int32} (h : iv_ σ y sn tx) {x z : Int32} (hc : ¬ ∃ i q, i < 4 ∧ q < (y.2.2 i).length ∧ x = nI i ∧ z = nI q) : fX11_hasPosition 5000 1 x z σ = some (0, σ) := by
  unfold fX11_hasPosition
  by_cases hr : ∃ i, i < 4 ∧ x = nI i
  · obtain ⟨i, hi, rfl⟩ := hr
    have gt := h.2.2.1.2.2.2 i hi
    have g40 := gt.2
    rw [x_reg hi, bd_s, if_neg (by decide)]
    rcases n_cases z with hz | ⟨q, hq, rfl⟩
    · rw [if_pos hz]
    · have : ¬ q < (y.2.2 i).length := fun w => hc ⟨i, q, hi, w, rfl, rfl⟩
      rw [if_neg (nI_pos (by omega)), lx_1_0 h.1.1, x6_register h.1.1 hi, bd_s, (sx_reg h.1.2.2.1 hi).1, if_pos ((n_le (by omega) (by omega)).mpr (by omega))]
  · rw [x_noreg hr, bd_s, if_pos rfl]
theorem gt_pos {a : Nat → Nat} {t : List Int32} (h : gt_ a t) : 0 < t.length := by
  cases t with
  | nil => exact absurd h.1 (by show ¬ 1 = 0; omega)
  | cons s t => simp
theorem m_nopos {σ : js_S} {y : js_Y} {sn : Option js_Y} {tx : List Int32} (h : iv_ σ y sn tx) {x z : Int32} (hc : ¬ ∃ i q, i < 4 ∧ q < (y.2.2 i).length ∧ x = nI i ∧ z = nI q) : fX12_isPosition 5000 390 x z σ = some (0, σ) := by
  unfold fX12_isPosition
  by_cases hr : ∃ i, i < 4 ∧ x = nI i
  · obtain ⟨i, hi, rfl⟩ := hr
    have gt := h.2.2.1.2.2.2 i hi
    have g40 := gt.2
    have gp := gt_pos gt
    rw [m_reg hi, bd_s, if_neg (by decide), n_96, lm_4 h.2.1.1, ln_395, n_ib (by omega), if_pos (by simp; omega), n_cl (by omega), (h.2.1.2.1.2.2.2 i hi).1, n_pred (by omega), m_isIn, bd_s]
    rcases n_cases z with hz | ⟨q, hq, rfl⟩
    · rw [if_pos hz, if_pos rfl]
    · have : ¬ q < (y.2.2 i).length := fun w => hc ⟨i, q, hi, w, rfl, rfl⟩
      rw [if_neg (nI_pos (by omega)), if_pos ((n_lt (by omega) (by omega)).mpr (by omega)), if_pos rfl]
  · rw [m_noreg hr, bd_s, if_pos rfl]
theorem bi_ite (b : Bool) (σ : js_S) : (if bi_ b = 0 then some ((0 : Int32), σ) else some (1, σ)) = some (bi_ b, σ) := by cases b <;> rfl
theorem op_matches {σ : js_S} {y : js_Y} {sn : Option js_Y} {tx : List Int32} (h : iv_ σ y sn tx) (w x z : Int32) : ∃ r σ1 σ2, fX11_matches 5000 1 w x z σ = some (r, σ1) ∧ fx_ σ σ1 ∧ fX12_matches 5000 390 w x z σ1 = some (r, σ2) ∧ fm_ σ1 σ2 := by
  have gy := h.2.2.1
  have h6 := gy.2.1
  unfold fX11_matches fX12_matches
  by_cases hw : ∃ j, j < y.2.1.length ∧ w = nI j
  · obtain ⟨j, hj, rfl⟩ := hw
    by_cases hc : ∃ i q, i < 4 ∧ q < (y.2.2 i).length ∧ x = nI i ∧ z = nI q
    · obtain ⟨i, q, hi, hq, rfl, rfl⟩ := hc
      have gt := gy.2.2.2 i hi
      have g40 := gt.2
      obtain ⟨σ1, r1, f1, -⟩ := x7_fits (xs_of h.1.1 h.1.2.2.1) gy hj (o := 34 + 2 * i) (to_reg h.1.1 i hi) (by omega) (sx_reg h.1.2.2.1 hi) gt hq
      have h1 := iv_x (fx89 f1) h
      obtain ⟨σ2, r2, f2, -⟩ := m_match (σ := σ1) (o := 395) (p := 96 * i + 1) gy hj gt (by omega) (by rw [ln_395]; omega) (by rw [ln_395]; omega) (ms_of h1.2.1.1 h1.2.1.2.1) (h1.2.1.2.1.2.2.2 i hi).2 hq
      refine ⟨bi_ (mt_ y.1 (y.2.2 i) (rl_ y j).1 q (fun _ => [])).isSome, σ1, σ2, ?_, fx89 f1, ?_, fm97 f2⟩
      · rw [x_rule h.1.1 h.1.2.2.1.2.1 h6 hj, bd_s, if_neg (by decide), x_pos h hi hq, bd_s, if_neg (by decide), lx_1_0 h.1.1, x6_register h.1.1 hi, bd_s, lx_1_5 h.1.1, r1, bd_s, bi_ite]
      · rw [m_rule h1.2.1.2.1.2.1 h6 hj, bd_s, if_neg (by decide), m_pos h1 hi hq, bd_s, if_neg (by decide), lm_4 h1.2.1.1, n_96, show nI (96 * i) + 1 + nI q = nI (96 * i + 1 + q) by rw [show nI (96 * i) + 1 = nI (96 * i + 1) from n_add (96 * i) 1, n_add], r2, bd_s, bi_ite]
    · refine ⟨-1, σ, σ, ?_, fx_rf, ?_, fm_rf⟩
      · rw [x_rule h.1.1 h.1.2.2.1.2.1 h6 hj, bd_s, if_neg (by decide), x_nopos h hc, bd_s, if_pos rfl]
      · rw [m_rule h.2.1.2.1.2.1 h6 hj, bd_s, if_neg (by decide), m_nopos h hc, bd_s, if_pos rfl]
  · refine ⟨-1, σ, σ, ?_, fx_rf, ?_, fm_rf⟩
    · rw [x_norule h.1.1 h.1.2.2.1.2.1 h6 hw, bd_s, if_pos rfl]
    · rw [m_norule h.2.1.2.1.2.1 h6 hw, bd_s, if_pos rfl]
theorem rcn_rfi {P : Nat → Bool} : ∀ {d e : Nat}, rcn_ P d e = 0 ↔ rfi_ P d e 0 = none
  | 0, e => by simp [rcn_, rfi_]
  | d + 1, e => by
    unfold rcn_ rfi_
    by_cases h : P e = true
    · rw [if_pos h, if_pos h, if_pos rfl]
      constructor
      · intro q; omega
      · intro q; cases q
    · rw [if_neg h, if_neg h, Nat.zero_add]
      exact rcn_rfi
/-- the register holds a normal form -/
def nfm_ (y : js_Y) (t : List Int32) : Bool := (rfi_ (rx_ y t) t.length 0 0).isNone
theorem nf_lo {y : js_Y} {t : List Int32} (h : t.length ≤ 40) : (0 ≤ lo_ (-1) (rfi_ (rx_ y t) t.length 0 0)) ↔ ¬ nfm_ y t = true := by
  unfold nfm_
  cases e : rfi_ (rx_ y t) t.length 0 0 with
  | none => exact ⟨fun q => absurd q (by decide), fun q => absurd rfl q⟩
  | some p =>
    have := rfi_lt e
    exact ⟨fun _ q => (by cases q), fun _ => nI_pos' (by omega)⟩
theorem nf_cn {y : js_Y} {t : List Int32} (h : t.length ≤ 40) : (nI (rcn_ (rx_ y t) t.length 0) = 0) ↔ nfm_ y t = true := by
  have h1 := rcn_le (rx_ y t) t.length 0
  have h2 : (nI (rcn_ (rx_ y t) t.length 0) = 0) ↔ rcn_ (rx_ y t) t.length 0 = 0 := n_eq (b := 0) (by omega) (by omega)
  rw [h2, rcn_rfi]
  unfold nfm_
  cases rfi_ (rx_ y t) t.length 0 0 <;> simp
theorem m_isNormal {σ : js_S} {y : js_Y} {t : List Int32} {o p : Nat} (g : gy_ y) (gt : gt_ y.1 t) (ho : o ≠ 397 ∧ o ≠ 398) (hb : p + 1 + t.length ≤ ln_ o) (hn : ln_ o < 1000000000) (hx : ms_ σ y) (hv : rw_ σ o p t) : ∃ σ', fX12_isNormalForm 5000 390 o (nI p) σ = some (bi_ (nfm_ y t), σ') ∧ fi_ (fun z => z = 397 ∨ z = 398) σ σ' := by
  obtain ⟨σ', r, f⟩ := m_redexn g gt ho hb hn hx hv
  refine ⟨σ', ?_, f⟩
  unfold fX12_isNormalForm
  rw [r, bd_s]
  by_cases c : nfm_ y t = true
  · rw [if_pos ((nf_cn gt.2).mpr c), c]
    rfl
  · rw [if_neg (fun z => c ((nf_cn gt.2).mp z)), show nfm_ y t = false by simpa using c]
    rfl
theorem x_nfr {y : js_Y} {sn : Option js_Y} {tx : List Int32} : ∀ (d i c k : Nat) (σ : js_S), i + d = 4 → d < k → c ≤ i → iv_ σ y sn tx → ∃ σ', fX11_normalFormRegisterCount_4 5000 k 1 (nI c) (nI i) σ = some (nI (c + rcn_ (fun r => nfm_ y (y.2.2 r)) d i), σ') ∧ fx_ σ σ' := by
  intro d
  induction d with
  | zero =>
    intro i c k σ hi hk hc h
    obtain ⟨k, rfl⟩ : ∃ j, k = j + 1 := ⟨k - 1, by omega⟩
    have e4 : i = 4 := by omega
    subst e4
    exact ⟨σ, rfl, fx_rf⟩
  | succ d ih =>
    intro i c k σ hi hk hc h
    obtain ⟨k, rfl⟩ : ∃ j, k = j + 1 := ⟨k - 1, by omega⟩
    have gy := h.2.2.1
    have gt := gy.2.2.2 i (by omega)
    obtain ⟨σ1, r1, f1⟩ := x7_findRedex gy (by omega) gt (o := 34 + 2 * i) (i := 0) (by omega) (xs_of h.1.1 h.1.2.2.1) (to_reg h.1.1 i (by omega)) (sx_reg h.1.2.2.1 (by omega))
    have h1 := iv_x (fx89 f1) h
    have c4 : ¬ 4 ≤ nI i := fun z => by have := (n_le (a := 4) (by omega) (by omega)).mp z; omega
    rw [sX11_normalFormRegisterCount_4]
    unfold fX11_normalFormRegisterCount_4b fX11_normalFormRegisterCount_35 rcn_
    rw [if_neg c4, lx_1_0 h.1.1, x6_register h.1.1 (by omega), bd_s, lx_1_5 h.1.1, show fX7_findRedex 5000 88 2 (34 + 2 * i) 0 σ = _ from r1, bd_s, show nI i + 1 = nI (i + 1) from n_add i 1, show nI c + 1 = nI (c + 1) from n_add c 1]
    by_cases hn : nfm_ y (y.2.2 i) = true
    · obtain ⟨σ2, r2, f2⟩ := ih (i + 1) (c + 1) k σ1 (by omega) (by omega) (by omega) h1
      refine ⟨σ2, ?_, fx_tr (fx89 f1) f2⟩
      rw [if_neg (fun z => (nf_lo gt.2).mp z hn), if_pos hn, r2, Nat.add_assoc]
    · obtain ⟨σ2, r2, f2⟩ := ih (i + 1) c k σ1 (by omega) (by omega) (by omega) h1
      refine ⟨σ2, ?_, fx_tr (fx89 f1) f2⟩
      rw [if_pos ((nf_lo gt.2).mpr hn), if_neg hn, r2, Nat.zero_add]
theorem m_nfr {y : js_Y} {sn : Option js_Y} {tx : List Int32} : ∀ (d i c k : Nat) (σ : js_S), i + d = 4 → d < k → c ≤ i → iv_ σ y sn tx → ∃ σ', fX12_normalFormRegisterCount_4 5000 k 390 (nI c) (nI i) σ = some (nI (c + rcn_ (fun r => nfm_ y (y.2.2 r)) d i), σ') ∧ fm_ σ σ' := by
  intro d
  induction d with
  | zero =>
    intro i c k σ hi hk hc h
    obtain ⟨k, rfl⟩ : ∃ j, k = j + 1 := ⟨k - 1, by omega⟩
    have e4 : i = 4 := by omega
    subst e4
    exact ⟨σ, rfl, fm_rf⟩
  | succ d ih =>
    intro i c k σ hi hk hc h
    obtain ⟨k, rfl⟩ : ∃ j, k = j + 1 := ⟨k - 1, by omega⟩
    have gy := h.2.2.1
    have gt := gy.2.2.2 i (by omega)
    have g40 := gt.2
    obtain ⟨σ1, r1, f1⟩ := m_isNormal (σ := σ) (o := 395) (p := 96 * i) gy gt (by omega) (by rw [ln_395]; omega) (by rw [ln_395]; omega) (ms_of h.2.1.1 h.2.1.2.1) (h.2.1.2.1.2.2.2 i (by omega))
    have h1 := iv_m (fm97 f1) h
    have c4 : ¬ 4 ≤ nI i := fun z => by have := (n_le (a := 4) (by omega) (by omega)).mp z; omega
    rw [sX12_normalFormRegisterCount_4]
    unfold fX12_normalFormRegisterCount_4b fX12_normalFormRegisterCount_30 rcn_
    rw [if_neg c4, lm_4 h.2.1.1, n_96, r1, bd_s, show nI i + 1 = nI (i + 1) from n_add i 1]
    by_cases hn : nfm_ y (y.2.2 i) = true
    · obtain ⟨σ2, r2, f2⟩ := ih (i + 1) (c + 1) k σ1 (by omega) (by omega) (by omega) h1
      refine ⟨σ2, ?_, fm_tr (fm97 f1) f2⟩
      rw [hn, bi_t, if_neg (by decide), if_pos rfl, show nI c + 1 = nI (c + 1) from n_add c 1, r2, Nat.add_assoc]
    · obtain ⟨σ2, r2, f2⟩ := ih (i + 1) c k σ1 (by omega) (by omega) (by omega) h1
      refine ⟨σ2, ?_, fm_tr (fm97 f1) f2⟩
      rw [show nfm_ y (y.2.2 i) = false by simpa using hn, bi_f, if_pos rfl, if_neg (by decide), show nI c + 0 = nI (c + 0) from n_add c 0, Nat.add_zero, r2, Nat.zero_add]
theorem op_nfrc {σ : js_S} {y : js_Y} {sn : Option js_Y} {tx : List Int32} (h : iv_ σ y sn tx) : ∃ r σ1 σ2, fX11_normalFormRegisterCount 5000 1 σ = some (r, σ1) ∧ fx_ σ σ1 ∧ fX12_normalFormRegisterCount 5000 390 σ1 = some (r, σ2) ∧ fm_ σ1 σ2 := by
  obtain ⟨σ1, r1, f1⟩ := x_nfr 4 0 0 5000 σ (by omega) (by omega) (by omega) h
  obtain ⟨σ2, r2, f2⟩ := m_nfr 4 0 0 5000 σ1 (by omega) (by omega) (by omega) (iv_x f1 h)
  exact ⟨_, σ1, σ2, r1, f1, r2, f2⟩
