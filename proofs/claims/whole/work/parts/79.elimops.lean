/-! the four calls of the elimination -/
theorem m_el8 {y : js_Y} (g : gy_ y) : ∀ (M d r m : Nat) (σ : js_S) (L : Nat → Bool), bu_ L (pp_ y).length 0 ≤ M → M ≤ d → M + 1 < m → mg_ σ y L → ∃ σ', fX12_eliminate_8 5000 m 390 (nI r) 1 σ = some (nI (el_ (fp2_ y) y.1 (pp_ y).length (rk_ y) d r L).1, σ') ∧ fm_ σ σ' ∧ σ'.1 390 23 = nI (pp_ y).length ∧ σ'.1 390 24 = nI (ct2_ (rk_ y (el_ (fp2_ y) y.1 (pp_ y).length (rk_ y) d r L).2) (pp_ y).length) ∧ ∀ j, j < (pp_ y).length → σ'.1 408 j = nm_ (rk_ y (el_ (fp2_ y) y.1 (pp_ y).length (rk_ y) d r L).2) j := by
  have h240 := pp_len g
  intro M
  induction M with
  | zero =>
    intro d r m σ L hM hd hm h
    obtain ⟨m, rfl⟩ : ∃ j, m = j + 1 := ⟨m - 1, by omega⟩
    obtain ⟨m, rfl⟩ : ∃ j, m = j + 1 := ⟨m - 1, by omega⟩
    have cm : mo_ (fp2_ y) y.1 (pp_ y).length (rk_ y L) (ct2_ (rk_ y L) (pp_ y).length) = false := by
      cases c : mo_ (fp2_ y) y.1 (pp_ y).length (rk_ y L) (ct2_ (rk_ y L) (pp_ y).length) with
      | false => rfl
      | true => have := el_dec c; omega
    have hel : el_ (fp2_ y) y.1 (pp_ y).length (rk_ y) d r L = (r, L) := by
      cases d with
      | zero => rfl
      | succ d => rw [el_s, if_neg (by rw [cm]; exact Bool.false_ne_true)]
    obtain ⟨σ1, r1, f1, g1, q1, e1⟩ := m_findComponents g h
    obtain ⟨σ2, r2, f2, e2⟩ := m_el20 (x1 := nI r) (x2 := 0) (rc8 := fX12_eliminate_8 5000 (m + 1)) h240 (pp_ y).length 0 5000 σ1 (by omega) (by omega) g1.1.1 g1.2.2.1 (fun j hj => by omega)
    have m1 : me2_ σ1 y (rk_ y L) := ⟨g1.1, g1.2.1, g1.2.2.1, e1⟩
    obtain ⟨σ3, r3, f3, e3⟩ := m_el43 (r := r) (R := rk_ y L) (rc8 := fX12_eliminate_8 5000 (m + 1)) g rk_qv (ct2_ (rk_ y L) (pp_ y).length) 0 5000 σ2 (by omega) (by have := ct2_le (R := rk_ y L) (i := (pp_ y).length); omega) (me2_fi f2 (fun a z => by omega) m1) (by rw [f2.2 390 (by omega)]; exact q1) (fun j hj => by rw [e2 j hj]; unfold rb2_; rw [decide_eq_false (Nat.not_lt_zero _), Bool.false_and]; rfl)
    have f23 := fi_tr (S3 := fun a => 414 ≤ a ∧ a ≤ 416) f2 f3 (fun a q => by omega) (fun a q => q)
    obtain ⟨σ4, r4, f4, e4⟩ := m_el149 (r := r) (b := mo_ (fp2_ y) y.1 (pp_ y).length (rk_ y L) (ct2_ (rk_ y L) (pp_ y).length)) (rc8 := fX12_eliminate_8 5000 (m + 1)) h240 (pp_ y).length 0 5000 σ3 L (by omega) (by omega) (by rw [fi_r f23]; exact g1.1.1) (by rw [f23.2 390 (by omega)]; exact g1.2.2.1) e3 (fun j hj => by rw [f23.2 407 (by omega)]; exact g1.2.2.2.1 j hj)
    have f24 := fi_tr (S3 := fun a => a = 407 ∨ (414 ≤ a ∧ a ≤ 416)) f23 f4 (fun a q => by omega) (fun a q => by omega)
    have fmA : fm_ σ σ4 := fm_tr (fm_C f1) (fm_fi f24 (fun a b q z => q (by unfold sM_; omega)))
    refine ⟨σ4, ?_, fmA, by rw [f24.2 390 (by omega)]; exact g1.2.2.1, by rw [hel, f24.2 390 (by omega)]; exact q1, fun j hj => by rw [hel, f24.2 408 (by omega)]; exact e1 j hj⟩
    show fX12_eliminate_8b 5000 (fX12_eliminate_8 5000 (m + 1)) 390 (nI r) 1 σ = _
    unfold fX12_eliminate_8b
    rw [if_neg (by decide), r1, bd_s, show fX12_eliminate_20 5000 (fX12_eliminate_8 5000 (m + 1)) 5000 390 (nI r) 0 0 σ1 = _ from r2, show fX12_eliminate_43 5000 (fX12_eliminate_8 5000 (m + 1)) 5000 390 (nI r) 0 0 σ2 = _ from r3, show fX12_eliminate_149 5000 (fX12_eliminate_8 5000 (m + 1)) 5000 390 (nI r) _ 0 σ3 = _ from r4, cm, if_neg Bool.false_ne_true, hel]
    show fX12_eliminate_8b 5000 (fX12_eliminate_8 5000 m) 390 (nI (r + 0)) 0 σ4 = _
    unfold fX12_eliminate_8b
    rw [if_pos rfl]
    rfl
  | succ M ih =>
    intro d r m σ L hM hd hm h
    obtain ⟨m, rfl⟩ : ∃ j, m = j + 1 := ⟨m - 1, by omega⟩
    obtain ⟨d, rfl⟩ : ∃ j, d = j + 1 := ⟨d - 1, by omega⟩
    obtain ⟨σ1, r1, f1, g1, q1, e1⟩ := m_findComponents g h
    obtain ⟨σ2, r2, f2, e2⟩ := m_el20 (x1 := nI r) (x2 := 0) (rc8 := fX12_eliminate_8 5000 m) h240 (pp_ y).length 0 5000 σ1 (by omega) (by omega) g1.1.1 g1.2.2.1 (fun j hj => by omega)
    have m1 : me2_ σ1 y (rk_ y L) := ⟨g1.1, g1.2.1, g1.2.2.1, e1⟩
    obtain ⟨σ3, r3, f3, e3⟩ := m_el43 (r := r) (R := rk_ y L) (rc8 := fX12_eliminate_8 5000 m) g rk_qv (ct2_ (rk_ y L) (pp_ y).length) 0 5000 σ2 (by omega) (by have := ct2_le (R := rk_ y L) (i := (pp_ y).length); omega) (me2_fi f2 (fun a z => by omega) m1) (by rw [f2.2 390 (by omega)]; exact q1) (fun j hj => by rw [e2 j hj]; unfold rb2_; rw [decide_eq_false (Nat.not_lt_zero _), Bool.false_and]; rfl)
    have f23 := fi_tr (S3 := fun a => 414 ≤ a ∧ a ≤ 416) f2 f3 (fun a q => by omega) (fun a q => q)
    obtain ⟨σ4, r4, f4, e4⟩ := m_el149 (r := r) (b := mo_ (fp2_ y) y.1 (pp_ y).length (rk_ y L) (ct2_ (rk_ y L) (pp_ y).length)) (rc8 := fX12_eliminate_8 5000 m) h240 (pp_ y).length 0 5000 σ3 L (by omega) (by omega) (by rw [fi_r f23]; exact g1.1.1) (by rw [f23.2 390 (by omega)]; exact g1.2.2.1) e3 (fun j hj => by rw [f23.2 407 (by omega)]; exact g1.2.2.2.1 j hj)
    have f24 := fi_tr (S3 := fun a => a = 407 ∨ (414 ≤ a ∧ a ≤ 416)) f23 f4 (fun a q => by omega) (fun a q => by omega)
    have fmA : fm_ σ σ4 := fm_tr (fm_C f1) (fm_fi f24 (fun a b q z => q (by unfold sM_; omega)))
    have hrun : fX12_eliminate_8 5000 (m + 1) 390 (nI r) 1 σ = fX12_eliminate_8 5000 m 390 (nI (r + if mo_ (fp2_ y) y.1 (pp_ y).length (rk_ y L) (ct2_ (rk_ y L) (pp_ y).length) = true then 1 else 0)) (bi_ (mo_ (fp2_ y) y.1 (pp_ y).length (rk_ y L) (ct2_ (rk_ y L) (pp_ y).length))) σ4 := by
      show fX12_eliminate_8b 5000 (fX12_eliminate_8 5000 m) 390 (nI r) 1 σ = _
      unfold fX12_eliminate_8b
      rw [if_neg (by decide), r1, bd_s, show fX12_eliminate_20 5000 (fX12_eliminate_8 5000 m) 5000 390 (nI r) 0 0 σ1 = _ from r2, show fX12_eliminate_43 5000 (fX12_eliminate_8 5000 m) 5000 390 (nI r) 0 0 σ2 = _ from r3, show fX12_eliminate_149 5000 (fX12_eliminate_8 5000 m) 5000 390 (nI r) _ 0 σ3 = _ from r4]
    rw [hrun, el_s]
    cases cm : mo_ (fp2_ y) y.1 (pp_ y).length (rk_ y L) (ct2_ (rk_ y L) (pp_ y).length) with
    | false =>
      rw [if_neg Bool.false_ne_true, if_neg Bool.false_ne_true]
      obtain ⟨m, rfl⟩ : ∃ j, m = j + 1 := ⟨m - 1, by omega⟩
      refine ⟨σ4, ?_, fmA, by rw [f24.2 390 (by omega)]; exact g1.2.2.1, by rw [f24.2 390 (by omega)]; exact q1, fun j hj => by rw [f24.2 408 (by omega)]; exact e1 j hj⟩
      show fX12_eliminate_8b 5000 (fX12_eliminate_8 5000 m) 390 (nI (r + 0)) 0 σ4 = _
      unfold fX12_eliminate_8b
      rw [if_pos rfl]
      rfl
    | true =>
      rw [if_pos rfl, if_pos rfl]
      have hlt := el_dec cm
      have g4 : mg_ σ4 y (fun i => L i && !rm2_ (fp2_ y) y.1 (pp_ y).length (rk_ y L) i) := by
        refine ⟨ms_fm fmA h.1, mr_eq (f24.2 403 (by omega)) (f24.2 404 (by omega)) g1.2.1, by rw [f24.2 390 (by omega)]; exact g1.2.2.1, fun j hj => ?_, fun f t hf ht => ?_⟩
        · rw [e4 j hj, decide_eq_true (Nat.zero_le j), Bool.true_and]
        · unfold eb_
          rw [f24.1]
          exact g1.2.2.2.2 f t hf ht
      obtain ⟨σ5, r5, f5, w1, w2, w3⟩ := ih d (r + 1) m σ4 (fun i => L i && !rm2_ (fp2_ y) y.1 (pp_ y).length (rk_ y L) i) (by omega) (by omega) (by omega) g4
      exact ⟨σ5, r5, fm_tr fmA f5, w1, w2, w3⟩
theorem m_eliminate {σ : js_S} {y : js_Y} (g : gy_ y) (hm : ms_ σ y) : ∃ σ', fX12_eliminate 5000 390 σ = some (nI (es_ y).1, σ') ∧ fm_ σ σ' ∧ σ'.1 390 23 = nI (pp_ y).length ∧ σ'.1 390 24 = nI (ct2_ (rk_ y (es_ y).2) (pp_ y).length) ∧ ∀ j, j < (pp_ y).length → σ'.1 408 j = nm_ (rk_ y (es_ y).2) j := by
  have h240 := pp_len g
  obtain ⟨σ1, r1, f1, -, g1⟩ := m_findGraph g hm
  have hb := bu_le (p := fun _ => true) (d := (pp_ y).length) (j := 0)
  obtain ⟨σ2, r2, f2, w1, w2, w3⟩ := m_el8 g 240 240 0 5000 σ1 (fun _ => true) (by omega) (by omega) (by omega) g1
  refine ⟨σ2, ?_, fm_tr f1 f2, w1, w2, w3⟩
  unfold fX12_eliminate
  rw [r1, bd_s]
  exact r2
theorem op_eliminationRounds {σ : js_S} {y : js_Y} {sn : Option js_Y} {tx : List Int32} (h : iv_ σ y sn tx) (hc : ch_ σ y) : ∃ r σ1 σ2, fX11_eliminationRounds 5000 1 σ = some (r, σ1) ∧ fX12_eliminationRounds 5000 390 σ1 = some (r, σ2) ∧ iv_ σ2 y sn tx ∧ ch_ σ2 y := by
  obtain ⟨σ1, r1, a1, a2, a3⟩ := x_elim h hc
  obtain ⟨σ2, r2, f2, w1, w2, w3⟩ := m_eliminate a1.2.2.1 (iv_ms a1)
  refine ⟨nI (es_ y).1, σ1, σ2, ?_, ?_, fin2_ a1 a2 f2⟩
  · unfold fX11_eliminationRounds
    rw [r1, bd_s, a3.1]
  · unfold fX12_eliminationRounds
    rw [r2, bd_s]
theorem op_remainingComponentCount {σ : js_S} {y : js_Y} {sn : Option js_Y} {tx : List Int32} (h : iv_ σ y sn tx) (hc : ch_ σ y) : ∃ r σ1 σ2, fX11_remainingComponentCount 5000 1 σ = some (r, σ1) ∧ fX12_remainingComponentCount 5000 390 σ1 = some (r, σ2) ∧ iv_ σ2 y sn tx ∧ ch_ σ2 y := by
  obtain ⟨σ1, r1, a1, a2, a3⟩ := x_elim h hc
  obtain ⟨σ2, r2, f2, w1, w2, w3⟩ := m_eliminate a1.2.2.1 (iv_ms a1)
  refine ⟨nI (ct2_ (rk_ y (es_ y).2) (pp_ y).length), σ1, σ2, ?_, ?_, fin2_ a1 a2 f2⟩
  · unfold fX11_remainingComponentCount
    rw [r1, bd_s, lx_381_0 a1.1.1, a3.2.1]
  · unfold fX12_remainingComponentCount
    rw [r2, bd_s, w2]
theorem op_terminatesBySubtermCriterion {σ : js_S} {y : js_Y} {sn : Option js_Y} {tx : List Int32} (h : iv_ σ y sn tx) (hc : ch_ σ y) : ∃ r σ1 σ2, fX11_terminatesBySubtermCriterion 5000 1 σ = some (r, σ1) ∧ fX12_terminatesBySubtermCriterion 5000 390 σ1 = some (r, σ2) ∧ iv_ σ2 y sn tx ∧ ch_ σ2 y := by
  obtain ⟨σ1, r1, a1, a2, a3⟩ := x_elim h hc
  obtain ⟨σ2, r2, f2, w1, w2, w3⟩ := m_eliminate a1.2.2.1 (iv_ms a1)
  refine ⟨if nI (ct2_ (rk_ y (es_ y).2) (pp_ y).length) = 0 then 1 else 0, σ1, σ2, ?_, ?_, fin2_ a1 a2 f2⟩
  · unfold fX11_terminatesBySubtermCriterion
    rw [r1, bd_s, lx_381_0 a1.1.1, a3.2.1]
    split <;> rfl
  · unfold fX12_terminatesBySubtermCriterion fX12_remainingComponentCount
    rw [r2, bd_s, bd_s, w2]
    split <;> rfl
theorem m_rpc {σ : js_S} {n : Nat} {R : Nat → Nat → Bool} (hn : n ≤ 240) (hq : qv_ R n) (hl : lm_ σ.2.2) (h23 : σ.1 390 23 = nI n) (h8 : ∀ j, j < n → σ.1 408 j = nm_ R j) :
    ∀ (d i m : Nat), i + d = n → d < m → fX12_remainingPairCount_9 5000 m 390 (nI (mb_ R i)) (nI i) σ = some (nI (mb_ R n), σ) := by
  intro d
  induction d with
  | zero =>
    intro i m hi hm
    obtain ⟨m, rfl⟩ : ∃ j, m = j + 1 := ⟨m - 1, by omega⟩
    rw [sX12_remainingPairCount_9]
    unfold fX12_remainingPairCount_9b
    rw [h23, if_pos (nle_t (by omega) (by omega)), show i = n by omega]
  | succ d ih =>
    intro i m hi hm
    obtain ⟨m, rfl⟩ : ∃ j, m = j + 1 := ⟨m - 1, by omega⟩
    have ih1 := ih (i + 1) m (by omega) (by omega)
    rw [mb_s] at ih1
    rw [sX12_remainingPairCount_9]
    unfold fX12_remainingPairCount_9b fX12_remainingPairCount_32
    rw [h23, if_neg (nle_f (by omega) (by omega)), lm_22 hl, ln_408, if_pos (ib_t (by omega) (by omega)), n_cl (by omega), h8 i (by omega), n_s]
    unfold nm_
    by_cases c : R i i = true
    · have h1 := nu_lt hq c
      have h2 := ct2_le (R := R) (i := n)
      rw [if_pos c] at ih1
      rw [if_pos c, if_neg (nI_pos (by omega)), n_s]
      exact ih1
    · rw [if_neg c] at ih1
      rw [if_neg c, if_pos (by decide), show nI (mb_ R i) + 0 = nI (mb_ R i + 0) from n_add _ 0]
      exact ih1
theorem op_remainingPairCount {σ : js_S} {y : js_Y} {sn : Option js_Y} {tx : List Int32} (h : iv_ σ y sn tx) (hc : ch_ σ y) : ∃ r σ1 σ2, fX11_remainingPairCount 5000 1 σ = some (r, σ1) ∧ fX12_remainingPairCount 5000 390 σ1 = some (r, σ2) ∧ iv_ σ2 y sn tx ∧ ch_ σ2 y := by
  have h240 := pp_len h.2.2.1
  obtain ⟨σ1, r1, a1, a2, a3⟩ := x_elim h hc
  obtain ⟨σ2, r2, f2, w1, w2, w3⟩ := m_eliminate a1.2.2.1 (iv_ms a1)
  refine ⟨nI (mb_ (rk_ y (es_ y).2) (pp_ y).length), σ1, σ2, ?_, ?_, fin2_ a1 a2 f2⟩
  · unfold fX11_remainingPairCount
    rw [r1, bd_s, lx_381_0 a1.1.1, a3.2.2]
  · unfold fX12_remainingPairCount
    rw [r2, bd_s, show fX12_remainingPairCount_9 5000 5000 390 0 0 σ2 = _ from m_rpc h240 rk_qv (ms_fm f2 (iv_ms a1)).1 w1 w3 (pp_ y).length 0 5000 (by omega) (by omega)]
