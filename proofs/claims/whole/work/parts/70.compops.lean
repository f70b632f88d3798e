/-! sizeRelation, componentCount, componentOf -/
theorem m_in {σ : js_S} {x : Int32} {k : Nat} (hk : k < 2147483648) : fX12_isIn 5000 x 0 (nI k - 1) σ = some (bi_ (decide (∃ j, j < k ∧ x = nI j)), σ) := by
  rw [m_isIn]
  rcases n_cases x with q | ⟨i, hi, rfl⟩
  · rw [if_pos q, decide_eq_false (fun ⟨j, hj, e⟩ => n_negc q ⟨j, by omega, e⟩)]
    rfl
  · have c1 : ¬ nI i < 0 := nI_pos hi
    rw [if_neg c1]
    by_cases c : i < k
    · rw [n_pred (by omega), if_neg (nlt_f (by omega) (by omega)), decide_eq_true ⟨i, c, rfl⟩]
      rfl
    · have c2 : nI k - 1 < nI i := by
        rcases Nat.eq_zero_or_pos k with z | z
        · rw [z]
          exact n_neg (a := i) (by decide) hi
        · rw [n_pred z]
          exact nlt_t (by omega) hi
      rw [if_pos c2, decide_eq_false (fun ⟨j, hj, e⟩ => c (by have := (n_eq hi (by omega)).mp e; omega))]
      rfl
theorem op_sizeRelation {σ : js_S} {y : js_Y} {sn : Option js_Y} {tx : List Int32} (h : iv_ σ y sn tx) (hc : ch_ σ y) (x z w : Int32) : ∃ r σ1 σ2, fX11_sizeRelation 5000 1 x z w σ = some (r, σ1) ∧ fX12_sizeRelation 5000 390 x z w σ1 = some (r, σ2) ∧ iv_ σ2 y sn tx ∧ ch_ σ2 y := by
  have g := h.2.2.1
  have h240 := pp_len g
  refine op_onePair (X := fX11_sizeRelation 5000 1 x z w) (M := fX12_sizeRelation 5000 390 x z w) h hc (fun _ => rfl) (fun _ => rfl) (fun j σ1 hj hx a1 a2 a3 a4 => ?_)
  subst hx
  have f9 : fp2_ y j 9 < 3 := fn_lt _
  have f10 : fp2_ y j 10 < 3 := fn_lt _
  have b9 := g.1 _ f9
  have b10 := g.1 _ f10
  have hs : ∀ σ2, ms_ σ2 y → mr_ σ2 (pp_ y) → fX12_sourceOf 5000 390 (nI j) σ2 = some (nI (fp2_ y j 9), σ2) := fun σ2 m2 p2 => m_sourceOf g m2 p2 hj
  have ht : ∀ σ2, ms_ σ2 y → mr_ σ2 (pp_ y) → fX12_targetOf 5000 390 (nI j) σ2 = some (nI (fp2_ y j 10), σ2) := fun σ2 m2 p2 => m_targetOf g m2 p2 hj
  have hg : fX5_graph 5000 366 (nI j) σ1 = some (gg_ (fp2_ y j), σ1) := x5_graph a1.1.1 a3.1 h240 hj
  have lx := a1.1.1
  have sg := (iv_xs a1).2.1
  have key : ∀ r : Int32, ((∃ i, i < y.1 (fp2_ y j 9) ∧ z = nI i) ∧ (∃ i, i < y.1 (fp2_ y j 10) ∧ w = nI i) → ∃ a b, a < y.1 (fp2_ y j 9) ∧ b < y.1 (fp2_ y j 10) ∧ z = nI a ∧ w = nI b ∧ r = nI (fp2_ y j (3 * a + b))) → (¬ ((∃ i, i < y.1 (fp2_ y j 9) ∧ z = nI i) ∧ (∃ i, i < y.1 (fp2_ y j 10) ∧ w = nI i)) → r = -1) → ∀ σ2, ms_ σ2 y → mr_ σ2 (pp_ y) → (bd_ (fX12_sourceOf 5000 390 (nI j) σ2) fun r4 σ4 => (if ib_ r4 (ln_ (σ2.2.2 390 0)) = true then (bd_ (fX12_isIn 5000 z 0 ((σ4.1 (σ2.2.2 390 0) (Int32.toNatClampNeg r4)) - 1) σ4) fun r6 σ6 => (if r6 = 0 then (some ((-1), σ6)) else (bd_ (fX12_targetOf 5000 390 (nI j) σ6) fun r9 σ9 => (if ib_ r9 (ln_ (σ6.2.2 390 0)) = true then (bd_ (fX12_isIn 5000 w 0 ((σ9.1 (σ6.2.2 390 0) (Int32.toNatClampNeg r9)) - 1) σ9) fun r11 σ11 => (if r11 = 0 then (some ((-1), σ11)) else (bd_ (fX12_relation 5000 390 (nI j) z w σ11) fun r13 σ13 => (some (r13, σ13))))) else none)))) else none)) = some (r, σ2) := by
    intro r k1 k2 σ2 m2 p2
    rw [hs σ2 m2 p2, bd_s, lm_0 m2.1, ln_391, if_pos (ib_t f9 (by omega)), n_cl (by omega), m2.2.1 _ f9, m_in (by omega), bd_s]
    by_cases c1 : ∃ i, i < y.1 (fp2_ y j 9) ∧ z = nI i
    · rw [decide_eq_true c1, bi_t, if_neg (by decide), ht σ2 m2 p2, bd_s, lm_0 m2.1, ln_391, if_pos (ib_t f10 (by omega)), n_cl (by omega), m2.2.1 _ f10, m_in (by omega), bd_s]
      by_cases c2 : ∃ i, i < y.1 (fp2_ y j 10) ∧ w = nI i
      · obtain ⟨a, b, q1, q2, q3, q4, q5⟩ := k1 ⟨c1, c2⟩
        rw [decide_eq_true c2, bi_t, if_neg (by decide), q3, q4, q5, m_relation g m2 p2 hj q1 q2, bd_s]
      · rw [decide_eq_false c2, bi_f, if_pos rfl, k2 (fun q => c2 q.2)]
    · rw [decide_eq_false c1, bi_f, if_pos rfl, k2 (fun q => c1 q.1)]
  rcases n_cases z with qz | ⟨a, ha, rfl⟩
  · refine ⟨-1, σ1, ?_, a1, a2, fun σ2 m2 p2 => ⟨σ2, key _ (fun q => ?_) (fun _ => rfl) σ2 m2 p2, fm_rf⟩⟩
    · rw [x_pairs2 lx a4, bd_s, hg, bd_s, if_pos qz]
    · obtain ⟨⟨i, hi, e⟩, -⟩ := q
      exact absurd ⟨i, by omega, e⟩ (n_negc qz)
  · by_cases c1 : a < y.1 (fp2_ y j 9)
    · rcases n_cases w with qw | ⟨b, hb, rfl⟩
      · refine ⟨-1, σ1, ?_, a1, a2, fun σ2 m2 p2 => ⟨σ2, key _ (fun q => ?_) (fun _ => rfl) σ2 m2 p2, fm_rf⟩⟩
        · rw [x_pairs2 lx a4, bd_s, hg, bd_s, if_neg (nI_pos ha), x_sourceOf fp2_lt, bd_s, lx_1_0 lx, lx_2_0 lx, x8_ofFunction (lx_3_0 lx) ln_4 sg f9, bd_s, if_pos (nlt_t c1 (by omega)), if_pos qw]
        · obtain ⟨-, ⟨i, hi, e⟩⟩ := q
          exact absurd ⟨i, by omega, e⟩ (n_negc qw)
      · by_cases c2 : b < y.1 (fp2_ y j 10)
        · refine ⟨nI (fp2_ y j (3 * a + b)), σ1, ?_, a1, a2, fun σ2 m2 p2 => ⟨σ2, key _ (fun _ => ⟨a, b, c1, c2, rfl, rfl, rfl⟩) (fun q => absurd ⟨⟨a, c1, rfl⟩, ⟨b, c2, rfl⟩⟩ q) σ2 m2 p2, fm_rf⟩⟩
          rw [x_pairs2 lx a4, bd_s, hg, bd_s, if_neg (nI_pos ha), x_sourceOf fp2_lt, bd_s, lx_1_0 lx, lx_2_0 lx, x8_ofFunction (lx_3_0 lx) ln_4 sg f9, bd_s, if_pos (nlt_t c1 (by omega)), if_neg (nI_pos hb), x_targetOf fp2_lt, bd_s, lx_1_0 lx, lx_2_0 lx, x8_ofFunction (lx_3_0 lx) ln_4 sg f10, bd_s, if_pos (nlt_t c2 (by omega)), x_relationIn fp2_lt (by omega) (by omega), bd_s]
        · refine ⟨-1, σ1, ?_, a1, a2, fun σ2 m2 p2 => ⟨σ2, key _ (fun q => ?_) (fun _ => rfl) σ2 m2 p2, fm_rf⟩⟩
          · rw [x_pairs2 lx a4, bd_s, hg, bd_s, if_neg (nI_pos ha), x_sourceOf fp2_lt, bd_s, lx_1_0 lx, lx_2_0 lx, x8_ofFunction (lx_3_0 lx) ln_4 sg f9, bd_s, if_pos (nlt_t c1 (by omega)), if_neg (nI_pos hb), x_targetOf fp2_lt, bd_s, lx_1_0 lx, lx_2_0 lx, x8_ofFunction (lx_3_0 lx) ln_4 sg f10, bd_s, if_neg (nlt_f (by omega) hb)]
          · obtain ⟨-, ⟨i, hi, e⟩⟩ := q
            exact absurd ((n_eq hb (by omega)).mp e) (by omega)
    · refine ⟨-1, σ1, ?_, a1, a2, fun σ2 m2 p2 => ⟨σ2, key _ (fun q => ?_) (fun _ => rfl) σ2 m2 p2, fm_rf⟩⟩
      · rw [x_pairs2 lx a4, bd_s, hg, bd_s, if_neg (nI_pos ha), x_sourceOf fp2_lt, bd_s, lx_1_0 lx, lx_2_0 lx, x8_ofFunction (lx_3_0 lx) ln_4 sg f9, bd_s, if_neg (nlt_f (by omega) ha)]
      · obtain ⟨⟨i, hi, e⟩, -⟩ := q
        exact absurd ((n_eq ha (by omega)).mp e) (by omega)
/-! the class's components -/
theorem x_comps2 {σ : js_S} (hl : lx_ σ.2.2) (h : σ.1 1 11 ≠ 0) : fX11_currentComponents 5000 1 σ = some (372, σ) := by
  unfold fX11_currentComponents
  rw [if_neg h, lx_1_10 hl]
theorem x_comps {σ : js_S} {y : js_Y} {sn : Option js_Y} {tx : List Int32} (h : iv_ σ y sn tx) (hc : ch_ σ y) : ∃ σ1, fX11_currentComponents 5000 1 σ = some (372, σ1) ∧ iv_ σ1 y sn tx ∧ ch_ σ1 y ∧ P2_ σ1 y ∧ σ1.1 1 11 ≠ 0 := by
  have h240 := pp_len h.2.2.1
  by_cases h11 : σ.1 1 11 = 0
  · obtain ⟨σ1, r1, a1, a2, a3, a4, a5⟩ := x_pairs h hc
    have lx := a1.1.1
    have co := co2_372 lx
    obtain ⟨σ2, r2, f2, e2⟩ := x4_copyFrom (σ := σ1) (p := 373) (o := 374) (q := 370) (u := 371) ⟨lx_373_0 lx, ln_374⟩ ⟨lx_370_0 lx, ln_371⟩
    obtain ⟨σ3, r3, f3, q3, q4, q5⟩ := x1_rebuild (σ := σ2) (o := 372) (n := (pp_ y).length) (E := fun i j => (decide (i < (pp_ y).length) && (decide (j < (pp_ y).length) && ee_ y i j)) && (fun _ => true) i) h240 (fun i j z => rk_e (L := fun _ => true) z) (co2_r f2.2.1 co) (by rw [f2.1]; exact a3.1.1) (fun f t ht hf => by rw [show eb_ σ2 (372 + 2) f t = _ from e2 f t ht hf, a3.2 f t hf (by omega), Bool.and_true])
    have fw : fw2_ (fun a b => (372 ≤ a ∧ a ≤ 377) ∨ (a = 1 ∧ b = 11)) (fun a => 372 ≤ a ∧ a ≤ 377) σ1 (uI_ σ3 1 11 1) := by
      refine fw2_tr (σ1 := σ3) ?_ (fw2_u (Or.inr ⟨rfl, rfl⟩))
      exact fw2_tr (σ1 := σ2) (fw2_fl (by omega) f2) ⟨f3.1, fun a b q => by rw [f3.2.1 a (by omega) (by omega)], fun a q => f3.2.2 a (by omega)⟩
    have hrow : ∀ a, a ≠ 1 → ¬ (372 ≤ a ∧ a ≤ 377) → (uI_ σ3 1 11 1).1 a = σ1.1 a := fun a q1 q2 => fw2_row fw (fun b z => by omega)
    have hP : P2_ (uI_ σ3 1 11 1) y := P2_eq (σ := σ3) (fun a q1 q2 => uI_row (by omega)) rfl rfl ⟨q3, q5⟩
    refine ⟨uI_ σ3 1 11 1, ?_, iv_c fw (fun a b z => by omega) a1, ⟨fun q => ?_, fun _ => hP, fun q => ?_, fun q => ?_⟩, hP, by rw [uI_same]; decide⟩
    · unfold fX11_currentComponents
      have e1 : fX1_reset 5000 372 366 σ1 = some ((), σ2) := by
        unfold fX1_reset
        rw [lx_372_0 lx, lx_366_3 lx, r2, bd_s]
      rw [if_pos h11, r1, bd_s, lx_1_10 lx, e1, bd_s, show σ2.2.2 1 10 = 372 by rw [f2.2.1]; exact lx_1_10 lx, r3, bd_s, lt_s_, show (uI_ σ3 1 11 1).2.2 1 10 = 372 by rw [fw.1]; exact lx_1_10 lx]
    · exact P1_eq (fun a q1 q2 => hrow a (by omega) (by omega)) (fw.2.2 371 (by omega)) rfl rfl a3
    · exact P3_eq (hrow 378 (by omega) (by omega)) rfl rfl (a2.2.2.1 (by rw [← fw.2.1 1 13 (by omega)]; exact q))
    · exact P4_eq (fun a q1 => hrow a (by omega) (by omega)) rfl rfl (a2.2.2.2 (by rw [← fw.2.1 1 15 (by omega)]; exact q))
  · exact ⟨σ, x_comps2 h.1.1 h11, h, hc, hc.2.1 h11, h11⟩
theorem fm_C {σ σ' : js_S} (h : fw2_ sC_ (fun a => a = 406) σ σ') : fm_ σ σ' := fm_fw h (fun a b z => by unfold sC_ at z; unfold sM_; omega) (fun a z => by omega)
theorem m_comps {σ : js_S} {y : js_Y} (g : gy_ y) (hm : ms_ σ y) : ∃ σ1 σ2, fX12_findGraph 5000 390 σ = some ((), σ1) ∧ fX12_findComponents 5000 390 σ1 = some ((), σ2) ∧ fm_ σ σ2 ∧ mg_ σ2 y (fun _ => true) ∧ σ2.1 390 24 = nI (ct2_ (rk_ y (fun _ => true)) (pp_ y).length) ∧ ∀ j, j < (pp_ y).length → σ2.1 408 j = nm_ (rk_ y (fun _ => true)) j := by
  obtain ⟨σ1, r1, f1, -, g1⟩ := m_findGraph g hm
  obtain ⟨σ2, r2, f2, g2, q2, e2⟩ := m_findComponents g g1
  exact ⟨σ1, σ2, r1, r2, fm_tr f1 (fm_C f2), g2, q2, e2⟩
theorem op_componentCount {σ : js_S} {y : js_Y} {sn : Option js_Y} {tx : List Int32} (h : iv_ σ y sn tx) (hc : ch_ σ y) : ∃ r σ1 σ2, fX11_componentCount 5000 1 σ = some (r, σ1) ∧ fX12_componentCount 5000 390 σ1 = some (r, σ2) ∧ iv_ σ2 y sn tx ∧ ch_ σ2 y := by
  obtain ⟨σ1, r1, a1, a2, a3, a4⟩ := x_comps h hc
  obtain ⟨σ2, σ3, r2, r3, f3, g3, q3, e3⟩ := m_comps a1.2.2.1 (iv_ms a1)
  refine ⟨nI (ct2_ (rk_ y (fun _ => true)) (pp_ y).length), σ1, σ3, ?_, ?_, fin2_ a1 a2 f3⟩
  · unfold fX11_componentCount
    rw [r1, bd_s, a3.1]
  · unfold fX12_componentCount
    rw [r2, bd_s, r3, bd_s, q3]
theorem op_componentOf {σ : js_S} {y : js_Y} {sn : Option js_Y} {tx : List Int32} (h : iv_ σ y sn tx) (hc : ch_ σ y) (x : Int32) : ∃ r σ1 σ2, fX11_componentOf 5000 1 x σ = some (r, σ1) ∧ fX12_componentOf 5000 390 x σ1 = some (r, σ2) ∧ iv_ σ2 y sn tx ∧ ch_ σ2 y := by
  have g := h.2.2.1
  have h240 := pp_len g
  refine op_onePair (X := fX11_componentOf 5000 1 x) (M := fX12_componentOf 5000 390 x) h hc (fun _ => rfl) (fun _ => rfl) (fun j σ1 hj hx a1 a2 a3 a4 => ?_)
  subst hx
  obtain ⟨σ2, r2, b1, b2, b3, b4⟩ := x_comps a1 a2
  refine ⟨nm_ (rk_ y (fun _ => true)) j, σ2, ?_, b1, b2, fun σ3 m3 p3 => ?_⟩
  · rw [r2, bd_s, x1_number (co2_372 b1.1.1) (show j < 240 by omega), bd_s, show σ2.1 (372 + 5) j = _ from b3.2 j hj]
    unfold nc2_ nm_
    by_cases c : rk_ y (fun _ => true) j j = true
    · have := nu_lt rk_qv c
      have := ct2_le (R := rk_ y (fun _ => true)) (i := (pp_ y).length)
      rw [if_pos c, if_pos c, if_neg (nI_pos (by omega))]
    · rw [if_neg c, if_neg c, if_pos (by decide)]
  · obtain ⟨σ4, σ5, r4, r5, f5, g5, q5, e5⟩ := m_comps g m3
    refine ⟨σ5, ?_, f5⟩
    rw [r4, bd_s, r5, bd_s, lm_22 g5.1.1, ln_408, if_pos (ib_t (by omega) (by omega)), n_cl (by omega), e5 j hj]
