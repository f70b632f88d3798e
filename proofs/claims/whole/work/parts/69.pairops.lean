/-! the class's caches: pairs -/
theorem iv_c {S : Nat → Nat → Prop} {J : Nat → Prop} {σ σ' : js_S} {y : js_Y} {sn : Option js_Y} {tx : List Int32} (h : fw2_ S J σ σ') (hs : ∀ a b, S a b → (366 ≤ a ∧ a < 390) ∨ (a = 1 ∧ b ≠ 2)) (g : iv_ σ y sn tx) : iv_ σ' y sn tx := by
  obtain ⟨⟨q1, q2, q3, q4, q5, q6, q7⟩, hM, gg⟩ := g
  have hr : ∀ a, 2 ≤ a → a < 366 ∨ 390 ≤ a → σ'.1 a = σ.1 a := fun a h1 h2 => fw2_row h (fun b z => by have := hs a b z; omega)
  refine ⟨⟨by rw [h.1]; exact q1, by rw [h.1]; exact q2, sx_eq gg.1.2.1 (fun a _ _ => hr a (by omega) (by omega)) q3, ?_, fun z hz => sx_eq (gg.2.1 z hz).2.1 (fun a _ _ => hr a (by omega) (by omega)) (q5 z hz), by rw [hr 82 (by omega) (by omega)]; exact q6, vw_eq (hr 83 (by omega) (by omega)) q7⟩, im_x (fun a ha => hr a (by omega) (by omega)) (fun o _ => by rw [h.1]) hM, gg⟩
  rw [h.2.1 1 2 (fun z => by have := hs 1 2 z; omega)]
  exact q4
theorem fin2_ {σ1 σ2 : js_S} {y : js_Y} {sn : Option js_Y} {tx : List Int32} (h : iv_ σ1 y sn tx) (hc : ch_ σ1 y) (f : fm_ σ1 σ2) : iv_ σ2 y sn tx ∧ ch_ σ2 y := ⟨iv_m f h, ch_ce2 (ce2_fm f) rfl rfl hc⟩
theorem iv_xs {σ : js_S} {y : js_Y} {sn : Option js_Y} {tx : List Int32} (h : iv_ σ y sn tx) : xs_ σ y := xs_of h.1.1 h.1.2.2.1
theorem iv_ms {σ : js_S} {y : js_Y} {sn : Option js_Y} {tx : List Int32} (h : iv_ σ y sn tx) : ms_ σ y := ms_of h.2.1.1 h.2.1.2.1
theorem x_pairs2 {σ : js_S} (hl : lx_ σ.2.2) (h9 : σ.1 1 9 ≠ 0) : fX11_currentPairs 5000 1 σ = some (366, σ) := by
  unfold fX11_currentPairs
  rw [if_neg h9, lx_1_8 hl]
theorem x_pairs {σ : js_S} {y : js_Y} {sn : Option js_Y} {tx : List Int32} (h : iv_ σ y sn tx) (hc : ch_ σ y) : ∃ σ1, fX11_currentPairs 5000 1 σ = some (366, σ1) ∧ iv_ σ1 y sn tx ∧ ch_ σ1 y ∧ P1_ σ1 y ∧ σ1.1 1 9 ≠ 0 ∧ (∀ b, b ≠ 9 → σ1.1 1 b = σ.1 1 b) := by
  by_cases h9 : σ.1 1 9 = 0
  · obtain ⟨σ1, r1, a1, a2, a3, a4, a5⟩ := x5_rebuild h.2.2.1 (iv_xs h)
    have fw : fw2_ (fun a b => (366 ≤ a ∧ a ≤ 369) ∨ (a = 1 ∧ b = 9)) (fun a => a = 371) σ (uI_ σ1 1 9 1) := fw2_tr (σ1 := σ1) ⟨a1, fun a b q => by rw [a2 a (fun z => q (Or.inl z))], fun a q => a3 a q⟩ (fw2_u (Or.inr ⟨rfl, rfl⟩))
    have hrow : ∀ a, a ≠ 1 → ¬ (366 ≤ a ∧ a ≤ 369) → (uI_ σ1 1 9 1).1 a = σ.1 a := fun a q1 q2 => fw2_row fw (fun b z => by omega)
    have hP : P1_ (uI_ σ1 1 9 1) y := P1_eq (σ := σ1) (fun a q1 q2 => uI_row (by omega)) rfl rfl rfl ⟨a4, a5⟩
    refine ⟨uI_ σ1 1 9 1, ?_, iv_c fw (fun a b z => by omega) h, ⟨fun _ => hP, fun q => ?_, fun q => ?_, fun q => ?_⟩, hP, by rw [uI_same]; decide, fun b hb => fw.2.1 1 b (by omega)⟩
    · unfold fX11_currentPairs
      rw [if_pos h9, lx_1_8 h.1.1, lx_1_0 h.1.1, r1, bd_s, lt_s_, show (uI_ σ1 1 9 1).2.2 1 8 = 366 by rw [fw.1]; exact lx_1_8 h.1.1]
    · exact P2_eq (fun a q1 q2 => hrow a (by omega) (by omega)) rfl rfl (hc.2.1 (by rw [← fw.2.1 1 11 (by omega)]; exact q))
    · exact P3_eq (hrow 378 (by omega) (by omega)) rfl rfl (hc.2.2.1 (by rw [← fw.2.1 1 13 (by omega)]; exact q))
    · exact P4_eq (fun a q1 => hrow a (by omega) (by omega)) rfl rfl (hc.2.2.2 (by rw [← fw.2.1 1 15 (by omega)]; exact q))
  · exact ⟨σ, x_pairs2 h.1.1 h9, h, hc, hc.1 h9, h9, fun _ _ => rfl⟩
theorem x_hasPair {σ : js_S} {y : js_Y} {sn : Option js_Y} {tx : List Int32} (h : iv_ σ y sn tx) (hc : ch_ σ y) (x : Int32) : ∃ σ1, fX11_hasPair 5000 1 x σ = some (bi_ (decide (∃ j, j < (pp_ y).length ∧ x = nI j)), σ1) ∧ iv_ σ1 y sn tx ∧ ch_ σ1 y ∧ ((∃ j, j < (pp_ y).length ∧ x = nI j) → P1_ σ1 y ∧ σ1.1 1 9 ≠ 0) := by
  have h240 := pp_len h.2.2.1
  unfold fX11_hasPair
  rcases n_cases x with q | ⟨k, hk, rfl⟩
  · have no : ¬ ∃ j, j < (pp_ y).length ∧ x = nI j := fun ⟨j, hj, e⟩ => n_negc q ⟨j, by omega, e⟩
    refine ⟨σ, ?_, h, hc, fun z => absurd z no⟩
    rw [if_pos q, decide_eq_false no]
    rfl
  · obtain ⟨σ1, r1, a1, a2, a3, a4, a5⟩ := x_pairs h hc
    refine ⟨σ1, ?_, a1, a2, fun _ => ⟨a3, a4⟩⟩
    rw [if_neg (nI_pos hk), r1, bd_s, a3.1.1]
    by_cases c : k < (pp_ y).length
    · rw [if_neg (nle_f c (by omega)), decide_eq_true ⟨k, c, rfl⟩]
      rfl
    · rw [if_pos (nle_t (by omega) hk), decide_eq_false (fun ⟨j, hj, e⟩ => c (by have := (n_eq hk (by omega)).mp e; omega))]
      rfl
theorem fm_34 {σ σ' : js_S} (h : fi_ (fun a => a = 403 ∨ a = 404) σ σ') : fm_ σ σ' := fm_fi h (fun a b q z => q (by unfold sM_; omega))
theorem op_pairCount {σ : js_S} {y : js_Y} {sn : Option js_Y} {tx : List Int32} (h : iv_ σ y sn tx) (hc : ch_ σ y) : ∃ r σ1 σ2, fX11_pairCount 5000 1 σ = some (r, σ1) ∧ fX12_pairCount 5000 390 σ1 = some (r, σ2) ∧ iv_ σ2 y sn tx ∧ ch_ σ2 y := by
  obtain ⟨σ1, r1, a1, a2, a3, a4, a5⟩ := x_pairs h hc
  obtain ⟨σ2, r2, f2, p2⟩ := m_findPairs a1.2.2.1 (iv_ms a1)
  refine ⟨nI (pp_ y).length, σ1, σ2, ?_, ?_, fin2_ a1 a2 (fm_34 f2)⟩
  · unfold fX11_pairCount
    rw [r1, bd_s, a3.1.1]
  · unfold fX12_pairCount
    rw [r2, bd_s]
/-- a call that asks for one pair -/
theorem op_onePair {σ : js_S} {y : js_Y} {sn : Option js_Y} {tx : List Int32} {X M : js_S → Option (Int32 × js_S)} {x : Int32} {KX KM : js_S → Option (Int32 × js_S)} (h : iv_ σ y sn tx) (hc : ch_ σ y) (hX : ∀ σ, X σ = bd_ (fX11_hasPair 5000 1 x σ) fun r1 σ1 => (if r1 = 0 then (some ((-1), σ1)) else KX σ1)) (hM : ∀ σ, M σ = bd_ (fX12_isPair 5000 390 x σ) fun r1 σ1 => (if r1 = 0 then (some ((-1), σ1)) else KM σ1)) (hk : ∀ (j : Nat) (σ1 : js_S), j < (pp_ y).length → x = nI j → iv_ σ1 y sn tx → ch_ σ1 y → P1_ σ1 y → σ1.1 1 9 ≠ 0 → ∃ r σ1', KX σ1 = some (r, σ1') ∧ iv_ σ1' y sn tx ∧ ch_ σ1' y ∧ ∀ σ2, ms_ σ2 y → mr_ σ2 (pp_ y) → ∃ σ3, KM σ2 = some (r, σ3) ∧ fm_ σ2 σ3) : ∃ r σ1 σ2, X σ = some (r, σ1) ∧ M σ1 = some (r, σ2) ∧ iv_ σ2 y sn tx ∧ ch_ σ2 y := by
  obtain ⟨σ1, r1, a1, a2, a3⟩ := x_hasPair h hc x
  rw [hX, r1, bd_s]
  by_cases c : ∃ j, j < (pp_ y).length ∧ x = nI j
  · rw [decide_eq_true c, bi_t, if_neg (by decide)]
    obtain ⟨j, hj, rfl⟩ := c
    obtain ⟨r, σ1', k1, k2, k3, k4⟩ := hk j σ1 hj rfl a1 a2 (a3 ⟨j, hj, rfl⟩).1 (a3 ⟨j, hj, rfl⟩).2
    obtain ⟨σ2, r2, f2, p2⟩ := m_isPair k2.2.2.1 (iv_ms k2) (nI j)
    have fm2 := fm_34 f2
    obtain ⟨σ3, r3, f3⟩ := k4 σ2 (ms_fm fm2 (iv_ms k2)) p2
    refine ⟨r, σ1', σ3, k1, ?_, fin2_ k2 k3 (fm_tr fm2 f3)⟩
    rw [hM, r2, bd_s, decide_eq_true ⟨j, hj, rfl⟩, bi_t, if_neg (by decide), r3]
  · obtain ⟨σ2, r2, f2, p2⟩ := m_isPair a1.2.2.1 (iv_ms a1) x
    refine ⟨-1, σ1, σ2, ?_, ?_, fin2_ a1 a2 (fm_34 f2)⟩
    · rw [decide_eq_false c, bi_f, if_pos rfl]
    · rw [hM, r2, bd_s, decide_eq_false c, bi_f, if_pos rfl]
theorem op_pairRule {σ : js_S} {y : js_Y} {sn : Option js_Y} {tx : List Int32} (h : iv_ σ y sn tx) (hc : ch_ σ y) (x : Int32) : ∃ r σ1 σ2, fX11_pairRule 5000 1 x σ = some (r, σ1) ∧ fX12_pairRule 5000 390 x σ1 = some (r, σ2) ∧ iv_ σ2 y sn tx ∧ ch_ σ2 y := by
  have h240 := pp_len h.2.2.1
  refine op_onePair (X := fX11_pairRule 5000 1 x) (M := fX12_pairRule 5000 390 x) h hc (fun _ => rfl) (fun _ => rfl) (fun j σ1 hj hx a1 a2 a3 a4 => ?_)
  subst hx
  refine ⟨nI (pc_ (pp_ y) j).1, σ1, ?_, a1, a2, fun σ2 m2 p2 => ⟨σ2, ?_, fm_rf⟩⟩
  · rw [x_pairs2 a1.1.1 a4, bd_s, x5_rule a1.1.1 a3.1 h240 hj, bd_s]
  · rw [lm_17 m2.1, ln_403, if_pos (ib_t (by omega) (by omega)), n_cl (by omega), (p2 j hj).1]
theorem op_pairPosition {σ : js_S} {y : js_Y} {sn : Option js_Y} {tx : List Int32} (h : iv_ σ y sn tx) (hc : ch_ σ y) (x : Int32) : ∃ r σ1 σ2, fX11_pairPosition 5000 1 x σ = some (r, σ1) ∧ fX12_pairPosition 5000 390 x σ1 = some (r, σ2) ∧ iv_ σ2 y sn tx ∧ ch_ σ2 y := by
  have h240 := pp_len h.2.2.1
  refine op_onePair (X := fX11_pairPosition 5000 1 x) (M := fX12_pairPosition 5000 390 x) h hc (fun _ => rfl) (fun _ => rfl) (fun j σ1 hj hx a1 a2 a3 a4 => ?_)
  subst hx
  refine ⟨nI (pc_ (pp_ y) j).2, σ1, ?_, a1, a2, fun σ2 m2 p2 => ⟨σ2, ?_, fm_rf⟩⟩
  · rw [x_pairs2 a1.1.1 a4, bd_s, x5_position a1.1.1 a3.1 h240 hj, bd_s]
  · rw [lm_18 m2.1, ln_404, if_pos (ib_t (by omega) (by omega)), n_cl (by omega), (p2 j hj).2]
theorem op_sourceFunction {σ : js_S} {y : js_Y} {sn : Option js_Y} {tx : List Int32} (h : iv_ σ y sn tx) (hc : ch_ σ y) (x : Int32) : ∃ r σ1 σ2, fX11_sourceFunction 5000 1 x σ = some (r, σ1) ∧ fX12_sourceFunction 5000 390 x σ1 = some (r, σ2) ∧ iv_ σ2 y sn tx ∧ ch_ σ2 y := by
  have h240 := pp_len h.2.2.1
  refine op_onePair (X := fX11_sourceFunction 5000 1 x) (M := fX12_sourceFunction 5000 390 x) h hc (fun _ => rfl) (fun _ => rfl) (fun j σ1 hj hx a1 a2 a3 a4 => ?_)
  subst hx
  refine ⟨nI (fp2_ y j 9), σ1, ?_, a1, a2, fun σ2 m2 p2 => ⟨σ2, ?_, fm_rf⟩⟩
  · rw [x_pairs2 a1.1.1 a4, bd_s, x5_graph a1.1.1 a3.1 h240 hj, bd_s, x_sourceOf (D := gp_ y (pc_ (pp_ y) j)) fp2_lt, bd_s]
    rfl
  · rw [m_sourceOf h.2.2.1 m2 p2 hj, bd_s]
    rfl
theorem op_targetFunction {σ : js_S} {y : js_Y} {sn : Option js_Y} {tx : List Int32} (h : iv_ σ y sn tx) (hc : ch_ σ y) (x : Int32) : ∃ r σ1 σ2, fX11_targetFunction 5000 1 x σ = some (r, σ1) ∧ fX12_targetFunction 5000 390 x σ1 = some (r, σ2) ∧ iv_ σ2 y sn tx ∧ ch_ σ2 y := by
  have h240 := pp_len h.2.2.1
  refine op_onePair (X := fX11_targetFunction 5000 1 x) (M := fX12_targetFunction 5000 390 x) h hc (fun _ => rfl) (fun _ => rfl) (fun j σ1 hj hx a1 a2 a3 a4 => ?_)
  subst hx
  refine ⟨nI (fp2_ y j 10), σ1, ?_, a1, a2, fun σ2 m2 p2 => ⟨σ2, ?_, fm_rf⟩⟩
  · rw [x_pairs2 a1.1.1 a4, bd_s, x5_graph a1.1.1 a3.1 h240 hj, bd_s, x_targetOf (D := gp_ y (pc_ (pp_ y) j)) fp2_lt, bd_s]
    rfl
  · rw [m_targetOf h.2.2.1 m2 p2 hj, bd_s]
    rfl
theorem op_hasEdge {σ : js_S} {y : js_Y} {sn : Option js_Y} {tx : List Int32} (h : iv_ σ y sn tx) (hc : ch_ σ y) (x z : Int32) : ∃ r σ1 σ2, fX11_hasEdge 5000 1 x z σ = some (r, σ1) ∧ fX12_hasEdge 5000 390 x z σ1 = some (r, σ2) ∧ iv_ σ2 y sn tx ∧ ch_ σ2 y := by
  have g := h.2.2.1
  have h240 := pp_len g
  refine op_onePair (X := fX11_hasEdge 5000 1 x z) (M := fX12_hasEdge 5000 390 x z) h hc (fun _ => rfl) (fun _ => rfl) (fun j σ1 hj hx a1 a2 a3 a4 => ?_)
  subst hx
  obtain ⟨σ2, r2, b1, b2, b3⟩ := x_hasPair a1 a2 z
  by_cases c : ∃ j, j < (pp_ y).length ∧ z = nI j
  · obtain ⟨i, hi, rfl⟩ := c
    obtain ⟨b4, b5⟩ := b3 ⟨i, hi, rfl⟩
    refine ⟨bi_ (ee_ y j i), σ2, ?_, b1, b2, fun σ3 m3 p3 => ?_⟩
    · have hgo : go_ σ2 370 371 := ⟨lx_370_0 b1.1.1, ln_371⟩
      rw [r2, bd_s, decide_eq_true ⟨i, hi, rfl⟩, bi_t, if_neg (by decide), x_pairs2 b1.1.1 b5, bd_s, lx_366_3 b1.1.1, x4_has hgo (show j < 240 by omega) (show i < 240 by omega), bd_s, b4.2 j i (by omega) (by omega), decide_eq_true hj, decide_eq_true hi, Bool.true_and, Bool.true_and, bi_ite]
    · obtain ⟨σ4, r4, f4, p4⟩ := m_isPair g m3 (nI i)
      have fm4 := fm_34 f4
      refine ⟨σ4, ?_, fm4⟩
      rw [r4, bd_s, decide_eq_true ⟨i, hi, rfl⟩, bi_t, if_neg (by decide), m_isEdge g (ms_fm fm4 m3) p4 hj hi, bd_s, bi_ite]
  · refine ⟨-1, σ2, ?_, b1, b2, fun σ3 m3 p3 => ?_⟩
    · rw [r2, bd_s, decide_eq_false c, bi_f, if_pos rfl]
    · obtain ⟨σ4, r4, f4, p4⟩ := m_isPair g m3 z
      refine ⟨σ4, ?_, fm_34 f4⟩
      rw [r4, bd_s, decide_eq_false c, bi_f, if_pos rfl]
/-! size relations -/
theorem m_relation {σ : js_S} {y : js_Y} {j a b : Nat} (g : gy_ y) (hm : ms_ σ y) (hp : mr_ σ (pp_ y)) (hj : j < (pp_ y).length) (ha : a < y.1 (fp2_ y j 9)) (hb : b < y.1 (fp2_ y j 10)) : fX12_relation 5000 390 (nI j) (nI a) (nI b) σ = some (nI (fp2_ y j (3 * a + b)), σ) := by
  have h6 := g.2.1
  have mj := pp_mem hj
  have gr := g.2.2.1 _ mj.1
  have l40 := gr.1.2
  have r40 := gr.2.1.2
  have a3 := (g.1 _ (fn_lt (at_ (rl_ y (pc_ (pp_ y) j).1).1 0))).2
  have b3 := (g.1 _ (fn_lt (at_ (rl_ y (pc_ (pp_ y) j).1).2 (pc_ (pp_ y) j).2))).2
  rw [fp2_9] at ha
  rw [fp2_10] at hb
  have okR := wt_tail gr.2.1.1 mj.2.1
  have okL : ok_ y.1 ((rl_ y (pc_ (pp_ y) j).1).1.drop 0) 1 := ok_wt gr.1.1
  have hL := (hm.2.2.2 _ mj.1).1.2
  have hR := (hm.2.2.2 _ mj.1).2.2
  have agL := ag_lt okL (k := a) (by rw [sa_fn gr.2.2.1]; omega)
  have agR := ag_lt okR (k := b) (by rw [sa_fn mj.2.2]; omega)
  have eL := ep_le (a := y.1) (Nat.le_of_lt agL.1)
  have eL2 := ep_gt (a := y.1) agL.1
  have eR := ep_le (a := y.1) (Nat.le_of_lt agR.1)
  have eR2 := ep_gt (a := y.1) agR.1
  rw [fp2_r (by omega) (by omega), if_pos ⟨by rw [fp2_9]; exact ha, by rw [fp2_10]; exact hb⟩]
  unfold fX12_relation
  have s1 := m_argument (p := 0) (k := a) hm.1 hm.2.1 g.1 (by rw [ln_393]; omega) hL l40 (by rw [ln_393]; omega) okL (by rw [sa_fn gr.2.2.1]; omega)
  rw [Nat.add_zero] at s1
  have s2 := m_argument (p := (pc_ (pp_ y) j).2) (k := b) hm.1 hm.2.1 g.1 (by rw [ln_393]; omega) hR r40 (by rw [ln_393]; omega) okR (by rw [sa_fn mj.2.2]; omega)
  have s3 := m_end (o := 393) hm.1 hm.2.1 g.1 (by rw [ln_393]; omega) agR.2 (vw_drop hR) (by rw [List.length_drop]; omega) (by rw [List.length_drop, ln_393]; omega)
  have s4 := m_end (o := 393) hm.1 hm.2.1 g.1 (by rw [ln_393]; omega) agL.2 (vw_drop hL) (by rw [List.length_drop]; omega) (by rw [List.length_drop, ln_393]; omega)
  rw [m_source hm hp hj (pp_len g), bd_s, lm_2 hm.1, s1, bd_s, m_target hm hp hj (pp_len g), bd_s, lm_2 hm.1, s2, bd_s, lm_2 hm.1, s3, bd_s, lm_2 hm.1, s4, bd_s]
  have s5 := m_relLoop (f := ag_ y.1 (rl_ y (pc_ (pp_ y) j).1).1 0 a) (t := ag_ y.1 (rl_ y (pc_ (pp_ y) j).1).2 (pc_ (pp_ y) j).2 b) hm.1 hm.2.1 g.1 hL l40 (by omega) hR r40 (by omega) gr.1.1 agR.1 (by omega) eL (ep_ y.1 (rl_ y (pc_ (pp_ y) j).1).1 (ag_ y.1 (rl_ y (pc_ (pp_ y) j).1).1 0 a) - ag_ y.1 (rl_ y (pc_ (pp_ y) j).1).1 0 a) (ag_ y.1 (rl_ y (pc_ (pp_ y) j).1).1 0 a) 5000 (by omega) (by omega)
  rw [n_sub (by omega)]
  unfold ep_ at s5
  unfold rv_ ep_
  rw [show 192 * (pc_ (pp_ y) j).1 + 96 + 1 + ag_ y.1 (rl_ y (pc_ (pp_ y) j).1).2 (pc_ (pp_ y) j).2 b + sk_ y.1 ((rl_ y (pc_ (pp_ y) j).1).2.drop (ag_ y.1 (rl_ y (pc_ (pp_ y) j).1).2 (pc_ (pp_ y) j).2 b)) 1 - (192 * (pc_ (pp_ y) j).1 + 96 + 1 + ag_ y.1 (rl_ y (pc_ (pp_ y) j).1).2 (pc_ (pp_ y) j).2 b) = ag_ y.1 (rl_ y (pc_ (pp_ y) j).1).2 (pc_ (pp_ y) j).2 b + sk_ y.1 ((rl_ y (pc_ (pp_ y) j).1).2.drop (ag_ y.1 (rl_ y (pc_ (pp_ y) j).1).2 (pc_ (pp_ y) j).2 b)) 1 - ag_ y.1 (rl_ y (pc_ (pp_ y) j).1).2 (pc_ (pp_ y) j).2 b by omega, Nat.add_assoc (192 * (pc_ (pp_ y) j).1 + 1)]
  exact s5
