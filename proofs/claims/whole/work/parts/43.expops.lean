/-! operations that explore -/
theorem x3_run {σ : js_S} {y : js_Y} {i lim : Nat} (g : gy_ y) (hi : i < 4) (h1 : 1 ≤ lim) (h30 : lim ≤ 30) (hx : xs_ σ y) (hf : fd_ σ.2.2) (ht : tm_ σ (34 + 2 * i) (y.2.2 i)) : ∃ σ', fX3_run 5000 293 2 88 (nI i) (nI lim) σ = some (0, σ') ∧ fx_ σ σ' ∧ ce4_ σ' (er_ y lim (s0_ (y.2.2 i))) := by
  have gt := g.2.2.2 i hi
  have h6 := g.2.1
  have c1 : ¬ nI lim < 1 := fun w => by have := (n_lt (b := 1) (by omega) (by omega)).mp w; omega
  have c2 : nI lim ≤ 30 := (n_le (b := 30) (by omega) (by omega)).mpr h30
  have f1 : fi_ (fun a => a = 293) σ (uI_ (uI_ (uI_ σ 293 5 0) 293 6 0) 293 7 0) := ⟨rfl, fun a q => by rw [uI_row q, uI_row q, uI_row q]⟩
  have hx1 := xs_fi f1 h6 (fun a q => by omega) hx
  have ht1 := tm_fi f1 (by omega) (by omega) ht
  have hc1 : cs_ (uI_ (uI_ (uI_ σ 293 5 0) 293 6 0) 293 7 0) [] := ⟨hf, by simp, by rw [uI_ne (by omega), uI_ne (by omega), uI_same]; rfl, fun j hj => by simp at hj⟩
  obtain ⟨σ2, r2, f2, b2, c3⟩ := x3_discover (o := 34 + 2 * i) (u := y.2.2 i) hx1.1 hc1 (to_reg hx1.1 i hi) (by omega) ht1 gt.2
  have hx2 := xs_fh f2 h6 (fun a q => by omega) hx1
  have he : ce4_ σ2 (s0_ (y.2.2 i)) := ⟨c3, by rw [b2 6 (by omega), uI_ne (by omega), uI_same]; rfl, by rw [b2 7 (by omega), uI_same]; rfl, fun w => absurd w (by show ¬ 0 < 0; omega), fun w => absurd w (by show ¬ 0 < 0; omega), Nat.le_refl _⟩
  obtain ⟨σ3, r3, f3, e3⟩ := x3_run_loop g h30 lim 0 5000 σ2 (s0_ (y.2.2 i)) (by omega) (by omega) rfl hx2 (s0_ei gt).1 he
  refine ⟨σ3, ?_, ?_, e3⟩
  · unfold fX3_run
    rw [x_reg hi, bd_s, if_neg (by decide), if_neg c1, if_pos c2, lt_s_, lt_s_, lt_s_, x6_register hx1.1 hi, bd_s, r2, bd_s]
    exact r3
  · have fh : fh_ fE_ σ σ3 := fh_tr (fh_fi f1 (S2 := fE_) (fun a q => by unfold fE_ at q; omega)) (fh_tr f2 f3 (S3 := fE_) (fun a q => by unfold fE_ at q; omega) (fun a q => q)) (fun a q => q) (fun a q => q)
    exact ⟨fh.1, fh.2.1, fh.2.2.1, fun a b q => by rw [fh.2.2.2 a (fun z => q (by unfold sX_; unfold fE_ at z; omega))]⟩
theorem m_explore {σ : js_S} {y : js_Y} {i lim : Nat} (g : gy_ y) (hi : i < 4) (h1 : 1 ≤ lim) (h30 : lim ≤ 30) (hm : ms_ σ y) (ht : rw_ σ 395 (96 * i) (y.2.2 i)) : ∃ σ' P, fX12_explore 5000 390 (nI i) (nI lim) σ = some ((), σ') ∧ fm_ σ σ' ∧ me_ σ' (er_ y lim (s0_ (y.2.2 i))) P := by
  have gt := g.2.2.2 i hi
  have t40 := gt.2
  have fa : fm_ σ (uI_ (uI_ σ 390 38 0) 390 39 0) := fm_tr (fm_u (by unfold sM_; omega)) (fm_u (by unfold sM_; omega))
  have hma := ms_fm fa hm
  have f1 : fi_ (fun a => a = 390) σ (uI_ (uI_ σ 390 38 0) 390 39 0) := ⟨rfl, fun a q => by rw [uI_row q, uI_row q]⟩
  obtain ⟨σ1, q1, q2, q3, q4, q5⟩ := m_meet (σ := uI_ (uI_ σ 390 38 0) 390 39 0) (acc := []) (u := y.2.2 i) (o := 395) (p := 96 * i) hma.1 (by simp) ⟨by rw [uI_ne (by omega), uI_same]; rfl, fun j hj => by simp at hj⟩ (rw_fi f1 (by omega) ht) t40 (fun j hj => by simp at hj) (by omega) (by rw [ln_395]; omega) (by rw [ln_395]; omega)
  have fb : fm_ (uI_ (uI_ σ 390 38 0) 390 39 0) σ1 := fm_meet q2 q3
  have he : me_ σ1 (s0_ (y.2.2 i)) [(y.2.2 i, false)] := by
    refine ⟨⟨q4, fun j hj => ?_⟩, List.Perm.refl _, ?_, fun w => absurd w (by show ¬ 0 < 0; omega)⟩
    · rw [List.length_singleton] at hj
      rw [show j = 0 by omega]
      exact q5
    · rw [q3 390 39 (by omega) (by omega) (by omega), uI_same]
      rfl
  obtain ⟨σ2, P, r2, f2, e2⟩ := m_ex24 g h30 lim 5000 σ1 (s0_ (y.2.2 i)) [(y.2.2 i, false)] 0 (by show 0 + lim = lim; omega) (by omega) (ms_fm fb hma) (s0_ei gt).1 he ⟨fun h => (by cases h), fun q h => ⟨0, by simp, rfl, by cases h; rfl⟩⟩
  refine ⟨σ2, P, ?_, fm_tr fa (fm_tr fb f2), e2⟩
  unfold fX12_explore
  rw [lt_s_, lt_s_, lm_4 hma.1, n_96, q1, bd_s, r2]
/-- the refusals -/
theorem ex_ref {σ : js_S} {y : js_Y} {sn : Option js_Y} {tx : List Int32} (h : iv_ σ y sn tx) (x z : Int32) : (∃ i lim, i < 4 ∧ 1 ≤ lim ∧ lim ≤ 30 ∧ x = nI i ∧ z = nI lim ∧ ∀ s : js_S, fX12_wrongExploration 5000 390 x z s = some (0, s)) ∨ ∃ r, r < 0 ∧ fX3_run 5000 293 2 88 x z σ = some (r, σ) ∧ ∀ s : js_S, fX12_wrongExploration 5000 390 x z s = some (r, s) := by
  by_cases hc : ∃ i, i < 4 ∧ x = nI i
  · obtain ⟨i, hi, rfl⟩ := hc
    by_cases hz : ∃ n, 1 ≤ n ∧ n ≤ 30 ∧ z = nI n
    · obtain ⟨n, hn1, hn, rfl⟩ := hz
      left
      refine ⟨i, n, hi, hn1, hn, rfl, rfl, fun s => ?_⟩
      have c2 : ¬ 30 < nI n := fun w => by have := (n_lt (a := 30) (by omega) (by omega)).mp w; omega
      have c3 : ¬ nI n < 1 := fun w => by have := (n_lt (b := 1) (by omega) (by omega)).mp w; omega
      unfold fX12_wrongExploration
      rw [m_reg hi, bd_s, if_neg (by decide), m_isIn, bd_s, if_neg c3, if_neg c2, if_neg (by decide)]
    · right
      refine ⟨-2, by decide, ?_, fun s => ?_⟩
      · unfold fX3_run
        rw [x_reg hi, bd_s, if_neg (by decide)]
        rcases n_cases z with q | ⟨k, hk, rfl⟩
        · rw [if_pos (show z < 1 from n_neg (a := 1) q (by omega))]
        · by_cases hk1 : 1 ≤ k
          · have c1 : ¬ nI k ≤ 30 := fun w => hz ⟨k, hk1, (n_le (b := 30) (by omega) (by omega)).mp w, rfl⟩
            have c3 : ¬ nI k < 1 := fun w => by have := (n_lt (b := 1) (by omega) (by omega)).mp w; omega
            rw [if_neg c3, if_neg c1]
          · have c3 : nI k < 1 := (n_lt (b := 1) (by omega) (by omega)).mpr (by omega)
            rw [if_pos c3]
      · unfold fX12_wrongExploration
        rw [m_reg hi, bd_s, if_neg (by decide), m_isIn, bd_s]
        rcases n_cases z with q | ⟨k, hk, rfl⟩
        · rw [if_pos (show z < 1 from n_neg (a := 1) q (by omega)), if_pos rfl]
        · by_cases hk1 : 1 ≤ k
          · have c1 : 30 < nI k := (n_lt (a := 30) (by omega) (by omega)).mpr (by
              rcases Nat.lt_or_ge 30 k with w | w
              · exact w
              · exact absurd ⟨k, hk1, w, rfl⟩ hz)
            have c3 : ¬ nI k < 1 := fun w => by have := (n_lt (b := 1) (by omega) (by omega)).mp w; omega
            rw [if_neg c3, if_pos c1, if_pos rfl]
          · have c3 : nI k < 1 := (n_lt (b := 1) (by omega) (by omega)).mpr (by omega)
            rw [if_pos c3, if_pos rfl]
  · right
    refine ⟨-1, by decide, ?_, fun s => ?_⟩
    · unfold fX3_run
      rw [x_noreg hc, bd_s, if_pos rfl]
    · unfold fX12_wrongExploration
      rw [m_noreg hc, bd_s, if_pos rfl]
theorem op_exploredCount {σ : js_S} {y : js_Y} {sn : Option js_Y} {tx : List Int32} (h : iv_ σ y sn tx) (x z : Int32) : ∃ r σ1 σ2, fX11_exploredCount 5000 1 x z σ = some (r, σ1) ∧ fx_ σ σ1 ∧ fX12_exploredCount 5000 390 x z σ1 = some (r, σ2) ∧ fm_ σ1 σ2 := by
  have gy := h.2.2.1
  have hl := h.1.1
  unfold fX11_exploredCount fX12_exploredCount
  rw [lx_1_6 hl, lx_1_0 hl, lx_1_5 hl]
  rcases ex_ref h x z with ⟨i, lim, hi, h1, h30, rfl, rfl, hw⟩ | ⟨r, hr, h1, hw⟩
  · obtain ⟨σ1, r1, f1, e1⟩ := x3_run gy hi h1 h30 (xs_of hl h.1.2.2.1) h.1.2.1 (sx_reg h.1.2.2.1 hi)
    have hv := iv_x f1 h
    obtain ⟨σ2, P, r2, f2, e2⟩ := m_explore gy hi h1 h30 (ms_of hv.2.1.1 hv.2.1.2.1) (hv.2.1.2.1.2.2.2 i hi)
    refine ⟨nI (er_ y lim (s0_ (y.2.2 i))).2.1, σ1, σ2, ?_, f1, ?_, f2⟩
    · rw [r1, bd_s, if_pos (by decide), lx_1_6 hv.1.1, e1.2.1]
    · rw [hw, bd_s, if_pos (by decide), r2, bd_s, e2.2.2.1]
  · refine ⟨r, σ, σ, ?_, fx_rf, ?_, fm_rf⟩
    · rw [h1, bd_s, if_neg (Int32.not_le.mpr hr)]
    · rw [hw, bd_s, if_neg (Int32.not_le.mpr hr)]
theorem op_lastExploredSize {σ : js_S} {y : js_Y} {sn : Option js_Y} {tx : List Int32} (h : iv_ σ y sn tx) (x z : Int32) : ∃ r σ1 σ2, fX11_lastExploredSize 5000 1 x z σ = some (r, σ1) ∧ fx_ σ σ1 ∧ fX12_lastExploredSize 5000 390 x z σ1 = some (r, σ2) ∧ fm_ σ1 σ2 := by
  have gy := h.2.2.1
  have hl := h.1.1
  unfold fX11_lastExploredSize fX12_lastExploredSize
  rw [lx_1_6 hl, lx_1_0 hl, lx_1_5 hl]
  rcases ex_ref h x z with ⟨i, lim, hi, h1, h30, rfl, rfl, hw⟩ | ⟨r, hr, h1, hw⟩
  · obtain ⟨σ1, r1, f1, e1⟩ := x3_run gy hi h1 h30 (xs_of hl h.1.2.2.1) h.1.2.1 (sx_reg h.1.2.2.1 hi)
    have hv := iv_x f1 h
    obtain ⟨σ2, P, r2, f2, e2⟩ := m_explore gy hi h1 h30 (ms_of hv.2.1.1 hv.2.1.2.1) (hv.2.1.2.1.2.2.2 i hi)
    have hpos : 0 < (er_ y lim (s0_ (y.2.2 i))).2.1 := by
      rw [show lim = (lim - 1) + 1 by omega]
      exact s0_pos gy (gy.2.2.2 i hi)
    have hei := er_en2 gy (k := lim) (s0_ei (gy.2.2.2 i hi)).1 (s0_ei (gy.2.2.2 i hi)).2
    have hPl : P.length ≤ 1201 := by
      have q1 := hei.1.2.2.2
      have q2 := hei.2.2.2
      have q3 : (s0_ (y.2.2 i)).2.1 = 0 := rfl
      have q4 := e2.2.1.length_eq
      omega
    obtain ⟨b, hb, eb, et⟩ := e2.2.2.2 hpos
    have hm2 : lm_ σ2.2.2 := by rw [f2.1]; exact hv.2.1.1
    refine ⟨nI (er_ y lim (s0_ (y.2.2 i))).2.2.2.1.length, σ1, σ2, ?_, f1, ?_, f2⟩
    · rw [r1, bd_s, if_pos (by decide), lx_1_6 hv.1.1, lx_293_3 hv.1.1, (e1.2.2.2.1 hpos).1]
    · have hr := mp_row e2.1 hb
      rw [et] at hr
      rw [hw, bd_s, if_pos (by decide), r2, bd_s, eb, n_96, lm_36 hm2, ln_418, n_ib (by omega), if_pos (by simp; omega), n_cl (by omega), hr.1]
  · refine ⟨r, σ, σ, ?_, fx_rf, ?_, fm_rf⟩
    · rw [h1, bd_s, if_neg (Int32.not_le.mpr hr)]
    · rw [hw, bd_s, if_neg (Int32.not_le.mpr hr)]
/-- the model counts marked normal forms -/
theorem m_enf {y : js_Y} {P : js_F} (g : gy_ y) (hn : P.length ≤ 1201) (hg : ∀ q, q ∈ P → gt_ y.1 q.1) :
    ∀ (d j c k : Nat) (σ : js_S), j + d = P.length → d < k → c ≤ j → ms_ σ y → mp_ σ P → ∃ σ', fX12_exploredNormalForms_25 5000 k 390 (nI c) (nI j) σ = some (nI (c + nc_ y (P.drop j)), σ') ∧ fm_ σ σ' := by
  intro d
  induction d with
  | zero =>
    intro j c k σ hj hk hc hm hp
    obtain ⟨k, rfl⟩ : ∃ j, k = j + 1 := ⟨k - 1, by omega⟩
    refine ⟨σ, ?_, fm_rf⟩
    rw [sX12_exploredNormalForms_25]
    unfold fX12_exploredNormalForms_25b
    rw [mp_n hp, if_pos ((n_le (by omega) (by omega)).mpr (by omega)), List.drop_eq_nil_of_le (by omega)]
    rfl
  | succ d ih =>
    intro j c k σ hj hk hc hm hp
    obtain ⟨k, rfl⟩ : ∃ j, k = j + 1 := ⟨k - 1, by omega⟩
    have gj := hg _ (ka_mem (P := P) (j := j) (by omega))
    have l40 := gj.2
    have e0 : nI c + 0 = nI c := n_add c 0
    rw [sX12_exploredNormalForms_25]
    unfold fX12_exploredNormalForms_25b fX12_exploredNormalForms_66 fX12_exploredNormalForms_67
    rw [mp_n hp, if_neg (fun z => by have := (n_le (by omega) (by omega)).mp z; omega), lm_37 hm.1, ln_419, n_ib (by omega), if_pos (by simp; omega), n_cl (by omega), hp.2 j (by omega), show nI j + 1 = nI (j + 1) from n_add j 1, e0, ka_drop (by omega)]
    have hnc : nc_ y (ka_ P j :: P.drop (j + 1)) = nc_ y (P.drop (j + 1)) + if ((ka_ P j).2 && nfm_ y (ka_ P j).1) = true then 1 else 0 := List.countP_cons
    rw [hnc]
    by_cases cf : (ka_ P j).2 = true
    · obtain ⟨σ1, r1, f1⟩ := m_isNormal (o := 418) (p := 96 * j) g gj (by omega) (by rw [ln_418]; omega) (by rw [ln_418]; omega) hm (mp_row hp (by omega))
      have hm1 := ms_fi f1 (fun a q => by omega) hm
      have hp1 := mp_fi f1 (by omega) (by omega) (by omega) hp
      rw [cf, bi_t, if_neg (by decide), lm_36 hm.1, n_96, r1, bd_s]
      by_cases cn : nfm_ y (ka_ P j).1 = true
      · obtain ⟨σ2, r2, f2⟩ := ih (j + 1) (c + 1) k σ1 (by omega) (by omega) (by omega) hm1 hp1
        refine ⟨σ2, ?_, fm_tr (fm97 f1) f2⟩
        rw [cn, bi_t, if_neg (by decide), show nI c + 1 = nI (c + 1) from n_add c 1, r2, if_pos (by decide), show c + 1 + nc_ y (P.drop (j + 1)) = c + (nc_ y (P.drop (j + 1)) + 1) by omega]
      · obtain ⟨σ2, r2, f2⟩ := ih (j + 1) c k σ1 (by omega) (by omega) (by omega) hm1 hp1
        refine ⟨σ2, ?_, fm_tr (fm97 f1) f2⟩
        rw [show nfm_ y (ka_ P j).1 = false by simpa using cn, bi_f, if_pos rfl, r2, if_neg (by decide)]
        rfl
    · have cff : (ka_ P j).2 = false := by
        cases hh : (ka_ P j).2 with
        | false => rfl
        | true => exact absurd hh cf
      obtain ⟨σ2, r2, f2⟩ := ih (j + 1) c k σ (by omega) (by omega) (by omega) hm hp
      refine ⟨σ2, ?_, f2⟩
      rw [cff, bi_f, if_pos rfl, r2, if_neg (by simp)]
      rfl
/-- what holds behind an exploration -/
theorem ex_end {y : js_Y} {i lim : Nat} {σ2 : js_S} {P : js_F} (gy : gy_ y) (hi : i < 4) (h30 : lim ≤ 30) (e2 : me_ σ2 (er_ y lim (s0_ (y.2.2 i))) P) : P.length ≤ 1201 ∧ (∀ q, q ∈ P → gt_ y.1 q.1) ∧ en2_ y (er_ y lim (s0_ (y.2.2 i))) := by
  have hei := er_en2 gy (k := lim) (s0_ei (gy.2.2.2 i hi)).1 (s0_ei (gy.2.2.2 i hi)).2
  refine ⟨?_, fun q hq => hei.1.2.1 q (e2.2.1.mem_iff.mpr hq), hei.2.1⟩
  have q1 := hei.1.2.2.2
  have q2 := hei.2.2.2
  have q3 : (s0_ (y.2.2 i)).2.1 = 0 := rfl
  have q4 := e2.2.1.length_eq
  omega
theorem op_exploredNormalForms {σ : js_S} {y : js_Y} {sn : Option js_Y} {tx : List Int32} (h : iv_ σ y sn tx) (x z : Int32) : ∃ r σ1 σ2, fX11_exploredNormalForms 5000 1 x z σ = some (r, σ1) ∧ fx_ σ σ1 ∧ fX12_exploredNormalForms 5000 390 x z σ1 = some (r, σ2) ∧ fm_ σ1 σ2 := by
  have gy := h.2.2.1
  have hl := h.1.1
  unfold fX11_exploredNormalForms fX12_exploredNormalForms
  rw [lx_1_6 hl, lx_1_0 hl, lx_1_5 hl]
  rcases ex_ref h x z with ⟨i, lim, hi, h1, h30, rfl, rfl, hw⟩ | ⟨r, hr, h1, hw⟩
  · obtain ⟨σ1, r1, f1, e1⟩ := x3_run gy hi h1 h30 (xs_of hl h.1.2.2.1) h.1.2.1 (sx_reg h.1.2.2.1 hi)
    have hv := iv_x f1 h
    obtain ⟨σ2, P, r2, f2, e2⟩ := m_explore gy hi h1 h30 (ms_of hv.2.1.1 hv.2.1.2.1) (hv.2.1.2.1.2.2.2 i hi)
    obtain ⟨hPl, hPg, hen⟩ := ex_end gy hi h30 e2
    obtain ⟨σ3, r3, f3⟩ := m_enf gy hPl hPg P.length 0 0 5000 σ2 (by omega) (by omega) (by omega) (ms_fm f2 (ms_of hv.2.1.1 hv.2.1.2.1)) e2.1
    rw [List.drop_zero, Nat.zero_add, show nc_ y P = nc_ y (er_ y lim (s0_ (y.2.2 i))).1 from (e2.2.1.countP_eq _).symm, hen.1] at r3
    refine ⟨nI (er_ y lim (s0_ (y.2.2 i))).2.2.1, σ1, σ3, ?_, f1, ?_, fm_tr f2 f3⟩
    · rw [r1, bd_s, if_pos (by decide), lx_1_6 hv.1.1, e1.2.2.1]
    · rw [hw, bd_s, if_pos (by decide), r2, bd_s]
      exact r3
  · refine ⟨r, σ, σ, ?_, fx_rf, ?_, fm_rf⟩
    · rw [h1, bd_s, if_neg (Int32.not_le.mpr hr)]
    · rw [hw, bd_s, if_neg (Int32.not_le.mpr hr)]
/-- the model looks for the lowest marked normal form -/
def fq_ (y : js_Y) (p : List Int32 × Bool) : Bool := p.2 && nfm_ y p.1
def fz_ (x3 x : Int32) (σ : js_S) : Option (Int32 × js_S) := if 0 ≤ x then (bd_ (fX12_copy 5000 (σ.2.2 390 36) (96 * x) (σ.2.2 390 4) (96 * x3) 96 σ) fun _ σ5 => (if ib_ (96 * x) (ln_ (σ5.2.2 390 36)) = true then (some ((σ5.1 (σ5.2.2 390 36) (Int32.toNatClampNeg (96 * x))), σ5)) else none)) else (some ((-5), σ))
theorem m_lnf {y : js_Y} {P : js_F} {x3 : Int32} (g : gy_ y) (hn : P.length ≤ 1201) (hg : ∀ q, q ∈ P → gt_ y.1 q.1) :
    ∀ (d j k : Nat) (x : Int32) (σ : js_S), j + d = P.length → d < k → bs_ P (fq_ y) j x → ms_ σ y → mp_ σ P → ∃ σ' r, fX12_loadNormalForm_40 5000 k 390 x3 x (nI j) σ = fz_ x3 r σ' ∧ fm_ σ σ' ∧ mp_ σ' P ∧ bs_ P (fq_ y) P.length r := by
  intro d
  induction d with
  | zero =>
    intro j k x σ hj hk hb hm hp
    obtain ⟨k, rfl⟩ : ∃ j, k = j + 1 := ⟨k - 1, by omega⟩
    refine ⟨σ, x, ?_, fm_rf, hp, by rw [show P.length = j by omega]; exact hb⟩
    rw [sX12_loadNormalForm_40]
    unfold fX12_loadNormalForm_40b fz_
    rw [mp_n hp, if_pos ((n_le (by omega) (by omega)).mpr (by omega))]
  | succ d ih =>
    intro j k x σ hj hk hb hm hp
    obtain ⟨k, rfl⟩ : ∃ j, k = j + 1 := ⟨k - 1, by omega⟩
    have gj := hg _ (ka_mem (P := P) (j := j) (by omega))
    have l40 := gj.2
    have skip : ∀ s, ms_ s y → mp_ s P → ¬ fq_ y (ka_ P j) = true → ∃ σ' r, fX12_loadNormalForm_79 5000 (fX12_loadNormalForm_40 5000 k) 390 x3 x (nI j) s = fz_ x3 r σ' ∧ fm_ s σ' ∧ mp_ σ' P ∧ bs_ P (fq_ y) P.length r := by
      intro s hms hps hq
      unfold fX12_loadNormalForm_79 fX12_loadNormalForm_80 fX12_loadNormalForm_121 fX12_loadNormalForm_123
      rw [if_pos rfl, show nI j + 1 = nI (j + 1) from n_add j 1]
      exact ih (j + 1) k x s (by omega) (by omega) (bs_skip hb hq) hms hps
    rw [sX12_loadNormalForm_40]
    unfold fX12_loadNormalForm_40b
    rw [mp_n hp, if_neg (fun z => by have := (n_le (by omega) (by omega)).mp z; omega), lm_37 hm.1, ln_419, n_ib (by omega), if_pos (by simp; omega), n_cl (by omega), hp.2 j (by omega)]
    by_cases cf : (ka_ P j).2 = true
    · obtain ⟨σ1, r1, f1⟩ := m_isNormal (o := 418) (p := 96 * j) g gj (by omega) (by rw [ln_418]; omega) (by rw [ln_418]; omega) hm (mp_row hp (by omega))
      have hm1 := ms_fi f1 (fun a q => by omega) hm
      have hp1 := mp_fi f1 (by omega) (by omega) (by omega) hp
      rw [cf, bi_t, if_neg (by decide), lm_36 hm.1, n_96, r1, bd_s]
      by_cases cn : nfm_ y (ka_ P j).1 = true
      · have hq : fq_ y (ka_ P j) = true := by unfold fq_; rw [cf, cn]; rfl
        rw [cn, bi_t, if_neg (by decide)]
        unfold fX12_loadNormalForm_80 fX12_loadNormalForm_116 fX12_loadNormalForm_121 fX12_loadNormalForm_123
        rw [if_neg (by decide), show nI j + 1 = nI (j + 1) from n_add j 1]
        rcases bs_cases hb with e | ⟨b, hbj, e⟩
        · subst e
          rw [if_pos (by decide)]
          obtain ⟨σ2, r, r2, f2, q1, q2⟩ := ih (j + 1) k _ σ1 (by omega) (by omega) (bs_first hb hq (by omega)) hm1 hp1
          exact ⟨σ2, r, r2, fm_tr (fm97 f1) f2, q1, q2⟩
        · subst e
          obtain ⟨v, v1, s1⟩ := m_cmp2 hp1 hn hg (i := j) (j := b) (by omega) (by omega)
          rw [if_neg (nI_pos (by omega)), lm_36 hm1.1, n_96, n_96, v1, bd_s]
          by_cases cc : tl_ (ka_ P j).1 (ka_ P b).1
          · rw [if_neg (fun z => absurd (s1.2.mpr (cmp_tl.mpr cc)) (Int32.not_lt.mpr z))]
            obtain ⟨σ2, r, r2, f2, q1, q2⟩ := ih (j + 1) k _ σ1 (by omega) (by omega) (bs_new hb hbj (by omega) hq cc) hm1 hp1
            exact ⟨σ2, r, r2, fm_tr (fm97 f1) f2, q1, q2⟩
          · rw [if_pos (Int32.not_lt.mp (fun z => cc (cmp_tl.mp (s1.2.mp z))))]
            obtain ⟨σ2, r, r2, f2, q1, q2⟩ := ih (j + 1) k _ σ1 (by omega) (by omega) (bs_keep hb hbj (by omega) cc) hm1 hp1
            exact ⟨σ2, r, r2, fm_tr (fm97 f1) f2, q1, q2⟩
      · have cnf : nfm_ y (ka_ P j).1 = false := by simpa using cn
        rw [cnf, bi_f, if_pos rfl]
        obtain ⟨σ2, r, r2, f2, q1, q2⟩ := skip σ1 hm1 hp1 (by unfold fq_; rw [cnf, Bool.and_false]; exact Bool.false_ne_true)
        exact ⟨σ2, r, r2, fm_tr (fm97 f1) f2, q1, q2⟩
    · have cff : (ka_ P j).2 = false := by
        cases hh : (ka_ P j).2 with
        | false => rfl
        | true => exact absurd hh cf
      rw [cff, bi_f, if_pos rfl]
      exact skip σ hm hp (by unfold fq_; rw [cff]; exact Bool.false_ne_true)
theorem op_loadNormalForm {σ : js_S} {y : js_Y} {sn : Option js_Y} {tx : List Int32} (h : iv_ σ y sn tx) (x z w : Int32) : ∃ r σ1 σ2 y', fX11_loadNormalForm 5000 1 x z w σ = some (r, σ1) ∧ fX12_loadNormalForm 5000 390 x z w σ1 = some (r, σ2) ∧ iv_ σ2 y' sn tx ∧ ce2_ σ σ2 ∧ y'.1 = y.1 ∧ y'.2.1 = y.2.1 := by
  have gy := h.2.2.1
  have hl := h.1.1
  unfold fX11_loadNormalForm fX12_loadNormalForm fX12_loadNormalForm_17
  by_cases hc : ∃ i, i < 4 ∧ w = nI i
  · obtain ⟨j, hj, rfl⟩ := hc
    rw [x_reg hj, bd_s, if_neg (by decide), lx_1_6 hl, lx_1_0 hl, lx_1_5 hl]
    rcases ex_ref h x z with ⟨i, lim, hi, h1, h30, rfl, rfl, hw⟩ | ⟨r, hr, h1, hw⟩
    · obtain ⟨σa, ra, fa, ea⟩ := x3_run gy hi h1 h30 (xs_of hl h.1.2.2.1) h.1.2.1 (sx_reg h.1.2.2.1 hi)
      have hv := iv_x fa h
      have hei := er_en2 gy (k := lim) (s0_ei (gy.2.2.2 i hi)).1 (s0_ei (gy.2.2.2 i hi)).2
      have q30 : (er_ y lim (s0_ (y.2.2 i))).2.2.1 ≤ 30 := by
        have q2 := hei.2.2.2
        have q3 : (s0_ (y.2.2 i)).2.1 = 0 := rfl
        have q5 := ea.2.2.2.2.2
        omega
      rw [ra, bd_s, if_pos (by decide), lx_1_6 hv.1.1, ea.2.2.1]
      by_cases c0 : (er_ y lim (s0_ (y.2.2 i))).2.2.1 = 0
      · have c1 : nI (er_ y lim (s0_ (y.2.2 i))).2.2.1 ≤ 0 := by rw [c0]; decide
        rw [if_pos c1]
        obtain ⟨σ2, P, r2, f2, e2⟩ := m_explore gy hi h1 h30 (ms_of hv.2.1.1 hv.2.1.2.1) (hv.2.1.2.1.2.2.2 i hi)
        obtain ⟨hPl, hPg, hen⟩ := ex_end gy hi h30 e2
        obtain ⟨σ3, r, r3, f3, p3, b3⟩ := m_lnf (x3 := nI j) gy hPl hPg P.length 0 5000 (-5) σ2 (by omega) (by omega) (Or.inl ⟨rfl, fun i hi => by omega⟩) (ms_fm f2 (ms_of hv.2.1.1 hv.2.1.2.1)) e2.1
        have hr : r = -5 := by
          rcases b3 with ⟨e, -⟩ | ⟨b, hb, -, hq, -⟩
          · exact e
          · have hz := hen.1
            rw [c0] at hz
            exact absurd hq (List.countP_eq_zero.mp hz _ (e2.2.1.mem_iff.mpr (ka_mem hb)))
        refine ⟨-5, σa, σ3, y, rfl, ?_, iv_m (fm_tr f2 f3) hv, ce2_tr (ce2_fx fa) (ce2_fm (fm_tr f2 f3)), rfl, rfl⟩
        rw [m_reg hj, bd_s, if_neg (by decide), hw, bd_s, if_pos (by decide), r2, bd_s, show fX12_loadNormalForm_40 5000 5000 390 (nI j) (-5) 0 σ2 = _ from r3, hr]
        rfl
      · have c1 : ¬ nI (er_ y lim (s0_ (y.2.2 i))).2.2.1 ≤ 0 := fun t => by have := (n_le (b := 0) (by omega) (by omega)).mp t; omega
        have low := ea.2.2.2.2.1 (by omega)
        have t300 : to_ σa 300 := to_of hv.1.1 (by omega) (by decide +kernel)
        obtain ⟨σ1, r1, f1, t1⟩ := x_store (r := j) hv.1.1 hj t300 low.1 (by omega)
        have a1 := ix_st hj h.2.2 f1 t1 hv.1
        have a2 : im_ σ1 y sn tx := im_x (fun a ha => f1.2 a (by omega)) (fun o _ => by rw [fi_r f1]) hv.2.1
        obtain ⟨σ2, P, r2, f2, e2⟩ := m_explore gy hi h1 h30 (ms_of a2.1 a2.2.1) (a2.2.1.2.2.2 i hi)
        obtain ⟨hPl, hPg, hen⟩ := ex_end gy hi h30 e2
        obtain ⟨σ3, r, r3, f3, p3, b3⟩ := m_lnf (x3 := nI j) gy hPl hPg P.length 0 5000 (-5) σ2 (by omega) (by omega) (Or.inl ⟨rfl, fun i hi => by omega⟩) (ms_fm f2 (ms_of a2.1 a2.2.1)) e2.1
        obtain ⟨n1, n2, n3⟩ := hen.2 (by omega)
        obtain ⟨b, hb, er, et⟩ : ∃ b, b < P.length ∧ r = nI b ∧ (ka_ P b).1 = (er_ y lim (s0_ (y.2.2 i))).2.2.2.2 := by
          obtain ⟨bl, hbl, ebl⟩ := mem_ka (e2.2.1.mem_iff.mp n1)
          have qbl : fq_ y (ka_ P bl) = true := by rw [ebl]; unfold fq_; rw [n2]; rfl
          rcases b3 with ⟨-, e⟩ | ⟨b, hb, e, hq, hmin⟩
          · exact absurd qbl (e bl hbl)
          · refine ⟨b, hb, e, ?_⟩
            have h4 := hmin bl hbl qbl
            rw [ebl] at h4
            have hq2 : (ka_ P b).2 = true ∧ nfm_ y (ka_ P b).1 = true := by
              unfold fq_ at hq
              exact Bool.and_eq_true_iff.mp hq
            have h5 := n3 _ (e2.2.1.mem_iff.mpr (ka_mem hb)) hq2.1 hq2.2
            rcases tl_tri (ka_ P b).1 (er_ y lim (s0_ (y.2.2 i))).2.2.2.2 with t | t | t
            · exact t
            · exact absurd t h5
            · exact absurd t h4
        have a3 := im_fm (fm_tr f2 f3) a2
        have hrow := mp_row p3 hb
        rw [et] at hrow
        have gl := hPg _ (ka_mem hb)
        rw [et] at gl
        have g2 : gs_ (st_ y j (er_ y lim (s0_ (y.2.2 i))).2.2.2.2) sn tx := ⟨gy_st gy gl, h.2.2.2.1, h.2.2.2.2⟩
        have hr3 : ∀ a, a < 390 → σ3.1 a = σ1.1 a := fun a ha => fm_row (fm_tr f2 f3) (fun b => by unfold sM_; omega)
        refine ⟨nI (er_ y lim (s0_ (y.2.2 i))).2.2.2.2.length, σ1, cI_ σ3 418 (96 * b) 395 (96 * j) 96, st_ y j (er_ y lim (s0_ (y.2.2 i))).2.2.2.2, ?_, ?_, ⟨?_, ?_, g2⟩, ?_, rfl, rfl⟩
        · rw [if_neg c1, lx_293_4 hv.1.1, r1, bd_s]
        · rw [m_reg hj, bd_s, if_neg (by decide), hw, bd_s, if_pos (by decide), r2, bd_s, show fX12_loadNormalForm_40 5000 5000 390 (nI j) (-5) 0 σ2 = _ from r3, er]
          unfold fz_
          have hm4 : lm_ (cI_ σ3 418 (96 * b) 395 (96 * j) 96).2.2 := a3.1
          rw [if_pos (nI_pos' (by omega)), lm_36 a3.1, lm_4 a3.1, n_96, n_96, show (96 : Int32) = nI 96 from rfl, m_copy (by rw [ln_418]; omega) (by rw [ln_395]; omega) (by rw [ln_418]; omega) (by rw [ln_395]; omega) (by omega) (by omega), bd_s, lm_36 hm4, ln_418, n_ib (by omega), if_pos (by simp; omega), n_cl (by omega), cI_out (by omega), hrow.1]
        · exact ix_m (σ := σ1) g2 (fun a ha => funext (fun b => by rw [cI_out (by omega), hr3 a ha])) (show σ3.2.2 = σ1.2.2 from (fm_tr f2 f3).1) a1
        · exact im_st (σ := σ3) hj rfl (fun a b q1 q2 => cI_out q1) h.2.2 (rw_cp hrow gl.2) a3
        · exact ce2_tr (ce2_fx fa) (ce2_tr (ce2_fi f1 (fun a q => by omega)) (ce2_tr (ce2_fm (fm_tr f2 f3)) (ce2_fi (fi_c (S := fun a => a = 395) rfl) (fun a q => by omega))))
    · refine ⟨r, σ, σ, y, ?_, ?_, h, ce2_rf, rfl, rfl⟩
      · rw [h1, bd_s, if_neg (Int32.not_le.mpr hr)]
      · rw [m_reg hj, bd_s, if_neg (by decide), hw, bd_s, if_neg (Int32.not_le.mpr hr)]
  · refine ⟨-1, σ, σ, y, ?_, ?_, h, ce2_rf, rfl, rfl⟩
    · rw [x_noreg hc, bd_s, if_pos rfl]
    · rw [m_noreg hc, bd_s, if_pos rfl, if_neg (by decide)]
