/-! parseTerm -/
theorem ix_mk {σ σ' : js_S} {y y' : js_Y} {sn : Option js_Y} {tx tx' : List Int32} (g : gs_ y sn tx) (hr : σ'.2.2 = σ.2.2) (h1 : σ'.1 1 2 = σ.1 1 2) (hS : ∀ a, 42 ≤ a → a < 82 → σ'.1 a = σ.1 a) (hy : sx_ σ' 2 y') (h82 : σ'.1 82 2 = nI tx'.length) (h83 : vw_ σ' 83 0 tx') (hx : ix_ σ y sn tx) : ix_ σ' y' sn tx' := by
  obtain ⟨q1, q2, q3, q4, q5, q6, q7⟩ := hx
  exact ⟨by rw [hr]; exact q1, by rw [hr]; exact q2, hy, by rw [h1]; exact q4, fun z hz => sx_eq (g.2.1 z hz).2.1 (fun a _ _ => hS a (by omega) (by omega)) (q5 z hz), h82, h83⟩
theorem im_mk {σ σ' : js_S} {y y' : js_Y} {sn : Option js_Y} {tx tx' : List Int32} (hr : σ'.2.2 = σ.2.2) (hS : ∀ a, a = 392 ∨ a = 394 ∨ a = 396 ∨ a = 412 → σ'.1 a = σ.1 a) (h0 : ∀ b, b = 7 ∨ b = 8 → σ'.1 390 b = σ.1 390 b) (h15 : σ'.1 390 15 = nI tx'.length) (h400 : vw_ σ' 400 0 tx') (hy : sm_ σ' 391 393 395 6 y') (hx : im_ σ y sn tx) : im_ σ' y' sn tx' := by
  obtain ⟨q1, q2, q3, q4, q5, q6, q7⟩ := hx
  exact ⟨by rw [hr]; exact q1, hy, by rw [h0 8 (by omega)]; exact q3, fun z hz => sm_eq (hS _ (by omega)) (hS _ (by omega)) (hS _ (by omega)) (h0 _ (by omega)) (q4 z hz), h15, h400, fun k => by rw [hS 412 (by omega)]; exact q7 k⟩
/-- the model's parse from a state of the machine -/
theorem m_parse0 {σ : js_S} {y : js_Y} {w : List Int32} {p : Nat} (g : gy_ y) (hw : w.length ≤ 80) (hp : p ≤ w.length) (hl : lm_ σ.2.2) (ha : ∀ f, f < 3 → σ.1 391 f = nI (y.1 f)) (h15 : σ.1 390 15 = nI w.length) (h400 : vw_ σ 400 0 w) (h16 : σ.1 390 16 = nI p) : ∃ σ', fX12_parsesTerm 5000 60 390 (uI_ σ 401 0 0) = some (bi_ (pt_ y.1 w 60 p []).1, σ') ∧ fp_ σ σ' ∧ mq_ σ' y.1 w (pt_ y.1 w 60 p []).2.1 (pt_ y.1 w 60 p []).2.2 := by
  have f0 : fp_ σ (uI_ σ 401 0 0) := ⟨rfl, fun a b q1 _ => uI_ne (fun z => q1 z.1)⟩
  have m0 : mq_ (uI_ σ 401 0 0) y.1 w p [] := ⟨hl, fun f hf => by rw [uI_ne (by omega)]; exact ha f hf, by rw [uI_ne (by omega)]; exact h15, vw_eq (uI_row (by omega)) h400, by rw [uI_ne (by omega)]; exact h16, uI_same, fun k hk => by simp at hk⟩
  obtain ⟨σ1, r1, f1, m1⟩ := m_parses g.1 hw 60 p [] _ hp (by simp) (by omega) m0
  exact ⟨σ1, r1, fp_tr f0 f1, m1⟩
theorem fp_fm {σ σ' : js_S} (h : fp_ σ σ') : fm_ σ σ' := ⟨by rw [h.1], fun a _ => by rw [h.1], fun a b q => h.2 a b (fun z => q (by unfold sM_; omega)) (fun z => q (by unfold sM_; omega))⟩
theorem im_clear {σ : js_S} {y : js_Y} {sn : Option js_Y} {tx : List Int32} (h : im_ σ y sn tx) : im_ (uI_ σ 390 15 0) y sn [] := im_tx (σ := σ) rfl (fun a b q _ => uI_ne q) uI_same (fun k hk => by simp at hk) h
theorem op_parseTerm {σ : js_S} {y : js_Y} {sn : Option js_Y} {tx : List Int32} (h : iv_ σ y sn tx) (x : Int32) : ∃ r σ1 σ2 y' tx', fX11_parseTerm 5000 1 x σ = some (r, σ1) ∧ fX12_parseTerm 5000 390 x σ1 = some (r, σ2) ∧ iv_ σ2 y' sn tx' ∧ ce2_ σ σ2 ∧ y'.1 = y.1 ∧ y'.2.1 = y.2.1 := by
  have gy := h.2.2.1
  have h80 := h.2.2.2.2
  have hl := h.1.1
  by_cases hc : ∃ i, i < 4 ∧ x = nI i
  · obtain ⟨i, hi, rfl⟩ := hc
    -- the class up to the emptied text
    have f0 : fi_ (fun a => a = 82) σ (uI_ σ 82 3 0) := fi_u rfl
    have t364 : to_ σ 364 := to_of hl (by omega) (by decide +kernel)
    obtain ⟨σ1, r1, f1, e2, e3, t1⟩ := x_readTerm (σ := uI_ σ 82 3 0) (a := y.1) (w := tx) (o := 364) (p := 0) gy.1 h80 (by omega) (by omega) hl (sg_fi f0 (by omega) h.1.2.2.1.1) (by rw [uI_ne (by omega)]; exact h.1.2.2.2.2.2.1) (vw_fi f0 (by omega) h.1.2.2.2.2.2.2) uI_same t364
    have fa : fi_ (fun a => a = 82 ∨ a = 84 ∨ a = 364 ∨ a = 365) σ (uI_ σ1 82 2 0) := fi_tr (fi_tr f0 f1 (S3 := fun a => a = 82 ∨ a = 84 ∨ a = 364 ∨ a = 365) (fun a q => by omega) (fun a q => by omega)) (fi_u (S := fun a => a = 82) rfl) (fun a q => q) (fun a q => by omega)
    have hla : lx_ (uI_ σ1 82 2 0).2.2 := by rw [fi_r fa]; exact hl
    have hl1 : lx_ σ1.2.2 := hla
    have hxa : ix_ (uI_ σ1 82 2 0) y sn [] := ix_mk h.2.2 (fi_r fa) (by rw [fa.2 1 (by omega)]) (fun a q1 q2 => fa.2 a (by omega)) (sx_eq gy.2.1 (fun a q1 q2 => fa.2 a (by omega)) h.1.2.2.1) uI_same (fun k hk => by simp at hk) h.1
    have hma : im_ (uI_ σ1 82 2 0) y sn tx := im_x (fun a ha => fa.2 a (by omega)) (fun o _ => by rw [fi_r fa]) h.2.1
    have cea : ce2_ σ (uI_ σ1 82 2 0) := ce2_fi fa (fun a q => by omega)
    have g0 : gs_ y sn [] := ⟨gy, h.2.2.2.1, by simp⟩
    have pg := pt_pg (a := y.1) (w := tx) (d := 60) (p := 0) (acc := []) (by omega)
    have hlen : (pt_ y.1 tx 60 0 []).2.2.length ≤ 80 := by
      have q1 := pg.2.2
      have q2 := pg.2.1
      have q3 : ([] : List Int32).length = 0 := rfl
      omega
    -- the model's run from a state s that the class may have changed
    have mrun : ∀ s : js_S, im_ s y sn tx → ∃ s', fX12_parsesTerm 5000 60 390 (uI_ (uI_ s 390 16 0) 401 0 0) = some (bi_ (pt_ y.1 tx 60 0 []).1, s') ∧ fm_ s s' ∧ mq_ s' y.1 tx (pt_ y.1 tx 60 0 []).2.1 (pt_ y.1 tx 60 0 []).2.2 := by
      intro s hs
      have q1 : fm_ s (uI_ s 390 16 0) := fm_u (by unfold sM_; omega)
      have hs1 := im_fm q1 hs
      obtain ⟨s', r, f, m⟩ := m_parse0 (σ := uI_ s 390 16 0) (w := tx) (p := 0) gy h80 (by omega) hs1.1 hs1.2.1.1 hs1.2.2.2.2.1 hs1.2.2.2.2.2.1 uI_same
      exact ⟨s', r, fm_tr q1 (fp_fm f), m⟩
    unfold fX11_parseTerm fX10_readWholeTerm fX12_parseTerm
    rw [x_reg hi, bd_s, if_neg (by decide), lx_1_3 hl, lx_1_0 hl, lx_2_0 hl, lx_1_7 hl, lt_s_, r1, bd_s, e2, e3]
    by_cases ok : (pt_ y.1 tx 60 0 []).1 = true ∧ (pt_ y.1 tx 60 0 []).2.1 = tx.length
    · have ht := t1 ok.1
      obtain ⟨t, et, wt⟩ := pt_wt ok.1
      rw [List.nil_append] at et
      have eqp : nI (pt_ y.1 tx 60 0 []).2.1 = nI tx.length := by rw [ok.2]
      have hs1 : (uI_ σ1 82 2 0).1 364 1 = nI (pt_ y.1 tx 60 0 []).2.2.length := by rw [uI_ne (by omega)]; exact ht.1
      rw [ok.1, bi_t, if_neg (by decide), if_pos eqp, bd_s, lx_1_3 hl1]
      unfold fX10_empty
      rw [lt_s_, bd_s, if_neg (by decide), lx_1_7 hla, hs1]
      by_cases c40 : (pt_ y.1 tx 60 0 []).2.2.length ≤ 40
      · have gt : gt_ y.1 (pt_ y.1 tx 60 0 []).2.2 := ⟨by rw [et]; exact wt, c40⟩
        have hta : tm_ (uI_ σ1 82 2 0) 364 (pt_ y.1 tx 60 0 []).2.2 := tm_eq (uI_row (by omega)) (uI_row (by omega)) ht
        obtain ⟨σb, rb, fb, tb⟩ := x_store (r := i) hla hi (to_fi fa t364) hta (by omega)
        have hxb := ix_st hi g0 fb tb hxa
        have hmb : im_ σb y sn tx := im_x (fun a ha => fb.2 a (by omega)) (fun o _ => by rw [fi_r fb]) hma
        obtain ⟨σc, rc, fc, mc⟩ := mrun σb hmb
        have hmc := im_fm fc hmb
        have hmd := im_clear hmc
        have hrow : rw_ (uI_ σc 390 15 0) 401 0 (pt_ y.1 tx 60 0 []).2.2 := rw_eq (uI_row (by omega)) mc.2.2.2.2.2
        have gst : gs_ (st_ y i (pt_ y.1 tx 60 0 []).2.2) sn [] := ⟨gy_st gy gt, h.2.2.2.1, by simp⟩
        have c1 : nI (pt_ y.1 tx 60 0 []).2.2.length ≤ 40 := (n_le (b := 40) (by omega) (by omega)).mpr c40
        refine ⟨nI (pt_ y.1 tx 60 0 []).2.2.length, σb, cI_ (uI_ σc 390 15 0) 401 0 395 (96 * i) 96, st_ y i (pt_ y.1 tx 60 0 []).2.2, [], ?_, ?_, ⟨?_, ?_, gst⟩, ?_, rfl, rfl⟩
        · rw [if_pos c1, rb, bd_s]
        · unfold fX12_parseTerm_44
          have hm0 : lm_ (uI_ σb 390 16 0).2.2 := hmb.1
          have hme : lm_ (cI_ (uI_ σc 390 15 0) 401 0 395 (96 * i) 96).2.2 := hmd.1
          have rcp : fX12_copy 5000 401 0 395 (nI (96 * i)) 96 (uI_ σc 390 15 0) = some ((), cI_ (uI_ σc 390 15 0) 401 0 395 (96 * i) 96) := m_copy (i := 0) (n := 96) (by rw [ln_401]; omega) (by rw [ln_395]; omega) (by rw [ln_401]; omega) (by rw [ln_395]; omega) (by omega) (by omega) _
          have eqm : σc.1 390 16 = σc.1 390 15 := by rw [mc.2.2.2.2.1, mc.2.2.1, ok.2]
          rw [m_reg hi, bd_s, if_neg (by decide), lt_s_, lm_13 hm0, ln_401, if_pos (by decide), show Int32.toNatClampNeg 0 = 0 from rfl, lt_s_, rc, bd_s, ok.1, bi_t, if_neg (by decide), if_pos eqm, lt_s_, if_neg (by decide), lm_13 hmd.1, ln_401, if_pos (by decide), hrow.1, if_pos c1, lm_4 hmd.1, n_96, rcp, bd_s, lm_13 hme, ln_401, if_pos (by decide), cI_out (by omega), hrow.1]
        · exact ix_m (σ := σb) gst (fun a ha => funext (fun b => by rw [cI_out (by omega), uI_ne (by omega), fm_row fc (fun b => by unfold sM_; omega)])) (show σc.2.2 = σb.2.2 from fc.1) hxb
        · exact im_st (σ := uI_ σc 390 15 0) hi rfl (fun a b q1 q2 => cI_out q1) g0 (rw_cp hrow c40) hmd
        · exact ce2_tr cea (ce2_tr (ce2_fi fb (fun a q => by omega)) (ce2_tr (ce2_fm fc) (ce2_tr (ce2_fi (fi_u (S := fun a => a = 390) rfl) (fun a q => by omega)) (ce2_fi (fi_c (S := fun a => a = 395) rfl) (fun a q => by omega)))))
      · obtain ⟨σc, rc, fc, mc⟩ := mrun _ hma
        have hmc := im_fm fc hma
        have hmd := im_clear hmc
        have hrow : rw_ (uI_ σc 390 15 0) 401 0 (pt_ y.1 tx 60 0 []).2.2 := rw_eq (uI_row (by omega)) mc.2.2.2.2.2
        have c1 : ¬ nI (pt_ y.1 tx 60 0 []).2.2.length ≤ 40 := fun z => c40 ((n_le (b := 40) (by omega) (by omega)).mp z)
        refine ⟨-6, uI_ σ1 82 2 0, uI_ σc 390 15 0, y, [], ?_, ?_, ⟨?_, hmd, g0⟩, ?_, rfl, rfl⟩
        · rw [if_neg c1]
        · unfold fX12_parseTerm_44
          have hm0 : lm_ (uI_ (uI_ σ1 82 2 0) 390 16 0).2.2 := hma.1
          have eqm : σc.1 390 16 = σc.1 390 15 := by rw [mc.2.2.2.2.1, mc.2.2.1, ok.2]
          rw [m_reg hi, bd_s, if_neg (by decide), lt_s_, lm_13 hm0, ln_401, if_pos (by decide), show Int32.toNatClampNeg 0 = 0 from rfl, lt_s_, rc, bd_s, ok.1, bi_t, if_neg (by decide), if_pos eqm, lt_s_, if_neg (by decide), lm_13 hmd.1, ln_401, if_pos (by decide), hrow.1, if_neg c1]
        · exact ix_m (σ := uI_ σ1 82 2 0) g0 (fun a ha => by rw [uI_row (by omega), fm_row fc (fun b => by unfold sM_; omega)]) (show σc.2.2 = _ from fc.1) hxa
        · exact ce2_tr cea (ce2_tr (ce2_fm fc) (ce2_fi (fi_u (S := fun a => a = 390) rfl) (fun a q => by omega)))
    · -- refused
      have hcls : (if bi_ (pt_ y.1 tx 60 0 []).1 = 0 then some ((0 : Int32), σ1) else if nI (pt_ y.1 tx 60 0 []).2.1 = nI tx.length then some (1, σ1) else some (0, σ1)) = some (0, σ1) := by
        by_cases c : (pt_ y.1 tx 60 0 []).1 = true
        · have c2 : ¬ nI (pt_ y.1 tx 60 0 []).2.1 = nI tx.length := fun z => ok ⟨c, (n_eq (by have := pg.2.1; omega) (by omega)).mp z⟩
          rw [c, bi_t, if_neg (by decide), if_neg c2]
        · rw [show (pt_ y.1 tx 60 0 []).1 = false by simpa using c, bi_f, if_pos rfl]
      rw [hcls, bd_s, lx_1_3 hl1]
      unfold fX10_empty
      rw [lt_s_, bd_s, if_pos rfl, e3]
      obtain ⟨σc, rc, fc, mc⟩ := mrun _ hma
      have hmc := im_fm fc hma
      have hmd := im_clear hmc
      refine ⟨-100 - nI (pt_ y.1 tx 60 0 []).2.1, uI_ σ1 82 2 0, uI_ σc 390 15 0, y, [], rfl, ?_, ⟨?_, hmd, g0⟩, ?_, rfl, rfl⟩
      · have hm0 : lm_ (uI_ (uI_ σ1 82 2 0) 390 16 0).2.2 := hma.1
        have fin : fX12_parseTerm_43 5000 390 (nI i) σc = some (-100 - nI (pt_ y.1 tx 60 0 []).2.1, uI_ σc 390 15 0) := by
          unfold fX12_parseTerm_43 fX12_parseTerm_44
          rw [lt_s_, if_pos rfl, uI_ne (by omega), mc.2.2.2.2.1]
        rw [m_reg hi, bd_s, if_neg (by decide), lt_s_, lm_13 hm0, ln_401, if_pos (by decide), show Int32.toNatClampNeg 0 = 0 from rfl, lt_s_, rc, bd_s, fin, mc.2.2.2.2.1, mc.2.2.1]
        by_cases c : (pt_ y.1 tx 60 0 []).1 = true
        · have c2 : ¬ nI (pt_ y.1 tx 60 0 []).2.1 = nI tx.length := fun z => ok ⟨c, (n_eq (by have := pg.2.1; omega) (by omega)).mp z⟩
          rw [c, bi_t, if_neg (by decide), if_neg c2]
        · rw [show (pt_ y.1 tx 60 0 []).1 = false by simpa using c, bi_f, if_pos rfl]
      · exact ix_m (σ := uI_ σ1 82 2 0) g0 (fun a ha => by rw [uI_row (by omega), fm_row fc (fun b => by unfold sM_; omega)]) (show σc.2.2 = _ from fc.1) hxa
      · exact ce2_tr cea (ce2_tr (ce2_fm fc) (ce2_fi (fi_u (S := fun a => a = 390) rfl) (fun a q => by omega)))
  · refine ⟨-1, σ, σ, y, tx, ?_, ?_, h, ce2_rf, rfl, rfl⟩
    · unfold fX11_parseTerm
      rw [x_noreg hc, bd_s, if_pos rfl]
    · unfold fX12_parseTerm
      rw [m_noreg hc, bd_s, if_pos rfl]
