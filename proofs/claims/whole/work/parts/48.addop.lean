/-! addRule: both sides -/
def qr_ (a : Nat → Nat) (w : List Int32) : Bool × Nat × List Int32 × List Int32 := if (pt_ a w 60 0 []).1 = true ∧ at_ w (pt_ a w 60 0 []).2.1 = 62 then ((pt_ a w 60 ((pt_ a w 60 0 []).2.1 + 1) []).1 && decide ((pt_ a w 60 ((pt_ a w 60 0 []).2.1 + 1) []).2.1 = w.length), (pt_ a w 60 ((pt_ a w 60 0 []).2.1 + 1) []).2.1, (pt_ a w 60 0 []).2.2, (pt_ a w 60 ((pt_ a w 60 0 []).2.1 + 1) []).2.2) else (false, (pt_ a w 60 0 []).2.1, [], [])
theorem qr_ok {a : Nat → Nat} {w : List Int32} (hw : w.length ≤ 80) (h : (qr_ a w).1 = true) : wt_ a (qr_ a w).2.2.1 1 ∧ wt_ a (qr_ a w).2.2.2 1 ∧ (qr_ a w).2.2.1.length ≤ 80 ∧ (qr_ a w).2.2.2.length ≤ 80 := by
  unfold qr_ at h ⊢
  by_cases c : (pt_ a w 60 0 []).1 = true ∧ at_ w (pt_ a w 60 0 []).2.1 = 62
  · rw [if_pos c] at h ⊢
    have h1 := (Bool.and_eq_true_iff.mp h).1
    obtain ⟨t, et, wt⟩ := pt_wt c.1
    obtain ⟨t2, et2, wt2⟩ := pt_wt h1
    rw [List.nil_append] at et et2
    have hlt := at_eq_in (by decide) c.2
    have p1 := pt_pg (a := a) (w := w) (d := 60) (p := 0) (acc := []) (by omega)
    have p2 := pt_pg (a := a) (w := w) (d := 60) (p := (pt_ a w 60 0 []).2.1 + 1) (acc := []) hlt
    have q0 : ([] : List Int32).length = 0 := rfl
    refine ⟨by show wt_ a (pt_ a w 60 0 []).2.2 1; rw [et]; exact wt, by show wt_ a (pt_ a w 60 ((pt_ a w 60 0 []).2.1 + 1) []).2.2 1; rw [et2]; exact wt2, ?_, ?_⟩
    · show (pt_ a w 60 0 []).2.2.length ≤ 80
      have := p1.2.2
      have := p1.2.1
      omega
    · show (pt_ a w 60 ((pt_ a w 60 0 []).2.1 + 1) []).2.2.length ≤ 80
      have := p2.2.2
      have := p2.2.1
      omega
  · rw [if_neg c] at h
    exact absurd h Bool.false_ne_true
theorem wt_ne {a : Nat → Nat} {t : List Int32} (h : wt_ a t 1) : 0 < t.length := by
  cases t with
  | nil => exact absurd h (by show ¬ 1 = 0; omega)
  | cons s t => simp
theorem x_readRule {σ : js_S} {a : Nat → Nat} {w : List Int32} {n : Nat} (hga : ga_ a) (hw : w.length ≤ 80) (hn : n < 6) (hl : lx_ σ.2.2) (hg : sg_ σ 3 a) (h2 : σ.1 82 2 = nI w.length) (hv : vw_ σ 83 0 w) : ∃ σ', fX10_readRule 5000 82 3 (10 + 4 * n) (12 + 4 * n) σ = some (bi_ (qr_ a w).1, σ') ∧ fi_ (fun z => z = 82 ∨ z = 84 ∨ (10 + 4 * n ≤ z ∧ z ≤ 13 + 4 * n)) σ σ' ∧ σ'.1 82 3 = nI (qr_ a w).2.1 ∧ ((qr_ a w).1 = true → tm_ σ' (10 + 4 * n) (qr_ a w).2.2.1 ∧ tm_ σ' (12 + 4 * n) (qr_ a w).2.2.2) := by
  have f0 : fi_ (fun a => a = 82) σ (uI_ σ 82 3 0) := fi_u rfl
  have toL := to_left hl n hn
  have toR := to_right hl n hn
  obtain ⟨σ1, r1, f1, e2, e3, t1⟩ := x_readTerm (σ := uI_ σ 82 3 0) (a := a) (w := w) (o := 10 + 4 * n) (p := 0) hga hw (by omega) (by omega) hl (sg_fi f0 (by omega) hg) (by rw [uI_ne (by omega)]; exact h2) (vw_fi f0 (by omega) hv) uI_same toL
  have pg := pt_pg (a := a) (w := w) (d := 60) (p := 0) (acc := []) (by omega)
  have f01 : fi_ (fun z => z = 82 ∨ z = 84 ∨ (10 + 4 * n ≤ z ∧ z ≤ 13 + 4 * n)) σ σ1 := fi_tr f0 f1 (fun a q => by omega) (fun a q => by omega)
  have hl1 : lx_ σ1.2.2 := by rw [fi_r f01]; exact hl
  have hv1 := vw_fi f01 (by omega) hv
  have hg1 := sg_fi (o := 3) f01 (by omega) hg
  unfold fX10_readRule
  rw [lt_s_, r1, bd_s]
  have q1 : (pt_ a w 60 0 []).1 = true → xq_ σ1 a w (10 + 4 * n) (pt_ a w 60 0 []).2.1 (pt_ a w 60 0 []).2.2 [] := fun h => ⟨hl1, hg1, e2, hv1, e3, to_fi f01 toL, t1 h, trivial⟩
  unfold qr_
  by_cases c1 : (pt_ a w 60 0 []).1 = true
  · rw [c1, bi_t, if_neg (by decide), x10_take hw pg.2.1 (q1 c1)]
    by_cases c2 : at_ w (pt_ a w 60 0 []).2.1 = 62
    · have hlt := at_eq_in (by decide) c2
      rw [if_pos c2, bd_s, if_neg (by decide), if_pos ⟨rfl, c2⟩]
      have f2 : fi_ (fun z => z = 82) σ1 (uI_ σ1 82 3 (nI ((pt_ a w 60 0 []).2.1 + 1))) := fi_u rfl
      obtain ⟨σ3, r3, f3, e5, e6, t3⟩ := x_readTerm (σ := uI_ σ1 82 3 (nI ((pt_ a w 60 0 []).2.1 + 1))) (a := a) (w := w) (o := 12 + 4 * n) (p := (pt_ a w 60 0 []).2.1 + 1) hga hw hlt (by omega) hl1 (sg_fi f2 (by omega) hg1) (by rw [uI_ne (by omega)]; exact e2) (vw_fi f2 (by omega) hv1) uI_same (to_fi f2 (to_fi f01 toR))
      have pg2 := pt_pg (a := a) (w := w) (d := 60) (p := (pt_ a w 60 0 []).2.1 + 1) (acc := []) hlt
      refine ⟨σ3, ?_, ?_, e6, fun h => ⟨?_, t3 (Bool.and_eq_true_iff.mp h).1⟩⟩
      · rw [r3, bd_s, e5, e6]
        by_cases c3 : (pt_ a w 60 ((pt_ a w 60 0 []).2.1 + 1) []).1 = true
        · rw [c3, bi_t, if_neg (by decide), Bool.true_and]
          by_cases c4 : (pt_ a w 60 ((pt_ a w 60 0 []).2.1 + 1) []).2.1 = w.length
          · rw [if_pos (by rw [c4]), decide_eq_true c4]
            rfl
          · have e7 : ¬ nI (pt_ a w 60 ((pt_ a w 60 0 []).2.1 + 1) []).2.1 = nI w.length := fun z => c4 ((n_eq (by have := pg2.2.1; omega) (by omega)).mp z)
            rw [if_neg e7, decide_eq_false c4]
            rfl
        · rw [show (pt_ a w 60 ((pt_ a w 60 0 []).2.1 + 1) []).1 = false by simpa using c3, bi_f, if_pos rfl]
          rfl
      · exact fi_tr f01 (fi_tr f2 f3 (S3 := fun z => z = 82 ∨ z = 84 ∨ (10 + 4 * n ≤ z ∧ z ≤ 13 + 4 * n)) (fun a q => by omega) (fun a q => by omega)) (fun a q => q) (fun a q => q)
      · exact tm_fi f3 (by omega) (by omega) (tm_fi f2 (by omega) (by omega) (t1 c1))
    · rw [if_neg c2, bd_s, if_pos rfl, if_neg (fun z => c2 z.2)]
      exact ⟨σ1, rfl, f01, e3, fun h => absurd h Bool.false_ne_true⟩
  · rw [show (pt_ a w 60 0 []).1 = false by simpa using c1, bi_f, if_pos rfl, if_neg (fun z => Bool.false_ne_true z.1)]
    exact ⟨σ1, rfl, f01, e3, fun h => absurd h Bool.false_ne_true⟩
theorem m_ar44 {s : js_S} : fX12_addRule_44 5000 390 s = fX12_addRule_96 5000 390 0 s := by
  unfold fX12_addRule_44 fX12_addRule_45
  rw [if_pos rfl]
theorem m_readRule {s : js_S} {y : js_Y} {sn : Option js_Y} {tx : List Int32} (gy : gy_ y) (h80 : tx.length ≤ 80) (hs : im_ s y sn tx) (h6 : y.2.1.length < 6) : ∃ s', fX12_addRule 5000 390 s = fX12_addRule_96 5000 390 (bi_ (qr_ y.1 tx).1) s' ∧ fm_ s s' ∧ s'.1 390 16 = nI (qr_ y.1 tx).2.1 ∧ ((qr_ y.1 tx).1 = true → rw_ s' 402 0 (qr_ y.1 tx).2.2.1 ∧ rw_ s' 401 0 (qr_ y.1 tx).2.2.2) := by
  have g0 : fm_ s (uI_ s 390 16 0) := fm_u (by unfold sM_; omega)
  have hs0 := im_fm g0 hs
  obtain ⟨s1, r1, f1, m1⟩ := m_parse0 (σ := uI_ s 390 16 0) (w := tx) (p := 0) gy h80 (by omega) hs0.1 hs0.2.1.1 hs0.2.2.2.2.1 hs0.2.2.2.2.2.1 uI_same
  have g1 : fm_ s s1 := fm_tr g0 (fp_fm f1)
  have hs1 := im_fm g1 hs
  have pg := pt_pg (a := y.1) (w := tx) (d := 60) (p := 0) (acc := []) (by omega)
  have c6 : ¬ nI y.2.1.length = 6 := fun z => by have := (n_eq (b := 6) (by omega) (by omega)).mp z; omega
  unfold fX12_addRule
  rw [hs.2.1.2.1, if_neg c6, lt_s_, lm_13 hs0.1, ln_401, if_pos (by decide), show Int32.toNatClampNeg 0 = 0 from rfl, lt_s_, r1, bd_s]
  unfold qr_
  by_cases c1 : (pt_ y.1 tx 60 0 []).1 = true
  · rw [c1, bi_t, if_neg (by decide), m_accepts (by decide) h80 pg.2.1 m1]
    by_cases c2 : at_ tx (pt_ y.1 tx 60 0 []).2.1 = 62
    · have hlt := at_eq_in (by decide) c2
      rw [if_pos c2, bd_s, if_neg (by decide), if_pos ⟨rfl, c2⟩]
      have g2 : fm_ s1 (uI_ s1 390 16 (nI ((pt_ y.1 tx 60 0 []).2.1 + 1))) := fm_u (by unfold sM_; omega)
      have l1 : lm_ (uI_ s1 390 16 (nI ((pt_ y.1 tx 60 0 []).2.1 + 1))).2.2 := hs1.1
      have rcp : fX12_copy 5000 401 0 402 0 96 (uI_ s1 390 16 (nI ((pt_ y.1 tx 60 0 []).2.1 + 1))) = some ((), cI_ (uI_ s1 390 16 (nI ((pt_ y.1 tx 60 0 []).2.1 + 1))) 401 0 402 0 96) := m_copy (i := 0) (j := 0) (n := 96) (by rw [ln_401]; omega) (by rw [ln_402]; omega) (by rw [ln_401]; omega) (by rw [ln_402]; omega) (by omega) (by omega) _
      have g3 : fm_ (uI_ s1 390 16 (nI ((pt_ y.1 tx 60 0 []).2.1 + 1))) (cI_ (uI_ s1 390 16 (nI ((pt_ y.1 tx 60 0 []).2.1 + 1))) 401 0 402 0 96) := fm_fi (fi_c (S := fun a => a = 402) rfl) (fun a b q z => q (by unfold sM_; omega))
      have hs3 := im_fm (fm_tr g2 g3) hs1
      have rowL : rw_ (cI_ (uI_ s1 390 16 (nI ((pt_ y.1 tx 60 0 []).2.1 + 1))) 401 0 402 0 96) 402 0 (pt_ y.1 tx 60 0 []).2.2 := by
        have hlen : (pt_ y.1 tx 60 0 []).2.2.length ≤ 80 := by
          have q1 := pg.2.2
          have q2 := pg.2.1
          have q0 : ([] : List Int32).length = 0 := rfl
          omega
        exact rw_cp0 (by omega) (rw_eq (uI_row (by omega)) m1.2.2.2.2.2)
      have h16 : (cI_ (uI_ s1 390 16 (nI ((pt_ y.1 tx 60 0 []).2.1 + 1))) 401 0 402 0 96).1 390 16 = nI ((pt_ y.1 tx 60 0 []).2.1 + 1) := by
        rw [cI_out (by omega), uI_same]
      obtain ⟨s4, r4, f4, m4⟩ := m_parse0 (w := tx) (p := (pt_ y.1 tx 60 0 []).2.1 + 1) gy h80 hlt hs3.1 hs3.2.1.1 hs3.2.2.2.2.1 hs3.2.2.2.2.2.1 h16
      have pg2 := pt_pg (a := y.1) (w := tx) (d := 60) (p := (pt_ y.1 tx 60 0 []).2.1 + 1) (acc := []) hlt
      refine ⟨s4, ?_, fm_tr g1 (fm_tr g2 (fm_tr g3 (fp_fm f4))), m4.2.2.2.2.1, fun _ => ⟨rw_eq (funext fun b => f4.2 402 b (by omega) (by omega)) rowL, m4.2.2.2.2.2⟩⟩
      unfold fX12_addRule_45
      rw [if_neg (show ¬ ((1 : Int32) = 0) from by decide), lm_13 l1, lm_14 l1, rcp, bd_s, lm_13 hs3.1, ln_401, if_pos (by decide), lt_s_, show Int32.toNatClampNeg 0 = 0 from rfl, r4, bd_s]
      unfold fX12_addRule_94 fX12_addRule_95
      rw [m4.2.2.2.2.1, m4.2.2.1]
      by_cases c3 : (pt_ y.1 tx 60 ((pt_ y.1 tx 60 0 []).2.1 + 1) []).1 = true
      · rw [c3, bi_t, if_neg (by decide), Bool.true_and]
        by_cases c4 : (pt_ y.1 tx 60 ((pt_ y.1 tx 60 0 []).2.1 + 1) []).2.1 = tx.length
        · rw [if_pos (by rw [c4]), decide_eq_true c4]
          rfl
        · have e7 : ¬ nI (pt_ y.1 tx 60 ((pt_ y.1 tx 60 0 []).2.1 + 1) []).2.1 = nI tx.length := fun z => c4 ((n_eq (by have := pg2.2.1; omega) (by omega)).mp z)
          rw [if_neg e7, decide_eq_false c4]
          rfl
      · rw [show (pt_ y.1 tx 60 ((pt_ y.1 tx 60 0 []).2.1 + 1) []).1 = false by simpa using c3, bi_f, if_pos rfl]
        rfl
    · rw [if_neg c2, bd_s, if_pos rfl, m_ar44, if_neg (fun z => c2 z.2)]
      exact ⟨s1, rfl, g1, m1.2.2.2.2.1, fun h => absurd h Bool.false_ne_true⟩
  · rw [show (pt_ y.1 tx 60 0 []).1 = false by simpa using c1, bi_f, if_pos rfl, m_ar44, if_neg (fun z => Bool.false_ne_true z.1)]
    exact ⟨s1, rfl, g1, m1.2.2.2.2.1, fun h => absurd h Bool.false_ne_true⟩
theorem op_addRule {σ : js_S} {y : js_Y} {sn : Option js_Y} {tx : List Int32} (h : iv_ σ y sn tx) : ∃ r σ1 σ2 y' tx', fX11_addRule 5000 1 σ = some (r, σ1) ∧ fX12_addRule 5000 390 σ1 = some (r, σ2) ∧ iv_ σ2 y' sn tx' ∧ ((ce2_ σ σ2 ∧ y' = y) ∨ cz_ σ2) := by
  have gy := h.2.2.1
  have h80 := h.2.2.2.2
  have hl := h.1.1
  have hn6 := gy.2.1
  have g0 : gs_ y sn [] := ⟨gy, h.2.2.2.1, by simp⟩
  by_cases h6 : y.2.1.length < 6
  · have c6 : nI y.2.1.length < 6 := (n_lt (b := 6) (by omega) (by omega)).mpr h6
    obtain ⟨σ1, r1, f1, e3, t1⟩ := x_readRule (σ := σ) (a := y.1) (w := tx) gy.1 h80 h6 hl h.1.2.2.1.1 h.1.2.2.2.2.2.1 h.1.2.2.2.2.2.2
    have fa : fi_ (fun z => z = 82 ∨ z = 84 ∨ (10 + 4 * y.2.1.length ≤ z ∧ z ≤ 13 + 4 * y.2.1.length)) σ (uI_ σ1 82 2 0) := fi_tr f1 (fi_u (S := fun a => a = 82) rfl) (fun a q => q) (fun a q => by omega)
    have hla : lx_ (uI_ σ1 82 2 0).2.2 := by rw [fi_r fa]; exact hl
    have hl1 : lx_ σ1.2.2 := hla
    -- the class's system, its free rows apart
    have hsx : sx_ (uI_ σ1 82 2 0) 2 y := by
      obtain ⟨q1, q2, q3, q4⟩ := h.1.2.2.1
      refine ⟨sg_fi fa (by omega) q1, by rw [fa.2 2 (by omega)]; exact q2, fun i hi => ⟨?_, ?_⟩, fun i hi => ?_⟩
      · exact tm_fi fa (by omega) (by omega) (q3 i hi).1
      · exact tm_fi fa (by omega) (by omega) (q3 i hi).2
      · exact tm_fi fa (by omega) (by omega) (q4 i hi)
    have hxa : ix_ (uI_ σ1 82 2 0) y sn [] := ix_mk h.2.2 (fi_r fa) (by rw [fa.2 1 (by omega)]) (fun a q1 q2 => fa.2 a (by omega)) hsx uI_same (fun k hk => by simp at hk) h.1
    have hma : im_ (uI_ σ1 82 2 0) y sn tx := im_x (fun a ha => fa.2 a (by omega)) (fun o _ => by rw [fi_r fa]) h.2.1
    have cea : ce2_ σ (uI_ σ1 82 2 0) := ce2_fi fa (fun a q => by omega)
    have hcls : fX11_addRule 5000 1 σ = if bi_ (qr_ y.1 tx).1 = 0 then some (-100 - nI (qr_ y.1 tx).2.1, uI_ σ1 82 2 0) else bd_ (fX11_isRule 5000 (10 + 4 * y.2.1.length) (12 + 4 * y.2.1.length) (uI_ σ1 82 2 0)) fun r17 σ17 => (if r17 = 0 then (some ((-6), σ17)) else (lt_ (uI_ σ17 (σ17.2.2 1 0) 5 ((σ17.1 (σ17.2.2 1 0) 5) + 1)) fun σ20 => (bd_ (fX11_rulesChanged 5000 1 σ20) fun _ σ21 => (some (((σ21.1 (σ21.2.2 1 0) 5) - 1), σ21))))) := by
      unfold fX11_addRule
      rw [lx_1_0 hl, h.1.2.2.1.2.1, if_pos c6, x6_left hl h6, bd_s, lx_1_0 hl, h.1.2.2.1.2.1, x6_right hl h6, bd_s, lx_1_3 hl, lx_1_0 hl, lx_2_0 hl, r1, bd_s, lx_1_3 hl1]
      unfold fX10_empty
      rw [lt_s_, bd_s, e3]
    rw [hcls]
    by_cases cq : (qr_ y.1 tx).1 = true
    · obtain ⟨w1, w2, l80, r80⟩ := qr_ok h80 cq
      obtain ⟨tL, tR⟩ := t1 cq
      have tLa : tm_ (uI_ σ1 82 2 0) (10 + 4 * y.2.1.length) (qr_ y.1 tx).2.2.1 := tm_eq (uI_row (by omega)) (uI_row (by omega)) tL
      have tRa : tm_ (uI_ σ1 82 2 0) (12 + 4 * y.2.1.length) (qr_ y.1 tx).2.2.2 := tm_eq (uI_row (by omega)) (uI_row (by omega)) tR
      rw [cq, bi_t, if_neg (by decide), x_isRule (to_left hla _ h6) tLa (to_right hla _ h6) tRa l80 r80 (wt_ne w1), bd_s]
      by_cases cv : vr_ (qr_ y.1 tx).2.2.1 (qr_ y.1 tx).2.2.2 = true
      · -- accepted
        have gar := gy_ar gy h6 w1 w2 cv
        have gsr : gs_ (ar_ y (qr_ y.1 tx).2.2.1 (qr_ y.1 tx).2.2.2) sn [] := ⟨gar, h.2.2.2.1, by simp⟩
        have v40 : (qr_ y.1 tx).2.2.1.length ≤ 40 ∧ (qr_ y.1 tx).2.2.2.length ≤ 40 := by
          unfold vr_ at cv
          simp only [Bool.and_eq_true, decide_eq_true_eq] at cv
          exact ⟨cv.1, cv.2.1⟩
        have rlen : (ar_ y (qr_ y.1 tx).2.2.1 (qr_ y.1 tx).2.2.2).2.1.length = y.2.1.length + 1 := by
          show (y.2.1 ++ [_]).length = _
          rw [List.length_append, List.length_singleton]
        have fb : fi_ (fun z => z = 1 ∨ z = 2) (uI_ σ1 82 2 0) (rc_ (uI_ (uI_ σ1 82 2 0) 2 5 (nI (y.2.1.length + 1)))) := fi_tr (fi_u (S := fun z => z = 2) rfl) rc_fi (fun a q => by omega) (fun a q => by omega)
        have hsb : sx_ (rc_ (uI_ (uI_ σ1 82 2 0) 2 5 (nI (y.2.1.length + 1)))) 2 (ar_ y (qr_ y.1 tx).2.2.1 (qr_ y.1 tx).2.2.2) := by
          obtain ⟨q1, q2, q3, q4⟩ := hsx
          refine ⟨sg_fi fb (by omega) q1, ?_, fun i hi => ?_, fun i hi => tm_fi fb (by omega) (by omega) (q4 i hi)⟩
          · rw [rc_fi.2 2 (by omega), uI_same, rlen]
          · rw [rlen] at hi
            rw [rl_ar hi]
            by_cases c : i < y.2.1.length
            · rw [if_pos c]
              exact ⟨tm_fi fb (by omega) (by omega) (q3 i c).1, tm_fi fb (by omega) (by omega) (q3 i c).2⟩
            · rw [if_neg c, show i = y.2.1.length by omega]
              exact ⟨tm_fi fb (by omega) (by omega) tLa, tm_fi fb (by omega) (by omega) tRa⟩
        have hxb : ix_ (rc_ (uI_ (uI_ σ1 82 2 0) 2 5 (nI (y.2.1.length + 1)))) (ar_ y (qr_ y.1 tx).2.2.1 (qr_ y.1 tx).2.2.2) sn [] := ix_mk g0 (fi_r fb) (by rw [rc_2, uI_ne (by omega)]) (fun a q1 q2 => fb.2 a (by omega)) hsb (by rw [fb.2 82 (by omega)]; exact uI_same) (fun k hk => by simp at hk) hxa
        have hmb : im_ (rc_ (uI_ (uI_ σ1 82 2 0) 2 5 (nI (y.2.1.length + 1)))) y sn tx := im_x (fun a ha => fb.2 a (by omega)) (fun o _ => by rw [fi_r fb]) hma
        obtain ⟨σc, rc, fc, ec, tc⟩ := m_readRule gy h80 hmb h6
        obtain ⟨rowL, rowR⟩ := tc cq
        have hmc := im_fm fc hmb
        have hmd := im_clear hmc
        have rowL' : rw_ (uI_ σc 390 15 0) 402 0 (qr_ y.1 tx).2.2.1 := rw_eq (uI_row (by omega)) rowL
        have rowR' : rw_ (uI_ σc 390 15 0) 401 0 (qr_ y.1 tx).2.2.2 := rw_eq (uI_row (by omega)) rowR
        have rcL : fX12_copy 5000 402 0 393 (nI (192 * y.2.1.length)) 96 (uI_ σc 390 15 0) = some ((), cI_ (uI_ σc 390 15 0) 402 0 393 (192 * y.2.1.length) 96) := m_copy (i := 0) (n := 96) (by rw [ln_402]; omega) (by rw [ln_393]; omega) (by rw [ln_402]; omega) (by rw [ln_393]; omega) (by omega) (by omega) _
        have rcR : fX12_copy 5000 401 0 393 (nI (192 * y.2.1.length + 96)) 96 (cI_ (uI_ σc 390 15 0) 402 0 393 (192 * y.2.1.length) 96) = some ((), cI_ (cI_ (uI_ σc 390 15 0) 402 0 393 (192 * y.2.1.length) 96) 401 0 393 (192 * y.2.1.length + 96) 96) := m_copy (i := 0) (n := 96) (by rw [ln_401]; omega) (by rw [ln_393]; omega) (by rw [ln_401]; omega) (by rw [ln_393]; omega) (by omega) (by omega) _
        refine ⟨nI y.2.1.length, rc_ (uI_ (uI_ σ1 82 2 0) 2 5 (nI (y.2.1.length + 1))), uI_ (cI_ (cI_ (uI_ σc 390 15 0) 402 0 393 (192 * y.2.1.length) 96) 401 0 393 (192 * y.2.1.length + 96) 96) 390 6 (nI (y.2.1.length + 1)), ar_ y (qr_ y.1 tx).2.2.1 (qr_ y.1 tx).2.2.2, [], ?_, ?_, ⟨?_, ?_, gsr⟩, Or.inr ?_⟩
        · have hlb : lx_ (rc_ (uI_ (uI_ σ1 82 2 0) 2 5 (nI (y.2.1.length + 1)))).2.2 := by rw [fi_r fb]; exact hla
          rw [cv, bi_t, if_neg (by decide), lx_1_0 hla, hsx.2.1, show nI y.2.1.length + 1 = nI (y.2.1.length + 1) from n_add y.2.1.length 1, lt_s_, x_rulesChanged, bd_s, lx_1_0 hlb, hsb.2.1, rlen, n_pred (by omega)]
          rfl
        · have hmd2 : lm_ (cI_ (uI_ σc 390 15 0) 402 0 393 (192 * y.2.1.length) 96).2.2 := hmd.1
          have e6 : (uI_ σc 390 15 0).1 390 6 = nI y.2.1.length := hmd.2.1.2.1
          have e62 : (cI_ (uI_ σc 390 15 0) 402 0 393 (192 * y.2.1.length) 96).1 390 6 = nI y.2.1.length := by rw [cI_out (by omega)]; exact e6
          have e63 : (cI_ (cI_ (uI_ σc 390 15 0) 402 0 393 (192 * y.2.1.length) 96) 401 0 393 (192 * y.2.1.length + 96) 96).1 390 6 = nI y.2.1.length := by rw [cI_out (by omega)]; exact e62
          rw [rc, cq, bi_t]
          unfold fX12_addRule_96 fX12_left fX12_right
          rw [lt_s_, if_neg (by decide), m_isValidRule hmd.1 rowL' rowR' l80 r80 (wt_ne w1), bd_s, cv, bi_t, if_neg (by decide), e6, n_left, bd_s, lm_14 hmd.1, lm_2 hmd.1, rcL, bd_s, e62, n_right, bd_s, lm_13 hmd2, lm_2 hmd2, rcR, bd_s, e63, lt_s_, uI_same, show nI y.2.1.length + 1 = nI (y.2.1.length + 1) from n_add y.2.1.length 1, n_pred (by omega)]
          rfl
        · exact ix_m (σ := rc_ (uI_ (uI_ σ1 82 2 0) 2 5 (nI (y.2.1.length + 1)))) gsr (fun a ha => by
            rw [uI_row (by omega)]
            funext b
            rw [cI_out (by omega), cI_out (by omega), uI_ne (by omega), fm_row fc (fun b => by unfold sM_; omega)]) (show σc.2.2 = _ from fc.1) hxb
        · have ka : ∀ a, a ≠ 390 → a ≠ 393 → (uI_ (cI_ (cI_ (uI_ σc 390 15 0) 402 0 393 (192 * y.2.1.length) 96) 401 0 393 (192 * y.2.1.length + 96) 96) 390 6 (nI (y.2.1.length + 1))).1 a = (uI_ σc 390 15 0).1 a := fun a q1 q2 => by
            rw [uI_row q1]
            funext b
            rw [cI_out (by omega), cI_out (by omega)]
          refine im_mk (σ := uI_ σc 390 15 0) (tx := []) rfl (fun a q => ka a (by omega) (by omega)) (fun b q => by rw [uI_ne (by omega), cI_out (by omega), cI_out (by omega)]) (by rw [uI_ne (by omega), cI_out (by omega), cI_out (by omega), uI_same]; rfl) (fun k hk => by simp at hk) ?_ hmd
          obtain ⟨q1, q2, q3, q4⟩ := hmd.2.1
          refine ⟨fun f hf => by rw [ka 391 (by omega) (by omega)]; exact q1 f hf, by rw [uI_same, rlen], fun i hi => ?_, fun i hi => rw_eq (ka 395 (by omega) (by omega)) (q4 i hi)⟩
          rw [rlen] at hi
          rw [rl_ar hi]
          by_cases c : i < y.2.1.length
          · rw [if_pos c]
            have gr := gy.2.2.1 i c
            have k1 := gr.1.2
            have k2 := gr.2.1.2
            refine ⟨⟨?_, fun k hk => ?_⟩, ⟨?_, fun k hk => ?_⟩⟩
            · rw [uI_ne (by omega), cI_out (by omega), cI_out (by omega)]; exact (q3 i c).1.1
            · rw [uI_ne (by omega), cI_out (by omega), cI_out (by omega)]; exact (q3 i c).1.2 k hk
            · rw [uI_ne (by omega), cI_out (by omega), cI_out (by omega)]; exact (q3 i c).2.1
            · rw [uI_ne (by omega), cI_out (by omega), cI_out (by omega)]; exact (q3 i c).2.2 k hk
          · rw [if_neg c, show i = y.2.1.length by omega]
            refine ⟨⟨?_, fun k hk => ?_⟩, ⟨?_, fun k hk => ?_⟩⟩
            · rw [uI_ne (by omega), cI_out (by omega), cI_in (by omega), Nat.sub_self, Nat.add_zero]; exact rowL'.1
            · have hk' : k < (qr_ y.1 tx).2.2.1.length := hk
              rw [uI_ne (by omega), cI_out (by omega), cI_in (by omega), ← rowL'.2 k hk, show 0 + (192 * y.2.1.length + 1 + k - 192 * y.2.1.length) = 0 + 1 + k by omega]
            · rw [uI_ne (by omega), cI_in (by omega), Nat.sub_self, Nat.add_zero, cI_out (by omega)]; exact rowR'.1
            · have hk' : k < (qr_ y.1 tx).2.2.2.length := hk
              rw [uI_ne (by omega), cI_in (by omega), cI_out (by omega), ← rowR'.2 k hk, show 0 + (192 * y.2.1.length + 96 + 1 + k - (192 * y.2.1.length + 96)) = 0 + 1 + k by omega]
        · refine cz_m (σ := rc_ (uI_ (uI_ σ1 82 2 0) 2 5 (nI (y.2.1.length + 1)))) ?_ rc_cz
          rw [uI_row (by omega)]
          funext b
          rw [cI_out (by omega), cI_out (by omega), uI_ne (by omega), fm_row fc (fun b => by unfold sM_; omega)]
      · have cvf : vr_ (qr_ y.1 tx).2.2.1 (qr_ y.1 tx).2.2.2 = false := by simpa using cv
        obtain ⟨σc, rc, fc, ec, tc⟩ := m_readRule gy h80 hma h6
        obtain ⟨rowL, rowR⟩ := tc cq
        have hmc := im_fm fc hma
        have hmd := im_clear hmc
        refine ⟨-6, uI_ σ1 82 2 0, uI_ σc 390 15 0, y, [], ?_, ?_, ⟨?_, hmd, g0⟩, Or.inl ⟨?_, rfl⟩⟩
        · rw [cvf, bi_f, if_pos rfl]
        · rw [rc, cq, bi_t]
          unfold fX12_addRule_96
          rw [lt_s_, if_neg (by decide), m_isValidRule hmd.1 (rw_eq (uI_row (by omega)) rowL) (rw_eq (uI_row (by omega)) rowR) l80 r80 (wt_ne w1), bd_s, cvf, bi_f, if_pos rfl]
        · exact ix_m (σ := uI_ σ1 82 2 0) g0 (fun a ha => by rw [uI_row (by omega), fm_row fc (fun b => by unfold sM_; omega)]) (show σc.2.2 = _ from fc.1) hxa
        · exact ce2_tr cea (ce2_tr (ce2_fm fc) (ce2_fi (fi_u (S := fun a => a = 390) rfl) (fun a q => by omega)))
    · have cqf : (qr_ y.1 tx).1 = false := by simpa using cq
      obtain ⟨σc, rc, fc, ec, tc⟩ := m_readRule gy h80 hma h6
      have hmc := im_fm fc hma
      have hmd := im_clear hmc
      refine ⟨-100 - nI (qr_ y.1 tx).2.1, uI_ σ1 82 2 0, uI_ σc 390 15 0, y, [], ?_, ?_, ⟨?_, hmd, g0⟩, Or.inl ⟨?_, rfl⟩⟩
      · rw [cqf, bi_f, if_pos rfl]
      · rw [rc, cqf, bi_f]
        unfold fX12_addRule_96
        rw [lt_s_, if_pos rfl, uI_ne (by omega), ec]
      · exact ix_m (σ := uI_ σ1 82 2 0) g0 (fun a ha => by rw [uI_row (by omega), fm_row fc (fun b => by unfold sM_; omega)]) (show σc.2.2 = _ from fc.1) hxa
      · exact ce2_tr cea (ce2_tr (ce2_fm fc) (ce2_fi (fi_u (S := fun a => a = 390) rfl) (fun a q => by omega)))
  · have e6 : y.2.1.length = 6 := by omega
    refine ⟨-4, σ, σ, y, tx, ?_, ?_, h, Or.inl ⟨ce2_rf, rfl⟩⟩
    · unfold fX11_addRule
      rw [lx_1_0 hl, h.1.2.2.1.2.1, if_neg (fun z => by have := (n_lt (b := 6) (by omega) (by omega)).mp z; omega)]
    · unfold fX12_addRule
      rw [h.2.1.2.1.2.1, if_pos (by rw [e6]; rfl)]
