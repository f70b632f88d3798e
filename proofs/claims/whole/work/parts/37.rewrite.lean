/-! rewriteAt, rewriteOutermost -/
def ap_ (y : js_Y) (t : List Int32) (e : Nat) : List Int32 := match sp_ y t e with
  | none => t
  | some u => if 40 < u.length then t else u
theorem ap_gt {y : js_Y} {t : List Int32} {e : Nat} (g : gy_ y) (gt : gt_ y.1 t) (he : e < t.length) : gt_ y.1 (ap_ y t e) := by
  unfold ap_
  cases h : sp_ y t e with
  | none => exact gt
  | some u =>
    show gt_ y.1 (if 40 < u.length then t else u)
    by_cases hc : 40 < u.length
    · rw [if_pos hc]; exact gt
    · rw [if_neg hc]; exact sp_gt g gt he h (by omega)
/-- the step succeeds -/
def sk2_ (o : Option (List Int32)) : Option (List Int32) := o.bind fun u => if 40 < u.length then none else some u
theorem sk2_gt {y : js_Y} {t u : List Int32} {e : Nat} (g : gy_ y) (gt : gt_ y.1 t) (he : e < t.length) (h : sk2_ (sp_ y t e) = some u) : gt_ y.1 u ∧ sp_ y t e = some u ∧ 0 < u.length := by
  unfold sk2_ at h
  cases h2 : sp_ y t e with
  | none => rw [h2] at h; cases h
  | some w =>
    rw [h2, Option.bind_some] at h
    by_cases hc : 40 < w.length
    · rw [if_pos hc] at h; cases h
    · rw [if_neg hc] at h
      cases h
      have := sp_gt g gt he h2 (by omega)
      exact ⟨this, rfl, gt_pos this⟩
theorem sk2_r {o : Option (List Int32)} (h : sk2_ o = none) : sr_ o = -5 ∨ sr_ o = -8 := by
  cases o with
  | none => exact Or.inl rfl
  | some w =>
    unfold sk2_ at h
    rw [Option.bind_some] at h
    by_cases hc : 40 < w.length
    · right; rw [sr_s, if_pos hc]
    · rw [if_neg hc] at h; cases h
theorem sk2_s {o : Option (List Int32)} {u : List Int32} (h : sk2_ o = some u) : sr_ o = nI u.length ∧ u.length ≤ 40 ∧ o = some u := by
  cases o with
  | none => cases h
  | some w =>
    unfold sk2_ at h
    rw [Option.bind_some] at h
    by_cases hc : 40 < w.length
    · rw [if_pos hc] at h; cases h
    · rw [if_neg hc] at h
      cases h
      exact ⟨by rw [sr_s, if_neg hc], by omega, rfl⟩
theorem ap_s {y : js_Y} {t u : List Int32} {e : Nat} (h : sk2_ (sp_ y t e) = some u) : ap_ y t e = u := by
  have h2 := sk2_s h
  unfold ap_
  rw [h2.2.2]
  show (if 40 < u.length then t else u) = u
  rw [if_neg (by omega)]
theorem ap_n {y : js_Y} {t : List Int32} {e : Nat} (h : sk2_ (sp_ y t e) = none) : ap_ y t e = t := by
  unfold ap_
  unfold sk2_ at h
  cases h2 : sp_ y t e with
  | none => rfl
  | some w =>
    rw [h2, Option.bind_some] at h
    show (if 40 < w.length then t else w) = t
    by_cases hc : 40 < w.length
    · rw [if_pos hc]
    · rw [if_neg hc] at h; cases h
/-- class: a register and the scratch rows change -/
def fy_ (i : Nat) (a : Nat) : Prop := a = 34 + 2 * i ∨ a = 34 + 2 * i + 1 ∨ (85 ≤ a ∧ a ≤ 365)
theorem ix_st2 {σ σ' : js_S} {y : js_Y} {sn : Option js_Y} {tx t : List Int32} {r : Nat} (hr : r < 4) (g : gs_ y sn tx) (h : fi_ (fy_ r) σ σ') (ht : tm_ σ' (34 + 2 * r) t) (hx : ix_ σ y sn tx) : ix_ σ' (st_ y r t) sn tx := by
  have hS : ∀ a, a ≠ 34 + 2 * r → a ≠ 34 + 2 * r + 1 → a < 85 → σ'.1 a = σ.1 a := fun a q1 q2 q3 => h.2 a (by unfold fy_; omega)
  obtain ⟨q1, q2, q3, q4, q5, q6, q7⟩ := hx
  have g6 := g.1.2.1
  refine ⟨by rw [fi_r h]; exact q1, by rw [fi_r h]; exact q2, ?_, by rw [hS 1 (by omega) (by omega) (by omega)]; exact q4, fun z hz => sx_eq (g.2.1 z hz).2.1 (fun a _ _ => hS a (by omega) (by omega) (by omega)) (q5 z hz), by rw [hS 82 (by omega) (by omega) (by omega)]; exact q6, vw_eq (hS 83 (by omega) (by omega) (by omega)) q7⟩
  obtain ⟨s1, s2, s3, s4⟩ := q3
  refine ⟨?_, by rw [hS 2 (by omega) (by omega) (by omega)]; exact s2, fun i hi => ?_, fun i hi => ?_⟩
  · unfold sg_
    rw [hS 4 (by omega) (by omega) (by omega)]
    exact s1
  · have hi : i < y.2.1.length := hi
    exact ⟨tm_eq (hS _ (by omega) (by omega) (by omega)) (hS _ (by omega) (by omega) (by omega)) (s3 i hi).1, tm_eq (hS _ (by omega) (by omega) (by omega)) (hS _ (by omega) (by omega) (by omega)) (s3 i hi).2⟩
  · show tm_ σ' (2 + 32 + 2 * i) (if i = r then t else y.2.2 i)
    by_cases hir : i = r
    · rw [if_pos hir, hir, show 2 + 32 + 2 * r = 34 + 2 * r by omega]
      exact ht
    · rw [if_neg hir]
      exact tm_eq (hS _ (by omega) (by omega) (by omega)) (hS _ (by omega) (by omega) (by omega)) (s4 i hi)
/-- model: a register and the scratch rows change -/
def fg_ (i : Nat) (σ σ' : js_S) : Prop := σ'.2 = σ.2 ∧ ∀ a b, ¬ (a = 395 ∧ 96 * i ≤ b ∧ b < 96 * i + 96) → ¬ sM_ a b → σ'.1 a b = σ.1 a b
theorem fg_rf {i : Nat} {σ : js_S} : fg_ i σ σ := ⟨rfl, fun _ _ _ _ => rfl⟩
theorem fg_tr {i : Nat} {σ σ1 σ2 : js_S} (h1 : fg_ i σ σ1) (h2 : fg_ i σ1 σ2) : fg_ i σ σ2 := ⟨h2.1.trans h1.1, fun a b q r => (h2.2 a b q r).trans (h1.2 a b q r)⟩
theorem fg_fi {i : Nat} {S : Nat → Prop} {σ σ' : js_S} (h : fi_ S σ σ') (hS : ∀ a, S a → a = 397 ∨ a = 398 ∨ a = 399) : fg_ i σ σ' := ⟨h.1, fun a b _ q => by
  rw [h.2 a (fun z => q (by unfold sM_; have := hS a z; omega))]⟩
theorem fin_ {σ σ1 σ2 : js_S} {y : js_Y} {sn : Option js_Y} {tx t : List Int32} {i : Nat} (hi : i < 4) (h : iv_ σ y sn tx) (gt : gt_ y.1 t) (h1 : fi_ (fy_ i) σ σ1) (t1 : tm_ σ1 (34 + 2 * i) t) (h2 : fg_ i σ1 σ2) (t2 : rw_ σ2 395 (96 * i) t) : iv_ σ2 (st_ y i t) sn tx ∧ ce2_ σ σ2 := by
  have a1 := ix_st2 hi h.2.2 h1 t1 h.1
  have a2 : im_ σ1 y sn tx := im_x (fun a ha => h1.2 a (by unfold fy_; omega)) (fun o _ => by rw [fi_r h1]) h.2.1
  have g2 : gs_ (st_ y i t) sn tx := ⟨gy_st h.2.2.1 gt, h.2.2.2.1, h.2.2.2.2⟩
  refine ⟨⟨?_, ?_, g2⟩, ?_⟩
  · exact ix_m (σ := σ1) g2 (fun a ha => funext (fun b => h2.2 a b (by omega) (by unfold sM_; omega))) (by rw [h2.1]) a1
  · exact im_st (σ := σ1) hi (by rw [h2.1]) h2.2 h.2.2 t2 a2
  · refine ce2_tr (ce2_fi h1 (fun a q => by unfold fy_; omega)) ⟨fun b _ => h2.2 1 b (by omega) (by unfold sM_; omega), fun a q1 q2 => ⟨funext (fun b => h2.2 a b (by omega) (by unfold sM_; omega)), by rw [h2.1]⟩, fun o _ => by rw [h2.1]⟩
theorem ms_fg {i : Nat} {σ σ' : js_S} {y : js_Y} (h : fg_ i σ σ') (hm : ms_ σ y) : ms_ σ' y := by
  have e1 : σ'.1 391 = σ.1 391 := funext (fun b => h.2 391 b (by omega) (by unfold sM_; omega))
  have e3 : σ'.1 393 = σ.1 393 := funext (fun b => h.2 393 b (by omega) (by unfold sM_; omega))
  have e0 : σ'.1 390 6 = σ.1 390 6 := h.2 390 6 (by omega) (by unfold sM_; omega)
  refine ⟨by rw [h.1]; exact hm.1, by rw [e1]; exact hm.2.1, by rw [e0]; exact hm.2.2.1, fun i hi => ⟨rw_eq e3 (hm.2.2.2 i hi).1, rw_eq e3 (hm.2.2.2 i hi).2⟩⟩
theorem m_pos2 {σ : js_S} {t : List Int32} (hm : lm_ σ.2.2) {i q : Nat} (hi : i < 4) (ht : rw_ σ 395 (96 * i) t) (h40 : t.length ≤ 40) (hq : q < t.length) : fX12_isPosition 5000 390 (nI i) (nI q) σ = some (1, σ) := by
  unfold fX12_isPosition
  rw [m_reg hi, bd_s, if_neg (by decide), n_96, lm_4 hm, ln_395, n_ib (by omega), if_pos (by simp; omega), n_cl (by omega), ht.1, n_pred (by omega), m_isIn, bd_s]
  have c1 : ¬ nI q < 0 := nI_pos (by omega)
  have c2 : ¬ nI (t.length - 1) < nI q := fun z => by have := (n_lt (by omega) (by omega)).mp z; omega
  rw [if_neg c1, if_neg c2]
  rfl
theorem m_rewriteAt {σ : js_S} {i e : Nat} {y : js_Y} {t : List Int32} (g : gy_ y) (gt : gt_ y.1 t) (he : e < t.length) (hi : i < 4) (hm : ms_ σ y) (hv : rw_ σ 395 (96 * i) t) : ∃ σ', fX12_rewriteAt 5000 390 (nI i) (nI e) σ = some (sr_ (sp_ y t e), σ') ∧ fg_ i σ σ' ∧ rw_ σ' 395 (96 * i) (ap_ y t e) := by
  have t40 := gt.2
  obtain ⟨σ1, r1, f1, u1⟩ := m_rewrite g gt he (o := 395) (p := 96 * i) (by omega) (by rw [ln_395]; omega) (by rw [ln_395]; omega) hm hv
  have g1 : fg_ i σ σ1 := fg_fi f1 (fun a q => q)
  unfold fX12_rewriteAt
  rw [m_pos2 hm.1 hi hv t40 he, bd_s, if_neg (by decide), lm_4 hm.1, n_96, r1, bd_s]
  have hm1 : lm_ σ1.2.2 := by rw [fi_r f1]; exact hm.1
  cases hs : sk2_ (sp_ y t e) with
  | none =>
    refine ⟨σ1, ?_, g1, by rw [ap_n hs]; exact rw_fi f1 (by omega) hv⟩
    rcases sk2_r hs with q | q
    · rw [q]; rfl
    · rw [q]; rfl
  | some u =>
    have h2 := sk2_s hs
    have h3 := sk2_gt g gt he hs
    have c0 : ¬ nI u.length ≤ 0 := fun z => by have := (n_le (b := 0) (by omega) (by omega)).mp z; omega
    refine ⟨cI_ σ1 399 0 395 (96 * i) 96, ?_, fg_tr g1 ⟨rfl, fun a b q _ => cI_out q⟩, ?_⟩
    · rw [h2.1, if_neg c0, lm_11 hm1, lm_4 hm1, show (0 : Int32) = nI 0 from rfl, show (96 : Int32) = nI 96 from rfl, m_copy (by rw [ln_399]; omega) (by rw [ln_395]; omega) (by rw [ln_399]; omega) (by rw [ln_395]; omega) (by omega) (by omega), bd_s]
    · rw [ap_s hs]
      exact rw_cp (u1 u h2.2.2 h2.2.1) h2.2.1
theorem op_rewriteAt {σ : js_S} {y : js_Y} {sn : Option js_Y} {tx : List Int32} (h : iv_ σ y sn tx) (x z : Int32) : ∃ r σ1 σ2 y', fX11_rewriteAt 5000 1 x z σ = some (r, σ1) ∧ fX12_rewriteAt 5000 390 x z σ1 = some (r, σ2) ∧ iv_ σ2 y' sn tx ∧ ce2_ σ σ2 ∧ y'.1 = y.1 ∧ y'.2.1 = y.2.1 := by
  have gy := h.2.2.1
  by_cases hc : ∃ i q, i < 4 ∧ q < (y.2.2 i).length ∧ x = nI i ∧ z = nI q
  · obtain ⟨i, e, hi, he, rfl, rfl⟩ := hc
    have gt := gy.2.2.2 i hi
    have t40 := gt.2
    have hl := h.1.1
    have t364 : to_ σ 364 := to_of hl (by omega) (by decide +kernel)
    obtain ⟨σ1, r1, f1, u1⟩ := x7_step (d := 364) (o := 34 + 2 * i) gy gt he (by omega) (by omega) (by omega) (xs_of hl h.1.2.2.1) (to_reg hl i hi) (sx_reg h.1.2.2.1 hi) t364
    have f1' : fi_ (fy_ i) σ σ1 := fi_mono f1 (fun a q => by unfold fy_ at q; omega)
    have hl1 : lx_ σ1.2.2 := by rw [fi_r f1]; exact hl
    have key : ∃ σ2, fX11_rewriteAt 5000 1 (nI i) (nI e) σ = some (sr_ (sp_ y (y.2.2 i) e), σ2) ∧ fi_ (fy_ i) σ σ2 ∧ tm_ σ2 (34 + 2 * i) (ap_ y (y.2.2 i) e) := by
      unfold fX11_rewriteAt
      rw [x_pos h hi he, bd_s, if_neg (by decide), lx_1_0 hl, x6_register hl hi, bd_s, lx_1_5 hl, lx_1_7 hl, r1, bd_s]
      cases hs : sk2_ (sp_ y (y.2.2 i) e) with
      | none =>
        refine ⟨σ1, ?_, f1', by rw [ap_n hs]; exact tm_fi f1 (by omega) (by omega) (sx_reg h.1.2.2.1 hi)⟩
        rcases sk2_r hs with q | q
        · rw [q]; rfl
        · rw [q]; rfl
      | some u =>
        have h2 := sk2_s hs
        obtain ⟨σ2, r2, f2, u2⟩ := x_store hl1 hi (to_fi f1 t364) (u1 u h2.2.2) (by omega)
        refine ⟨σ2, ?_, fi_tr f1' f2 (fun a q => q) (fun a q => by unfold fy_ at q; omega), by rw [ap_s hs]; exact u2⟩
        rw [h2.1, if_pos (nI_pos' (by omega)), lx_1_7 hl1, r2, bd_s]
    obtain ⟨σ2, r2, f2, u2⟩ := key
    have hM : im_ σ2 y sn tx := im_x (fun a ha => f2.2 a (by unfold fy_; omega)) (fun o _ => by rw [fi_r f2]) h.2.1
    obtain ⟨σ3, r3, f3, u3⟩ := m_rewriteAt gy gt he hi (ms_of hM.1 hM.2.1) (hM.2.1.2.2.2 i hi)
    have := fin_ hi h (ap_gt gy gt he) f2 u2 f3 u3
    exact ⟨_, σ2, σ3, _, r2, r3, this.1, this.2, rfl, rfl⟩
  · refine ⟨-1, σ, σ, y, ?_, ?_, h, ce2_rf, rfl, rfl⟩
    · unfold fX11_rewriteAt
      rw [x_nopos h hc, bd_s, if_pos rfl]
    · unfold fX12_rewriteAt
      rw [m_nopos h hc, bd_s, if_pos rfl]
/-- outermost steps -/
def ou_ (y : js_Y) : Nat → List Int32 → Nat × List Int32
  | 0, t => (0, t)
  | n + 1, t => match (rfi_ (rx_ y t) t.length 0 0).bind fun e => sk2_ (sp_ y t e) with
    | none => (0, t)
    | some u => ((ou_ y n u).1 + 1, (ou_ y n u).2)
theorem ou_s {y : js_Y} {n : Nat} {t : List Int32} : ou_ y (n + 1) t = match (rfi_ (rx_ y t) t.length 0 0).bind fun e => sk2_ (sp_ y t e) with
    | none => (0, t)
    | some u => ((ou_ y n u).1 + 1, (ou_ y n u).2) := rfl
theorem ou_gt {y : js_Y} (g : gy_ y) : ∀ {n : Nat} {t : List Int32}, gt_ y.1 t → gt_ y.1 (ou_ y n t).2 ∧ (ou_ y n t).1 ≤ n
  | 0, t, h => ⟨h, Nat.le_refl _⟩
  | n + 1, t, h => by
    rw [ou_s]
    cases h1 : rfi_ (rx_ y t) t.length 0 0 with
    | none => exact ⟨h, by show 0 ≤ n + 1; omega⟩
    | some e =>
      rw [Option.bind_some]
      have he := rfi_lt h1
      cases h2 : sk2_ (sp_ y t e) with
      | none => exact ⟨h, by show 0 ≤ n + 1; omega⟩
      | some u =>
        have := ou_gt g (n := n) (sk2_gt g h (by omega) h2).1
        exact ⟨this.1, by show _ + 1 ≤ n + 1; omega⟩
theorem x_ou {y : js_Y} {i : Nat} (g : gy_ y) (hi : i < 4) : ∀ (n c k : Nat) (σ : js_S) (t : List Int32), n < k → c + n ≤ 100 → gt_ y.1 t → xs_ σ y → tm_ σ (34 + 2 * i) t → ∃ σ', fX7_stepsOutermost_3 5000 k 88 2 (34 + 2 * i) (nI (c + n)) 364 (nI c) σ = some (nI (c + (ou_ y n t).1), σ') ∧ fi_ (fy_ i) σ σ' ∧ tm_ σ' (34 + 2 * i) (ou_ y n t).2 := by
  have h6 := g.2.1
  intro n
  induction n with
  | zero =>
    intro c k σ t hk hc gt hx ht
    obtain ⟨k, rfl⟩ : ∃ j, k = j + 1 := ⟨k - 1, by omega⟩
    refine ⟨σ, ?_, fi_rf, ht⟩
    rw [sX7_stepsOutermost_3]
    unfold fX7_stepsOutermost_3b
    rw [if_pos ((n_le (by omega) (by omega)).mpr (by omega))]
    rfl
  | succ n ih =>
    intro c k σ t hk hc gt hx ht
    obtain ⟨k, rfl⟩ : ∃ j, k = j + 1 := ⟨k - 1, by omega⟩
    have t40 := gt.2
    have hreg := to_reg hx.1 i hi
    obtain ⟨σ1, r1, f1⟩ := x7_findRedex g (by omega) gt (o := 34 + 2 * i) (i := 0) (by omega) hx hreg ht
    have f1' : fi_ (fy_ i) σ σ1 := fi_mono f1 (fun a q => by unfold fy_ at q; omega)
    have hx1 := xs_fi f1 h6 (fun a q => by omega) hx
    have ht1 := tm_fi f1 (by omega) (by omega) ht
    rw [sX7_stepsOutermost_3]
    unfold fX7_stepsOutermost_3b
    rw [if_neg (fun z => by have := (n_le (by omega) (by omega)).mp z; omega), show fX7_findRedex 5000 88 2 (34 + 2 * i) 0 σ = _ from r1, bd_s, ou_s]
    cases h1 : rfi_ (rx_ y t) t.length 0 0 with
    | none => exact ⟨σ1, by rw [if_pos (show lo_ (-1) none < 0 from by decide)]; rfl, f1', ht1⟩
    | some e =>
      have he := rfi_lt h1
      have t364 : to_ σ1 364 := to_of hx1.1 (by omega) (by decide +kernel)
      obtain ⟨σ2, r2, f2, u2⟩ := x7_step (d := 364) (o := 34 + 2 * i) (e := e) g gt (by omega) (by omega) (by omega) (by omega) hx1 (to_fi f1 hreg) ht1 t364
      have f2' : fi_ (fy_ i) σ σ2 := fi_tr f1' f2 (fun a q => q) (fun a q => by unfold fy_ at q; omega)
      have hx2 := xs_fi f2 h6 (fun a q => by omega) hx1
      rw [Option.bind_some, if_neg (show ¬ lo_ (-1) (some e) < 0 from nI_pos (by omega)), show fX7_step 5000 88 2 (34 + 2 * i) (lo_ (-1) (some e)) 364 σ1 = _ from r2, bd_s]
      cases h2 : sk2_ (sp_ y t e) with
      | none =>
        refine ⟨σ2, ?_, f2', tm_fi f2 (by omega) (by omega) ht1⟩
        rcases sk2_r h2 with q | q
        · rw [q]; rfl
        · rw [q]; rfl
      | some u =>
        have h3 := sk2_s h2
        have h4 := sk2_gt g gt (by omega) h2
        obtain ⟨σ3, r3, f3, u3⟩ := x9_copyFrom (fu := 5000) (d := 34 + 2 * i) (to_fi f2 (to_fi f1 hreg)) (to_fi f2 t364) (u2 u h3.2.2) (by omega)
        have f3' : fi_ (fy_ i) σ σ3 := fi_tr f2' f3 (fun a q => q) (fun a q => by unfold fy_ at q; omega)
        obtain ⟨σ4, r4, f4, u4⟩ := ih (c + 1) k σ3 u (by omega) (by omega) h4.1 (xs_fi f3 h6 (fun a q => by omega) hx2) u3
        refine ⟨σ4, ?_, fi_tr f3' f4 (fun a q => q) (fun a q => q), u4⟩
        rw [h3.1, if_pos (nI_pos' (by omega)), r3, bd_s, show nI c + 1 = nI (c + 1) from n_add c 1, show c + (n + 1) = c + 1 + n by omega, r4]
        show some (nI (c + 1 + (ou_ y n u).1), σ4) = some (nI (c + ((ou_ y n u).1 + 1)), σ4)
        rw [show c + 1 + (ou_ y n u).1 = c + ((ou_ y n u).1 + 1) by omega]
theorem m_out0 {fu : Nat} {rc : Nat → Int32 → Int32 → Int32 → Int32 → js_S → Option (Int32 × js_S)} {a : Nat} {b c d : Int32} {σ : js_S} : fX12_rewriteOutermost_71 fu rc a b c d σ = rc a b c (d + 0) 0 σ := by
  unfold fX12_rewriteOutermost_71 fX12_rewriteOutermost_72 fX12_rewriteOutermost_85
  rw [if_pos rfl]
theorem m_out1 {fu : Nat} {rc : Nat → Int32 → Int32 → Int32 → Int32 → js_S → Option (Int32 × js_S)} {a : Nat} {b c d : Int32} {σ : js_S} : fX12_rewriteOutermost_72 fu rc a b c d 1 σ = rc a b c (d + 1) 1 σ := by
  unfold fX12_rewriteOutermost_72 fX12_rewriteOutermost_85
  rw [if_neg (by decide)]
theorem m_ou {y : js_Y} {i : Nat} (g : gy_ y) (hi : i < 4) : ∀ (n c k : Nat) (σ : js_S) (t : List Int32), n + 1 < k → c + n ≤ 100 → gt_ y.1 t → ms_ σ y → rw_ σ 395 (96 * i) t → ∃ σ', fX12_rewriteOutermost_27 5000 k 390 (nI i) (nI (c + n)) (nI c) 1 σ = some (nI (c + (ou_ y n t).1), σ') ∧ fg_ i σ σ' ∧ rw_ σ' 395 (96 * i) (ou_ y n t).2 := by
  have h6 := g.2.1
  intro n
  induction n with
  | zero =>
    intro c k σ t hk hc gt hx ht
    obtain ⟨k, rfl⟩ : ∃ j, k = j + 1 := ⟨k - 1, by omega⟩
    refine ⟨σ, ?_, fg_rf, ht⟩
    rw [sX12_rewriteOutermost_27]
    unfold fX12_rewriteOutermost_27b
    rw [if_neg (by decide), if_pos ((n_le (by omega) (by omega)).mpr (by omega))]
    rfl
  | succ n ih =>
    intro c k σ t hk hc gt hx ht
    obtain ⟨k, rfl⟩ : ∃ j, k = j + 2 := ⟨k - 2, by omega⟩
    have t40 := gt.2
    have stop : ∀ (s : js_S) (b : Int32), fX12_rewriteOutermost_27 5000 (k + 1) 390 (nI i) b (nI c + 0) 0 s = some (nI c, s) := by
      intro s b
      rw [sX12_rewriteOutermost_27]
      unfold fX12_rewriteOutermost_27b
      rw [if_pos rfl, show nI c + 0 = nI c from n_add c 0]
    obtain ⟨σ1, r1, f1⟩ := m_redex (o := 395) (p := 96 * i) (i := 0) g gt (by omega) (by rw [ln_395]; omega) (by rw [ln_395]; omega) (by omega) hx ht
    have g1 : fg_ i σ σ1 := fg_fi f1 (fun a q => by omega)
    have hx1 := ms_fg g1 hx
    have ht1 := rw_fi f1 (by omega) ht
    rw [show k + 2 = (k + 1) + 1 from rfl, sX12_rewriteOutermost_27]
    unfold fX12_rewriteOutermost_27b
    rw [if_neg (by decide), if_neg (fun z => by have := (n_le (by omega) (by omega)).mp z; omega), lm_4 hx.1, n_96, show fX12_redex 5000 390 395 (nI (96 * i)) 0 σ = _ from r1, bd_s, ou_s]
    cases h1 : rfi_ (rx_ y t) t.length 0 0 with
    | none =>
      refine ⟨σ1, ?_, g1, ht1⟩
      rw [if_pos (show lo_ (-5) none < 0 from by decide), m_out0, stop]
      rfl
    | some e =>
      have he := rfi_lt h1
      obtain ⟨σ2, r2, f2, u2⟩ := m_rewriteAt (e := e) g gt (by omega) hi hx1 ht1
      have g2 := fg_tr g1 f2
      rw [Option.bind_some, if_neg (show ¬ lo_ (-5) (some e) < 0 from nI_pos (by omega)), show fX12_rewriteAt 5000 390 (nI i) (lo_ (-5) (some e)) σ1 = _ from r2, bd_s]
      cases h2 : sk2_ (sp_ y t e) with
      | none =>
        rw [ap_n h2] at u2
        refine ⟨σ2, ?_, g2, u2⟩
        have c0 : sr_ (sp_ y t e) ≤ 0 := by
          rcases sk2_r h2 with q | q
          · rw [q]; decide
          · rw [q]; decide
        rw [if_pos c0, m_out0, stop]
        rfl
      | some u =>
        have h3 := sk2_s h2
        have h4 := sk2_gt g gt (by omega) h2
        rw [ap_s h2] at u2
        have c0 : ¬ nI u.length ≤ 0 := fun z => by have := (n_le (b := 0) (by omega) (by omega)).mp z; omega
        obtain ⟨σ4, r4, f4, u4⟩ := ih (c + 1) (k + 1) σ2 u (by omega) (by omega) h4.1 (ms_fg f2 hx1) u2
        refine ⟨σ4, ?_, fg_tr g2 f4, u4⟩
        rw [h3.1, if_neg c0, m_out1, show nI c + 1 = nI (c + 1) from n_add c 1, show c + (n + 1) = c + 1 + n by omega, r4]
        show some (nI (c + 1 + (ou_ y n u).1), σ4) = some (nI (c + ((ou_ y n u).1 + 1)), σ4)
        rw [show c + 1 + (ou_ y n u).1 = c + ((ou_ y n u).1 + 1) by omega]
theorem op_rewriteOutermost {σ : js_S} {y : js_Y} {sn : Option js_Y} {tx : List Int32} (h : iv_ σ y sn tx) (x z : Int32) : ∃ r σ1 σ2 y', fX11_rewriteOutermost 5000 1 x z σ = some (r, σ1) ∧ fX12_rewriteOutermost 5000 390 x z σ1 = some (r, σ2) ∧ iv_ σ2 y' sn tx ∧ ce2_ σ σ2 ∧ y'.1 = y.1 ∧ y'.2.1 = y.2.1 := by
  have gy := h.2.2.1
  unfold fX11_rewriteOutermost fX12_rewriteOutermost
  by_cases hc : ∃ i, i < 4 ∧ x = nI i
  · obtain ⟨i, hi, rfl⟩ := hc
    have gt := gy.2.2.2 i hi
    have t40 := gt.2
    have hl := h.1.1
    by_cases hz : ∃ n, n ≤ 100 ∧ z = nI n
    · obtain ⟨n, hn, rfl⟩ := hz
      obtain ⟨σ2, r2, f2, u2⟩ := x_ou gy hi n 0 5000 σ (y.2.2 i) (by omega) (by omega) gt (xs_of hl h.1.2.2.1) (sx_reg h.1.2.2.1 hi)
      have hM : im_ σ2 y sn tx := im_x (fun a ha => f2.2 a (by unfold fy_; omega)) (fun o _ => by rw [fi_r f2]) h.2.1
      obtain ⟨σ3, r3, f3, u3⟩ := m_ou gy hi n 0 5000 σ2 (y.2.2 i) (by omega) (by omega) gt (ms_of hM.1 hM.2.1) (hM.2.1.2.2.2 i hi)
      have := fin_ hi h (ou_gt gy gt).1 f2 u2 f3 u3
      rw [Nat.zero_add] at r2 r3
      have c1 : nI n ≤ 100 := (n_le (b := 100) (by omega) (by omega)).mpr hn
      have c2 : ¬ 100 < nI n := fun w => by have := (n_lt (a := 100) (by omega) (by omega)).mp w; omega
      refine ⟨nI (0 + (ou_ y n (y.2.2 i)).1), σ2, σ3, _, ?_, ?_, this.1, this.2, rfl, rfl⟩
      · unfold fX7_stepsOutermost
        rw [x_reg hi, bd_s, if_neg (by decide), if_neg (nI_pos (by omega)), if_pos c1, lx_1_0 hl, x6_register hl hi, bd_s, lx_1_5 hl, lx_1_7 hl, show (0 : Int32) = nI 0 from rfl, r2, bd_s]
      · rw [m_reg hi, bd_s, if_neg (by decide), m_isIn, bd_s, if_neg (show ¬ nI n < 0 from nI_pos (by omega)), if_neg c2, if_neg (by decide), show (0 : Int32) = nI 0 from rfl, r3]
    · refine ⟨-2, σ, σ, y, ?_, ?_, h, ce2_rf, rfl, rfl⟩
      · rw [x_reg hi, bd_s, if_neg (by decide)]
        rcases n_cases z with q | ⟨k, hk, rfl⟩
        · rw [if_pos q]
        · have c1 : ¬ nI k ≤ 100 := fun w => hz ⟨k, (n_le (b := 100) (by omega) (by omega)).mp w, rfl⟩
          rw [if_neg (nI_pos hk), if_neg c1]
      · rw [m_reg hi, bd_s, if_neg (by decide), m_isIn, bd_s]
        rcases n_cases z with q | ⟨k, hk, rfl⟩
        · rw [if_pos q, if_pos rfl]
        · have c1 : 100 < nI k := (n_lt (a := 100) (by omega) (by omega)).mpr (by
            rcases Nat.lt_or_ge 100 k with w | w
            · exact w
            · exact absurd ⟨k, w, rfl⟩ hz)
          rw [if_neg (show ¬ nI k < 0 from nI_pos hk), if_pos c1, if_pos rfl]
  · refine ⟨-1, σ, σ, y, ?_, ?_, h, ce2_rf, rfl, rfl⟩
    · rw [x_noreg hc, bd_s, if_pos rfl]
    · rw [m_noreg hc, bd_s, if_pos rfl]
