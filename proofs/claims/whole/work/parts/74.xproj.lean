/-! the class: projections -/
def xe_ (σ : js_S) (y : js_Y) (oc : Nat) (R : Nat → Nat → Bool) : Prop := lx_ σ.2.2 ∧ sg_ σ 3 y.1 ∧ px_ σ y (pp_ y) ∧ co2_ σ oc ∧ (∀ j, j < (pp_ y).length → σ.1 (oc + 5) j = nc2_ R j) ∧ oc ≤ 382
theorem xe_fi {S : Nat → Prop} {σ σ' : js_S} {y : js_Y} {oc : Nat} {R : Nat → Nat → Bool} (h : fi_ S σ σ') (hS : ∀ a, S a → a = 388 ∨ a = 389) (hx : xe_ σ y oc R) : xe_ σ' y oc R := by
  obtain ⟨h1, h2, h3, h4, h5, h6⟩ := hx
  have ho : 366 < oc := h4.2.2.2.2.2.2
  exact ⟨by rw [fi_r h]; exact h1, sg_fi h (fun z => by have := hS _ z; omega) h2, px_fi h (fun a q1 q2 z => by have := hS _ z; omega) h3, co2_r (fi_r h) h4, fun j hj => by rw [h.2 (oc + 5) (fun z => by have := hS _ z; omega)]; exact h5 j hj, h6⟩
theorem nc_eq {R : Nat → Nat → Bool} {n k j : Nat} (hq : qv_ R n) (hn : n ≤ 240) (hk : k < 2147483648) : (nc2_ R j = nI k) ↔ ik_ R k j = true := by
  unfold nc2_ ik_
  by_cases c : R j j = true
  · have h1 := nu_lt hq c
    have h2 := ct2_le (R := R) (i := n)
    rw [if_pos c, c, Bool.true_and, decide_eq_true_eq, n_eq (by omega) hk]
  · have c2 : R j j = false := by simpa using c
    rw [if_neg c, c2, Bool.false_and]
    constructor
    · intro z
      exact absurd ⟨k, hk, z⟩ (n_negc (by decide))
    · intro z
      cases z
theorem nm_eq {R : Nat → Nat → Bool} {n k j : Nat} (hq : qv_ R n) (hn : n ≤ 240) (hk : k < 2147483648) : (nm_ R j = nI k) ↔ ik_ R k j = true := by
  unfold nm_ ik_
  by_cases c : R j j = true
  · have h1 := nu_lt hq c
    have h2 := ct2_le (R := R) (i := n)
    rw [if_pos c, c, Bool.true_and, decide_eq_true_eq, n_eq (by omega) hk]
  · have c2 : R j j = false := by simpa using c
    rw [if_neg c, c2, Bool.false_and]
    constructor
    · intro z
      exact absurd ⟨k, hk, z⟩ (n_negc (by decide))
    · intro z
      cases z
theorem x2_allow {σ : js_S} {a : Nat → Nat} {s : Nat} (hl : lx_ σ.2.2) (hg : sg_ σ 3 a) (hs : s < 3) : fX2_allowChoices 5000 381 (nI s) 3 σ = some ((), uI_ σ 389 s (nI (a s))) := by
  unfold fX2_allowChoices fX11_isFunctionNumber
  rw [if_neg (nI_pos (by omega)), if_neg (show ¬ (3 : Int32) ≤ nI s from nle_f (a := 3) hs (by omega)), bd_s, if_neg (by decide), x8_ofFunction (lx_3_0 hl) ln_4 hg hs, bd_s, lx_381_2 hl, ln_389, if_pos (ib_t hs (by omega)), n_cl (by omega), lt_s_]
/-- the choices of the pairs below j -/
def cj_ (F : Nat → Nat → Nat) (a : Nat → Nat) (R : Nat → Nat → Bool) (k j f : Nat) : Nat := if us_ F R k f j = true then a f else 1
theorem x2_cc26 {y : js_Y} {oc k : Nat} {R : Nat → Nat → Bool} (g : gy_ y) (hq : qv_ R (pp_ y).length) (hk : k < 2147483648) :
    ∀ (d j m : Nat) (σ : js_S), j + d = (pp_ y).length → d < m → xe_ σ y oc R → (∀ f, f < 3 → σ.1 389 f = nI (cj_ (fp2_ y) y.1 R k j f)) → ∃ σ', fX2_countChoices_26 5000 m 381 366 oc (nI k) 3 (nI j) σ = some ((), σ') ∧ fi_ (fun a => a = 389) σ σ' ∧ ∀ f, f < 3 → σ'.1 389 f = nI (cs2_ (fp2_ y) y.1 R k (pp_ y).length f) := by
  have h240 := pp_len g
  intro d
  induction d with
  | zero =>
    intro j m σ hj hm hx hc
    obtain ⟨m, rfl⟩ : ∃ j, m = j + 1 := ⟨m - 1, by omega⟩
    refine ⟨σ, ?_, fi_rf, fun f hf => ?_⟩
    · rw [sX2_countChoices_26]
      unfold fX2_countChoices_26b
      rw [hx.2.2.1.1, if_pos (nle_t (by omega) (by omega))]
    · rw [hc f hf, show j = (pp_ y).length by omega]
      rfl
  | succ d ih =>
    intro j m σ hj hm hx hc
    obtain ⟨m, rfl⟩ : ∃ j, m = j + 1 := ⟨m - 1, by omega⟩
    have f9 : fp2_ y j 9 < 3 := fn_lt _
    have f10 : fp2_ y j 10 < 3 := fn_lt _
    rw [sX2_countChoices_26]
    unfold fX2_countChoices_26b fX2_countChoices_75
    rw [hx.2.2.1.1, if_neg (nle_f (by omega) (by omega)), x1_number hx.2.2.2.1 (show j < 240 by omega), bd_s, hx.2.2.2.2.1 j (by omega), n_s]
    by_cases c : ik_ R k j = true
    · have f1 : fi_ (fun a => a = 389) σ (uI_ σ 389 (fp2_ y j 9) (nI (y.1 (fp2_ y j 9)))) := fi_u rfl
      have hx1 := xe_fi f1 (fun a z => Or.inr z) hx
      have f2 : fi_ (fun a => a = 389) σ (uI_ (uI_ σ 389 (fp2_ y j 9) (nI (y.1 (fp2_ y j 9)))) 389 (fp2_ y j 10) (nI (y.1 (fp2_ y j 10)))) := fi_tr f1 (fi_u (S := fun a => a = 389) rfl) (fun a q => q) (fun a q => q)
      have hx2 := xe_fi f2 (fun a z => Or.inr z) hx
      obtain ⟨σ3, r3, f3, e3⟩ := ih (j + 1) m _ (by omega) (by omega) hx2 (fun f hf => by
        unfold cj_
        rw [us_s, c, Bool.true_and]
        by_cases q1 : f = fp2_ y j 10
        · rw [q1, uI_same, decide_eq_true (show fp2_ y j 10 = fp2_ y j 10 from rfl), Bool.or_true, Bool.or_true, if_pos rfl]
        · rw [uI_ne (by omega)]
          by_cases q2 : f = fp2_ y j 9
          · rw [q2, uI_same, decide_eq_true (show fp2_ y j 9 = fp2_ y j 9 from rfl), Bool.true_or, Bool.or_true, if_pos rfl]
          · rw [uI_ne (by omega), decide_eq_false (fun z => q2 z.symm), decide_eq_false (fun z => q1 z.symm), Bool.or_false, Bool.or_false]
            exact hc f hf)
      refine ⟨σ3, ?_, fi_tr f2 f3 (fun a q => q) (fun a q => q), e3⟩
      rw [if_pos ((nc_eq hq h240 hk).mpr c), x5_graph hx.1 hx.2.2.1 h240 (show j < (pp_ y).length by omega), bd_s, x_sourceOf (D := gp_ y (pc_ (pp_ y) j)) fp2_lt, bd_s, show fX2_allowChoices 5000 381 (nI (gp_ y (pc_ (pp_ y) j) 9)) 3 σ = _ from x2_allow (s := fp2_ y j 9) hx.1 hx.2.1 f9, bd_s, x5_graph hx1.1 hx1.2.2.1 h240 (show j < (pp_ y).length by omega), bd_s, x_targetOf (D := gp_ y (pc_ (pp_ y) j)) fp2_lt, bd_s, show fX2_allowChoices 5000 381 (nI (gp_ y (pc_ (pp_ y) j) 10)) 3 _ = _ from x2_allow (s := fp2_ y j 10) hx1.1 hx1.2.1 f10, bd_s]
      exact r3
    · obtain ⟨σ3, r3, f3, e3⟩ := ih (j + 1) m σ (by omega) (by omega) hx (fun f hf => by
        have c2 : ik_ R k j = false := by simpa using c
        unfold cj_
        rw [us_s, c2, Bool.false_and, Bool.or_false]
        exact hc f hf)
      refine ⟨σ3, ?_, f3, e3⟩
      rw [if_neg (fun z => c ((nc_eq hq h240 hk).mp z)), r3]
theorem x2_countChoices {σ : js_S} {y : js_Y} {oc k : Nat} {R : Nat → Nat → Bool} (g : gy_ y) (hq : qv_ R (pp_ y).length) (hk : k < 2147483648) (hx : xe_ σ y oc R) : ∃ σ', fX2_countChoices 5000 381 366 oc (nI k) 3 σ = some ((), σ') ∧ fi_ (fun a => a = 389) σ σ' ∧ ∀ f, f < 3 → σ'.1 389 f = nI (cs2_ (fp2_ y) y.1 R k (pp_ y).length f) := by
  have h240 := pp_len g
  have hl := hx.1
  have f1 : fi_ (fun a => a = 389) σ (uI_ (uI_ (uI_ σ 389 0 1) 389 1 1) 389 2 1) := fi_tr (fi_tr (fi_u (S := fun a => a = 389) rfl) (fi_u (S := fun a => a = 389) rfl) (fun a q => q) (fun a q => q)) (fi_u (S := fun a => a = 389) rfl) (fun a q => q) (fun a q => q)
  obtain ⟨σ2, r2, f2, e2⟩ := x2_cc26 g hq hk (pp_ y).length 0 5000 _ (by omega) (by omega) (xe_fi f1 (fun a z => Or.inr z) hx) (fun f hf => by
    show _ = nI 1
    rcases (show f = 0 ∨ f = 1 ∨ f = 2 by omega) with rfl | rfl | rfl
    · rw [uI_ne (by omega), uI_ne (by omega), uI_same]; rfl
    · rw [uI_ne (by omega), uI_same]; rfl
    · rw [uI_same]; rfl)
  refine ⟨σ2, ?_, fi_tr f1 f2 (fun a q => q) (fun a q => q), e2⟩
  unfold fX2_countChoices
  have l1 : (uI_ σ 389 0 1).2.2 381 2 = 389 := lx_381_2 hl
  have l2 : (uI_ (uI_ σ 389 0 1) 389 1 1).2.2 381 2 = 389 := lx_381_2 hl
  rw [show (5000 : Nat) = 4999 + 1 from rfl, sX2_countChoices_3]
  unfold fX2_countChoices_3b
  rw [if_neg (by decide), lx_381_2 hl, ln_389, if_pos (by decide), lt_s_]
  show fX2_countChoices_3 5000 (4998 + 1) 381 366 oc (nI k) 3 1 (uI_ σ 389 0 1) = _
  rw [sX2_countChoices_3]
  unfold fX2_countChoices_3b
  rw [if_neg (by decide), l1, ln_389, if_pos (by decide), lt_s_]
  show fX2_countChoices_3 5000 (4997 + 1) 381 366 oc (nI k) 3 2 (uI_ (uI_ σ 389 0 1) 389 1 1) = _
  rw [sX2_countChoices_3]
  unfold fX2_countChoices_3b
  rw [if_neg (by decide), l2, ln_389, if_pos (by decide), lt_s_]
  show fX2_countChoices_3 5000 (4996 + 1) 381 366 oc (nI k) 3 3 (uI_ (uI_ (uI_ σ 389 0 1) 389 1 1) 389 2 1) = _
  rw [sX2_countChoices_3]
  unfold fX2_countChoices_3b
  rw [if_pos (by decide)]
  exact r2
/-- the chosen arguments -/
def cc_ (σ : js_S) (c : Nat → Nat) : Prop := ∀ f, f < 3 → σ.1 388 f = nI (c f) ∧ c f < 3
theorem x2_choiceOf {σ : js_S} {c : Nat → Nat} {f : Nat} (hl : lx_ σ.2.2) (hc : cc_ σ c) (hf : f < 3) : fX2_choiceOf 5000 381 (nI f) σ = some (nI (c f), σ) := by
  unfold fX2_choiceOf
  rw [if_neg (nI_pos (by omega)), lx_381_1 hl, ln_388, n_of, if_neg (nle_f hf (by omega)), if_pos (ib_t hf (by omega)), n_cl (by omega), (hc f hf).1]
theorem x2_projected {σ : js_S} {y : js_Y} {c : Nat → Nat} {j : Nat} (hl : lx_ σ.2.2) (hc : cc_ σ c) : fX2_projected 5000 381 (gg_ (fp2_ y j)) σ = some (nI (cv_ (fp2_ y) c j), σ) := by
  have f9 : fp2_ y j 9 < 3 := fn_lt _
  have f10 : fp2_ y j 10 < 3 := fn_lt _
  unfold fX2_projected cv_
  rw [x_sourceOf fp2_lt, bd_s, x2_choiceOf hl hc f9, bd_s, x_targetOf fp2_lt, bd_s, x2_choiceOf hl hc f10, bd_s, x_relationIn fp2_lt (hc _ f9).2 (hc _ f10).2, bd_s]
theorem cv_lt {y : js_Y} {c : Nat → Nat} {j : Nat} : cv_ (fp2_ y) c j < 4 := fp2_lt _
theorem x2_valid {σ : js_S} {y : js_Y} {oc k : Nat} {R : Nat → Nat → Bool} {c : Nat → Nat} (g : gy_ y) (hq : qv_ R (pp_ y).length) (hk : k < 2147483648) (hx : xe_ σ y oc R) (hc : cc_ σ c) :
    ∀ (d j m : Nat) (s : Bool), j + d = (pp_ y).length → d < m → fX2_isValid_6 5000 m 381 366 oc (nI k) (bi_ s) (nI j) σ = some (bi_ (vd_ (fp2_ y) R k c d j s), σ) := by
  have h240 := pp_len g
  intro d
  induction d with
  | zero =>
    intro j m s hj hm
    obtain ⟨m, rfl⟩ : ∃ j, m = j + 1 := ⟨m - 1, by omega⟩
    rw [sX2_isValid_6]
    unfold fX2_isValid_6b
    rw [hx.2.2.1.1, if_pos (nle_t (by omega) (by omega)), bi_nz, if_pos rfl]
    rfl
  | succ d ih =>
    intro j m s hj hm
    obtain ⟨m, rfl⟩ : ∃ j, m = j + 1 := ⟨m - 1, by omega⟩
    have hv := cv_lt (y := y) (c := c) (j := j)
    rw [sX2_isValid_6, vd_s]
    unfold fX2_isValid_6b fX2_isValid_55 fX2_isValid_60 fX2_isValid_62
    rw [hx.2.2.1.1, if_neg (nle_f (by omega) (by omega)), x1_number hx.2.2.2.1 (show j < 240 by omega), bd_s, hx.2.2.2.2.1 j (by omega), n_s]
    by_cases ci : ik_ R k j = true
    · rw [if_pos ((nc_eq hq h240 hk).mpr ci), if_pos ci, show fX5_graph 5000 366 (nI j) σ = some (gg_ (fp2_ y j), σ) from x5_graph hx.1 hx.2.2.1 h240 (show j < (pp_ y).length by omega), bd_s, x2_projected hx.1 hc, bd_s]
      by_cases c0 : cv_ (fp2_ y) c j = 0
      · rw [c0, if_pos rfl, if_pos (show nI 0 = 0 from rfl)]
        rfl
      · rw [if_neg c0, if_neg (show ¬ nI (cv_ (fp2_ y) c j) = 0 from neq_f (b := 0) c0 (by omega) (by omega))]
        by_cases c2 : cv_ (fp2_ y) c j = 2
        · have e : (s || decide (cv_ (fp2_ y) c j = 2)) = true := by rw [decide_eq_true c2, Bool.or_true]
          rw [e, if_pos (show nI (cv_ (fp2_ y) c j) = 2 by rw [c2]; rfl)]
          cases s with
          | false =>
            rw [bi_f, if_pos rfl]
            exact ih (j + 1) m true (by omega) (by omega)
          | true =>
            rw [bi_t, if_neg (by decide)]
            exact ih (j + 1) m true (by omega) (by omega)
        · have e : (s || decide (cv_ (fp2_ y) c j = 2)) = s := by rw [decide_eq_false c2, Bool.or_false]
          rw [e, if_neg (show ¬ nI (cv_ (fp2_ y) c j) = 2 from neq_f (b := 2) c2 (by omega) (by omega))]
          cases s with
          | false =>
            rw [bi_f, if_pos rfl]
            exact ih (j + 1) m false (by omega) (by omega)
          | true =>
            rw [bi_t, if_neg (by decide)]
            exact ih (j + 1) m true (by omega) (by omega)
    · rw [if_neg (fun z => ci ((nc_eq hq h240 hk).mp z)), if_neg ci]
      exact ih (j + 1) m s (by omega) (by omega)
/-- a search's end -/
def fr_ (o : Option (Nat × Nat × Nat)) (X : Option (Int32 × js_S)) (σ : js_S) (K : js_S → Option (Int32 × js_S)) : Prop := match o with
  | some q => ∃ σ', X = some (1, σ') ∧ fi_ (fun a => a = 388) σ σ' ∧ cc_ σ' (c3_ q.1 q.2.1 q.2.2)
  | none => ∃ σ', X = K σ' ∧ fi_ (fun a => a = 388) σ σ'
theorem c3_lt {a b c f : Nat} (ha : a < 3) (hb : b < 3) (hc : c < 3) : c3_ a b c f < 3 := by
  unfold c3_
  split
  · exact ha
  · split
    · exact hb
    · exact hc
theorem fr_or {o o2 : Option (Nat × Nat × Nat)} {X : Option (Int32 × js_S)} {σ : js_S} {K1 K2 : js_S → Option (Int32 × js_S)} (h1 : fr_ o X σ K1) (h2 : ∀ σ', fi_ (fun a => a = 388) σ σ' → fr_ o2 (K1 σ') σ' K2) : fr_ (o.or o2) X σ K2 := by
  cases o with
  | some q => exact h1
  | none =>
    obtain ⟨σ', e, f⟩ := h1
    have h3 := h2 σ' f
    rw [← e] at h3
    show fr_ o2 X σ K2
    cases o2 with
    | some q =>
      obtain ⟨σ2, r, f2, c⟩ := h3
      exact ⟨σ2, r, fi_tr f f2 (fun a q => q) (fun a q => q), c⟩
    | none =>
      obtain ⟨σ2, r, f2⟩ := h3
      exact ⟨σ2, r, fi_tr f f2 (fun a q => q) (fun a q => q)⟩
theorem x2_fp40 {y : js_Y} {oc k a b : Nat} {C : Nat → Nat} {R : Nat → Nat → Bool} {rc12 : Nat → Nat → Nat → Int32 → Int32 → js_S → Option (Int32 × js_S)} {rc26 : Nat → Nat → Nat → Int32 → Int32 → Int32 → js_S → Option (Int32 × js_S)} (g : gy_ y) (hq : qv_ R (pp_ y).length) (hk : k < 2147483648) (ha : a < 3) (hb : b < 3) (hC : ∀ f, f < 3 → C f ≤ 3) :
    ∀ (d c m : Nat) (σ : js_S), c + d = C 2 → d < m → xe_ σ y oc R → (∀ f, f < 3 → σ.1 389 f = nI (C f)) → fr_ (fs_ (fun c => p3_ (fp2_ y) R k (pp_ y).length a b c) d c) (fX2_findProjection_40 5000 rc12 rc26 m 381 366 oc (nI k) (nI a) (nI b) (nI c) σ) σ (fun σ' => rc26 381 366 oc (nI k) (nI a) (nI (b + 1)) σ') := by
  have h240 := pp_len g
  have h3 := hC 2 (by omega)
  intro d
  induction d with
  | zero =>
    intro c m σ hc hm hx h9
    obtain ⟨m, rfl⟩ : ∃ j, m = j + 1 := ⟨m - 1, by omega⟩
    refine ⟨σ, ?_, fi_rf⟩
    rw [sX2_findProjection_40]
    unfold fX2_findProjection_40b
    rw [lx_381_2 hx.1, ln_389, if_pos (by decide), show σ.1 389 (Int32.toNatClampNeg 2) = nI (C 2) from h9 2 (by omega), if_pos (nle_t (by omega) (by omega)), n_s]
  | succ d ih =>
    intro c m σ hc hm hx h9
    obtain ⟨m, rfl⟩ : ∃ j, m = j + 1 := ⟨m - 1, by omega⟩
    rw [fs_s]
    have f1 : fi_ (fun a => a = 388) σ (uI_ (uI_ (uI_ σ 388 0 (nI a)) 388 1 (nI b)) 388 2 (nI c)) := fi_tr (fi_tr (fi_u (S := fun a => a = 388) rfl) (fi_u (S := fun a => a = 388) rfl) (fun a q => q) (fun a q => q)) (fi_u (S := fun a => a = 388) rfl) (fun a q => q) (fun a q => q)
    have hx1 := xe_fi f1 (fun a z => Or.inl z) hx
    have hcc : cc_ (uI_ (uI_ (uI_ σ 388 0 (nI a)) 388 1 (nI b)) 388 2 (nI c)) (c3_ a b c) := by
      intro f hf
      refine ⟨?_, c3_lt ha hb (by omega)⟩
      rcases (show f = 0 ∨ f = 1 ∨ f = 2 by omega) with rfl | rfl | rfl
      · rw [uI_ne (by omega), uI_ne (by omega), uI_same]; rfl
      · rw [uI_ne (by omega), uI_same]; rfl
      · rw [uI_same]; rfl
    refine fr_or (K1 := fun σ' => fX2_findProjection_40 5000 rc12 rc26 m 381 366 oc (nI k) (nI a) (nI b) (nI (c + 1)) σ') ?_ (fun σ' f' => ih (c + 1) m σ' (by omega) (by omega) (xe_fi f' (fun a z => Or.inl z) hx) (fun f hf => by rw [f'.2 389 (by omega)]; exact h9 f hf))
    have hv := x2_valid g hq hk hx1 hcc (pp_ y).length 0 5000 false (by omega) (by omega)
    have l1 : (uI_ σ 388 0 (nI a)).2.2 381 1 = 388 := lx_381_1 hx.1
    have l2 : (uI_ (uI_ σ 388 0 (nI a)) 388 1 (nI b)).2.2 381 1 = 388 := lx_381_1 hx.1
    have e : fX2_findProjection_40 5000 rc12 rc26 (m + 1) 381 366 oc (nI k) (nI a) (nI b) (nI c) σ = if vd_ (fp2_ y) R k (c3_ a b c) (pp_ y).length 0 false = true then some (1, (uI_ (uI_ (uI_ σ 388 0 (nI a)) 388 1 (nI b)) 388 2 (nI c))) else fX2_findProjection_40 5000 rc12 rc26 m 381 366 oc (nI k) (nI a) (nI b) (nI (c + 1)) (uI_ (uI_ (uI_ σ 388 0 (nI a)) 388 1 (nI b)) 388 2 (nI c)) := by
      rw [sX2_findProjection_40]
      unfold fX2_findProjection_40b
      rw [lx_381_2 hx.1, ln_389, if_pos (by decide), show Int32.toNatClampNeg 0 = 0 from rfl, show Int32.toNatClampNeg 1 = 1 from rfl, show Int32.toNatClampNeg 2 = 2 from rfl, h9 2 (by omega), if_neg (nle_f (by omega) (by omega)), lx_381_1 hx.1, ln_388, if_pos (by decide), lt_s_, l1, ln_388, if_pos (by decide), lt_s_, l2, ln_388, if_pos (by decide), lt_s_]
      unfold fX2_isValid
      rw [show fX2_isValid_6 5000 5000 381 366 oc (nI k) 0 0 (uI_ (uI_ (uI_ σ 388 0 (nI a)) 388 1 (nI b)) 388 2 (nI c)) = _ from hv, bd_s, n_s]
      cases vd_ (fp2_ y) R k (c3_ a b c) (pp_ y).length 0 false with
      | false => rw [bi_f, if_pos rfl, if_neg Bool.false_ne_true]
      | true => rw [bi_t, if_neg (by decide), if_pos rfl]
    rw [e]
    unfold p3_
    by_cases cv : vd_ (fp2_ y) R k (c3_ a b c) (pp_ y).length 0 false = true
    · rw [if_pos cv, if_pos cv]
      exact ⟨_, rfl, f1, hcc⟩
    · rw [if_neg cv, if_neg cv]
      exact ⟨_, rfl, f1⟩
theorem x2_fp26 {y : js_Y} {oc k a : Nat} {C : Nat → Nat} {R : Nat → Nat → Bool} {rc12 : Nat → Nat → Nat → Int32 → Int32 → js_S → Option (Int32 × js_S)} (g : gy_ y) (hq : qv_ R (pp_ y).length) (hk : k < 2147483648) (ha : a < 3) (hC : ∀ f, f < 3 → C f ≤ 3) :
    ∀ (d b m : Nat) (σ : js_S), b + d = C 1 → d < m → xe_ σ y oc R → (∀ f, f < 3 → σ.1 389 f = nI (C f)) → fr_ (fs_ (fun b => fs_ (fun c => p3_ (fp2_ y) R k (pp_ y).length a b c) (C 2) 0) d b) (fX2_findProjection_26 5000 rc12 m 381 366 oc (nI k) (nI a) (nI b) σ) σ (fun σ' => rc12 381 366 oc (nI k) (nI (a + 1)) σ') := by
  have h3 := hC 1 (by omega)
  have h32 := hC 2 (by omega)
  intro d
  induction d with
  | zero =>
    intro b m σ hb hm hx h9
    obtain ⟨m, rfl⟩ : ∃ j, m = j + 1 := ⟨m - 1, by omega⟩
    refine ⟨σ, ?_, fi_rf⟩
    rw [sX2_findProjection_26]
    unfold fX2_findProjection_26b
    rw [lx_381_2 hx.1, ln_389, if_pos (by decide), show σ.1 389 (Int32.toNatClampNeg 1) = nI (C 1) from h9 1 (by omega), if_pos (nle_t (by omega) (by omega)), n_s]
  | succ d ih =>
    intro b m σ hb hm hx h9
    obtain ⟨m, rfl⟩ : ∃ j, m = j + 1 := ⟨m - 1, by omega⟩
    rw [fs_s]
    refine fr_or (K1 := fun σ' => fX2_findProjection_26 5000 rc12 m 381 366 oc (nI k) (nI a) (nI (b + 1)) σ') ?_ (fun σ' f' => ih (b + 1) m σ' (by omega) (by omega) (xe_fi f' (fun a z => Or.inl z) hx) (fun f hf => by rw [f'.2 389 (by omega)]; exact h9 f hf))
    have h40 := x2_fp40 (rc12 := rc12) (rc26 := fX2_findProjection_26 5000 rc12 m) (b := b) g hq hk ha (by omega) hC (C 2) 0 5000 σ (by omega) (by omega) hx h9
    rw [sX2_findProjection_26]
    unfold fX2_findProjection_26b
    rw [lx_381_2 hx.1, ln_389, if_pos (by decide), show σ.1 389 (Int32.toNatClampNeg 1) = nI (C 1) from h9 1 (by omega), if_neg (nle_f (by omega) (by omega))]
    exact h40
theorem x2_fp12 {y : js_Y} {oc k : Nat} {C : Nat → Nat} {R : Nat → Nat → Bool} (g : gy_ y) (hq : qv_ R (pp_ y).length) (hk : k < 2147483648) (hC : ∀ f, f < 3 → C f ≤ 3) :
    ∀ (d a m : Nat) (σ : js_S), a + d = C 0 → d < m → xe_ σ y oc R → (∀ f, f < 3 → σ.1 389 f = nI (C f)) → fr_ (fs_ (fun a => fs_ (fun b => fs_ (fun c => p3_ (fp2_ y) R k (pp_ y).length a b c) (C 2) 0) (C 1) 0) d a) (fX2_findProjection_12 5000 m 381 366 oc (nI k) (nI a) σ) σ (fun σ' => some (0, σ')) := by
  have h3 := hC 0 (by omega)
  have h31 := hC 1 (by omega)
  intro d
  induction d with
  | zero =>
    intro a m σ ha hm hx h9
    obtain ⟨m, rfl⟩ : ∃ j, m = j + 1 := ⟨m - 1, by omega⟩
    refine ⟨σ, ?_, fi_rf⟩
    rw [sX2_findProjection_12]
    unfold fX2_findProjection_12b
    rw [lx_381_2 hx.1, ln_389, if_pos (by decide), show σ.1 389 (Int32.toNatClampNeg 0) = nI (C 0) from h9 0 (by omega), if_pos (nle_t (by omega) (by omega))]
  | succ d ih =>
    intro a m σ ha hm hx h9
    obtain ⟨m, rfl⟩ : ∃ j, m = j + 1 := ⟨m - 1, by omega⟩
    rw [fs_s]
    refine fr_or (K1 := fun σ' => fX2_findProjection_12 5000 m 381 366 oc (nI k) (nI (a + 1)) σ') ?_ (fun σ' f' => ih (a + 1) m σ' (by omega) (by omega) (xe_fi f' (fun a z => Or.inl z) hx) (fun f hf => by rw [f'.2 389 (by omega)]; exact h9 f hf))
    have h26 := x2_fp26 (rc12 := fX2_findProjection_12 5000 m) (a := a) g hq hk (by omega) hC (C 1) 0 5000 σ (by omega) (by omega) hx h9
    rw [sX2_findProjection_12]
    unfold fX2_findProjection_12b
    rw [lx_381_2 hx.1, ln_389, if_pos (by decide), show σ.1 389 (Int32.toNatClampNeg 0) = nI (C 0) from h9 0 (by omega), if_neg (nle_f (by omega) (by omega))]
    exact h26
theorem x2_findProjection {σ : js_S} {y : js_Y} {oc k : Nat} {R : Nat → Nat → Bool} (g : gy_ y) (hq : qv_ R (pp_ y).length) (hk : k < 2147483648) (hx : xe_ σ y oc R) : ∃ σ' r, fX2_findProjection 5000 381 366 oc (nI k) 3 σ = some (r, σ') ∧ fi_ (fun a => a = 388 ∨ a = 389) σ σ' ∧ ((pj_ (fp2_ y) y.1 (pp_ y).length R k = none ∧ r = 0) ∨ ∃ q, pj_ (fp2_ y) y.1 (pp_ y).length R k = some q ∧ r = 1 ∧ cc_ σ' (c3_ q.1 q.2.1 q.2.2)) := by
  obtain ⟨σ1, r1, f1, e1⟩ := x2_countChoices g hq hk hx
  have hC : ∀ f, f < 3 → cs2_ (fp2_ y) y.1 R k (pp_ y).length f ≤ 3 := fun f hf => by
    have := g.1 f hf
    unfold cs2_
    split <;> omega
  have h12 := x2_fp12 (C := cs2_ (fp2_ y) y.1 R k (pp_ y).length) g hq hk hC (cs2_ (fp2_ y) y.1 R k (pp_ y).length 0) 0 5000 σ1 (by omega) (by have := hC 0 (by omega); omega) (xe_fi f1 (fun a z => Or.inr z) hx) e1
  have e : fX2_findProjection 5000 381 366 oc (nI k) 3 σ = fX2_findProjection_12 5000 5000 381 366 oc (nI k) (nI 0) σ1 := by
    unfold fX2_findProjection
    rw [r1, bd_s]
    rfl
  have hp : fs_ (fun a => fs_ (fun b => fs_ (fun c => p3_ (fp2_ y) R k (pp_ y).length a b c) (cs2_ (fp2_ y) y.1 R k (pp_ y).length 2) 0) (cs2_ (fp2_ y) y.1 R k (pp_ y).length 1) 0) (cs2_ (fp2_ y) y.1 R k (pp_ y).length 0) 0 = pj_ (fp2_ y) y.1 (pp_ y).length R k := rfl
  rw [hp] at h12
  rw [e]
  cases c : pj_ (fp2_ y) y.1 (pp_ y).length R k with
  | none =>
    rw [c] at h12
    obtain ⟨σ2, r2, f2⟩ := h12
    exact ⟨σ2, 0, r2, fi_tr f1 f2 (fun a q => by omega) (fun a q => by omega), Or.inl ⟨rfl, rfl⟩⟩
  | some q =>
    rw [c] at h12
    obtain ⟨σ2, r2, f2, c2⟩ := h12
    exact ⟨σ2, 1, r2, fi_tr f1 f2 (fun a q => by omega) (fun a q => by omega), Or.inr ⟨q, rfl, rfl, c2⟩⟩
theorem x2_number {σ : js_S} {q : Nat × Nat × Nat} (hl : lx_ σ.2.2) (hc : cc_ σ (c3_ q.1 q.2.1 q.2.2)) : fX2_projectionNumber 5000 381 σ = some (nI (100 * (q.1 + 1) + 10 * (q.2.1 + 1) + (q.2.2 + 1)), σ) := by
  have h0 := hc 0 (by omega)
  have h1 := hc 1 (by omega)
  have h2 := hc 2 (by omega)
  have e0 : σ.1 388 (Int32.toNatClampNeg 0) = nI q.1 := h0.1
  have e1 : σ.1 388 (Int32.toNatClampNeg 1) = nI q.2.1 := h1.1
  have e2 : σ.1 388 (Int32.toNatClampNeg 2) = nI q.2.2 := h2.1
  unfold fX2_projectionNumber
  rw [lx_381_1 hl, ln_388, if_pos (by decide), if_pos (by decide), if_pos (by decide), e0, e1, e2, n_s, n_s, show (100 : Int32) * nI (q.1 + 1) = nI (100 * (q.1 + 1)) from n_mul 100 _, show (10 : Int32) * nI (q.2.1 + 1) = nI (10 * (q.2.1 + 1)) from n_mul 10 _, n_add, n_add, n_s, Nat.add_assoc]
