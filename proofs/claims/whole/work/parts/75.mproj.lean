/-! the model: projections -/
def me2_ (σ : js_S) (y : js_Y) (R : Nat → Nat → Bool) : Prop := ms_ σ y ∧ mr_ σ (pp_ y) ∧ σ.1 390 23 = nI (pp_ y).length ∧ ∀ j, j < (pp_ y).length → σ.1 408 j = nm_ R j
theorem me2_fi {S : Nat → Prop} {σ σ' : js_S} {y : js_Y} {R : Nat → Nat → Bool} (h : fi_ S σ σ') (hS : ∀ a, S a → a = 414 ∨ a = 415 ∨ a = 416) (hm : me2_ σ y R) : me2_ σ' y R := by
  obtain ⟨h1, h2, h3, h4⟩ := hm
  exact ⟨ms_fi h (fun a q z => by have := hS a z; omega) h1, mr_eq (h.2 403 (fun z => by have := hS _ z; omega)) (h.2 404 (fun z => by have := hS _ z; omega)) h2, by rw [h.2 390 (fun z => by have := hS _ z; omega)]; exact h3, fun j hj => by rw [h.2 408 (fun z => by have := hS _ z; omega)]; exact h4 j hj⟩
def md_ (σ : js_S) (y : js_Y) (c : Nat → Nat) : Prop := ∀ f, f < 3 → σ.1 414 f = nI (c f + 1) ∧ c f < y.1 f
theorem md_fi {S : Nat → Prop} {σ σ' : js_S} {y : js_Y} {c : Nat → Nat} (h : fi_ S σ σ') (hS : ¬ S 414) (hm : md_ σ y c) : md_ σ' y c := fun f hf => by rw [h.2 414 hS]; exact hm f hf
def ul_ (u : Nat → Bool) (c : Nat → Nat) : Nat → Nat → Bool
  | 0, _ => true
  | d + 1, f => (u f || decide (c f = 0)) && ul_ u c d (f + 1)
theorem ul_s {u : Nat → Bool} {c : Nat → Nat} {d f : Nat} : ul_ u c (d + 1) f = ((u f || decide (c f = 0)) && ul_ u c d (f + 1)) := rfl
theorem m_v135 {σ : js_S} {y : js_Y} {u : Nat → Bool} {c : Nat → Nat} (g : gy_ y) (hm : ms_ σ y) (hd : md_ σ y c) (hu : ∀ f, f < 3 → σ.1 415 f = bi_ (u f)) :
    ∀ (d f m : Nat) (s : Bool), f + d = 3 → d < m → fX12_isValid_135 5000 m 390 415 (bi_ s) (nI f) σ = some (bi_ (s && ul_ u c d f), σ) := by
  intro d
  induction d with
  | zero =>
    intro f m s hf hk
    obtain ⟨m, rfl⟩ : ∃ j, m = j + 1 := ⟨m - 1, by omega⟩
    rw [sX12_isValid_135]
    unfold fX12_isValid_135b
    rw [if_pos (show (3 : Int32) ≤ nI f from nle_t (a := 3) (by omega) (by omega)), bi_nz, if_pos rfl]
    show _ = some (bi_ (s && true), σ)
    rw [Bool.and_true]
  | succ d ih =>
    intro f m s hf hk
    obtain ⟨m, rfl⟩ : ∃ j, m = j + 1 := ⟨m - 1, by omega⟩
    have hdf := hd f (by omega)
    have h3 := (g.1 f (by omega)).2
    rw [sX12_isValid_135, ul_s]
    unfold fX12_isValid_135b fX12_isValid_161 fX12_isValid_166
    rw [if_neg (show ¬ (3 : Int32) ≤ nI f from nle_f (a := 3) (by omega) (by omega)), ln_415, if_pos (ib_t (by omega) (by omega)), n_cl (by omega), hu f (by omega), lm_31 hm.1, ln_414, if_pos (ib_t (by omega) (by omega)), hdf.1, n_s]
    have e1 : bi_ s &&& 1 = bi_ (s && true) := bi_and s true
    have e0 : bi_ s &&& 0 = bi_ (s && false) := bi_and s false
    cases cu : u f with
    | true =>
      rw [bi_t, if_neg (by decide), e1, Bool.and_true, Bool.true_or, Bool.true_and]
      exact ih (f + 1) m s (by omega) (by omega)
    | false =>
      rw [bi_f, if_pos rfl, Bool.false_or]
      by_cases cz : c f = 0
      · rw [cz, decide_eq_true (show (0 : Nat) = 0 from rfl), if_pos (show nI (0 + 1) = 1 from rfl), e1, Bool.and_true, Bool.true_and]
        exact ih (f + 1) m s (by omega) (by omega)
      · rw [decide_eq_false cz, if_neg (show ¬ nI (c f + 1) = 1 from neq_f (b := 1) (by omega) (by omega) (by omega)), e0, ih (f + 1) m _ (by omega) (by omega), Bool.false_and, Bool.and_false, Bool.false_and]
theorem m_cv {σ : js_S} {y : js_Y} {R : Nat → Nat → Bool} {c : Nat → Nat} {j : Nat} {K : Int32 → js_S → Option (Int32 × js_S)} (g : gy_ y) (hm : me2_ σ y R) (hd : md_ σ y c) (hj : j < (pp_ y).length) : (bd_ (fX12_sourceOf 5000 390 (nI j) σ) fun r6 σ6 => (if ib_ r6 (ln_ (σ.2.2 390 31)) = true then (bd_ (fX12_targetOf 5000 390 (nI j) σ6) fun r9 σ9 => (if ib_ r9 (ln_ (σ6.2.2 390 31)) = true then (bd_ (fX12_relation 5000 390 (nI j) ((σ6.1 (σ.2.2 390 31) (Int32.toNatClampNeg r6)) - 1) ((σ9.1 (σ6.2.2 390 31) (Int32.toNatClampNeg r9)) - 1) σ9) K) else none)) else none)) = K (nI (cv_ (fp2_ y) c j)) σ := by
  have f9 : fp2_ y j 9 < 3 := fn_lt _
  have f10 : fp2_ y j 10 < 3 := fn_lt _
  have d9 := hd _ f9
  have d10 := hd _ f10
  have b9 := (g.1 _ f9).2
  have b10 := (g.1 _ f10).2
  rw [show fX12_sourceOf 5000 390 (nI j) σ = some (nI (fp2_ y j 9), σ) from m_sourceOf g hm.1 hm.2.1 hj, bd_s, lm_31 hm.1.1, ln_414, if_pos (ib_t f9 (by omega)), show fX12_targetOf 5000 390 (nI j) σ = some (nI (fp2_ y j 10), σ) from m_targetOf g hm.1 hm.2.1 hj, bd_s, if_pos (ib_t f10 (by omega)), n_cl (by omega), n_cl (by omega), d9.1, d10.1, n_pred (by omega), n_pred (by omega), Nat.add_sub_cancel, Nat.add_sub_cancel, m_relation g hm.1 hm.2.1 hj d9.2 d10.2, bd_s]
  rfl
theorem m_v30 {y : js_Y} {k : Nat} {R : Nat → Nat → Bool} {c : Nat → Nat} (g : gy_ y) (hq : qv_ R (pp_ y).length) (hk : k < 2147483648) :
    ∀ (d j m : Nat) (s : Bool) (σ : js_S), j + d = (pp_ y).length → d < m → me2_ σ y R → md_ σ y c → (∀ f, f < 3 → σ.1 415 f = bi_ (us_ (fp2_ y) R k f j)) → ∃ σ', fX12_isValid_30 5000 m 390 (nI k) (bi_ s) 415 (nI j) σ = some (bi_ (vd_ (fp2_ y) R k c d j s && ul_ (fun f => us_ (fp2_ y) R k f (pp_ y).length) c 3 0), σ') ∧ fi_ (fun a => a = 415) σ σ' := by
  have h240 := pp_len g
  intro d
  induction d with
  | zero =>
    intro j m s σ hj hm h hd hu
    obtain ⟨m, rfl⟩ : ∃ j, m = j + 1 := ⟨m - 1, by omega⟩
    have e : j = (pp_ y).length := by omega
    subst e
    refine ⟨σ, ?_, fi_rf⟩
    rw [sX12_isValid_30]
    unfold fX12_isValid_30b
    rw [h.2.2.1, if_pos (nle_t (by omega) (by omega))]
    exact m_v135 g h.1 hd hu 3 0 5000 s (by omega) (by omega)
  | succ d ih =>
    intro j m s σ hj hm h hd hu
    obtain ⟨m, rfl⟩ : ∃ j, m = j + 1 := ⟨m - 1, by omega⟩
    have hjn : j < (pp_ y).length := by omega
    have f9 : fp2_ y j 9 < 3 := fn_lt _
    have f10 : fp2_ y j 10 < 3 := fn_lt _
    have hv := cv_lt (y := y) (c := c) (j := j)
    rw [sX12_isValid_30, vd_s]
    unfold fX12_isValid_30b
    rw [h.2.2.1, if_neg (nle_f (by omega) (by omega)), lm_22 h.1.1, ln_408, if_pos (ib_t (by omega) (by omega)), n_cl (by omega), h.2.2.2 j hjn, m_cv g h hd hjn]
    by_cases ci : ik_ R k j = true
    · rw [if_pos ((nm_eq hq h240 hk).mpr ci), if_pos ci]
      by_cases c0 : cv_ (fp2_ y) c j = 0
      · refine ⟨σ, ?_, fi_rf⟩
        rw [c0, if_pos rfl, if_pos (show nI 0 = 0 from rfl), Bool.false_and]
        rfl
      · rw [if_neg c0, if_neg (show ¬ nI (cv_ (fp2_ y) c j) = 0 from neq_f (b := 0) c0 (by omega) (by omega))]
        have f1 : fi_ (fun a => a = 415) σ (uI_ σ 415 (fp2_ y j 9) 1) := fi_u rfl
        have f2 : fi_ (fun a => a = 415) σ (uI_ (uI_ σ 415 (fp2_ y j 9) 1) 415 (fp2_ y j 10) 1) := fi_tr f1 (fi_u (S := fun a => a = 415) rfl) (fun a q => q) (fun a q => q)
        have h1 := me2_fi f1 (fun a z => by omega) h
        have h2 := me2_fi f2 (fun a z => by omega) h
        have hd2 := md_fi f2 (by omega) hd
        have hu2 : ∀ f, f < 3 → (uI_ (uI_ σ 415 (fp2_ y j 9) 1) 415 (fp2_ y j 10) 1).1 415 f = bi_ (us_ (fp2_ y) R k f (j + 1)) := by
          intro f hf
          rw [us_s, ci, Bool.true_and]
          by_cases q1 : f = fp2_ y j 10
          · rw [q1, uI_same, decide_eq_true (show fp2_ y j 10 = fp2_ y j 10 from rfl), Bool.or_true, Bool.or_true]
            rfl
          · rw [uI_ne (by omega)]
            by_cases q2 : f = fp2_ y j 9
            · rw [q2, uI_same, decide_eq_true (show fp2_ y j 9 = fp2_ y j 9 from rfl), Bool.true_or, Bool.or_true]
              rfl
            · rw [uI_ne (by omega), decide_eq_false (fun z => q2 z.symm), decide_eq_false (fun z => q1 z.symm), Bool.or_false, Bool.or_false]
              exact hu f hf
        have key : ∀ b : Bool, fX12_isValid_103 5000 (fX12_isValid_30 5000 m) 390 (nI k) 415 (nI j) (bi_ b) (bi_ s) σ = fX12_isValid_30 5000 m 390 (nI k) (bi_ (s || b)) 415 (nI (j + 1)) (uI_ (uI_ σ 415 (fp2_ y j 9) 1) 415 (fp2_ y j 10) 1) := by
          intro b
          unfold fX12_isValid_103 fX12_isValid_123
          rw [show fX12_sourceOf 5000 390 (nI j) σ = some (nI (fp2_ y j 9), σ) from m_sourceOf g h.1 h.2.1 hjn, bd_s, ln_415, if_pos (ib_t f9 (by omega)), n_cl (by omega), show nz_ 1 = 1 from bi_nz true, lt_s_, show fX12_targetOf 5000 390 (nI j) (uI_ σ 415 (fp2_ y j 9) 1) = some (nI (fp2_ y j 10), uI_ σ 415 (fp2_ y j 9) 1) from m_targetOf g h1.1 h1.2.1 hjn, bd_s, if_pos (ib_t f10 (by omega)), n_cl (by omega), lt_s_, bi_or, n_s]
        obtain ⟨σ3, r3, f3⟩ := ih (j + 1) m (s || decide (cv_ (fp2_ y) c j = 2)) _ (by omega) (by omega) h2 hd2 hu2
        refine ⟨σ3, ?_, fi_tr f2 f3 (fun a q => q) (fun a q => q)⟩
        rw [← r3]
        by_cases c2 : cv_ (fp2_ y) c j = 2
        · rw [if_pos (show nI (cv_ (fp2_ y) c j) = 2 by rw [c2]; rfl), decide_eq_true c2]
          exact key true
        · rw [if_neg (show ¬ nI (cv_ (fp2_ y) c j) = 2 from neq_f (b := 2) c2 (by omega) (by omega)), decide_eq_false c2]
          exact key false
    · obtain ⟨σ3, r3, f3⟩ := ih (j + 1) m s σ (by omega) (by omega) h hd (fun f hf => by
        have c2 : ik_ R k j = false := by simpa using ci
        rw [us_s, c2, Bool.false_and, Bool.or_false]
        exact hu f hf)
      refine ⟨σ3, ?_, f3⟩
      unfold fX12_isValid_123
      rw [if_neg (fun z => ci ((nm_eq hq h240 hk).mp z)), if_neg ci, n_s, r3]
theorem m_isValid {σ : js_S} {y : js_Y} {k : Nat} {R : Nat → Nat → Bool} {c : Nat → Nat} (g : gy_ y) (hq : qv_ R (pp_ y).length) (hk : k < 2147483648) (h : me2_ σ y R) (hd : md_ σ y c) : ∃ σ', fX12_isValid 5000 390 (nI k) σ = some (bi_ (vd_ (fp2_ y) R k c (pp_ y).length 0 false && ul_ (fun f => us_ (fp2_ y) R k f (pp_ y).length) c 3 0), σ') ∧ fi_ (fun a => a = 415) σ σ' := by
  have h240 := pp_len g
  have f1 : fi_ (fun a => a = 415) σ (uI_ (uI_ (uI_ σ 415 0 0) 415 1 0) 415 2 0) := fi_tr (fi_tr (fi_u (S := fun a => a = 415) rfl) (fi_u (S := fun a => a = 415) rfl) (fun a q => q) (fun a q => q)) (fi_u (S := fun a => a = 415) rfl) (fun a q => q) (fun a q => q)
  obtain ⟨σ2, r2, f2⟩ := m_v30 (c := c) g hq hk (pp_ y).length 0 5000 false _ (by omega) (by omega) (me2_fi f1 (fun a z => by omega) h) (md_fi f1 (by omega) hd) (fun f hf => by
    show _ = bi_ false
    rcases (show f = 0 ∨ f = 1 ∨ f = 2 by omega) with rfl | rfl | rfl
    · rw [uI_ne (by omega), uI_ne (by omega), uI_same]; rfl
    · rw [uI_ne (by omega), uI_same]; rfl
    · rw [uI_same]; rfl)
  refine ⟨σ2, ?_, fi_tr f1 f2 (fun a q => q) (fun a q => q)⟩
  unfold fX12_isValid
  have z0 : nz_ 0 = 0 := bi_nz false
  rw [lm_32 h.1.1, show (5000 : Nat) = 4999 + 1 from rfl, sX12_isValid_10]
  unfold fX12_isValid_10b
  rw [if_neg (by decide), ln_415, if_pos (by decide), z0, lt_s_]
  show fX12_isValid_10 5000 (4998 + 1) 390 (nI k) 0 415 1 (uI_ σ 415 0 0) = _
  rw [sX12_isValid_10]
  unfold fX12_isValid_10b
  rw [if_neg (by decide), ln_415, if_pos (by decide), z0, lt_s_]
  show fX12_isValid_10 5000 (4997 + 1) 390 (nI k) 0 415 2 (uI_ (uI_ σ 415 0 0) 415 1 0) = _
  rw [sX12_isValid_10]
  unfold fX12_isValid_10b
  rw [if_neg (by decide), ln_415, if_pos (by decide), z0, lt_s_]
  show fX12_isValid_10 5000 (4996 + 1) 390 (nI k) 0 415 3 (uI_ (uI_ (uI_ σ 415 0 0) 415 1 0) 415 2 0) = _
  rw [sX12_isValid_10]
  unfold fX12_isValid_10b
  rw [if_pos (by decide)]
  exact r2
/-- the model's test of digits -/
def pm_ (F : Nat → Nat → Nat) (R : Nat → Nat → Bool) (k n a b c : Nat) : Option (Nat × Nat × Nat) := if (vd_ F R k (c3_ a b c) n 0 false && ul_ (fun f => us_ F R k f n) (c3_ a b c) 3 0) = true then some (a, b, c) else none
def pv_ (q : Nat × Nat × Nat) : Nat := 100 * (q.1 + 1) + 10 * (q.2.1 + 1) + (q.2.2 + 1)
def ft_ (y : js_Y) (o : Option (Nat × Nat × Nat)) (X : Option (Int32 × js_S)) (σ : js_S) (K : js_S → Option (Int32 × js_S)) : Prop := match o with
  | some q => ∃ σ', X = some (nI (pv_ q), σ') ∧ fi_ (fun a => a = 414 ∨ a = 415) σ σ' ∧ md_ σ' y (c3_ q.1 q.2.1 q.2.2)
  | none => ∃ σ', X = K σ' ∧ fi_ (fun a => a = 414 ∨ a = 415) σ σ'
theorem ft_or {y : js_Y} {o o2 : Option (Nat × Nat × Nat)} {X : Option (Int32 × js_S)} {σ : js_S} {K1 K2 : js_S → Option (Int32 × js_S)} (h1 : ft_ y o X σ K1) (h2 : ∀ σ', fi_ (fun a => a = 414 ∨ a = 415) σ σ' → ft_ y o2 (K1 σ') σ' K2) : ft_ y (o.or o2) X σ K2 := by
  cases o with
  | some q => exact h1
  | none =>
    obtain ⟨σ', e, f⟩ := h1
    have h3 := h2 σ' f
    rw [← e] at h3
    show ft_ y o2 X σ K2
    cases o2 with
    | some q =>
      obtain ⟨σ2, r, f2, c⟩ := h3
      exact ⟨σ2, r, fi_tr f f2 (fun a q => q) (fun a q => q), c⟩
    | none =>
      obtain ⟨σ2, r, f2⟩ := h3
      exact ⟨σ2, r, fi_tr f f2 (fun a q => q) (fun a q => q)⟩
theorem m_fp27 {y : js_Y} {k a b : Nat} {R : Nat → Nat → Bool} {rc2 : Nat → Int32 → Int32 → js_S → Option (Int32 × js_S)} {rc14 : Nat → Int32 → Int32 → Int32 → js_S → Option (Int32 × js_S)} (g : gy_ y) (hq : qv_ R (pp_ y).length) (hk : k < 2147483648) (ha : a < y.1 0) (hb : b < y.1 1) :
    ∀ (d c m : Nat) (σ : js_S), c + d = y.1 2 → d < m → me2_ σ y R → ft_ y (fs_ (fun c => pm_ (fp2_ y) R k (pp_ y).length a b c) d c) (fX12_findProjection_27 5000 rc2 rc14 m 390 (nI k) (nI (a + 1)) (nI (b + 1)) (nI (c + 1)) σ) σ (fun σ' => rc14 390 (nI k) (nI (a + 1)) (nI (b + 1 + 1)) σ') := by
  have a0 := (g.1 0 (by omega)).2
  have a1 := (g.1 1 (by omega)).2
  have a2 := (g.1 2 (by omega)).2
  intro d
  induction d with
  | zero =>
    intro c m σ hc hm h
    obtain ⟨m, rfl⟩ : ∃ j, m = j + 1 := ⟨m - 1, by omega⟩
    refine ⟨σ, ?_, fi_rf⟩
    rw [sX12_findProjection_27]
    unfold fX12_findProjection_27b
    rw [lm_0 h.1.1, ln_391, if_pos (by decide), show σ.1 391 (Int32.toNatClampNeg 2) = nI (y.1 2) from h.1.2.1 2 (by omega), if_pos (nlt_t (by omega) (by omega)), n_s]
  | succ d ih =>
    intro c m σ hc hm h
    obtain ⟨m, rfl⟩ : ∃ j, m = j + 1 := ⟨m - 1, by omega⟩
    rw [fs_s]
    have f1 : fi_ (fun a => a = 414 ∨ a = 415) σ (uI_ (uI_ (uI_ σ 414 0 (nI (a + 1))) 414 1 (nI (b + 1))) 414 2 (nI (c + 1))) := fi_tr (fi_tr (fi_u (S := fun a => a = 414) rfl) (fi_u (S := fun a => a = 414) rfl) (S3 := fun a => a = 414) (fun a q => q) (fun a q => q)) (fi_u (S := fun a => a = 414) rfl) (fun a q => by omega) (fun a q => by omega)
    have h1 := me2_fi f1 (fun a z => by omega) h
    have hmd : md_ (uI_ (uI_ (uI_ σ 414 0 (nI (a + 1))) 414 1 (nI (b + 1))) 414 2 (nI (c + 1))) y (c3_ a b c) := by
      intro f hf
      rcases (show f = 0 ∨ f = 1 ∨ f = 2 by omega) with rfl | rfl | rfl
      · rw [uI_ne (by omega), uI_ne (by omega), uI_same]; exact ⟨rfl, ha⟩
      · rw [uI_ne (by omega), uI_same]; exact ⟨rfl, hb⟩
      · rw [uI_same]; exact ⟨rfl, by show c < y.1 2; omega⟩
    refine ft_or (K1 := fun σ' => fX12_findProjection_27 5000 rc2 rc14 m 390 (nI k) (nI (a + 1)) (nI (b + 1)) (nI (c + 1 + 1)) σ') ?_ (fun σ' f' => ih (c + 1) m σ' (by omega) (by omega) (me2_fi f' (fun a z => by omega) h))
    obtain ⟨σ2, r2, f2⟩ := m_isValid g hq hk h1 hmd
    have f12 := fi_tr (S3 := fun a => a = 414 ∨ a = 415) f1 f2 (fun a q => q) (fun a q => by omega)
    have l1 : (uI_ σ 414 0 (nI (a + 1))).2.2 390 31 = 414 := lm_31 h.1.1
    have l2 : (uI_ (uI_ σ 414 0 (nI (a + 1))) 414 1 (nI (b + 1))).2.2 390 31 = 414 := lm_31 h.1.1
    have e : fX12_findProjection_27 5000 rc2 rc14 (m + 1) 390 (nI k) (nI (a + 1)) (nI (b + 1)) (nI (c + 1)) σ = if (vd_ (fp2_ y) R k (c3_ a b c) (pp_ y).length 0 false && ul_ (fun f => us_ (fp2_ y) R k f (pp_ y).length) (c3_ a b c) 3 0) = true then some (nI (pv_ (a, b, c)), σ2) else fX12_findProjection_27 5000 rc2 rc14 m 390 (nI k) (nI (a + 1)) (nI (b + 1)) (nI (c + 1 + 1)) σ2 := by
      rw [sX12_findProjection_27]
      unfold fX12_findProjection_27b
      rw [lm_0 h.1.1, ln_391, if_pos (by decide), show Int32.toNatClampNeg 0 = 0 from rfl, show Int32.toNatClampNeg 1 = 1 from rfl, show Int32.toNatClampNeg 2 = 2 from rfl, h.1.2.1 2 (by omega), if_neg (nlt_f (by omega) (by omega)), lm_31 h.1.1, ln_414, if_pos (by decide), lt_s_, l1, ln_414, if_pos (by decide), lt_s_, l2, ln_414, if_pos (by decide), lt_s_, r2, bd_s, n_s, show (100 : Int32) * nI (a + 1) = nI (100 * (a + 1)) from n_mul 100 _, show (10 : Int32) * nI (b + 1) = nI (10 * (b + 1)) from n_mul 10 _, n_add, n_add]
      cases (vd_ (fp2_ y) R k (c3_ a b c) (pp_ y).length 0 false && ul_ (fun f => us_ (fp2_ y) R k f (pp_ y).length) (c3_ a b c) 3 0) with
      | false => rw [bi_f, if_pos rfl, if_neg Bool.false_ne_true]
      | true =>
        rw [bi_t, if_neg (by decide), if_pos rfl]
        rfl
    rw [e]
    unfold pm_
    by_cases cv : (vd_ (fp2_ y) R k (c3_ a b c) (pp_ y).length 0 false && ul_ (fun f => us_ (fp2_ y) R k f (pp_ y).length) (c3_ a b c) 3 0) = true
    · rw [if_pos cv, if_pos cv]
      exact ⟨_, rfl, f12, md_fi f2 (by omega) hmd⟩
    · rw [if_neg cv, if_neg cv]
      exact ⟨_, rfl, f12⟩
theorem m_fp14b {y : js_Y} {k a : Nat} {R : Nat → Nat → Bool} {rc2 : Nat → Int32 → Int32 → js_S → Option (Int32 × js_S)} (g : gy_ y) (hq : qv_ R (pp_ y).length) (hk : k < 2147483648) (ha : a < y.1 0) :
    ∀ (d b m : Nat) (σ : js_S), b + d = y.1 1 → d < m → me2_ σ y R → ft_ y (fs_ (fun b => fs_ (fun c => pm_ (fp2_ y) R k (pp_ y).length a b c) (y.1 2) 0) d b) (fX12_findProjection_14 5000 rc2 m 390 (nI k) (nI (a + 1)) (nI (b + 1)) σ) σ (fun σ' => rc2 390 (nI k) (nI (a + 1 + 1)) σ') := by
  have a0 := (g.1 0 (by omega)).2
  have a1 := (g.1 1 (by omega)).2
  have a2 := (g.1 2 (by omega)).2
  intro d
  induction d with
  | zero =>
    intro b m σ hb hm h
    obtain ⟨m, rfl⟩ : ∃ j, m = j + 1 := ⟨m - 1, by omega⟩
    refine ⟨σ, ?_, fi_rf⟩
    rw [sX12_findProjection_14]
    unfold fX12_findProjection_14b
    rw [lm_0 h.1.1, ln_391, if_pos (by decide), show σ.1 391 (Int32.toNatClampNeg 1) = nI (y.1 1) from h.1.2.1 1 (by omega), if_pos (nlt_t (by omega) (by omega)), n_s]
  | succ d ih =>
    intro b m σ hb hm h
    obtain ⟨m, rfl⟩ : ∃ j, m = j + 1 := ⟨m - 1, by omega⟩
    rw [fs_s]
    refine ft_or (K1 := fun σ' => fX12_findProjection_14 5000 rc2 m 390 (nI k) (nI (a + 1)) (nI (b + 1 + 1)) σ') ?_ (fun σ' f' => ih (b + 1) m σ' (by omega) (by omega) (me2_fi f' (fun a z => by omega) h))
    have h27 := m_fp27 (rc2 := rc2) (rc14 := fX12_findProjection_14 5000 rc2 m) (b := b) g hq hk ha (by omega) (y.1 2) 0 5000 σ (by omega) (by omega) h
    rw [sX12_findProjection_14]
    unfold fX12_findProjection_14b
    rw [lm_0 h.1.1, ln_391, if_pos (by decide), show σ.1 391 (Int32.toNatClampNeg 1) = nI (y.1 1) from h.1.2.1 1 (by omega), if_neg (nlt_f (by omega) (by omega))]
    exact h27
theorem m_fp2 {y : js_Y} {k : Nat} {R : Nat → Nat → Bool} (g : gy_ y) (hq : qv_ R (pp_ y).length) (hk : k < 2147483648) :
    ∀ (d a m : Nat) (σ : js_S), a + d = y.1 0 → d < m → me2_ σ y R → ft_ y (fs_ (fun a => fs_ (fun b => fs_ (fun c => pm_ (fp2_ y) R k (pp_ y).length a b c) (y.1 2) 0) (y.1 1) 0) d a) (fX12_findProjection_2 5000 m 390 (nI k) (nI (a + 1)) σ) σ (fun σ' => some (-5, σ')) := by
  have a0 := (g.1 0 (by omega)).2
  have a1 := (g.1 1 (by omega)).2
  intro d
  induction d with
  | zero =>
    intro a m σ ha hm h
    obtain ⟨m, rfl⟩ : ∃ j, m = j + 1 := ⟨m - 1, by omega⟩
    refine ⟨σ, ?_, fi_rf⟩
    rw [sX12_findProjection_2]
    unfold fX12_findProjection_2b
    rw [lm_0 h.1.1, ln_391, if_pos (by decide), show σ.1 391 (Int32.toNatClampNeg 0) = nI (y.1 0) from h.1.2.1 0 (by omega), if_pos (nlt_t (by omega) (by omega))]
  | succ d ih =>
    intro a m σ ha hm h
    obtain ⟨m, rfl⟩ : ∃ j, m = j + 1 := ⟨m - 1, by omega⟩
    rw [fs_s]
    refine ft_or (K1 := fun σ' => fX12_findProjection_2 5000 m 390 (nI k) (nI (a + 1 + 1)) σ') ?_ (fun σ' f' => ih (a + 1) m σ' (by omega) (by omega) (me2_fi f' (fun a z => by omega) h))
    have h14 := m_fp14b (rc2 := fX12_findProjection_2 5000 m) (a := a) g hq hk (by omega) (y.1 1) 0 5000 σ (by omega) (by omega) h
    rw [sX12_findProjection_2]
    unfold fX12_findProjection_2b
    rw [lm_0 h.1.1, ln_391, if_pos (by decide), show σ.1 391 (Int32.toNatClampNeg 0) = nI (y.1 0) from h.1.2.1 0 (by omega), if_neg (nlt_f (by omega) (by omega))]
    exact h14
