theorem op_append {σ : js_S} {y : js_Y} {sn : Option js_Y} {tx : List Int32} (h : iv_ σ y sn tx) (x : Int32) : ∃ r σ1 σ2 tx', fX11_appendCharacter 5000 1 x σ = some (r, σ1) ∧ fX12_appendCharacter 5000 390 x σ1 = some (r, σ2) ∧ iv_ σ2 y sn tx' ∧ ce2_ σ σ2 := by
  obtain ⟨hX, hM, g⟩ := id h
  have e1 := hX.2.2.2.2.2.1
  have e2 := hM.2.2.2.2.1
  have g8 := g.2.2
  unfold fX11_appendCharacter fX12_appendCharacter
  by_cases c1 : x < 32
  · refine ⟨-2, σ, σ, tx, by rw [if_pos c1], ?_, h, ce2_rf⟩
    rw [m_isIn, if_pos c1, bd_s, if_pos rfl]
  · rw [if_neg c1]
    by_cases c2 : 126 < x
    · refine ⟨-2, σ, σ, tx, by rw [if_neg (by rw [Int32.not_le]; exact c2)], ?_, h, ce2_rf⟩
      rw [m_isIn, if_neg c1, if_pos c2, bd_s, if_pos rfl]
    · rw [if_pos (by rw [← Int32.not_lt]; exact c2), lx_1_3 hX.1]
      by_cases c3 : tx.length = 80
      · refine ⟨-4, σ, σ, tx, ?_, ?_, h, ce2_rf⟩
        · unfold fX10_append
          rw [e1, c3, lx_82_0 hX.1, ln_83, if_neg (by decide), if_neg (by decide), bd_s, if_pos rfl]
        · rw [m_isIn, if_neg c1, if_neg c2, bd_s, if_neg (by decide), e2, c3, if_pos (by decide)]
      · have hl : tx.length < 80 := by omega
        refine ⟨nI (tx.length + 1), uI_ (uI_ σ 83 tx.length x) 82 2 (nI (tx.length + 1)), uI_ (uI_ (uI_ (uI_ σ 83 tx.length x) 82 2 (nI (tx.length + 1))) 400 tx.length x) 390 15 (nI (tx.length + 1)), tx ++ [x], ?_, ?_, ⟨?_, ?_, g.1, g.2.1, by simp; omega⟩, ?_⟩
        · unfold fX10_append
          rw [e1, lx_82_0 hX.1, ln_83]
          simp (disch := omega) only [n_lit, n_of, n_lt, n_ib, n_cl, decide_eq_true_eq, lt_s_, Nat.not_lt_zero, if_false]
          rw [if_pos (by omega), if_pos (by omega), uI_ne (by omega), e1, bd_s, if_neg (by decide), uI_2, uI_2, lx_1_3 hX.1, uI_same, n_add]
        · rw [m_isIn, if_neg c1, if_neg c2, bd_s, if_neg (by decide), uI_ne (by omega), uI_ne (by omega), e2, uI_2, uI_2, lm_12 hM.1, ln_400]
          simp (disch := omega) only [n_lit, n_eq, n_ib, n_cl, decide_eq_true_eq, lt_s_]
          rw [if_neg c3, if_pos (by omega), uI_same, uI_ne (by omega), uI_ne (by omega), uI_ne (by omega), e2, n_add]
        · have a1 : ix_ (uI_ (uI_ σ 83 tx.length x) 82 2 (nI (tx.length + 1))) y sn (tx ++ [x]) := by
            refine ix_tx (σ := σ) g rfl (fun a q1 q2 => funext (fun b => ?_)) ?_ ?_ hX
            · rw [uI_ne (by omega), uI_ne (by omega)]
            · rw [uI_same]; simp
            · have := vw_push (x := x) hX.2.2.2.2.2.2
              rw [Nat.zero_add] at this
              exact vw_eq (funext (fun b => uI_ne (by omega))) this
          exact ix_m (σ := uI_ (uI_ σ 83 tx.length x) 82 2 (nI (tx.length + 1))) ⟨g.1, g.2.1, by simp; omega⟩ (fun a ha => funext (fun b => by rw [uI_ne (by omega), uI_ne (by omega)])) rfl a1
        · have a1 : im_ (uI_ (uI_ σ 83 tx.length x) 82 2 (nI (tx.length + 1))) y sn tx := im_x (fun a ha => funext (fun b => by rw [uI_ne (by omega), uI_ne (by omega)])) (fun _ _ => rfl) hM
          refine im_tx (σ := uI_ (uI_ σ 83 tx.length x) 82 2 (nI (tx.length + 1))) rfl (fun a b q1 q2 => by rw [uI_ne q1, uI_ne (by omega)]) (by rw [uI_same]; simp) ?_ a1
          have := vw_push (x := x) a1.2.2.2.2.2.1
          rw [Nat.zero_add] at this
          exact vw_eq (funext (fun b => uI_ne (by omega))) this
        · refine ⟨fun b _ => ?_, fun a q1 q2 => ⟨funext (fun b => ?_), rfl⟩, fun _ _ => rfl⟩
          · rw [uI_ne (by omega), uI_ne (by omega), uI_ne (by omega), uI_ne (by omega)]
          · rw [uI_ne (by omega), uI_ne (by omega), uI_ne (by omega), uI_ne (by omega)]
/-! registers written -/
def st_ (y : js_Y) (r : Nat) (t : List Int32) : js_Y := (y.1, y.2.1, fun i => if i = r then t else y.2.2 i)
theorem gy_st {y : js_Y} {r : Nat} {t : List Int32} (h : gy_ y) (ht : gt_ y.1 t) : gy_ (st_ y r t) := by
  refine ⟨h.1, h.2.1, h.2.2.1, fun i hi => ?_⟩
  show gt_ y.1 (if i = r then t else y.2.2 i)
  split
  · exact ht
  · exact h.2.2.2 i hi
/-- a term put into register r of the class -/
theorem ix_st {σ σ' : js_S} {y : js_Y} {sn : Option js_Y} {tx t : List Int32} {r : Nat} (hr : r < 4) (g : gs_ y sn tx) (h : fi_ (fun a => a = 34 + 2 * r ∨ a = 34 + 2 * r + 1) σ σ') (ht : tm_ σ' (34 + 2 * r) t) (hx : ix_ σ y sn tx) : ix_ σ' (st_ y r t) sn tx := by
  have hS : ∀ a, a ≠ 34 + 2 * r → a ≠ 34 + 2 * r + 1 → σ'.1 a = σ.1 a := fun a q1 q2 => h.2 a (by omega)
  obtain ⟨q1, q2, q3, q4, q5, q6, q7⟩ := hx
  have g6 := g.1.2.1
  refine ⟨by rw [fi_r h]; exact q1, by rw [fi_r h]; exact q2, ?_, by rw [hS 1 (by omega) (by omega)]; exact q4, fun z hz => sx_eq (g.2.1 z hz).2.1 (fun a _ _ => hS a (by omega) (by omega)) (q5 z hz), by rw [hS 82 (by omega) (by omega)]; exact q6, vw_eq (hS 83 (by omega) (by omega)) q7⟩
  obtain ⟨s1, s2, s3, s4⟩ := q3
  refine ⟨?_, by rw [hS 2 (by omega) (by omega)]; exact s2, fun i hi => ?_, fun i hi => ?_⟩
  · unfold sg_
    rw [hS 4 (by omega) (by omega)]
    exact s1
  · have hi : i < y.2.1.length := hi
    exact ⟨tm_eq (hS _ (by omega) (by omega)) (hS _ (by omega) (by omega)) (s3 i hi).1, tm_eq (hS _ (by omega) (by omega)) (hS _ (by omega) (by omega)) (s3 i hi).2⟩
  · show tm_ σ' (2 + 32 + 2 * i) (if i = r then t else y.2.2 i)
    by_cases hir : i = r
    · rw [if_pos hir, hir, show 2 + 32 + 2 * r = 34 + 2 * r by omega]
      exact ht
    · rw [if_neg hir]
      exact tm_eq (hS _ (by omega) (by omega)) (hS _ (by omega) (by omega)) (s4 i hi)
/-- a row put into register r of the model -/
theorem im_st {σ σ' : js_S} {y : js_Y} {sn : Option js_Y} {tx t : List Int32} {r : Nat} (hr : r < 4) (h2 : σ'.2.2 = σ.2.2) (hS : ∀ a b, ¬ (a = 395 ∧ 96 * r ≤ b ∧ b < 96 * r + 96) → ¬ sM_ a b → σ'.1 a b = σ.1 a b) (g : gs_ y sn tx) (ht : rw_ σ' 395 (96 * r) t) (hx : im_ σ y sn tx) : im_ σ' (st_ y r t) sn tx := by
  have hr2 : ∀ a, (391 ≤ a ∧ a ≤ 396) ∨ a = 400 ∨ a = 412 → a ≠ 395 → σ'.1 a = σ.1 a := fun a ha q => funext (fun b => hS a b (by omega) (by unfold sM_; omega))
  have h0 : ∀ b, b = 6 ∨ b = 7 ∨ b = 8 ∨ b = 15 → σ'.1 390 b = σ.1 390 b := fun b hb => hS 390 b (by omega) (by unfold sM_; omega)
  obtain ⟨q1, q2, q3, q4, q5, q6, q7⟩ := hx
  refine ⟨by rw [h2]; exact q1, ?_, by rw [h0 8 (by omega)]; exact q3, fun z hz => sm_eq (hr2 _ (by omega) (by omega)) (hr2 _ (by omega) (by omega)) (hr2 _ (by omega) (by omega)) (h0 _ (by omega)) (q4 z hz), by rw [h0 15 (by omega)]; exact q5, vw_eq (hr2 400 (by omega) (by omega)) q6, fun k => by rw [hr2 412 (by omega) (by omega)]; exact q7 k⟩
  obtain ⟨s1, s2, s3, s4⟩ := q2
  refine ⟨by rw [hr2 391 (by omega) (by omega)]; exact s1, by rw [h0 6 (by omega)]; exact s2, fun i hi => ?_, fun i hi => ?_⟩
  · have hi : i < y.2.1.length := hi
    exact ⟨rw_eq (hr2 393 (by omega) (by omega)) (s3 i hi).1, rw_eq (hr2 393 (by omega) (by omega)) (s3 i hi).2⟩
  · show rw_ σ' 395 (96 * i) (if i = r then t else y.2.2 i)
    by_cases hir : i = r
    · rw [if_pos hir, hir]
      exact ht
    · rw [if_neg hir]
      have l40 := (g.1.2.2.2 i hi).2
      refine ⟨?_, fun k hk => ?_⟩
      · rw [hS 395 (96 * i) (by omega) (by unfold sM_; omega)]
        exact (s4 i hi).1
      · rw [hS 395 (96 * i + 1 + k) (by omega) (by unfold sM_; omega)]
        exact (s4 i hi).2 k hk
/-- a row of the model copied into register r -/
theorem rw_cp {σ : js_S} {o i r : Nat} {t : List Int32} (ht : rw_ σ o i t) (hl : t.length ≤ 40) : rw_ (cI_ σ o i 395 (96 * r) 96) 395 (96 * r) t := by
  refine ⟨?_, fun k hk => ?_⟩
  · rw [cI_in (by omega), Nat.sub_self, Nat.add_zero]
    exact ht.1
  · rw [cI_in (by omega), ← ht.2 k hk, show i + (96 * r + 1 + k - 96 * r) = i + 1 + k by omega]
/-- the class's store -/
theorem x_store {σ : js_S} {o r : Nat} {t : List Int32} (hl : lx_ σ.2.2) (hr : r < 4) (ho : to_ σ o) (ht : tm_ σ o t) (hd : 34 + 2 * r = o ∨ 34 + 2 * r + 1 < o ∨ o + 1 < 34 + 2 * r) : ∃ σ', fX11_store 5000 1 o (nI r) σ = some (nI t.length, σ') ∧ fi_ (fun a => a = 34 + 2 * r ∨ a = 34 + 2 * r + 1) σ σ' ∧ tm_ σ' (34 + 2 * r) t := by
  obtain ⟨σ', h1, h2, h3⟩ := x9_copyFrom (fu := 5000) (to_reg hl r hr) ho ht hd
  refine ⟨σ', ?_, h2, h3⟩
  unfold fX11_store
  rw [lx_1_0 hl, x6_register hl hr, bd_s, h1, bd_s]
  have : σ'.1 o 1 = nI t.length := by
    by_cases e : o = 34 + 2 * r
    · rw [e]
      exact h3.1
    · rw [h2.2 o (by omega)]
      exact ht.1
  rw [this]
theorem ce2_fi {S : Nat → Prop} {σ σ' : js_S} (h : fi_ S σ σ') (hS : ∀ a, a = 1 ∨ (366 ≤ a ∧ a < 390) → ¬ S a) : ce2_ σ σ' := ⟨fun b _ => by rw [h.2 1 (hS 1 (by omega))], fun a h1 h2 => ⟨h.2 a (hS a (by omega)), by rw [h.1]⟩, fun o _ => by rw [fi_r h]⟩
/-- both sides store the same term: the class from object o, the model from a row -/
theorem op_put {σ : js_S} {y : js_Y} {sn : Option js_Y} {tx t : List Int32} {o oc i r : Nat} (h : iv_ σ y sn tx) (hr : r < 4) (ho : to_ σ o) (ht : tm_ σ o t) (hd : 34 + 2 * r = o ∨ 34 + 2 * r + 1 < o ∨ o + 1 < 34 + 2 * r) (hgt : gt_ y.1 t) (hoc : 390 ≤ oc) (hm : rw_ σ oc i t) (hb : i + 96 ≤ ln_ oc) (hb2 : ln_ oc < 1000000000) (hdm : oc ≠ 395 ∨ i = 96 * r ∨ i + 96 ≤ 96 * r ∨ 96 * r + 96 ≤ i) :
    ∃ σ1, fX11_store 5000 1 o (nI r) σ = some (nI t.length, σ1) ∧ fX12_copy 5000 oc (nI i) 395 (nI (96 * r)) (nI 96) σ1 = some ((), cI_ σ1 oc i 395 (96 * r) 96) ∧ iv_ (cI_ σ1 oc i 395 (96 * r) 96) (st_ y r t) sn tx ∧ ce2_ σ (cI_ σ1 oc i 395 (96 * r) 96) ∧ (∀ a, 390 ≤ a → σ1.1 a = σ.1 a) ∧ σ1.2 = σ.2 := by
  obtain ⟨hX, hM, g⟩ := h
  obtain ⟨σ1, h1, h2, h3⟩ := x_store hX.1 hr ho ht hd
  have l40 := hgt.2
  have hs : ∀ a, 390 ≤ a → σ1.1 a = σ.1 a := fun a ha => h2.2 a (by omega)
  have a1 := ix_st hr g h2 h3 hX
  have a2 : im_ σ1 y sn tx := im_x hs (fun o _ => by rw [fi_r h2]) hM
  have g2 : gs_ (st_ y r t) sn tx := ⟨gy_st g.1 hgt, g.2.1, g.2.2⟩
  refine ⟨σ1, h1, m_copy hb (by rw [ln_395]; omega) hb2 (by rw [ln_395]; omega) (by omega) (by omega) σ1, ⟨?_, ?_, g2⟩, ?_, hs, h2.1⟩
  · exact ix_m (σ := σ1) g2 (fun a ha => funext (fun b => cI_out (by omega))) rfl a1
  · exact im_st (σ := σ1) hr rfl (fun a b q1 q2 => cI_out q1) g (rw_cp (rw_eq (hs oc hoc) hm) l40) a2
  · exact ce2_tr (ce2_fi h2 (fun a q => by omega)) (ce2_fi (fi_c (S := fun a => a = 395) rfl) (fun a q => by omega))
theorem op_copyTerm {σ : js_S} {y : js_Y} {sn : Option js_Y} {tx : List Int32} (h : iv_ σ y sn tx) (x z : Int32) : ∃ r σ1 σ2 y', fX11_copyTerm 5000 1 x z σ = some (r, σ1) ∧ fX12_copyTerm 5000 390 x z σ1 = some (r, σ2) ∧ iv_ σ2 y' sn tx ∧ ce2_ σ σ2 ∧ y'.1 = y.1 ∧ y'.2.1 = y.2.1 := by
  unfold fX11_copyTerm fX12_copyTerm
  by_cases hc : ∃ i, i < 4 ∧ x = nI i
  · obtain ⟨i, hi, rfl⟩ := hc
    rw [x_reg hi, bd_s, if_neg (by decide)]
    by_cases hd : ∃ i, i < 4 ∧ z = nI i
    · obtain ⟨j, hj, rfl⟩ := hd
      have hX := h.1
      have gy := h.2.2.1
      have g1 := gy.2.2.2 i hi
      have l1 := g1.2
      rw [x_reg hj, bd_s, if_neg (by decide), lx_1_0 hX.1, x6_register hX.1 hi, bd_s]
      obtain ⟨σ1, s1, s2, s3, s4, s5, s6⟩ := op_put (r := j) (i := 96 * i) (oc := 395) h hj (to_reg hX.1 i hi) (sx_reg hX.2.2.1 hi) (by omega) g1 (by omega) (h.2.1.2.1.2.2.2 i hi) (by rw [ln_395]; omega) (by rw [ln_395]; omega) (by omega)
      refine ⟨nI (y.2.2 i).length, σ1, cI_ σ1 395 (96 * i) 395 (96 * j) 96, st_ y j (y.2.2 i), by rw [s1, bd_s], ?_, s3, s4, rfl, rfl⟩
      have hm1 : lm_ σ1.2.2 := by rw [s6]; exact h.2.1.1
      rw [m_reg hi, bd_s, if_neg (by decide), m_reg hj, bd_s, if_neg (by decide), lm_4 hm1, n_96, n_96, show (96 : Int32) = nI 96 from rfl, s2, bd_s]
      have e2 : (cI_ σ1 395 (96 * i) 395 (96 * j) 96).2.2 = σ1.2.2 := rfl
      rw [e2, lm_4 hm1, ln_395]
      simp (disch := omega) only [n_ib, n_cl, decide_eq_true_eq]
      have := (s3.2.1.2.1.2.2.2 j hj).1
      rw [if_pos (by omega), this]
      show some (nI (if j = j then y.2.2 i else y.2.2 j).length, _) = _
      rw [if_pos rfl]
    · refine ⟨-1, σ, σ, y, ?_, ?_, h, ce2_rf, rfl, rfl⟩
      · rw [x_noreg hd, bd_s, if_pos rfl]
      · rw [m_reg hi, bd_s, if_neg (by decide), m_noreg hd, bd_s, if_pos rfl]
  · refine ⟨-1, σ, σ, y, ?_, ?_, h, ce2_rf, rfl, rfl⟩
    · rw [x_noreg hc, bd_s, if_pos rfl]
    · rw [m_noreg hc, bd_s, if_pos rfl]
theorem n_left (i : Nat) : (2 * nI i) * 96 = nI (192 * i) := by
  simp only [n_lit, n_mul]
  congr 1
  omega
theorem n_right (i : Nat) : ((2 * nI i) + 1) * 96 = nI (192 * i + 96) := by
  simp only [n_lit, n_mul, n_add]
  congr 1
  omega
theorem op_loadLeft {σ : js_S} {y : js_Y} {sn : Option js_Y} {tx : List Int32} (h : iv_ σ y sn tx) (x z : Int32) : ∃ r σ1 σ2 y', fX11_loadLeft 5000 1 x z σ = some (r, σ1) ∧ fX12_loadLeft 5000 390 x z σ1 = some (r, σ2) ∧ iv_ σ2 y' sn tx ∧ ce2_ σ σ2 ∧ y'.1 = y.1 ∧ y'.2.1 = y.2.1 := by
  have hX := h.1
  have gy := h.2.2.1
  have h6 := gy.2.1
  unfold fX11_loadLeft fX12_loadLeft
  by_cases hc : ∃ i, i < y.2.1.length ∧ x = nI i
  · obtain ⟨i, hi, rfl⟩ := hc
    rw [x_rule hX.1 hX.2.2.1.2.1 h6 hi, bd_s, if_neg (by decide)]
    by_cases hd : ∃ i, i < 4 ∧ z = nI i
    · obtain ⟨j, hj, rfl⟩ := hd
      have g1 := (gy.2.2.1 i hi).1
      have l1 := g1.2
      rw [x_reg hj, bd_s, if_neg (by decide), lx_1_0 hX.1, x6_left hX.1 (by omega), bd_s]
      obtain ⟨σ1, s1, s2, s3, s4, s5, s6⟩ := op_put (r := j) (i := 192 * i) (oc := 393) h hj (to_left hX.1 i (by omega)) (sx_left hX.2.2.1 hi) (by omega) g1 (by omega) ((h.2.1.2.1.2.2.1 i hi).1) (by rw [ln_393]; omega) (by rw [ln_393]; omega) (by omega)
      refine ⟨nI (rl_ y i).1.length, σ1, cI_ σ1 393 (192 * i) 395 (96 * j) 96, st_ y j (rl_ y i).1, by rw [s1, bd_s], ?_, s3, s4, rfl, rfl⟩
      have hm1 : lm_ σ1.2.2 := by rw [s6]; exact h.2.1.1
      have c1 : σ1.1 390 6 = nI y.2.1.length := by rw [s5 390 (by omega)]; exact h.2.1.2.1.2.1
      rw [m_rule c1 h6 hi, bd_s, if_neg (by decide), m_reg hj, bd_s, if_neg (by decide)]
      unfold fX12_left fX12_load
      rw [bd_s, n_left, lm_2 hm1, lm_4 hm1, n_96, show (96 : Int32) = nI 96 from rfl, s2, bd_s]
      have e2 : (cI_ σ1 393 (192 * i) 395 (96 * j) 96).2.2 = σ1.2.2 := rfl
      rw [e2, lm_2 hm1, ln_393]
      simp (disch := omega) only [n_ib, n_cl, decide_eq_true_eq]
      have := ((s3.2.1.2.1.2.2.1 i hi).1).1
      rw [if_pos (by omega), this, bd_s]
      rfl
    · refine ⟨-1, σ, σ, y, ?_, ?_, h, ce2_rf, rfl, rfl⟩
      · rw [x_noreg hd, bd_s, if_pos rfl]
      · rw [m_rule h.2.1.2.1.2.1 h6 hi, bd_s, if_neg (by decide), m_noreg hd, bd_s, if_pos rfl]
  · refine ⟨-1, σ, σ, y, ?_, ?_, h, ce2_rf, rfl, rfl⟩
    · rw [x_norule hX.1 hX.2.2.1.2.1 h6 hc, bd_s, if_pos rfl]
    · rw [m_norule h.2.1.2.1.2.1 h6 hc, bd_s, if_pos rfl]
theorem op_loadRight {σ : js_S} {y : js_Y} {sn : Option js_Y} {tx : List Int32} (h : iv_ σ y sn tx) (x z : Int32) : ∃ r σ1 σ2 y', fX11_loadRight 5000 1 x z σ = some (r, σ1) ∧ fX12_loadRight 5000 390 x z σ1 = some (r, σ2) ∧ iv_ σ2 y' sn tx ∧ ce2_ σ σ2 ∧ y'.1 = y.1 ∧ y'.2.1 = y.2.1 := by
  have hX := h.1
  have gy := h.2.2.1
  have h6 := gy.2.1
  unfold fX11_loadRight fX12_loadRight
  by_cases hc : ∃ i, i < y.2.1.length ∧ x = nI i
  · obtain ⟨i, hi, rfl⟩ := hc
    rw [x_rule hX.1 hX.2.2.1.2.1 h6 hi, bd_s, if_neg (by decide)]
    by_cases hd : ∃ i, i < 4 ∧ z = nI i
    · obtain ⟨j, hj, rfl⟩ := hd
      have g1 := (gy.2.2.1 i hi).2.1
      have l1 := g1.2
      rw [x_reg hj, bd_s, if_neg (by decide), lx_1_0 hX.1, x6_right hX.1 (by omega), bd_s]
      obtain ⟨σ1, s1, s2, s3, s4, s5, s6⟩ := op_put (r := j) (i := 192 * i + 96) (oc := 393) h hj (to_right hX.1 i (by omega)) (sx_right hX.2.2.1 hi) (by omega) g1 (by omega) ((h.2.1.2.1.2.2.1 i hi).2) (by rw [ln_393]; omega) (by rw [ln_393]; omega) (by omega)
      refine ⟨nI (rl_ y i).2.length, σ1, cI_ σ1 393 (192 * i + 96) 395 (96 * j) 96, st_ y j (rl_ y i).2, by rw [s1, bd_s], ?_, s3, s4, rfl, rfl⟩
      have hm1 : lm_ σ1.2.2 := by rw [s6]; exact h.2.1.1
      have c1 : σ1.1 390 6 = nI y.2.1.length := by rw [s5 390 (by omega)]; exact h.2.1.2.1.2.1
      rw [m_rule c1 h6 hi, bd_s, if_neg (by decide), m_reg hj, bd_s, if_neg (by decide)]
      unfold fX12_right fX12_load
      rw [bd_s, n_right, lm_2 hm1, lm_4 hm1, n_96, show (96 : Int32) = nI 96 from rfl, s2, bd_s]
      have e2 : (cI_ σ1 393 (192 * i + 96) 395 (96 * j) 96).2.2 = σ1.2.2 := rfl
      rw [e2, lm_2 hm1, ln_393]
      simp (disch := omega) only [n_ib, n_cl, decide_eq_true_eq]
      have := ((s3.2.1.2.1.2.2.1 i hi).2).1
      rw [if_pos (by omega), this, bd_s]
      rfl
    · refine ⟨-1, σ, σ, y, ?_, ?_, h, ce2_rf, rfl, rfl⟩
      · rw [x_noreg hd, bd_s, if_pos rfl]
      · rw [m_rule h.2.1.2.1.2.1 h6 hi, bd_s, if_neg (by decide), m_noreg hd, bd_s, if_pos rfl]
  · refine ⟨-1, σ, σ, y, ?_, ?_, h, ce2_rf, rfl, rfl⟩
    · rw [x_norule hX.1 hX.2.2.1.2.1 h6 hc, bd_s, if_pos rfl]
    · rw [m_norule h.2.1.2.1.2.1 h6 hc, bd_s, if_pos rfl]
