/-- the caches are all empty -/
def cz_ (σ : js_S) : Prop := σ.1 1 9 = 0 ∧ σ.1 1 11 = 0 ∧ σ.1 1 13 = 0 ∧ σ.1 1 15 = 0
/-- the flags of the caches taken away -/
def rc_ (σ : js_S) : js_S := uI_ (uI_ (uI_ (uI_ σ 1 9 0) 1 11 0) 1 13 0) 1 15 0
theorem x_rulesChanged {σ : js_S} {fu : Nat} : fX11_rulesChanged fu 1 σ = some ((), rc_ σ) := by
  unfold fX11_rulesChanged rc_
  simp only [lt_s_]
theorem rc_fi {σ : js_S} : fi_ (fun a => a = 1) σ (rc_ σ) := ⟨rfl, fun a h => by unfold rc_; rw [uI_row h, uI_row h, uI_row h, uI_row h]⟩
theorem rc_cz {σ : js_S} : cz_ (rc_ σ) := by
  unfold rc_ cz_
  refine ⟨?_, ?_, ?_, uI_same⟩
  · rw [uI_ne (by omega), uI_ne (by omega), uI_ne (by omega), uI_same]
  · rw [uI_ne (by omega), uI_ne (by omega), uI_same]
  · rw [uI_ne (by omega), uI_same]
theorem rc_2 {σ : js_S} : (rc_ σ).1 1 2 = σ.1 1 2 := by
  unfold rc_
  rw [uI_ne (by omega), uI_ne (by omega), uI_ne (by omega), uI_ne (by omega)]
theorem cz_m {σ σ' : js_S} (h : σ'.1 1 = σ.1 1) (hz : cz_ σ) : cz_ σ' := by
  unfold cz_
  rw [h]
  exact hz
/-- a system written into object 2 -/
theorem ix_sys {σ σ' : js_S} {y y' : js_Y} {sn : Option js_Y} {tx : List Int32} (g : gs_ y sn tx) (hr : σ'.2 = σ.2) (hS : ∀ a, a ≠ 1 → 42 ≤ a → σ'.1 a = σ.1 a) (h1 : σ'.1 1 2 = σ.1 1 2) (hy : sx_ σ' 2 y') (hx : ix_ σ y sn tx) : ix_ σ' y' sn tx := by
  obtain ⟨q1, q2, q3, q4, q5, q6, q7⟩ := hx
  exact ⟨by rw [hr]; exact q1, by rw [hr]; exact q2, hy, by rw [h1]; exact q4, fun z hz => sx_eq (g.2.1 z hz).2.1 (fun a _ _ => hS a (by omega) (by omega)) (q5 z hz), by rw [hS 82 (by omega) (by omega)]; exact q6, vw_eq (hS 83 (by omega) (by omega)) q7⟩
/-- a system written into the model's rows -/
theorem im_sys {σ σ' : js_S} {y y' : js_Y} {sn : Option js_Y} {tx : List Int32} (hr : σ'.2 = σ.2) (hS : ∀ a, a = 392 ∨ a = 394 ∨ a = 396 ∨ a = 400 ∨ a = 412 → σ'.1 a = σ.1 a) (h0 : ∀ b, b = 7 ∨ b = 8 ∨ b = 15 → σ'.1 390 b = σ.1 390 b) (hy : sm_ σ' 391 393 395 6 y') (hx : im_ σ y sn tx) : im_ σ' y' sn tx := by
  obtain ⟨q1, q2, q3, q4, q5, q6, q7⟩ := hx
  exact ⟨by rw [hr]; exact q1, hy, by rw [h0 8 (by omega)]; exact q3, fun z hz => sm_eq (hS _ (by omega)) (hS _ (by omega)) (hS _ (by omega)) (h0 _ (by omega)) (q4 z hz), by rw [h0 15 (by omega)]; exact q5, vw_eq (hS 400 (by omega)) q6, fun k => by rw [hS 412 (by omega)]; exact q7 k⟩
theorem op_restore {σ : js_S} {y : js_Y} {sn : Option js_Y} {tx : List Int32} (h : iv_ σ y sn tx) : ∃ r σ1 σ2 y', fX11_restoreSnapshot 5000 1 σ = some (r, σ1) ∧ fX12_restoreSnapshot 5000 390 σ1 = some (r, σ2) ∧ iv_ σ2 y' sn tx ∧ ((ce2_ σ σ2 ∧ y' = y) ∨ cz_ σ2) := by
  obtain ⟨hX, hM, g⟩ := id h
  unfold fX11_restoreSnapshot fX12_restoreSnapshot
  cases hsn : sn with
  | none =>
    subst hsn
    have e1 : σ.1 1 2 = 0 := hX.2.2.2.1
    have e2 : σ.1 390 8 = 0 := hM.2.2.1
    refine ⟨-3, σ, σ, y, ?_, ?_, h, Or.inl ⟨ce2_rf, rfl⟩⟩
    · rw [e1, if_pos rfl]
    · rw [e2, if_pos rfl]
  | some z =>
    subst hsn
    have e1 : σ.1 1 2 = 1 := hX.2.2.2.1
    have e2 : σ.1 390 8 = 1 := hM.2.2.1
    have gz := g.2.1 z rfl
    have h6 := gz.2.1
    obtain ⟨σ3, h3, f3, s3⟩ := x6_copyFrom (b := 2) (s := 42) (by omega) hX.1 h6 (hX.2.2.2.2.1 z rfl)
    have hl3 : lx_ σ3.2.2 := by rw [fi_r f3]; exact hX.1
    have hs : ∀ a, a ≠ 1 → 42 ≤ a → (rc_ σ3).1 a = σ.1 a := fun a h1 h2 => by rw [rc_fi.2 a h1, f3.2 a (by omega)]
    have hr3 : (rc_ σ3).2 = σ.2 := by rw [rc_fi.1, f3.1]
    have hX1 : ix_ (rc_ σ3) z (some z) tx := ix_sys g hr3 hs (by rw [rc_2, f3.2 1 (by omega)]) (sx_eq h6 (fun a _ _ => rc_fi.2 a (by omega)) s3) hX
    have hM1 : im_ (rc_ σ3) y (some z) tx := im_x (σ := σ) (fun a ha => hs a (by omega) (by omega)) (fun o _ => by rw [hr3]) hM
    have hm1 := hM1.1
    have c7 := (hM1.2.2.2.1 z rfl).2.1
    have c25 : (rc_ σ3).1 2 5 = nI z.2.1.length := hX1.2.2.1.2.1
    have hf := mc_fi (σ := rc_ σ3) (a1 := 392) (a2 := 391) (q1 := 394) (q2 := 393) (g1 := 396) (g2 := 395)
    refine ⟨nI z.2.1.length, rc_ σ3, uI_ (mc_ (rc_ σ3) 392 391 394 393 396 395) 390 6 (nI z.2.1.length), z, ?_, ?_, ⟨?_, ?_, gz, g.2.1, g.2.2⟩, Or.inr ?_⟩
    · rw [e1, if_neg (by decide), lx_1_0 hX.1, lx_1_1 hX.1, h3, bd_s, x_rulesChanged, bd_s, lx_1_0 hX1.1, c25]
    · have e8 : (rc_ σ3).1 390 8 = 1 := hM1.2.2.1
      rw [e8, if_neg (by decide), lm_0 hm1, lm_1 hm1, show (0 : Int32) = nI 0 from rfl, show (3 : Int32) = nI 3 from rfl, m_copy (by rw [ln_392]; omega) (by rw [ln_391]; omega) (by rw [ln_392]; omega) (by rw [ln_391]; omega) (by omega) (by omega), bd_s]
      have e1 : (cI_ (rc_ σ3) 392 0 391 0 3).2.2 = (rc_ σ3).2.2 := rfl
      rw [e1, lm_2 hm1, lm_3 hm1, ln_393, n_of, m_copy (by rw [ln_394]; omega) (by rw [ln_393]; omega) (by rw [ln_394]; omega) (by rw [ln_393]; omega) (by omega) (by omega), bd_s]
      have e2 : (cI_ (cI_ (rc_ σ3) 392 0 391 0 3) 394 0 393 0 1152).2.2 = (rc_ σ3).2.2 := rfl
      rw [e2, lm_4 hm1, lm_5 hm1, ln_395, n_of, m_copy (by rw [ln_396]; omega) (by rw [ln_395]; omega) (by rw [ln_396]; omega) (by rw [ln_395]; omega) (by omega) (by omega), bd_s]
      simp only [lt_s_]
      have e3 : (cI_ (cI_ (cI_ (rc_ σ3) 392 0 391 0 3) 394 0 393 0 1152) 396 0 395 0 384).1 390 7 = nI z.2.1.length := by
        rw [cI_out (by omega), cI_out (by omega), cI_out (by omega)]
        exact c7
      rw [e3, uI_same]
      rfl
    · exact ix_m (σ := rc_ σ3) ⟨gz, g.2.1, g.2.2⟩ (fun a ha => by rw [uI_row (by omega), hf.2 a (by omega)]) rfl hX1
    · refine im_sys (σ := rc_ σ3) rfl (fun a ha => by rw [uI_row (by omega), hf.2 a (by omega)]) (fun b hb => by rw [uI_ne (by omega), hf.2 390 (by omega)]) ?_ hM1
      refine mc_sm (σ := rc_ σ3) (c1 := 7) gz (by omega) (by omega) (hM1.2.2.2.1 z rfl) (fun a ha => uI_row ha) ?_
      rw [uI_same]
      exact c7.symm
    · exact cz_m (by rw [uI_row (by omega), hf.2 1 (by omega)]) rc_cz
/-! a rule taken away -/
theorem x6_drop_loop {n : Nat} (hn : n ≤ 6) :
    ∀ (d m k : Nat) (σ : js_S) (F : Nat → List Int32 × List Int32), m + d = n → 1 ≤ m → d < k → lx_ σ.2.2 → σ.1 2 5 = nI n → (∀ j, j < n → tm_ σ (10 + 4 * j) (F j).1 ∧ tm_ σ (12 + 4 * j) (F j).2) →
      ∃ σ', fX6_dropRule_4 5000 k 2 (nI m) σ = some ((), σ') ∧ fi_ (fun a => a = 2 ∨ (10 ≤ a ∧ a < 34)) σ σ' ∧ σ'.1 2 5 = nI (n - 1) ∧ ∀ j, j < n - 1 → tm_ σ' (10 + 4 * j) (if m - 1 ≤ j then F (j + 1) else F j).1 ∧ tm_ σ' (12 + 4 * j) (if m - 1 ≤ j then F (j + 1) else F j).2 := by
  intro d
  induction d with
  | zero =>
    intro m k σ F he h1 hk hl h5 hF
    obtain ⟨k, rfl⟩ : ∃ j, k = j + 1 := ⟨k - 1, by omega⟩
    refine ⟨uI_ σ 2 5 (nI (n - 1)), ?_, fi_u (by omega), uI_same, fun j hj => ?_⟩
    · rw [sX6_dropRule_4]
      unfold fX6_dropRule_4b
      rw [h5]
      simp (disch := omega) only [n_le, lt_s_]
      rw [if_pos (by omega), n_pred (by omega)]
    · rw [if_neg (by omega)]
      exact ⟨tm_eq (uI_row (by omega)) (uI_row (by omega)) (hF j (by omega)).1, tm_eq (uI_row (by omega)) (uI_row (by omega)) (hF j (by omega)).2⟩
  | succ d ih =>
    intro m k σ F he h1 hk hl h5 hF
    obtain ⟨k, rfl⟩ : ∃ j, k = j + 1 := ⟨k - 1, by omega⟩
    have em : nI m - 1 = nI (m - 1) := n_pred (by omega)
    obtain ⟨σ1, r1, f1, t1⟩ := x9_copyRaw (fu := 5000) (to_left hl (m - 1) (by omega)) (to_left hl m (by omega)) (by omega)
    have hl1 : lx_ σ1.2.2 := by rw [fi_r f1]; exact hl
    obtain ⟨σ2, r2, f2, t2⟩ := x9_copyRaw (fu := 5000) (to_right hl1 (m - 1) (by omega)) (to_right hl1 m (by omega)) (by omega)
    have hl2 : lx_ σ2.2.2 := by rw [fi_r f2]; exact hl1
    have f12 : fi_ (fun a => 10 + 4 * (m - 1) ≤ a ∧ a < 14 + 4 * (m - 1)) σ σ2 := fi_tr f1 f2 (fun a h => by omega) (fun a h => by omega)
    obtain ⟨σ3, r3, f3, u3, w3⟩ := ih (m + 1) k σ2 (fun j => if j = m - 1 then F m else F j) (by omega) (by omega) (by omega) hl2 (by rw [f12.2 2 (by omega)]; exact h5) (fun j hj => by
      by_cases hj2 : j = m - 1
      · subst hj2
        rw [if_pos rfl]
        exact ⟨tm_fi f2 (by omega) (by omega) (t1 _ (hF m (by omega)).1), t2 _ (tm_fi f1 (by omega) (by omega) (hF m (by omega)).2)⟩
      · rw [if_neg hj2]
        exact ⟨tm_fi f12 (by omega) (by omega) (hF j hj).1, tm_fi f12 (by omega) (by omega) (hF j hj).2⟩)
    refine ⟨σ3, ?_, fi_tr f12 f3 (fun a h => by omega) (fun a h => by omega), u3, fun j hj => ?_⟩
    · rw [sX6_dropRule_4]
      unfold fX6_dropRule_4b
      rw [h5, em, x6_left hl (by omega), bd_s, x6_left hl (by omega), bd_s, r1, bd_s, x6_right hl1 (by omega), bd_s, x6_right hl1 (by omega), bd_s, r2, bd_s, show nI m + 1 = nI (m + 1) from n_add m 1, r3]
      simp (disch := omega) only [n_le]
      rw [if_neg (by omega)]
    · have := w3 j hj
      by_cases a1 : m - 1 ≤ j
      · rw [if_pos a1]
        by_cases a2 : m + 1 - 1 ≤ j
        · rw [if_pos a2, if_neg (by omega)] at this
          exact this
        · rw [if_neg a2, if_pos (by omega)] at this
          rw [show j + 1 = m by omega]
          exact this
      · rw [if_neg a1]
        rw [if_neg (by omega), if_neg (by omega)] at this
        exact this
def rm_ (y : js_Y) (i : Nat) : js_Y := (y.1, y.2.1.eraseIdx i, y.2.2)
theorem rl_rm {y : js_Y} {i j : Nat} : rl_ (rm_ y i) j = if i ≤ j then rl_ y (j + 1) else rl_ y j := by
  unfold rl_ rm_
  simp only [List.getD_eq_getElem?_getD, List.getElem?_eraseIdx]
  by_cases h : j < i
  · rw [if_pos h, if_neg (by omega)]
  · rw [if_neg h, if_pos (by omega)]
theorem rm_len {y : js_Y} {i : Nat} (h : i < y.2.1.length) : (rm_ y i).2.1.length = y.2.1.length - 1 := by
  unfold rm_
  simp [List.length_eraseIdx, h]
theorem gy_rm {y : js_Y} {i : Nat} (h : i < y.2.1.length) (g : gy_ y) : gy_ (rm_ y i) := by
  refine ⟨g.1, by rw [rm_len h]; have := g.2.1; omega, fun j hj => ?_, g.2.2.2⟩
  rw [rm_len h] at hj
  rw [rl_rm]
  split
  · exact g.2.2.1 _ (by omega)
  · exact g.2.2.1 _ (by omega)
/-- the model moves its rows down -/
theorem m_remove_loop {n : Nat} (hn : n ≤ 6) {i : Nat} (hi : i < n) (σ0 : js_S) :
    ∀ (d e k : Nat) (σ : js_S), e + d = 192 * (n - 1) → 192 * i ≤ e → d < k → lm_ σ.2.2 → σ.1 390 6 = nI n → (∀ b, σ.1 393 b = if 192 * i ≤ b ∧ b < e then σ0.1 393 (b + 192) else σ0.1 393 b) →
      ∃ σ', fX12_removeRule_15 5000 k 390 (nI e) σ = some (nI (n - 1), σ') ∧ (∀ a b, ¬ (a = 390 ∧ b = 6) → a ≠ 393 → σ'.1 a b = σ.1 a b) ∧ σ'.2 = σ.2 ∧ σ'.1 390 6 = nI (n - 1) ∧ ∀ b, σ'.1 393 b = if 192 * i ≤ b ∧ b < 192 * (n - 1) then σ0.1 393 (b + 192) else σ0.1 393 b := by
  intro d
  induction d with
  | zero =>
    intro e k σ he hie hk hm h6 hb
    obtain ⟨k, rfl⟩ : ∃ j, k = j + 1 := ⟨k - 1, by omega⟩
    refine ⟨uI_ σ 390 6 (nI (n - 1)), ?_, fun a b q1 q2 => uI_ne q1, rfl, uI_same, fun b => ?_⟩
    · rw [sX12_removeRule_15]
      unfold fX12_removeRule_15b fX12_left
      rw [h6, n_pred (by omega), bd_s, n_left]
      simp (disch := omega) only [n_le, lt_s_]
      rw [if_pos (by omega), h6, n_pred (by omega), uI_same]
    · rw [uI_ne (by omega), hb b, show e = 192 * (n - 1) by omega]
  | succ d ih =>
    intro e k σ he hie hk hm h6 hb
    obtain ⟨k, rfl⟩ : ∃ j, k = j + 1 := ⟨k - 1, by omega⟩
    obtain ⟨σ', r1, r2, r3, r4, r5⟩ := ih (e + 1) k (uI_ σ 393 e (σ0.1 393 (e + 192))) (by omega) (by omega) (by omega) hm (by rw [uI_ne (by omega)]; exact h6) (fun b => by
      by_cases hbe : b = e
      · subst hbe
        rw [uI_same, if_pos (by omega)]
      · rw [uI_ne (by omega), hb b]
        by_cases q : 192 * i ≤ b ∧ b < e
        · rw [if_pos q, if_pos (by omega)]
        · rw [if_neg q, if_neg (by omega)])
    refine ⟨σ', ?_, fun a b q1 q2 => by rw [r2 a b q1 q2, uI_ne (by omega)], r3, r4, r5⟩
    rw [sX12_removeRule_15]
    unfold fX12_removeRule_15b fX12_left
    rw [h6, n_pred (by omega), bd_s, n_left, lm_2 hm, ln_393, show (192 : Int32) = nI 192 from rfl, n_add, show nI e + 1 = nI (e + 1) from n_add e 1]
    simp (disch := omega) only [n_le, n_ib, n_cl, decide_eq_true_eq, lt_s_]
    rw [if_neg (by omega), if_pos (by omega), if_pos (by omega), hb (e + 192), if_neg (by omega), r1]
theorem op_remove {σ : js_S} {y : js_Y} {sn : Option js_Y} {tx : List Int32} (h : iv_ σ y sn tx) (x : Int32) : ∃ r σ1 σ2 y', fX11_removeRule 5000 1 x σ = some (r, σ1) ∧ fX12_removeRule 5000 390 x σ1 = some (r, σ2) ∧ iv_ σ2 y' sn tx ∧ ((ce2_ σ σ2 ∧ y' = y) ∨ cz_ σ2) := by
  obtain ⟨hX, hM, g⟩ := id h
  have gy := g.1
  have h6 := gy.2.1
  unfold fX11_removeRule fX12_removeRule
  by_cases hc : ∃ i, i < y.2.1.length ∧ x = nI i
  · obtain ⟨i, hi, rfl⟩ := hc
    obtain ⟨σ3, r3, f3, c3, w3⟩ := x6_drop_loop h6 (y.2.1.length - (i + 1)) (i + 1) 5000 σ (rl_ y) (by omega) (by omega) (by omega) hX.1 hX.2.2.1.2.1 (fun j hj => ⟨sx_left hX.2.2.1 hj, sx_right hX.2.2.1 hj⟩)
    have hl3 : lx_ σ3.2.2 := by rw [fi_r f3]; exact hX.1
    have hs : ∀ a, a ≠ 1 → 42 ≤ a → (rc_ σ3).1 a = σ.1 a := fun a h1 h2 => by rw [rc_fi.2 a h1, f3.2 a (by omega)]
    have hr3 : (rc_ σ3).2 = σ.2 := by rw [rc_fi.1, f3.1]
    have gr := gy_rm hi gy
    have el := rm_len hi
    have hX1 : ix_ (rc_ σ3) (rm_ y i) sn tx := by
      refine ix_sys g hr3 hs (by rw [rc_2, f3.2 1 (by omega)]) ?_ hX
      refine sx_eq gr.2.1 (σ := σ3) (fun a _ _ => rc_fi.2 a (by omega)) ⟨?_, by rw [el]; exact c3, fun j hj => ?_, fun j hj => ?_⟩
      · exact sg_fi f3 (by omega) hX.2.2.1.1
      · rw [el] at hj
        rw [rl_rm, show 2 + 8 + 4 * j = 10 + 4 * j by omega, show 2 + 10 + 4 * j = 12 + 4 * j by omega]
        exact w3 j hj
      · exact tm_fi f3 (by omega) (by omega) (hX.2.2.1.2.2.2 j hj)
    have hM1 : im_ (rc_ σ3) y sn tx := im_x (σ := σ) (fun a ha => hs a (by omega) (by omega)) (fun o _ => by rw [hr3]) hM
    obtain ⟨σ4, m1, m2, m3, m4, m5⟩ := m_remove_loop h6 hi (rc_ σ3) (192 * (y.2.1.length - 1) - 192 * i) (192 * i) 5000 (rc_ σ3) (by omega) (by omega) (by omega) hM1.1 hM1.2.1.2.1 (fun b => by rw [if_neg (by omega)])
    have m2' : ∀ a, a ≠ 390 → a ≠ 393 → σ4.1 a = (rc_ σ3).1 a := fun a h1 h2 => funext (fun b => m2 a b (by omega) h2)
    refine ⟨nI (y.2.1.length - 1), rc_ σ3, σ4, rm_ y i, ?_, ?_, ⟨?_, ?_, gr, g.2.1, g.2.2⟩, Or.inr ?_⟩
    · rw [x_rule hX.1 hX.2.2.1.2.1 h6 hi, bd_s, if_neg (by decide), lx_1_0 hX.1]
      unfold fX6_dropRule
      rw [show nI i + 1 = nI (i + 1) from n_add i 1, r3, bd_s, x_rulesChanged, bd_s, lx_1_0 hX1.1, rc_fi.2 2 (by omega), c3]
    · rw [m_rule hM1.2.1.2.1 h6 hi, bd_s, if_neg (by decide)]
      unfold fX12_left
      rw [bd_s, n_left, m1]
    · exact ix_m (σ := rc_ σ3) ⟨gr, g.2.1, g.2.2⟩ (fun a ha => m2' a (by omega) (by omega)) (by rw [m3]) hX1
    · refine im_sys (σ := rc_ σ3) m3 (fun a ha => m2' a (by omega) (by omega)) (fun b hb => m2 390 b (by omega) (by omega)) ?_ hM1
      obtain ⟨s1, s2, s3, s4⟩ := hM1.2.1
      refine ⟨by rw [m2' 391 (by omega) (by omega)]; exact s1, by rw [el]; exact m4, fun j hj => ?_, fun j hj => rw_eq (m2' 395 (by omega) (by omega)) (s4 j hj)⟩
      rw [el] at hj
      rw [rl_rm]
      have key : ∀ (q p : Nat) (t : List Int32), (q = if i ≤ j then p + 192 else p) → (192 * j ≤ p) → (p + 1 + t.length ≤ 192 * j + 192) → rw_ (rc_ σ3) 393 q t → rw_ σ4 393 p t := by
        intro q p t hq h1 h2 ht
        by_cases hij : i ≤ j
        · rw [if_pos hij] at hq
          subst hq
          refine ⟨by rw [m5, if_pos (by omega)]; exact ht.1, fun k hk => ?_⟩
          rw [m5, if_pos (by omega), show p + 1 + k + 192 = p + 192 + 1 + k by omega]
          exact ht.2 k hk
        · rw [if_neg hij] at hq
          subst hq
          refine ⟨by rw [m5, if_neg (by omega)]; exact ht.1, fun k hk => ?_⟩
          rw [m5, if_neg (by omega)]
          exact ht.2 k hk
      by_cases hij : i ≤ j
      · rw [if_pos hij]
        have gg := gy.2.2.1 (j + 1) (by omega)
        have l1 := gg.1.2
        have l2 := gg.2.1.2
        have t := s3 (j + 1) (by omega)
        exact ⟨key (192 * (j + 1)) _ _ (by rw [if_pos hij]; omega) (by omega) (by omega) t.1, key (192 * (j + 1) + 96) _ _ (by rw [if_pos hij]; omega) (by omega) (by omega) t.2⟩
      · rw [if_neg hij]
        have gg := gy.2.2.1 j (by omega)
        have l1 := gg.1.2
        have l2 := gg.2.1.2
        have t := s3 j (by omega)
        exact ⟨key (192 * j) _ _ (by rw [if_neg hij]) (by omega) (by omega) t.1, key (192 * j + 96) _ _ (by rw [if_neg hij]) (by omega) (by omega) t.2⟩
    · exact cz_m (m2' 1 (by omega) (by omega)) rc_cz
  · refine ⟨-1, σ, σ, y, ?_, ?_, h, Or.inl ⟨ce2_rf, rfl⟩⟩
    · rw [x_norule hX.1 hX.2.2.1.2.1 h6 hc, bd_s, if_pos rfl]
    · rw [m_norule hM.2.1.2.1 h6 hc, bd_s, if_pos rfl]
