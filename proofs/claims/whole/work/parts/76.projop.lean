/-! both searches find the same -/
theorem fs_ext {α : Type} {v w : Nat → Option α} (h : ∀ i, v i = w i) : ∀ {d i : Nat}, fs_ v d i = fs_ w d i
  | 0, i => rfl
  | d + 1, i => by rw [fs_s, fs_s, h i, fs_ext h]
theorem fs_none {α : Type} {v : Nat → Option α} : ∀ {d i : Nat}, (∀ j, i ≤ j → v j = none) → fs_ v d i = none
  | 0, i, _ => rfl
  | d + 1, i, h => by
    rw [fs_s, h i (Nat.le_refl i), fs_none (fun j hj => h j (by omega))]
    rfl
theorem fs_if {α : Type} {v : Nat → Option α} {b : Bool} {d i : Nat} : fs_ (fun i => if b = true then v i else none) d i = if b = true then fs_ v d i else none := by
  cases b with
  | true => exact fs_ext (fun i => if_pos rfl)
  | false => exact fs_none (fun j _ => if_neg Bool.false_ne_true)
theorem fs_gate {α : Type} {v w : Nat → Option α} {u : Bool} {ar : Nat} (h1 : 1 ≤ ar) (h : ∀ i, w i = if (u || decide (i = 0)) = true then v i else none) : fs_ w ar 0 = fs_ v (if u = true then ar else 1) 0 := by
  cases u with
  | true =>
    rw [if_pos rfl]
    exact fs_ext (fun i => by rw [h i, Bool.true_or, if_pos rfl])
  | false =>
    obtain ⟨n, rfl⟩ : ∃ n, ar = n + 1 := ⟨ar - 1, by omega⟩
    rw [if_neg Bool.false_ne_true, fs_s, fs_s, fs_none (fun j hj => by rw [h j, Bool.false_or, decide_eq_false (show ¬ j = 0 by omega), if_neg Bool.false_ne_true]), h 0, Bool.false_or, decide_eq_true (show (0 : Nat) = 0 from rfl), if_pos rfl]
    rfl
theorem pm_pj {F : Nat → Nat → Nat} {ar : Nat → Nat} {R : Nat → Nat → Bool} {k n : Nat} (ha : ∀ f, f < 3 → 1 ≤ ar f) : fs_ (fun a => fs_ (fun b => fs_ (fun c => pm_ F R k n a b c) (ar 2) 0) (ar 1) 0) (ar 0) 0 = pj_ F ar n R k := by
  have e3 : ∀ a b, fs_ (fun c => pm_ F R k n a b c) (ar 2) 0 = if ((us_ F R k 0 n || decide (a = 0)) && (us_ F R k 1 n || decide (b = 0))) = true then fs_ (fun c => p3_ F R k n a b c) (cs2_ F ar R k n 2) 0 else none := by
    intro a b
    rw [← fs_if]
    refine fs_gate (u := us_ F R k 2 n) (ha 2 (by omega)) (fun c => ?_)
    have e : ul_ (fun f => us_ F R k f n) (c3_ a b c) 3 0 = ((us_ F R k 0 n || decide (a = 0)) && ((us_ F R k 1 n || decide (b = 0)) && ((us_ F R k 2 n || decide (c = 0)) && true))) := rfl
    unfold pm_ p3_
    rw [e]
    cases (us_ F R k 0 n || decide (a = 0)) <;> cases (us_ F R k 1 n || decide (b = 0)) <;> cases (us_ F R k 2 n || decide (c = 0)) <;> cases vd_ F R k (c3_ a b c) n 0 false <;> rfl
  have e2 : ∀ a, fs_ (fun b => fs_ (fun c => pm_ F R k n a b c) (ar 2) 0) (ar 1) 0 = if (us_ F R k 0 n || decide (a = 0)) = true then fs_ (fun b => fs_ (fun c => p3_ F R k n a b c) (cs2_ F ar R k n 2) 0) (cs2_ F ar R k n 1) 0 else none := by
    intro a
    rw [← fs_if]
    refine fs_gate (u := us_ F R k 1 n) (ha 1 (by omega)) (fun b => ?_)
    rw [e3 a b]
    cases (us_ F R k 0 n || decide (a = 0)) <;> cases (us_ F R k 1 n || decide (b = 0)) <;> rfl
  unfold pj_
  refine fs_gate (u := us_ F R k 0 n) (ha 0 (by omega)) (fun a => ?_)
  rw [e2 a]
theorem m_findProjection {σ : js_S} {y : js_Y} {k : Nat} {R : Nat → Nat → Bool} (g : gy_ y) (hq : qv_ R (pp_ y).length) (hk : k < 2147483648) (h : me2_ σ y R) : ∃ σ' r, fX12_findProjection 5000 390 (nI k) σ = some (r, σ') ∧ fi_ (fun a => a = 414 ∨ a = 415) σ σ' ∧ ((pj_ (fp2_ y) y.1 (pp_ y).length R k = none ∧ r = -5) ∨ ∃ q, pj_ (fp2_ y) y.1 (pp_ y).length R k = some q ∧ r = nI (pv_ q) ∧ md_ σ' y (c3_ q.1 q.2.1 q.2.2)) := by
  have a0 := (g.1 0 (by omega)).2
  have h2 := m_fp2 g hq hk (y.1 0) 0 5000 σ (by omega) (by omega) h
  rw [pm_pj (fun f hf => (g.1 f hf).1)] at h2
  have e : fX12_findProjection 5000 390 (nI k) σ = fX12_findProjection_2 5000 5000 390 (nI k) (nI (0 + 1)) σ := rfl
  rw [e]
  cases c : pj_ (fp2_ y) y.1 (pp_ y).length R k with
  | none =>
    rw [c] at h2
    obtain ⟨σ2, r2, f2⟩ := h2
    exact ⟨σ2, -5, r2, f2, Or.inl ⟨rfl, rfl⟩⟩
  | some q =>
    rw [c] at h2
    obtain ⟨σ2, r2, f2, c2⟩ := h2
    exact ⟨σ2, nI (pv_ q), r2, f2, Or.inr ⟨q, rfl, rfl, c2⟩⟩
theorem fm_45 {σ σ' : js_S} (h : fi_ (fun a => a = 414 ∨ a = 415) σ σ') : fm_ σ σ' := fm_fi h (fun a b q z => q (by unfold sM_; omega))
/-- what a search of the class needs -/
theorem xe_of {σ : js_S} {y : js_Y} {sn : Option js_Y} {tx : List Int32} (h : iv_ σ y sn tx) (h1 : P1_ σ y) (h2 : P2_ σ y) : xe_ σ y 372 (rk_ y (fun _ => true)) := ⟨h.1.1, (iv_xs h).2.1, h1.1, co2_372 h.1.1, h2.2, by omega⟩
theorem op_projection {σ : js_S} {y : js_Y} {sn : Option js_Y} {tx : List Int32} (h : iv_ σ y sn tx) (hc : ch_ σ y) (x : Int32) : ∃ r σ1 σ2, fX11_projection 5000 1 x σ = some (r, σ1) ∧ fX12_projection 5000 390 x σ1 = some (r, σ2) ∧ iv_ σ2 y sn tx ∧ ch_ σ2 y := by
  have g := h.2.2.1
  have h240 := pp_len g
  obtain ⟨σ1, r1, a1, a2, a3, a4⟩ := x_comps h hc
  have hct := ct2_le (R := rk_ y (fun _ => true)) (i := (pp_ y).length)
  by_cases c : ∃ k, k < ct2_ (rk_ y (fun _ => true)) (pp_ y).length ∧ x = nI k
  · obtain ⟨k, hk, rfl⟩ := c
    obtain ⟨σ2, r2, b1, b2, b3, b4, b5⟩ := x_pairs a1 a2
    have b6 : P2_ σ2 y := b2.2.1 (by rw [b5 11 (by omega)]; exact a4)
    obtain ⟨σ3, r, r3, f3, q3⟩ := x2_findProjection g rk_qv (by omega) (xe_of b1 b3 b6) (k := k)
    have fw3 : fw2_ (fun a _ => a = 388 ∨ a = 389) (fun _ => False) σ2 σ3 := fw2_fi f3 (fun a b z => z)
    have i3 : iv_ σ3 y sn tx := iv_c fw3 (fun a b z => by omega) b1
    have hrow : ∀ a, a ≠ 388 → a ≠ 389 → σ3.1 a = σ2.1 a := fun a q1 q2 => f3.2 a (by omega)
    have c3 : ch_ σ3 y := ⟨fun q => P1_eq (fun a q1 q2 => hrow a (by omega) (by omega)) (by rw [f3.1]) rfl rfl (b2.1 (by rw [← hrow 1 (by omega) (by omega)]; exact q)), fun q => P2_eq (fun a q1 q2 => hrow a (by omega) (by omega)) rfl rfl (b2.2.1 (by rw [← hrow 1 (by omega) (by omega)]; exact q)), fun q => P3_eq (hrow 378 (by omega) (by omega)) rfl rfl (b2.2.2.1 (by rw [← hrow 1 (by omega) (by omega)]; exact q)), fun q => P4_eq (fun a q1 => hrow a (by omega) (by omega)) rfl rfl (b2.2.2.2 (by rw [← hrow 1 (by omega) (by omega)]; exact q))⟩
    obtain ⟨σ4, σ5, r4, r5, f5, g5, q5, e5⟩ := m_comps g (iv_ms i3)
    obtain ⟨σ6, r', r6, f6, q6⟩ := m_findProjection g rk_qv (k := k) (by omega) (show me2_ σ5 y (rk_ y (fun _ => true)) from ⟨g5.1, g5.2.1, g5.2.2.1, e5⟩)
    have hM : fX12_projection 5000 390 (nI k) σ3 = some (r', σ6) := by
      unfold fX12_projection
      rw [r4, bd_s, r5, bd_s, q5, m_in (by omega), bd_s, decide_eq_true ⟨k, hk, rfl⟩, bi_t, if_neg (by decide), r6, bd_s]
    refine ⟨r', σ3, σ6, ?_, hM, fin2_ i3 c3 (fm_tr f5 (fm_45 f6))⟩
    unfold fX11_projection
    rw [r1, bd_s, if_neg (nI_pos (by omega)), a3.1, if_pos (nlt_t hk (by omega)), r2, bd_s, lx_1_14 a1.1.1, lx_1_0 b1.1.1, lx_2_0 b1.1.1, r3, bd_s]
    rcases q3 with ⟨c1, c2⟩ | ⟨q, c1, c2, c3'⟩
    · rcases q6 with ⟨d1, d2⟩ | ⟨q', d1, d2, d3⟩
      · rw [c2, d2, if_pos rfl]
      · rw [c1] at d1
        cases d1
    · rcases q6 with ⟨d1, d2⟩ | ⟨q', d1, d2, d3⟩
      · rw [c1] at d1
        cases d1
      · rw [c1] at d1
        cases d1
        rw [c2, if_neg (by decide), lx_1_14 i3.1.1, x2_number i3.1.1 c3', bd_s, d2]
        rfl
  · obtain ⟨σ4, σ5, r4, r5, f5, g5, q5, e5⟩ := m_comps g (iv_ms a1)
    refine ⟨-1, σ1, σ5, ?_, ?_, fin2_ a1 a2 f5⟩
    · unfold fX11_projection
      rw [r1, bd_s]
      rcases n_cases x with q | ⟨k, hk, rfl⟩
      · rw [if_pos q]
      · rw [if_neg (nI_pos hk), a3.1, if_neg (nlt_f (Nat.le_of_not_lt (fun z => c ⟨k, z, rfl⟩)) hk)]
    · unfold fX12_projection
      rw [r4, bd_s, r5, bd_s, q5, m_in (by omega), bd_s, decide_eq_false c, bi_f, if_pos rfl]
