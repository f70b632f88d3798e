/-! the model: elimination -/
theorem m_el64 {y : js_Y} {k : Nat} {x1 x2 : Int32} {R : Nat → Nat → Bool} {c : Nat → Nat} {rc8 : Nat → Int32 → Int32 → js_S → Option (Int32 × js_S)} {rc43 : Nat → Int32 → Int32 → Int32 → js_S → Option (Int32 × js_S)} (g : gy_ y) (hq : qv_ R (pp_ y).length) (hk : k < 2147483648) :
    ∀ (d i m : Nat) (σ : js_S) (Q : Nat → Bool), i + d = (pp_ y).length → d < m → me2_ σ y R → md_ σ y c → (∀ j, j < (pp_ y).length → σ.1 416 j = bi_ (Q j)) → ∃ σ', fX12_eliminate_64 5000 rc8 rc43 m 390 x1 x2 (nI k) (nI i) σ = rc43 390 x1 x2 (nI (k + 1)) σ' ∧ fi_ (fun a => a = 416) σ σ' ∧ ∀ j, j < (pp_ y).length → σ'.1 416 j = bi_ (Q j || (decide (i ≤ j) && (ik_ R k j && decide (cv_ (fp2_ y) c j = 2)))) := by
  have h240 := pp_len g
  intro d
  induction d with
  | zero =>
    intro i m σ Q hi hm h hd hQ
    obtain ⟨m, rfl⟩ : ∃ j, m = j + 1 := ⟨m - 1, by omega⟩
    refine ⟨σ, ?_, fi_rf, fun j hj => ?_⟩
    · rw [sX12_eliminate_64]
      unfold fX12_eliminate_64b fX12_eliminate_141
      rw [h.2.2.1, if_pos (nle_t (by omega) (by omega)), n_s]
    · rw [decide_eq_false (show ¬ i ≤ j by omega), Bool.false_and, Bool.or_false]
      exact hQ j hj
  | succ d ih =>
    intro i m σ Q hi hm h hd hQ
    obtain ⟨m, rfl⟩ : ∃ j, m = j + 1 := ⟨m - 1, by omega⟩
    have hin : i < (pp_ y).length := by omega
    have hv := cv_lt (y := y) (c := c) (j := i)
    have key : ∀ b : Bool, b = (ik_ R k i && decide (cv_ (fp2_ y) c i = 2)) → ∃ σ', fX12_eliminate_133 5000 rc8 rc43 (fX12_eliminate_64 5000 rc8 rc43 m) 390 x1 x2 (nI k) (nI i) (bi_ b) (bi_ (Q i)) (nI i) 416 σ = rc43 390 x1 x2 (nI (k + 1)) σ' ∧ fi_ (fun a => a = 416) σ σ' ∧ ∀ j, j < (pp_ y).length → σ'.1 416 j = bi_ (Q j || (decide (i ≤ j) && (ik_ R k j && decide (cv_ (fp2_ y) c j = 2)))) := by
      intro b hb
      have f1 : fi_ (fun a => a = 416) σ (uI_ σ 416 i (bi_ (Q i || b))) := fi_u rfl
      obtain ⟨σ2, r2, f2, e2⟩ := ih (i + 1) m (uI_ σ 416 i (bi_ (Q i || b))) (fun j => if j = i then Q i || b else Q j) (by omega) (by omega) (me2_fi f1 (fun a z => by omega) h) (md_fi f1 (by omega) hd) (fun j hj => by
        by_cases z : j = i
        · rw [z, uI_same, if_pos rfl]
        · rw [uI_ne (by omega), if_neg z]; exact hQ j hj)
      refine ⟨σ2, ?_, fi_tr f1 f2 (fun a q => q) (fun a q => q), fun j hj => ?_⟩
      · unfold fX12_eliminate_133
        rw [ln_416, if_pos (ib_t (by omega) (by omega)), n_cl (by omega), bi_or, bi_nz, lt_s_, n_s, r2]
      · rw [e2 j hj]
        by_cases z : j = i
        · rw [z, if_pos rfl, decide_eq_false (show ¬ i + 1 ≤ i by omega), decide_eq_true (Nat.le_refl i), Bool.false_and, Bool.or_false, Bool.true_and, hb]
        · have e : decide (i + 1 ≤ j) = decide (i ≤ j) := by
            by_cases z2 : i ≤ j
            · rw [decide_eq_true z2, decide_eq_true (by omega)]
            · rw [decide_eq_false z2, decide_eq_false (by omega)]
          rw [if_neg z, e]
    rw [sX12_eliminate_64]
    unfold fX12_eliminate_64b fX12_eliminate_132
    rw [h.2.2.1, if_neg (nle_f (by omega) (by omega)), lm_33 h.1.1, ln_416, if_pos (ib_t (by omega) (by omega)), lm_22 h.1.1, ln_408, if_pos (ib_t (by omega) (by omega)), n_cl (by omega), h.2.2.2 i hin, hQ i hin, m_cv g h hd hin]
    by_cases ci : ik_ R k i = true
    · rw [if_pos ((nm_eq hq h240 hk).mpr ci)]
      by_cases c2 : cv_ (fp2_ y) c i = 2
      · rw [if_pos (show nI (cv_ (fp2_ y) c i) = 2 by rw [c2]; rfl)]
        exact key true (by rw [ci, decide_eq_true c2]; rfl)
      · rw [if_neg (show ¬ nI (cv_ (fp2_ y) c i) = 2 from neq_f (b := 2) c2 (by omega) (by omega))]
        exact key false (by rw [decide_eq_false c2, Bool.and_false])
    · rw [if_neg (fun z => ci ((nm_eq hq h240 hk).mp z))]
      exact key false (by rw [show ik_ R k i = false by simpa using ci, Bool.false_and])
/-- what is removed by the components below k -/
def rb2_ (F : Nat → Nat → Nat) (ar : Nat → Nat) (n : Nat) (R : Nat → Nat → Bool) (k j : Nat) : Bool := decide (nu_ R j < k) && (R j j && rq_ F j (pj_ F ar n R (nu_ R j)))
theorem rb2_step {F : Nat → Nat → Nat} {ar : Nat → Nat} {n : Nat} {R : Nat → Nat → Bool} {k j : Nat} : rb2_ F ar n R (k + 1) j = (rb2_ F ar n R k j || (ik_ R k j && rq_ F j (pj_ F ar n R k))) := by
  unfold rb2_ ik_
  by_cases z : nu_ R j = k
  · rw [z, decide_eq_true (show k < k + 1 by omega), decide_eq_false (show ¬ k < k by omega), decide_eq_true (show k = k from rfl), Bool.true_and, Bool.false_and, Bool.false_or, Bool.and_true]
  · have e : decide (nu_ R j < k + 1) = decide (nu_ R j < k) := by
      by_cases z2 : nu_ R j < k
      · rw [decide_eq_true z2, decide_eq_true (by omega)]
      · rw [decide_eq_false z2, decide_eq_false (by omega)]
    rw [e, decide_eq_false z, Bool.and_false, Bool.false_and, Bool.or_false]
theorem m_el43 {y : js_Y} {r : Nat} {R : Nat → Nat → Bool} {rc8 : Nat → Int32 → Int32 → js_S → Option (Int32 × js_S)} (g : gy_ y) (hq : qv_ R (pp_ y).length) :
    ∀ (d k m : Nat) (σ : js_S), k + d = ct2_ R (pp_ y).length → d < m → me2_ σ y R → σ.1 390 24 = nI (ct2_ R (pp_ y).length) → (∀ j, j < (pp_ y).length → σ.1 416 j = bi_ (rb2_ (fp2_ y) y.1 (pp_ y).length R k j)) → ∃ σ', fX12_eliminate_43 5000 rc8 m 390 (nI r) (bi_ (mo_ (fp2_ y) y.1 (pp_ y).length R k)) (nI k) σ = fX12_eliminate_149 5000 rc8 5000 390 (nI r) (bi_ (mo_ (fp2_ y) y.1 (pp_ y).length R (ct2_ R (pp_ y).length))) 0 σ' ∧ fi_ (fun a => 414 ≤ a ∧ a ≤ 416) σ σ' ∧ ∀ j, j < (pp_ y).length → σ'.1 416 j = bi_ (rm2_ (fp2_ y) y.1 (pp_ y).length R j) := by
  have h240 := pp_len g
  have hct := ct2_le (R := R) (i := (pp_ y).length)
  intro d
  induction d with
  | zero =>
    intro k m σ hk hm h h24 hQ
    obtain ⟨m, rfl⟩ : ∃ j, m = j + 1 := ⟨m - 1, by omega⟩
    have e : k = ct2_ R (pp_ y).length := by omega
    subst e
    refine ⟨σ, ?_, fi_rf, fun j hj => ?_⟩
    · rw [sX12_eliminate_43]
      unfold fX12_eliminate_43b
      rw [h24, if_pos (nle_t (by omega) (by omega))]
    · rw [hQ j hj]
      unfold rb2_ rm2_
      cases c : R j j with
      | false => rw [Bool.false_and, Bool.and_false]
      | true => rw [decide_eq_true (nu_lt hq c), Bool.true_and]
  | succ d ih =>
    intro k m σ hk hm h h24 hQ
    obtain ⟨m, rfl⟩ : ∃ j, m = j + 1 := ⟨m - 1, by omega⟩
    obtain ⟨σ1, rr, r1, f1, q1⟩ := m_findProjection (k := k) g hq (by omega) h
    have h1 := me2_fi f1 (fun a z => by omega) h
    rw [sX12_eliminate_43]
    unfold fX12_eliminate_43b fX12_eliminate_141
    rw [h24, if_neg (nle_f (by omega) (by omega)), r1, bd_s]
    rcases q1 with ⟨c1, c2⟩ | ⟨q, c1, c2, c3⟩
    · obtain ⟨σ2, r2, f2, e2⟩ := ih (k + 1) m σ1 (by omega) (by omega) h1 (by rw [f1.2 390 (by omega)]; exact h24) (fun j hj => by
        rw [f1.2 416 (by omega), hQ j hj, rb2_step, c1]
        unfold rq_
        rw [Bool.and_false, Bool.or_false])
      rw [mo_s, c1, Option.isSome_none, Bool.or_false] at r2
      refine ⟨σ2, ?_, fi_tr f1 f2 (fun a q => by omega) (fun a q => q), e2⟩
      rw [c2, if_pos (by decide), n_s, r2]
    · obtain ⟨σ2, r2, f2, e2⟩ := m_el64 (x1 := nI r) (x2 := 1) (rc8 := rc8) (rc43 := fX12_eliminate_43 5000 rc8 m) (c := c3_ q.1 q.2.1 q.2.2) g hq (show k < 2147483648 by omega) (pp_ y).length 0 5000 σ1 (rb2_ (fp2_ y) y.1 (pp_ y).length R k) (by omega) (by omega) h1 c3 (fun j hj => by rw [f1.2 416 (by omega)]; exact hQ j hj)
      have f12 := fi_tr (S3 := fun a => 414 ≤ a ∧ a ≤ 416) f1 f2 (fun a q => by omega) (fun a q => by omega)
      obtain ⟨σ3, r3, f3, e3⟩ := ih (k + 1) m σ2 (by omega) (by omega) (me2_fi f12 (fun a z => by omega) h) (by rw [f12.2 390 (by omega)]; exact h24) (fun j hj => by
        rw [e2 j hj, rb2_step, c1, decide_eq_true (Nat.zero_le j), Bool.true_and]
        rfl)
      rw [mo_s, c1, Option.isSome_some, Bool.or_true] at r3
      have hpv : ¬ nI (pv_ q) < 0 := by
        have b0 := (c3 0 (by omega)).2
        have b1 := (c3 1 (by omega)).2
        have b2 := (c3 2 (by omega)).2
        have a0 := (g.1 0 (by omega)).2
        have a1 := (g.1 1 (by omega)).2
        have a2 := (g.1 2 (by omega)).2
        have z0 : q.1 < y.1 0 := b0
        have z1 : q.2.1 < y.1 1 := b1
        have z2 : q.2.2 < y.1 2 := b2
        exact nI_pos (by unfold pv_; omega)
      refine ⟨σ3, ?_, fi_tr f12 f3 (fun a q => q) (fun a q => q), e3⟩
      rw [c2, if_neg hpv, show fX12_eliminate_64 5000 rc8 (fX12_eliminate_43 5000 rc8 m) 5000 390 (nI r) 1 (nI k) 0 σ1 = _ from r2]
      exact r3
theorem m_el149 {n r : Nat} {b : Bool} {Q : Nat → Bool} {rc8 : Nat → Int32 → Int32 → js_S → Option (Int32 × js_S)} (hn : n ≤ 240) :
    ∀ (d i m : Nat) (σ : js_S) (L : Nat → Bool), i + d = n → d < m → lm_ σ.2.2 → σ.1 390 23 = nI n → (∀ j, j < n → σ.1 416 j = bi_ (Q j)) → (∀ j, j < n → σ.1 407 j = bi_ (L j)) → ∃ σ', fX12_eliminate_149 5000 rc8 m 390 (nI r) (bi_ b) (nI i) σ = rc8 390 (nI (r + if b = true then 1 else 0)) (bi_ b) σ' ∧ fi_ (fun a => a = 407) σ σ' ∧ ∀ j, j < n → σ'.1 407 j = bi_ (L j && !(decide (i ≤ j) && Q j)) := by
  intro d
  induction d with
  | zero =>
    intro i m σ L hi hm h h23 hQ hL
    obtain ⟨m, rfl⟩ : ∃ j, m = j + 1 := ⟨m - 1, by omega⟩
    refine ⟨σ, ?_, fi_rf, fun j hj => ?_⟩
    · rw [sX12_eliminate_149]
      unfold fX12_eliminate_149b fX12_eliminate_196
      rw [h23, if_pos (nle_t (by omega) (by omega))]
      cases b with
      | false =>
        rw [bi_f, if_pos rfl, if_neg Bool.false_ne_true, show nI r + 0 = nI (r + 0) from n_add r 0]
      | true =>
        rw [bi_t, if_neg (by decide), if_pos rfl, n_s]
    · rw [decide_eq_false (show ¬ i ≤ j by omega), Bool.false_and, Bool.not_false, Bool.and_true]
      exact hL j hj
  | succ d ih =>
    intro i m σ L hi hm h h23 hQ hL
    obtain ⟨m, rfl⟩ : ∃ j, m = j + 1 := ⟨m - 1, by omega⟩
    have key : ∀ e : Bool, e = (!Q i) → ∃ σ', fX12_eliminate_178 5000 rc8 (fX12_eliminate_149 5000 rc8 m) 390 (nI r) (bi_ b) (nI i) (bi_ e) (bi_ (L i)) (nI i) 407 σ = rc8 390 (nI (r + if b = true then 1 else 0)) (bi_ b) σ' ∧ fi_ (fun a => a = 407) σ σ' ∧ ∀ j, j < n → σ'.1 407 j = bi_ (L j && !(decide (i ≤ j) && Q j)) := by
      intro e he
      have f1 : fi_ (fun a => a = 407) σ (uI_ σ 407 i (bi_ (L i && e))) := fi_u rfl
      obtain ⟨σ2, r2, f2, e2⟩ := ih (i + 1) m (uI_ σ 407 i (bi_ (L i && e))) (fun j => if j = i then L i && e else L j) (by omega) (by omega) h (by rw [uI_ne (by omega)]; exact h23) (fun j hj => by rw [uI_ne (by omega)]; exact hQ j hj) (fun j hj => by
        by_cases z : j = i
        · rw [z, uI_same, if_pos rfl]
        · rw [uI_ne (by omega), if_neg z]; exact hL j hj)
      refine ⟨σ2, ?_, fi_tr f1 f2 (fun a q => q) (fun a q => q), fun j hj => ?_⟩
      · unfold fX12_eliminate_178
        rw [ln_407, if_pos (ib_t (by omega) (by omega)), n_cl (by omega), bi_and, bi_nz, lt_s_, n_s, r2]
      · rw [e2 j hj]
        by_cases z : j = i
        · rw [z, if_pos rfl, decide_eq_false (show ¬ i + 1 ≤ i by omega), decide_eq_true (Nat.le_refl i), Bool.false_and, Bool.not_false, Bool.and_true, Bool.true_and, he]
        · have e : decide (i + 1 ≤ j) = decide (i ≤ j) := by
            by_cases z2 : i ≤ j
            · rw [decide_eq_true z2, decide_eq_true (by omega)]
            · rw [decide_eq_false z2, decide_eq_false (by omega)]
          rw [if_neg z, e]
    rw [sX12_eliminate_149]
    unfold fX12_eliminate_149b
    rw [h23, if_neg (nle_f (by omega) (by omega)), lm_21 h, ln_407, if_pos (ib_t (by omega) (by omega)), lm_33 h, ln_416, if_pos (ib_t (by omega) (by omega)), n_cl (by omega), hQ i (by omega), hL i (by omega)]
    cases c : Q i with
    | false =>
      rw [bi_f, if_pos rfl]
      exact key true (by rw [c]; rfl)
    | true =>
      rw [bi_t, if_neg (by decide)]
      exact key false (by rw [c]; rfl)
theorem m_el20 {n : Nat} {x1 x2 : Int32} {rc8 : Nat → Int32 → Int32 → js_S → Option (Int32 × js_S)} (hn : n ≤ 240) :
    ∀ (d i m : Nat) (σ : js_S), i + d = n → d < m → lm_ σ.2.2 → σ.1 390 23 = nI n → (∀ j, j < i → σ.1 416 j = 0) → ∃ σ', fX12_eliminate_20 5000 rc8 m 390 x1 x2 (nI i) σ = fX12_eliminate_43 5000 rc8 5000 390 x1 x2 0 σ' ∧ fi_ (fun a => a = 416) σ σ' ∧ ∀ j, j < n → σ'.1 416 j = 0 := by
  intro d
  induction d with
  | zero =>
    intro i m σ hi hm h h23 hQ
    obtain ⟨m, rfl⟩ : ∃ j, m = j + 1 := ⟨m - 1, by omega⟩
    refine ⟨σ, ?_, fi_rf, fun j hj => hQ j (by omega)⟩
    rw [sX12_eliminate_20]
    unfold fX12_eliminate_20b
    rw [h23, if_pos (nle_t (by omega) (by omega))]
  | succ d ih =>
    intro i m σ hi hm h h23 hQ
    obtain ⟨m, rfl⟩ : ∃ j, m = j + 1 := ⟨m - 1, by omega⟩
    have f1 : fi_ (fun a => a = 416) σ (uI_ σ 416 i 0) := fi_u rfl
    obtain ⟨σ2, r2, f2, e2⟩ := ih (i + 1) m (uI_ σ 416 i 0) (by omega) (by omega) h (by rw [uI_ne (by omega)]; exact h23) (fun j hj => by
      by_cases z : j = i
      · rw [z, uI_same]
      · rw [uI_ne (by omega)]; exact hQ j (by omega))
    refine ⟨σ2, ?_, fi_tr f1 f2 (fun a q => q) (fun a q => q), e2⟩
    rw [sX12_eliminate_20]
    unfold fX12_eliminate_20b
    rw [h23, if_neg (nle_f (by omega) (by omega)), lm_33 h, ln_416, if_pos (ib_t (by omega) (by omega)), n_cl (by omega), show nz_ 0 = 0 from bi_nz false, lt_s_, n_s, r2]
/-! each round removes a pair -/
theorem bu_mono {p q : Nat → Bool} (h : ∀ k, p k = true → q k = true) : ∀ {d i : Nat}, bu_ p d i ≤ bu_ q d i
  | 0, i => Nat.le_refl _
  | d + 1, i => by
    have := bu_mono h (d := d) (i := i + 1)
    rw [bu_s, bu_s]
    cases c : p i with
    | false =>
      rw [if_neg Bool.false_ne_true]
      omega
    | true =>
      rw [h i c]
      omega
theorem bu_lt {p q : Nat → Bool} (h : ∀ k, p k = true → q k = true) : ∀ {d i j : Nat}, i ≤ j → j < i + d → q j = true → p j = false → bu_ p d i < bu_ q d i
  | 0, i, j, h1, h2, _, _ => by omega
  | d + 1, i, j, h1, h2, hq, hp => by
    rw [bu_s, bu_s]
    by_cases c : j = i
    · have := bu_mono h (d := d) (i := i + 1)
      rw [← c, hq, hp, if_neg Bool.false_ne_true, if_pos rfl, c]
      omega
    · have := bu_lt h (d := d) (i := i + 1) (j := j) (by omega) (by omega) hq hp
      cases c2 : p i with
      | false =>
        rw [if_neg Bool.false_ne_true]
        omega
      | true =>
        rw [h i c2]
        omega
theorem vd_ex {F : Nat → Nat → Nat} {R : Nat → Nat → Bool} {k : Nat} {c : Nat → Nat} : ∀ {d j : Nat} {s : Bool}, vd_ F R k c d j s = true → s = true ∨ ∃ i, j ≤ i ∧ i < j + d ∧ ik_ R k i = true ∧ cv_ F c i = 2
  | 0, j, s, h => Or.inl h
  | d + 1, j, s, h => by
    rw [vd_s] at h
    by_cases ci : ik_ R k j = true
    · rw [if_pos ci] at h
      by_cases c0 : cv_ F c j = 0
      · rw [if_pos c0] at h
        cases h
      · rw [if_neg c0] at h
        rcases vd_ex h with q | ⟨i, a1, a2, a3, a4⟩
        · by_cases c2 : cv_ F c j = 2
          · exact Or.inr ⟨j, Nat.le_refl _, by omega, ci, c2⟩
          · rw [decide_eq_false c2, Bool.or_false] at q
            exact Or.inl q
        · exact Or.inr ⟨i, by omega, by omega, a3, a4⟩
    · rw [if_neg ci] at h
      rcases vd_ex h with q | ⟨i, a1, a2, a3, a4⟩
      · exact Or.inl q
      · exact Or.inr ⟨i, by omega, by omega, a3, a4⟩
theorem fs_some {α : Type} {v : Nat → Option α} {q : α} : ∀ {d i : Nat}, fs_ v d i = some q → ∃ a, v a = some q
  | 0, i, h => by cases h
  | d + 1, i, h => by
    rw [fs_s] at h
    cases c : v i with
    | some w =>
      rw [c] at h
      exact ⟨i, by rw [c]; exact h⟩
    | none =>
      rw [c] at h
      exact fs_some (d := d) (i := i + 1) h
theorem pj_ex {F : Nat → Nat → Nat} {ar : Nat → Nat} {n : Nat} {R : Nat → Nat → Bool} {k : Nat} {q : Nat × Nat × Nat} (h : pj_ F ar n R k = some q) : ∃ i, i < n ∧ ik_ R k i = true ∧ cv_ F (c3_ q.1 q.2.1 q.2.2) i = 2 := by
  unfold pj_ at h
  obtain ⟨a, h1⟩ := fs_some h
  obtain ⟨b, h2⟩ := fs_some h1
  obtain ⟨c, h3⟩ := fs_some h2
  unfold p3_ at h3
  by_cases cv : vd_ F R k (c3_ a b c) n 0 false = true
  · rw [if_pos cv] at h3
    cases h3
    rcases vd_ex cv with z | ⟨i, a1, a2, a3, a4⟩
    · cases z
    · exact ⟨i, by omega, a3, a4⟩
  · rw [if_neg cv] at h3
    cases h3
theorem mo_ex {F : Nat → Nat → Nat} {ar : Nat → Nat} {n : Nat} {R : Nat → Nat → Bool} : ∀ {k : Nat}, mo_ F ar n R k = true → ∃ i q, i < k ∧ pj_ F ar n R i = some q
  | 0, h => by cases h
  | k + 1, h => by
    rw [mo_s] at h
    cases c : pj_ F ar n R k with
    | some q => exact ⟨k, q, by omega, c⟩
    | none =>
      rw [c, Option.isSome_none, Bool.or_false] at h
      obtain ⟨i, q, a1, a2⟩ := mo_ex h
      exact ⟨i, q, by omega, a2⟩
theorem el_dec {y : js_Y} {L : Nat → Bool} (h : mo_ (fp2_ y) y.1 (pp_ y).length (rk_ y L) (ct2_ (rk_ y L) (pp_ y).length) = true) : bu_ (fun i => L i && !rm2_ (fp2_ y) y.1 (pp_ y).length (rk_ y L) i) (pp_ y).length 0 < bu_ L (pp_ y).length 0 := by
  obtain ⟨k, q, a1, a2⟩ := mo_ex h
  obtain ⟨i, b1, b2, b3⟩ := pj_ex a2
  unfold ik_ at b2
  simp only [Bool.and_eq_true, decide_eq_true_eq] at b2
  refine bu_lt (fun k z => ?_) (Nat.zero_le i) (by omega) (rk_L b2.1) ?_
  · simp only [Bool.and_eq_true] at z
    exact z.1
  · show (L i && !rm2_ (fp2_ y) y.1 (pp_ y).length (rk_ y L) i) = false
    unfold rm2_
    rw [b2.1, b2.2, a2]
    show (L i && !(true && decide (cv_ (fp2_ y) (c3_ q.1 q.2.1 q.2.2) i = 2))) = false
    rw [decide_eq_true b3, Bool.and_self, Bool.not_true, Bool.and_false]
