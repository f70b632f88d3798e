/-! the class: elimination -/
theorem x4_rmLoop {p o f : Nat} (hf : f < 240) : ∀ (d w k : Nat) (σ : js_S), w + d = 4 → d < k → go_ σ p o → ∃ σ', fX4_removeEdgesFrom_10 5000 k p (nI f) (nI w) σ = some ((), σ') ∧ fl2_ o σ σ' ∧ ∀ f' t', t' < 240 → eb_ σ' o f' t' = (eb_ σ o f' t' && !(decide (f' = f) && decide (w ≤ t' / 64))) := by
  intro d
  induction d with
  | zero =>
    intro w k σ hw hk h
    obtain ⟨k, rfl⟩ : ∃ j, k = j + 1 := ⟨k - 1, by omega⟩
    refine ⟨σ, ?_, fl2_rf, fun f' t ht => ?_⟩
    · rw [sX4_removeEdgesFrom_10]
      unfold fX4_removeEdgesFrom_10b
      rw [if_pos (n4_t (by omega) (by omega))]
    · rw [decide_eq_false (show ¬ w ≤ t / 64 by omega), Bool.and_false, Bool.not_false, Bool.and_true]
  | succ d ih =>
    intro w k σ hw hk h
    obtain ⟨k, rfl⟩ : ∃ j, k = j + 1 := ⟨k - 1, by omega⟩
    have f1 : fl2_ o σ (uJ_ σ o (4 * f + w) 0) := fl2_u
    obtain ⟨σ2, r2, f2, e2⟩ := ih (w + 1) k _ (by omega) (by omega) (go_fl f1 h)
    refine ⟨σ2, ?_, fl2_tr f1 f2, fun f' t ht => ?_⟩
    · rw [sX4_removeEdgesFrom_10]
      unfold fX4_removeEdgesFrom_10b
      rw [if_neg (n4_f (by omega)), n_w4, h.1, h.2, if_pos (ib_t (by omega) (by omega)), n_cl (by omega), lt_s_, n_s]
      exact r2
    · rw [e2 f' t ht, eb_u (by omega) ht, jb_0]
      by_cases c : f' = f
      · by_cases c2 : t / 64 = w
        · rw [if_pos ⟨c, c2⟩, decide_eq_true c, decide_eq_true (show w ≤ t / 64 by omega)]
          simp
        · rw [if_neg (fun z => c2 z.2)]
          by_cases c3 : w ≤ t / 64
          · rw [decide_eq_true (show w + 1 ≤ t / 64 by omega), decide_eq_true c3]
          · rw [decide_eq_false (show ¬ w + 1 ≤ t / 64 by omega), decide_eq_false c3]
      · rw [if_neg (fun z => c z.1), decide_eq_false c]
        rfl
theorem x1_remove {σ : js_S} {o f : Nat} (hf : f < 240) (h : co2_ σ o) : ∃ σ', fX1_remove 5000 o (nI f) σ = some ((), σ') ∧ fl2_ (o + 2) σ σ' ∧ ∀ f' t', t' < 240 → eb_ σ' (o + 2) f' t' = (eb_ σ (o + 2) f' t' && !decide (f' = f)) := by
  obtain ⟨σ2, r2, f2, e2⟩ := x4_rmLoop hf 4 0 5000 σ (by omega) (by omega) h.2.1
  refine ⟨σ2, ?_, f2, fun f' t' ht => ?_⟩
  · unfold fX1_remove fX4_removeEdgesFrom
    rw [h.1, x4_covers hf hf, bd_s, if_neg (by decide), show fX4_removeEdgesFrom_10 5000 5000 (o + 1) (nI f) 0 σ = _ from r2, bd_s]
  · rw [e2 f' t' ht, decide_eq_true (Nat.zero_le _), Bool.and_true]
theorem xe_fl {o : Nat} {σ σ' : js_S} {y : js_Y} {oc : Nat} {R : Nat → Nat → Bool} (h : fl2_ o σ σ') (hx : xe_ σ y oc R) : xe_ σ' y oc R := by
  obtain ⟨h1, h2, h3, h4, h5, h6⟩ := hx
  refine ⟨by rw [h.2.1]; exact h1, ?_, px_fl h h3, co2_r h.2.1 h4, by rw [h.1]; exact h5, h6⟩
  unfold sg_
  rw [h.1]
  exact h2
theorem cc_fl {o : Nat} {σ σ' : js_S} {c : Nat → Nat} (h : fl2_ o σ σ') (hc : cc_ σ c) : cc_ σ' c := by
  unfold cc_
  rw [h.1]
  exact hc
theorem x2_rs {y : js_Y} {k : Nat} {R : Nat → Nat → Bool} {c : Nat → Nat} (g : gy_ y) (hq : qv_ R (pp_ y).length) (hk : k < 2147483648) :
    ∀ (d j m : Nat) (σ : js_S), j + d = (pp_ y).length → d < m → xe_ σ y 382 R → cc_ σ c → ∃ σ', fX2_removeStrict_2 5000 m 381 366 (nI k) (nI j) σ = some ((), σ') ∧ fl2_ 384 σ σ' ∧ ∀ f t, t < 240 → eb_ σ' 384 f t = (eb_ σ 384 f t && !(decide (j ≤ f) && (decide (f < (pp_ y).length) && (ik_ R k f && decide (cv_ (fp2_ y) c f = 2))))) := by
  have h240 := pp_len g
  intro d
  induction d with
  | zero =>
    intro j m σ hj hm hx hc
    obtain ⟨m, rfl⟩ : ∃ j, m = j + 1 := ⟨m - 1, by omega⟩
    refine ⟨σ, ?_, fl2_rf, fun f t ht => ?_⟩
    · rw [sX2_removeStrict_2]
      unfold fX2_removeStrict_2b
      rw [hx.2.2.1.1, if_pos (nle_t (by omega) (by omega))]
    · by_cases c1 : j ≤ f
      · rw [decide_eq_false (show ¬ f < (pp_ y).length by omega), Bool.false_and, Bool.and_false, Bool.not_false, Bool.and_true]
      · rw [decide_eq_false c1, Bool.false_and, Bool.not_false, Bool.and_true]
  | succ d ih =>
    intro j m σ hj hm hx hc
    obtain ⟨m, rfl⟩ : ∃ j, m = j + 1 := ⟨m - 1, by omega⟩
    have hjn : j < (pp_ y).length := by omega
    have hv := cv_lt (y := y) (c := c) (j := j)
    have skip : (ik_ R k j && decide (cv_ (fp2_ y) c j = 2)) = false → ∃ σ', fX2_removeStrict_2 5000 m 381 366 (nI k) (nI (j + 1)) σ = some ((), σ') ∧ fl2_ 384 σ σ' ∧ ∀ f t, t < 240 → eb_ σ' 384 f t = (eb_ σ 384 f t && !(decide (j ≤ f) && (decide (f < (pp_ y).length) && (ik_ R k f && decide (cv_ (fp2_ y) c f = 2))))) := by
      intro hs
      obtain ⟨σ2, r2, f2, e2⟩ := ih (j + 1) m σ (by omega) (by omega) hx hc
      refine ⟨σ2, r2, f2, fun f t ht => ?_⟩
      rw [e2 f t ht]
      by_cases z : f = j
      · rw [z, hs, Bool.and_false, Bool.and_false, Bool.and_false]
      · have e : decide (j + 1 ≤ f) = decide (j ≤ f) := by
          by_cases z2 : j ≤ f
          · rw [decide_eq_true z2, decide_eq_true (by omega)]
          · rw [decide_eq_false z2, decide_eq_false (by omega)]
        rw [e]
    rw [sX2_removeStrict_2]
    unfold fX2_removeStrict_2b fX2_removeStrict_43
    rw [hx.2.2.1.1, if_neg (nle_f (by omega) (by omega)), lx_381_0 hx.1, x1_number hx.2.2.2.1 (show j < 240 by omega), bd_s, hx.2.2.2.2.1 j hjn, n_s]
    by_cases ci : ik_ R k j = true
    · rw [if_pos ((nc_eq hq h240 hk).mpr ci), show fX5_graph 5000 366 (nI j) σ = some (gg_ (fp2_ y j), σ) from x5_graph hx.1 hx.2.2.1 h240 hjn, bd_s, x2_projected hx.1 hc, bd_s]
      by_cases c2 : cv_ (fp2_ y) c j = 2
      · obtain ⟨σ1, r1, f1, e1⟩ := x1_remove (o := 382) (show j < 240 by omega) hx.2.2.2.1
        obtain ⟨σ2, r2, f2, e2⟩ := ih (j + 1) m σ1 (by omega) (by omega) (xe_fl f1 hx) (cc_fl f1 hc)
        refine ⟨σ2, ?_, fl2_tr f1 f2, fun f t ht => ?_⟩
        · rw [if_pos (show nI (cv_ (fp2_ y) c j) = 2 by rw [c2]; rfl), lx_381_0 hx.1, r1, bd_s, r2]
        · rw [e2 f t ht, show eb_ σ1 384 f t = _ from e1 f t ht]
          by_cases z : f = j
          · rw [z, ci, decide_eq_true c2, decide_eq_true hjn, decide_eq_true (Nat.le_refl j), decide_eq_true (show j = j from rfl)]
            simp
          · have e : decide (j + 1 ≤ f) = decide (j ≤ f) := by
              by_cases z2 : j ≤ f
              · rw [decide_eq_true z2, decide_eq_true (by omega)]
              · rw [decide_eq_false z2, decide_eq_false (by omega)]
            rw [e, decide_eq_false z, Bool.not_false, Bool.and_true]
      · rw [if_neg (show ¬ nI (cv_ (fp2_ y) c j) = 2 from neq_f (b := 2) c2 (by omega) (by omega))]
        exact skip (by rw [decide_eq_false c2, Bool.and_false])
    · rw [if_neg (fun z => ci ((nc_eq hq h240 hk).mp z))]
      exact skip (by rw [show ik_ R k j = false by simpa using ci, Bool.false_and])
def sE_ (a _b : Nat) : Prop := a = 388 ∨ a = 389
theorem x2_rd {y : js_Y} {R : Nat → Nat → Bool} (g : gy_ y) (hq : qv_ R (pp_ y).length) :
    ∀ (d k m : Nat) (σ : js_S), k + d = ct2_ R (pp_ y).length → d < m → xe_ σ y 382 R → σ.1 382 3 = nI (ct2_ R (pp_ y).length) → ∃ σ', fX2_removeDecreasing_5 5000 m 381 366 3 (bi_ (mo_ (fp2_ y) y.1 (pp_ y).length R k)) (nI k) σ = some (bi_ (mo_ (fp2_ y) y.1 (pp_ y).length R (ct2_ R (pp_ y).length)), σ') ∧ fw2_ sE_ (fun a => a = 384) σ σ' ∧ ∀ f t, t < 240 → eb_ σ' 384 f t = (eb_ σ 384 f t && !(decide (k ≤ nu_ R f) && (R f f && rq_ (fp2_ y) f (pj_ (fp2_ y) y.1 (pp_ y).length R (nu_ R f))))) := by
  have h240 := pp_len g
  have hct := ct2_le (R := R) (i := (pp_ y).length)
  intro d
  induction d with
  | zero =>
    intro k m σ hk hm hx h3
    obtain ⟨m, rfl⟩ : ∃ j, m = j + 1 := ⟨m - 1, by omega⟩
    have e : k = ct2_ R (pp_ y).length := by omega
    subst e
    refine ⟨σ, ?_, fw2_rf, fun f t ht => ?_⟩
    · rw [sX2_removeDecreasing_5]
      unfold fX2_removeDecreasing_5b
      rw [lx_381_0 hx.1, h3, if_pos (nle_t (by omega) (by omega)), bi_nz, if_pos rfl]
    · cases c : R f f with
      | false => simp
      | true =>
        have := nu_lt hq c
        rw [decide_eq_false (by omega), Bool.false_and, Bool.not_false, Bool.and_true]
  | succ d ih =>
    intro k m σ hk hm hx h3
    obtain ⟨m, rfl⟩ : ∃ j, m = j + 1 := ⟨m - 1, by omega⟩
    obtain ⟨σ1, r, r1, f1, q1⟩ := x2_findProjection (k := k) g hq (by omega) hx
    have hx1 := xe_fi f1 (fun a z => z) hx
    have fw1 : fw2_ sE_ (fun a => a = 384) σ σ1 := fw2_fi f1 (fun a b z => z)
    have step : ∀ f, ∀ B : Bool, B = (ik_ R k f && rq_ (fp2_ y) f (pj_ (fp2_ y) y.1 (pp_ y).length R k)) → ((!B) && !(decide (k + 1 ≤ nu_ R f) && (R f f && rq_ (fp2_ y) f (pj_ (fp2_ y) y.1 (pp_ y).length R (nu_ R f))))) = !(decide (k ≤ nu_ R f) && (R f f && rq_ (fp2_ y) f (pj_ (fp2_ y) y.1 (pp_ y).length R (nu_ R f)))) := by
      intro f B hB
      unfold ik_ at hB
      rw [hB]
      by_cases z : nu_ R f = k
      · rw [z, decide_eq_true (show k = k from rfl), decide_eq_false (show ¬ k + 1 ≤ k by omega), decide_eq_true (Nat.le_refl k), Bool.and_true, Bool.false_and, Bool.not_false, Bool.and_true, Bool.true_and]
      · have e : decide (k + 1 ≤ nu_ R f) = decide (k ≤ nu_ R f) := by
          by_cases z2 : k ≤ nu_ R f
          · rw [decide_eq_true z2, decide_eq_true (by omega)]
          · rw [decide_eq_false z2, decide_eq_false (by omega)]
        rw [e, decide_eq_false z, Bool.and_false, Bool.false_and, Bool.not_false, Bool.true_and]
    rw [sX2_removeDecreasing_5]
    unfold fX2_removeDecreasing_5b fX2_removeDecreasing_41
    rw [lx_381_0 hx.1, h3, if_neg (nle_f (by omega) (by omega)), r1, bd_s, n_s]
    rcases q1 with ⟨c1, c2⟩ | ⟨q, c1, c2, c3⟩
    · obtain ⟨σ2, r2, f2, e2⟩ := ih (k + 1) m σ1 (by omega) (by omega) hx1 (by rw [f1.2 382 (by omega)]; exact h3)
      rw [mo_s, c1, Option.isSome_none, Bool.or_false] at r2
      refine ⟨σ2, by rw [c2, if_pos rfl, r2], fw2_tr fw1 f2, fun f t ht => ?_⟩
      rw [e2 f t ht, show eb_ σ1 384 f t = eb_ σ 384 f t by unfold eb_; rw [f1.1], ← step f false (by rw [c1]; unfold rq_; rw [Bool.and_false]), Bool.not_false, Bool.true_and]
    · obtain ⟨σ2, r2, f2, e2⟩ := x2_rs (c := c3_ q.1 q.2.1 q.2.2) g hq (show k < 2147483648 by omega) (pp_ y).length 0 5000 σ1 (by omega) (by omega) hx1 c3
      obtain ⟨σ3, r3, f3, e3⟩ := ih (k + 1) m σ2 (by omega) (by omega) (xe_fl f2 hx1) (by rw [f2.1, f1.2 382 (by omega)]; exact h3)
      rw [mo_s, c1, Option.isSome_some, Bool.or_true] at r3
      refine ⟨σ3, ?_, fw2_tr fw1 (fw2_tr (fw2_fl rfl f2) f3), fun f t ht => ?_⟩
      · unfold fX2_removeStrict
        rw [c2, if_neg (by decide), show fX2_removeStrict_2 5000 5000 381 366 (nI k) 0 σ1 = _ from r2, bd_s]
        exact r3
      · have hin : (decide (f < (pp_ y).length) && (ik_ R k f && decide (cv_ (fp2_ y) (c3_ q.1 q.2.1 q.2.2) f = 2))) = (ik_ R k f && decide (cv_ (fp2_ y) (c3_ q.1 q.2.1 q.2.2) f = 2)) := by
          cases ci : ik_ R k f with
          | false => rw [Bool.false_and, Bool.and_false]
          | true =>
            unfold ik_ at ci
            simp only [Bool.and_eq_true] at ci
            rw [decide_eq_true (hq.2.2 _ _ ci.1).1, Bool.true_and, Bool.true_and]
        rw [e3 f t ht, e2 f t ht, show eb_ σ1 384 f t = eb_ σ 384 f t by unfold eb_; rw [f1.1], decide_eq_true (Nat.zero_le f), Bool.true_and, hin, Bool.and_assoc, step f _ (by rw [c1]; rfl)]
/-- base edges -/
def be_ (y : js_Y) (i j : Nat) : Bool := decide (i < (pp_ y).length) && (decide (j < (pp_ y).length) && ee_ y i j)
def sR_ (a _b : Nat) : Prop := 381 ≤ a ∧ a ≤ 389
theorem xe_fo {σ σ' : js_S} {y : js_Y} {R : Nat → Nat → Bool} (hl : lx_ σ.2.2) (hg : sg_ σ 3 y.1) (hp : px_ σ y (pp_ y)) (f : fw2_ sR_ (fun a => 381 ≤ a ∧ a ≤ 389) σ σ') (hn : ∀ j, j < (pp_ y).length → σ'.1 387 j = nc2_ R j) : xe_ σ' y 382 R := by
  have l' : lx_ σ'.2.2 := by rw [f.1]; exact hl
  have hrow : ∀ a, a < 381 → σ'.1 a = σ.1 a := fun a ha => fw2_row f (fun b z => by unfold sR_ at z; omega)
  refine ⟨l', ?_, ?_, co2_382 l', hn, by omega⟩
  · unfold sg_
    rw [hrow 4 (by omega)]
    exact hg
  · unfold px_
    rw [hrow 366 (by omega), hrow 367 (by omega), hrow 368 (by omega), hrow 369 (by omega)]
    exact hp
theorem x2_run23 {y : js_Y} {σ0 : js_S} (g : gy_ y) (hl : lx_ σ0.2.2) (hg : sg_ σ0 3 y.1) (hp : px_ σ0 y (pp_ y)) :
    ∀ (d r m : Nat) (σ : js_S) (L : Nat → Bool), r + d = 240 → d < m → fw2_ sR_ (fun a => 381 ≤ a ∧ a ≤ 389) σ0 σ → (∀ j, j < (pp_ y).length → σ.1 387 j = nc2_ (rk_ y L) j) → σ.1 382 3 = nI (ct2_ (rk_ y L) (pp_ y).length) → σ.1 382 4 = nI (mb_ (rk_ y L) (pp_ y).length) → σ.1 381 3 = nI r → (∀ f t, t < 240 → f < 240 → eb_ σ 384 f t = (be_ y f t && L f)) → ∃ σ', fX2_run_23 5000 m 381 366 3 (nI r) σ = some ((), σ') ∧ fw2_ sR_ (fun a => 381 ≤ a ∧ a ≤ 389) σ0 σ' ∧ σ'.1 381 3 = nI (el_ (fp2_ y) y.1 (pp_ y).length (rk_ y) d r L).1 ∧ σ'.1 382 3 = nI (ct2_ (rk_ y (el_ (fp2_ y) y.1 (pp_ y).length (rk_ y) d r L).2) (pp_ y).length) ∧ σ'.1 382 4 = nI (mb_ (rk_ y (el_ (fp2_ y) y.1 (pp_ y).length (rk_ y) d r L).2) (pp_ y).length) := by
  have h240 := pp_len g
  intro d
  induction d with
  | zero =>
    intro r m σ L hr hm f0 h7 h3 h4 h1 hb
    obtain ⟨m, rfl⟩ : ∃ j, m = j + 1 := ⟨m - 1, by omega⟩
    refine ⟨σ, ?_, f0, h1, h3, h4⟩
    rw [sX2_run_23]
    unfold fX2_run_23b
    rw [if_pos (show (240 : Int32) ≤ nI r from nle_t (a := 240) (by omega) (by omega))]
  | succ d ih =>
    intro r m σ L hr hm f0 h7 h3 h4 h1 hb
    obtain ⟨m, rfl⟩ : ∃ j, m = j + 1 := ⟨m - 1, by omega⟩
    have hx := xe_fo hl hg hp f0 h7
    have hct := ct2_le (R := rk_ y L) (i := (pp_ y).length)
    obtain ⟨σ1, r1, f1, e1⟩ := x2_rd g (rk_qv (y := y) (L := L)) (ct2_ (rk_ y L) (pp_ y).length) 0 5000 σ (by omega) (by omega) hx h3
    have f1R : fw2_ sR_ (fun a => 381 ≤ a ∧ a ≤ 389) σ σ1 := fw2_mono f1 (fun a b z => by unfold sE_ at z; unfold sR_; omega) (fun a z => by omega)
    rw [sX2_run_23, el_s]
    unfold fX2_run_23b fX2_removeDecreasing
    rw [if_neg (show ¬ (240 : Int32) ≤ nI r from nle_f (a := 240) (by omega) (by omega)), show fX2_removeDecreasing_5 5000 5000 381 366 3 0 0 σ = _ from r1, bd_s]
    cases cm : mo_ (fp2_ y) y.1 (pp_ y).length (rk_ y L) (ct2_ (rk_ y L) (pp_ y).length) with
    | false =>
      rw [bi_f, if_pos rfl, if_neg Bool.false_ne_true]
      refine ⟨σ1, rfl, fw2_tr f0 f1R, ?_, ?_, ?_⟩
      · rw [f1.2.1 381 3 (by unfold sE_; omega)]; exact h1
      · rw [f1.2.1 382 3 (by unfold sE_; omega)]; exact h3
      · rw [f1.2.1 382 4 (by unfold sE_; omega)]; exact h4
    | true =>
      rw [bi_t, if_neg (by decide), if_pos rfl, f1.2.1 381 3 (by unfold sE_; omega), h1, n_s, lt_s_]
      have f2 : fw2_ sR_ (fun a => 381 ≤ a ∧ a ≤ 389) σ (uI_ σ1 381 3 (nI (r + 1))) := fw2_tr f1R (fw2_u (by unfold sR_; omega))
      have f02 := fw2_tr f0 f2
      have l2 : lx_ (uI_ σ1 381 3 (nI (r + 1))).2.2 := by rw [f02.1]; exact hl
      have hb2 : ∀ f t, t < 240 → f < 240 → eb_ (uI_ σ1 381 3 (nI (r + 1))) (382 + 2) f t = (be_ y f t && (L f && !rm2_ (fp2_ y) y.1 (pp_ y).length (rk_ y L) f)) := by
        intro f t ht hf
        show eb_ σ1 384 f t = _
        rw [e1 f t ht, hb f t ht hf, decide_eq_true (Nat.zero_le _), Bool.true_and, Bool.and_assoc]
        rfl
      obtain ⟨σ3, r3, f3, q3, q4, q5⟩ := x1_rebuild (o := 382) (n := (pp_ y).length) (E := fun i j => (decide (i < (pp_ y).length) && (decide (j < (pp_ y).length) && ee_ y i j)) && (fun i => L i && !rm2_ (fp2_ y) y.1 (pp_ y).length (rk_ y L) i) i) h240 (fun i j z => rk_e (L := fun i => L i && !rm2_ (fp2_ y) y.1 (pp_ y).length (rk_ y L) i) z) (co2_382 l2) (by rw [f02.2.1 366 4 (by unfold sR_; omega)]; exact hp.1) hb2
      have f3R : fw2_ sR_ (fun a => 381 ≤ a ∧ a ≤ 389) (uI_ σ1 381 3 (nI (r + 1))) σ3 := ⟨f3.1, fun a b q => by rw [f3.2.1 a (fun z => q (by unfold sR_; omega)) (fun z => q (by unfold sR_; omega))], fun a q => f3.2.2 a (by omega)⟩
      obtain ⟨σ4, r4, f4, w1, w2, w3⟩ := ih (r + 1) m σ3 (fun i => L i && !rm2_ (fp2_ y) y.1 (pp_ y).length (rk_ y L) i) (by omega) (by omega) (fw2_tr f02 f3R) q5 q3 q4 (by rw [f3.2.1 381 (by omega) (by omega), uI_same]) (fun f t ht hf => by rw [← hb2 f t ht hf]; unfold eb_; rw [f3.2.2 384 (by omega)])
      refine ⟨σ4, ?_, f4, w1, w2, w3⟩
      rw [lx_381_0 l2, r3, bd_s]
      exact r4
theorem x2_run {σ : js_S} {y : js_Y} (g : gy_ y) (hl : lx_ σ.2.2) (hg : sg_ σ 3 y.1) (hP : P1_ σ y) : ∃ σ', fX2_run 5000 381 366 3 σ = some ((), σ') ∧ fw2_ sR_ (fun a => 381 ≤ a ∧ a ≤ 389) σ σ' ∧ P4_ σ' y := by
  have h240 := pp_len g
  have f1 : fw2_ sR_ (fun a => 381 ≤ a ∧ a ≤ 389) σ (uI_ σ 381 3 0) := fw2_u (by unfold sR_; omega)
  have l1 : lx_ (uI_ σ 381 3 0).2.2 := hl
  obtain ⟨σ2, r2, f2, e2⟩ := x4_copyFrom (σ := uI_ σ 381 3 0) (p := 383) (o := 384) (q := 370) (u := 371) ⟨lx_383_0 l1, ln_384⟩ ⟨lx_370_0 l1, ln_371⟩
  have f12 := fw2_tr f1 (fw2_fl (S := sR_) (J := fun a => 381 ≤ a ∧ a ≤ 389) (by omega) f2)
  have l2 : lx_ σ2.2.2 := by rw [f12.1]; exact hl
  have hb2 : ∀ f t, t < 240 → f < 240 → eb_ σ2 (382 + 2) f t = (be_ y f t && (fun _ => true) f) := by
    intro f t ht hf
    rw [show eb_ σ2 (382 + 2) f t = _ from e2 f t ht hf, show eb_ (uI_ σ 381 3 0) 371 f t = eb_ σ 371 f t from rfl, hP.2 f t hf (by omega), Bool.and_true]
    rfl
  obtain ⟨σ3, r3, f3, q3, q4, q5⟩ := x1_rebuild (σ := σ2) (o := 382) (n := (pp_ y).length) (E := fun i j => (decide (i < (pp_ y).length) && (decide (j < (pp_ y).length) && ee_ y i j)) && (fun _ => true) i) h240 (fun i j z => rk_e (L := fun _ => true) z) (co2_382 l2) (by rw [f12.2.1 366 4 (by unfold sR_; omega)]; exact hP.1.1) hb2
  have f3R : fw2_ sR_ (fun a => 381 ≤ a ∧ a ≤ 389) σ2 σ3 := ⟨f3.1, fun a b q => by rw [f3.2.1 a (fun z => q (by unfold sR_; omega)) (fun z => q (by unfold sR_; omega))], fun a q => f3.2.2 a (by omega)⟩
  obtain ⟨σ4, r4, f4, w1, w2, w3⟩ := x2_run23 g hl hg hP.1 240 0 5000 σ3 (fun _ => true) (by omega) (by omega) (fw2_tr f12 f3R) q5 q3 q4 (by rw [f3.2.1 381 (by omega) (by omega), f2.1, uI_same]; rfl) (fun f t ht hf => by rw [← hb2 f t ht hf]; unfold eb_; rw [f3.2.2 384 (by omega)])
  refine ⟨σ4, ?_, f4, w1, w2, w3⟩
  unfold fX2_run
  have e1 : fX1_reset 5000 382 366 (uI_ σ 381 3 0) = some ((), σ2) := by
    unfold fX1_reset
    rw [lx_382_0 l1, lx_366_3 l1, r2, bd_s]
  rw [lt_s_, lx_381_0 l1, e1, bd_s, lx_381_0 l2, r3, bd_s]
  exact r4
theorem x_elim {σ : js_S} {y : js_Y} {sn : Option js_Y} {tx : List Int32} (h : iv_ σ y sn tx) (hc : ch_ σ y) : ∃ σ1, fX11_currentElimination 5000 1 σ = some (381, σ1) ∧ iv_ σ1 y sn tx ∧ ch_ σ1 y ∧ P4_ σ1 y := by
  by_cases h15 : σ.1 1 15 = 0
  · obtain ⟨σ1, r1, a1, a2, a3, a4, a5⟩ := x_pairs h hc
    have lx := a1.1.1
    obtain ⟨σ2, r2, f2, q2⟩ := x2_run a1.2.2.1 lx (iv_xs a1).2.1 a3
    have fw : fw2_ (fun a b => (381 ≤ a ∧ a ≤ 389) ∨ (a = 1 ∧ b = 15)) (fun a => 381 ≤ a ∧ a ≤ 389) σ1 (uI_ σ2 1 15 1) := fw2_tr (fw2_mono f2 (fun a b z => Or.inl z) (fun a z => z)) (fw2_u (Or.inr ⟨rfl, rfl⟩))
    have hrow : ∀ a, a ≠ 1 → ¬ (381 ≤ a ∧ a ≤ 389) → (uI_ σ2 1 15 1).1 a = σ1.1 a := fun a q1 q2 => fw2_row fw (fun b z => by omega)
    have hP : P4_ (uI_ σ2 1 15 1) y := P4_eq (σ := σ2) (fun a q1 => uI_row (by omega)) rfl rfl q2
    refine ⟨uI_ σ2 1 15 1, ?_, iv_c fw (fun a b z => by omega) a1, ⟨fun q => ?_, fun q => ?_, fun q => ?_, fun _ => hP⟩, hP⟩
    · unfold fX11_currentElimination
      rw [if_pos h15, r1, bd_s, lx_1_14 h.1.1, lx_1_0 lx, lx_2_0 lx, r2, bd_s, lt_s_, show (uI_ σ2 1 15 1).2.2 1 14 = 381 by rw [fw.1]; exact lx_1_14 lx]
    · exact P1_eq (fun a q1 q2 => hrow a (by omega) (by omega)) (fw.2.2 371 (by omega)) rfl rfl a3
    · exact P2_eq (fun a q1 q2 => hrow a (by omega) (by omega)) rfl rfl (a2.2.1 (by rw [← fw.2.1 1 11 (by omega)]; exact q))
    · exact P3_eq (hrow 378 (by omega) (by omega)) rfl rfl (a2.2.2.1 (by rw [← fw.2.1 1 13 (by omega)]; exact q))
  · refine ⟨σ, ?_, h, hc, hc.2.2.2 h15⟩
    unfold fX11_currentElimination
    rw [if_neg h15, lx_1_14 h.1.1]
