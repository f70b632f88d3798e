/-! the class connects its pairs -/
theorem x5_rule {σ : js_S} {y : js_Y} {P : List (Nat × Nat)} {j : Nat} (hl : lx_ σ.2.2) (hp : px_ σ y P) (h240 : P.length ≤ 240) (hj : j < P.length) : fX5_rule 5000 366 (nI j) σ = some (nI (pc_ P j).1, σ) := by
  unfold fX5_rule
  rw [if_neg (nI_pos (by omega)), lx_366_0 hl, ln_367, n_of, if_neg (fun z => by have := (n_le (by omega) (by omega)).mp z; omega), n_ib (by omega), if_pos (decide_eq_true (by omega)), n_cl (by omega), (hp.2 j hj).1]
theorem x5_position {σ : js_S} {y : js_Y} {P : List (Nat × Nat)} {j : Nat} (hl : lx_ σ.2.2) (hp : px_ σ y P) (h240 : P.length ≤ 240) (hj : j < P.length) : fX5_position 5000 366 (nI j) σ = some (nI (pc_ P j).2, σ) := by
  unfold fX5_position
  rw [if_neg (nI_pos (by omega)), lx_366_1 hl, ln_368, n_of, if_neg (fun z => by have := (n_le (by omega) (by omega)).mp z; omega), n_ib (by omega), if_pos (decide_eq_true (by omega)), n_cl (by omega), (hp.2 j hj).2.1]
theorem x5_graph {σ : js_S} {y : js_Y} {P : List (Nat × Nat)} {j : Nat} (hl : lx_ σ.2.2) (hp : px_ σ y P) (h240 : P.length ≤ 240) (hj : j < P.length) : fX5_graph 5000 366 (nI j) σ = some (gg_ (gp_ y (pc_ P j)), σ) := by
  unfold fX5_graph
  rw [if_neg (nI_pos (by omega)), lx_366_2 hl, ln_369, n_of, if_neg (fun z => by have := (n_le (by omega) (by omega)).mp z; omega), n_ib (by omega), if_pos (decide_eq_true (by omega)), n_cl (by omega), (hp.2 j hj).2.2]
/-- only the longs of one object change -/
def fl2_ (o : Nat) (σ σ' : js_S) : Prop := σ'.1 = σ.1 ∧ σ'.2.2 = σ.2.2 ∧ ∀ a, a ≠ o → σ'.2.1 a = σ.2.1 a
theorem fl2_rf {o : Nat} {σ : js_S} : fl2_ o σ σ := ⟨rfl, rfl, fun _ _ => rfl⟩
theorem fl2_tr {o : Nat} {σ σ1 σ2 : js_S} (h1 : fl2_ o σ σ1) (h2 : fl2_ o σ1 σ2) : fl2_ o σ σ2 := ⟨h2.1.trans h1.1, h2.2.1.trans h1.2.1, fun a q => (h2.2.2 a q).trans (h1.2.2 a q)⟩
theorem tm_i {σ σ' : js_S} {o : Nat} {t : List Int32} (h : σ'.1 = σ.1) (ht : tm_ σ o t) : tm_ σ' o t := tm_eq (by rw [h]) (by rw [h]) ht
theorem xs_fl {o : Nat} {σ σ' : js_S} {y : js_Y} (h : fl2_ o σ σ') (hx : xs_ σ y) : xs_ σ' y := by
  obtain ⟨h1, h2, h3, h4⟩ := hx
  refine ⟨by rw [h.2.1]; exact h1, ?_, by rw [h.1]; exact h3, fun i hi => ⟨tm_i h.1 (h4 i hi).1, tm_i h.1 (h4 i hi).2⟩⟩
  unfold sg_
  rw [h.1]
  exact h2
theorem px_fl {o : Nat} {σ σ' : js_S} {y : js_Y} {P : List (Nat × Nat)} (h : fl2_ o σ σ') (hp : px_ σ y P) : px_ σ' y P := by
  unfold px_
  rw [h.1]
  exact hp
theorem x5_edge {σ : js_S} {y : js_Y} {i j : Nat} (g : gy_ y) (hx : xs_ σ y) (hi : i < (pp_ y).length) (hj : j < (pp_ y).length) : fX5_leadsTo 5000 3 (12 + 4 * (pc_ (pp_ y) i).1) (nI (pc_ (pp_ y) i).2) (10 + 4 * (pc_ (pp_ y) j).1) σ = some (bi_ (ee_ y i j), σ) := by
  have h6 := g.2.1
  have mi := pp_mem hi
  have mj := pp_mem hj
  have gri := g.2.2.1 _ mi.1
  have grj := g.2.2.1 _ mj.1
  exact x5_leadsTo hx.1 hx.2.1 g.1 (to_left hx.1 _ (by omega)) (hx.2.2.2 _ mj.1).1 grj.1 (to_right hx.1 _ (by omega)) (hx.2.2.2 _ mi.1).2 gri.2.1.2 mi.2.1
theorem x5_conn30 {y : js_Y} {i : Nat} {rc : Nat → Nat → Int32 → js_S → Option (Unit × js_S)} (g : gy_ y) (hi : i < (pp_ y).length) :
    ∀ (d j k : Nat) (σ : js_S), j + d = (pp_ y).length → d < k → xs_ σ y → px_ σ y (pp_ y) → go_ σ 370 371 → ∃ σ', fX5_connectPairs_30 5000 rc k 366 2 (nI i) (12 + 4 * (pc_ (pp_ y) i).1) (nI j) σ = rc 366 2 (nI (i + 1)) σ' ∧ fl2_ 371 σ σ' ∧ ∀ f t, t < 240 → eb_ σ' 371 f t = (eb_ σ 371 f t || (decide (f = i) && (decide (j ≤ t) && (decide (t < (pp_ y).length) && ee_ y i t)))) := by
  have h240 := pp_len g
  have h6 := g.2.1
  intro d
  induction d with
  | zero =>
    intro j k σ hj hk hx hp hg
    obtain ⟨k, rfl⟩ : ∃ j, k = j + 1 := ⟨k - 1, by omega⟩
    refine ⟨σ, ?_, fl2_rf, fun f t ht => ?_⟩
    · rw [sX5_connectPairs_30]
      unfold fX5_connectPairs_30b
      rw [hp.1, if_pos ((n_le (by omega) (by omega)).mpr (by omega)), show nI i + 1 = nI (i + 1) from n_add i 1]
    · have : (decide (j ≤ t) && (decide (t < (pp_ y).length) && ee_ y i t)) = false := by
        by_cases c : j ≤ t
        · rw [decide_eq_false (show ¬ t < (pp_ y).length by omega), Bool.false_and, Bool.and_false]
        · rw [decide_eq_false c, Bool.false_and]
      rw [this, Bool.and_false, Bool.or_false]
  | succ d ih =>
    intro j k σ hj hk hx hp hg
    obtain ⟨k, rfl⟩ : ∃ j, k = j + 1 := ⟨k - 1, by omega⟩
    have mj := pp_mem (y := y) (j := j) (by omega)
    have step : ∀ f t, (decide (f = i) && (decide (j ≤ t) && (decide (t < (pp_ y).length) && ee_ y i t))) = ((ee_ y i j && (decide (f = i) && decide (t = j))) || (decide (f = i) && (decide (j + 1 ≤ t) && (decide (t < (pp_ y).length) && ee_ y i t)))) := by
      intro f t
      by_cases c : t = j
      · subst c
        rw [decide_eq_true (Nat.le_refl t), decide_eq_true (show t < (pp_ y).length by omega), decide_eq_true (show t = t from rfl), decide_eq_false (show ¬ t + 1 ≤ t by omega)]
        cases decide (f = i) <;> cases ee_ y i t <;> rfl
      · have e1 : decide (j ≤ t) = decide (j + 1 ≤ t) := by
          by_cases c2 : j ≤ t
          · rw [decide_eq_true c2, decide_eq_true (by omega)]
          · rw [decide_eq_false c2, decide_eq_false (by omega)]
        rw [e1, decide_eq_false c, Bool.and_false, Bool.and_false, Bool.false_or]
    rw [sX5_connectPairs_30]
    unfold fX5_connectPairs_30b fX5_connectPairs_75
    rw [hp.1, if_neg (fun z => by have := (n_le (by omega) (by omega)).mp z; omega), x5_position hx.1 hp h240 hi, bd_s, x5_rule hx.1 hp h240 (show j < (pp_ y).length by omega), bd_s, x6_left hx.1 (by omega), bd_s, lx_2_0 hx.1, x5_edge g hx hi (show j < (pp_ y).length by omega), bd_s, show nI j + 1 = nI (j + 1) from n_add j 1]
    cases ce : ee_ y i j with
    | false =>
      obtain ⟨σ2, r2, f2, e2⟩ := ih (j + 1) k σ (by omega) (by omega) hx hp hg
      refine ⟨σ2, by rw [bi_f, if_pos rfl, r2], f2, fun f t ht => ?_⟩
      rw [e2 f t ht, step f t, ce, Bool.false_and, Bool.false_or]
    | true =>
      obtain ⟨σ1, r1, a1, a2, a3, a4⟩ := x4_connect hg (show i < 240 by omega) (show j < 240 by omega)
      have f1 : fl2_ 371 σ σ1 := ⟨a1, a2, a3⟩
      have hg1 : go_ σ1 370 371 := ⟨by rw [a2]; exact hg.1, hg.2⟩
      obtain ⟨σ2, r2, f2, e2⟩ := ih (j + 1) k σ1 (by omega) (by omega) (xs_fl f1 hx) (px_fl f1 hp) hg1
      refine ⟨σ2, by rw [bi_t, if_neg (by decide), lx_366_3 hx.1, r1, bd_s, r2], fl2_tr f1 f2, fun f t ht => ?_⟩
      rw [e2 f t ht, a4 f t ht, step f t, ce, Bool.true_and, Bool.or_assoc]
