/-! the class connects its pairs -/
theorem x5_rule {σ : js_S} {y : js_Y} {P : List (Nat × Nat)} {j : Nat} (hl : lx_ σ.2.2) (hp : px_ σ y P) (h240 : P.length ≤ 240) (hj : j < P.length) : fX5_rule 5000 366 (nI j) σ = some (nI (pc_ P j).1, σ) := by
  unfold fX5_rule
  rw [if_neg (nI_pos (by omega)), lx_366_0 hl, ln_367, n_of, if_neg (fun z => by have := (n_le (by omega) (by omega)).mp z; omega), n_ib (by omega), if_pos (decide_eq_true (by omega)), n_cl (by omega), (hp.2 j hj).1]
theorem x5_position {σ : js_S} {y : js_Y} {P : List (Nat × Nat)} {j : Nat} (hl : lx_ σ.2.2) (hp : px_ σ y P) (h240 : P.length ≤ 240) (hj : j < P.length) : fX5_position 5000 366 (nI j) σ = some (nI (pc_ P j).2, σ) := by
  unfold fX5_position
  rw [if_neg (nI_pos (by omega)), lx_366_1 hl, ln_368, n_of, if_neg (fun z => by have := (n_le (by omega) (by omega)).mp z; omega), n_ib (by omega), if_pos (decide_eq_true (by omega)), n_cl (by omega), (hp.2 j hj).2.1]
theorem x5_graph {σ : js_S} {y : js_Y} {P : List (Nat × Nat)} {j : Nat} (hl : lx_ σ.2.2) (hp : px_ σ y P) (h240 : P.length ≤ 240) (hj : j < P.length) : fX5_graph 5000 366 (nI j) σ = some (gg_ (gp_ y (pc_ P j)), σ) := by
  unfold fX5_graph
  rw [if_neg (nI_pos (by omega)), lx_366_2 hl, ln_369, n_of, if_neg (fun z => by have := (n_le (by omega) (by omega)).mp z; omega), n_ib (by omega), if_pos (decide_eq_true (by omega)), n_cl (by omega), (hp.2 j hj).2.2]
/-- only the longs of one object change -/
def fl2_ (o : Nat) (σ σ' : js_S) : Prop := σ'.1 = σ.1 ∧ σ'.2.2 = σ.2.2 ∧ ∀ a, a ≠ o → σ'.2.1 a = σ.2.1 a
theorem fl2_rf {o : Nat} {σ : js_S} : fl2_ o σ σ := ⟨rfl, rfl, fun _ _ => rfl⟩
theorem fl2_tr {o : Nat} {σ σ1 σ2 : js_S} (h1 : fl2_ o σ σ1) (h2 : fl2_ o σ1 σ2) : fl2_ o σ σ2 := ⟨h2.1.trans h1.1, h2.2.1.trans h1.2.1, fun a q => (h2.2.2 a q).trans (h1.2.2 a q)⟩
theorem tm_i {σ σ' : js_S} {o : Nat} {t : List Int32} (h : σ'.1 = σ.1) (ht : tm_ σ o t) : tm_ σ' o t := tm_eq (by rw [h]) (by rw [h]) ht
theorem xs_fl {o : Nat} {σ σ' : js_S} {y : js_Y} (h : fl2_ o σ σ') (hx : xs_ σ y) : xs_ σ' y := by
  obtain ⟨h1, h2, h3, h4⟩ := hx
  refine ⟨by rw [h.2.1]; exact h1, ?_, by rw [h.1]; exact h3, fun i hi => ⟨tm_i h.1 (h4 i hi).1, tm_i h.1 (h4 i hi).2⟩⟩
  unfold sg_
  rw [h.1]
  exact h2
theorem px_fl {o : Nat} {σ σ' : js_S} {y : js_Y} {P : List (Nat × Nat)} (h : fl2_ o σ σ') (hp : px_ σ y P) : px_ σ' y P := by
  unfold px_
  rw [h.1]
  exact hp
theorem x5_edge {σ : js_S} {y : js_Y} {i j : Nat} (g : gy_ y) (hx : xs_ σ y) (hi : i < (pp_ y).length) (hj : j < (pp_ y).length) : fX5_leadsTo 5000 3 (12 + 4 * (pc_ (pp_ y) i).1) (nI (pc_ (pp_ y) i).2) (10 + 4 * (pc_ (pp_ y) j).1) σ = some (bi_ (ee_ y i j), σ) := by
  have h6 := g.2.1
  have mi := pp_mem hi
  have mj := pp_mem hj
  have gri := g.2.2.1 _ mi.1
  have grj := g.2.2.1 _ mj.1
  exact x5_leadsTo hx.1 hx.2.1 g.1 (to_left hx.1 _ (by omega)) (hx.2.2.2 _ mj.1).1 grj.1 (to_right hx.1 _ (by omega)) (hx.2.2.2 _ mi.1).2 gri.2.1.2 mi.2.1
theorem x5_conn30 {y : js_Y} {i : Nat} {rc : Nat → Nat → Int32 → js_S → Option (Unit × js_S)} (g : gy_ y) (hi : i < (pp_ y).length) :
    ∀ (d j k : Nat) (σ : js_S), j + d = (pp_ y).length → d < k → xs_ σ y → px_ σ y (pp_ y) → go_ σ 370 371 → ∃ σ', fX5_connectPairs_30 5000 rc k 366 2 (nI i) (12 + 4 * (pc_ (pp_ y) i).1) (nI j) σ = rc 366 2 (nI (i + 1)) σ' ∧ fl2_ 371 σ σ' ∧ ∀ f t, t < 256 → eb_ σ' 371 f t = (eb_ σ 371 f t || (decide (f = i) && (decide (j ≤ t) && (decide (t < (pp_ y).length) && ee_ y i t)))) := by
  have h240 := pp_len g
  have h6 := g.2.1
  intro d
  induction d with
  | zero =>
    intro j k σ hj hk hx hp hg
    obtain ⟨k, rfl⟩ : ∃ j, k = j + 1 := ⟨k - 1, by omega⟩
    refine ⟨σ, ?_, fl2_rf, fun f t ht => ?_⟩
    · rw [sX5_connectPairs_30]
      unfold fX5_connectPairs_30b
      rw [hp.1, if_pos ((n_le (by omega) (by omega)).mpr (by omega)), show nI i + 1 = nI (i + 1) from n_add i 1]
    · have : (decide (j ≤ t) && (decide (t < (pp_ y).length) && ee_ y i t)) = false := by
        by_cases c : j ≤ t
        · rw [decide_eq_false (show ¬ t < (pp_ y).length by omega), Bool.false_and, Bool.and_false]
        · rw [decide_eq_false c, Bool.false_and]
      rw [this, Bool.and_false, Bool.or_false]
  | succ d ih =>
    intro j k σ hj hk hx hp hg
    obtain ⟨k, rfl⟩ : ∃ j, k = j + 1 := ⟨k - 1, by omega⟩
    have mj := pp_mem (y := y) (j := j) (by omega)
    have step : ∀ f t, (decide (f = i) && (decide (j ≤ t) && (decide (t < (pp_ y).length) && ee_ y i t))) = ((ee_ y i j && (decide (f = i) && decide (t = j))) || (decide (f = i) && (decide (j + 1 ≤ t) && (decide (t < (pp_ y).length) && ee_ y i t)))) := by
      intro f t
      by_cases c : t = j
      · subst c
        rw [decide_eq_true (Nat.le_refl t), decide_eq_true (show t < (pp_ y).length by omega), decide_eq_true (show t = t from rfl), decide_eq_false (show ¬ t + 1 ≤ t by omega)]
        cases decide (f = i) <;> cases ee_ y i t <;> rfl
      · have e1 : decide (j ≤ t) = decide (j + 1 ≤ t) := by
          by_cases c2 : j ≤ t
          · rw [decide_eq_true c2, decide_eq_true (by omega)]
          · rw [decide_eq_false c2, decide_eq_false (by omega)]
        rw [e1, decide_eq_false c, Bool.and_false, Bool.and_false, Bool.false_or]
    rw [sX5_connectPairs_30]
    unfold fX5_connectPairs_30b fX5_connectPairs_75
    rw [hp.1, if_neg (fun z => by have := (n_le (by omega) (by omega)).mp z; omega), x5_position hx.1 hp h240 hi, bd_s, x5_rule hx.1 hp h240 (show j < (pp_ y).length by omega), bd_s, x6_left hx.1 (by omega), bd_s, lx_2_0 hx.1, x5_edge g hx hi (show j < (pp_ y).length by omega), bd_s, show nI j + 1 = nI (j + 1) from n_add j 1]
    cases ce : ee_ y i j with
    | false =>
      obtain ⟨σ2, r2, f2, e2⟩ := ih (j + 1) k σ (by omega) (by omega) hx hp hg
      refine ⟨σ2, by rw [bi_f, if_pos rfl, r2], f2, fun f t ht => ?_⟩
      rw [e2 f t ht, step f t, ce, Bool.false_and, Bool.false_or]
    | true =>
      obtain ⟨σ1, r1, a1, a2, a3, a4⟩ := x4_connect hg (show i < 240 by omega) (show j < 240 by omega)
      have f1 : fl2_ 371 σ σ1 := ⟨a1, a2, a3⟩
      have hg1 : go_ σ1 370 371 := ⟨by rw [a2]; exact hg.1, hg.2⟩
      obtain ⟨σ2, r2, f2, e2⟩ := ih (j + 1) k σ1 (by omega) (by omega) (xs_fl f1 hx) (px_fl f1 hp) hg1
      refine ⟨σ2, by rw [bi_t, if_neg (by decide), lx_366_3 hx.1, r1, bd_s, r2], fl2_tr f1 f2, fun f t ht => ?_⟩
      rw [e2 f t ht, a4 f t ht, step f t, ce, Bool.true_and, Bool.or_assoc]
theorem x5_conn9 {y : js_Y} (g : gy_ y) :
    ∀ (d i k : Nat) (σ : js_S), i + d = (pp_ y).length → d < k → xs_ σ y → px_ σ y (pp_ y) → go_ σ 370 371 → ∃ σ', fX5_connectPairs_9 5000 k 366 2 (nI i) σ = some ((), σ') ∧ fl2_ 371 σ σ' ∧ ∀ f t, t < 256 → eb_ σ' 371 f t = (eb_ σ 371 f t || (decide (i ≤ f) && (decide (f < (pp_ y).length) && (decide (t < (pp_ y).length) && ee_ y f t)))) := by
  have h240 := pp_len g
  have h6 := g.2.1
  intro d
  induction d with
  | zero =>
    intro i k σ hi hk hx hp hg
    obtain ⟨k, rfl⟩ : ∃ j, k = j + 1 := ⟨k - 1, by omega⟩
    refine ⟨σ, ?_, fl2_rf, fun f t ht => ?_⟩
    · rw [sX5_connectPairs_9]
      unfold fX5_connectPairs_9b
      rw [hp.1, if_pos ((n_le (by omega) (by omega)).mpr (by omega))]
    · have : (decide (i ≤ f) && (decide (f < (pp_ y).length) && (decide (t < (pp_ y).length) && ee_ y f t))) = false := by
        by_cases c : i ≤ f
        · rw [decide_eq_false (show ¬ f < (pp_ y).length by omega), Bool.false_and, Bool.and_false]
        · rw [decide_eq_false c, Bool.false_and]
      rw [this, Bool.or_false]
  | succ d ih =>
    intro i k σ hi hk hx hp hg
    obtain ⟨k, rfl⟩ : ∃ j, k = j + 1 := ⟨k - 1, by omega⟩
    have mi := pp_mem (y := y) (j := i) (by omega)
    obtain ⟨σ1, r1, f1, e1⟩ := x5_conn30 (rc := fX5_connectPairs_9 5000 k) g (show i < (pp_ y).length by omega) (pp_ y).length 0 5000 σ (by omega) (by omega) hx hp hg
    have hg1 : go_ σ1 370 371 := ⟨by rw [f1.2.1]; exact hg.1, hg.2⟩
    obtain ⟨σ2, r2, f2, e2⟩ := ih (i + 1) k σ1 (by omega) (by omega) (xs_fl f1 hx) (px_fl f1 hp) hg1
    refine ⟨σ2, ?_, fl2_tr f1 f2, fun f t ht => ?_⟩
    · rw [sX5_connectPairs_9]
      unfold fX5_connectPairs_9b
      rw [hp.1, if_neg (fun z => by have := (n_le (by omega) (by omega)).mp z; omega), x5_rule hx.1 hp h240 (show i < (pp_ y).length by omega), bd_s, x6_right hx.1 (by omega), bd_s, show fX5_connectPairs_30 5000 (fX5_connectPairs_9 5000 k) 5000 366 2 (nI i) (12 + 4 * (pc_ (pp_ y) i).1) 0 σ = _ from r1, r2]
    · rw [e2 f t ht, e1 f t ht, Bool.or_assoc]
      congr 1
      by_cases c : f = i
      · subst c
        rw [decide_eq_true (show f = f from rfl), decide_eq_true (Nat.zero_le t), decide_eq_true (Nat.le_refl f), decide_eq_false (show ¬ f + 1 ≤ f by omega), decide_eq_true (show f < (pp_ y).length by omega), Bool.true_and, Bool.true_and, Bool.false_and, Bool.or_false]
      · have e3 : decide (i + 1 ≤ f) = decide (i ≤ f) := by
          by_cases c2 : i ≤ f
          · rw [decide_eq_true c2, decide_eq_true (by omega)]
          · rw [decide_eq_false c2, decide_eq_false (by omega)]
        rw [decide_eq_false c, Bool.false_and, Bool.false_or, e3]
/-- the table and the graph of pairs -/
theorem x5_rebuild {σ : js_S} {y : js_Y} (g : gy_ y) (hx : xs_ σ y) : ∃ σ', fX5_rebuild 5000 366 2 σ = some ((), σ') ∧ σ'.2.2 = σ.2.2 ∧ (∀ a, ¬ (366 ≤ a ∧ a ≤ 369) → σ'.1 a = σ.1 a) ∧ (∀ a, a ≠ 371 → σ'.2.1 a = σ.2.1 a) ∧ px_ σ' y (pp_ y) ∧ ∀ f t, f < 240 → t < 256 → eb_ σ' 371 f t = (decide (f < (pp_ y).length) && (decide (t < (pp_ y).length) && ee_ y f t)) := by
  have h240 := pp_len g
  obtain ⟨σ1, r1, f1, p1⟩ := x5_pairs g hx
  have hx1 := xs_fi f1 g.2.1 (fun a q => by omega) hx
  have hg1 : go_ σ1 370 371 := ⟨lx_370_0 hx1.1, ln_371⟩
  obtain ⟨σ2, r2, a1, a2, a3, a4⟩ := x4_empty hg1
  have f2 : fl2_ 371 σ1 σ2 := ⟨a1, a2, a3⟩
  have hg2 : go_ σ2 370 371 := ⟨by rw [a2]; exact hg1.1, hg1.2⟩
  obtain ⟨σ3, r3, f3, e3⟩ := x5_conn9 g (pp_ y).length 0 5000 σ2 (by omega) (by omega) (xs_fl f2 hx1) (px_fl f2 p1) hg2
  have f23 := fl2_tr f2 f3
  refine ⟨σ3, ?_, by rw [f23.2.1, fi_r f1], fun a ha => by rw [f23.1, f1.2 a ha], fun a ha => by rw [f23.2.2 a ha, f1.1], px_fl f23 p1, fun f t hf ht => ?_⟩
  · rw [r1]
    unfold fX5_connectPairs
    rw [lx_366_3 hx1.1, r2, bd_s, show fX5_connectPairs_9 5000 5000 366 2 0 σ2 = _ from r3, bd_s]
  · rw [e3 f t ht, a4 f t hf ht, Bool.false_or, decide_eq_true (Nat.zero_le f), Bool.true_and]
