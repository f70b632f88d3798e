/-! the class connects its pairs -/
theorem x5_rule {σ : js_S} {y : js_Y} {P : List (Nat × Nat)} {j : Nat} (hl : lx_ σ.2.2) (hp : px_ σ y P) (h240 : P.length ≤ 240) (hj : j < P.length) : fX5_rule 5000 366 (nI j) σ = some (nI (pc_ P j).1, σ) := by
  unfold fX5_rule
  rw [if_neg (nI_pos (by omega)), lx_366_0 hl, ln_367, n_of, if_neg (fun z => by have := (n_le (by omega) (by omega)).mp z; omega), n_ib (by omega), if_pos (decide_eq_true (by omega)), n_cl (by omega), (hp.2 j hj).1]
theorem x5_position {σ : js_S} {y : js_Y} {P : List (Nat × Nat)} {j : Nat} (hl : lx_ σ.2.2) (hp : px_ σ y P) (h240 : P.length ≤ 240) (hj : j < P.length) : fX5_position 5000 366 (nI j) σ = some (nI (pc_ P j).2, σ) := by
  unfold fX5_position
  rw [if_neg (nI_pos (by omega)), lx_366_1 hl, ln_368, n_of, if_neg (fun z => by have := (n_le (by omega) (by omega)).mp z; omega), n_ib (by omega), if_pos (decide_eq_true (by omega)), n_cl (by omega), (hp.2 j hj).2.1]
theorem x5_graph {σ : js_S} {y : js_Y} {P : List (Nat × Nat)} {j : Nat} (hl : lx_ σ.2.2) (hp : px_ σ y P) (h240 : P.length ≤ 240) (hj : j < P.length) : fX5_graph 5000 366 (nI j) σ = some (gg_ (gp_ y (pc_ P j)), σ) := by
  unfold fX5_graph
  rw [if_neg (nI_pos (by omega)), lx_366_2 hl, ln_369, n_of, if_neg (fun z => by have := (n_le (by omega) (by omega)).mp z; omega), n_ib (by omega), if_pos (decide_eq_true (by omega)), n_cl (by omega), (hp.2 j hj).2.2]
/-- only the longs of one object change -/
def fl2_ (o : Nat) (σ σ' : js_S) : Prop := σ'.1 = σ.1 ∧ σ'.2.2 = σ.2.2 ∧ ∀ a, a ≠ o → σ'.2.1 a = σ.2.1 a
theorem fl2_rf {o : Nat} {σ : js_S} : fl2_ o σ σ := ⟨rfl, rfl, fun _ _ => rfl⟩
theorem fl2_tr {o : Nat} {σ σ1 σ2 : js_S} (h1 : fl2_ o σ σ1) (h2 : fl2_ o σ1 σ2) : fl2_ o σ σ2 := ⟨h2.1.trans h1.1, h2.2.1.trans h1.2.1, fun a q => (h2.2.2 a q).trans (h1.2.2 a q)⟩
theorem tm_i {σ σ' : js_S} {o : Nat} {t : List Int32} (h : σ'.1 = σ.1) (ht : tm_ σ o t) : tm_ σ' o t := tm_eq (by rw [h]) (by rw [h]) ht
theorem xs_fl {o : Nat} {σ σ' : js_S} {y : js_Y} (h : fl2_ o σ σ') (hx : xs_ σ y) : xs_ σ' y := by
  obtain ⟨h1, h2, h3, h4⟩ := hx
  refine ⟨by rw [h.2.1]; exact h1, ?_, by rw [h.1]; exact h3, fun i hi => ⟨tm_i h.1 (h4 i hi).1, tm_i h.1 (h4 i hi).2⟩⟩
  unfold sg_
  rw [h.1]
  exact h2
theorem px_fl {o : Nat} {σ σ' : js_S} {y : js_Y} {P : List (Nat × Nat)} (h : fl2_ o σ σ') (hp : px_ σ y P) : px_ σ' y P := by
  unfold px_
  rw [h.1]
  exact hp
theorem x5_edge {σ : js_S} {y : js_Y} {i j : Nat} (g : gy_ y) (hx : xs_ σ y) (hi : i < (pp_ y).length) (hj : j < (pp_ y).length) : fX5_leadsTo 5000 3 (12 + 4 * (pc_ (pp_ y) i).1) (nI (pc_ (pp_ y) i).2) (10 + 4 * (pc_ (pp_ y) j).1) σ = some (bi_ (ee_ y i j), σ) := by
  have h6 := g.2.1
  have mi := pp_mem hi
  have mj := pp_mem hj
  have gri := g.2.2.1 _ mi.1
  have grj := g.2.2.1 _ mj.1
  exact x5_leadsTo hx.1 hx.2.1 g.1 (to_left hx.1 _ (by omega)) (hx.2.2.2 _ mj.1).1 grj.1 (to_right hx.1 _ (by omega)) (hx.2.2.2 _ mi.1).2 gri.2.1.2 mi.2.1
