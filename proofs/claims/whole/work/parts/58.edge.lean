/-! edges on both sides -/
theorem ld_args {a : Nat → Nat} {R L : List Int32} {d t s n : Nat} (hR : ok_ a (R.drop t) 1) (hL : ok_ a (L.drop s) 1) (hsa : sa_ a (at_ R t) = sa_ a (at_ L s)) (hd : L.length < s + (d + 1)) (hn : L.length < s + n) : ∀ (r j : Nat), j + r = sa_ a (at_ R t) → ld_ a R L n (ag_ a R t j) (ag_ a L s j) = (ca_ a R L (cm_ a R L d) t s r j && ld_ a R L n (ep_ a R t) (ep_ a L s)) := by
  have hs := ok_ne hL (by omega)
  have ht := ok_ne hR (by omega)
  intro r
  induction r with
  | zero =>
    intro j hj
    have e1 : ag_ a R t j = ep_ a R t := by rw [show j = sa_ a (at_ R t) by omega]; exact ag_end ht
    have e2 : ag_ a L s j = ep_ a L s := by rw [show j = sa_ a (at_ L s) by omega]; exact ag_end hs
    rw [e1, e2]
    show _ = (true && _)
    rw [Bool.true_and]
  | succ r ih =>
    intro j hj
    have h1 := ag_lt hR (k := j) (by omega)
    have h2 := ag_lt hL (k := j) (by omega)
    have h3 := (ag_ok hL (k := j) (by omega)).2.1
    rw [ld_cm (d := d) h1.2 h2.2 (by omega) (by omega)]
    show (cm_ a R L d (ag_ a R t j) (ag_ a L s j) && ld_ a R L n (ag_ a R t (j + 1)) (ag_ a L s (j + 1))) = _
    rw [ih (j + 1) (by omega), ← Bool.and_assoc]
    rfl
theorem fn_inj {s t : Int32} (h1 : isF_ s = true) (h2 : isF_ t = true) (h : fn_ s = fn_ t) : s = t := by
  rcases isF_cases h1 with rfl | rfl | rfl <;> rcases isF_cases h2 with rfl | rfl | rfl <;> first | rfl | exact absurd h (by decide)
theorem ep_all {a : Nat → Nat} {t : List Int32} (h : wt_ a t 1) : ep_ a t 0 = t.length := by
  unfold ep_
  rw [List.drop_zero, sk_wt h]
  omega
theorem eg_cm {a : Nat → Nat} {R L : List Int32} {e d : Nat} (gR : gt_ a R) (gL : gt_ a L) (he : e < R.length) (hF : isF_ (at_ R e) = true) (hF0 : isF_ (at_ L 0) = true) (hd : L.length < d + 1) : eg_ a R L e = (decide (fn_ (at_ R e) = fn_ (at_ L 0)) && ca_ a R L (cm_ a R L d) e 0 (sa_ a (at_ R e)) 0) := by
  have okR := wt_tail gR.1 he
  have okL : ok_ a (L.drop 0) 1 := ok_wt gL.1
  unfold eg_
  by_cases c : at_ R e = at_ L 0
  · rw [decide_eq_true c, decide_eq_true (show fn_ (at_ R e) = fn_ (at_ L 0) by rw [c]), Bool.true_and, Bool.true_and]
    have key := ld_args (d := d) (n := L.length + 1) okR okL (by rw [c]) (by omega) (by omega) (sa_ a (at_ R e)) 0 (by omega)
    have e1 : ld_ a R L (L.length + 1) (ep_ a R e) (ep_ a L 0) = true := by
      rw [ld_s, if_pos (by rw [ep_all gL.1]; omega)]
    rw [e1, Bool.and_true] at key
    exact key
  · rw [decide_eq_false c, decide_eq_false (fun z => c (fn_inj hF hF0 z))]
    rfl
theorem m_source {σ : js_S} {y : js_Y} {P : List (Nat × Nat)} {j : Nat} (hm : ms_ σ y) (hp : mr_ σ P) (hj : j < P.length) (h240 : P.length ≤ 240) : fX12_source 5000 390 (nI j) σ = some (nI (192 * (pc_ P j).1 + 1), σ) := by
  unfold fX12_source fX12_left
  rw [lm_17 hm.1, ln_403, n_ib (by omega), if_pos (by simp; omega), n_cl (by omega), (hp j hj).1, n_left, bd_s, show nI (192 * (pc_ P j).1) + 1 = nI (192 * (pc_ P j).1 + 1) from n_add _ 1]
theorem m_target {σ : js_S} {y : js_Y} {P : List (Nat × Nat)} {j : Nat} (hm : ms_ σ y) (hp : mr_ σ P) (hj : j < P.length) (h240 : P.length ≤ 240) : fX12_target 5000 390 (nI j) σ = some (nI (192 * (pc_ P j).1 + 96 + 1 + (pc_ P j).2), σ) := by
  unfold fX12_target fX12_right
  rw [lm_17 hm.1, ln_403, n_ib (by omega), if_pos (by simp; omega), n_cl (by omega), (hp j hj).1, n_right, bd_s, lm_18 hm.1, ln_404, n_ib (by omega), if_pos (by simp; omega), (hp j hj).2, show nI (192 * (pc_ P j).1 + 96) + 1 = nI (192 * (pc_ P j).1 + 96 + 1) from n_add _ 1, n_add]
theorem m_sourceOf {σ : js_S} {y : js_Y} {j : Nat} (g : gy_ y) (hm : ms_ σ y) (hp : mr_ σ (pp_ y)) (hj : j < (pp_ y).length) : fX12_sourceOf 5000 390 (nI j) σ = some (nI (fn_ (at_ (rl_ y (pc_ (pp_ y) j).1).1 0)), σ) := by
  have h6 := g.2.1
  have hmem := pp_mem hj
  have gr := g.2.2.1 _ hmem.1
  have l0 := gt_pos gr.1
  have hv := (hm.2.2.2 _ hmem.1).1.2 0 l0
  rw [Nat.add_zero] at hv
  unfold fX12_sourceOf
  rw [m_source hm hp hj (pp_len g), bd_s, lm_2 hm.1, ln_393, n_ib (by omega), if_pos (decide_eq_true (by omega)), n_cl (by omega), hv, fn_nI gr.2.2.1]
theorem m_targetOf {σ : js_S} {y : js_Y} {j : Nat} (g : gy_ y) (hm : ms_ σ y) (hp : mr_ σ (pp_ y)) (hj : j < (pp_ y).length) : fX12_targetOf 5000 390 (nI j) σ = some (nI (fn_ (at_ (rl_ y (pc_ (pp_ y) j).1).2 (pc_ (pp_ y) j).2)), σ) := by
  have h6 := g.2.1
  have hmem := pp_mem hj
  have gr := g.2.2.1 _ hmem.1
  have r40 := gr.2.1.2
  have hv := (hm.2.2.2 _ hmem.1).2.2 _ hmem.2.1
  unfold fX12_targetOf
  rw [m_target hm hp hj (pp_len g), bd_s, lm_2 hm.1, ln_393, n_ib (by omega), if_pos (decide_eq_true (by omega)), n_cl (by omega), hv, fn_nI hmem.2.2]
/-- the edge between two pairs -/
def ee_ (y : js_Y) (i j : Nat) : Bool := eg_ y.1 (rl_ y (pc_ (pp_ y) i).1).2 (rl_ y (pc_ (pp_ y) j).1).1 (pc_ (pp_ y) i).2
theorem m_isEdge {σ : js_S} {y : js_Y} {i j : Nat} (g : gy_ y) (hm : ms_ σ y) (hp : mr_ σ (pp_ y)) (hi : i < (pp_ y).length) (hj : j < (pp_ y).length) : fX12_isEdge 5000 390 (nI i) (nI j) σ = some (bi_ (ee_ y i j), σ) := by
  have h6 := g.2.1
  have mi := pp_mem hi
  have mj := pp_mem hj
  have gri := g.2.2.1 _ mi.1
  have grj := g.2.2.1 _ mj.1
  have r40 := gri.2.1.2
  have l40 := grj.1.2
  have okR := wt_tail gri.2.1.1 mi.2.1
  have okL : ok_ y.1 ((rl_ y (pc_ (pp_ y) j).1).1.drop 0) 1 := ok_wt grj.1.1
  have hfi := fn_lt (at_ (rl_ y (pc_ (pp_ y) i).1).2 (pc_ (pp_ y) i).2)
  have hfj := fn_lt (at_ (rl_ y (pc_ (pp_ y) j).1).1 0)
  unfold fX12_isEdge ee_
  rw [m_targetOf g hm hp hi, bd_s, m_sourceOf g hm hp hj, bd_s, eg_cm (d := 60) gri.2.1 grj.1 mi.2.1 mi.2.2 grj.2.2.1 (by omega)]
  by_cases c : fn_ (at_ (rl_ y (pc_ (pp_ y) i).1).2 (pc_ (pp_ y) i).2) = fn_ (at_ (rl_ y (pc_ (pp_ y) j).1).1 0)
  · have hs := fn_inj mi.2.2 grj.2.2.1 c
    have vR := (hm.2.2.2 _ mi.1).2.2
    have vL := (hm.2.2.2 _ mj.1).1.2
    have hsa := sa_le g.1 (at_ (rl_ y (pc_ (pp_ y) i).1).2 (pc_ (pp_ y) i).2)
    have hargs := m_cargs (d := 60) hm.1 hm.2.1 g.1 vR r40 (by omega) vL l40 (by omega) (m_compat hm.1 hm.2.1 g.1 vR r40 (by omega) vL l40 (by omega) 60) okR okL (by rw [hs]) (by omega) (sa_ y.1 (at_ (rl_ y (pc_ (pp_ y) i).1).2 (pc_ (pp_ y) i).2)) 0 5000 true (by omega) (by omega)
    rw [if_pos (by rw [c]), m_target hm hp hi (pp_len g), bd_s, m_source hm hp hj (pp_len g), bd_s, decide_eq_true c, Bool.true_and]
    unfold fX12_areArgumentsCompatible fX12_areArgumentsCompatible_e
    rw [Nat.add_zero] at hargs
    rw [show fX12_areArgumentsCompatible_5 5000 (fX12_isCompatible 5000 60) 5000 390 (nI (192 * (pc_ (pp_ y) i).1 + 96 + 1 + (pc_ (pp_ y) i).2)) (nI (192 * (pc_ (pp_ y) j).1 + 1)) 1 0 σ = _ from hargs, bd_s, Bool.true_and, bi_ite]
  · rw [if_neg (fun z => c ((n_eq (by omega) (by omega)).mp z)), decide_eq_false c]
    rfl
