/-! the class's table of pairs -/
def gp_ (y : js_Y) (p : Nat × Nat) : Nat → Nat := dg_ y.1 (rl_ y p.1).1 (rl_ y p.1).2 p.2
def px_ (σ : js_S) (y : js_Y) (P : List (Nat × Nat)) : Prop := σ.1 366 4 = nI P.length ∧ ∀ j, j < P.length → σ.1 367 j = nI (pc_ P j).1 ∧ σ.1 368 j = nI (pc_ P j).2 ∧ σ.1 369 j = gg_ (gp_ y (pc_ P j))
theorem px_fi {S : Nat → Prop} {σ σ' : js_S} {y : js_Y} {P : List (Nat × Nat)} (h : fi_ S σ σ') (hS : ∀ a, 366 ≤ a → a ≤ 369 → ¬ S a) (hp : px_ σ y P) : px_ σ' y P := ⟨by rw [h.2 366 (hS _ (by omega) (by omega))]; exact hp.1, fun j hj => by rw [h.2 367 (hS _ (by omega) (by omega)), h.2 368 (hS _ (by omega) (by omega)), h.2 369 (hS _ (by omega) (by omega))]; exact hp.2 j hj⟩
theorem x5_rb24 {y : js_Y} {r : Nat} {rc : Nat → Nat → Int32 → js_S → Option (Unit × js_S)} (g : gy_ y) (hr : r < y.2.1.length) :
    ∀ (d e k : Nat) (P : List (Nat × Nat)) (σ : js_S), e + d = (rl_ y r).2.length → d < k → P.length + d ≤ 240 → xs_ σ y → px_ σ y P → ∃ σ', fX5_rebuild_24 5000 rc k 366 2 (nI r) (12 + 4 * r) (nI e) σ = rc 366 2 (nI (r + 1)) σ' ∧ fi_ (fun a => 366 ≤ a ∧ a ≤ 369) σ σ' ∧ px_ σ' y (P ++ pr_ (rl_ y r).2 r d e) := by
  have h6 := g.2.1
  have gr := g.2.2.1 r hr
  have rr40 := gr.2.1.2
  intro d
  induction d with
  | zero =>
    intro e k P σ he hk hP hx hp
    obtain ⟨k, rfl⟩ : ∃ j, k = j + 1 := ⟨k - 1, by omega⟩
    refine ⟨σ, ?_, fi_rf, by show px_ σ y (P ++ []); rw [List.append_nil]; exact hp⟩
    rw [sX5_rebuild_24]
    unfold fX5_rebuild_24b
    rw [(hx.2.2.2 r hr).2.1, if_pos ((n_le (by omega) (by omega)).mpr (by omega)), show nI r + 1 = nI (r + 1) from n_add r 1]
  | succ d ih =>
    intro e k P σ he hk hP hx hp
    obtain ⟨k, rfl⟩ : ∃ j, k = j + 1 := ⟨k - 1, by omega⟩
    have hL := (hx.2.2.2 r hr).1
    have hR := (hx.2.2.2 r hr).2
    have tor := to_right hx.1 r (by omega)
    rw [sX5_rebuild_24, pr_s]
    unfold fX5_rebuild_24b fX5_rebuild_110
    rw [hR.1, if_neg (fun z => by have := (n_le (by omega) (by omega)).mp z; omega), x9_symbolAt tor.1 tor.2.1 hR rr40 (by omega), bd_s, x_isFun, bd_s, show nI e + 1 = nI (e + 1) from n_add e 1]
    by_cases c : isF_ (at_ (rl_ y r).2 e) = true
    · have f2 : fi_ (fun a => 366 ≤ a ∧ a ≤ 369) σ (uI_ (uI_ σ 367 P.length (nI r)) 368 P.length (nI e)) := fi_tr (fi_u (S := fun a => a = 367) rfl) (fi_u (S := fun a => a = 368) rfl) (fun a q => by omega) (fun a q => by omega)
      have hx2 := xs_fi f2 h6 (fun a q => by omega) hx
      have hL2 := (hx2.2.2.2 r hr).1
      have hR2 := (hx2.2.2.2 r hr).2
      have hsc := x5_sizeChange (e := e) hx2.1 hx2.2.1 g.1 (to_left hx2.1 r (by omega)) hL2 gr.1 (to_right hx2.1 r (by omega)) hR2 gr.2.1 (by omega) c gr.2.2.1
      have f4 : fi_ (fun a => 366 ≤ a ∧ a ≤ 369) σ (uI_ (uI_ (uI_ (uI_ σ 367 P.length (nI r)) 368 P.length (nI e)) 369 P.length (gg_ (gp_ y (r, e)))) 366 4 (nI (P.length + 1))) := fi_tr f2 (fi_tr (fi_u (S := fun a => a = 369) rfl) (fi_u (S := fun a => a = 366) rfl) (S3 := fun a => 366 ≤ a ∧ a ≤ 369) (fun a q => by omega) (fun a q => by omega)) (fun a q => q) (fun a q => q)
      have hx4 := xs_fi f4 h6 (fun a q => by omega) hx
      have hp4 : px_ (uI_ (uI_ (uI_ (uI_ σ 367 P.length (nI r)) 368 P.length (nI e)) 369 P.length (gg_ (gp_ y (r, e)))) 366 4 (nI (P.length + 1))) y (P ++ [(r, e)]) := by
        refine ⟨by rw [uI_same, List.length_append, List.length_singleton], fun j hj => ?_⟩
        rw [List.length_append, List.length_singleton] at hj
        rw [pc_push hj]
        by_cases q : j < P.length
        · rw [if_pos q]
          have := hp.2 j q
          refine ⟨?_, ?_, ?_⟩
          · rw [uI_ne (by omega), uI_ne (by omega), uI_ne (by omega), uI_ne (by omega)]; exact this.1
          · rw [uI_ne (by omega), uI_ne (by omega), uI_ne (by omega), uI_ne (by omega)]; exact this.2.1
          · rw [uI_ne (by omega), uI_ne (by omega), uI_ne (by omega), uI_ne (by omega)]; exact this.2.2
        · rw [if_neg q, show j = P.length by omega]
          refine ⟨?_, ?_, ?_⟩
          · rw [uI_ne (by omega), uI_ne (by omega), uI_ne (by omega), uI_same]
          · rw [uI_ne (by omega), uI_ne (by omega), uI_same]
          · rw [uI_ne (by omega), uI_same]
      obtain ⟨σ5, r5, f5, p5⟩ := ih (e + 1) k (P ++ [(r, e)]) _ (by omega) (by omega) (by rw [List.length_append, List.length_singleton]; omega) hx4 hp4
      rw [List.append_assoc] at p5
      rw [show (if isF_ (at_ (rl_ y r).2 e) = true then [(r, e)] else []) = [(r, e)] from if_pos c]
      refine ⟨σ5, ?_, fi_tr f4 f5 (fun a q => q) (fun a q => q), p5⟩
      have c240 : ¬ 240 ≤ nI P.length := fun z => by have := (n_le (a := 240) (by omega) (by omega)).mp z; omega
      have l1 : lx_ (uI_ σ 367 P.length (nI r)).2.2 := hx.1
      have e1 : (uI_ σ 367 P.length (nI r)).1 366 4 = nI P.length := by rw [uI_ne (by omega)]; exact hp.1
      have e2 : (uI_ (uI_ σ 367 P.length (nI r)) 368 P.length (nI e)).1 366 4 = nI P.length := by rw [uI_ne (by omega)]; exact e1
      have e3 : (uI_ (uI_ (uI_ σ 367 P.length (nI r)) 368 P.length (nI e)) 369 P.length (gg_ (gp_ y (r, e)))).1 366 4 = nI P.length := by rw [uI_ne (by omega)]; exact e2
      rw [c, bi_t, if_neg (by decide), hp.1, if_neg c240, lx_366_0 hx.1, ln_367, n_ib (by omega), if_pos (by simp; omega), n_cl (by omega), lt_s_, e1, lx_366_1 l1, ln_368, n_ib (by omega), if_pos (by simp; omega), n_cl (by omega), lt_s_, x6_left hx2.1 (by omega), bd_s, lx_2_0 hx2.1, hsc, bd_s, e2, lx_366_2 hx2.1, ln_369, n_ib (by omega), if_pos (by simp; omega), n_cl (by omega), lt_s_]
      show lt_ (uI_ (uI_ (uI_ (uI_ σ 367 P.length (nI r)) 368 P.length (nI e)) 369 P.length (gg_ (gp_ y (r, e)))) 366 4 ((uI_ (uI_ (uI_ σ 367 P.length (nI r)) 368 P.length (nI e)) 369 P.length (gg_ (gp_ y (r, e)))).1 366 4 + 1)) _ = _
      rw [e3, show nI P.length + 1 = nI (P.length + 1) from n_add P.length 1, lt_s_]
      exact r5
    · obtain ⟨σ2, r2, f2, p2⟩ := ih (e + 1) k P σ (by omega) (by omega) (by omega) hx hp
      rw [show (if isF_ (at_ (rl_ y r).2 e) = true then [(r, e)] else []) = [] from if_neg c, List.nil_append]
      refine ⟨σ2, ?_, f2, p2⟩
      rw [show isF_ (at_ (rl_ y r).2 e) = false by simpa using c, bi_f, if_pos rfl, r2]
theorem x5_rb7 {y : js_Y} (g : gy_ y) :
    ∀ (d r k : Nat) (P : List (Nat × Nat)) (σ : js_S), r + d = y.2.1.length → d < k → P.length + 40 * d ≤ 240 → xs_ σ y → px_ σ y P → ∃ σ', fX5_rebuild_7 5000 k 366 2 (nI r) σ = (bd_ (fX5_connectPairs 5000 366 2 σ') fun _ σ2 => some ((), σ2)) ∧ fi_ (fun a => 366 ≤ a ∧ a ≤ 369) σ σ' ∧ px_ σ' y (P ++ pl_ y d r) := by
  have h6 := g.2.1
  intro d
  induction d with
  | zero =>
    intro r k P σ he hk hP hx hp
    obtain ⟨k, rfl⟩ : ∃ j, k = j + 1 := ⟨k - 1, by omega⟩
    refine ⟨σ, ?_, fi_rf, by show px_ σ y (P ++ []); rw [List.append_nil]; exact hp⟩
    rw [sX5_rebuild_7]
    unfold fX5_rebuild_7b
    rw [hx.2.2.1, if_pos ((n_le (by omega) (by omega)).mpr (by omega))]
  | succ d ih =>
    intro r k P σ he hk hP hx hp
    obtain ⟨k, rfl⟩ : ∃ j, k = j + 1 := ⟨k - 1, by omega⟩
    have rr40 := (g.2.2.1 r (by omega)).2.1.2
    have l1 := pr_len (t := (rl_ y r).2) (r := r) (d := (rl_ y r).2.length) (e := 0)
    obtain ⟨σ1, r1, f1, p1⟩ := x5_rb24 (rc := fX5_rebuild_7 5000 k) g (show r < y.2.1.length by omega) (rl_ y r).2.length 0 5000 P σ (by omega) (by omega) (by omega) hx hp
    have hx1 := xs_fi f1 h6 (fun a q => by omega) hx
    obtain ⟨σ2, r2, f2, p2⟩ := ih (r + 1) k (P ++ pr_ (rl_ y r).2 r (rl_ y r).2.length 0) σ1 (by omega) (by omega) (by rw [List.length_append]; omega) hx1 p1
    rw [List.append_assoc] at p2
    refine ⟨σ2, ?_, fi_tr f1 f2 (fun a q => q) (fun a q => q), p2⟩
    rw [sX5_rebuild_7]
    unfold fX5_rebuild_7b
    rw [hx.2.2.1, if_neg (fun z => by have := (n_le (by omega) (by omega)).mp z; omega), x6_right hx.1 (by omega), bd_s, show fX5_rebuild_24 5000 (fX5_rebuild_7 5000 k) 5000 366 2 (nI r) (12 + 4 * r) 0 σ = _ from r1, r2]
theorem x5_pairs {σ : js_S} {y : js_Y} (g : gy_ y) (hx : xs_ σ y) : ∃ σ', fX5_rebuild 5000 366 2 σ = (bd_ (fX5_connectPairs 5000 366 2 σ') fun _ σ2 => some ((), σ2)) ∧ fi_ (fun a => 366 ≤ a ∧ a ≤ 369) σ σ' ∧ px_ σ' y (pp_ y) := by
  have h6 := g.2.1
  have f0 : fi_ (fun a => 366 ≤ a ∧ a ≤ 369) σ (uI_ σ 366 4 0) := fi_u (by omega)
  obtain ⟨σ1, r1, f1, p1⟩ := x5_rb7 g y.2.1.length 0 5000 [] (uI_ σ 366 4 0) (by omega) (by omega) (by simp; omega) (xs_fi f0 h6 (fun a q => by omega) hx) ⟨uI_same, fun j hj => by simp at hj⟩
  rw [List.nil_append] at p1
  exact ⟨σ1, r1, fi_tr f0 f1 (fun a q => q) (fun a q => q), p1⟩
