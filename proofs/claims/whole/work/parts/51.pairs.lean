/-! the dependency pairs: rule and position -/
def pr_ (t : List Int32) (r : Nat) : Nat → Nat → List (Nat × Nat)
  | 0, _ => []
  | d + 1, e => (if isF_ (at_ t e) = true then [(r, e)] else []) ++ pr_ t r d (e + 1)
theorem pr_s {t : List Int32} {r d e : Nat} : pr_ t r (d + 1) e = (if isF_ (at_ t e) = true then [(r, e)] else []) ++ pr_ t r d (e + 1) := rfl
def pl_ (y : js_Y) : Nat → Nat → List (Nat × Nat)
  | 0, _ => []
  | d + 1, r => pr_ (rl_ y r).2 r (rl_ y r).2.length 0 ++ pl_ y d (r + 1)
theorem pl_s {y : js_Y} {d r : Nat} : pl_ y (d + 1) r = pr_ (rl_ y r).2 r (rl_ y r).2.length 0 ++ pl_ y d (r + 1) := rfl
/-- all pairs -/
def pp_ (y : js_Y) : List (Nat × Nat) := pl_ y y.2.1.length 0
abbrev pc_ (P : List (Nat × Nat)) (j : Nat) : Nat × Nat := P.getD j (0, 0)
theorem pr_len {t : List Int32} {r : Nat} : ∀ {d e : Nat}, (pr_ t r d e).length ≤ d
  | 0, e => Nat.le_refl _
  | d + 1, e => by
    have := pr_len (t := t) (r := r) (d := d) (e := e + 1)
    rw [pr_s, List.length_append]
    split
    · rw [List.length_singleton]; omega
    · rw [List.length_nil]; omega
theorem pl_len {y : js_Y} (g : gy_ y) : ∀ {d r : Nat}, r + d ≤ y.2.1.length → (pl_ y d r).length ≤ 40 * d
  | 0, r, _ => Nat.le_refl _
  | d + 1, r, h => by
    have h1 := pl_len g (d := d) (r := r + 1) (by omega)
    have h2 := pr_len (t := (rl_ y r).2) (r := r) (d := (rl_ y r).2.length) (e := 0)
    have h3 := (g.2.2.1 r (by omega)).2.1.2
    rw [pl_s, List.length_append]
    omega
theorem pp_len {y : js_Y} (g : gy_ y) : (pp_ y).length ≤ 240 := by
  have h := pl_len g (d := y.2.1.length) (r := 0) (by omega)
  have := g.2.1
  unfold pp_
  omega
theorem pr_mem {t : List Int32} {r : Nat} : ∀ {d e : Nat} {p : Nat × Nat}, p ∈ pr_ t r d e → p.1 = r ∧ e ≤ p.2 ∧ p.2 < e + d ∧ isF_ (at_ t p.2) = true
  | 0, e, p, h => by cases h
  | d + 1, e, p, h => by
    rw [pr_s] at h
    rcases List.mem_append.mp h with w | w
    · by_cases c : isF_ (at_ t e) = true
      · rw [if_pos c] at w
        rw [List.mem_singleton.mp w]
        exact ⟨rfl, Nat.le_refl _, by show e < e + (d + 1); omega, c⟩
      · rw [if_neg c] at w
        cases w
    · have := pr_mem w
      exact ⟨this.1, by omega, by omega, this.2.2.2⟩
theorem pl_mem {y : js_Y} : ∀ {d r : Nat} {p : Nat × Nat}, p ∈ pl_ y d r → r ≤ p.1 ∧ p.1 < r + d ∧ p.2 < (rl_ y p.1).2.length ∧ isF_ (at_ (rl_ y p.1).2 p.2) = true
  | 0, r, p, h => by cases h
  | d + 1, r, p, h => by
    rw [pl_s] at h
    rcases List.mem_append.mp h with w | w
    · have := pr_mem w
      rw [this.1]
      exact ⟨Nat.le_refl _, by omega, by omega, this.2.2.2⟩
    · have := pl_mem w
      exact ⟨by omega, by omega, this.2.2⟩
theorem pc_mem {P : List (Nat × Nat)} {j : Nat} (h : j < P.length) : pc_ P j ∈ P := by
  unfold pc_
  rw [List.getD_eq_getElem?_getD, List.getElem?_eq_getElem h]
  exact List.getElem_mem h
theorem pp_mem {y : js_Y} {j : Nat} (h : j < (pp_ y).length) : (pc_ (pp_ y) j).1 < y.2.1.length ∧ (pc_ (pp_ y) j).2 < (rl_ y (pc_ (pp_ y) j).1).2.length ∧ isF_ (at_ (rl_ y (pc_ (pp_ y) j).1).2 (pc_ (pp_ y) j).2) = true := by
  have := pl_mem (pc_mem h)
  have h2 : (pc_ (pp_ y) j).1 < 0 + y.2.1.length := this.2.1
  exact ⟨by omega, this.2.2⟩
theorem pc_push {P : List (Nat × Nat)} {x : Nat × Nat} {j : Nat} (h : j < P.length + 1) : pc_ (P ++ [x]) j = if j < P.length then pc_ P j else x := by
  unfold pc_
  rw [List.getD_eq_getElem?_getD, List.getD_eq_getElem?_getD]
  by_cases q : j < P.length
  · rw [if_pos q, List.getElem?_append_left q]
  · rw [if_neg q, List.getElem?_append_right (by omega), show j - P.length = 0 by omega]
    rfl
/-- the model's rows of pairs -/
def mr_ (σ : js_S) (P : List (Nat × Nat)) : Prop := ∀ j, j < P.length → σ.1 403 j = nI (pc_ P j).1 ∧ σ.1 404 j = nI (pc_ P j).2
theorem m_fp14 {y : js_Y} {r : Nat} {rc : Nat → Int32 → Int32 → js_S → Option (Int32 × js_S)} (g : gy_ y) (hr : r < y.2.1.length) :
    ∀ (d e k : Nat) (P : List (Nat × Nat)) (σ : js_S), e + d = (rl_ y r).2.length → d < k → P.length + d ≤ 240 → ms_ σ y → mr_ σ P → ∃ σ', fX12_findPairs_14 5000 rc k 390 (nI P.length) (nI r) (nI e) σ = rc 390 (nI (P ++ pr_ (rl_ y r).2 r d e).length) (nI (r + 1)) σ' ∧ fi_ (fun a => a = 403 ∨ a = 404) σ σ' ∧ mr_ σ' (P ++ pr_ (rl_ y r).2 r d e) := by
  have h6 := g.2.1
  have rr40 := (g.2.2.1 r hr).2.1.2
  intro d
  induction d with
  | zero =>
    intro e k P σ he hk hP hm hp
    obtain ⟨k, rfl⟩ : ∃ j, k = j + 1 := ⟨k - 1, by omega⟩
    have hrow := (hm.2.2.2 r hr).2
    refine ⟨σ, ?_, fi_rf, by show mr_ σ (P ++ []); rw [List.append_nil]; exact hp⟩
    rw [sX12_findPairs_14]
    unfold fX12_findPairs_14b fX12_right
    rw [n_right, bd_s, lm_2 hm.1, ln_393, n_ib (by omega), if_pos (by simp; omega), n_cl (by omega), hrow.1, if_pos ((n_le (by omega) (by omega)).mpr (by omega)), show nI r + 1 = nI (r + 1) from n_add r 1]
    show _ = rc 390 (nI (P ++ []).length) (nI (r + 1)) σ
    rw [List.append_nil]
  | succ d ih =>
    intro e k P σ he hk hP hm hp
    obtain ⟨k, rfl⟩ : ∃ j, k = j + 1 := ⟨k - 1, by omega⟩
    have hrow := (hm.2.2.2 r hr).2
    have hs := hrow.2 e (by omega)
    rw [sX12_findPairs_14, pr_s]
    unfold fX12_findPairs_14b fX12_right fX12_findPairs_63
    rw [n_right, bd_s, lm_2 hm.1, ln_393, n_ib (by omega), if_pos (by simp; omega), n_cl (by omega), hrow.1, if_neg (fun z => by have := (n_le (by omega) (by omega)).mp z; omega), bd_s, show nI (192 * r + 96) + 1 + nI e = nI (192 * r + 96 + 1 + e) by rw [show nI (192 * r + 96) + 1 = nI (192 * r + 96 + 1) from n_add _ 1, n_add], n_ib (by omega), if_pos (by simp; omega), n_cl (by omega), hs, m_isFunction, bd_s, show nI e + 1 = nI (e + 1) from n_add e 1]
    by_cases c : isF_ (at_ (rl_ y r).2 e) = true
    · have f1 : fi_ (fun a => a = 403 ∨ a = 404) σ (uI_ (uI_ σ 403 P.length (nI r)) 404 P.length (nI e)) := fi_tr (fi_u (S := fun a => a = 403) rfl) (fi_u (S := fun a => a = 404) rfl) (fun a q => by omega) (fun a q => by omega)
      have hm1 := ms_fi f1 (fun a q => by omega) hm
      have l1 : lm_ (uI_ σ 403 P.length (nI r)).2.2 := hm.1
      have hp1 : mr_ (uI_ (uI_ σ 403 P.length (nI r)) 404 P.length (nI e)) (P ++ [(r, e)]) := by
        intro j hj
        rw [List.length_append, List.length_singleton] at hj
        rw [pc_push hj]
        by_cases q : j < P.length
        · rw [if_pos q, uI_ne (by omega), uI_ne (by omega), uI_ne (by omega), uI_ne (by omega)]
          exact hp j q
        · rw [if_neg q, show j = P.length by omega, uI_ne (by omega), uI_same, uI_same]
          exact ⟨rfl, rfl⟩
      obtain ⟨σ2, r2, f2, p2⟩ := ih (e + 1) k (P ++ [(r, e)]) _ (by omega) (by omega) (by rw [List.length_append, List.length_singleton]; omega) hm1 hp1
      rw [List.append_assoc] at r2 p2
      rw [show (if isF_ (at_ (rl_ y r).2 e) = true then [(r, e)] else []) = [(r, e)] from if_pos c]
      refine ⟨σ2, ?_, fi_tr f1 f2 (fun a q => q) (fun a q => q), p2⟩
      rw [List.length_append, List.length_singleton] at r2
      rw [if_pos c, if_neg (by decide), lm_17 hm.1, ln_403, n_ib (by omega), if_pos (by simp; omega), n_cl (by omega), lt_s_, lm_18 l1, ln_404, n_ib (by omega), if_pos (by simp; omega), lt_s_, show nI P.length + 1 = nI (P.length + 1) from n_add P.length 1, r2]
    · obtain ⟨σ2, r2, f2, p2⟩ := ih (e + 1) k P σ (by omega) (by omega) (by omega) hm hp
      rw [show (if isF_ (at_ (rl_ y r).2 e) = true then [(r, e)] else []) = [] from if_neg c, List.nil_append]
      refine ⟨σ2, ?_, f2, p2⟩
      rw [if_neg c, if_pos rfl, r2]
theorem m_fp4 {y : js_Y} (g : gy_ y) :
    ∀ (d r k : Nat) (P : List (Nat × Nat)) (σ : js_S), r + d = y.2.1.length → d < k → P.length + 40 * d ≤ 240 → ms_ σ y → mr_ σ P → ∃ σ', fX12_findPairs_4 5000 k 390 (nI P.length) (nI r) σ = some (nI (P ++ pl_ y d r).length, σ') ∧ fi_ (fun a => a = 403 ∨ a = 404) σ σ' ∧ mr_ σ' (P ++ pl_ y d r) := by
  have h6 := g.2.1
  intro d
  induction d with
  | zero =>
    intro r k P σ he hk hP hm hp
    obtain ⟨k, rfl⟩ : ∃ j, k = j + 1 := ⟨k - 1, by omega⟩
    refine ⟨σ, ?_, fi_rf, by show mr_ σ (P ++ []); rw [List.append_nil]; exact hp⟩
    rw [sX12_findPairs_4]
    unfold fX12_findPairs_4b
    rw [hm.2.2.1, if_pos ((n_le (by omega) (by omega)).mpr (by omega))]
    show _ = some (nI (P ++ []).length, σ)
    rw [List.append_nil]
  | succ d ih =>
    intro r k P σ he hk hP hm hp
    obtain ⟨k, rfl⟩ : ∃ j, k = j + 1 := ⟨k - 1, by omega⟩
    have rr40 := (g.2.2.1 r (by omega)).2.1.2
    have l1 := pr_len (t := (rl_ y r).2) (r := r) (d := (rl_ y r).2.length) (e := 0)
    obtain ⟨σ1, r1, f1, p1⟩ := m_fp14 (rc := fX12_findPairs_4 5000 k) g (show r < y.2.1.length by omega) (rl_ y r).2.length 0 5000 P σ (by omega) (by omega) (by omega) hm hp
    have hm1 := ms_fi f1 (fun a q => by omega) hm
    obtain ⟨σ2, r2, f2, p2⟩ := ih (r + 1) k (P ++ pr_ (rl_ y r).2 r (rl_ y r).2.length 0) σ1 (by omega) (by omega) (by rw [List.length_append]; omega) hm1 p1
    rw [List.append_assoc] at r2 p2
    refine ⟨σ2, ?_, fi_tr f1 f2 (fun a q => q) (fun a q => q), p2⟩
    rw [sX12_findPairs_4, pl_s]
    unfold fX12_findPairs_4b
    rw [hm.2.2.1, if_neg (fun z => by have := (n_le (by omega) (by omega)).mp z; omega), show fX12_findPairs_14 5000 (fX12_findPairs_4 5000 k) 5000 390 (nI P.length) (nI r) 0 σ = _ from r1, r2]
theorem m_findPairs {σ : js_S} {y : js_Y} (g : gy_ y) (hm : ms_ σ y) : ∃ σ', fX12_findPairs 5000 390 σ = some (nI (pp_ y).length, σ') ∧ fi_ (fun a => a = 403 ∨ a = 404) σ σ' ∧ mr_ σ' (pp_ y) := by
  have h6 := g.2.1
  have := m_fp4 g y.2.1.length 0 5000 [] σ (by omega) (by omega) (by simp; omega) hm (fun j hj => by simp at hj)
  rw [List.nil_append] at this
  exact this
theorem m_isPair {σ : js_S} {y : js_Y} (g : gy_ y) (hm : ms_ σ y) (x : Int32) : ∃ σ', fX12_isPair 5000 390 x σ = some (bi_ (decide (∃ j, j < (pp_ y).length ∧ x = nI j)), σ') ∧ fi_ (fun a => a = 403 ∨ a = 404) σ σ' ∧ mr_ σ' (pp_ y) := by
  obtain ⟨σ1, r1, f1, p1⟩ := m_findPairs g hm
  have h240 := pp_len g
  refine ⟨σ1, ?_, f1, p1⟩
  unfold fX12_isPair
  rw [r1, bd_s, m_isIn, bd_s, m_nzi, if_pos rfl]
  rcases n_cases x with q | ⟨k, hk, rfl⟩
  · rw [if_pos q, decide_eq_false (fun ⟨j, hj, e⟩ => n_negc q ⟨j, by omega, e⟩)]
    rfl
  · have c1 : ¬ nI k < 0 := nI_pos hk
    rw [if_neg c1]
    by_cases c : k < (pp_ y).length
    · have c2 : ¬ nI (pp_ y).length - 1 < nI k := by
        rw [n_pred (by omega)]
        exact fun w => by have := (n_lt (by omega) (by omega)).mp w; omega
      rw [if_neg c2, decide_eq_true ⟨k, c, rfl⟩]
      rfl
    · have c2 : nI (pp_ y).length - 1 < nI k := by
        rcases Nat.eq_zero_or_pos (pp_ y).length with z | z
        · rw [z]
          exact n_neg (a := k) (by decide) hk
        · rw [n_pred z]
          exact (n_lt (by omega) (by omega)).mpr (by omega)
      rw [if_pos c2, decide_eq_false (fun ⟨j, hj, e⟩ => c (by have := (n_eq (by omega) (by omega)).mp e; omega))]
      rfl
