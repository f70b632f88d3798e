/-! the model's closure -/
def gm_ (σ : js_S) (G : List Nat) : Prop := σ.1 390 29 = nI G.length ∧ (∀ j, j < G.length → σ.1 409 j = nI (mc2_ (G.getD j 0))) ∧ (∀ x, x ∈ G → σ.1 412 (mc2_ x) = 1) ∧ (∀ c, (∀ x, x ∈ G → mc2_ x ≠ c) → σ.1 412 c = 0) ∧ G.length ≤ 401 ∧ G.Nodup ∧ ∀ x, x ∈ G → gc_ x
def sJ_ (a b : Nat) : Prop := a = 412 ∨ a = 409 ∨ a = 410 ∨ a = 411 ∨ a = 413 ∨ (a = 390 ∧ b = 29)
abbrev fJ_ (σ σ' : js_S) : Prop := fw2_ sJ_ (fun _ => False) σ σ'
theorem ms_fJ {σ σ' : js_S} {y : js_Y} (h : fJ_ σ σ') (hm : ms_ σ y) : ms_ σ' y := by
  obtain ⟨h1, h2, h3, h4⟩ := hm
  have r1 := fw2_row h (a := 391) (fun b z => by unfold sJ_ at z; omega)
  have r3 := fw2_row h (a := 393) (fun b z => by unfold sJ_ at z; omega)
  exact ⟨by rw [h.1]; exact h1, by rw [r1]; exact h2, by rw [h.2.1 390 6 (by unfold sJ_; omega)]; exact h3, fun i hi => ⟨rw_eq r3 (h4 i hi).1, rw_eq r3 (h4 i hi).2⟩⟩
theorem mr_fJ {σ σ' : js_S} {P : List (Nat × Nat)} (h : fJ_ σ σ') (hp : mr_ σ P) : mr_ σ' P := mr_fw h (fun a b z => by unfold sJ_ at z; omega) hp
theorem gm_fi {S : Nat → Prop} {σ σ' : js_S} {G : List Nat} (h : fi_ S σ σ') (hS : ∀ a, S a → a = 410 ∨ a = 411 ∨ a = 413) (hg : gm_ σ G) : gm_ σ' G := by
  obtain ⟨h1, h2, h3, h4, h5⟩ := hg
  have r0 := h.2 390 (fun z => by have := hS _ z; omega)
  have r9 := h.2 409 (fun z => by have := hS _ z; omega)
  have r2 := h.2 412 (fun z => by have := hS _ z; omega)
  exact ⟨by rw [r0]; exact h1, by rw [r9]; exact h2, by rw [r2]; exact h3, by rw [r2]; exact h4, h5⟩
theorem m_add {σ : js_S} {G : List Nat} {x : Nat} (hl : lm_ σ.2.2) (h : gm_ σ G) (hx : gc_ x) : ∃ σ' t, fX12_addGraph 5000 390 (nI (mc2_ x)) σ = some ((), σ') ∧ fJ_ σ σ' ∧ gm_ σ' (G ++ t) ∧ (x ∈ G ++ t ∨ 400 < (G ++ t).length) ∧ (t = [] ∨ t = [x]) ∧ (G.length ≤ 400 → x ∈ G ++ t) := by
  obtain ⟨c1, c2, c3, c4, c5, c6, c7⟩ := id h
  have hm := mc2_lt hx
  unfold fX12_addGraph
  rw [if_neg (nI_pos (by omega)), c1]
  by_cases k4 : 400 < G.length
  · refine ⟨σ, [], ?_, fw2_rf, by rw [List.append_nil]; exact h, Or.inr (by rw [List.append_nil]; exact k4), Or.inl rfl, fun z => by omega⟩
    rw [if_pos (show (400 : Int32) < nI G.length from nlt_t (a := 400) k4 (by omega))]
  · rw [if_neg (show ¬ (400 : Int32) < nI G.length from nlt_f (a := 400) (by omega) (by omega)), lm_28 hl, ln_412, if_pos (ib_t (by omega) (by omega)), n_cl (by omega)]
    by_cases hin : x ∈ G
    · refine ⟨σ, [], ?_, fw2_rf, by rw [List.append_nil]; exact h, Or.inl (by rw [List.append_nil]; exact hin), Or.inl rfl, fun _ => by rw [List.append_nil]; exact hin⟩
      rw [c3 x hin, if_neg (by decide)]
    · have h0 : σ.1 412 (mc2_ x) = 0 := c4 _ (fun z hz e => hin (mc2_inj (c7 z hz) hx e ▸ hz))
      have e1 : (uI_ σ 412 (mc2_ x) 1).1 390 29 = nI G.length := by rw [uI_ne (by omega)]; exact c1
      have l1 : lm_ (uI_ σ 412 (mc2_ x) 1).2.2 := hl
      have e2 : (uI_ (uI_ σ 412 (mc2_ x) 1) 409 G.length (nI (mc2_ x))).1 390 29 = nI G.length := by rw [uI_ne (by omega)]; exact e1
      refine ⟨uI_ (uI_ (uI_ σ 412 (mc2_ x) 1) 409 G.length (nI (mc2_ x))) 390 29 (nI (G.length + 1)), [x], ?_, fw2_tr (fw2_tr (fw2_u (by unfold sJ_; omega)) (fw2_u (by unfold sJ_; omega))) (fw2_u (by unfold sJ_; omega)), ⟨?_, fun j hj => ?_, fun z hz => ?_, fun c hc => ?_, ?_, ?_, fun z hz => ?_⟩, Or.inl (by simp), Or.inr rfl, fun _ => by simp⟩
      · rw [h0, if_pos rfl, if_pos (ib_t (by omega) (by omega)), show nz_ 1 = 1 from bi_nz true, lt_s_, e1, lm_25 l1, ln_409, if_pos (ib_t (by omega) (by omega)), n_cl (by omega), lt_s_, e2, n_s, lt_s_]
      · rw [uI_same, List.length_append, List.length_singleton]
      · rw [List.length_append, List.length_singleton] at hj
        rw [uI_ne (by omega)]
        by_cases q : j = G.length
        · rw [q, uI_same, getD_last]
        · rw [uI_ne (by omega), uI_ne (by omega), getD_app (by omega)]
          exact c2 j (by omega)
      · rw [uI_ne (by omega), uI_ne (by omega)]
        by_cases q : mc2_ z = mc2_ x
        · rw [q, uI_same]
        · rw [uI_ne (by omega)]
          rcases List.mem_append.mp hz with w | w
          · exact c3 z w
          · rw [List.mem_singleton.mp w] at q
            exact absurd rfl q
      · rw [uI_ne (by omega), uI_ne (by omega), uI_ne (fun q => hc x (by simp) q.2.symm)]
        exact c4 c (fun z hz => hc z (by simp [hz]))
      · rw [List.length_append, List.length_singleton]; omega
      · rw [List.nodup_append]
        exact ⟨c6, by simp, fun a ha b hb => by rw [List.mem_singleton.mp hb]; exact fun z => hin (z ▸ ha)⟩
      · rcases List.mem_append.mp hz with w | w
        · exact c7 z w
        · rw [List.mem_singleton.mp w]; exact hx
def gk_ (σ : js_S) (y : js_Y) (G : List Nat) : Prop := gm_ σ G ∧ ∀ x, x ∈ G → ∃ k, cl2_ (gn_ y) k x
/-- one composition, added -/
theorem m_ca {σ : js_S} {y : js_Y} {G : List Nat} {a b : Nat} (hl : lm_ σ.2.2) (h : gk_ σ y G) (ha : a < G.length) (hb : b < G.length) : ∃ σ1 σ2 r t, fX12_compose 5000 390 (nI (mc2_ (G.getD a 0))) (nI (mc2_ (G.getD b 0))) σ = some (r, σ1) ∧ fX12_addGraph 5000 390 r σ1 = some ((), σ2) ∧ fJ_ σ σ2 ∧ gk_ σ2 y (G ++ t) ∧ (fe_ (G.getD a 0) 10 = fe_ (G.getD b 0) 9 → cx_ (G.getD a 0) (G.getD b 0) ∈ G ++ t ∨ 400 < (G ++ t).length) := by
  obtain ⟨h1, h2⟩ := h
  have ma := getD_mem ha
  have mb := getD_mem hb
  have ga := h1.2.2.2.2.2.2 _ ma
  have gb := h1.2.2.2.2.2.2 _ mb
  obtain ⟨σ1, r1, f1⟩ := m_compose hl ga gb
  have f1J : fJ_ σ σ1 := fw2_fi f1 (fun a b z => by unfold sQ_ at z; unfold sJ_; omega)
  have g1 := gm_fi f1 (fun a z => z) h1
  by_cases c : fe_ (G.getD a 0) 10 = fe_ (G.getD b 0) 9
  · rw [if_pos c] at r1
    obtain ⟨k, hk⟩ := h2 _ ma
    obtain ⟨k', hk'⟩ := h2 _ mb
    obtain ⟨σ2, t, r2, f2, g2, p2, p3, -⟩ := m_add (by rw [fi_r f1]; exact hl) g1 (cx_gc ga gb)
    refine ⟨σ1, σ2, _, t, r1, r2, fw2_tr f1J f2, ⟨g2, fun z hz => ?_⟩, fun _ => p2⟩
    rcases List.mem_append.mp hz with w | w
    · exact h2 z w
    · rcases p3 with q | q
      · rw [q] at w; cases w
      · rw [q] at w
        rw [List.mem_singleton.mp w]
        exact cl_comp gn_gc ⟨k, hk⟩ hk' c
  · rw [if_neg c] at r1
    refine ⟨σ1, σ1, _, [], r1, ?_, f1J, ⟨by rw [List.append_nil]; exact g1, by rw [List.append_nil]; exact h2⟩, fun z => absurd z c⟩
    unfold fX12_addGraph
    rw [if_pos (by decide)]
theorem m_fc148 {y : js_Y} {i : Nat} {rc : Nat → Int32 → js_S → Option (Int32 × js_S)} :
    ∀ (d j m : Nat) (σ : js_S) (G : List Nat), j + d = i + 1 → d < m → lm_ σ.2.2 → gk_ σ y G → i < G.length → ∃ σ' t, fX12_findClosure_148 5000 rc m 390 (nI i) (nI j) σ = rc 390 (nI (i + 1)) σ' ∧ fJ_ σ σ' ∧ gk_ σ' y (G ++ t) ∧ ∀ b, j ≤ b → b ≤ i → (fe_ (G.getD i 0) 10 = fe_ (G.getD b 0) 9 → cx_ (G.getD i 0) (G.getD b 0) ∈ G ++ t ∨ 400 < (G ++ t).length) ∧ (fe_ (G.getD b 0) 10 = fe_ (G.getD i 0) 9 → cx_ (G.getD b 0) (G.getD i 0) ∈ G ++ t ∨ 400 < (G ++ t).length) := by
  intro d
  induction d with
  | zero =>
    intro j m σ G hj hm hl h hi
    obtain ⟨m, rfl⟩ : ∃ j, m = j + 1 := ⟨m - 1, by omega⟩
    have h401 := h.1.2.2.2.2.1
    refine ⟨σ, [], ?_, fw2_rf, by rw [List.append_nil]; exact h, fun b q1 q2 => by omega⟩
    rw [sX12_findClosure_148]
    unfold fX12_findClosure_148b
    rw [if_pos (nlt_t (by omega) (by omega)), n_s]
  | succ d ih =>
    intro j m σ G hj hm hl h hi
    obtain ⟨m, rfl⟩ : ∃ j, m = j + 1 := ⟨m - 1, by omega⟩
    have h401 := h.1.2.2.2.2.1
    have hjG : j < G.length := by omega
    obtain ⟨σ1, σ2, r, t, r1, r2, f2, k2, p2⟩ := m_ca hl h hi hjG
    have l2 : lm_ σ2.2.2 := by rw [f2.1]; exact hl
    have hi2 : i < (G ++ t).length := by rw [List.length_append]; omega
    have hj2 : j < (G ++ t).length := by rw [List.length_append]; omega
    obtain ⟨σ3, σ4, r', t', r3, r4, f4, k4, p4⟩ := m_ca l2 k2 hj2 hi2
    have l4 : lm_ σ4.2.2 := by rw [f4.1]; exact l2
    have h402 := k2.1.2.2.2.2.1
    have ei : (G ++ t).getD i 0 = G.getD i 0 := getD_pre hi
    have ej : (G ++ t).getD j 0 = G.getD j 0 := getD_pre hjG
    have hi4 : i < (G ++ t ++ t').length := by rw [List.length_append]; omega
    obtain ⟨σ5, t5, r5, f5, k5, p5⟩ := ih (j + 1) m σ4 (G ++ t ++ t') (by omega) (by omega) l4 k4 hi4
    have e1 : σ.1 409 i = nI (mc2_ (G.getD i 0)) := h.1.2.1 i hi
    have e2 : σ.1 409 j = nI (mc2_ (G.getD j 0)) := h.1.2.1 j hjG
    have e3 : σ2.1 409 i = nI (mc2_ ((G ++ t).getD i 0)) := k2.1.2.1 i hi2
    have e4 : σ2.1 409 j = nI (mc2_ ((G ++ t).getD j 0)) := k2.1.2.1 j hj2
    have ea : G ++ t ++ t' ++ t5 = G ++ (t ++ t' ++ t5) := by simp [List.append_assoc]
    have up : ∀ x, (x ∈ G ++ t ∨ 400 < (G ++ t).length) → (x ∈ G ++ t ++ t' ++ t5 ∨ 400 < (G ++ t ++ t' ++ t5).length) := by
      intro x hx
      rcases hx with w | w
      · exact Or.inl (List.mem_append_left _ (List.mem_append_left _ w))
      · exact Or.inr (by rw [List.length_append, List.length_append]; omega)
    have up2 : ∀ x, (x ∈ G ++ t ++ t' ∨ 400 < (G ++ t ++ t').length) → (x ∈ G ++ t ++ t' ++ t5 ∨ 400 < (G ++ t ++ t' ++ t5).length) := by
      intro x hx
      rcases hx with w | w
      · exact Or.inl (List.mem_append_left _ w)
      · exact Or.inr (by rw [List.length_append]; omega)
    refine ⟨σ5, t ++ t' ++ t5, ?_, fw2_tr f2 (fw2_tr f4 f5), by rw [← ea]; exact k5, fun b q1 q2 => ?_⟩
    · rw [sX12_findClosure_148]
      unfold fX12_findClosure_148b
      rw [if_neg (nlt_f (by omega) (by omega)), lm_25 hl, ln_409, if_pos (ib_t (show i < 401 by omega) (by omega)), if_pos (ib_t (show j < 401 by omega) (by omega)), n_cl (by omega), n_cl (by omega), e1, e2, r1, bd_s, r2, bd_s, lm_25 l2, ln_409, if_pos (ib_t (show j < 401 by omega) (by omega)), if_pos (ib_t (show i < 401 by omega) (by omega)), e3, e4, r3, bd_s, r4, bd_s, n_s, r5]
    · rw [← ea]
      by_cases z : b = j
      · subst z
        refine ⟨fun q => up _ (p2 q), fun q => ?_⟩
        have := p4 (by rw [ei, ej]; exact q)
        rw [ei, ej] at this
        exact up2 _ this
      · have hb : b < G.length := by omega
        have := p5 b (by omega) q2
        rw [show (G ++ t ++ t').getD i 0 = G.getD i 0 by rw [getD_pre hi2, ei], show (G ++ t ++ t').getD b 0 = G.getD b 0 by rw [getD_pre (show b < (G ++ t).length by rw [List.length_append]; omega), getD_pre hb]] at this
        exact this
theorem m_fc128 {y : js_Y} :
    ∀ (d i m : Nat) (σ : js_S) (G : List Nat), i + d = 402 → d < m → lm_ σ.2.2 → gk_ σ y G → (∀ a b, a < i → b < i → a < G.length → b < G.length → fe_ (G.getD a 0) 10 = fe_ (G.getD b 0) 9 → cx_ (G.getD a 0) (G.getD b 0) ∈ G ∨ 400 < G.length) → ∃ σ' t, fX12_findClosure_128 5000 m 390 (nI i) σ = fX12_findClosure_207 5000 5000 390 0 σ' ∧ fJ_ σ σ' ∧ gk_ σ' y (G ++ t) ∧ (400 < (G ++ t).length ∨ ∀ u v, u ∈ G ++ t → v ∈ G ++ t → fe_ u 10 = fe_ v 9 → cx_ u v ∈ G ++ t) := by
  have stop : ∀ (i : Nat) (G : List Nat), G.length ≤ i → (∀ a b, a < i → b < i → a < G.length → b < G.length → fe_ (G.getD a 0) 10 = fe_ (G.getD b 0) 9 → cx_ (G.getD a 0) (G.getD b 0) ∈ G ∨ 400 < G.length) → (400 < (G ++ []).length ∨ ∀ u v, u ∈ G ++ [] → v ∈ G ++ [] → fe_ u 10 = fe_ v 9 → cx_ u v ∈ G ++ []) := by
    intro i G hi hc
    rw [List.append_nil]
    by_cases c : 400 < G.length
    · exact Or.inl c
    · refine Or.inr (fun u v hu hv e => ?_)
      obtain ⟨a, ha, rfl⟩ := getD_of_mem hu
      obtain ⟨b, hb, rfl⟩ := getD_of_mem hv
      rcases hc a b (by omega) (by omega) ha hb e with w | w
      · exact w
      · exact absurd w c
  intro d
  induction d with
  | zero =>
    intro i m σ G hi hm hl h hc
    obtain ⟨m, rfl⟩ : ∃ j, m = j + 1 := ⟨m - 1, by omega⟩
    have h401 := h.1.2.2.2.2.1
    refine ⟨σ, [], ?_, fw2_rf, by rw [List.append_nil]; exact h, stop i G (by omega) hc⟩
    rw [sX12_findClosure_128]
    unfold fX12_findClosure_128b fX12_findClosure_205
    rw [h.1.1, if_pos (nle_t (by omega) (by omega))]
  | succ d ih =>
    intro i m σ G hi hm hl h hc
    obtain ⟨m, rfl⟩ : ∃ j, m = j + 1 := ⟨m - 1, by omega⟩
    have h401 := h.1.2.2.2.2.1
    rw [sX12_findClosure_128]
    unfold fX12_findClosure_128b fX12_findClosure_205
    by_cases c : G.length ≤ i
    · refine ⟨σ, [], ?_, fw2_rf, by rw [List.append_nil]; exact h, stop i G c hc⟩
      rw [h.1.1, if_pos (nle_t (by omega) (by omega))]
    · rw [h.1.1, if_neg (nle_f (by omega) (by omega))]
      by_cases c4 : 400 < G.length
      · refine ⟨σ, [], ?_, fw2_rf, by rw [List.append_nil]; exact h, Or.inl (by rw [List.append_nil]; exact c4)⟩
        rw [if_pos (show (400 : Int32) < nI G.length from nlt_t (a := 400) c4 (by omega))]
      · rw [if_neg (show ¬ (400 : Int32) < nI G.length from nlt_f (a := 400) (by omega) (by omega))]
        obtain ⟨σ1, t, r1, f1, k1, p1⟩ := m_fc148 (rc := fX12_findClosure_128 5000 m) (i := i) (i + 1) 0 5000 σ G (by omega) (by omega) hl h (by omega)
        have ep : ∀ a, a < G.length → (G ++ t).getD a 0 = G.getD a 0 := fun a ha => getD_pre ha
        have up : ∀ x, (x ∈ G ∨ 400 < G.length) → (x ∈ G ++ t ∨ 400 < (G ++ t).length) := by
          intro x hx
          rcases hx with w | w
          · exact Or.inl (List.mem_append_left _ w)
          · exact Or.inr (by rw [List.length_append]; omega)
        obtain ⟨σ2, t2, r2, f2, k2, p2⟩ := ih (i + 1) m σ1 (G ++ t) (by omega) (by omega) (by rw [f1.1]; exact hl) k1 (fun a b ha hb ha2 hb2 e => by
          have ha3 : a < G.length := by omega
          have hb3 : b < G.length := by omega
          rw [ep a ha3, ep b hb3] at e ⊢
          by_cases z1 : a = i
          · subst z1
            exact (p1 b (Nat.zero_le _) (by omega)).1 e
          · by_cases z2 : b = i
            · subst z2
              exact (p1 a (Nat.zero_le _) (by omega)).2 e
            · exact up _ (hc a b (by omega) (by omega) ha3 hb3 e))
        refine ⟨σ2, t ++ t2, ?_, fw2_tr f1 f2, by rw [← List.append_assoc]; exact k2, by rw [← List.append_assoc]; exact p2⟩
        rw [show fX12_findClosure_148 5000 (fX12_findClosure_128 5000 m) 5000 390 (nI i) 0 σ = _ from r1, r2]
theorem m_fc207 {G : List Nat} (hG : ∀ x, x ∈ G → gc_ x) (h401 : G.length ≤ 401) :
    ∀ (d i m : Nat) (σ : js_S), i + d = G.length → d < m → lm_ σ.2.2 → σ.1 390 29 = nI G.length → (∀ j, j < G.length → σ.1 409 j = nI (mc2_ (G.getD j 0))) → (∀ c, (∀ j, i ≤ j → j < G.length → mc2_ (G.getD j 0) ≠ c) → σ.1 412 c = 0) → ∃ σ', fX12_findClosure_207 5000 m 390 (nI i) σ = some (bi_ (decide (G.length ≤ 400)), σ') ∧ fi_ (fun a => a = 412) σ σ' ∧ ∀ c, σ'.1 412 c = 0 := by
  intro d
  induction d with
  | zero =>
    intro i m σ hi hm hl h29 h9 h2
    obtain ⟨m, rfl⟩ : ∃ j, m = j + 1 := ⟨m - 1, by omega⟩
    refine ⟨σ, ?_, fi_rf, fun c => h2 c (fun j q1 q2 => by omega)⟩
    rw [sX12_findClosure_207]
    unfold fX12_findClosure_207b
    rw [h29, if_pos (nle_t (by omega) (by omega))]
    by_cases c : 400 < G.length
    · rw [if_pos (show (400 : Int32) < nI G.length from nlt_t (a := 400) c (by omega)), decide_eq_false (by omega)]
      rfl
    · rw [if_neg (show ¬ (400 : Int32) < nI G.length from nlt_f (a := 400) (by omega) (by omega)), decide_eq_true (by omega)]
      rfl
  | succ d ih =>
    intro i m σ hi hm hl h29 h9 h2
    obtain ⟨m, rfl⟩ : ∃ j, m = j + 1 := ⟨m - 1, by omega⟩
    have hin : i < G.length := by omega
    have hm4 := mc2_lt (hG _ (getD_mem hin))
    have f1 : fi_ (fun a => a = 412) σ (uI_ σ 412 (mc2_ (G.getD i 0)) 0) := fi_u rfl
    obtain ⟨σ2, r2, f2, e2⟩ := ih (i + 1) m (uI_ σ 412 (mc2_ (G.getD i 0)) 0) (by omega) (by omega) hl (by rw [uI_ne (by omega)]; exact h29) (fun j hj => by rw [uI_ne (by omega)]; exact h9 j hj) (fun c hc => by
      by_cases z : c = mc2_ (G.getD i 0)
      · rw [z, uI_same]
      · rw [uI_ne (fun q => z q.2)]
        refine h2 c (fun j q1 q2 => ?_)
        by_cases w : j = i
        · rw [w]; exact fun q => z q.symm
        · exact hc j (by omega) q2)
    refine ⟨σ2, ?_, fi_tr f1 f2 (fun a q => q) (fun a q => q), e2⟩
    rw [sX12_findClosure_207]
    unfold fX12_findClosure_207b
    rw [h29, if_neg (nle_f (by omega) (by omega)), lm_25 hl, ln_409, if_pos (ib_t (show i < 401 by omega) (by omega)), n_cl (by omega), h9 i hin, lm_28 hl, ln_412, if_pos (ib_t (by omega) (by omega)), n_cl (by omega), show nz_ 0 = 0 from bi_nz false, lt_s_, n_s, r2]
/-! the generators, by the model -/
theorem m_fc19 {y : js_Y} {i : Nat} {x1 : Int32} {rc12 : Nat → Int32 → Int32 → js_S → Option (Int32 × js_S)} (g : gy_ y) (hi : i < (pp_ y).length) :
    ∀ (d k m : Nat) (σ : js_S), k + d = 9 → d < m → ms_ σ y → mr_ σ (pp_ y) → (∀ q, q < k → σ.1 413 q = nI (fp2_ y i q)) → ∃ σ', fX12_findClosure_19 5000 rc12 m 390 x1 (nI i) (nI k) σ = (bd_ (fX12_addGraph 5000 390 (nI (mc2_ (gd_ (fp2_ y i) 11))) σ') fun _ σ6 => rc12 390 x1 (nI (i + 1)) σ6) ∧ fi_ (fun a => a = 413) σ σ' := by
  have h240 := pp_len g
  have f9 : fp2_ y i 9 < 3 := fn_lt _
  have f10 : fp2_ y i 10 < 3 := fn_lt _
  have b9 := g.1 _ f9
  have b10 := g.1 _ f10
  have hs : ∀ σ, ms_ σ y → mr_ σ (pp_ y) → fX12_sourceOf 5000 390 (nI i) σ = some (nI (fp2_ y i 9), σ) := fun σ2 m2 p2 => m_sourceOf g m2 p2 hi
  have ht : ∀ σ, ms_ σ y → mr_ σ (pp_ y) → fX12_targetOf 5000 390 (nI i) σ = some (nI (fp2_ y i 10), σ) := fun σ2 m2 p2 => m_targetOf g m2 p2 hi
  intro d
  induction d with
  | zero =>
    intro k m σ hk hm h hp hC
    obtain ⟨m, rfl⟩ : ∃ j, m = j + 1 := ⟨m - 1, by omega⟩
    refine ⟨σ, ?_, fi_rf⟩
    have e4 : dn_ (fp2_ y i) 9 0 = mc2_ (gd_ (fp2_ y i) 11) := dn_ext (fun k hk => (fe_gd fp2_lt hk).symm) (by omega)
    rw [sX12_findClosure_19]
    unfold fX12_findClosure_19b
    rw [if_pos (show (9 : Int32) ≤ nI k from nle_t (a := 9) (by omega) (by omega)), hs σ h hp, bd_s, ht σ h hp, bd_s, n_3c, lm_30 h.1, m_encode ln_413 (fun j hj => hC j (by omega)), bd_s, e4, n_s]
  | succ d ih =>
    intro k m σ hk hm h hp hC
    obtain ⟨m, rfl⟩ : ∃ j, m = j + 1 := ⟨m - 1, by omega⟩
    have hk9 : k < 9 := by omega
    have key : ∀ r : Int32, r = nI (fp2_ y i k) → ∃ σ', fX12_findClosure_89 5000 rc12 (fX12_findClosure_19 5000 rc12 m) 390 x1 (nI i) (nI k) r (nI k) 413 σ = (bd_ (fX12_addGraph 5000 390 (nI (mc2_ (gd_ (fp2_ y i) 11))) σ') fun _ σ6 => rc12 390 x1 (nI (i + 1)) σ6) ∧ fi_ (fun a => a = 413) σ σ' := by
      intro r hr
      have f1 : fi_ (fun a => a = 413) σ (uI_ σ 413 k r) := fi_u rfl
      obtain ⟨σ2, r2, f2⟩ := ih (k + 1) m (uI_ σ 413 k r) (by omega) (by omega) (ms_fi f1 (fun a q z => by omega) h) (mr_eq (f1.2 403 (by omega)) (f1.2 404 (by omega)) hp) (fun q hq => by
        by_cases z : q = k
        · rw [z, uI_same, hr]
        · rw [uI_ne (by omega)]; exact hC q (by omega))
      refine ⟨σ2, ?_, fi_tr f1 f2 (fun a q => q) (fun a q => q)⟩
      unfold fX12_findClosure_89
      rw [ln_413, if_pos (ib_t (by omega) (by omega)), n_cl (by omega), lt_s_, n_s, r2]
    have e3 : nI k / 3 = nI (k / 3) := n_div (b := 3) (by omega) (by omega)
    have e4 : nI k - nI k / 3 * 3 = nI (k % 3) := n_rem (b := 3) (by omega) (by omega)
    have hfp := fp2_r (y := y) (j := i) (a := k / 3) (b := k % 3) (by omega) (by omega)
    rw [show 3 * (k / 3) + k % 3 = k by omega] at hfp
    rw [sX12_findClosure_19]
    unfold fX12_findClosure_19b fX12_findClosure_61 fX12_findClosure_62
    rw [if_neg (show ¬ (9 : Int32) ≤ nI k from nle_f (a := 9) (by omega) (by omega)), hs σ h hp, bd_s, lm_0 h.1, ln_391, if_pos (ib_t f9 (by omega)), n_cl (by omega), h.2.1 _ f9, ht σ h hp, bd_s, if_pos (ib_t f10 (by omega)), n_cl (by omega), h.2.1 _ f10, e4, e3, lm_30 h.1]
    by_cases c1 : k / 3 < y.1 (fp2_ y i 9)
    · rw [if_neg (nle_f c1 (by omega))]
      by_cases c2 : k % 3 < y.1 (fp2_ y i 10)
      · rw [if_neg (nle_f c2 (by omega)), if_neg (by decide), m_relation g h hp hi c1 c2, bd_s, show 3 * (k / 3) + k % 3 = k by omega]
        exact key _ rfl
      · rw [if_pos (nle_t (by omega) (by omega)), if_pos rfl]
        exact key 0 (by rw [hfp, if_neg (fun z => c2 z.2)]; rfl)
    · rw [if_pos (nle_t (by omega) (by omega)), if_pos rfl]
      exact key 0 (by rw [hfp, if_neg (fun z => c1 z.1)]; rfl)
theorem m_fc12b {y : js_Y} (g : gy_ y) :
    ∀ (d i m : Nat) (σ : js_S) (G : List Nat), i + d = (pp_ y).length → d < m → ms_ σ y → mr_ σ (pp_ y) → gk_ σ y G → G.length ≤ i → (∀ j, j < i → gd_ (fp2_ y j) 11 ∈ G) → ∃ σ' G0, fX12_findClosure_12 5000 m 390 (nI (pp_ y).length) (nI i) σ = fX12_findClosure_128 5000 5000 390 0 σ' ∧ fJ_ σ σ' ∧ gk_ σ' y G0 ∧ ∀ x, gn_ y x → x ∈ G0 := by
  have h240 := pp_len g
  intro d
  induction d with
  | zero =>
    intro i m σ G hi hm h hp hk hG h2
    obtain ⟨m, rfl⟩ : ∃ j, m = j + 1 := ⟨m - 1, by omega⟩
    refine ⟨σ, G, ?_, fw2_rf, hk, fun x hx => ?_⟩
    · rw [sX12_findClosure_12]
      unfold fX12_findClosure_12b
      rw [if_pos (nle_t (by omega) (by omega))]
    · obtain ⟨j, hj, rfl⟩ := hx
      exact h2 j (by omega)
  | succ d ih =>
    intro i m σ G hi hm h hp hk hG h2
    obtain ⟨m, rfl⟩ : ∃ j, m = j + 1 := ⟨m - 1, by omega⟩
    have hin : i < (pp_ y).length := by omega
    have hgen : gn_ y (gd_ (fp2_ y i) 11) := ⟨i, hin, rfl⟩
    obtain ⟨σ1, r1, f1⟩ := m_fc19 (x1 := nI (pp_ y).length) (rc12 := fX12_findClosure_12 5000 m) g hin 9 0 5000 σ (by omega) (by omega) h hp (fun q hq => by omega)
    have f1J : fJ_ σ σ1 := fw2_fi f1 (fun a b z => by unfold sJ_; omega)
    have h1 := ms_fJ f1J h
    obtain ⟨σ2, t, r2, f2, g2, p2, p3, p4⟩ := m_add h1.1 (gm_fi f1 (fun a z => by omega) hk.1) (gn_gc _ hgen)
    have hxin := p4 (by omega)
    have f12 := fw2_tr f1J f2
    obtain ⟨σ3, G0, r3, f3, k3, p5⟩ := ih (i + 1) m σ2 (G ++ t) (by omega) (by omega) (ms_fJ f12 h) (mr_fJ f12 hp) ⟨g2, fun z hz => by
      rcases List.mem_append.mp hz with w | w
      · exact hk.2 z w
      · rcases p3 with q | q
        · rw [q] at w; cases w
        · rw [q] at w
          rw [List.mem_singleton.mp w]
          exact ⟨0, hgen⟩⟩ (by
        rcases p3 with q | q
        · rw [q, List.append_nil]; omega
        · rw [q, List.length_append, List.length_singleton]; omega) (fun j hj => by
        by_cases z : j = i
        · rw [z]; exact hxin
        · exact List.mem_append_left _ (h2 j (by omega)))
    refine ⟨σ3, G0, ?_, fw2_tr f12 f3, k3, p5⟩
    rw [sX12_findClosure_12]
    unfold fX12_findClosure_12b
    rw [if_neg (nle_f (by omega) (by omega)), show fX12_findClosure_19 5000 (fX12_findClosure_12 5000 m) 5000 390 (nI (pp_ y).length) (nI i) 0 σ = _ from r1, r2, bd_s, r3]
theorem m_findClosure {σ : js_S} {y : js_Y} (g : gy_ y) (hm : ms_ σ y) (h0 : ∀ k, σ.1 412 k = 0) : ∃ (σ' : js_S) (G : List Nat), fX12_findClosure 5000 390 σ = some (bi_ (decide (G.length ≤ 400)), σ') ∧ fm_ σ σ' ∧ σ'.1 390 29 = nI G.length ∧ (∀ j, j < G.length → σ'.1 409 j = nI (mc2_ (G.getD j 0))) ∧ G.Nodup ∧ G.length ≤ 401 ∧ (∀ x, x ∈ G → gc_ x) ∧ (∀ x, x ∈ G → ∃ k, cl2_ (gn_ y) k x) ∧ (G.length ≤ 400 → ∀ x k, cl2_ (gn_ y) k x → x ∈ G) := by
  have h240 := pp_len g
  obtain ⟨σ1, r1, f1, p1⟩ := m_findPairs g hm
  have fm1 := fm_34 f1
  have fm2 : fm_ σ (uI_ σ1 390 29 0) := fm_tr fm1 (fm_u (by unfold sM_; omega))
  have z12 : ∀ k, (uI_ σ1 390 29 0).1 412 k = 0 := fun k => by rw [uI_ne (by omega), f1.2 412 (by omega)]; exact h0 k
  obtain ⟨σ3, G0, r3, f3, k3, p3⟩ := m_fc12b g (pp_ y).length 0 5000 (uI_ σ1 390 29 0) [] (by omega) (by omega) (ms_fm fm2 hm) (mr_eq (uI_row (by omega)) (uI_row (by omega)) p1) ⟨⟨by rw [uI_same]; rfl, fun j hj => by simp at hj, fun x hx => by simp at hx, fun c _ => z12 c, by simp, List.nodup_nil, fun x hx => by simp at hx⟩, fun x hx => by simp at hx⟩ (by simp) (fun j hj => by omega)
  have l3 : lm_ σ3.2.2 := (ms_fJ f3 (ms_fm fm2 hm)).1
  obtain ⟨σ4, t, r4, f4, k4, p4⟩ := m_fc128 402 0 5000 σ3 G0 (by omega) (by omega) l3 k3 (fun a b ha => by omega)
  obtain ⟨⟨c1, c2, c3, c4, c5, c6, c7⟩, h4⟩ := k4
  obtain ⟨σ5, r5, f5, e5⟩ := m_fc207 c7 c5 (G0 ++ t).length 0 5000 σ4 (by omega) (by omega) (by rw [f4.1]; exact l3) c1 c2 (fun c hc => c4 c (fun x hx => by
    obtain ⟨j, hj, rfl⟩ := getD_of_mem hx
    exact hc j (Nat.zero_le j) hj))
  have f34 := fw2_tr f3 f4
  refine ⟨σ5, G0 ++ t, ?_, fm_tr fm2 ⟨by rw [fi_r f5, f34.1], fun a ha => by rw [f5.1, f34.2.2 a (fun z => z)], fun a b q => ?_⟩, by rw [f5.2 390 (by omega)]; exact c1, fun j hj => by rw [f5.2 409 (by omega)]; exact c2 j hj, c6, c5, c7, h4, fun hle x k hx => ?_⟩
  · unfold fX12_findClosure
    rw [r1, bd_s, lt_s_, show fX12_findClosure_12 5000 5000 390 (nI (pp_ y).length) 0 (uI_ σ1 390 29 0) = _ from r3, show fX12_findClosure_128 5000 5000 390 0 σ3 = _ from r4]
    exact r5
  · by_cases c : a = 412
    · rw [c, e5, z12]
    · rw [f5.2 a c]
      exact f34.2.1 a b (fun z => q (by unfold sJ_ at z; unfold sM_; omega))
  · rcases p4 with w | w
    · omega
    · exact cl_sub (S := fun x => x ∈ G0 ++ t) (fun x hx => List.mem_append_left _ (p3 x hx)) (fun u v hu hv e => w u v hu (List.mem_append_left _ (p3 v hv)) e) hx
