/-! findLoop -/
theorem cp_eq : ∀ {t u : List Int32}, t.length = u.length → (cp_ t u = 0 ↔ t = u)
  | [], [], _ => by simp [cp_]
  | [], r :: u, h => by simp at h
  | s :: t, [], h => by simp at h
  | s :: t, r :: u, h => by
    rw [cp_cons]
    by_cases e : s = r
    · subst e
      rw [if_pos rfl, cp_eq (by simpa using h)]
      simp
    · rw [if_neg e]
      constructor
      · intro q
        exact absurd q (by split <;> decide)
      · intro q
        cases q
        exact absurd rfl e
theorem cmp_eq {t u : List Int32} : cmp_ t u = 0 ↔ t = u := by
  unfold cmp_
  by_cases h : t.length = u.length
  · rw [if_pos h]
    exact cp_eq h
  · rw [if_neg h]
    constructor
    · intro q
      exact absurd q (by split <;> decide)
    · intro q
      exact absurd (by rw [q]) h
abbrev ac_ (acc : List (List Int32)) (j : Nat) : List Int32 := acc.getD j []
theorem ac_drop {acc : List (List Int32)} {j : Nat} (h : j < acc.length) : acc.drop j = ac_ acc j :: acc.drop (j + 1) := by
  unfold ac_
  rw [List.drop_eq_getElem_cons h, List.getD_eq_getElem?_getD, List.getElem?_eq_getElem h]
  rfl
theorem ac_push {acc : List (List Int32)} {u : List Int32} {j : Nat} (h : j < acc.length + 1) : ac_ (acc ++ [u]) j = if j < acc.length then ac_ acc j else u := by
  unfold ac_
  rw [List.getD_eq_getElem?_getD, List.getD_eq_getElem?_getD]
  by_cases q : j < acc.length
  · rw [if_pos q, List.getElem?_append_left q]
  · rw [if_neg q, List.getElem?_append_right (by omega), show j - acc.length = 0 by omega]
    rfl
theorem x7_repeats {σ : js_S} {acc : List (List Int32)} {u : List Int32} (hl : lx_ σ.2.2) (hn : acc.length ≤ 100) (h40 : ∀ j, j < acc.length → (ac_ acc j).length ≤ 40) (hu40 : u.length ≤ 40) (ht : ∀ j, j < acc.length → tm_ σ (91 + 2 * j) (ac_ acc j)) (hu : tm_ σ (91 + 2 * acc.length) u) :
    ∀ (d j k : Nat), j + d = acc.length → d < k → fX7_repeatsEarlier_2 5000 k 88 (nI acc.length) (nI j) σ = some (bi_ (decide (u ∈ acc.drop j)), σ) := by
  intro d
  induction d with
  | zero =>
    intro j k hj hk
    obtain ⟨k, rfl⟩ : ∃ j, k = j + 1 := ⟨k - 1, by omega⟩
    rw [sX7_repeatsEarlier_2]
    unfold fX7_repeatsEarlier_2b
    rw [if_pos ((n_le (by omega) (by omega)).mpr (by omega)), List.drop_eq_nil_of_le (by omega)]
    simp [bi_]
  | succ d ih =>
    intro j k hj hk
    obtain ⟨k, rfl⟩ : ∃ j, k = j + 1 := ⟨k - 1, by omega⟩
    rw [sX7_repeatsEarlier_2]
    unfold fX7_repeatsEarlier_2b
    rw [if_neg (fun z => by have := (n_le (by omega) (by omega)).mp z; omega), lx_88_1 hl, ln_90, n_of, if_neg (fun z => by have := (n_le (by omega) (by omega)).mp z; omega), n_ib (by omega), if_pos (by simp; omega), n_ib (by omega), if_pos (by simp; omega), n_cl (by omega), n_cl (by omega), lx_90 hl (by omega), lx_90 hl (by omega), x9_order (to_seq hl j (by omega)) (ht j (by omega)) (h40 j (by omega)) (to_seq hl _ (by omega)) hu hu40, bd_s, ac_drop (by omega), show nI j + 1 = nI (j + 1) from n_add j 1]
    by_cases hc : ac_ acc j = u
    · rw [if_pos (cmp_eq.mpr hc), decide_eq_true (by rw [hc]; exact List.mem_cons_self)]
      rfl
    · rw [if_neg (fun z => hc (cmp_eq.mp z)), ih (j + 1) k (by omega) (by omega)]
      have : (u ∈ ac_ acc j :: acc.drop (j + 1)) ↔ u ∈ acc.drop (j + 1) := by
        rw [List.mem_cons]
        exact ⟨fun z => z.elim (fun w => absurd w.symm hc) (fun w => w), Or.inr⟩
      rw [show decide (u ∈ ac_ acc j :: acc.drop (j + 1)) = decide (u ∈ acc.drop (j + 1)) by simp only [this]]
/-- the model's terms -/
def mm_ (σ : js_S) (acc : List (List Int32)) : Prop := σ.1 390 38 = nI acc.length ∧ ∀ j, j < acc.length → rw_ σ 418 (96 * j) (ac_ acc j)
theorem mm_fi {S : Nat → Prop} {σ σ' : js_S} {acc : List (List Int32)} (h : fi_ S σ σ') (h1 : ¬ S 390) (h2 : ¬ S 418) (hm : mm_ σ acc) : mm_ σ' acc := ⟨by rw [h.2 390 h1]; exact hm.1, fun j hj => rw_fi h h2 (hm.2 j hj)⟩
theorem m_isMet {σ : js_S} {a : Nat → Nat} {acc : List (List Int32)} {u : List Int32} (hl : lm_ σ.2.2) (hn : acc.length ≤ 1201) (h40 : ∀ j, j < acc.length → gt_ a (ac_ acc j)) (hu40 : gt_ a u) (hm : mm_ σ acc) (hu : rw_ σ 399 0 u) :
    ∀ (d j k : Nat), j + d = acc.length → d + 1 < k → fX12_isMet_4 5000 k 390 0 (nI j) σ = some (bi_ (decide (u ∈ acc.drop j)), σ) := by
  intro d
  induction d with
  | zero =>
    intro j k hj hk
    obtain ⟨k, rfl⟩ : ∃ j, k = j + 1 := ⟨k - 1, by omega⟩
    rw [sX12_isMet_4]
    unfold fX12_isMet_4b
    rw [hm.1, if_pos ((n_le (by omega) (by omega)).mpr (by omega)), List.drop_eq_nil_of_le (by omega), if_pos nz0]
    simp [bi_]
  | succ d ih =>
    intro j k hj hk
    obtain ⟨k, rfl⟩ : ∃ j, k = j + 2 := ⟨k - 2, by omega⟩
    have g1 := h40 j (by omega)
    have l1 := g1.2
    have l2 := hu40.2
    have := gt_pos g1
    obtain ⟨v, r1, s1⟩ := m_compare (σ := σ) (o := 418) (p := 96 * j) (q := 399) (r := 0) (by rw [ln_418]; omega) (by rw [ln_399]; omega) (by rw [ln_418]; omega) (by rw [ln_399]; omega) (hm.2 j (by omega)) hu (gt_sym g1) (gt_sym hu40) (by omega) (by omega)
    have r1' : fX12_compare 5000 418 (nI (96 * j)) 399 0 σ = some (v, σ) := r1
    rw [show k + 2 = (k + 1) + 1 from rfl, sX12_isMet_4]
    unfold fX12_isMet_4b fX12_isMet_40
    rw [hm.1, if_neg (fun z => by have := (n_le (by omega) (by omega)).mp z; omega), if_pos rfl, lm_36 hl, lm_11 hl, n_96, r1', bd_s, ac_drop (by omega), show nI j + 1 = nI (j + 1) from n_add j 1]
    by_cases hc : ac_ acc j = u
    · rw [if_pos (s1.1.mpr (cmp_eq.mpr hc)), decide_eq_true (by rw [hc]; exact List.mem_cons_self), sX12_isMet_4]
      unfold fX12_isMet_4b
      rw [if_pos nz1, if_neg (show ¬ ((1 : Int32) = 0) from by decide)]
      split <;> rfl
    · rw [if_neg (fun z => hc (cmp_eq.mp (s1.1.mp z))), ih (j + 1) (k + 1) (by omega) (by omega)]
      have : (u ∈ ac_ acc j :: acc.drop (j + 1)) ↔ u ∈ acc.drop (j + 1) := by
        rw [List.mem_cons]
        exact ⟨fun z => z.elim (fun w => absurd w.symm hc) (fun w => w), Or.inr⟩
      rw [show decide (u ∈ ac_ acc j :: acc.drop (j + 1)) = decide (u ∈ acc.drop (j + 1)) by simp only [this]]
theorem m_meet {σ : js_S} {acc : List (List Int32)} {u : List Int32} {o p : Nat} (hl : lm_ σ.2.2) (hn : acc.length < 1201) (hm : mm_ σ acc) (hu : rw_ σ o p u) (hu40 : u.length ≤ 40) (h40 : ∀ j, j < acc.length → (ac_ acc j).length ≤ 40) (ho : o ≠ 418) (hb : p + 96 ≤ ln_ o) (hb2 : ln_ o < 1000000000) : ∃ σ', fX12_meet 5000 390 o (nI p) σ = some ((), σ') ∧ σ'.2 = σ.2 ∧ (∀ a b, a ≠ 418 → ¬ (a = 419 ∧ b = acc.length) → ¬ (a = 390 ∧ b = 38) → σ'.1 a b = σ.1 a b) ∧ mm_ σ' (acc ++ [u]) ∧ σ'.1 419 acc.length = 0 := by
  refine ⟨uI_ (uI_ (cI_ σ o p 418 (96 * acc.length) 96) 419 acc.length 0) 390 38 (nI (acc.length + 1)), ?_, rfl, ?_, ⟨?_, ?_⟩, ?_⟩
  · unfold fX12_meet
    have h1 : lm_ (cI_ σ o p 418 (96 * acc.length) 96).2.2 := hl
    rw [lm_36 hl, hm.1, n_96, show (96 : Int32) = nI 96 from rfl, m_copy hb (by rw [ln_418]; omega) hb2 (by rw [ln_418]; omega) (Or.inl ho) (by omega), bd_s, cI_out (by omega), hm.1, lm_37 h1, ln_419, n_ib (by omega), if_pos (by simp; omega), n_cl (by omega), lt_s_, lt_s_, nz0, uI_ne (by omega), cI_out (by omega), hm.1, show nI acc.length + 1 = nI (acc.length + 1) from n_add acc.length 1]
  · intro a b h1 h2 h3
    rw [uI_ne h3, uI_ne h2, cI_out (by omega)]
  · rw [uI_same, List.length_append]
    rfl
  · intro j hj
    rw [List.length_append, List.length_singleton] at hj
    rw [ac_push hj]
    by_cases q : j < acc.length
    · rw [if_pos q]
      have l40 := h40 j q
      refine ⟨?_, fun k hk => ?_⟩
      · rw [uI_ne (by omega), uI_ne (by omega), cI_out (by omega)]
        exact (hm.2 j q).1
      · rw [uI_ne (by omega), uI_ne (by omega), cI_out (by omega)]
        exact (hm.2 j q).2 k hk
    · rw [if_neg q, show j = acc.length by omega]
      refine ⟨?_, fun k hk => ?_⟩
      · rw [uI_ne (by omega), uI_ne (by omega), cI_in (by omega), Nat.sub_self, Nat.add_zero]
        exact hu.1
      · rw [uI_ne (by omega), uI_ne (by omega), cI_in (by omega), ← hu.2 k hk, show p + (96 * acc.length + 1 + k - 96 * acc.length) = p + 1 + k by omega]
  · rw [uI_ne (by omega), uI_same]
/-- the search for a repetition -/
def fl_ (y : js_Y) : Nat → List (List Int32) → Option Nat
  | 0, _ => none
  | n + 1, acc => match (rfi_ (rx_ y (ac_ acc (acc.length - 1))) (ac_ acc (acc.length - 1)).length 0 0).bind fun e => sk2_ (sp_ y (ac_ acc (acc.length - 1)) e) with
    | none => none
    | some u => if u ∈ acc then some acc.length else fl_ y n (acc ++ [u])
theorem fl_s {y : js_Y} {n : Nat} {acc : List (List Int32)} : fl_ y (n + 1) acc = match (rfi_ (rx_ y (ac_ acc (acc.length - 1))) (ac_ acc (acc.length - 1)).length 0 0).bind fun e => sk2_ (sp_ y (ac_ acc (acc.length - 1)) e) with
    | none => none
    | some u => if u ∈ acc then some acc.length else fl_ y n (acc ++ [u]) := rfl
theorem fx_s {σ σ' : js_S} (h : fi_ (fun a => 85 ≤ a ∧ a ≤ 365) σ σ') : fx_ σ σ' := fx_fi h (fun a b q z => q (by unfold sX_; omega))
theorem x_fl {y : js_Y} {lim : Nat} (g : gy_ y) (hlim : lim ≤ 100) : ∀ (n k : Nat) (σ : js_S) (acc : List (List Int32)), n < k → n + acc.length = lim + 1 → 0 < acc.length → (∀ j, j < acc.length → gt_ y.1 (ac_ acc j)) → xs_ σ y → (∀ j, j < acc.length → tm_ σ (91 + 2 * j) (ac_ acc j)) → ∃ σ', fX7_stepsToRepetition_13 5000 k 88 2 (nI lim) (nI acc.length) σ = some (lo_ (-5) (fl_ y n acc), σ') ∧ fi_ (fun a => 85 ≤ a ∧ a ≤ 365) σ σ' := by
  have h6 := g.2.1
  intro n
  induction n with
  | zero =>
    intro k σ acc hk hn h0 gt hx ht
    obtain ⟨k, rfl⟩ : ∃ j, k = j + 1 := ⟨k - 1, by omega⟩
    refine ⟨σ, ?_, fi_rf⟩
    rw [sX7_stepsToRepetition_13]
    unfold fX7_stepsToRepetition_13b
    rw [if_pos ((n_lt (by omega) (by omega)).mpr (by omega))]
    rfl
  | succ n ih =>
    intro k σ acc hk hn h0 gt hx ht
    obtain ⟨k, rfl⟩ : ∃ j, k = j + 1 := ⟨k - 1, by omega⟩
    have gl := gt (acc.length - 1) (by omega)
    have t40 := gl.2
    have tl := to_seq hx.1 (acc.length - 1) (by omega)
    have tn := to_seq hx.1 acc.length (by omega)
    obtain ⟨σ1, r1, f1⟩ := x7_findRedex g (by omega) gl (o := 91 + 2 * (acc.length - 1)) (i := 0) (by omega) hx tl (ht _ (by omega))
    have f1' : fi_ (fun a => 85 ≤ a ∧ a ≤ 365) σ σ1 := fi_mono f1 (fun a q => by omega)
    have hx1 := xs_fi f1 h6 (fun a q => by omega) hx
    have ht1 : ∀ j, j < acc.length → tm_ σ1 (91 + 2 * j) (ac_ acc j) := fun j hj => tm_fi f1 (by omega) (by omega) (ht j hj)
    rw [sX7_stepsToRepetition_13]
    unfold fX7_stepsToRepetition_13b
    rw [if_neg (fun z => by have := (n_lt (by omega) (by omega)).mp z; omega), lx_88_1 hx.1, ln_90, n_of, if_neg (fun z => by have := (n_le (by omega) (by omega)).mp z; omega), n_pred h0, n_ib (by omega), if_pos (by simp; omega), n_cl (by omega), lx_90 hx.1 (by omega), show fX7_findRedex 5000 88 2 (91 + 2 * (acc.length - 1)) 0 σ = _ from r1, bd_s, fl_s]
    cases h1 : rfi_ (rx_ y (ac_ acc (acc.length - 1))) (ac_ acc (acc.length - 1)).length 0 0 with
    | none => exact ⟨σ1, by rw [if_pos (show lo_ (-1) none < 0 from by decide)]; rfl, f1'⟩
    | some e =>
      have he := rfi_lt h1
      obtain ⟨σ2, r2, f2, u2⟩ := x7_step (d := 91 + 2 * acc.length) (o := 91 + 2 * (acc.length - 1)) (e := e) g gl (by omega) (by omega) (by omega) (by omega) hx1 (to_fi f1 tl) (ht1 _ (by omega)) (to_fi f1 tn)
      have f2' : fi_ (fun a => 85 ≤ a ∧ a ≤ 365) σ σ2 := fi_tr f1' f2 (fun a q => q) (fun a q => by omega)
      have hx2 := xs_fi f2 h6 (fun a q => by omega) hx1
      rw [Option.bind_some, if_neg (show ¬ lo_ (-1) (some e) < 0 from nI_pos (by omega)), lx_88_1 hx1.1, ln_90, n_ib (by omega), if_pos (by simp; omega), n_cl (by omega), lx_90 hx1.1 (by omega), show fX7_step 5000 88 2 (91 + 2 * (acc.length - 1)) (lo_ (-1) (some e)) (91 + 2 * acc.length) σ1 = _ from r2, bd_s]
      cases h2 : sk2_ (sp_ y (ac_ acc (acc.length - 1)) e) with
      | none =>
        refine ⟨σ2, ?_, f2'⟩
        rcases sk2_r h2 with q | q
        · rw [q]; rfl
        · rw [q]; rfl
      | some u =>
        have h3 := sk2_s h2
        have h4 := sk2_gt g gl (by omega) h2
        have tu := u2 u h3.2.2
        have ht2 : ∀ j, j < acc.length → tm_ σ2 (91 + 2 * j) (ac_ acc j) := fun j hj => tm_fi f2 (by omega) (by omega) (ht1 j hj)
        have r3 := x7_repeats hx2.1 (by omega) (fun j hj => (gt j hj).2) h3.2.1 ht2 tu acc.length 0 5000 (by omega) (by omega)
        rw [List.drop_zero] at r3
        rw [h3.1, if_pos (nI_pos' (by omega))]
        unfold fX7_repeatsEarlier
        rw [show fX7_repeatsEarlier_2 5000 5000 88 (nI acc.length) 0 σ2 = _ from r3, bd_s]
        by_cases hc : u ∈ acc
        · refine ⟨σ2, ?_, f2'⟩
          rw [decide_eq_true hc, bi_t, if_neg (by decide)]
          show _ = some (lo_ (-5) (if u ∈ acc then some acc.length else fl_ y n (acc ++ [u])), σ2)
          rw [if_pos hc]
          rfl
        · obtain ⟨σ4, r4, f4⟩ := ih k σ2 (acc ++ [u]) (by omega) (by rw [List.length_append, List.length_singleton]; omega) (by simp) (fun j hj => by
            rw [List.length_append, List.length_singleton] at hj
            rw [ac_push hj]
            by_cases q : j < acc.length
            · rw [if_pos q]; exact gt j q
            · rw [if_neg q]; exact h4.1) hx2 (fun j hj => by
            rw [List.length_append, List.length_singleton] at hj
            rw [ac_push hj]
            by_cases q : j < acc.length
            · rw [if_pos q]; exact ht2 j q
            · rw [if_neg q, show j = acc.length by omega]; exact tu)
          refine ⟨σ4, ?_, fi_tr f2' f4 (fun a q => q) (fun a q => q)⟩
          rw [List.length_append, List.length_singleton] at r4
          rw [decide_eq_false hc, bi_f, if_pos rfl, show nI acc.length + 1 = nI (acc.length + 1) from n_add acc.length 1, r4]
          show _ = some (lo_ (-5) (if u ∈ acc then some acc.length else fl_ y n (acc ++ [u])), σ4)
          rw [if_neg hc]
theorem ms_fm {σ σ' : js_S} {y : js_Y} (h : fm_ σ σ') (hm : ms_ σ y) : ms_ σ' y := by
  have e1 : σ'.1 391 = σ.1 391 := fm_row h (fun b => by unfold sM_; omega)
  have e3 : σ'.1 393 = σ.1 393 := fm_row h (fun b => by unfold sM_; omega)
  have e0 : σ'.1 390 6 = σ.1 390 6 := h.2.2 390 6 (by unfold sM_; omega)
  exact ⟨by rw [h.1]; exact hm.1, by rw [e1]; exact hm.2.1, by rw [e0]; exact hm.2.2.1, fun i hi => ⟨rw_eq e3 (hm.2.2.2 i hi).1, rw_eq e3 (hm.2.2.2 i hi).2⟩⟩
theorem fm_meet {σ σ' : js_S} {n : Nat} (h1 : σ'.2 = σ.2) (h2 : ∀ a b, a ≠ 418 → ¬ (a = 419 ∧ b = n) → ¬ (a = 390 ∧ b = 38) → σ'.1 a b = σ.1 a b) : fm_ σ σ' := ⟨by rw [h1], fun a _ => by rw [h1], fun a b q => h2 a b (fun z => q (by unfold sM_; omega)) (fun z => q (by unfold sM_; omega)) (fun z => q (by unfold sM_; omega))⟩
theorem fm99 {σ σ' : js_S} (h : fi_ (fun z => z = 397 ∨ z = 398 ∨ z = 399) σ σ') : fm_ σ σ' := fm_fi h (fun a b q z => q (by unfold sM_; omega))
theorem m_fl {y : js_Y} {lim : Nat} (g : gy_ y) (hlim : lim ≤ 100) : ∀ (n k : Nat) (σ : js_S) (acc : List (List Int32)), n < k → n + acc.length = lim + 1 → 0 < acc.length → (∀ j, j < acc.length → gt_ y.1 (ac_ acc j)) → ms_ σ y → mm_ σ acc → ∃ σ', fX12_findLoop_41 5000 k 390 (nI lim) (nI acc.length) σ = some (lo_ (-5) (fl_ y n acc), σ') ∧ fm_ σ σ' := by
  have h6 := g.2.1
  intro n
  induction n with
  | zero =>
    intro k σ acc hk hn h0 gt hx ht
    obtain ⟨k, rfl⟩ : ∃ j, k = j + 1 := ⟨k - 1, by omega⟩
    refine ⟨σ, ?_, fm_rf⟩
    rw [sX12_findLoop_41]
    unfold fX12_findLoop_41b
    rw [if_pos ((n_lt (by omega) (by omega)).mpr (by omega))]
    rfl
  | succ n ih =>
    intro k σ acc hk hn h0 gt hx ht
    obtain ⟨k, rfl⟩ : ∃ j, k = j + 1 := ⟨k - 1, by omega⟩
    have gl := gt (acc.length - 1) (by omega)
    have t40 := gl.2
    obtain ⟨σ1, r1, f1⟩ := m_redex (o := 418) (p := 96 * (acc.length - 1)) (i := 0) g gl (by omega) (by rw [ln_418]; omega) (by rw [ln_418]; omega) (by omega) hx (ht.2 _ (by omega))
    have hx1 := ms_fi f1 (fun a q => by omega) hx
    have ht1 := mm_fi f1 (by omega) (by omega) ht
    rw [sX12_findLoop_41]
    unfold fX12_findLoop_41b
    rw [if_neg (fun z => by have := (n_lt (by omega) (by omega)).mp z; omega), lm_36 hx.1, ht.1, n_pred h0, n_96, show fX12_redex 5000 390 418 (nI (96 * (acc.length - 1))) 0 σ = _ from r1, bd_s, fl_s]
    cases h1 : rfi_ (rx_ y (ac_ acc (acc.length - 1))) (ac_ acc (acc.length - 1)).length 0 0 with
    | none => exact ⟨σ1, by rw [if_pos (show lo_ (-5) none < 0 from by decide)]; rfl, fm97 f1⟩
    | some e =>
      have he := rfi_lt h1
      obtain ⟨σ2, r2, f2, u2⟩ := m_rewrite (o := 418) (p := 96 * (acc.length - 1)) (e := e) g gl (by omega) (by omega) (by rw [ln_418]; omega) (by rw [ln_418]; omega) hx1 (ht1.2 _ (by omega))
      have f2' : fm_ σ σ2 := fm_tr (fm97 f1) (fm99 f2)
      have hx2 := ms_fi f2 (fun a q => by omega) hx1
      have ht2 := mm_fi f2 (by omega) (by omega) ht1
      rw [Option.bind_some, if_neg (show ¬ lo_ (-5) (some e) < 0 from nI_pos (by omega)), lm_36 hx1.1, show fX12_rewrite 5000 390 418 (nI (96 * (acc.length - 1))) (lo_ (-5) (some e)) σ1 = _ from r2, bd_s]
      cases h2 : sk2_ (sp_ y (ac_ acc (acc.length - 1)) e) with
      | none =>
        refine ⟨σ2, ?_, f2'⟩
        rcases sk2_r h2 with q | q
        · rw [q]; rfl
        · rw [q]; rfl
      | some u =>
        have h3 := sk2_s h2
        have h4 := sk2_gt g gl (by omega) h2
        have tu := u2 u h3.2.2 h3.2.1
        have r3 := m_isMet (a := y.1) hx2.1 (by omega) gt h4.1 ht2 tu acc.length 0 5000 (by omega) (by omega)
        rw [List.drop_zero] at r3
        rw [h3.1, if_pos (nI_pos' (by omega))]
        unfold fX12_isMet
        rw [show fX12_isMet_4 5000 5000 390 0 0 σ2 = _ from r3, bd_s]
        by_cases hc : u ∈ acc
        · refine ⟨σ2, ?_, f2'⟩
          rw [decide_eq_true hc, bi_t, if_neg (by decide)]
          show _ = some (lo_ (-5) (if u ∈ acc then some acc.length else fl_ y n (acc ++ [u])), σ2)
          rw [if_pos hc]
          rfl
        · obtain ⟨σ3, q1, q2, q3, q4, -⟩ := m_meet (o := 399) (p := 0) hx2.1 (by omega) ht2 tu h3.2.1 (fun j hj => (gt j hj).2) (by omega) (by rw [ln_399]; omega) (by rw [ln_399]; omega)
          have f3 : fm_ σ2 σ3 := fm_meet q2 q3
          obtain ⟨σ4, r4, f4⟩ := ih k σ3 (acc ++ [u]) (by omega) (by rw [List.length_append, List.length_singleton]; omega) (by simp) (fun j hj => by
            rw [List.length_append, List.length_singleton] at hj
            rw [ac_push hj]
            by_cases q : j < acc.length
            · rw [if_pos q]; exact gt j q
            · rw [if_neg q]; exact h4.1) (ms_fm f3 hx2) q4
          refine ⟨σ4, ?_, fm_tr f2' (fm_tr f3 f4)⟩
          rw [List.length_append, List.length_singleton] at r4
          rw [decide_eq_false hc, bi_f, if_pos rfl, lm_11 hx2.1, show fX12_meet 5000 390 399 0 σ2 = _ from q1, bd_s, show nI acc.length + 1 = nI (acc.length + 1) from n_add acc.length 1, r4]
          show _ = some (lo_ (-5) (if u ∈ acc then some acc.length else fl_ y n (acc ++ [u])), σ4)
          rw [if_neg hc]
theorem op_findLoop {σ : js_S} {y : js_Y} {sn : Option js_Y} {tx : List Int32} (h : iv_ σ y sn tx) (x z : Int32) : ∃ r σ1 σ2, fX11_findLoop 5000 1 x z σ = some (r, σ1) ∧ fx_ σ σ1 ∧ fX12_findLoop 5000 390 x z σ1 = some (r, σ2) ∧ fm_ σ1 σ2 := by
  have gy := h.2.2.1
  unfold fX11_findLoop fX12_findLoop
  by_cases hc : ∃ i, i < 4 ∧ x = nI i
  · obtain ⟨i, hi, rfl⟩ := hc
    have gt := gy.2.2.2 i hi
    have t40 := gt.2
    have hl := h.1.1
    by_cases hz : ∃ n, 1 ≤ n ∧ n ≤ 100 ∧ z = nI n
    · obtain ⟨n, hn1, hn, rfl⟩ := hz
      have c1 : nI n ≤ 100 := (n_le (b := 100) (by omega) (by omega)).mpr hn
      have c2 : ¬ 100 < nI n := fun w => by have := (n_lt (a := 100) (by omega) (by omega)).mp w; omega
      have c3 : ¬ nI n < 1 := fun w => by have := (n_lt (b := 1) (by omega) (by omega)).mp w; omega
      obtain ⟨σ1, r1, f1, u1⟩ := x9_copyFrom (fu := 5000) (d := 91) (s := 34 + 2 * i) (to_seq hl 0 (by omega)) (to_reg hl i hi) (sx_reg h.1.2.2.1 hi) (by omega)
      have f1' : fi_ (fun a => 85 ≤ a ∧ a ≤ 365) σ σ1 := fi_mono f1 (fun a q => by omega)
      have hg1 : ∀ j, j < [y.2.2 i].length → gt_ y.1 (ac_ [y.2.2 i] j) := fun j hj => by
        rw [List.length_singleton] at hj
        rw [show j = 0 by omega]
        exact gt
      obtain ⟨σ2, r2, f2⟩ := x_fl gy hn n 5000 σ1 [y.2.2 i] (by omega) (by simp) (by simp) hg1 (xs_fi f1 gy.2.1 (fun a q => by omega) (xs_of hl h.1.2.2.1)) (fun j hj => by
        rw [List.length_singleton] at hj
        rw [show j = 0 by omega]
        exact u1)
      have fx2 : fx_ σ σ2 := fx_s (fi_tr f1' f2 (fun a q => q) (fun a q => q))
      have h2 := iv_x fx2 h
      have hm2 := h2.2.1.1
      have fa : fm_ σ2 (uI_ σ2 390 38 0) := fm_u (by unfold sM_; omega)
      have ha := iv_m fa h2
      obtain ⟨σ3, q1, q2, q3, q4, -⟩ := m_meet (σ := uI_ σ2 390 38 0) (acc := []) (u := y.2.2 i) (o := 395) (p := 96 * i) ha.2.1.1 (by simp) ⟨uI_same, fun j hj => by simp at hj⟩ (ha.2.1.2.1.2.2.2 i hi) t40 (fun j hj => by simp at hj) (by omega) (by rw [ln_395]; omega) (by rw [ln_395]; omega)
      have fb : fm_ (uI_ σ2 390 38 0) σ3 := fm_meet q2 q3
      obtain ⟨σ4, r4, f4⟩ := m_fl gy hn n 5000 σ3 [y.2.2 i] (by omega) (by simp) (by simp) hg1 (ms_fm fb (ms_of ha.2.1.1 ha.2.1.2.1)) q4
      refine ⟨lo_ (-5) (fl_ y n [y.2.2 i]), σ2, σ4, ?_, fx2, ?_, fm_tr fa (fm_tr fb f4)⟩
      · unfold fX7_stepsToRepetition
        rw [x_reg hi, bd_s, if_neg (by decide), if_neg c3, if_pos c1, lx_1_0 hl, x6_register hl hi, bd_s, lx_1_5 hl, lx_88_1 hl, ln_90, if_pos (by decide)]
        show bd_ (bd_ (fX9_copyFrom 5000 (σ.2.2 90 0) (34 + 2 * i) σ) _) _ = _
        rw [lx_90 hl (by omega), r1, bd_s, show fX7_stepsToRepetition_13 5000 5000 88 2 (nI n) 1 σ1 = _ from r2, bd_s]
      · rw [m_reg hi, bd_s, if_neg (by decide), m_isIn, bd_s, if_neg c3, if_neg c2, if_neg (by decide), lt_s_, lm_4 ha.2.1.1, n_96, q1, bd_s]
        exact r4
    · refine ⟨-2, σ, σ, ?_, fx_rf, ?_, fm_rf⟩
      · rw [x_reg hi, bd_s, if_neg (by decide)]
        rcases n_cases z with q | ⟨k, hk, rfl⟩
        · rw [if_pos (show z < 1 from n_neg (a := 1) q (by omega))]
        · by_cases hk1 : 1 ≤ k
          · have c1 : ¬ nI k ≤ 100 := fun w => hz ⟨k, hk1, (n_le (b := 100) (by omega) (by omega)).mp w, rfl⟩
            have c3 : ¬ nI k < 1 := fun w => by have := (n_lt (b := 1) (by omega) (by omega)).mp w; omega
            rw [if_neg c3, if_neg c1]
          · have c3 : nI k < 1 := (n_lt (b := 1) (by omega) (by omega)).mpr (by omega)
            rw [if_pos c3]
      · rw [m_reg hi, bd_s, if_neg (by decide), m_isIn, bd_s]
        rcases n_cases z with q | ⟨k, hk, rfl⟩
        · rw [if_pos (show z < 1 from n_neg (a := 1) q (by omega)), if_pos rfl]
        · by_cases hk1 : 1 ≤ k
          · have c1 : 100 < nI k := (n_lt (a := 100) (by omega) (by omega)).mpr (by
              rcases Nat.lt_or_ge 100 k with w | w
              · exact w
              · exact absurd ⟨k, hk1, w, rfl⟩ hz)
            have c3 : ¬ nI k < 1 := fun w => by have := (n_lt (b := 1) (by omega) (by omega)).mp w; omega
            rw [if_neg c3, if_pos c1, if_pos rfl]
          · have c3 : nI k < 1 := (n_lt (b := 1) (by omega) (by omega)).mpr (by omega)
            rw [if_pos c3, if_pos rfl]
  · refine ⟨-1, σ, σ, ?_, fx_rf, ?_, fm_rf⟩
    · rw [x_noreg hc, bd_s, if_pos rfl]
    · rw [m_noreg hc, bd_s, if_pos rfl]
