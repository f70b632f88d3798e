/-! what lasts between calls, and what may change -/
def sX_ (a b : Nat) : Prop := a = 84 ∨ (85 ≤ a ∧ a ≤ 365) ∨ (a = 82 ∧ b = 3)
def sM_ (a b : Nat) : Prop := (397 ≤ a ∧ a ≠ 400 ∧ a ≠ 412) ∨ (a = 390 ∧ (b = 16 ∨ b = 23 ∨ b = 24 ∨ b = 29 ∨ b = 35 ∨ b = 38 ∨ b = 39 ∨ b = 40))
/-- the row of found terms: each of the 31 places holds one of the 31 terms, no two the same -/
def fd_ (r : Nat → Nat → Nat) : Prop := (∀ j, j < 31 → ∃ i, i < 31 ∧ r 294 j = 302 + 2 * i) ∧ ∀ j k, j < 31 → k < 31 → r 294 j = r 294 k → j = k
/-- a change of the class's scratch alone -/
def fx_ (σ σ' : js_S) : Prop := (∀ o, o ≠ 294 → σ'.2.2 o = σ.2.2 o) ∧ (fd_ σ.2.2 → fd_ σ'.2.2) ∧ σ'.2.1 = σ.2.1 ∧ ∀ a b, ¬ sX_ a b → σ'.1 a b = σ.1 a b
/-- a change of the model's scratch alone -/
def fm_ (σ σ' : js_S) : Prop := σ'.2.2 = σ.2.2 ∧ (∀ a, a < 390 → σ'.2.1 a = σ.2.1 a) ∧ ∀ a b, ¬ sM_ a b → σ'.1 a b = σ.1 a b
theorem fx_rf {σ : js_S} : fx_ σ σ := ⟨fun _ _ => rfl, fun h => h, rfl, fun _ _ _ => rfl⟩
theorem fm_rf {σ : js_S} : fm_ σ σ := ⟨rfl, fun _ _ => rfl, fun _ _ _ => rfl⟩
theorem fx_tr {σ σ1 σ2 : js_S} (h : fx_ σ σ1) (h2 : fx_ σ1 σ2) : fx_ σ σ2 := ⟨fun o ho => (h2.1 o ho).trans (h.1 o ho), fun q => h2.2.1 (h.2.1 q), h2.2.2.1.trans h.2.2.1, fun a b q => (h2.2.2.2 a b q).trans (h.2.2.2 a b q)⟩
theorem fm_tr {σ σ1 σ2 : js_S} (h : fm_ σ σ1) (h2 : fm_ σ1 σ2) : fm_ σ σ2 := ⟨h2.1.trans h.1, fun a q => (h2.2.1 a q).trans (h.2.1 a q), fun a b q => (h2.2.2 a b q).trans (h.2.2 a b q)⟩
theorem fx_fi {S : Nat → Prop} {σ σ' : js_S} (h : fi_ S σ σ') (hS : ∀ a b, ¬ sX_ a b → ¬ S a) : fx_ σ σ' := ⟨fun o _ => by rw [fi_r h], fun q => by rw [fi_r h]; exact q, by rw [h.1], fun a b q => by rw [h.2 a (hS a b q)]⟩
theorem fm_fi {S : Nat → Prop} {σ σ' : js_S} (h : fi_ S σ σ') (hS : ∀ a b, ¬ sM_ a b → ¬ S a) : fm_ σ σ' := ⟨fi_r h, fun a _ => by rw [h.1], fun a b q => by rw [h.2 a (hS a b q)]⟩
theorem fm_u {σ : js_S} {o j : Nat} {x : Int32} (h : sM_ o j) : fm_ σ (uI_ σ o j x) := ⟨rfl, fun _ _ => rfl, fun a b q => uI_ne (fun z => q (by rw [z.1, z.2]; exact h))⟩
theorem fx_u {σ : js_S} {o j : Nat} {x : Int32} (h : sX_ o j) : fx_ σ (uI_ σ o j x) := ⟨fun _ _ => rfl, fun q => q, rfl, fun a b q => uI_ne (fun z => q (by rw [z.1, z.2]; exact h))⟩
theorem fx_row {σ σ' : js_S} (h : fx_ σ σ') {a : Nat} (ha : ∀ b, ¬ sX_ a b) : σ'.1 a = σ.1 a := by
  funext b
  exact h.2.2.2 a b (ha b)
theorem fm_row {σ σ' : js_S} (h : fm_ σ σ') {a : Nat} (ha : ∀ b, ¬ sM_ a b) : σ'.1 a = σ.1 a := by
  funext b
  exact h.2.2 a b (ha b)
theorem lx_eq {r r' : Nat → Nat → Nat} (h : ∀ o, o ≠ 294 → r' o = r o) (hl : lx_ r) : lx_ r' := fun o j h1 h2 => by rw [h o h2]; exact hl o j h1 h2
theorem lm_eq {r r' : Nat → Nat → Nat} (h : ∀ o, o ≠ 294 → r' o = r o) (hl : lm_ r) : lm_ r' := fun j => by rw [h 390 (by decide)]; exact hl j
theorem tm_eq {σ σ' : js_S} {o : Nat} {t : List Int32} (h1 : σ'.1 o = σ.1 o) (h2 : σ'.1 (o + 1) = σ.1 (o + 1)) (ht : tm_ σ o t) : tm_ σ' o t := by
  unfold tm_
  rw [h1, h2]
  exact ht
theorem sx_eq {σ σ' : js_S} {b : Nat} {y : js_Y} (hy : y.2.1.length ≤ 6) (hS : ∀ a, b ≤ a → a < b + 40 → σ'.1 a = σ.1 a) (hx : sx_ σ b y) : sx_ σ' b y := by
  obtain ⟨h1, h2, h3, h4⟩ := hx
  refine ⟨?_, by rw [hS b (by omega) (by omega)]; exact h2, fun i hi => ⟨?_, ?_⟩, fun i hi => ?_⟩
  · unfold sg_
    rw [hS (b + 1 + 1) (by omega) (by omega)]
    exact h1
  · exact tm_eq (hS _ (by omega) (by omega)) (hS _ (by omega) (by omega)) (h3 i hi).1
  · exact tm_eq (hS _ (by omega) (by omega)) (hS _ (by omega) (by omega)) (h3 i hi).2
  · exact tm_eq (hS _ (by omega) (by omega)) (hS _ (by omega) (by omega)) (h4 i hi)
theorem vw_eq {σ σ' : js_S} {o p : Nat} {t : List Int32} (h : σ'.1 o = σ.1 o) (ht : vw_ σ o p t) : vw_ σ' o p t := by
  unfold vw_
  rw [h]
  exact ht
theorem rw_eq {σ σ' : js_S} {o p : Nat} {t : List Int32} (h : σ'.1 o = σ.1 o) (ht : rw_ σ o p t) : rw_ σ' o p t := ⟨by rw [h]; exact ht.1, vw_eq h ht.2⟩
theorem sm_eq {σ σ' : js_S} {oa oq og c : Nat} {y : js_Y} (h1 : σ'.1 oa = σ.1 oa) (h2 : σ'.1 oq = σ.1 oq) (h3 : σ'.1 og = σ.1 og) (h4 : σ'.1 390 c = σ.1 390 c) (h : sm_ σ oa oq og c y) : sm_ σ' oa oq og c y := by
  obtain ⟨q1, q2, q3, q4⟩ := h
  refine ⟨by rw [h1]; exact q1, by rw [h4]; exact q2, fun i hi => ⟨rw_eq h2 (q3 i hi).1, rw_eq h2 (q3 i hi).2⟩, fun i hi => rw_eq h3 (q4 i hi)⟩
/-- the class between calls, its caches apart -/
def ix_ (σ : js_S) (y : js_Y) (sn : Option js_Y) (tx : List Int32) : Prop := lx_ σ.2.2 ∧ fd_ σ.2.2 ∧ sx_ σ 2 y ∧ (σ.1 1 2 = if sn.isSome = true then 1 else 0) ∧ (∀ z, sn = some z → sx_ σ 42 z) ∧ σ.1 82 2 = nI tx.length ∧ vw_ σ 83 0 tx
/-- the model between calls -/
def im_ (σ : js_S) (y : js_Y) (sn : Option js_Y) (tx : List Int32) : Prop := lm_ σ.2.2 ∧ sm_ σ 391 393 395 6 y ∧ (σ.1 390 8 = if sn.isSome = true then 1 else 0) ∧ (∀ z, sn = some z → sm_ σ 392 394 396 7 z) ∧ σ.1 390 15 = nI tx.length ∧ vw_ σ 400 0 tx ∧ ∀ k, σ.1 412 k = 0
/-- what is good of the state -/
def gs_ (y : js_Y) (sn : Option js_Y) (tx : List Int32) : Prop := gy_ y ∧ (∀ z, sn = some z → gy_ z) ∧ tx.length ≤ 80
theorem ix_fx {σ σ' : js_S} {y : js_Y} {sn : Option js_Y} {tx : List Int32} (h : fx_ σ σ') (g : gs_ y sn tx) (hx : ix_ σ y sn tx) : ix_ σ' y sn tx := by
  obtain ⟨h1, h2, h3, h4, h5, h6, h7⟩ := hx
  refine ⟨lx_eq h.1 h1, h.2.1 h2, sx_eq g.1.2.1 (fun a h1 h2 => fx_row h (fun b => ?_)) h3, ?_, fun z hz => sx_eq (g.2.1 z hz).2.1 (fun a h1 h2 => fx_row h (fun b => ?_)) (h5 z hz), ?_, vw_eq (fx_row h (fun b => ?_)) h7⟩
  · unfold sX_; omega
  · rw [h.2.2.2 1 2 (by unfold sX_; omega)]; exact h4
  · unfold sX_; omega
  · rw [h.2.2.2 82 2 (by unfold sX_; omega)]; exact h6
  · unfold sX_; omega
theorem im_fx {σ σ' : js_S} {y : js_Y} {sn : Option js_Y} {tx : List Int32} (h : fx_ σ σ') (hx : im_ σ y sn tx) : im_ σ' y sn tx := by
  have hr : ∀ a, 390 ≤ a → σ'.1 a = σ.1 a := fun a ha => fx_row h (fun b => by unfold sX_; omega)
  obtain ⟨h1, h2, h3, h4, h5, h6, h7⟩ := hx
  refine ⟨lm_eq h.1 h1, sm_eq (hr _ (by omega)) (hr _ (by omega)) (hr _ (by omega)) (by rw [hr 390 (by omega)]) h2, by rw [hr 390 (by omega)]; exact h3, fun z hz => sm_eq (hr _ (by omega)) (hr _ (by omega)) (hr _ (by omega)) (by rw [hr 390 (by omega)]) (h4 z hz), by rw [hr 390 (by omega)]; exact h5, vw_eq (hr _ (by omega)) h6, fun k => by rw [hr 412 (by omega)]; exact h7 k⟩
theorem ix_fm {σ σ' : js_S} {y : js_Y} {sn : Option js_Y} {tx : List Int32} (h : fm_ σ σ') (g : gs_ y sn tx) (hx : ix_ σ y sn tx) : ix_ σ' y sn tx := by
  have hr : ∀ a, a < 390 → σ'.1 a = σ.1 a := fun a ha => fm_row h (fun b => by unfold sM_; omega)
  obtain ⟨h1, h2, h3, h4, h5, h6, h7⟩ := hx
  refine ⟨by rw [h.1]; exact h1, by rw [h.1]; exact h2, sx_eq g.1.2.1 (fun a h1 h2 => hr a (by omega)) h3, by rw [hr 1 (by omega)]; exact h4, fun z hz => sx_eq (g.2.1 z hz).2.1 (fun a h1 h2 => hr a (by omega)) (h5 z hz), by rw [hr 82 (by omega)]; exact h6, vw_eq (hr 83 (by omega)) h7⟩
theorem im_fm {σ σ' : js_S} {y : js_Y} {sn : Option js_Y} {tx : List Int32} (h : fm_ σ σ') (hx : im_ σ y sn tx) : im_ σ' y sn tx := by
  have hr : ∀ a, (391 ≤ a ∧ a ≤ 396) ∨ a = 400 ∨ a = 412 → σ'.1 a = σ.1 a := fun a ha => fm_row h (fun b => by unfold sM_; omega)
  have h0 : ∀ b, b = 6 ∨ b = 7 ∨ b = 8 ∨ b = 15 → σ'.1 390 b = σ.1 390 b := fun b hb => h.2.2 390 b (by unfold sM_; omega)
  obtain ⟨h1, h2, h3, h4, h5, h6, h7⟩ := hx
  refine ⟨by rw [h.1]; exact h1, sm_eq (hr _ (by omega)) (hr _ (by omega)) (hr _ (by omega)) (h0 _ (by omega)) h2, by rw [h0 8 (by omega)]; exact h3, fun z hz => sm_eq (hr _ (by omega)) (hr _ (by omega)) (hr _ (by omega)) (h0 _ (by omega)) (h4 z hz), by rw [h0 15 (by omega)]; exact h5, vw_eq (hr 400 (by omega)) h6, fun k => by rw [hr 412 (by omega)]; exact h7 k⟩
/-! the text -/
theorem at_push {l : List Int32} {x : Int32} {k : Nat} : at_ (l ++ [x]) k = if k < l.length then at_ l k else if k = l.length then x else 0 := by
  unfold at_
  rw [List.getD_eq_getElem?_getD, List.getD_eq_getElem?_getD]
  by_cases h : k < l.length
  · rw [if_pos h, List.getElem?_append_left h]
  · rw [if_neg h, List.getElem?_append_right (by omega)]
    by_cases h2 : k = l.length
    · rw [if_pos h2, h2, Nat.sub_self]
      rfl
    · rw [if_neg h2, List.getElem?_eq_none (by simp; omega)]
      rfl
theorem vw_push {σ : js_S} {o p : Nat} {l : List Int32} {x : Int32} (h : vw_ σ o p l) : vw_ (uI_ σ o (p + l.length) x) o p (l ++ [x]) := by
  intro k hk
  rw [List.length_append, List.length_singleton] at hk
  rw [at_push]
  by_cases h1 : k < l.length
  · rw [if_pos h1, uI_ne (by omega)]
    exact h k h1
  · rw [if_neg h1, if_pos (by omega), show k = l.length by omega]
    exact uI_same
/-- the class and the model agree on what is known, the caches apart -/
def iv_ (σ : js_S) (y : js_Y) (sn : Option js_Y) (tx : List Int32) : Prop := ix_ σ y sn tx ∧ im_ σ y sn tx ∧ gs_ y sn tx
/-- the class's caches stay as they were -/
def ce2_ (σ σ' : js_S) : Prop := (∀ b, b ≠ 2 → σ'.1 1 b = σ.1 1 b) ∧ (∀ a, 366 ≤ a → a < 390 → σ'.1 a = σ.1 a ∧ σ'.2.1 a = σ.2.1 a) ∧ ∀ o, o ≠ 294 → σ'.2.2 o = σ.2.2 o
theorem ce2_tr {σ σ1 σ2 : js_S} (h : ce2_ σ σ1) (h2 : ce2_ σ1 σ2) : ce2_ σ σ2 := ⟨fun b q => (h2.1 b q).trans (h.1 b q), fun a q r => ⟨((h2.2.1 a q r).1).trans (h.2.1 a q r).1, ((h2.2.1 a q r).2).trans (h.2.1 a q r).2⟩, fun o ho => (h2.2.2 o ho).trans (h.2.2 o ho)⟩
theorem ce2_rf {σ : js_S} : ce2_ σ σ := ⟨fun _ _ => rfl, fun _ _ _ => ⟨rfl, rfl⟩, fun _ _ => rfl⟩
theorem ce2_fx {σ σ' : js_S} (h : fx_ σ σ') : ce2_ σ σ' := ⟨fun b _ => h.2.2.2 1 b (by unfold sX_; omega), fun a h1 h2 => ⟨fx_row h (fun b => by unfold sX_; omega), by rw [h.2.2.1]⟩, h.1⟩
theorem ce2_fm {σ σ' : js_S} (h : fm_ σ σ') : ce2_ σ σ' := ⟨fun b _ => h.2.2 1 b (by unfold sM_; omega), fun a h1 h2 => ⟨fm_row h (fun b => by unfold sM_; omega), h.2.1 a h2⟩, fun o _ => by rw [h.1]⟩
theorem iv_x {σ σ' : js_S} {y : js_Y} {sn : Option js_Y} {tx : List Int32} (h : fx_ σ σ') (g : iv_ σ y sn tx) : iv_ σ' y sn tx := ⟨ix_fx h g.2.2 g.1, im_fx h g.2.1, g.2.2⟩
theorem iv_m {σ σ' : js_S} {y : js_Y} {sn : Option js_Y} {tx : List Int32} (h : fm_ σ σ') (g : iv_ σ y sn tx) : iv_ σ' y sn tx := ⟨ix_fm h g.2.2 g.1, im_fm h g.2.1, g.2.2⟩
theorem iv_pq {σ : js_S} {y : js_Y} {sn : Option js_Y} {tx : List Int32} (h : iv_ σ y sn tx) : pq_ σ y := ⟨h.1.1, h.2.1.1, h.1.2.2.1, h.2.1.2.1, h.2.2.1⟩
theorem op_textLength {σ : js_S} {y : js_Y} {sn : Option js_Y} {tx : List Int32} (h : iv_ σ y sn tx) : ∃ r, fX11_textLength 5000 1 σ = some (r, σ) ∧ fX12_textLength 5000 390 σ = some (r, σ) := by
  obtain ⟨⟨hx, -, -, -, -, h1, -⟩, ⟨-, -, -, -, h2, -⟩, -⟩ := h
  unfold fX11_textLength fX12_textLength
  rw [lx_1_3 hx, h1, h2]
  exact ⟨_, rfl, rfl⟩
/-- a write into the class's text -/
theorem ix_tx {σ σ' : js_S} {y : js_Y} {sn : Option js_Y} {tx tx' : List Int32} (g : gs_ y sn tx) (h2 : σ'.2 = σ.2) (hS : ∀ a, a ≠ 82 → a ≠ 83 → σ'.1 a = σ.1 a) (h3 : σ'.1 82 2 = nI tx'.length) (h4 : vw_ σ' 83 0 tx') (hx : ix_ σ y sn tx) : ix_ σ' y sn tx' := by
  obtain ⟨q1, q2, q3, q4, q5, q6, q7⟩ := hx
  refine ⟨by rw [h2]; exact q1, by rw [h2]; exact q2, sx_eq g.1.2.1 (fun a _ _ => hS a (by omega) (by omega)) q3, by rw [hS 1 (by omega) (by omega)]; exact q4, fun z hz => sx_eq (g.2.1 z hz).2.1 (fun a _ _ => hS a (by omega) (by omega)) (q5 z hz), h3, h4⟩
theorem im_x {σ σ' : js_S} {y : js_Y} {sn : Option js_Y} {tx : List Int32} (hr : ∀ a, 390 ≤ a → σ'.1 a = σ.1 a) (hr2 : ∀ o, o ≠ 294 → σ'.2.2 o = σ.2.2 o) (hx : im_ σ y sn tx) : im_ σ' y sn tx := by
  obtain ⟨h1, h2, h3, h4, h5, h6, h7⟩ := hx
  refine ⟨lm_eq hr2 h1, sm_eq (hr _ (by omega)) (hr _ (by omega)) (hr _ (by omega)) (by rw [hr 390 (by omega)]) h2, by rw [hr 390 (by omega)]; exact h3, fun z hz => sm_eq (hr _ (by omega)) (hr _ (by omega)) (hr _ (by omega)) (by rw [hr 390 (by omega)]) (h4 z hz), by rw [hr 390 (by omega)]; exact h5, vw_eq (hr _ (by omega)) h6, fun k => by rw [hr 412 (by omega)]; exact h7 k⟩
theorem ix_m {σ σ' : js_S} {y : js_Y} {sn : Option js_Y} {tx : List Int32} (g : gs_ y sn tx) (hr : ∀ a, a < 390 → σ'.1 a = σ.1 a) (h2 : σ'.2.2 = σ.2.2) (hx : ix_ σ y sn tx) : ix_ σ' y sn tx := by
  obtain ⟨q1, q2, q3, q4, q5, q6, q7⟩ := hx
  refine ⟨by rw [h2]; exact q1, by rw [h2]; exact q2, sx_eq g.1.2.1 (fun a _ _ => hr a (by omega)) q3, by rw [hr 1 (by omega)]; exact q4, fun z hz => sx_eq (g.2.1 z hz).2.1 (fun a _ _ => hr a (by omega)) (q5 z hz), by rw [hr 82 (by omega)]; exact q6, vw_eq (hr 83 (by omega)) q7⟩
/-- a write into the model's text -/
theorem im_tx {σ σ' : js_S} {y : js_Y} {sn : Option js_Y} {tx tx' : List Int32} (h2 : σ'.2 = σ.2) (hS : ∀ a b, ¬ (a = 390 ∧ b = 15) → a ≠ 400 → σ'.1 a b = σ.1 a b) (h3 : σ'.1 390 15 = nI tx'.length) (h4 : vw_ σ' 400 0 tx') (hx : im_ σ y sn tx) : im_ σ' y sn tx' := by
  have hr : ∀ a, a ≠ 390 → a ≠ 400 → σ'.1 a = σ.1 a := fun a q1 q2 => funext (fun b => hS a b (by omega) q2)
  obtain ⟨q1, q2, q3, q4, q5, q6, q7⟩ := hx
  refine ⟨by rw [h2]; exact q1, sm_eq (hr _ (by omega) (by omega)) (hr _ (by omega) (by omega)) (hr _ (by omega) (by omega)) (hS _ _ (by omega) (by omega)) q2, by rw [hS 390 8 (by omega) (by omega)]; exact q3, fun z hz => sm_eq (hr _ (by omega) (by omega)) (hr _ (by omega) (by omega)) (hr _ (by omega) (by omega)) (hS _ _ (by omega) (by omega)) (q4 z hz), h3, h4, fun k => by rw [hr 412 (by omega) (by omega)]; exact q7 k⟩
theorem op_clearText {σ : js_S} {y : js_Y} {sn : Option js_Y} {tx : List Int32} (h : iv_ σ y sn tx) : ∃ r σ1 σ2, fX11_clearText 5000 1 σ = some (r, σ1) ∧ fX12_clearText 5000 390 σ1 = some (r, σ2) ∧ iv_ σ2 y sn [] ∧ ce2_ σ σ2 := by
  obtain ⟨hX, hM, g⟩ := h
  have e1 := hX.2.2.2.2.2.1
  have e2 := hM.2.2.2.2.1
  refine ⟨nI tx.length, uI_ σ 82 2 0, uI_ (uI_ σ 82 2 0) 390 15 0, ?_, ?_, ⟨?_, ?_, g.1, g.2.1, by simp⟩, ?_⟩
  · unfold fX11_clearText fX10_empty
    rw [lx_1_3 hX.1]
    simp only [lt_s_, bd_s]
    rw [e1]
  · unfold fX12_clearText
    simp only [lt_s_]
    rw [uI_ne (by omega), e2]
  · have a1 : ix_ (uI_ σ 82 2 0) y sn [] := ix_tx (σ := σ) g rfl (fun a q1 q2 => funext (fun b => uI_ne (by omega))) uI_same (fun k hk => by simp at hk) hX
    exact ix_m ⟨g.1, g.2.1, by simp⟩ (fun a ha => funext (fun b => uI_ne (by omega))) rfl a1
  · have a1 : im_ (uI_ σ 82 2 0) y sn tx := im_x (fun a ha => funext (fun b => uI_ne (by omega))) (fun _ _ => rfl) hM
    exact im_tx (σ := uI_ σ 82 2 0) rfl (fun a b q1 q2 => uI_ne q1) uI_same (fun k hk => by simp at hk) a1
  · refine ⟨fun b _ => ?_, fun a q1 q2 => ⟨funext (fun b => ?_), rfl⟩, fun _ _ => rfl⟩
    · rw [uI_ne (by omega), uI_ne (by omega)]
    · rw [uI_ne (by omega), uI_ne (by omega)]
