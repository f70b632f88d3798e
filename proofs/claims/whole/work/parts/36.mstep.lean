/-! the model's rewrite step -/
theorem take_push {l : List Int32} {i : Nat} (h : i < l.length) : l.take (i + 1) = l.take i ++ [at_ l i] := by
  unfold at_
  rw [List.take_add_one, List.getD_eq_getElem?_getD, List.getElem?_eq_getElem h]
  rfl
theorem in_len {b : Nat → List Int32} : ∀ {l : List Int32}, (∀ v, v < 3 → (b v).length ≤ 40) → (in_ b l).length ≤ 40 * l.length
  | [], h => by simp [in_]
  | s :: l, h => by
    have ih := in_len (l := l) h
    unfold in_
    rw [List.length_append, List.length_cons]
    by_cases hV : isV_ s = true
    · rw [if_pos hV]
      have := h _ (vn_lt s)
      omega
    · rw [if_neg hV, List.length_singleton]
      omega
theorem bm_len {σ : js_S} {a : Nat → Nat} {p : Nat} {t : List Int32} {b : Nat → List Int32} (h : bm_ σ a p t b) : ∀ v, v < 3 → σ.1 398 v = nI (b v).length := fun v hv => (h v hv).elim (fun q => by rw [q.1, q.2]; rfl) (fun ⟨q, _, _, q3, _⟩ => q3)
theorem bm_40 {σ : js_S} {a : Nat → Nat} {p : Nat} {t : List Int32} {b : Nat → List Int32} (h40 : t.length ≤ 40) (h : bm_ σ a p t b) : ∀ v, v < 3 → (b v).length ≤ 40 := fun v hv => (h v hv).elim (fun q => by rw [q.1]; simp) (fun ⟨q, q1, _, _, q4⟩ => by
  rw [q4, su_len]
  have := ep_le (a := a) (Nat.le_of_lt q1)
  omega)
theorem in_cons {b : Nat → List Int32} {s : Int32} {l : List Int32} : in_ b (s :: l) = (if isV_ s = true then b (vn_ s) else [s]) ++ in_ b l := rfl
/-- the count -/
theorem m_rw47 {σ : js_S} {o p r a2 : Nat} {X Y : Int32} {y : js_Y} {t : List Int32} {b : Nat → List Int32} (g : gy_ y) (h40 : t.length ≤ 40) (hr : r < y.2.1.length) (hm : ms_ σ y) (hb : bm_ σ y.1 a2 t b) :
    ∀ (n j k c : Nat), j + n = (rl_ y r).2.length → n < k → c ≤ 40 * (j + 1) → fX12_rewrite_47 5000 k 390 o (nI p) X (nI r) Y (nI c) (nI (j + 1)) σ = if c + (in_ b ((rl_ y r).2.drop j)).length ≤ 40 then fX12_rewrite_128 5000 5000 390 o (nI p) X (nI r) Y (nI (c + (in_ b ((rl_ y r).2.drop j)).length)) 1 (nI p + 1) σ else some (-8, σ) := by
  have gr := g.2.2.1 r hr
  have rr40 := gr.2.1.2
  have h6 := g.2.1
  have hrow := (hm.2.2.2 r hr).2
  have b40 := bm_40 h40 hb
  intro n
  induction n with
  | zero =>
    intro j k c hj hk hc
    obtain ⟨k, rfl⟩ : ∃ j, k = j + 1 := ⟨k - 1, by omega⟩
    rw [sX12_rewrite_47]
    unfold fX12_rewrite_47b fX12_right
    rw [n_right, bd_s, lm_2 hm.1, ln_393, n_ib (by omega), if_pos (by simp; omega), n_cl (by omega), hrow.1, if_pos ((n_lt (by omega) (by omega)).mpr (by omega)), drop_end (by omega)]
    show _ = if c + 0 ≤ 40 then _ else _
    rw [Nat.add_zero]
    by_cases hcc : c ≤ 40
    · have c1 : nI c ≤ 40 := (n_le (b := 40) (by omega) (by omega)).mpr hcc
      rw [if_pos c1, if_pos hcc]
      rfl
    · have c1 : ¬ nI c ≤ 40 := fun z => hcc ((n_le (b := 40) (by omega) (by omega)).mp z)
      rw [if_neg c1, if_neg hcc]
  | succ n ih =>
    intro j k c hj hk hc
    obtain ⟨k, rfl⟩ : ∃ j, k = j + 1 := ⟨k - 1, by omega⟩
    rw [sX12_rewrite_47]
    unfold fX12_rewrite_47b fX12_right fX12_rewrite_101
    have hs : σ.1 393 (192 * r + 96 + (j + 1)) = at_ (rl_ y r).2 j := by
      have := hrow.2 j (by omega)
      rw [show 192 * r + 96 + 1 + j = 192 * r + 96 + (j + 1) by omega] at this
      exact this
    rw [n_right, bd_s, lm_2 hm.1, ln_393, n_ib (by omega), if_pos (by simp; omega), n_cl (by omega), hrow.1, if_neg (fun z => by have := (n_lt (by omega) (by omega)).mp z; omega), bd_s, n_add, n_ib (by omega), if_pos (by simp; omega), n_cl (by omega), hs, m_isV, bd_s, show nI (j + 1) + 1 = nI (j + 1 + 1) from n_add (j + 1) 1]
    rw [drop_get (l := (rl_ y r).2) (p := j) (by omega), in_cons, List.length_append]
    by_cases hV : isV_ (at_ (rl_ y r).2 j) = true
    · have hv := vn_lt (at_ (rl_ y r).2 j)
      have := b40 _ hv
      rw [hV, bi_t, if_neg (by decide), m_variable, bd_s, lm_10 hm.1, ln_398, n_ib (by omega), if_pos (by simp; omega), n_cl (by omega), bm_len hb _ hv, n_add, ih (j + 1) k _ (by omega) (by omega) (by omega), if_pos rfl, Nat.add_assoc]
    · have hVf : isV_ (at_ (rl_ y r).2 j) = false := by simpa using hV
      rw [hVf, bi_f, if_pos rfl, show nI c + 1 = nI (c + 1) from n_add c 1, ih (j + 1) k _ (by omega) (by omega) (by omega), if_neg (show ¬ (false = true) from by decide), List.length_singleton, Nat.add_assoc]
/-- the part before -/
theorem m_rw128 {o p r e : Nat} {Y L : Int32} {t : List Int32} (h40 : t.length ≤ 40) (he : e ≤ t.length) (ho : o ≠ 399) (hb : p + 1 + t.length ≤ ln_ o) (hn : ln_ o < 1000000000) :
    ∀ (n i k : Nat) (σ : js_S), i + n = e → n < k → lm_ σ.2.2 → vw_ σ o (p + 1) t → vw_ σ 399 1 (t.take i) → ∃ σ', fX12_rewrite_128 5000 k 390 o (nI p) (nI (p + 1 + e)) (nI r) Y L (nI (1 + i)) (nI (p + 1 + i)) σ = fX12_rewrite_158 5000 5000 390 o (nI p) (nI r) Y L (nI (1 + e)) 1 σ' ∧ fi_ (fun z => z = 399) σ σ' ∧ vw_ σ' 399 1 (t.take e) := by
  intro n
  induction n with
  | zero =>
    intro i k σ hi hk hm hv hu
    obtain ⟨k, rfl⟩ : ∃ j, k = j + 1 := ⟨k - 1, by omega⟩
    have : i = e := by omega
    subst this
    refine ⟨σ, ?_, fi_rf, hu⟩
    rw [sX12_rewrite_128]
    unfold fX12_rewrite_128b
    rw [if_pos ((n_le (by omega) (by omega)).mpr (by omega))]
  | succ n ih =>
    intro i k σ hi hk hm hv hu
    obtain ⟨k, rfl⟩ : ∃ j, k = j + 1 := ⟨k - 1, by omega⟩
    have f1 : fi_ (fun z => z = 399) σ (uI_ σ 399 (1 + i) (at_ t i)) := fi_u rfl
    have hu2 := vw_push (x := at_ t i) hu
    rw [List.length_take, Nat.min_eq_left (by omega), ← take_push (by omega)] at hu2
    obtain ⟨σ2, r2, f2, u2⟩ := ih (i + 1) k (uI_ σ 399 (1 + i) (at_ t i)) (by omega) (by omega) hm (vw_fi f1 ho hv) hu2
    refine ⟨σ2, ?_, fi_tr f1 f2 (fun a h => h) (fun a h => h), u2⟩
    rw [sX12_rewrite_128]
    unfold fX12_rewrite_128b
    rw [if_neg (fun z => by have := (n_le (by omega) (by omega)).mp z; omega), n_ib (by omega), if_pos (by simp; omega), lm_11 hm, ln_399, n_ib (by omega), if_pos (by simp; omega), n_cl (by omega), n_cl (by omega), lt_s_, hv i (by omega), show nI (1 + i) + 1 = nI (1 + (i + 1)) from n_add (1 + i) 1, show nI (p + 1 + i) + 1 = nI (p + 1 + (i + 1)) from n_add (p + 1 + i) 1, r2]
/-- a bound term -/
theorem m_rw229 {o p v q : Nat} {x5 Y L x9 x10 : Int32} {t w : List Int32} {rc : Nat → Nat → Int32 → Int32 → Int32 → Int32 → Int32 → Int32 → js_S → Option (Int32 × js_S)} (hv3 : v < 3) (ho : o ≠ 399) (hb : p + 1 + t.length ≤ ln_ o) (hn : ln_ o < 1000000000) (hw : ∀ i, i < w.length → q + i < t.length ∧ at_ w i = at_ t (q + i)) :
    ∀ (n i k : Nat) (σ : js_S) (u : List Int32), i + n = w.length → n < k → u.length + n ≤ 40 → lm_ σ.2.2 → vw_ σ o (p + 1) t → σ.1 397 v = nI (p + 1 + q) → vw_ σ 399 1 u → ∃ σ', fX12_rewrite_229 5000 rc k 390 o (nI p) x5 Y L (nI (1 + u.length)) x9 x10 (nI v) (nI w.length) (nI i) σ = rc 390 o (nI p) x5 Y L (nI (1 + (u ++ w.drop i).length)) (x9 + 1) σ' ∧ fi_ (fun z => z = 399) σ σ' ∧ vw_ σ' 399 1 (u ++ w.drop i) := by
  intro n
  induction n with
  | zero =>
    intro i k σ u hi hk hl hm hv h397 hu
    obtain ⟨k, rfl⟩ : ∃ j, k = j + 1 := ⟨k - 1, by omega⟩
    have hwl : w.length ≤ 1000000000 := by
      rcases Nat.eq_zero_or_pos w.length with z | z
      · omega
      · have := (hw (w.length - 1) (by omega)).1
        omega
    rw [drop_end (l := w) (by omega), List.append_nil]
    refine ⟨σ, ?_, fi_rf, hu⟩
    rw [sX12_rewrite_229]
    unfold fX12_rewrite_229b
    rw [if_pos ((n_le (by omega) (by omega)).mpr (by omega))]
  | succ n ih =>
    intro i k σ u hi hk hl hm hv h397 hu
    obtain ⟨k, rfl⟩ : ∃ j, k = j + 1 := ⟨k - 1, by omega⟩
    have hwi := hw i (by omega)
    have hwl : w.length ≤ 1000000000 := by
      have := (hw (w.length - 1) (by omega)).1
      omega
    have f1 : fi_ (fun z => z = 399) σ (uI_ σ 399 (1 + u.length) (at_ w i)) := fi_u rfl
    obtain ⟨σ2, r2, f2, u2⟩ := ih (i + 1) k (uI_ σ 399 (1 + u.length) (at_ w i)) (u ++ [at_ w i]) (by omega) (by omega) (by simp; omega) hm (vw_fi f1 ho hv) (by rw [f1.2 397 (by decide)]; exact h397) (vw_push (x := at_ w i) hu)
    rw [List.append_assoc] at r2 u2
    rw [drop_get (l := w) (p := i) (by omega)]
    refine ⟨σ2, ?_, fi_tr f1 f2 (fun a h => h) (fun a h => h), u2⟩
    have hat : σ.1 o (p + 1 + q + i) = at_ w i := by
      rw [hwi.2, show p + 1 + q + i = p + 1 + (q + i) by omega]
      exact hv (q + i) hwi.1
    rw [sX12_rewrite_229]
    unfold fX12_rewrite_229b fX12_rewrite_264
    rw [if_neg (fun z => by have := (n_le (by omega) (by omega)).mp z; omega), if_pos (nI_pos' (by omega)), lm_9 hm, ln_397, n_ib (by omega), if_pos (by simp; omega), n_cl (a := v) (by omega), h397, n_add, n_ib (by omega), if_pos (by simp; omega), n_cl (a := p + 1 + q + i) (by omega), hat, lm_11 hm, ln_399, n_ib (by omega), if_pos (by simp; omega), n_cl (by omega), lt_s_, show nI (1 + u.length) + 1 = nI (1 + u.length + 1) from n_add (1 + u.length) 1, show nI i + 1 = nI (i + 1) from n_add i 1]
    rw [List.length_append, List.length_singleton, ← Nat.add_assoc] at r2
    rw [r2]
    rfl
/-- a symbol of the right side -/
theorem m_rw229s {σ : js_S} {o p k : Nat} {x5 Y L x9 s : Int32} {u : List Int32} {rc : Nat → Nat → Int32 → Int32 → Int32 → Int32 → Int32 → Int32 → js_S → Option (Int32 × js_S)} (hk : 2 ≤ k) (hl : u.length < 40) (hm : lm_ σ.2.2) : fX12_rewrite_229 5000 rc k 390 o (nI p) x5 Y L (nI (1 + u.length)) x9 s (-5) 1 0 σ = rc 390 o (nI p) x5 Y L (nI (1 + (u ++ [s]).length)) (x9 + 1) (uI_ σ 399 (1 + u.length) s) := by
  obtain ⟨k, rfl⟩ : ∃ j, k = j + 2 := ⟨k - 2, by omega⟩
  rw [show k + 2 = (k + 1) + 1 from rfl, sX12_rewrite_229]
  unfold fX12_rewrite_229b fX12_rewrite_264
  rw [if_neg (by decide), if_neg (by decide), lm_11 hm, ln_399, n_ib (by omega), if_pos (by simp; omega), n_cl (by omega), lt_s_, sX12_rewrite_229]
  unfold fX12_rewrite_229b
  rw [if_pos (by decide), show nI (1 + u.length) + 1 = nI (1 + u.length + 1) from n_add (1 + u.length) 1, List.length_append]
  rfl
theorem m_rw158 {o p r : Nat} {Y L : Int32} {y : js_Y} {t : List Int32} {b : Nat → List Int32} (g : gy_ y) (h40 : t.length ≤ 40) (hr : r < y.2.1.length) (hbg : bg_ y.1 t (rl_ y r).2 b) (ho : o ≠ 399) (hbo : p + 1 + t.length ≤ ln_ o) (hn : ln_ o < 1000000000) :
    ∀ (n j k : Nat) (σ : js_S) (u : List Int32), j + n = (rl_ y r).2.length → n < k → (u ++ in_ b ((rl_ y r).2.drop j)).length ≤ 40 → ms_ σ y → bm_ σ y.1 (p + 1) t b → vw_ σ o (p + 1) t → vw_ σ 399 1 u → ∃ σ', fX12_rewrite_158 5000 k 390 o (nI p) (nI r) Y L (nI (1 + u.length)) (nI (j + 1)) σ = fX12_rewrite_284 5000 5000 390 o (nI p) L (nI (1 + (u ++ in_ b ((rl_ y r).2.drop j)).length)) Y σ' ∧ fi_ (fun z => z = 399) σ σ' ∧ vw_ σ' 399 1 (u ++ in_ b ((rl_ y r).2.drop j)) := by
  have gr := g.2.2.1 r hr
  have rr40 := gr.2.1.2
  have h6 := g.2.1
  intro n
  induction n with
  | zero =>
    intro j k σ u hj hk hl hm hb hv hu
    obtain ⟨k, rfl⟩ : ∃ j, k = j + 1 := ⟨k - 1, by omega⟩
    have hrow := (hm.2.2.2 r hr).2
    have e0 : u ++ in_ b ((rl_ y r).2.drop j) = u := by
      rw [drop_end (by omega)]
      exact List.append_nil u
    rw [e0]
    refine ⟨σ, ?_, fi_rf, hu⟩
    rw [sX12_rewrite_158]
    unfold fX12_rewrite_158b fX12_right
    rw [n_right, bd_s, lm_2 hm.1, ln_393, n_ib (by omega), if_pos (by simp; omega), n_cl (by omega), hrow.1, if_pos ((n_lt (by omega) (by omega)).mpr (by omega))]
  | succ n ih =>
    intro j k σ u hj hk hl hm hb hv hu
    obtain ⟨k, rfl⟩ : ∃ j, k = j + 1 := ⟨k - 1, by omega⟩
    have hrow := (hm.2.2.2 r hr).2
    have hs : σ.1 393 (192 * r + 96 + (j + 1)) = at_ (rl_ y r).2 j := by
      have := hrow.2 j (by omega)
      rw [show 192 * r + 96 + 1 + j = 192 * r + 96 + (j + 1) by omega] at this
      exact this
    rw [drop_get (l := (rl_ y r).2) (p := j) (by omega), in_cons] at hl
    rw [sX12_rewrite_158]
    unfold fX12_rewrite_158b fX12_right fX12_rewrite_206 fX12_rewrite_224
    rw [n_right, bd_s, lm_2 hm.1, ln_393, n_ib (by omega), if_pos (by simp; omega), n_cl (by omega), hrow.1, if_neg (fun z => by have := (n_lt (by omega) (by omega)).mp z; omega), bd_s, n_add, n_ib (by omega), if_pos (by simp; omega), n_cl (by omega), hs, m_isV, bd_s]
    rw [drop_get (l := (rl_ y r).2) (p := j) (by omega), in_cons]
    by_cases hV : isV_ (at_ (rl_ y r).2 j) = true
    · have hv3 := vn_lt (at_ (rl_ y r).2 j)
      rw [if_pos hV] at hl ⊢
      obtain ⟨q, hq, hbq⟩ := hbg _ (at_mem (by omega)) hV
      obtain ⟨q', hq', e1, e2, e3⟩ : ∃ q', q' < t.length ∧ σ.1 397 (vn_ (at_ (rl_ y r).2 j)) = nI (p + 1 + q') ∧ σ.1 398 (vn_ (at_ (rl_ y r).2 j)) = nI (b (vn_ (at_ (rl_ y r).2 j))).length ∧ b (vn_ (at_ (rl_ y r).2 j)) = su_ y.1 t q' := (hb _ hv3).elim (fun z => absurd (hbq.symm.trans z.1) (su_ne hq)) (fun z => z)
      have hep := ep_le (a := y.1) (Nat.le_of_lt hq')
      have hw : ∀ i, i < (b (vn_ (at_ (rl_ y r).2 j))).length → q' + i < t.length ∧ at_ (b (vn_ (at_ (rl_ y r).2 j))) i = at_ t (q' + i) := by
        intro i hi
        rw [e3] at hi ⊢
        have hi2 := hi
        rw [su_len] at hi2
        refine ⟨by omega, ?_⟩
        rw [← at_drop]
        unfold su_ at hi ⊢
        unfold at_
        rw [List.getD_eq_getElem?_getD, List.getD_eq_getElem?_getD, List.getElem?_take_of_lt (by rw [List.length_take] at hi; omega)]
      rw [List.length_append, List.length_append] at hl
      obtain ⟨σ1, r1, f1, u1⟩ := m_rw229 (x5 := nI r) (Y := Y) (L := L) (x9 := nI (j + 1)) (x10 := at_ (rl_ y r).2 j) (rc := fX12_rewrite_158 5000 k) hv3 ho hbo hn hw (b (vn_ (at_ (rl_ y r).2 j))).length 0 5000 σ u (by omega) (by omega) (by omega) hm.1 hv e1 hu
      rw [List.drop_zero] at r1 u1
      obtain ⟨σ2, r2, f2, u2⟩ := ih (j + 1) k σ1 (u ++ b (vn_ (at_ (rl_ y r).2 j))) (by omega) (by omega) (by rw [List.length_append, List.length_append]; omega) (ms_fi f1 (fun a q => by omega) hm) (fun v hv => by rw [f1.2 398 (by decide), f1.2 397 (by decide)]; exact hb v hv) (vw_fi f1 ho hv) u1
      rw [List.append_assoc u] at r2 u2
      refine ⟨σ2, ?_, fi_tr f1 f2 (fun a h => h) (fun a h => h), u2⟩
      rw [hV, bi_t, if_neg (by decide), m_variable, bd_s, if_pos (nI_pos' (by omega)), lm_10 hm.1, ln_398, n_ib (by omega), if_pos (by simp; omega), n_cl (by omega), e2, show (0 : Int32) = nI 0 from rfl, r1, show nI (j + 1) + 1 = nI (j + 1 + 1) from n_add (j + 1) 1, r2]
    · have hVf : isV_ (at_ (rl_ y r).2 j) = false := by simpa using hV
      rw [if_neg hV] at hl ⊢
      rw [List.length_append, List.length_append, List.length_singleton] at hl
      have f1 : fi_ (fun z => z = 399) σ (uI_ σ 399 (1 + u.length) (at_ (rl_ y r).2 j)) := fi_u rfl
      obtain ⟨σ2, r2, f2, u2⟩ := ih (j + 1) k (uI_ σ 399 (1 + u.length) (at_ (rl_ y r).2 j)) (u ++ [at_ (rl_ y r).2 j]) (by omega) (by omega) (by rw [List.length_append, List.length_append, List.length_singleton]; omega) (ms_fi f1 (fun a q => by omega) hm) (fun v hv => by rw [f1.2 398 (by decide), f1.2 397 (by decide)]; exact hb v hv) (vw_fi f1 ho hv) (vw_push hu)
      rw [List.append_assoc u] at r2 u2
      refine ⟨σ2, ?_, fi_tr f1 f2 (fun a h => h) (fun a h => h), u2⟩
      rw [hVf, bi_f, if_pos rfl, if_neg (by decide), m_rw229s (by omega) (by omega) hm.1, show nI (j + 1) + 1 = nI (j + 1 + 1) from n_add (j + 1) 1, r2]
theorem m_rw284 {o p L : Nat} {t : List Int32} (h40 : t.length ≤ 40) (ho : o ≠ 399) (hb : p + 1 + t.length ≤ ln_ o) (hn : ln_ o < 1000000000) (hL : L ≤ 40) :
    ∀ (n m k : Nat) (σ : js_S) (u : List Int32), m + n = t.length → n < k → u.length + n = L → lm_ σ.2.2 → rw_ σ o p t → vw_ σ 399 1 u → ∃ σ', fX12_rewrite_284 5000 k 390 o (nI p) (nI L) (nI (1 + u.length)) (nI (p + 1 + m)) σ = some (nI L, σ') ∧ fi_ (fun z => z = 399) σ σ' ∧ rw_ σ' 399 0 (u ++ t.drop m) := by
  intro n
  induction n with
  | zero =>
    intro m k σ u hi hk hl hm hv hu
    obtain ⟨k, rfl⟩ : ∃ j, k = j + 1 := ⟨k - 1, by omega⟩
    refine ⟨uI_ σ 399 0 (nI L), ?_, fi_u rfl, ?_, fun j hj => ?_⟩
    · rw [sX12_rewrite_284]
      unfold fX12_rewrite_284b
      rw [n_ib (by omega), if_pos (by simp; omega), n_cl (by omega), hv.1, n_add, if_pos ((n_lt (by omega) (by omega)).mpr (by omega)), lm_11 hm, ln_399]
      rfl
    · rw [uI_same, drop_end (by omega), List.append_nil]
      rw [show L = u.length by omega]
    · rw [drop_end (l := t) (by omega), List.append_nil] at hj ⊢
      rw [uI_ne (by omega)]
      exact hu j hj
  | succ n ih =>
    intro m k σ u hi hk hl hm hv hu
    obtain ⟨k, rfl⟩ : ∃ j, k = j + 1 := ⟨k - 1, by omega⟩
    have f1 : fi_ (fun z => z = 399) σ (uI_ σ 399 (1 + u.length) (at_ t m)) := fi_u rfl
    obtain ⟨σ2, r2, f2, u2⟩ := ih (m + 1) k (uI_ σ 399 (1 + u.length) (at_ t m)) (u ++ [at_ t m]) (by omega) (by omega) (by rw [List.length_append, List.length_singleton]; omega) hm (rw_fi f1 ho hv) (vw_push hu)
    rw [List.append_assoc] at u2
    rw [drop_get (l := t) (p := m) (by omega)]
    refine ⟨σ2, ?_, fi_tr f1 f2 (fun a h => h) (fun a h => h), u2⟩
    rw [List.length_append, List.length_singleton, ← Nat.add_assoc] at r2
    rw [sX12_rewrite_284]
    unfold fX12_rewrite_284b
    rw [n_ib (by omega), if_pos (by simp; omega), n_cl (a := p) (by omega), hv.1, n_add, if_neg (fun z => by have := (n_lt (by omega) (by omega)).mp z; omega), n_ib (by omega), if_pos (by simp; omega), lm_11 hm, ln_399, n_ib (by omega), if_pos (by simp; omega), n_cl (by omega), n_cl (by omega), lt_s_, hv.2 m (by omega), show nI (1 + u.length) + 1 = nI (1 + u.length + 1) from n_add (1 + u.length) 1, show nI (p + 1 + m) + 1 = nI (p + 1 + (m + 1)) from n_add (p + 1 + m) 1, r2]
theorem m_rewrite {σ : js_S} {o p e : Nat} {y : js_Y} {t : List Int32} (g : gy_ y) (gt : gt_ y.1 t) (he : e < t.length) (ho : o ≠ 397 ∧ o ≠ 398 ∧ o ≠ 399) (hb : p + 1 + t.length ≤ ln_ o) (hn : ln_ o < 1000000000) (hm : ms_ σ y) (hv : rw_ σ o p t) : ∃ σ', fX12_rewrite 5000 390 o (nI p) (nI e) σ = some (sr_ (sp_ y t e), σ') ∧ fi_ (fun z => z = 397 ∨ z = 398 ∨ z = 399) σ σ' ∧ ∀ u, sp_ y t e = some u → u.length ≤ 40 → rw_ σ' 399 0 u := by
  have h6 := g.2.1
  have t40 := gt.2
  obtain ⟨σ1, r1, f1, b1⟩ := m_matching g gt ⟨ho.1, ho.2.1⟩ hb hn he hm hv.2
  have hm1 := ms_fi f1 (fun a q => by omega) hm
  have hv1 := rw_fi f1 (by omega) hv
  unfold fX12_rewrite sp_
  rw [show nI p + 1 + nI e = nI (p + 1 + e) by rw [show nI p + 1 = nI (p + 1) from n_add p 1, n_add], r1, bd_s]
  cases hl : lw_ y t e with
  | none =>
    refine ⟨σ1, ?_, fi_mono f1 (fun a h => by omega), fun u hu => by cases hu⟩
    rw [if_neg (by decide)]
    rfl
  | some r =>
    have hr := lr_lt hl
    obtain ⟨b, hbb⟩ := Option.isSome_iff_exists.mp hr.2.2
    have bm1 := b1 r b hl hbb
    have bg := mt_bg g gt he (by omega) hbb
    have gr := g.2.2.1 r (by omega)
    have rr40 := gr.2.1.2
    have c0 : (0 : Int32) ≤ lo_ (-5) (some r) := nI_pos' (by omega)
    have hep := ep_le (a := y.1) (Nat.le_of_lt he)
    have hep2 := ep_gt (a := y.1) he
    have hend : fX12_end 5000 390 o (nI (p + 1 + e)) σ1 = some (nI (p + 1 + ep_ y.1 t e), σ1) := by
      rw [m_end hm1.1 hm1.2.1 g.1 (by omega) (wt_tail gt.1 he) (vw_drop hv1.2) (by rw [List.length_drop]; omega) (by rw [List.length_drop]; omega)]
      unfold ep_
      rw [Nat.add_assoc (p + 1)]
    have hsub : nI t.length - (nI (p + 1 + ep_ y.1 t e) - nI (p + 1 + e)) = nI (t.length - (ep_ y.1 t e - e)) := by
      rw [n_sub (by omega), show p + 1 + ep_ y.1 t e - (p + 1 + e) = ep_ y.1 t e - e by omega, n_sub (by omega)]
    have h47 := m_rw47 (r := r) (o := o) (p := p) (X := nI (p + 1 + e)) (Y := nI (p + 1 + ep_ y.1 t e)) g t40 (by omega) hm1 bm1 (rl_ y r).2.length 0 5000 (t.length - (ep_ y.1 t e - e)) (by omega) (by omega) (by omega)
    rw [List.drop_zero] at h47
    rw [if_pos c0, hend, bd_s, n_ib (by omega), if_pos (by simp; omega), n_cl (by omega), hv1.1, hsub]
    have hnl : (nw_ y.1 t e (rl_ y r).2 b).length = t.length - (ep_ y.1 t e - e) + (in_ b (rl_ y r).2).length := by
      unfold nw_
      rw [List.length_append, List.length_append, List.length_take, List.length_drop]
      omega
    rw [← hnl] at h47
    rw [Option.bind_some, hbb, Option.bind_some, sr_s]
    have h47' : fX12_rewrite_47 5000 5000 390 o (nI p) (nI (p + 1 + e)) (lo_ (-5) (some r)) (nI (p + 1 + ep_ y.1 t e)) (nI (t.length - (ep_ y.1 t e - e))) 1 σ1 = _ := h47
    rw [h47']
    by_cases hc : (nw_ y.1 t e (rl_ y r).2 b).length ≤ 40
    · rw [if_pos hc, if_neg (by omega)]
      obtain ⟨σ2, r2, f2, u2⟩ := m_rw128 (r := r) (Y := nI (p + 1 + ep_ y.1 t e)) (L := nI (nw_ y.1 t e (rl_ y r).2 b).length) t40 (Nat.le_of_lt he) ho.2.2 hb hn e 0 5000 σ1 (by omega) (by omega) hm1.1 hv1.2 (fun k hk => by simp at hk)
      have hm2 := ms_fi f2 (fun a q => by omega) hm1
      have hv2 := rw_fi f2 ho.2.2 hv1
      have hl2 : (t.take e ++ in_ b (rl_ y r).2).length ≤ 40 := by
        rw [List.length_append, List.length_take]
        omega
      obtain ⟨σ3, r3, f3, u3⟩ := m_rw158 (Y := nI (p + 1 + ep_ y.1 t e)) (L := nI (nw_ y.1 t e (rl_ y r).2 b).length) g t40 (by omega) bg ho.2.2 hb hn (rl_ y r).2.length 0 5000 σ2 (t.take e) (by omega) (by omega) (by rw [List.drop_zero]; exact hl2) hm2 (fun v hv => by rw [f2.2 398 (by decide), f2.2 397 (by decide)]; exact bm1 v hv) hv2.2 u2
      rw [List.drop_zero] at r3 u3
      have hm3 := ms_fi f3 (fun a q => by omega) hm2
      have hv3 := rw_fi f3 ho.2.2 hv2
      obtain ⟨σ4, r4, f4, u4⟩ := m_rw284 (L := (nw_ y.1 t e (rl_ y r).2 b).length) t40 ho.2.2 hb hn hc (t.length - ep_ y.1 t e) (ep_ y.1 t e) 5000 σ3 (t.take e ++ in_ b (rl_ y r).2) (by omega) (by omega) (by rw [hnl, List.length_append, List.length_take]; omega) hm3.1 hv3 u3
      refine ⟨σ4, ?_, ?_, fun u hu _ => by cases hu; exact u4⟩
      · have r2' : fX12_rewrite_128 5000 5000 390 o (nI p) (nI (p + 1 + e)) (nI r) (nI (p + 1 + ep_ y.1 t e)) (nI (nw_ y.1 t e (rl_ y r).2 b).length) 1 (nI (p + 1)) σ1 = _ := r2
        have hte : (t.take e).length = e := by rw [List.length_take]; omega
        rw [hte] at r3
        rw [show nI p + 1 = nI (p + 1) from n_add p 1, r2']
        exact r3.trans r4
      · exact fi_tr (fi_mono f1 (S2 := fun z => z = 397 ∨ z = 398 ∨ z = 399) (fun a h => by omega)) (fi_tr f2 (fi_tr f3 f4 (S3 := fun z => z = 399) (fun a h => h) (fun a h => h)) (S3 := fun z => z = 399) (fun a h => h) (fun a h => h)) (fun a h => h) (fun a h => by omega)
    · rw [if_neg hc, if_pos (by omega)]
      exact ⟨σ1, rfl, fi_mono f1 (fun a h => by omega), fun u hu hu2 => by cases hu; exact absurd hu2 hc⟩
