/-! the rewrite step -/
def in_ (b : Nat → List Int32) : List Int32 → List Int32
  | [] => []
  | s :: r => (if isV_ s = true then b (vn_ s) else [s]) ++ in_ b r
def nw_ (a : Nat → Nat) (t : List Int32) (e : Nat) (rr : List Int32) (b : Nat → List Int32) : List Int32 := t.take e ++ in_ b rr ++ t.drop (ep_ a t e)
/-- the term after the step at e -/
def sp_ (y : js_Y) (t : List Int32) (e : Nat) : Option (List Int32) := (lw_ y t e).bind fun r => (mt_ y.1 t (rl_ y r).1 e (fun _ => [])).bind fun b => some (nw_ y.1 t e (rl_ y r).2 b)
def sr_ : Option (List Int32) → Int32
  | none => -5
  | some u => if 40 < u.length then -8 else nI u.length
theorem sr_s (u : List Int32) : sr_ (some u) = if 40 < u.length then -8 else nI u.length := rfl
theorem mt_bd {a : Nat → Nat} {t : List Int32} : ∀ {pt : List Int32} {m e : Nat} {b b' : Nat → List Int32}, wt_ a pt m → ok_ a (t.drop e) m → mt_ a t pt e b = some b' → (∀ v, b v ≠ [] → b' v ≠ []) ∧ ∀ s, s ∈ pt → isV_ s = true → b' (vn_ s) ≠ []
  | [], m, e, b, b', hw, hok, h => by
    cases h
    exact ⟨fun v q => q, fun s q => by cases q⟩
  | s :: pt, m, e, b, b', hw, hok, h => by
    have hm := hw.1
    have hw2 := hw.2.2
    have hlt := ok_ne hok hm
    unfold mt_ at h
    by_cases hV : isV_ s = true
    · rw [if_pos hV] at h
      rw [isV_sa hV, Nat.add_zero] at hw2
      by_cases hc : b (vn_ s) = [] ∨ b (vn_ s) = su_ a t e
      · rw [if_pos hc] at h
        have ih := mt_bd hw2 (ok_skip hok hm) h
        have hne := su_ne (a := a) hlt
        refine ⟨fun v q => ih.1 v ?_, fun r hr hr2 => ?_⟩
        · show (if v = vn_ s then su_ a t e else b v) ≠ []
          by_cases q2 : v = vn_ s
          · rw [if_pos q2]; exact hne
          · rw [if_neg q2]; exact q
        · rcases List.mem_cons.mp hr with rfl | hr
          · refine ih.1 _ ?_
            show (if vn_ r = vn_ r then su_ a t e else b (vn_ r)) ≠ []
            rw [if_pos rfl]; exact hne
          · exact ih.2 r hr hr2
      · rw [if_neg hc] at h
        cases h
    · rw [if_neg hV] at h
      by_cases hc : at_ t e = s
      · rw [if_pos hc] at h
        have hok2 := ok_step hok hm
        rw [hc] at hok2
        have ih := mt_bd hw2 hok2 h
        refine ⟨ih.1, fun r hr hr2 => ?_⟩
        rcases List.mem_cons.mp hr with rfl | hr
        · exact absurd hr2 hV
        · exact ih.2 r hr hr2
      · rw [if_neg hc] at h
        cases h
theorem at_mem {l : List Int32} {k : Nat} (h : k < l.length) : at_ l k ∈ l := by
  unfold at_
  rw [List.getD_eq_getElem?_getD, List.getElem?_eq_getElem h]
  exact List.getElem_mem h
theorem mem_at {l : List Int32} {s : Int32} (h : s ∈ l) : ∃ k, k < l.length ∧ at_ l k = s := by
  obtain ⟨k, hk, e⟩ := List.getElem_of_mem h
  refine ⟨k, hk, ?_⟩
  unfold at_
  rw [List.getD_eq_getElem?_getD, List.getElem?_eq_getElem hk]
  exact e
theorem wt_in {a : Nat → Nat} {b : Nat → List Int32} : ∀ {l : List Int32} {n : Nat}, wt_ a l n → (∀ s, s ∈ l → isV_ s = true → wt_ a (b (vn_ s)) 1) → wt_ a (in_ b l) n
  | [], n, h, hb => h
  | s :: l, n, h, hb => by
    have ih := wt_in h.2.2 (fun r hr => hb r (List.mem_cons_of_mem s hr))
    have h1 := h.1
    unfold in_
    by_cases hV : isV_ s = true
    · rw [if_pos hV]
      have := wt_app (hb s (List.mem_cons_self) hV) ih
      rw [isV_sa hV] at this
      rw [show 1 + (n - 1 + 0) = n by omega] at this
      exact this
    · rw [if_neg hV]
      exact ⟨h1, h.2.1, ih⟩
/-- what a match binds -/
theorem mt_su {a : Nat → Nat} {t : List Int32} : ∀ {pt : List Int32} {m e : Nat} {b b' : Nat → List Int32}, wt_ a pt m → ok_ a (t.drop e) m → mt_ a t pt e b = some b' → (∀ v, b v = [] ∨ ∃ q, q < t.length ∧ b v = su_ a t q) → ∀ v, b' v = [] ∨ ∃ q, q < t.length ∧ b' v = su_ a t q
  | [], m, e, b, b', hw, hok, h, hb => by
    cases h
    exact hb
  | s :: pt, m, e, b, b', hw, hok, h, hb => by
    have hm := hw.1
    have hw2 := hw.2.2
    have hlt := ok_ne hok hm
    unfold mt_ at h
    by_cases hV : isV_ s = true
    · rw [if_pos hV] at h
      rw [isV_sa hV, Nat.add_zero] at hw2
      by_cases hc : b (vn_ s) = [] ∨ b (vn_ s) = su_ a t e
      · rw [if_pos hc] at h
        refine mt_su hw2 (ok_skip hok hm) h (fun v => ?_)
        show (if v = vn_ s then su_ a t e else b v) = [] ∨ ∃ q, q < t.length ∧ (if v = vn_ s then su_ a t e else b v) = su_ a t q
        by_cases q2 : v = vn_ s
        · rw [if_pos q2]; exact Or.inr ⟨e, hlt, rfl⟩
        · rw [if_neg q2]; exact hb v
      · rw [if_neg hc] at h
        cases h
    · rw [if_neg hV] at h
      by_cases hc : at_ t e = s
      · rw [if_pos hc] at h
        have hok2 := ok_step hok hm
        rw [hc] at hok2
        exact mt_su hw2 hok2 h hb
      · rw [if_neg hc] at h
        cases h
/-- the bindings of the right side's variables -/
def bg_ (a : Nat → Nat) (t : List Int32) (rr : List Int32) (b : Nat → List Int32) : Prop := ∀ s, s ∈ rr → isV_ s = true → ∃ q, q < t.length ∧ b (vn_ s) = su_ a t q
theorem mt_bg {y : js_Y} {t : List Int32} {e r : Nat} {b : Nat → List Int32} (g : gy_ y) (gt : gt_ y.1 t) (he : e < t.length) (hr : r < y.2.1.length) (h : mt_ y.1 t (rl_ y r).1 e (fun _ => []) = some b) : bg_ y.1 t (rl_ y r).2 b := by
  have gr := g.2.2.1 r hr
  intro s hs hV
  obtain ⟨k, hk, rfl⟩ := mem_at hs
  have h1 := (mt_bd gr.1.1 (wt_tail gt.1 he) h).2 _ (gr.2.2.2.2 k hk hV) hV
  exact (mt_su gr.1.1 (wt_tail gt.1 he) h (fun v => Or.inl rfl) _).elim (fun q => absurd q h1) (fun q => q)
theorem nw_gt {a : Nat → Nat} {t rr : List Int32} {e : Nat} {b : Nat → List Int32} (h : wt_ a t 1) (he : e < t.length) (hr : wt_ a rr 1) (hb : bg_ a t rr b) : wt_ a (nw_ a t e rr b) 1 := by
  obtain ⟨m, h1, h2, h3⟩ := wt_at h (Nat.le_of_lt he)
  have hm := h2 he
  have h4 : wt_ a (in_ b rr) 1 := wt_in hr (fun s hs hV => by obtain ⟨q, q1, q2⟩ := hb s hs hV; rw [q2]; exact su_wt h q1)
  rw [show m = 1 + (m - 1) by omega] at h1
  have h5 := (wt_split1 h1).2
  rw [List.drop_drop] at h5
  have h6 := wt_app h4 h5
  rw [show 1 + (m - 1) = m by omega] at h6
  unfold nw_
  rw [List.append_assoc]
  exact h3 _ h6
theorem sp_gt {y : js_Y} {t u : List Int32} {e : Nat} (g : gy_ y) (gt : gt_ y.1 t) (he : e < t.length) (h : sp_ y t e = some u) (hu : u.length ≤ 40) : gt_ y.1 u := by
  unfold sp_ at h
  cases hl : lw_ y t e with
  | none => rw [hl] at h; cases h
  | some r =>
    rw [hl] at h
    have hr := lr_lt hl
    cases hm : mt_ y.1 t (rl_ y r).1 e (fun _ => []) with
    | none => rw [Option.bind_some, hm] at h; cases h
    | some b =>
      rw [Option.bind_some, hm, Option.bind_some] at h
      cases h
      have gr := g.2.2.1 r (by omega)
      exact ⟨nw_gt gt.1 he gr.2.1.1 (mt_bg g gt he (by omega) hm), hu⟩
/-! the class appends -/
theorem x9_append {σ : js_S} {fu o : Nat} {t : List Int32} {s : Int32} (ho : to_ σ o) (ht : tm_ σ o t) (hl : t.length < 1000000) : ∃ σ', fX9_append fu o s σ = some ((), σ') ∧ fi_ (fun a => a = o ∨ a = o + 1) σ σ' ∧ tm_ σ' o (t ++ [s]) := by
  unfold fX9_append fX9_append_29
  rw [ho.1, ho.2.1, ht.1, if_neg (nI_pos (by omega)), n_of]
  by_cases h : t.length < 40
  · rw [if_neg (fun z => by have := (n_le (by omega) (by omega)).mp z; omega), n_ib (by omega), if_pos (by simpa using h), n_cl (by omega)]
    refine ⟨_, rfl, fi_tr (S := fun a => a = o ∨ a = o + 1) (S2 := fun a => a = o ∨ a = o + 1) (fi_u (by omega)) (fi_u (by omega)) (fun a q => q) (fun a q => q), ?_, fun k hk h40 => ?_⟩
    · rw [uI_same, uI_ne (by omega), ht.1, List.length_append]
      exact n_add _ 1
    · rw [uI_ne (by omega), at_push]
      rw [List.length_append, List.length_singleton] at hk
      by_cases hk2 : k < t.length
      · rw [if_pos hk2, uI_ne (by omega)]
        exact ht.2 k hk2 h40
      · rw [if_neg hk2, if_pos (by omega), show k = t.length by omega]
        exact uI_same
  · rw [if_pos ((n_le (by omega) (by omega)).mpr (by omega))]
    refine ⟨_, rfl, fi_u (by omega), ?_, fun k hk h40 => ?_⟩
    · rw [uI_same, List.length_append]
      exact n_add _ 1
    · rw [uI_ne (by omega), at_push, if_pos (by omega)]
      exact ht.2 k (by omega) h40
theorem take_get {l : List Int32} {p r : Nat} (h : p < r) (h2 : r ≤ l.length) : (l.drop p).take (r - p) = at_ l p :: (l.drop (p + 1)).take (r - (p + 1)) := by
  rw [drop_get (by omega), show r - p = (r - (p + 1)) + 1 by omega, List.take_succ_cons]
theorem x9_range_loop {o q r : Nat} {t : List Int32} (hs : t.length ≤ 40) (hoq : o + 1 < q ∨ q + 1 < o) (hr : r ≤ t.length) :
    ∀ (d p k : Nat) (σ : js_S) (u : List Int32), p + d = r → d < k → u.length + d < 100000 → to_ σ o → to_ σ q → tm_ σ o u → tm_ σ q t → ∃ σ', fX9_appendRange_3 5000 k o q (nI r) (nI p) σ = some ((), σ') ∧ fi_ (fun a => a = o ∨ a = o + 1) σ σ' ∧ tm_ σ' o (u ++ (t.drop p).take (r - p)) := by
  intro d
  induction d with
  | zero =>
    intro p k σ u hp hk hu ho hq ht1 ht2
    obtain ⟨k, rfl⟩ : ∃ j, k = j + 1 := ⟨k - 1, by omega⟩
    refine ⟨σ, ?_, fi_rf, ?_⟩
    · rw [sX9_appendRange_3]
      unfold fX9_appendRange_3b
      rw [if_pos ((n_le (by omega) (by omega)).mpr (by omega))]
    · rw [show r - p = 0 by omega, List.take_zero, List.append_nil]
      exact ht1
  | succ d ih =>
    intro p k σ u hp hk hu ho hq ht1 ht2
    obtain ⟨k, rfl⟩ : ∃ j, k = j + 1 := ⟨k - 1, by omega⟩
    obtain ⟨σ1, r1, f1, t1⟩ := x9_append (fu := 5000) (s := at_ t p) ho ht1 (by omega)
    obtain ⟨σ2, r2, f2, t2⟩ := ih (p + 1) k σ1 (u ++ [at_ t p]) (by omega) (by omega) (by simp; omega) (to_fi f1 ho) (to_fi f1 hq) t1 (tm_fi f1 (by omega) (by omega) ht2)
    refine ⟨σ2, ?_, fi_tr f1 f2 (fun a h => h) (fun a h => h), ?_⟩
    · rw [sX9_appendRange_3]
      unfold fX9_appendRange_3b
      rw [if_neg (fun z => by have := (n_le (by omega) (by omega)).mp z; omega), x9_symbolAt hq.1 hq.2.1 ht2 hs (by omega), bd_s, r1, bd_s, show nI p + 1 = nI (p + 1) from n_add p 1, r2]
    · rw [take_get (by omega) hr]
      rw [List.append_assoc] at t2
      exact t2
theorem x9_range {σ : js_S} {o q p r : Nat} {t u : List Int32} (hs : t.length ≤ 40) (hoq : o + 1 < q ∨ q + 1 < o) (hr : r ≤ t.length) (hp : p ≤ r) (hu : u.length < 50000) (ho : to_ σ o) (hq : to_ σ q) (h1 : tm_ σ o u) (h2 : tm_ σ q t) : ∃ σ', fX9_appendRange 5000 o q (nI p) (nI r) σ = some ((), σ') ∧ fi_ (fun a => a = o ∨ a = o + 1) σ σ' ∧ tm_ σ' o (u ++ (t.drop p).take (r - p)) :=
  x9_range_loop hs hoq hr (r - p) p 5000 σ u (by omega) (by omega) (by omega) ho hq h1 h2
theorem x9_empty {σ : js_S} {fu o : Nat} : ∃ σ', fX9_empty fu o σ = some ((), σ') ∧ fi_ (fun a => a = o ∨ a = o + 1) σ σ' ∧ tm_ σ' o [] := ⟨_, rfl, fi_u (Or.inl rfl), uI_same, fun k hk => by simp at hk⟩
theorem su_range {a : Nat → Nat} {t : List Int32} {q : Nat} : (t.drop q).take (ep_ a t q - q) = su_ a t q := by
  unfold su_ ep_
  rw [Nat.add_sub_cancel_left]
theorem x7_step_loop {o d r e : Nat} {y : js_Y} {t : List Int32} {b : Nat → List Int32} (g : gy_ y) (gt : gt_ y.1 t) (he : e < t.length) (hr : r < y.2.1.length) (hb : bg_ y.1 t (rl_ y r).2 b) (hd : 91 ≤ d) (hod : d + 1 < o ∨ o + 1 < d) :
    ∀ (n j k : Nat) (σ : js_S) (u : List Int32), j + n = (rl_ y r).2.length → n < k → u.length ≤ 40 * (j + 1) → xs_ σ y → to_ σ o → tm_ σ o t → to_ σ d → tm_ σ d u → bx_ σ y.1 t b →
      ∃ σ', fX7_step_41 5000 k 88 2 o (nI e) d (12 + 4 * r) (nI j) σ = some (sr_ (some (u ++ in_ b ((rl_ y r).2.drop j) ++ t.drop (ep_ y.1 t e))), σ') ∧ fi_ (fun z => z = d ∨ z = d + 1) σ σ' ∧ tm_ σ' d (u ++ in_ b ((rl_ y r).2.drop j) ++ t.drop (ep_ y.1 t e)) := by
  have gr := g.2.2.1 r hr
  have h40 := gr.2.1.2
  have t40 := gt.2
  have h6 := g.2.1
  intro n
  induction n with
  | zero =>
    intro j k σ u hj hk hu hx ho ht hd2 htd hbx
    obtain ⟨k, rfl⟩ : ∃ j, k = j + 1 := ⟨k - 1, by omega⟩
    have hep := ep_le (a := y.1) (Nat.le_of_lt he)
    obtain ⟨σ1, r1, f1, t1⟩ := x9_range (u := u) (p := ep_ y.1 t e) t40 hod (Nat.le_refl _) hep (by omega) hd2 ho htd ht
    rw [← List.length_drop, List.take_length] at t1
    have e0 : u ++ in_ b ((rl_ y r).2.drop j) ++ t.drop (ep_ y.1 t e) = u ++ t.drop (ep_ y.1 t e) := by
      rw [drop_end (by omega)]
      show u ++ [] ++ _ = _
      rw [List.append_nil]
    rw [e0]
    refine ⟨σ1, ?_, f1, t1⟩
    rw [sX7_step_41]
    unfold fX7_step_41b
    have tr := (hx.2.2.2 r hr).2
    have hl1 : (u ++ t.drop (ep_ y.1 t e)).length ≤ 10000 := by rw [List.length_append, List.length_drop]; omega
    rw [tr.1, if_pos ((n_le (by omega) (by omega)).mpr (by omega)), lx_2_0 hx.1, x8_endOf (lx_3_0 hx.1) ln_4 hx.2.1 ho.1 ho.2.1 ht t40 g.1 (by omega), bd_s, ht.1, r1, bd_s, t1.1]
    rw [sr_s]
    by_cases hc : 40 < (u ++ t.drop (ep_ y.1 t e)).length
    · have c1 : 40 < nI (u ++ t.drop (ep_ y.1 t e)).length := (n_lt (a := 40) (by omega) (by omega)).mpr hc
      rw [if_pos c1, if_pos hc]
    · have c1 : ¬ 40 < nI (u ++ t.drop (ep_ y.1 t e)).length := fun z => hc ((n_lt (a := 40) (by omega) (by omega)).mp z)
      rw [if_neg c1, if_neg hc]
  | succ n ih =>
    intro j k σ u hj hk hu hx ho ht hd2 htd hbx
    obtain ⟨k, rfl⟩ : ∃ j, k = j + 1 := ⟨k - 1, by omega⟩
    have tr := (hx.2.2.2 r hr).2
    have tor := to_right hx.1 r (by omega)
    rw [sX7_step_41]
    unfold fX7_step_41b fX7_step_107
    rw [tr.1, if_neg (fun z => by have := (n_le (by omega) (by omega)).mp z; omega), x9_symbolAt tor.1 tor.2.1 tr h40 (by omega), bd_s, x_isVar, bd_s, show nI j + 1 = nI (j + 1) from n_add j 1]
    rw [drop_get (l := (rl_ y r).2) (p := j) (by omega)]
    unfold in_
    by_cases hV : isV_ (at_ (rl_ y r).2 j) = true
    · obtain ⟨q, hq, hbq⟩ := hb _ (at_mem (by omega)) hV
      have hv := vn_lt (at_ (rl_ y r).2 j)
      have hq89 : ∃ q', q' < t.length ∧ σ.1 89 (vn_ (at_ (rl_ y r).2 j)) = nI q' ∧ b (vn_ (at_ (rl_ y r).2 j)) = su_ y.1 t q' := (hbx _ hv).elim (fun z => absurd (hbq.symm.trans z.1) (su_ne hq)) (fun z => z)
      obtain ⟨q', hq', e1, e2⟩ := hq89
      have hep := ep_le (a := y.1) (Nat.le_of_lt hq')
      have hep2 := ep_gt (a := y.1) hq'
      obtain ⟨σ1, r1, f1, t1⟩ := x9_range (u := u) (p := q') (r := ep_ y.1 t q') t40 hod hep (by omega) (by omega) hd2 ho htd ht
      rw [su_range, ← e2] at t1
      have hbl : (b (vn_ (at_ (rl_ y r).2 j))).length ≤ 40 := by rw [e2, su_len]; omega
      obtain ⟨σ2, r2, f2, t2⟩ := ih (j + 1) k σ1 _ (by omega) (by omega) (by rw [List.length_append]; omega) (xs_fi f1 h6 (fun a q => by omega) hx) (to_fi f1 ho) (tm_fi f1 (by omega) (by omega) ht) (to_fi f1 hd2) t1 (fun v hv => by rw [f1.2 89 (by omega)]; exact hbx v hv)
      refine ⟨σ2, ?_, fi_tr f1 f2 (fun a h => h) (fun a h => h), ?_⟩
      · unfold fX7_bindingOf
        rw [hV, bi_t, if_neg (by decide), x_varnum, bd_s, if_pos hV, if_neg (nI_pos (by omega)), lx_88_0 hx.1, ln_89, n_of, if_neg (fun z => by have := (n_le (by omega) (by omega)).mp z; omega), n_ib (by omega), if_pos (by simpa using hv), n_cl (by omega), bd_s, e1, lx_2_0 hx.1, x8_endOf (lx_3_0 hx.1) ln_4 hx.2.1 ho.1 ho.2.1 ht t40 g.1 (by omega), bd_s, r1, bd_s, r2, if_pos rfl, List.append_assoc u]
      · rw [if_pos hV, ← List.append_assoc u]
        exact t2
    · have hVf : isV_ (at_ (rl_ y r).2 j) = false := by simpa using hV
      obtain ⟨σ1, r1, f1, t1⟩ := x9_append (fu := 5000) (s := at_ (rl_ y r).2 j) hd2 htd (by omega)
      obtain ⟨σ2, r2, f2, t2⟩ := ih (j + 1) k σ1 _ (by omega) (by omega) (by rw [List.length_append, List.length_singleton]; omega) (xs_fi f1 h6 (fun a q => by omega) hx) (to_fi f1 ho) (tm_fi f1 (by omega) (by omega) ht) (to_fi f1 hd2) t1 (fun v hv => by rw [f1.2 89 (by omega)]; exact hbx v hv)
      refine ⟨σ2, ?_, fi_tr f1 f2 (fun a h => h) (fun a h => h), ?_⟩
      · rw [hVf, bi_f, if_pos rfl, r1, bd_s, r2, if_neg (by decide), List.append_assoc u]
      · rw [if_neg hV, ← List.append_assoc u]
        exact t2
theorem x7_step {σ : js_S} {o d e : Nat} {y : js_Y} {t : List Int32} (g : gy_ y) (gt : gt_ y.1 t) (he : e < t.length) (hd : 91 ≤ d) (hod : d + 1 < o ∨ o + 1 < d) (ho89 : o ≠ 89 ∧ o + 1 ≠ 89) (hx : xs_ σ y) (ho : to_ σ o) (ht : tm_ σ o t) (hd2 : to_ σ d) : ∃ σ', fX7_step 5000 88 2 o (nI e) d σ = some (sr_ (sp_ y t e), σ') ∧ fi_ (fun z => z = 89 ∨ z = d ∨ z = d + 1) σ σ' ∧ ∀ u, sp_ y t e = some u → tm_ σ' d u := by
  have h6 := g.2.1
  have t40 := gt.2
  obtain ⟨σ1, r1, f1, b1⟩ := x7_lowestRuleAt g ho89 gt he hx ho ht
  unfold fX7_step sp_
  rw [r1, bd_s]
  cases hl : lw_ y t e with
  | none =>
    refine ⟨σ1, ?_, fi_mono f1 (fun a h => by omega), fun u hu => by cases hu⟩
    rw [if_neg (by decide)]
    rfl
  | some r =>
    have hr := lr_lt hl
    obtain ⟨b, hb⟩ := Option.isSome_iff_exists.mp hr.2.2
    have bx1 := b1 r b hl hb
    have c0 : (0 : Int32) ≤ lo_ (-1) (some r) := nI_pos' (by omega)
    obtain ⟨σ2, r2, f2, t2⟩ := x9_empty (σ := σ1) (fu := 5000) (o := d)
    have hx1 := xs_fi f1 h6 (fun a q => by omega) hx
    have hx2 := xs_fi f2 h6 (fun a q => by omega) hx1
    have ht1 := tm_fi f1 ho89.1 ho89.2 ht
    have ht2 := tm_fi f2 (by omega) (by omega) ht1
    obtain ⟨σ3, r3, f3, t3⟩ := x9_range (u := []) (p := 0) (r := e) t40 hod (by omega) (by omega) (by simp) (to_fi f2 (to_fi f1 hd2)) (to_fi f2 (to_fi f1 ho)) t2 ht2
    rw [List.drop_zero, Nat.sub_zero, List.nil_append] at t3
    have hx3 := xs_fi f3 h6 (fun a q => by omega) hx2
    have ht3 := tm_fi f3 (by omega) (by omega) ht2
    have bg := mt_bg g gt he (by omega) hb
    obtain ⟨σ4, r4, f4, t4⟩ := x7_step_loop g gt he (by omega) bg hd hod (rl_ y r).2.length 0 5000 σ3 (t.take e) (by omega) (by have := (g.2.2.1 r (by omega)).2.1.2; omega) (by rw [List.length_take]; omega) hx3 (to_fi f3 (to_fi f2 (to_fi f1 ho))) ht3 (to_fi f3 (to_fi f2 (to_fi f1 hd2))) t3 (fun v hv => by rw [f3.2 89 (by omega), f2.2 89 (by omega)]; exact bx1 v hv)
    rw [List.drop_zero] at r4 t4
    rw [Option.bind_some, hb, Option.bind_some]
    refine ⟨σ4, ?_, ?_, fun u hu => by cases hu; exact t4⟩
    · rw [if_pos c0, r2, bd_s, show fX9_appendRange 5000 d o 0 (nI e) σ2 = _ from r3, bd_s]
      show bd_ (fX6_right 5000 2 (nI r) σ3) _ = _
      rw [x6_right hx3.1 (by omega), bd_s]
      exact r4
    · exact fi_tr (fi_mono f1 (S2 := fun z => z = 89 ∨ z = d ∨ z = d + 1) (fun a h => by omega)) (fi_tr f2 (fi_tr f3 f4 (S3 := fun z => z = d ∨ z = d + 1) (fun a h => h) (fun a h => h)) (S3 := fun z => z = d ∨ z = d + 1) (fun a h => h) (fun a h => h)) (fun a h => h) (fun a h => by omega)
