/-! formatting: what it is -/
abbrev js_Q : Type := Nat × List Int32
def fa_ (f : Nat → List Int32 → js_Q) : Nat → Bool → Nat → List Int32 → js_Q
  | 0, first, e, acc => (e, if first = true then acc else acc ++ [41])
  | r + 1, first, e, acc => fa_ f r false (f e (acc ++ [if first = true then 40 else 44])).1 (f e (acc ++ [if first = true then 40 else 44])).2
def fo_ (a : Nat → Nat) (t : List Int32) : Nat → Nat → List Int32 → js_Q
  | 0, e, acc => (e, acc)
  | d + 1, e, acc => fa_ (fo_ a t d) (sa_ a (at_ t e)) true (e + 1) (acc ++ [at_ t e])
theorem fa_s {f : Nat → List Int32 → js_Q} {r e : Nat} {first : Bool} {acc : List Int32} : fa_ f (r + 1) first e acc = fa_ f r false (f e (acc ++ [if first = true then 40 else 44])).1 (f e (acc ++ [if first = true then 40 else 44])).2 := rfl
theorem fo_s {a : Nat → Nat} {t : List Int32} {d e : Nat} {acc : List Int32} : fo_ a t (d + 1) e acc = fa_ (fo_ a t d) (sa_ a (at_ t e)) true (e + 1) (acc ++ [at_ t e]) := rfl
/-- what a writer does: it writes the subterm at e -/
def wg_ (a : Nat → Nat) (t : List Int32) (f : Nat → List Int32 → js_Q) (d : Nat) : Prop := ∀ e acc m, ok_ a (t.drop e) m → 1 ≤ m → t.length < e + d → ok_ a (t.drop (f e acc).1) (m - 1) ∧ e < (f e acc).1 ∧ (f e acc).1 ≤ t.length ∧ (f e acc).2.length + 2 ≤ acc.length + 4 * ((f e acc).1 - e)
theorem fa_wg {a : Nat → Nat} {t : List Int32} {f : Nat → List Int32 → js_Q} {d : Nat} (hf : wg_ a t f d) : ∀ {r : Nat} {first : Bool} {e : Nat} {acc : List Int32} {m : Nat}, ok_ a (t.drop e) (m + r) → e ≤ t.length → t.length < e + d → ok_ a (t.drop (fa_ f r first e acc).1) m ∧ e ≤ (fa_ f r first e acc).1 ∧ (fa_ f r first e acc).1 ≤ t.length ∧ (fa_ f r first e acc).2.length ≤ acc.length + 4 * ((fa_ f r first e acc).1 - e) + 1
  | 0, first, e, acc, m, h, he, hd => by
    refine ⟨h, Nat.le_refl _, he, ?_⟩
    show (if first = true then acc else acc ++ [41]).length ≤ acc.length + 4 * (e - e) + 1
    split
    · omega
    · rw [List.length_append, List.length_singleton]
      omega
  | r + 1, first, e, acc, m, h, he, hd => by
    rw [fa_s]
    have h1 := hf e (acc ++ [if first = true then 40 else 44]) (m + (r + 1)) h (by omega) hd
    rw [show m + (r + 1) - 1 = m + r by omega] at h1
    have h2 := fa_wg hf (r := r) (first := false) (e := (f e (acc ++ [if first = true then 40 else 44])).1) (acc := (f e (acc ++ [if first = true then 40 else 44])).2) (m := m) h1.1 h1.2.2.1 (by omega)
    have l1 := h1.2.2.2
    rw [List.length_append, List.length_singleton] at l1
    have l2 := h2.2.2.2
    have k1 := h1.2.1
    have k2 := h2.2.1
    exact ⟨h2.1, by omega, h2.2.2.1, by omega⟩
theorem fo_wg {a : Nat → Nat} {t : List Int32} : ∀ {d : Nat}, wg_ a t (fo_ a t d) d
  | 0 => fun e acc m h hm hd => by
    have := ok_ne h hm
    omega
  | d + 1 => by
    intro e acc m h hm hd
    have hlt := ok_ne h hm
    rw [fo_s]
    have h0 := ok_step h hm
    have h1 := fa_wg (fo_wg (a := a) (t := t) (d := d)) (r := sa_ a (at_ t e)) (first := true) (e := e + 1) (acc := acc ++ [at_ t e]) (m := m - 1) h0 hlt (by omega)
    have l1 := h1.2.2.2
    rw [List.length_append, List.length_singleton] at l1
    have k1 := h1.2.1
    exact ⟨h1.1, by omega, h1.2.2.1, by omega⟩
/-! the model formats -/
def mw_ (σ : js_S) (a : Nat → Nat) (p : Nat) (t acc : List Int32) : Prop := lm_ σ.2.2 ∧ (∀ f, f < 3 → σ.1 391 f = nI (a f)) ∧ vw_ σ 395 p t ∧ σ.1 390 35 = nI acc.length ∧ vw_ σ 417 0 acc
def fw_ (σ σ' : js_S) : Prop := σ'.2 = σ.2 ∧ ∀ a b, a ≠ 417 → ¬ (a = 390 ∧ b = 35) → σ'.1 a b = σ.1 a b
theorem fw_rf {σ : js_S} : fw_ σ σ := ⟨rfl, fun _ _ _ _ => rfl⟩
theorem fw_tr {σ σ1 σ2 : js_S} (h1 : fw_ σ σ1) (h2 : fw_ σ1 σ2) : fw_ σ σ2 := ⟨h2.1.trans h1.1, fun a b q r => (h2.2 a b q r).trans (h1.2 a b q r)⟩
theorem m_put {σ : js_S} {a : Nat → Nat} {p : Nat} {t acc : List Int32} {c : Int32} (h : mw_ σ a p t acc) (hl : acc.length < 160) : ∃ σ', fX12_put 5000 390 c σ = some ((), σ') ∧ fw_ σ σ' ∧ mw_ σ' a p t (acc ++ [c]) := by
  refine ⟨uI_ (uI_ σ 417 acc.length c) 390 35 (nI (acc.length + 1)), ?_, ⟨rfl, fun a b q1 q2 => by rw [uI_ne q2, uI_ne (fun z => q1 z.1)]⟩, h.1, fun f hf => by rw [uI_ne (by omega), uI_ne (by omega)]; exact h.2.1 f hf, vw_eq (by rw [uI_row (by omega), uI_row (by omega)]) h.2.2.1, by rw [uI_same, List.length_append]; rfl, ?_⟩
  · unfold fX12_put
    rw [h.2.2.2.1, lm_34 h.1, ln_417, n_ib (by omega), if_pos (by simp; omega), n_cl (by omega), lt_s_, lt_s_, uI_ne (by omega), h.2.2.2.1, show nI acc.length + 1 = nI (acc.length + 1) from n_add acc.length 1]
  · have := vw_push (x := c) h.2.2.2.2
    rw [Nat.zero_add] at this
    exact vw_eq (uI_row (by omega)) this
def mfo_ (a : Nat → Nat) (p : Nat) (t : List Int32) (d : Nat) (rp : Nat → Int32 → js_S → Option (Int32 × js_S)) : Prop := ∀ e acc m σ, ok_ a (t.drop e) m → 1 ≤ m → t.length < e + d → acc.length ≤ 4 * e → mw_ σ a p t acc → ∃ σ', rp 390 (nI (p + e)) σ = some (nI (p + (fo_ a t d e acc).1), σ') ∧ fw_ σ σ' ∧ mw_ σ' a p t (fo_ a t d e acc).2
theorem m_fargs {a : Nat → Nat} {p : Nat} {t : List Int32} {d ar : Nat} {rp : Nat → Int32 → js_S → Option (Int32 × js_S)} (h40 : t.length ≤ 40) (har : ar ≤ 3) (hf : mfo_ a p t d rp) :
    ∀ (r j k e m : Nat) (acc : List Int32) (σ : js_S), j + r = ar → r < k → ok_ a (t.drop e) (m + r) → e ≤ t.length → t.length < e + d → acc.length + 3 ≤ 4 * e → mw_ σ a p t acc → ∃ σ', fX12_format_26 5000 rp k 390 (nI (p + e)) (nI ar) (nI j) σ = some (nI (p + (fa_ (fo_ a t d) r (decide (j = 0)) e acc).1), σ') ∧ fw_ σ σ' ∧ mw_ σ' a p t (fa_ (fo_ a t d) r (decide (j = 0)) e acc).2 := by
  intro r
  induction r with
  | zero =>
    intro j k e m acc σ hj hk hok he hd hacc hm
    obtain ⟨k, rfl⟩ : ∃ j, k = j + 1 := ⟨k - 1, by omega⟩
    rw [sX12_format_26]
    unfold fX12_format_26b
    rw [if_pos ((n_le (by omega) (by omega)).mpr (by omega))]
    show ∃ σ', _ = some (nI (p + e), σ') ∧ _ ∧ mw_ σ' a p t (if decide (j = 0) = true then acc else acc ++ [41])
    by_cases c : j = 0
    · have e0 : nI ar ≤ 0 := by rw [show ar = 0 by omega]; decide
      rw [if_pos e0, decide_eq_true c, if_pos rfl]
      exact ⟨σ, rfl, fw_rf, hm⟩
    · have e0 : ¬ nI ar ≤ 0 := fun z => by have := (n_le (b := 0) (by omega) (by omega)).mp z; omega
      obtain ⟨σ1, r1, f1, m1⟩ := m_put (c := 41) hm (by omega)
      rw [if_neg e0, decide_eq_false c, if_neg Bool.false_ne_true, r1, bd_s]
      exact ⟨σ1, rfl, f1, m1⟩
  | succ r ih =>
    intro j k e m acc σ hj hk hok he hd hacc hm
    obtain ⟨k, rfl⟩ : ∃ j, k = j + 1 := ⟨k - 1, by omega⟩
    have hch : ∀ s : js_S, (if nI j = 0 then fX12_format_46 5000 rp (fX12_format_26 5000 rp k) 390 (nI (p + e)) (nI ar) (nI j) 40 390 s else fX12_format_46 5000 rp (fX12_format_26 5000 rp k) 390 (nI (p + e)) (nI ar) (nI j) 44 390 s) = fX12_format_46 5000 rp (fX12_format_26 5000 rp k) 390 (nI (p + e)) (nI ar) (nI j) (if decide (j = 0) = true then 40 else 44) 390 s := by
      intro s
      by_cases c : j = 0
      · have e0 : nI j = 0 := by rw [c]; rfl
        rw [if_pos e0, decide_eq_true c, if_pos rfl]
      · have e0 : ¬ nI j = 0 := fun z => by have := (n_eq (b := 0) (by omega) (by omega)).mp z; omega
        rw [if_neg e0, decide_eq_false c, if_neg Bool.false_ne_true]
    rw [sX12_format_26, fa_s]
    unfold fX12_format_26b
    rw [if_neg (fun z => by have := (n_le (by omega) (by omega)).mp z; omega), hch]
    unfold fX12_format_46
    obtain ⟨σ1, r1, f1, m1⟩ := m_put (c := if decide (j = 0) = true then 40 else 44) hm (by omega)
    obtain ⟨σ2, r2, f2, m2⟩ := hf e _ (m + (r + 1)) σ1 hok (by omega) hd (by rw [List.length_append, List.length_singleton]; omega) m1
    have w := fo_wg (a := a) (t := t) (d := d) e (acc ++ [if decide (j = 0) = true then 40 else 44]) (m + (r + 1)) hok (by omega) hd
    rw [show m + (r + 1) - 1 = m + r by omega] at w
    have l1 := w.2.2.2
    rw [List.length_append, List.length_singleton] at l1
    have k1 := w.2.1
    obtain ⟨σ3, r3, f3, m3⟩ := ih (j + 1) k _ m _ σ2 (by omega) (by omega) w.1 w.2.2.1 (by omega) (by omega) m2
    rw [show decide (j + 1 = 0) = false by simp] at r3 m3
    refine ⟨σ3, ?_, fw_tr f1 (fw_tr f2 f3), m3⟩
    rw [r1, bd_s, r2, bd_s, show nI j + 1 = nI (j + 1) from n_add j 1, r3]
theorem m_format {a : Nat → Nat} {p : Nat} {t : List Int32} (hga : ga_ a) (h40 : t.length ≤ 40) (hp : p + t.length ≤ 384) : ∀ d, mfo_ a p t d (fX12_format 5000 d)
  | 0 => fun e acc m σ h1 h2 h3 h4 h5 => by
    have := ok_ne h1 h2
    omega
  | d + 1 => by
    intro e acc m σ hok hm1 hd hacc hm
    have hlt := ok_ne hok hm1
    have ih := m_format hga h40 hp d
    have hsa := sa_le hga (at_ t e)
    obtain ⟨σ1, r1, f1, m1⟩ := m_put (c := at_ t e) hm (by omega)
    have h0 := ok_step hok hm1
    obtain ⟨σ2, r2, f2, m2⟩ := m_fargs h40 hsa ih (sa_ a (at_ t e)) 0 5000 (e + 1) (m - 1) (acc ++ [at_ t e]) σ1 (by omega) (by omega) h0 hlt (by omega) (by rw [List.length_append, List.length_singleton]; omega) m1
    rw [show decide (0 = 0) = true from rfl] at r2 m2
    refine ⟨σ2, ?_, fw_tr f1 f2, m2⟩
    show fX12_format_e 5000 (fX12_format 5000 d) 390 (nI (p + e)) σ = _
    unfold fX12_format_e
    rw [lm_4 hm.1, ln_395, n_ib (by omega), if_pos (by simp; omega), n_cl (by omega), hm.2.2.1 e hlt, r1, bd_s, m_arityOf m1.1 m1.2.1, bd_s, show nI (p + e) + 1 = nI (p + (e + 1)) from n_add (p + e) 1]
    exact r2
/-! the class formats -/
def mi2_ (σ : js_S) : List Nat → Prop
  | [] => True
  | m :: st => σ.1 87 st.length = nI m ∧ 1 ≤ m ∧ m ≤ 3 ∧ mi2_ σ st
theorem mi2_eq {σ σ' : js_S} : ∀ {st : List Nat}, (∀ i, i < st.length → σ'.1 87 i = σ.1 87 i) → mi2_ σ st → mi2_ σ' st
  | [], _, _ => trivial
  | m :: st, h, hm => ⟨by rw [h st.length (by simp)]; exact hm.1, hm.2.1, hm.2.2.1, mi2_eq (fun i hi => h i (by simp; omega)) hm.2.2.2⟩
def xw_ (σ : js_S) (a : Nat → Nat) (o : Nat) (t acc : List Int32) (st : List Nat) : Prop := lx_ σ.2.2 ∧ sg_ σ 3 a ∧ to_ σ o ∧ tm_ σ o t ∧ σ.1 85 2 = nI acc.length ∧ vw_ σ 86 0 acc ∧ mi2_ σ st
def fv2_ (σ σ' : js_S) : Prop := fi_ (fun a => a = 85 ∨ a = 86 ∨ a = 87) σ σ'
theorem fv2_tr {σ σ1 σ2 : js_S} (h1 : fv2_ σ σ1) (h2 : fv2_ σ1 σ2) : fv2_ σ σ2 := fi_tr h1 h2 (fun a q => q) (fun a q => q)
theorem x10_append {σ : js_S} {a : Nat → Nat} {o : Nat} {t acc : List Int32} {st : List Nat} {c : Int32} (ho : o + 1 < 82) (h : xw_ σ a o t acc st) (hl : acc.length < 160) : ∃ σ', fX10_append 5000 85 c σ = some (1, σ') ∧ fv2_ σ σ' ∧ xw_ σ' a o t (acc ++ [c]) st := by
  obtain ⟨h1, h2, h3, h4, h5, h6, h7⟩ := h
  have f : fv2_ σ (uI_ (uI_ σ 86 acc.length c) 85 2 (nI (acc.length + 1))) := fi_tr (fi_u (S := fun a => a = 86) rfl) (fi_u (S := fun a => a = 85) rfl) (fun a q => by omega) (fun a q => by omega)
  refine ⟨_, ?_, f, h1, sg_fi f (by omega) h2, h3, tm_fi f (by omega) (by omega) h4, by rw [uI_same, List.length_append]; rfl, ?_, mi2_eq (fun i _ => by rw [uI_ne (by omega), uI_ne (by omega)]) h7⟩
  · unfold fX10_append
    rw [h5, if_neg (nI_pos (by omega)), lx_85_0 h1, ln_86, n_of, if_pos ((n_lt (by omega) (by omega)).mpr (by omega)), n_ib (by omega), if_pos (by simp; omega), n_cl (by omega), lt_s_, lt_s_, uI_ne (by omega), h5, show nI acc.length + 1 = nI (acc.length + 1) from n_add acc.length 1]
  · have := vw_push (x := c) h6
    rw [Nat.zero_add] at this
    exact vw_eq (uI_row (by omega)) this
theorem fa_wt {a : Nat → Nat} {t : List Int32} {f : Nat → List Int32 → js_Q} (hf : ∀ e acc m, wt_ a (t.drop e) (m + 1) → wt_ a (t.drop (f e acc).1) m) : ∀ {r : Nat} {first : Bool} {e : Nat} {acc : List Int32} {m : Nat}, wt_ a (t.drop e) (m + r) → wt_ a (t.drop (fa_ f r first e acc).1) m
  | 0, first, e, acc, m, h => h
  | r + 1, first, e, acc, m, h => by
    rw [fa_s]
    exact fa_wt hf (hf e _ (m + r) h)
theorem fo_wt {a : Nat → Nat} {t : List Int32} : ∀ {d e : Nat} {acc : List Int32} {m : Nat}, t.length < e + d → wt_ a (t.drop e) (m + 1) → wt_ a (t.drop (fo_ a t d e acc).1) m
  | 0, e, acc, m, hd, h => by
    have : e < t.length := ok_ne (ok_wt h) (by omega)
    omega
  | d + 1, e, acc, m, hd, h => by
    have hlt : e < t.length := ok_ne (ok_wt h) (by omega)
    rw [fo_s]
    rw [drop_get hlt] at h
    have h2 := h.2.2
    rw [show m + 1 - 1 + sa_ a (at_ t e) = m + sa_ a (at_ t e) by omega] at h2
    -- every argument stands behind e
    have key : ∀ (r : Nat) (first : Bool) (e1 : Nat) (acc1 : List Int32), e < e1 → wt_ a (t.drop e1) (m + r) → wt_ a (t.drop (fa_ (fo_ a t d) r first e1 acc1).1) m := by
      intro r
      induction r with
      | zero => exact fun first e1 acc1 _ h => h
      | succ r ih =>
        intro first e1 acc1 he1 h1
        rw [fa_s]
        have w := fo_wg (a := a) (t := t) (d := d) e1 (acc1 ++ [if first = true then 40 else 44]) (m + (r + 1)) (ok_wt h1) (by omega) (by omega)
        exact ih false _ _ (by have := w.2.1; omega) (fo_wt (by omega) h1)
    exact key _ true (e + 1) _ (by omega) h2
def bw_ (kb k o n : Nat) (x4 : Int32) (σ : js_S) : Option (Unit × js_S) := bd_ (fX10_writeBehindArgument_12 5000 kb 85 (nI n - 1) σ) fun r1 σ1 => fX10_write_10 5000 k 85 3 o r1 (x4 + 1) σ1
def xo_ (a : Nat → Nat) (o : Nat) (t : List Int32) (d : Nat) : Prop := ∀ e acc m k st σ, ok_ a (t.drop e) m → 1 ≤ m → t.length < e + d → acc.length ≤ 4 * e → 100 ≤ k + e → st.length ≤ e → xw_ σ a o t acc st → ∃ σ' kb k', fX10_write_10 5000 k 85 3 o (nI st.length) (nI e) σ = bw_ kb k' o st.length (nI ((fo_ a t d e acc).1 - 1)) σ' ∧ st.length < kb ∧ k + e = k' + (fo_ a t d e acc).1 ∧ fv2_ σ σ' ∧ xw_ σ' a o t (fo_ a t d e acc).2 st
theorem xw_top {σ : js_S} {a : Nat → Nat} {o m m' : Nat} {t acc : List Int32} {st : List Nat} (ho : o + 1 < 82) (h : xw_ σ a o t acc (m :: st)) (h1 : 1 ≤ m') (h3 : m' ≤ 3) : xw_ (uI_ σ 87 st.length (nI m')) a o t acc (m' :: st) := by
  obtain ⟨g1, g2, g3, g4, g5, g6, g7⟩ := h
  have f : fi_ (fun a => a = 87) σ (uI_ σ 87 st.length (nI m')) := fi_u rfl
  exact ⟨g1, sg_fi f (by omega) g2, g3, tm_fi f (by omega) (by omega) g4, by rw [uI_ne (by omega)]; exact g5, vw_fi f (by omega) g6, uI_same, h1, h3, mi2_eq (fun i hi => uI_ne (by omega)) g7.2.2.2⟩
theorem xw_pop {σ : js_S} {a : Nat → Nat} {o m : Nat} {x : Int32} {t acc : List Int32} {st : List Nat} (ho : o + 1 < 82) (h : xw_ σ a o t acc (m :: st)) : xw_ (uI_ σ 87 st.length x) a o t acc st := by
  obtain ⟨g1, g2, g3, g4, g5, g6, g7⟩ := h
  have f : fi_ (fun a => a = 87) σ (uI_ σ 87 st.length x) := fi_u rfl
  exact ⟨g1, sg_fi f (by omega) g2, g3, tm_fi f (by omega) (by omega) g4, by rw [uI_ne (by omega)]; exact g5, vw_fi f (by omega) g6, mi2_eq (fun i hi => uI_ne (by omega)) g7.2.2.2⟩
theorem x_fargs {a : Nat → Nat} {o d : Nat} {t : List Int32} (h40 : t.length ≤ 40) (ho : o + 1 < 82) (hc : xo_ a o t d) :
    ∀ (r e : Nat) (acc : List Int32) (m k : Nat) (st : List Nat) (σ : js_S), ok_ a (t.drop e) (m + (r + 1)) → t.length < e + d → acc.length + 2 ≤ 4 * e → 100 ≤ k + e → st.length + 1 ≤ e → xw_ σ a o t acc ((r + 1) :: st) → ∃ σ' kb k', fX10_write_10 5000 k 85 3 o (nI (st.length + 1)) (nI e) σ = bw_ kb k' o st.length (nI ((fa_ (fo_ a t d) r false (fo_ a t d e acc).1 (fo_ a t d e acc).2).1 - 1)) σ' ∧ st.length < kb ∧ k + e = k' + (fa_ (fo_ a t d) r false (fo_ a t d e acc).1 (fo_ a t d e acc).2).1 ∧ fv2_ σ σ' ∧ xw_ σ' a o t (fa_ (fo_ a t d) r false (fo_ a t d e acc).1 (fo_ a t d e acc).2).2 st := by
  intro r
  induction r with
  | zero =>
    intro e acc m k st σ hok hd hacc hk hst hx
    have hlt := ok_ne hok (by omega)
    obtain ⟨σ1, kb, k1, r1, b1, b2, f1, x1⟩ := hc e acc (m + 1) k (1 :: st) σ hok (by omega) hd (by omega) hk hst hx
    have w := fo_wg (a := a) (t := t) (d := d) e acc (m + 1) hok (by omega) hd
    have w1 := w.2.1
    have w2 := w.2.2.1
    have w3 := w.2.2.2
    have hl : (1 :: st).length = st.length + 1 := rfl
    rw [hl] at r1 b1
    obtain ⟨kb, rfl⟩ : ∃ j, kb = j + 1 := ⟨kb - 1, by omega⟩
    have lvl : nI (st.length + 1) - 1 = nI st.length := n_pred (by omega)
    have x2 := xw_pop (x := nI 0) ho x1
    have f2 : fv2_ σ1 (uI_ σ1 87 st.length (nI 0)) := fi_u (by omega)
    obtain ⟨σ3, r3, f3, x3⟩ := x10_append (c := 41) ho x2 (by omega)
    refine ⟨σ3, kb, k1, ?_, by omega, b2, fv2_tr f1 (fv2_tr f2 f3), x3⟩
    rw [r1]
    unfold bw_
    rw [lvl, sX10_writeBehindArgument_12]
    unfold fX10_writeBehindArgument_12b
    have l0 : lx_ (uI_ σ1 87 st.length (nI 0)).2.2 := x1.1
    rw [if_neg (nI_pos (by omega)), lx_85_1 x1.1, ln_87, n_ib (by omega), if_pos (by simp; omega), if_pos (by simp; omega), n_cl (by omega), x1.2.2.2.2.2.2.1, show nI 1 - 1 = nI 0 from rfl, lt_s_, lx_85_1 l0, ln_87, n_ib (by omega), if_pos (by simp; omega), uI_same, if_pos (show nI 0 ≤ 0 from by decide), r3, bd_s, show nI st.length + (-1) = nI st.length - 1 from (Int32.sub_eq_add_neg _ _).symm]
    rfl
  | succ r ih =>
    intro e acc m k st σ hok hd hacc hk hst hx
    have hlt := ok_ne hok (by omega)
    obtain ⟨σ1, kb, k1, r1, b1, b2, f1, x1⟩ := hc e acc (m + (r + 2)) k ((r + 2) :: st) σ hok (by omega) hd (by omega) hk hst hx
    have w := fo_wg (a := a) (t := t) (d := d) e acc (m + (r + 2)) hok (by omega) hd
    rw [show m + (r + 2) - 1 = m + (r + 1) by omega] at w
    have w1 := w.2.1
    have w2 := w.2.2.1
    have w3 := w.2.2.2
    have hl : ((r + 2) :: st).length = st.length + 1 := rfl
    rw [hl] at r1 b1
    obtain ⟨kb, rfl⟩ : ∃ j, kb = j + 1 := ⟨kb - 1, by omega⟩
    have lvl : nI (st.length + 1) - 1 = nI st.length := n_pred (by omega)
    have hr3 := x1.2.2.2.2.2.2.2.2.1
    have x2 := xw_top (m' := r + 1) ho x1 (by omega) (by omega)
    have f2 : fv2_ σ1 (uI_ σ1 87 st.length (nI (r + 1))) := fi_u (by omega)
    obtain ⟨σ3, r3, f3, x3⟩ := x10_append (c := 44) ho x2 (by omega)
    obtain ⟨σ4, kb4, k4, r4, b4, b5, f4, x4⟩ := ih (fo_ a t d e acc).1 ((fo_ a t d e acc).2 ++ [44]) m k1 st σ3 w.1 (by omega) (by rw [List.length_append, List.length_singleton]; omega) (by omega) (by omega) x3
    refine ⟨σ4, kb4, k4, ?_, b4, b2.trans b5, fv2_tr f1 (fv2_tr f2 (fv2_tr f3 f4)), x4⟩
    rw [r1]
    unfold bw_
    rw [lvl, sX10_writeBehindArgument_12]
    unfold fX10_writeBehindArgument_12b
    have l0 : lx_ (uI_ σ1 87 st.length (nI (r + 1))).2.2 := x1.1
    have c0 : ¬ nI (r + 1) ≤ 0 := fun z => by have := (n_le (b := 0) (by omega) (by omega)).mp z; omega
    rw [if_neg (nI_pos (by omega)), lx_85_1 x1.1, ln_87, n_ib (by omega), if_pos (by simp; omega), if_pos (by simp; omega), n_cl (by omega), x1.2.2.2.2.2.2.1, show nI (r + 2) - 1 = nI (r + 1) from n_pred (by omega), lt_s_, lx_85_1 l0, ln_87, n_ib (by omega), if_pos (by simp; omega), uI_same, if_neg c0, r3, bd_s, bd_s, show nI st.length + 1 = nI (st.length + 1) from n_add st.length 1, show nI ((fo_ a t d e acc).1 - 1) + 1 = nI ((fo_ a t d e acc).1 - 1 + 1) from n_add _ 1, show (fo_ a t d e acc).1 - 1 + 1 = (fo_ a t d e acc).1 by omega, r4]
    rfl
theorem x_writes {a : Nat → Nat} {o : Nat} {t : List Int32} (hga : ga_ a) (h40 : t.length ≤ 40) (ho : o + 1 < 82) : ∀ d, xo_ a o t d
  | 0 => fun e acc m k st σ h1 h2 h3 h4 h5 h6 h7 => by
    have := ok_ne h1 h2
    omega
  | d + 1 => by
    intro e acc m k st σ hok hm hd hacc hk hst hx
    have ih := x_writes hga h40 ho d
    have hlt := ok_ne hok hm
    have hsa := sa_le hga (at_ t e)
    obtain ⟨k, rfl⟩ : ∃ j, k = j + 1 := ⟨k - 1, by omega⟩
    obtain ⟨σ1, r1, f1, x1⟩ := x10_append (c := at_ t e) ho hx (by omega)
    rw [sX10_write_10, fo_s]
    unfold fX10_write_10b fX10_write_77 fX10_write_83
    rw [hx.2.2.2.1.1, if_neg (fun z => by have := (n_le (by omega) (by omega)).mp z; omega), x9_symbolAt hx.2.2.1.1 hx.2.2.1.2.1 hx.2.2.2.1 h40 (by omega), bd_s, x8_ofSymbol (lx_3_0 hx.1) ln_4 hx.2.1, bd_s, r1, bd_s]
    by_cases c0 : sa_ a (at_ t e) = 0
    · have e0 : nI (sa_ a (at_ t e)) ≤ 0 := by rw [c0]; decide
      rw [if_pos e0, c0]
      refine ⟨σ1, 5000, k, ?_, by omega, by show k + 1 + e = k + (e + 1); omega, f1, x1⟩
      unfold fX10_writeBehindArgument bw_
      rw [lx_85_1 x1.1, ln_87, n_of, if_neg (fun z => by have := (n_lt (by omega) (by omega)).mp z; omega)]
      rfl
    · have e0 : ¬ nI (sa_ a (at_ t e)) ≤ 0 := fun z => by have := (n_le (b := 0) (by omega) (by omega)).mp z; omega
      obtain ⟨r, hr⟩ : ∃ r, sa_ a (at_ t e) = r + 1 := ⟨sa_ a (at_ t e) - 1, by omega⟩
      have l1 : (acc ++ [at_ t e]).length = acc.length + 1 := by rw [List.length_append, List.length_singleton]
      obtain ⟨σ2, r2, f2, x2⟩ := x10_append (c := 40) ho x1 (by omega)
      have x3 : xw_ (uI_ σ2 87 st.length (nI (r + 1))) a o t (acc ++ [at_ t e] ++ [40]) ((r + 1) :: st) := by
        obtain ⟨g1, g2, g3, g4, g5, g6, g7⟩ := x2
        have f : fi_ (fun a => a = 87) σ2 (uI_ σ2 87 st.length (nI (r + 1))) := fi_u rfl
        exact ⟨g1, sg_fi f (by omega) g2, g3, tm_fi f (by omega) (by omega) g4, by rw [uI_ne (by omega)]; exact g5, vw_fi f (by omega) g6, uI_same, by omega, by omega, mi2_eq (fun i hi => uI_ne (by omega)) g7⟩
      have f3 : fv2_ σ2 (uI_ σ2 87 st.length (nI (r + 1))) := fi_u (by omega)
      have h0 := ok_step hok hm
      rw [hr] at h0
      obtain ⟨σ4, kb4, k4, r4, b4, b5, f4, x4⟩ := x_fargs h40 ho ih r (e + 1) (acc ++ [at_ t e] ++ [40]) (m - 1) k st _ h0 (by omega) (by rw [List.length_append, List.length_singleton]; omega) (by omega) (by omega) x3
      rw [if_neg e0, lx_85_1 x1.1, ln_87, n_of, if_neg (fun z => by have := (n_le (by omega) (by omega)).mp z; omega), r2, bd_s, lx_85_1 x2.1, ln_87, n_ib (by omega), if_pos (by simp; omega), n_cl (by omega), lt_s_, hr, show nI st.length + 1 = nI (st.length + 1) from n_add st.length 1, show nI e + 1 = nI (e + 1) from n_add e 1]
      refine ⟨σ4, kb4, k4, r4, b4, ?_, fv2_tr f1 (fv2_tr f2 (fv2_tr f3 f4)), x4⟩
      exact (show k + 1 + e = k + (e + 1) by omega).trans b5
