/-! parsing: what it is -/
abbrev js_R : Type := Bool × Nat × List Int32
def pa_ (w : List Int32) (f : Nat → List Int32 → js_R) : Nat → Bool → Nat → List Int32 → js_R
  | 0, first, p, acc => if first = true then (true, p, acc) else if at_ w p = 41 then (true, p + 1, acc) else (false, p, acc)
  | r + 1, first, p, acc => if at_ w p = (if first = true then 40 else 44) then (if (f (p + 1) acc).1 = true then pa_ w f r false (f (p + 1) acc).2.1 (f (p + 1) acc).2.2 else f (p + 1) acc) else (false, p, acc)
def pt_ (a : Nat → Nat) (w : List Int32) : Nat → Nat → List Int32 → js_R
  | 0, p, acc => (false, p, acc)
  | d + 1, p, acc => if isS_ (at_ w p) = true then pa_ w (pt_ a w d) (sa_ a (at_ w p)) true (p + 1) (acc ++ [at_ w p]) else (false, p, acc)
theorem pa_0 {w : List Int32} {f : Nat → List Int32 → js_R} {first : Bool} {p : Nat} {acc : List Int32} : pa_ w f 0 first p acc = if first = true then (true, p, acc) else if at_ w p = 41 then (true, p + 1, acc) else (false, p, acc) := rfl
theorem pa_s {w : List Int32} {f : Nat → List Int32 → js_R} {r : Nat} {first : Bool} {p : Nat} {acc : List Int32} : pa_ w f (r + 1) first p acc = if at_ w p = (if first = true then 40 else 44) then (if (f (p + 1) acc).1 = true then pa_ w f r false (f (p + 1) acc).2.1 (f (p + 1) acc).2.2 else f (p + 1) acc) else (false, p, acc) := rfl
theorem pt_s {a : Nat → Nat} {w : List Int32} {d p : Nat} {acc : List Int32} : pt_ a w (d + 1) p acc = if isS_ (at_ w p) = true then pa_ w (pt_ a w d) (sa_ a (at_ w p)) true (p + 1) (acc ++ [at_ w p]) else (false, p, acc) := rfl
theorem at_in {w : List Int32} {p : Nat} (h : ¬ at_ w p = 0) : p < w.length := by
  rcases Nat.lt_or_ge p w.length with q | q
  · exact q
  · exact absurd (getD_end q) h
theorem isS_in {w : List Int32} {p : Nat} (h : isS_ (at_ w p) = true) : p < w.length := at_in (fun q => by rw [q] at h; exact absurd h (by decide))
theorem at_eq_in {w : List Int32} {p : Nat} {c : Int32} (hc : c ≠ 0) (h : at_ w p = c) : p < w.length := at_in (fun q => hc (by rw [← h, q]))
/-- what a parser does to the position and to the row -/
def pg_ (w : List Int32) (p : Nat) (acc : List Int32) (r : js_R) : Prop := p ≤ r.2.1 ∧ r.2.1 ≤ w.length ∧ r.2.2.length + p ≤ acc.length + r.2.1
theorem pa_pg {w : List Int32} {f : Nat → List Int32 → js_R} (hf : ∀ p acc, p ≤ w.length → pg_ w p acc (f p acc)) : ∀ {r : Nat} {first : Bool} {p : Nat} {acc : List Int32}, p ≤ w.length → pg_ w p acc (pa_ w f r first p acc)
  | 0, first, p, acc, hp => by
    rw [pa_0]
    by_cases c : first = true
    · rw [if_pos c]; exact ⟨Nat.le_refl _, hp, Nat.le_refl _⟩
    · rw [if_neg c]
      by_cases c2 : at_ w p = 41
      · rw [if_pos c2]
        have := at_eq_in (by decide) c2
        exact ⟨Nat.le_succ _, this, by show acc.length + p ≤ acc.length + (p + 1); omega⟩
      · rw [if_neg c2]; exact ⟨Nat.le_refl _, hp, Nat.le_refl _⟩
  | r + 1, first, p, acc, hp => by
    rw [pa_s]
    by_cases c : at_ w p = (if first = true then 40 else 44)
    · have hlt := at_eq_in (by cases first <;> decide) c
      rw [if_pos c]
      have h1 := hf (p + 1) acc hlt
      by_cases c2 : (f (p + 1) acc).1 = true
      · rw [if_pos c2]
        have h2 := pa_pg hf (r := r) (first := false) (p := (f (p + 1) acc).2.1) (acc := (f (p + 1) acc).2.2) h1.2.1
        exact ⟨Nat.le_trans (by have := h1.1; omega) h2.1, h2.2.1, by have := h1.2.2; have := h2.2.2; have := h1.1; have := h2.1; omega⟩
      · rw [if_neg c2]
        exact ⟨by have := h1.1; omega, h1.2.1, by have := h1.2.2; omega⟩
    · rw [if_neg c]; exact ⟨Nat.le_refl _, hp, Nat.le_refl _⟩
theorem pt_pg {a : Nat → Nat} {w : List Int32} : ∀ {d p : Nat} {acc : List Int32}, p ≤ w.length → pg_ w p acc (pt_ a w d p acc)
  | 0, p, acc, hp => ⟨Nat.le_refl _, hp, Nat.le_refl _⟩
  | d + 1, p, acc, hp => by
    rw [pt_s]
    by_cases c : isS_ (at_ w p) = true
    · rw [if_pos c]
      have hlt := isS_in c
      have := pa_pg (fun p acc h => pt_pg (a := a) (d := d) (p := p) (acc := acc) h) (r := sa_ a (at_ w p)) (first := true) (p := p + 1) (acc := acc ++ [at_ w p]) hlt
      refine ⟨by have := this.1; omega, this.2.1, ?_⟩
      have h3 := this.2.2
      rw [List.length_append, List.length_singleton] at h3
      omega
    · rw [if_neg c]; exact ⟨Nat.le_refl _, hp, Nat.le_refl _⟩
/-- what was read is a term -/
theorem pa_wt {a : Nat → Nat} {w : List Int32} {f : Nat → List Int32 → js_R} (hf : ∀ p acc, (f p acc).1 = true → ∃ t, (f p acc).2.2 = acc ++ t ∧ wt_ a t 1) : ∀ {r : Nat} {first : Bool} {p : Nat} {acc : List Int32}, (pa_ w f r first p acc).1 = true → ∃ t, (pa_ w f r first p acc).2.2 = acc ++ t ∧ wt_ a t r
  | 0, first, p, acc, h => by
    refine ⟨[], ?_, rfl⟩
    rw [pa_0, List.append_nil]
    split
    · rfl
    · split <;> rfl
  | r + 1, first, p, acc, h => by
    rw [pa_s] at h ⊢
    by_cases c : at_ w p = (if first = true then 40 else 44)
    · rw [if_pos c] at h ⊢
      by_cases c2 : (f (p + 1) acc).1 = true
      · rw [if_pos c2] at h ⊢
        obtain ⟨t1, e1, w1⟩ := hf (p + 1) acc c2
        obtain ⟨t2, e2, w2⟩ := pa_wt hf h
        refine ⟨t1 ++ t2, by rw [e2, e1, List.append_assoc], ?_⟩
        have := wt_app w1 w2
        rw [Nat.add_comm] at this
        exact this
      · rw [if_neg c2] at h
        exact absurd h c2
    · rw [if_neg c] at h
      exact absurd h Bool.false_ne_true
theorem pt_wt {a : Nat → Nat} {w : List Int32} : ∀ {d p : Nat} {acc : List Int32}, (pt_ a w d p acc).1 = true → ∃ t, (pt_ a w d p acc).2.2 = acc ++ t ∧ wt_ a t 1
  | 0, p, acc, h => absurd h Bool.false_ne_true
  | d + 1, p, acc, h => by
    rw [pt_s] at h ⊢
    by_cases c : isS_ (at_ w p) = true
    · rw [if_pos c] at h ⊢
      obtain ⟨t, e, w1⟩ := pa_wt (fun p acc => pt_wt (a := a) (d := d) (p := p) (acc := acc)) h
      refine ⟨at_ w p :: t, by rw [e, List.append_assoc]; rfl, by omega, c, ?_⟩
      rw [show 1 - 1 + sa_ a (at_ w p) = sa_ a (at_ w p) by omega]
      exact w1
    · rw [if_neg c] at h
      exact absurd h Bool.false_ne_true
/-! the model parses -/
/-- the model's text, position and row -/
def mq_ (σ : js_S) (a : Nat → Nat) (w : List Int32) (p : Nat) (acc : List Int32) : Prop := lm_ σ.2.2 ∧ (∀ f, f < 3 → σ.1 391 f = nI (a f)) ∧ σ.1 390 15 = nI w.length ∧ vw_ σ 400 0 w ∧ σ.1 390 16 = nI p ∧ rw_ σ 401 0 acc
def fp_ (σ σ' : js_S) : Prop := σ'.2 = σ.2 ∧ ∀ a b, a ≠ 401 → ¬ (a = 390 ∧ b = 16) → σ'.1 a b = σ.1 a b
theorem fp_rf {σ : js_S} : fp_ σ σ := ⟨rfl, fun _ _ _ _ => rfl⟩
theorem fp_tr {σ σ1 σ2 : js_S} (h1 : fp_ σ σ1) (h2 : fp_ σ1 σ2) : fp_ σ σ2 := ⟨h2.1.trans h1.1, fun a b q r => (h2.2 a b q r).trans (h1.2 a b q r)⟩
theorem mq_p {σ : js_S} {a : Nat → Nat} {w : List Int32} {p q : Nat} {acc : List Int32} (h : mq_ σ a w p acc) : mq_ (uI_ σ 390 16 (nI q)) a w q acc := by
  obtain ⟨h1, h2, h3, h4, h5, h6⟩ := h
  refine ⟨h1, fun f hf => by rw [uI_ne (by omega)]; exact h2 f hf, by rw [uI_ne (by omega)]; exact h3, vw_eq (uI_row (by omega)) h4, uI_same, rw_eq (uI_row (by omega)) h6⟩
theorem m_next {σ : js_S} {a : Nat → Nat} {w : List Int32} {p : Nat} {acc : List Int32} (hw : w.length ≤ 80) (hp : p ≤ w.length) (h : mq_ σ a w p acc) : fX12_next 5000 390 σ = some ((if p < w.length then at_ w p else -1), σ) := by
  unfold fX12_next
  rw [h.2.2.1, h.2.2.2.2.1]
  by_cases c : p < w.length
  · have := h.2.2.2.1 p c
    rw [Nat.zero_add] at this
    rw [if_neg (fun z => by have := (n_le (by omega) (by omega)).mp z; omega), lm_12 h.1, ln_400, n_ib (by omega), if_pos (by simp; omega), n_cl (by omega), this, if_pos c]
  · rw [if_pos ((n_le (by omega) (by omega)).mpr (by omega)), if_neg c]
theorem m_accepts {σ : js_S} {a : Nat → Nat} {w : List Int32} {p : Nat} {acc : List Int32} {c : Int32} (hc : c ≠ 0 ∧ c ≠ -1) (hw : w.length ≤ 80) (hp : p ≤ w.length) (h : mq_ σ a w p acc) : fX12_accepts 5000 390 c σ = if at_ w p = c then some (1, uI_ σ 390 16 (nI (p + 1))) else some (0, σ) := by
  unfold fX12_accepts
  rw [m_next hw hp h, bd_s, h.2.2.2.2.1, show nI p + 1 = nI (p + 1) from n_add p 1, lt_s_]
  by_cases c1 : p < w.length
  · rw [if_pos c1]
  · rw [if_neg c1, if_neg (fun z => hc.2 z.symm), if_neg (fun z => hc.1 (by rw [← z]; exact getD_end (by omega)))]
/-- a parser of the model -/
def mf_ (a : Nat → Nat) (w : List Int32) (d : Nat) (rp : Nat → js_S → Option (Int32 × js_S)) : Prop := ∀ p acc σ, p ≤ w.length → acc.length ≤ p → 82 ≤ p + 2 * d → mq_ σ a w p acc → ∃ σ', rp 390 σ = some (bi_ (pt_ a w d p acc).1, σ') ∧ fp_ σ σ' ∧ mq_ σ' a w (pt_ a w d p acc).2.1 (pt_ a w d p acc).2.2
theorem m_args {a : Nat → Nat} {w : List Int32} {d : Nat} {rp : Nat → js_S → Option (Int32 × js_S)} {ar : Nat} (hw : w.length ≤ 80) (har : ar ≤ 3) (hf : mf_ a w d rp) :
    ∀ (r j k p : Nat) (acc : List Int32) (σ : js_S), j + r = ar → r < k → p ≤ w.length → acc.length ≤ p → 81 ≤ p + 2 * d → mq_ σ a w p acc → ∃ σ', fX12_parsesTerm_79 5000 rp k 390 (nI ar) (nI j) σ = some (bi_ (pa_ w (pt_ a w d) r (decide (j = 0)) p acc).1, σ') ∧ fp_ σ σ' ∧ mq_ σ' a w (pa_ w (pt_ a w d) r (decide (j = 0)) p acc).2.1 (pa_ w (pt_ a w d) r (decide (j = 0)) p acc).2.2 := by
  intro r
  induction r with
  | zero =>
    intro j k p acc σ hj hk hp hacc hd hm
    obtain ⟨k, rfl⟩ : ∃ j, k = j + 1 := ⟨k - 1, by omega⟩
    rw [sX12_parsesTerm_79, pa_0]
    unfold fX12_parsesTerm_79b fX12_parsesTerm_130
    rw [if_pos ((n_le (by omega) (by omega)).mpr (by omega))]
    by_cases c : j = 0
    · have e0 : nI ar = 0 := by rw [show ar = 0 by omega]; rfl
      rw [if_pos e0, decide_eq_true c, if_pos rfl]
      exact ⟨σ, rfl, fp_rf, hm⟩
    · have e0 : ¬ nI ar = 0 := fun z => by have := (n_eq (b := 0) (by omega) (by omega)).mp z; omega
      rw [if_neg e0, decide_eq_false c, if_neg Bool.false_ne_true, m_accepts (by decide) hw hp hm]
      by_cases c2 : at_ w p = 41
      · rw [if_pos c2, if_pos c2, bd_s, if_neg (by decide)]
        exact ⟨_, rfl, ⟨rfl, fun a b q1 q2 => uI_ne q2⟩, mq_p hm⟩
      · rw [if_neg c2, if_neg c2, bd_s, if_pos rfl]
        exact ⟨_, rfl, fp_rf, hm⟩
  | succ r ih =>
    intro j k p acc σ hj hk hp hacc hd hm
    obtain ⟨k, rfl⟩ : ∃ j, k = j + 1 := ⟨k - 1, by omega⟩
    have hch : ∀ s : js_S, (if nI j = 0 then fX12_parsesTerm_96 5000 rp (fX12_parsesTerm_79 5000 rp k) 390 (nI ar) (nI j) 40 390 s else fX12_parsesTerm_96 5000 rp (fX12_parsesTerm_79 5000 rp k) 390 (nI ar) (nI j) 44 390 s) = fX12_parsesTerm_96 5000 rp (fX12_parsesTerm_79 5000 rp k) 390 (nI ar) (nI j) (if decide (j = 0) = true then 40 else 44) 390 s := by
      intro s
      by_cases c : j = 0
      · have e0 : nI j = 0 := by rw [c]; rfl
        rw [if_pos e0, decide_eq_true c, if_pos rfl]
      · have e0 : ¬ nI j = 0 := fun z => by have := (n_eq (b := 0) (by omega) (by omega)).mp z; omega
        rw [if_neg e0, decide_eq_false c, if_neg Bool.false_ne_true]
    rw [sX12_parsesTerm_79, pa_s]
    unfold fX12_parsesTerm_79b
    rw [if_neg (fun z => by have := (n_le (by omega) (by omega)).mp z; omega), hch]
    unfold fX12_parsesTerm_96
    rw [m_accepts (by split <;> decide) hw hp hm]
    by_cases c : at_ w p = (if decide (j = 0) = true then 40 else 44)
    · have hlt := at_eq_in (by split <;> decide) c
      rw [if_pos c, if_pos c, bd_s, if_neg (by decide)]
      obtain ⟨σ1, r1, f1, m1⟩ := hf (p + 1) acc _ hlt (by omega) (by omega) (mq_p (q := p + 1) hm)
      have f0 : fp_ σ (uI_ σ 390 16 (nI (p + 1))) := ⟨rfl, fun a b q1 q2 => uI_ne q2⟩
      have pg := pt_pg (a := a) (d := d) (acc := acc) (show p + 1 ≤ w.length from hlt)
      rw [r1, bd_s]
      by_cases c2 : (pt_ a w d (p + 1) acc).1 = true
      · rw [c2, bi_t, if_neg (by decide), if_pos rfl, show nI j + 1 = nI (j + 1) from n_add j 1]
        obtain ⟨σ2, r2, f2, m2⟩ := ih (j + 1) k (pt_ a w d (p + 1) acc).2.1 (pt_ a w d (p + 1) acc).2.2 σ1 (by omega) (by omega) pg.2.1 (by have := pg.2.2; omega) (by have := pg.1; omega) m1
        rw [show decide (j + 1 = 0) = false by simp] at r2 m2
        exact ⟨σ2, r2, fp_tr f0 (fp_tr f1 f2), m2⟩
      · have c2f : (pt_ a w d (p + 1) acc).1 = false := by simpa using c2
        rw [if_neg c2, c2f, bi_f, if_pos rfl]
        exact ⟨σ1, rfl, fp_tr f0 f1, m1⟩
    · rw [if_neg c, if_neg c, bd_s, if_pos rfl]
      exact ⟨σ, rfl, fp_rf, hm⟩
theorem m_parses {a : Nat → Nat} {w : List Int32} (hga : ga_ a) (hw : w.length ≤ 80) : ∀ d, mf_ a w d (fX12_parsesTerm 5000 d)
  | 0 => fun p acc σ h1 h2 h3 h4 => by omega
  | d + 1 => by
    intro p acc σ hp hacc hd hm
    have ih := m_parses hga hw d
    rw [sX12_parsesTerm, pt_s]
    unfold fX12_parsesTerm_e
    rw [m_next hw hp hm, bd_s]
    by_cases c : p < w.length
    · rw [if_pos c]
      have run39 : isS_ (at_ w p) = true → ∃ σ', fX12_parsesTerm_39 5000 (fX12_parsesTerm 5000 d) 390 (at_ w p) σ = some (bi_ (pa_ w (pt_ a w d) (sa_ a (at_ w p)) true (p + 1) (acc ++ [at_ w p])).1, σ') ∧ fp_ σ σ' ∧ mq_ σ' a w (pa_ w (pt_ a w d) (sa_ a (at_ w p)) true (p + 1) (acc ++ [at_ w p])).2.1 (pa_ w (pt_ a w d) (sa_ a (at_ w p)) true (p + 1) (acc ++ [at_ w p])).2.2 := by
        intro hS
        unfold fX12_parsesTerm_39
        have m1 := mq_p (q := p + 1) hm
        have fa : fp_ σ (uI_ (uI_ (uI_ σ 390 16 (nI (p + 1))) 401 0 (nI (acc.length + 1))) 401 (acc.length + 1) (at_ w p)) := ⟨rfl, fun a b q1 q2 => by rw [uI_ne (fun z => q1 z.1), uI_ne (fun z => q1 z.1), uI_ne q2]⟩
        have m2 : mq_ (uI_ (uI_ (uI_ σ 390 16 (nI (p + 1))) 401 0 (nI (acc.length + 1))) 401 (acc.length + 1) (at_ w p)) a w (p + 1) (acc ++ [at_ w p]) := by
          refine ⟨hm.1, fun f hf => by rw [uI_ne (by omega), uI_ne (by omega), uI_ne (by omega)]; exact hm.2.1 f hf, by rw [uI_ne (by omega), uI_ne (by omega), uI_ne (by omega)]; exact hm.2.2.1, vw_eq (by rw [uI_row (by omega), uI_row (by omega), uI_row (by omega)]) hm.2.2.2.1, by rw [uI_ne (by omega), uI_ne (by omega), uI_same], ?_, fun k hk => ?_⟩
          · rw [uI_ne (by omega), uI_same, List.length_append]
            rfl
          · rw [at_push]
            rw [List.length_append, List.length_singleton] at hk
            by_cases q : k < acc.length
            · rw [if_pos q, uI_ne (by omega), uI_ne (by omega), uI_ne (by omega)]
              exact hm.2.2.2.2.2.2 k q
            · rw [if_neg q, if_pos (by omega), show 0 + 1 + k = acc.length + 1 by omega, uI_same]
        have hl0 : lm_ (uI_ σ 390 16 (nI (p + 1))).2.2 := hm.1
        have e401 : (uI_ σ 390 16 (nI (p + 1))).1 401 0 = nI acc.length := by rw [uI_ne (by omega)]; exact hm.2.2.2.2.2.1
        have hl1 : lm_ (uI_ (uI_ σ 390 16 (nI (p + 1))) 401 0 (nI (acc.length + 1))).2.2 := hm.1
        have hsa := sa_le hga (at_ w p)
        rw [hm.2.2.2.2.1, show nI p + 1 = nI (p + 1) from n_add p 1, lt_s_, lm_13 hl0, ln_401, if_pos (by decide), if_pos (by decide), show Int32.toNatClampNeg 0 = 0 from rfl, e401, show nI acc.length + 1 = nI (acc.length + 1) from n_add acc.length 1, lt_s_, lm_13 hl1, ln_401, if_pos (by decide), uI_same, n_ib (by omega), if_pos (by simp; omega), n_cl (by omega), lt_s_, m_arityOf m2.1 m2.2.1, bd_s]
        obtain ⟨σ2, r2, f2, q2⟩ := m_args hw hsa ih (sa_ a (at_ w p)) 0 5000 (p + 1) (acc ++ [at_ w p]) _ (by omega) (by omega) c (by rw [List.length_append, List.length_singleton]; omega) (by omega) m2
        rw [show decide (0 = 0) = true from rfl] at r2 q2
        exact ⟨σ2, r2, fp_tr fa f2, q2⟩
      rw [m_isFunction, bd_s]
      by_cases hF : isF_ (at_ w p) = true
      · have hS : isS_ (at_ w p) = true := by unfold isS_; rw [hF]; rfl
        rw [if_pos hF, if_neg (by decide), if_pos hS]
        exact run39 hS
      · rw [if_neg hF, if_pos rfl, m_isVariable, bd_s]
        by_cases hV : isV_ (at_ w p) = true
        · have hS : isS_ (at_ w p) = true := by unfold isS_; rw [hV]; simp
          rw [if_pos hV, if_neg (by decide), if_pos hS]
          exact run39 hS
        · rw [if_neg hV, if_pos rfl]
          by_cases h1 : at_ w p = 122
          · have hS : isS_ (at_ w p) = true := by rw [h1]; decide
            rw [if_pos h1, if_pos hS]
            exact run39 hS
          · rw [if_neg h1]
            by_cases h2 : at_ w p = 115
            · have hS : isS_ (at_ w p) = true := by rw [h2]; decide
              rw [if_pos h2, if_pos hS]
              exact run39 hS
            · rw [if_neg h2]
              by_cases h3 : at_ w p = 99
              · have hS : isS_ (at_ w p) = true := by rw [h3]; decide
                rw [if_pos h3, if_pos hS]
                exact run39 hS
              · have hS : ¬ isS_ (at_ w p) = true := by
                  unfold isS_
                  simp [hF, hV, h1, h2, h3]
                rw [if_neg h3, if_neg hS]
                exact ⟨σ, rfl, fp_rf, hm⟩
    · have hS : ¬ isS_ (at_ w p) = true := fun z => c (isS_in z)
      rw [if_neg c, if_neg hS, m_isFunction, bd_s, if_pos (by decide), m_isVariable, bd_s, if_pos (by decide), if_neg (by decide), if_neg (by decide), if_neg (by decide)]
      exact ⟨σ, rfl, fp_rf, hm⟩
