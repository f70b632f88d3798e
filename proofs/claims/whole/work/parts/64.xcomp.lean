/-! the class: components -/
def co2_ (σ : js_S) (o : Nat) : Prop := σ.2.2 o 0 = o + 1 ∧ go_ σ (o + 1) (o + 2) ∧ σ.2.2 o 1 = o + 3 ∧ go_ σ (o + 3) (o + 4) ∧ σ.2.2 o 2 = o + 5 ∧ ln_ (o + 5) = 240 ∧ 366 < o
theorem co2_r {σ σ' : js_S} {o : Nat} (h : σ'.2.2 = σ.2.2) (hc : co2_ σ o) : co2_ σ' o := by
  unfold co2_ go_
  rw [h]
  exact hc
theorem co2_372 {σ : js_S} (h : lx_ σ.2.2) : co2_ σ 372 := ⟨lx_372_0 h, ⟨lx_373_0 h, ln_374⟩, lx_372_1 h, ⟨lx_375_0 h, ln_376⟩, lx_372_2 h, ln_377, by omega⟩
theorem co2_382 {σ : js_S} (h : lx_ σ.2.2) : co2_ σ 382 := ⟨lx_382_0 h, ⟨lx_383_0 h, ln_384⟩, lx_382_1 h, ⟨lx_385_0 h, ln_386⟩, lx_382_2 h, ln_387, by omega⟩
theorem x1_number {σ : js_S} {o l : Nat} (h : co2_ σ o) (hl : l < 240) : fX1_number 5000 o (nI l) σ = some (σ.1 (o + 5) l, σ) := by
  obtain ⟨h0, h1, h2, h3, h4, h5, h6⟩ := h
  unfold fX1_number
  rw [if_neg (nI_pos (by omega)), h4, h5, n_of, if_neg (nle_f (by omega) (by omega)), if_pos (ib_t (by omega) (by omega)), n_cl (by omega)]
theorem x1_nf {σ : js_S} {o i c : Nat} {W : Nat → Nat → Bool} (h : co2_ σ o) (hi : i < 240) (hb : ∀ f t, t < 240 → f < 240 → eb_ σ (o + 4) f t = W f t) (hc : σ.1 o 3 = nI c) :
    ∀ d l k, l + d = i → d < k → fX1_numberFor_16 5000 k o (nI i) (nI l) σ = if ll_ (mu_ W) i d l < i then some (σ.1 (o + 5) (ll_ (mu_ W) i d l), σ) else some (nI c, uI_ σ o 3 (nI (c + 1))) := by
  intro d
  induction d with
  | zero =>
    intro l k hl hk
    obtain ⟨k, rfl⟩ : ∃ j, k = j + 1 := ⟨k - 1, by omega⟩
    rw [sX1_numberFor_16]
    unfold fX1_numberFor_16b
    rw [if_pos (nle_t (by omega) (by omega)), hc, lt_s_, n_s, uI_same, n_pred (by omega), Nat.add_sub_cancel, if_neg (show ¬ ll_ (mu_ W) i 0 l < i from fun z => by have : l < i := z; omega)]
  | succ d ih =>
    intro l k hl hk
    obtain ⟨k, rfl⟩ : ∃ j, k = j + 1 := ⟨k - 1, by omega⟩
    have ihl := ih (l + 1) k (by omega) (by omega)
    rw [sX1_numberFor_16, ll_s]
    unfold fX1_numberFor_16b fX1_numberFor_51 mu_
    rw [if_neg (nle_f (by omega) (by omega)), h.2.2.1, x4_has h.2.2.2.1 hi (show l < 240 by omega), hb i l (by omega) (by omega), bd_s, n_s]
    cases c1 : W i l with
    | false =>
      rw [bi_f, if_pos rfl, Bool.false_and, if_neg Bool.false_ne_true]
      exact ihl
    | true =>
      rw [bi_t, if_neg (by decide), h.2.2.1, x4_has h.2.2.2.1 (show l < 240 by omega) hi, hb l i (by omega) (by omega), bd_s, Bool.true_and]
      cases c2 : W l i with
      | false =>
        rw [bi_f, if_pos rfl, if_neg Bool.false_ne_true]
        exact ihl
      | true =>
        rw [bi_t, if_neg (by decide), x1_number h (by omega), bd_s, if_pos rfl, if_pos (by omega)]
theorem x1_rb34 {o n : Nat} {W : Nat → Nat → Bool} (hn : n ≤ 240) (hq : qv_ (mu_ W) n) :
    ∀ (d i k : Nat) (σ : js_S), i + d = n → d < k → co2_ σ o → σ.1 366 4 = nI n → (∀ f t, t < 240 → f < 240 → eb_ σ (o + 4) f t = W f t) → σ.1 o 3 = nI (ct2_ (mu_ W) i) → σ.1 o 4 = nI (mb_ (mu_ W) i) → (∀ j, j < i → σ.1 (o + 5) j = nc2_ (mu_ W) j) → ∃ σ', fX1_rebuild_34 5000 k o 366 (nI i) σ = some ((), σ') ∧ fi_ (fun a => a = o ∨ a = o + 5) σ σ' ∧ σ'.1 o 3 = nI (ct2_ (mu_ W) n) ∧ σ'.1 o 4 = nI (mb_ (mu_ W) n) ∧ ∀ j, j < n → σ'.1 (o + 5) j = nc2_ (mu_ W) j := by
  intro d
  induction d with
  | zero =>
    intro i k σ hi hk h hp hb h3 h4 h5
    obtain ⟨k, rfl⟩ : ∃ j, k = j + 1 := ⟨k - 1, by omega⟩
    have e : i = n := by omega
    subst e
    refine ⟨σ, ?_, fi_rf, h3, h4, h5⟩
    rw [sX1_rebuild_34]
    unfold fX1_rebuild_34b
    rw [hp, if_pos (nle_t (by omega) (by omega))]
  | succ d ih =>
    intro i k σ hi hk h hp hb h3 h4 h5
    obtain ⟨k, rfl⟩ : ∃ j, k = j + 1 := ⟨k - 1, by omega⟩
    have ho : 366 < o := h.2.2.2.2.2.2
    have hct := ct2_le (R := mu_ W) (i := i)
    have hmb := mb_le (R := mu_ W) (i := i)
    have r5 : σ.2.2 o 2 = o + 5 := h.2.2.2.2.1
    have l5 : ln_ (o + 5) = 240 := h.2.2.2.2.2.1
    rw [sX1_rebuild_34]
    unfold fX1_rebuild_34b fX1_rebuild_81
    rw [hp, if_neg (nle_f (by omega) (by omega)), r5, l5, n_of, if_neg (nle_f (by omega) (by omega))]
    have hnum : fX1_numberFor 5000 o (nI i) σ = if W i i = true then fX1_numberFor_16 5000 5000 o (nI i) 0 σ else some (-1, σ) := by
      unfold fX1_numberFor
      rw [h.2.2.1, x4_has h.2.2.2.1 (show i < 240 by omega) (show i < 240 by omega), hb i i (by omega) (by omega), bd_s]
      cases W i i with
      | false => rw [bi_f, if_pos rfl, if_neg Bool.false_ne_true]
      | true => rw [bi_t, if_neg (by decide), if_pos rfl]
    rw [hnum]
    have hcont : ∀ (σ1 : js_S) (r : Int32), σ1 = σ ∨ σ1 = uI_ σ o 3 (nI (ct2_ (mu_ W) i + 1)) → r = nc2_ (mu_ W) i → σ1.1 o 3 = nI (ct2_ (mu_ W) (i + 1)) →
        ∃ σ', (bd_ (some (r, σ1)) fun r5 σ5 => (if ib_ (nI i) 240 = true then (lt_ (uI_ σ5 (o + 5) (Int32.toNatClampNeg (nI i)) r5) fun σ6 => (if ib_ (nI i) (ln_ (σ6.2.2 o 2)) = true then (if (σ6.1 (σ6.2.2 o 2) (Int32.toNatClampNeg (nI i))) < 0 then (fX1_rebuild_34 5000 k o 366 (nI i + 1) σ6) else (lt_ (uI_ σ6 o 4 ((σ6.1 o 4) + 1)) fun σ10 => (fX1_rebuild_34 5000 k o 366 (nI i + 1) σ10))) else none)) else none)) = some ((), σ') ∧ fi_ (fun a => a = o ∨ a = o + 5) σ σ' ∧ σ'.1 o 3 = nI (ct2_ (mu_ W) n) ∧ σ'.1 o 4 = nI (mb_ (mu_ W) n) ∧ ∀ j, j < n → σ'.1 (o + 5) j = nc2_ (mu_ W) j := by
      intro σ1 r hs hr h13
      have f1 : fi_ (fun a => a = o ∨ a = o + 5) σ σ1 := by
        rcases hs with rfl | rfl
        · exact fi_rf
        · exact fi_u (Or.inl rfl)
      have h14 : σ1.1 o 4 = nI (mb_ (mu_ W) i) := by
        rcases hs with rfl | rfl
        · exact h4
        · rw [uI_ne (by omega)]; exact h4
      have h15 : ∀ j, j < i → σ1.1 (o + 5) j = nc2_ (mu_ W) j := by
        intro j hj
        rcases hs with rfl | rfl
        · exact h5 j hj
        · rw [uI_ne (by omega)]; exact h5 j hj
      have f2 : fi_ (fun a => a = o ∨ a = o + 5) σ (uI_ σ1 (o + 5) i r) := fi_tr f1 (fi_u (S := fun a => a = o ∨ a = o + 5) (Or.inr rfl)) (fun a q => q) (fun a q => q)
      have g2 : (uI_ σ1 (o + 5) i r).2.2 o 2 = o + 5 := by rw [fi_r f2]; exact r5
      have h25 : ∀ j, j < i + 1 → (uI_ σ1 (o + 5) i r).1 (o + 5) j = nc2_ (mu_ W) j := by
        intro j hj
        by_cases c : j = i
        · rw [c, uI_same, hr]
        · rw [uI_ne (by omega)]; exact h15 j (by omega)
      rw [bd_s, if_pos (ib_t (by omega) (by omega)), n_cl (by omega), lt_s_, g2, l5, if_pos (ib_t (by omega) (by omega)), uI_same, n_s]
      by_cases c : mu_ W i i = true
      · have hr2 : r = nI (nu_ (mu_ W) i) := by rw [hr]; unfold nc2_; rw [if_pos c]
        have hnu := nu_lt hq c
        have hctn := ct2_le (R := mu_ W) (i := n)
        have f3 : fi_ (fun a => a = o ∨ a = o + 5) σ (uI_ (uI_ σ1 (o + 5) i r) o 4 (nI (mb_ (mu_ W) (i + 1)))) := fi_tr f2 (fi_u (S := fun a => a = o ∨ a = o + 5) (Or.inl rfl)) (fun a q => q) (fun a q => q)
        obtain ⟨σ', q1, q2, q3⟩ := ih (i + 1) k (uI_ (uI_ σ1 (o + 5) i r) o 4 (nI (mb_ (mu_ W) (i + 1)))) (by omega) (by omega) (co2_r (fi_r f3) h) (by rw [f3.2 366 (by omega)]; exact hp) (fun f t ht hf => by unfold eb_; rw [f3.1]; exact hb f t ht hf) (by rw [uI_ne (by omega), uI_ne (by omega)]; exact h13) uI_same (fun j hj => by rw [uI_ne (by omega)]; exact h25 j hj)
        refine ⟨σ', ?_, fi_tr f3 q2 (fun a q => q) (fun a q => q), q3⟩
        rw [hr2, if_neg (nI_pos (by omega)), ← hr2, uI_ne (by omega), h14, lt_s_, n_s, show mb_ (mu_ W) i + 1 = mb_ (mu_ W) (i + 1) by rw [mb_s, if_pos c], q1]
      · have hr2 : r = -1 := by rw [hr]; unfold nc2_; rw [if_neg c]
        obtain ⟨σ', q1, q2, q3⟩ := ih (i + 1) k (uI_ σ1 (o + 5) i r) (by omega) (by omega) (co2_r (fi_r f2) h) (by rw [f2.2 366 (by omega)]; exact hp) (fun f t ht hf => by unfold eb_; rw [f2.1]; exact hb f t ht hf) (by rw [uI_ne (by omega)]; exact h13) (by rw [uI_ne (by omega), h14, mb_s, if_neg c]; rfl) h25
        refine ⟨σ', ?_, fi_tr f2 q2 (fun a q => q) (fun a q => q), q3⟩
        rw [hr2, if_pos (by decide), ← hr2, q1]
    cases c : W i i with
    | false =>
      have hR : mu_ W i i = false := by rw [mu_d]; exact c
      rw [if_neg Bool.false_ne_true]
      exact hcont σ (-1) (Or.inl rfl) (by unfold nc2_; rw [hR, if_neg Bool.false_ne_true]) (by rw [ct2_s, lb_f hR, if_neg Bool.false_ne_true]; exact h3)
    | true =>
      have hR : mu_ W i i = true := by rw [mu_d]; exact c
      obtain ⟨b1, b2, b3⟩ := lo2_spec hR
      rw [if_pos rfl, show fX1_numberFor_16 5000 5000 o (nI i) 0 σ = _ from x1_nf h (show i < 240 by omega) hb h3 i 0 5000 (by omega) (by omega)]
      show ∃ σ', (bd_ (if lo2_ (mu_ W) i < i then some (σ.1 (o + 5) (lo2_ (mu_ W) i), σ) else some (nI (ct2_ (mu_ W) i), uI_ σ o 3 (nI (ct2_ (mu_ W) i + 1)))) _) = some ((), σ') ∧ _
      by_cases c2 : lo2_ (mu_ W) i < i
      · rw [if_pos c2]
        have hll : mu_ W (lo2_ (mu_ W) i) (lo2_ (mu_ W) i) = true := hq.2.1 _ _ i (hq.1 _ _ b1) b1
        refine hcont σ _ (Or.inl rfl) ?_ ?_
        · rw [h5 _ c2]
          unfold nc2_ nu_
          rw [if_pos hll, if_pos hR, lo2_lo hq hR]
        · rw [ct2_s, show lb_ (mu_ W) i = false by unfold lb_; rw [decide_eq_false (show ¬ lo2_ (mu_ W) i = i by omega), Bool.and_false], if_neg Bool.false_ne_true]
          exact h3
      · rw [if_neg c2]
        have e : lo2_ (mu_ W) i = i := by omega
        refine hcont _ _ (Or.inr rfl) ?_ ?_
        · unfold nc2_ nu_
          rw [if_pos hR, e]
        · rw [uI_same, ct2_s, show lb_ (mu_ W) i = true by unfold lb_; rw [hR, decide_eq_true e]; rfl, if_pos rfl]
/-- the frame of a rebuilding -/
def fo2_ (o : Nat) (σ σ' : js_S) : Prop := σ'.2.2 = σ.2.2 ∧ (∀ a, a ≠ o → a ≠ o + 5 → σ'.1 a = σ.1 a) ∧ ∀ a, a ≠ o + 4 → σ'.2.1 a = σ.2.1 a
theorem x1_rebuild {σ : js_S} {o n : Nat} {E : Nat → Nat → Bool} (hn : n ≤ 240) (hE : ∀ i j, E i j = true → i < n ∧ j < n) (h : co2_ σ o) (hp : σ.1 366 4 = nI n) (hb : ∀ f t, t < 240 → f < 240 → eb_ σ (o + 2) f t = E f t) : ∃ σ', fX1_rebuild 5000 o 366 σ = some ((), σ') ∧ fo2_ o σ σ' ∧ σ'.1 o 3 = nI (ct2_ (mu_ (wr_ E n)) n) ∧ σ'.1 o 4 = nI (mb_ (mu_ (wr_ E n)) n) ∧ ∀ j, j < n → σ'.1 (o + 5) j = nc2_ (mu_ (wr_ E n)) j := by
  have ho : 366 < o := h.2.2.2.2.2.2
  obtain ⟨σ1, r1, f1, e1⟩ := x4_copyFrom h.2.2.2.1 h.2.1
  obtain ⟨σ2, r2, f2, e2⟩ := x4_paths2 (E := E) (p := o + 3) (o := o + 4) hn hE n 0 5000 σ1 (by omega) (by omega) (go_fl f1 h.2.2.2.1) (fun f t ht hf => by rw [e1 f t ht hf, hb f t ht hf]; rfl)
  have f12 := fl2_tr f1 f2
  have f3 : fi_ (fun a => a = o ∨ a = o + 5) σ2 (uI_ (uI_ σ2 o 3 0) o 4 0) := fi_tr (fi_u (S := fun a => a = o) rfl) (fi_u (S := fun a => a = o) rfl) (fun a q => by omega) (fun a q => by omega)
  obtain ⟨σ4, r4, f4, q3, q4, q5⟩ := x1_rb34 (o := o) (W := wr_ E n) hn (mu_qv hE) n 0 5000 (uI_ (uI_ σ2 o 3 0) o 4 0) (by omega) (by omega) (co2_r (show _ = σ.2.2 by rw [fi_r f3, f12.2.1]) h) (by rw [f3.2 366 (by omega), f12.1]; exact hp) (fun f t ht hf => by unfold eb_; rw [f3.1]; exact e2 f t ht hf) (by rw [uI_ne (by omega), uI_same]; rfl) (by rw [uI_same]; rfl) (fun j hj => by omega)
  have f34 := fi_tr f3 f4 (fun a q => q) (fun a q => q)
  refine ⟨σ4, ?_, ⟨by rw [fi_r f34, f12.2.1], fun a a1 a2 => by rw [f34.2 a (by omega), f12.1], fun a ha => by rw [f34.1, f12.2.2 a ha]⟩, q3, q4, q5⟩
  unfold fX1_rebuild
  rw [h.2.2.1, h.1, r1, bd_s, show σ1.2.2 o 1 = o + 3 by rw [f1.2.1]; exact h.2.2.1, show σ1.1 366 4 = nI n by rw [f1.1]; exact hp]
  unfold fX4_addPaths
  rw [show fX4_addPaths_2 5000 5000 (o + 3) (nI n) 0 σ1 = _ from r2, bd_s, lt_s_, lt_s_]
  exact r4
