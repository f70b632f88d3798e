/-! exploration: what it is -/
def ed_ (y : js_Y) (t : List Int32) : Nat → Nat → js_F → js_F
  | 0, _, F => F
  | d + 1, e, F => ed_ y t d (e + 1) (match sk2_ (sp_ y t e) with | none => F | some u => ii_ u F)
theorem ed_s {y : js_Y} {t : List Int32} {d e : Nat} {F : js_F} : ed_ y t (d + 1) e F = ed_ y t d (e + 1) (match sk2_ (sp_ y t e) with | none => F | some u => ii_ u F) := rfl
abbrev js_E : Type := js_F × Nat × Nat × List Int32 × List Int32
def ex1_ (y : js_Y) (q : List Int32 × js_F) (s : js_E) : js_E := (ed_ y q.1 q.1.length 0 q.2, s.2.1 + 1, s.2.2.1 + (if nfm_ y q.1 = true then 1 else 0), q.1, if nfm_ y q.1 = true ∧ (s.2.2.1 = 0 ∨ cmp_ q.1 s.2.2.2.2 < 0) then q.1 else s.2.2.2.2)
def er_ (y : js_Y) : Nat → js_E → js_E
  | 0, s => s
  | k + 1, s => match mk_ s.1 with
    | none => s
    | some q => er_ y k (ex1_ y q s)
theorem er_s {y : js_Y} {k : Nat} {s : js_E} : er_ y (k + 1) s = match mk_ s.1 with
    | none => s
    | some q => er_ y k (ex1_ y q s) := rfl
/-- what holds of it -/
def ei_ (y : js_Y) (s : js_E) : Prop := so_ s.1 ∧ (∀ q, q ∈ s.1 → gt_ y.1 q.1) ∧ ct_ s.1 = s.2.1 ∧ s.1.length ≤ 1 + 40 * s.2.1
theorem ct_ii {u : List Int32} : ∀ {F : js_F}, ct_ (ii_ u F) = ct_ F
  | [] => rfl
  | p :: F => by
    unfold ii_
    by_cases c1 : cmp_ u p.1 = 0
    · rw [if_pos c1]
    · rw [if_neg c1]
      by_cases c2 : cmp_ u p.1 < 0
      · rw [if_pos c2, ct_cons]
        rfl
      · rw [if_neg c2, ct_cons, ct_cons, ct_ii]
theorem ii_len {u : List Int32} : ∀ {F : js_F}, (ii_ u F).length ≤ F.length + 1
  | [] => by simp [ii_]
  | p :: F => by
    have := ii_len (u := u) (F := F)
    unfold ii_
    split
    · simp
    · split
      · simp
      · simp only [List.length_cons]
        omega
theorem ed_ei {y : js_Y} {t : List Int32} (g : gy_ y) (gt : gt_ y.1 t) : ∀ {d e : Nat} {F : js_F}, e + d = t.length → so_ F → (∀ q, q ∈ F → gt_ y.1 q.1) → so_ (ed_ y t d e F) ∧ (∀ q, q ∈ ed_ y t d e F → gt_ y.1 q.1) ∧ ct_ (ed_ y t d e F) = ct_ F ∧ (ed_ y t d e F).length ≤ F.length + d
  | 0, e, F, _, h1, h2 => ⟨h1, h2, rfl, Nat.le_refl _⟩
  | d + 1, e, F, he, h1, h2 => by
    rw [ed_s]
    cases hs : sk2_ (sp_ y t e) with
    | none =>
      have := ed_ei g gt (d := d) (e := e + 1) (F := F) (by omega) h1 h2
      exact ⟨this.1, this.2.1, this.2.2.1, Nat.le_trans this.2.2.2 (by omega)⟩
    | some u =>
      have hu := sk2_gt g gt (by omega) hs
      have := ed_ei g gt (d := d) (e := e + 1) (F := ii_ u F) (by omega) (ii_so h1) (fun q hq => (ii_mem hq).elim (fun w => by rw [w]; exact hu.1) (fun w => h2 q w))
      have l := ii_len (u := u) (F := F)
      exact ⟨this.1, this.2.1, this.2.2.1.trans ct_ii, Nat.le_trans this.2.2.2 (by omega)⟩
theorem so_mid : ∀ {A B : js_F} {t : List Int32} {b b' : Bool}, so_ (A ++ (t, b) :: B) → so_ (A ++ (t, b') :: B)
  | [], B, t, b, b', h => h
  | p :: A, B, t, b, b', h => by
    refine ⟨fun q hq => ?_, so_mid h.2⟩
    rcases List.mem_append.mp hq with w | w
    · exact h.1 q (List.mem_append.mpr (Or.inl w))
    · rcases List.mem_cons.mp w with e | e
      · rw [e]
        exact h.1 (t, b) (List.mem_append.mpr (Or.inr List.mem_cons_self))
      · exact h.1 q (List.mem_append.mpr (Or.inr (List.mem_cons_of_mem _ e)))
theorem ct_mid {A B : js_F} {t : List Int32} : ct_ (A ++ (t, true) :: B) = ct_ (A ++ (t, false) :: B) + 1 := by
  unfold ct_
  rw [List.countP_append, List.countP_append, List.countP_cons, List.countP_cons]
  simp
  omega
theorem mk_ei {y : js_Y} {s : js_E} {q : List Int32 × js_F} (h : ei_ y s) (hm : mk_ s.1 = some q) : gt_ y.1 q.1 ∧ so_ q.2 ∧ (∀ r, r ∈ q.2 → gt_ y.1 r.1) ∧ ct_ q.2 = s.2.1 + 1 ∧ q.2.length = s.1.length := by
  obtain ⟨A, B, e1, e2, e3, e4⟩ := mk_s (t := q.1) (F' := q.2) hm
  have hq : gt_ y.1 q.1 := h.2.1 (q.1, false) (by rw [e1]; exact List.mem_append.mpr (Or.inr List.mem_cons_self))
  refine ⟨hq, ?_, fun r hr => ?_, ?_, ?_⟩
  · rw [e2]
    have := h.1
    rw [e1] at this
    exact so_mid this
  · rw [e2] at hr
    rcases List.mem_append.mp hr with w | w
    · exact h.2.1 r (by rw [e1]; exact List.mem_append.mpr (Or.inl w))
    · rcases List.mem_cons.mp w with e | e
      · rw [e]; exact hq
      · exact h.2.1 r (by rw [e1]; exact List.mem_append.mpr (Or.inr (List.mem_cons_of_mem _ e)))
  · rw [← h.2.2.1, e2, ct_mid, ← e1]
  · rw [e2, e1]
    simp
theorem en_ei {y : js_Y} {s : js_E} {q : List Int32 × js_F} (g : gy_ y) (h : ei_ y s) (hm : mk_ s.1 = some q) : ei_ y (ex1_ y q s) := by
  obtain ⟨h1, h2, h3, h4, h5⟩ := mk_ei h hm
  have := ed_ei g h1 (d := q.1.length) (e := 0) (F := q.2) (by omega) h2 h3
  refine ⟨this.1, this.2.1, this.2.2.1.trans h4, ?_⟩
  have l1 := this.2.2.2
  have l2 := h.2.2.2
  have l3 := h1.2
  show (ed_ y q.1 q.1.length 0 q.2).length ≤ 1 + 40 * (s.2.1 + 1)
  omega
/-! the class explores -/
theorem xs_fh {S : Nat → Prop} {σ σ' : js_S} {y : js_Y} (h : fh_ S σ σ') (hy : y.2.1.length ≤ 6) (hS : ∀ a, a = 2 ∨ a = 4 ∨ (10 ≤ a ∧ a < 34) → ¬ S a) (hx : xs_ σ y) : xs_ σ' y := by
  obtain ⟨h1, h2, h3, h4⟩ := hx
  refine ⟨lx_eq h.1 h1, ?_, by rw [h.2.2.2 2 (hS _ (by omega))]; exact h3, fun i hi => ⟨tm_eq (h.2.2.2 _ (hS _ (by omega))) (h.2.2.2 _ (hS _ (by omega))) (h4 i hi).1, tm_eq (h.2.2.2 _ (hS _ (by omega))) (h.2.2.2 _ (hS _ (by omega))) (h4 i hi).2⟩⟩
  unfold sg_
  rw [h.2.2.2 4 (hS _ (by omega))]
  exact h2
theorem sp_n {y : js_Y} {t : List Int32} {e : Nat} : sp_ y t e = none ↔ ¬ rx_ y t e = true := by
  unfold sp_ rx_
  cases hl : lw_ y t e with
  | none => simp
  | some r =>
    have hr := lr_lt hl
    obtain ⟨b, hb⟩ := Option.isSome_iff_exists.mp hr.2.2
    rw [Option.bind_some, hb]
    simp
theorem sr_5 {y : js_Y} {t : List Int32} {e : Nat} : sr_ (sp_ y t e) = -5 ↔ ¬ rx_ y t e = true := by
  rw [← sp_n]
  cases h : sp_ y t e with
  | none => exact ⟨fun _ => rfl, fun _ => rfl⟩
  | some u =>
    rw [sr_s]
    constructor
    · intro q
      by_cases c : 40 < u.length
      · rw [if_pos c] at q
        exact absurd q (by decide)
      · rw [if_neg c] at q
        have : ¬ nI u.length < 0 := nI_pos (by omega)
        rw [q] at this
        exact absurd (by decide) this
    · intro q
      cases q
theorem x3_exp_loop {y : js_Y} {t : List Int32} (g : gy_ y) (gt : gt_ y.1 t) :
    ∀ (d e k : Nat) (σ : js_S) (F : js_F) (b : Bool), e + d = t.length → d < k → xs_ σ y → tm_ σ 298 t → cs_ σ (F.take 30) → ∃ σ', fX3_expandCurrent_5 5000 k 293 2 88 (bi_ b) (nI e) σ = (if bi_ (b && decide (rcn_ (rx_ y t) d e = 0)) = 0 then some ((), σ') else bd_ (fX3_noteNormalForm 5000 293 σ') fun _ σ4 => some ((), σ4)) ∧ fh_ (fun a => a = 89 ∨ a = 293 ∨ (295 ≤ a ∧ a ≤ 297) ∨ (302 ≤ a ∧ a ≤ 363)) σ σ' ∧ (∀ b, b ≠ 5 → σ'.1 293 b = σ.1 293 b) ∧ cs_ σ' ((ed_ y t d e F).take 30) := by
  have h6 := g.2.1
  have t40 := gt.2
  intro d
  induction d with
  | zero =>
    intro e k σ F b he hk hx ht hc
    obtain ⟨k, rfl⟩ : ∃ j, k = j + 1 := ⟨k - 1, by omega⟩
    refine ⟨σ, ?_, fh_rf, fun _ _ => rfl, hc⟩
    rw [sX3_expandCurrent_5]
    unfold fX3_expandCurrent_5b
    rw [lx_293_3 hx.1, ht.1, if_pos ((n_le (by omega) (by omega)).mpr (by omega)), show (b && decide (rcn_ (rx_ y t) 0 e = 0)) = b by simp [rcn_]]
  | succ d ih =>
    intro e k σ F b he hk hx ht hc
    obtain ⟨k, rfl⟩ : ∃ j, k = j + 1 := ⟨k - 1, by omega⟩
    have t298 : to_ σ 298 := to_of hx.1 (by omega) (by decide +kernel)
    have t296 : to_ σ 296 := to_of hx.1 (by omega) (by decide +kernel)
    obtain ⟨σ1, r1, f1, u1⟩ := x7_step (d := 296) (o := 298) (e := e) g gt (by omega) (by omega) (by omega) (by omega) hx t298 ht t296
    have hx1 := xs_fi f1 h6 (fun a q => by omega) hx
    have ht1 := tm_fi f1 (by omega) (by omega) ht
    have hc1 := cs_fi f1 (fun a q => by omega) hc
    have fh1 : fh_ (fun a => a = 89 ∨ a = 293 ∨ (295 ≤ a ∧ a ≤ 297) ∨ (302 ≤ a ∧ a ≤ 363)) σ σ1 := fh_fi f1 (fun a q => by omega)
    have b1 : ∀ b, b ≠ 5 → σ1.1 293 b = σ.1 293 b := fun b _ => by rw [f1.2 293 (by omega)]
    -- the flag
    have hb : (if sr_ (sp_ y t e) = -5 then bi_ b else (0 : Int32)) = bi_ (b && !rx_ y t e) := by
      by_cases c : rx_ y t e = true
      · rw [if_neg (fun z => sr_5.mp z c), c]
        cases b <;> rfl
      · rw [if_pos (sr_5.mpr c), show rx_ y t e = false by simpa using c]
        cases b <;> rfl
    have hb2 : (b && !rx_ y t e && decide (rcn_ (rx_ y t) d (e + 1) = 0)) = (b && decide (rcn_ (rx_ y t) (d + 1) e = 0)) := by
      show _ = (b && decide ((if rx_ y t e = true then 1 else 0) + rcn_ (rx_ y t) d (e + 1) = 0))
      cases rx_ y t e <;> cases b <;> simp
    have split : fX3_expandCurrent_5 5000 (k + 1) 293 2 88 (bi_ b) (nI e) σ = fX3_expandCurrent_43 5000 (fX3_expandCurrent_5 5000 k) 293 2 88 (bi_ (b && !rx_ y t e)) (nI e) (sr_ (sp_ y t e)) σ1 := by
      rw [sX3_expandCurrent_5]
      unfold fX3_expandCurrent_5b
      rw [lx_293_3 hx.1, ht.1, if_neg (fun z => by have := (n_le (by omega) (by omega)).mp z; omega), lx_293_2 hx.1, r1, bd_s, ← hb]
      by_cases c : sr_ (sp_ y t e) = -5
      · rw [if_pos c, if_pos c]
      · rw [if_neg c, if_neg c]
    rw [split]
    unfold fX3_expandCurrent_43 fX3_expandCurrent_56
    rw [ed_s, show nI e + 1 = nI (e + 1) from n_add e 1, ← hb2]
    cases hs : sk2_ (sp_ y t e) with
    | none =>
      have cneg : sr_ (sp_ y t e) < 0 := by
        rcases sk2_r hs with q | q
        · rw [q]; decide
        · rw [q]; decide
      obtain ⟨σ2, r2, f2, b2, c2⟩ := ih (e + 1) k σ1 F (b && !rx_ y t e) (by omega) (by omega) hx1 ht1 hc1
      refine ⟨σ2, by rw [if_pos cneg, r2], fh_tr fh1 f2 (fun a q => q) (fun a q => q), fun b q => (b2 b q).trans (b1 b q), c2⟩
    | some u =>
      have h3 := sk2_s hs
      have cneg : ¬ nI u.length < 0 := nI_pos (by omega)
      obtain ⟨σ3, r3, f3, b3, c3⟩ := x3_discover (o := 296) hx1.1 hc1 (to_fi f1 t296) (by omega) (u1 u h3.2.2) h3.2.1
      rw [ii_take] at c3
      have hx3 := xs_fh f3 h6 (fun a q => by omega) hx1
      have ht3 : tm_ σ3 298 t := tm_eq (f3.2.2.2 _ (by omega)) (f3.2.2.2 _ (by omega)) ht1
      obtain ⟨σ2, r2, f2, b2, c2⟩ := ih (e + 1) k σ3 (ii_ u F) (b && !rx_ y t e) (by omega) (by omega) hx3 ht3 c3
      refine ⟨σ2, by rw [h3.1, if_neg cneg, lx_293_2 hx1.1, r3, bd_s, r2], fh_tr fh1 (fh_tr f3 f2 (S3 := fun a => a = 89 ∨ a = 293 ∨ (295 ≤ a ∧ a ≤ 297) ∨ (302 ≤ a ∧ a ≤ 363)) (fun a q => by omega) (fun a q => q)) (fun a q => q) (fun a q => q), fun b q => (b2 b q).trans ((b3 b q).trans (b1 b q)), c2⟩
/-- the class's exploration object -/
def ce4_ (σ : js_S) (s : js_E) : Prop := cs_ σ (s.1.take 30) ∧ σ.1 293 6 = nI s.2.1 ∧ σ.1 293 7 = nI s.2.2.1 ∧ (0 < s.2.1 → tm_ σ 298 s.2.2.2.1) ∧ (0 < s.2.2.1 → tm_ σ 300 s.2.2.2.2 ∧ s.2.2.2.2.length ≤ 40) ∧ s.2.2.1 ≤ s.2.1
theorem nfm_cn {y : js_Y} {t : List Int32} : decide (rcn_ (rx_ y t) t.length 0 = 0) = nfm_ y t := by
  unfold nfm_
  by_cases h : rcn_ (rx_ y t) t.length 0 = 0
  · rw [decide_eq_true h, rcn_rfi.mp h]
    rfl
  · rw [decide_eq_false h]
    cases h2 : rfi_ (rx_ y t) t.length 0 0 with
    | none => exact absurd (rcn_rfi.mpr h2) h
    | some e => rfl
def fE_ (a : Nat) : Prop := a = 89 ∨ a = 293 ∨ (295 ≤ a ∧ a ≤ 363)
theorem x3_note {σ : js_S} {t low : List Int32} {m : Nat} (hl : lx_ σ.2.2) (hm : m < 1000) (h7 : σ.1 293 7 = nI m) (t40 : t.length ≤ 40) (ht : tm_ σ 298 t) (hlow : 0 < m → tm_ σ 300 low ∧ low.length ≤ 40) : ∃ σ', fX3_noteNormalForm 5000 293 σ = some ((), σ') ∧ fi_ (fun a => a = 293 ∨ a = 300 ∨ a = 301) σ σ' ∧ (∀ b, b ≠ 7 → σ'.1 293 b = σ.1 293 b) ∧ σ'.1 293 7 = nI (m + 1) ∧ tm_ σ' 300 (if m = 0 ∨ cmp_ t low < 0 then t else low) := by
  have t298 : to_ σ 298 := to_of hl (by omega) (by decide +kernel)
  have t300 : to_ σ 300 := to_of hl (by omega) (by decide +kernel)
  obtain ⟨σ1, r1, f1, u1⟩ := x9_copyFrom (fu := 5000) (d := 300) (s := 298) t300 t298 ht (by omega)
  have h71 : σ1.1 293 7 = nI m := by rw [f1.2 293 (by omega)]; exact h7
  have c21 : fX3_noteNormalForm_21 5000 293 σ = some ((), uI_ σ1 293 7 (nI (m + 1))) := by
    unfold fX3_noteNormalForm_21 fX3_noteNormalForm_32
    rw [lx_293_4 hl, lx_293_3 hl, r1, bd_s, lt_s_, h71, show nI m + 1 = nI (m + 1) from n_add m 1]
  have c32 : fX3_noteNormalForm_32 5000 293 σ = some ((), uI_ σ 293 7 (nI (m + 1))) := by
    unfold fX3_noteNormalForm_32
    rw [lt_s_, h7, show nI m + 1 = nI (m + 1) from n_add m 1]
  have A : (m = 0 ∨ cmp_ t low < 0) → ∃ σ', fX3_noteNormalForm_21 5000 293 σ = some ((), σ') ∧ fi_ (fun a => a = 293 ∨ a = 300 ∨ a = 301) σ σ' ∧ (∀ b, b ≠ 7 → σ'.1 293 b = σ.1 293 b) ∧ σ'.1 293 7 = nI (m + 1) ∧ tm_ σ' 300 (if m = 0 ∨ cmp_ t low < 0 then t else low) := by
    intro c
    rw [if_pos c]
    refine ⟨_, c21, fi_tr f1 (fi_u (S := fun a => a = 293) rfl) (fun a q => by omega) (fun a q => by omega), fun b q => ?_, uI_same, ?_⟩
    · rw [uI_ne (by omega), f1.2 293 (by omega)]
    · exact tm_eq (uI_row (by omega)) (uI_row (by omega)) u1
  unfold fX3_noteNormalForm
  by_cases c0 : m = 0
  · have e0 : nI m = 0 := by rw [c0]; rfl
    rw [h7, if_pos e0]
    exact A (Or.inl c0)
  · have e0 : ¬ nI m = 0 := fun z => c0 ((n_eq (b := 0) (by omega) (by omega)).mp z)
    have hl2 := hlow (by omega)
    rw [h7, if_neg e0, lx_293_3 hl, lx_293_4 hl, x9_order t298 ht t40 t300 hl2.1 hl2.2, bd_s]
    by_cases c : cmp_ t low < 0
    · rw [if_neg (fun z => absurd c (Int32.not_lt.mpr z))]
      exact A (Or.inr c)
    · rw [if_pos (Int32.not_lt.mp c)]
      refine ⟨_, c32, fi_u (by omega), fun b q => uI_ne (by omega), uI_same, ?_⟩
      rw [if_neg (fun z => z.elim c0 c)]
      exact tm_eq (uI_row (by omega)) (uI_row (by omega)) hl2.1
theorem x3_run_loop {y : js_Y} {lim : Nat} (g : gy_ y) (hlim : lim ≤ 30) :
    ∀ (n c k : Nat) (σ : js_S) (s : js_E), c + n = lim → n < k → s.2.1 = c → xs_ σ y → ei_ y s → ce4_ σ s → ∃ σ', fX3_run_52 5000 k 293 2 88 (nI lim) (nI c) σ = some (0, σ') ∧ fh_ fE_ σ σ' ∧ ce4_ σ' (er_ y n s) := by
  have h6 := g.2.1
  intro n
  induction n with
  | zero =>
    intro c k σ s hc hk hs hx hi he
    obtain ⟨k, rfl⟩ : ∃ j, k = j + 1 := ⟨k - 1, by omega⟩
    refine ⟨σ, ?_, fh_rf, he⟩
    rw [sX3_run_52]
    unfold fX3_run_52b
    rw [if_pos ((n_le (by omega) (by omega)).mpr (by omega))]
  | succ n ih =>
    intro c k σ s hc hk hs hx hi he
    obtain ⟨k, rfl⟩ : ∃ j, k = j + 1 := ⟨k - 1, by omega⟩
    have hct : ct_ s.1 < 30 := by rw [hi.2.2.1]; omega
    have h30 := he.1.2.1
    have tk := x3_take_loop (K := s.1.take 30) (s.1.take 30).length 0 5000 σ (by omega) (by omega) hx.1 he.1
    rw [List.drop_zero, mk_take 30 s.1 hct] at tk
    rw [sX3_run_52, er_s]
    unfold fX3_run_52b fX3_takeLowest
    rw [if_neg (fun z => by have := (n_le (by omega) (by omega)).mp z; omega)]
    cases hm : mk_ s.1 with
    | none =>
      rw [hm] at tk
      refine ⟨σ, ?_, fh_rf, he⟩
      rw [show fX3_takeLowest_2 5000 5000 293 0 σ = _ from tk, bd_s, if_pos rfl]
    | some q =>
      rw [hm] at tk
      obtain ⟨σ1, r1, f1, t1, t40, c1⟩ := tk
      rw [List.take_zero, List.nil_append] at c1
      obtain ⟨g1, g2, g3, g4, g5⟩ := mk_ei hi hm
      have hx1 := xs_fi f1 h6 (fun a q => by omega) hx
      have e6 : σ1.1 293 6 = nI c := by rw [f1.2 293 (by omega), he.2.1, hs]
      have e7 : σ1.1 293 7 = nI s.2.2.1 := by rw [f1.2 293 (by omega), he.2.2.1]
      have f2 : fi_ (fun a => a = 293) σ1 (uI_ σ1 293 6 (nI (c + 1))) := fi_u rfl
      have hx2 := xs_fi f2 h6 (fun a q => by omega) hx1
      have t2 : tm_ (uI_ σ1 293 6 (nI (c + 1))) 298 q.1 := tm_fi f2 (by omega) (by omega) t1
      have c2 : cs_ (uI_ σ1 293 6 (nI (c + 1))) (q.2.take 30) := by
        refine ⟨c1.1, c1.2.1, by rw [uI_ne (by omega)]; exact c1.2.2.1, fun j hj => ?_⟩
        have w := c1.2.2.2 j hj
        have l30 := c1.2.1
        have hj2 : j < (q.2.take 30).length := hj
        have l31 : (q.2.take 30).length ≤ 30 := l30
        obtain ⟨i, hi31, e⟩ := c1.1.1 j (by omega)
        rw [e] at w
        have e2 : (uI_ σ1 293 6 (nI (c + 1))).2.2 294 j = 302 + 2 * i := e
        rw [e2, uI_row (by omega)]
        exact ⟨tm_fi f2 (by omega) (by omega) w.1, w.2⟩
      obtain ⟨σ3, r3, f3, b3, c3⟩ := x3_exp_loop g g1 q.1.length 0 5000 (uI_ σ1 293 6 (nI (c + 1))) q.2 true (by omega) (by have := g1.2; omega) hx2 t2 c2
      rw [nfm_cn, Bool.true_and] at r3
      have hx3 := xs_fh f3 h6 (fun a q => by omega) hx2
      have t3 : tm_ σ3 298 q.1 := tm_eq (f3.2.2.2 _ (by omega)) (f3.2.2.2 _ (by omega)) t2
      have e63 : σ3.1 293 6 = nI (c + 1) := by rw [b3 6 (by omega), uI_same]
      have e73 : σ3.1 293 7 = nI s.2.2.1 := by rw [b3 7 (by omega), uI_ne (by omega), e7]
      have low3 : 0 < s.2.2.1 → tm_ σ3 300 s.2.2.2.2 ∧ s.2.2.2.2.length ≤ 40 := fun w => by
        have := he.2.2.2.2.1 w
        refine ⟨tm_eq (f3.2.2.2 _ (by omega)) (f3.2.2.2 _ (by omega)) (tm_fi f2 (by omega) (by omega) (tm_fi f1 (by omega) (by omega) this.1)), this.2⟩
      have fh3 : fh_ fE_ σ σ3 := fh_tr (fh_fi f1 (S2 := fE_) (fun a q => by unfold fE_ at q; omega)) (fh_tr (fh_fi f2 (S2 := fE_) (fun a q => by unfold fE_ at q; omega)) f3 (S3 := fE_) (fun a q => q) (fun a q => by unfold fE_ at q; omega)) (fun a q => q) (fun a q => q)
      have le := he.2.2.2.2.2
      -- the state behind the expansion
      have key : ∃ σ4, fX3_expandCurrent 5000 293 2 88 (uI_ σ1 293 6 (nI (c + 1))) = some ((), σ4) ∧ fh_ fE_ σ σ4 ∧ xs_ σ4 y ∧ ce4_ σ4 (ex1_ y q s) := by
        unfold fX3_expandCurrent
        rw [show fX3_expandCurrent_5 5000 5000 293 2 88 1 0 (uI_ σ1 293 6 (nI (c + 1))) = _ from r3]
        by_cases cn : nfm_ y q.1 = true
        · obtain ⟨σ4, r4, f4, b4, e4, t4⟩ := x3_note (low := s.2.2.2.2) hx3.1 (by omega) e73 g1.2 t3 low3
          refine ⟨σ4, by rw [cn, bi_t, if_neg (by decide), r4, bd_s], fh_tr fh3 (fh_fi f4 (S2 := fE_) (fun a q => by unfold fE_ at q; omega)) (fun a q => q) (fun a q => q), xs_fi f4 h6 (fun a q => by omega) hx3, ?_⟩
          refine ⟨?_, ?_, ?_, fun _ => tm_fi f4 (by omega) (by omega) t3, fun _ => ?_, ?_⟩
          · refine ⟨by rw [fi_r f4]; exact c3.1, c3.2.1, by rw [b4 5 (by omega)]; exact c3.2.2.1, fun j hj => ?_⟩
            have w := c3.2.2.2 j hj
            have l31 : ((ed_ y q.1 q.1.length 0 q.2).take 30).length ≤ 30 := c3.2.1
            have hj2 : j < ((ed_ y q.1 q.1.length 0 q.2).take 30).length := hj
            obtain ⟨i, hi31, e⟩ := c3.1.1 j (by omega)
            rw [e] at w
            rw [fi_r f4, e, f4.2 295 (by omega)]
            exact ⟨tm_fi f4 (by omega) (by omega) w.1, w.2⟩
          · rw [b4 6 (by omega), e63]
            show nI (c + 1) = nI (s.2.1 + 1)
            rw [hs]
          · show σ4.1 293 7 = nI (s.2.2.1 + if nfm_ y q.1 = true then 1 else 0)
            rw [if_pos cn, e4]
          · show tm_ σ4 300 (if nfm_ y q.1 = true ∧ (s.2.2.1 = 0 ∨ cmp_ q.1 s.2.2.2.2 < 0) then q.1 else s.2.2.2.2) ∧ (if nfm_ y q.1 = true ∧ (s.2.2.1 = 0 ∨ cmp_ q.1 s.2.2.2.2 < 0) then q.1 else s.2.2.2.2).length ≤ 40
            by_cases cc : s.2.2.1 = 0 ∨ cmp_ q.1 s.2.2.2.2 < 0
            · rw [if_pos cc] at t4
              rw [if_pos ⟨cn, cc⟩]
              exact ⟨t4, g1.2⟩
            · rw [if_neg cc] at t4
              rw [if_neg (fun z => cc z.2)]
              exact ⟨t4, (low3 (by omega)).2⟩
          · show s.2.2.1 + (if nfm_ y q.1 = true then 1 else 0) ≤ s.2.1 + 1
            rw [if_pos cn]
            omega
        · refine ⟨σ3, by rw [show nfm_ y q.1 = false by simpa using cn, bi_f, if_pos rfl], fh3, hx3, ?_⟩
          refine ⟨c3, by rw [e63]; show nI (c + 1) = nI (s.2.1 + 1); rw [hs], ?_, fun _ => t3, fun w => ?_, ?_⟩
          · show σ3.1 293 7 = nI (s.2.2.1 + if nfm_ y q.1 = true then 1 else 0)
            rw [if_neg cn, e73, Nat.add_zero]
          · show tm_ σ3 300 (if nfm_ y q.1 = true ∧ (s.2.2.1 = 0 ∨ cmp_ q.1 s.2.2.2.2 < 0) then q.1 else s.2.2.2.2) ∧ (if nfm_ y q.1 = true ∧ (s.2.2.1 = 0 ∨ cmp_ q.1 s.2.2.2.2 < 0) then q.1 else s.2.2.2.2).length ≤ 40
            have w2 : 0 < s.2.2.1 + (if nfm_ y q.1 = true then 1 else 0) := w
            rw [if_neg cn] at w2
            rw [if_neg (fun z => cn z.1)]
            exact low3 (by omega)
          · show s.2.2.1 + (if nfm_ y q.1 = true then 1 else 0) ≤ s.2.1 + 1
            rw [if_neg cn]
            omega
      obtain ⟨σ4, r4, f4, hx4, ce4⟩ := key
      obtain ⟨σ5, r5, f5, ce5⟩ := ih (c + 1) k σ4 (ex1_ y q s) (by omega) (by omega) (by show s.2.1 + 1 = c + 1; omega) hx4 (en_ei g hi hm) ce4
      refine ⟨σ5, ?_, fh_tr f4 f5 (fun a q => q) (fun a q => q), ce5⟩
      rw [show fX3_takeLowest_2 5000 5000 293 0 σ = _ from r1, bd_s, if_neg (by decide), lt_s_, e6, show nI c + 1 = nI (c + 1) from n_add c 1, r4, bd_s, r5]
