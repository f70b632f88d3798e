/-! the class parses -/
def mi_ (σ : js_S) : List Nat → Prop
  | [] => True
  | m :: st => σ.1 84 st.length = nI m ∧ 1 ≤ m ∧ m ≤ 3 ∧ mi_ σ st
theorem mi_eq {σ σ' : js_S} : ∀ {st : List Nat}, (∀ i, i < st.length → σ'.1 84 i = σ.1 84 i) → mi_ σ st → mi_ σ' st
  | [], _, _ => trivial
  | m :: st, h, hm => ⟨by rw [h st.length (by simp)]; exact hm.1, hm.2.1, hm.2.2.1, mi_eq (fun i hi => h i (by simp; omega)) hm.2.2.2⟩
def xq_ (σ : js_S) (a : Nat → Nat) (w : List Int32) (o p : Nat) (acc : List Int32) (st : List Nat) : Prop := lx_ σ.2.2 ∧ sg_ σ 3 a ∧ σ.1 82 2 = nI w.length ∧ vw_ σ 83 0 w ∧ σ.1 82 3 = nI p ∧ to_ σ o ∧ tm_ σ o acc ∧ mi_ σ st
def fq2_ (o : Nat) (σ σ' : js_S) : Prop := fi_ (fun a => a = 82 ∨ a = 84 ∨ a = o ∨ a = o + 1) σ σ'
theorem xq_p {σ : js_S} {a : Nat → Nat} {w : List Int32} {o p q : Nat} {acc : List Int32} {st : List Nat} (ho : o + 1 < 82 ∨ 85 < o) (h : xq_ σ a w o p acc st) : xq_ (uI_ σ 82 3 (nI q)) a w o q acc st := by
  obtain ⟨h1, h2, h3, h4, h5, h6, h7, h8⟩ := h
  have f : fi_ (fun a => a = 82) σ (uI_ σ 82 3 (nI q)) := fi_u rfl
  exact ⟨h1, sg_fi f (by omega) h2, by rw [uI_ne (by omega)]; exact h3, vw_fi f (by omega) h4, uI_same, h6, tm_fi f (by omega) (by omega) h7, mi_eq (fun i _ => uI_ne (by omega)) h8⟩
theorem x10_char {σ : js_S} {a : Nat → Nat} {w : List Int32} {o p : Nat} {acc : List Int32} {st : List Nat} (hw : w.length ≤ 80) (hp : p ≤ w.length) (h : xq_ σ a w o p acc st) : fX10_character 5000 82 (nI p) σ = some (at_ w p, σ) := by
  unfold fX10_character
  rw [h.2.2.1, if_neg (nI_pos (by omega))]
  by_cases c : p < w.length
  · have := h.2.2.2.1 p c
    rw [Nat.zero_add] at this
    rw [if_neg (fun z => by have := (n_le (by omega) (by omega)).mp z; omega), lx_82_0 h.1, ln_83, n_of, if_neg (fun z => by have := (n_le (by omega) (by omega)).mp z; omega), n_ib (by omega), if_pos (by simp; omega), n_cl (by omega), this]
  · rw [if_pos ((n_le (by omega) (by omega)).mpr (by omega)), getD_end (by omega)]
theorem x10_take {σ : js_S} {a : Nat → Nat} {w : List Int32} {o p : Nat} {acc : List Int32} {st : List Nat} {c : Int32} (hw : w.length ≤ 80) (hp : p ≤ w.length) (h : xq_ σ a w o p acc st) : fX10_take 5000 82 c σ = if at_ w p = c then some (1, uI_ σ 82 3 (nI (p + 1))) else some (0, σ) := by
  unfold fX10_take
  rw [h.2.2.2.2.1, x10_char hw hp h, bd_s, h.2.2.2.2.1, show nI p + 1 = nI (p + 1) from n_add p 1, lt_s_]
theorem x_isFun {fu : Nat} {s : Int32} {σ : js_S} : fX11_isFunction fu s σ = some (bi_ (isF_ s), σ) := by
  unfold fX11_isFunction fX11_functionOfSymbol
  rcases n_cases s with h | ⟨k, hk, rfl⟩
  · rw [isF_neg h]
    have c1 : s < 102 := n_neg (a := 102) h (by omega)
    simp [c1, bd_s]
    rfl
  · rw [isF_nat hk]
    by_cases c : 102 ≤ k ∧ k ≤ 104
    · rw [decide_eq_true c]
      rcases (show k = 102 ∨ k = 103 ∨ k = 104 by omega) with rfl | rfl | rfl <;> rfl
    · rw [decide_eq_false c]
      by_cases c1 : k < 102
      · have e1 : nI k < 102 := (n_lt (b := 102) (by omega) (by omega)).mpr c1
        rw [if_pos e1, bd_s]
        rfl
      · have e1 : ¬ nI k < 102 := fun z => c1 ((n_lt (b := 102) (by omega) (by omega)).mp z)
        have e2 : 105 ≤ nI k := (n_le (a := 105) (by omega) (by omega)).mpr (by omega)
        rw [if_neg e1, if_pos e2, bd_s]
        rfl
theorem x_isSym {fu : Nat} {s : Int32} {σ : js_S} : fX11_isSymbol fu s σ = some (bi_ (isS_ s), σ) := by
  unfold fX11_isSymbol fX11_isSymbol_32
  rw [x_isFun, bd_s]
  by_cases hF : isF_ s = true
  · have hS : isS_ s = true := by unfold isS_; rw [hF]; rfl
    rw [hF, hS, bi_t, if_neg (by decide)]
  · have hFf : isF_ s = false := by simpa using hF
    rw [hFf, bi_f, if_pos rfl, x_isVar, bd_s]
    by_cases hV : isV_ s = true
    · have hS : isS_ s = true := by unfold isS_; rw [hV]; simp
      rw [hV, hS, bi_t, if_neg (by decide)]
    · have hVf : isV_ s = false := by simpa using hV
      rw [hVf, bi_f, if_pos rfl]
      by_cases h1 : s = 122
      · subst h1; rfl
      · by_cases h2 : s = 115
        · subst h2; rfl
        · by_cases h3 : s = 99
          · subst h3; rfl
          · have hS : isS_ s = false := by
              unfold isS_
              simp [hFf, hVf, h1, h2, h3]
            rw [if_neg h1, if_neg h2, if_neg h3, hS]
            rfl
/-- what is left to do behind an argument -/
def bk_ (kb k o n : Nat) (x4 : Int32) (σ : js_S) : Option (Int32 × js_S) := bd_ (fX10_readBehindArgument_12 5000 kb 82 (nI n - 1) σ) fun r9 σ9 => (if 0 < r9 then (fX10_readTerm_9 5000 k 82 3 o r9 (x4 + 1) σ9) else (if r9 = 0 then (some (1, σ9)) else (some (0, σ9))))
/-- the class's loop does what the parser result r says -/
def xr_ (a : Nat → Nat) (w : List Int32) (o k p : Nat) (st : List Nat) (σ : js_S) (z : Option (Int32 × js_S)) (r : js_R) : Prop :=
  (r.1 = false → ∃ σ', z = some (0, σ') ∧ fq2_ o σ σ' ∧ σ'.1 82 2 = nI w.length ∧ σ'.1 82 3 = nI r.2.1) ∧ (r.1 = true → ∃ σ' kb k' x4', z = bk_ kb k' o st.length (nI x4') σ' ∧ st.length < kb ∧ x4' < r.2.1 ∧ k + p ≤ k' + r.2.1 ∧ xq_ σ' a w o r.2.1 r.2.2 st ∧ fq2_ o σ σ')
def xc_ (a : Nat → Nat) (w : List Int32) (o d : Nat) : Prop := ∀ p acc k st x4 σ, p ≤ w.length → acc.length ≤ p → x4 ≤ p → 100 ≤ k + p → 2 * st.length ≤ p → 82 ≤ p + 2 * d → xq_ σ a w o p acc st → xr_ a w o k p st σ (fX10_readTerm_9 5000 k 82 3 o (nI st.length) (nI x4) σ) (pt_ a w d p acc)
def pb_ (w : List Int32) (f : Nat → List Int32 → js_R) (m p : Nat) (acc : List Int32) : js_R := if (f p acc).1 = true then pa_ w f (m - 1) false (f p acc).2.1 (f p acc).2.2 else f p acc
theorem fq2_tr {o : Nat} {σ σ1 σ2 : js_S} (h1 : fq2_ o σ σ1) (h2 : fq2_ o σ1 σ2) : fq2_ o σ σ2 := fi_tr h1 h2 (fun a q => q) (fun a q => q)
theorem x_args {a : Nat → Nat} {w : List Int32} {o d : Nat} (hw : w.length ≤ 80) (ho : o + 1 < 82 ∨ 85 < o) (hc : xc_ a w o d) :
    ∀ (m p : Nat) (acc : List Int32) (k : Nat) (st : List Nat) (x4 : Nat) (σ : js_S), p ≤ w.length → acc.length ≤ p → x4 ≤ p → 100 ≤ k + p → 2 * (st.length + 1) ≤ p → 82 ≤ p + 2 * d → xq_ σ a w o p acc ((m + 1) :: st) → xr_ a w o k p st σ (fX10_readTerm_9 5000 k 82 3 o (nI (st.length + 1)) (nI x4) σ) (pb_ w (pt_ a w d) (m + 1) p acc) := by
  intro m
  induction m with
  | zero =>
    intro p acc k st x4 σ hp hacc hx hk hst hd hq
    have h1 := hc p acc k (1 :: st) x4 σ hp hacc hx hk hst hd hq
    have pg := pt_pg (a := a) (d := d) (acc := acc) hp
    unfold pb_
    by_cases c : (pt_ a w d p acc).1 = true
    · rw [if_pos c]
      obtain ⟨σ1, kb, k1, x1, r1, b1, b2, b3, q1, f1⟩ := h1.2 c
      have hl : (1 :: st).length = st.length + 1 := rfl
      rw [hl] at r1 b1
      have hmi := q1.2.2.2.2.2.2.2
      obtain ⟨kb, rfl⟩ : ∃ j, kb = j + 1 := ⟨kb - 1, by omega⟩
      have lvl : nI (st.length + 1) - 1 = nI st.length := n_pred (by omega)
      have hlen : 2 * st.length ≤ 80 := by omega
      -- the state with the level counted down
      have q2 : xq_ (uI_ σ1 84 st.length (nI 0)) a w o (pt_ a w d p acc).2.1 (pt_ a w d p acc).2.2 st := by
        obtain ⟨g1, g2, g3, g4, g5, g6, g7, g8⟩ := q1
        have f : fi_ (fun a => a = 84) σ1 (uI_ σ1 84 st.length (nI 0)) := fi_u rfl
        exact ⟨g1, sg_fi f (by omega) g2, by rw [uI_ne (by omega)]; exact g3, vw_fi f (by omega) g4, by rw [uI_ne (by omega)]; exact g5, g6, tm_fi f (by omega) (by omega) g7, mi_eq (fun i hi => uI_ne (by omega)) hmi.2.2.2⟩
      have f2 : fq2_ o σ1 (uI_ σ1 84 st.length (nI 0)) := fi_u (by omega)
      have step : bk_ (kb + 1) k1 o (st.length + 1) (nI x1) σ1 = if at_ w (pt_ a w d p acc).2.1 = 41 then bk_ kb k1 o st.length (nI x1) (uI_ (uI_ σ1 84 st.length (nI 0)) 82 3 (nI ((pt_ a w d p acc).2.1 + 1))) else some (0, uI_ σ1 84 st.length (nI 0)) := by
        unfold bk_
        rw [lvl, sX10_readBehindArgument_12]
        unfold fX10_readBehindArgument_12b
        have l0 : lx_ (uI_ σ1 84 st.length (nI 0)).2.2 := q1.1
        rw [if_neg (nI_pos (by omega)), lx_82_1 q1.1, ln_84, n_ib (by omega), if_pos (by simp; omega), if_pos (by simp; omega), n_cl (by omega), hmi.1, show nI 1 - 1 = nI 0 from rfl, lt_s_, lx_82_1 l0, ln_84, n_ib (by omega), if_pos (by simp; omega), uI_same, if_pos (show nI 0 ≤ 0 from by decide), x10_take hw pg.2.1 q2]
        by_cases c41 : at_ w (pt_ a w d p acc).2.1 = 41
        · rw [if_pos c41, if_pos c41, bd_s, if_neg (by decide), show nI st.length + (-1) = nI st.length - 1 from (Int32.sub_eq_add_neg _ _).symm]
        · rw [if_neg c41, if_neg c41, bd_s, if_pos rfl, bd_s]
          rfl
      rw [r1, step]
      show xr_ a w o k p st σ _ (pa_ w (pt_ a w d) 0 false (pt_ a w d p acc).2.1 (pt_ a w d p acc).2.2)
      rw [pa_0, if_neg Bool.false_ne_true]
      by_cases c41 : at_ w (pt_ a w d p acc).2.1 = 41
      · rw [if_pos c41, if_pos c41]
        refine ⟨fun h => absurd h.symm Bool.false_ne_true, fun _ => ⟨_, kb, k1, x1, rfl, by omega, by show x1 < (pt_ a w d p acc).2.1 + 1; omega, by show k + p ≤ k1 + ((pt_ a w d p acc).2.1 + 1); omega, xq_p ho q2, fq2_tr f1 (fq2_tr f2 (fi_u (by omega)))⟩⟩
      · rw [if_neg c41, if_neg c41]
        refine ⟨fun _ => ⟨_, rfl, fq2_tr f1 f2, q2.2.2.1, q2.2.2.2.2.1⟩, fun h => absurd h Bool.false_ne_true⟩
    · rw [if_neg c]
      have cf : (pt_ a w d p acc).1 = false := by simpa using c
      exact ⟨h1.1, fun h => absurd h c⟩
  | succ m ih =>
    intro p acc k st x4 σ hp hacc hx hk hst hd hq
    have h1 := hc p acc k ((m + 2) :: st) x4 σ hp hacc hx hk hst hd hq
    have pg := pt_pg (a := a) (d := d) (acc := acc) hp
    unfold pb_
    by_cases c : (pt_ a w d p acc).1 = true
    · rw [if_pos c]
      obtain ⟨σ1, kb, k1, x1, r1, b1, b2, b3, q1, f1⟩ := h1.2 c
      have hl : ((m + 2) :: st).length = st.length + 1 := rfl
      rw [hl] at r1 b1
      have hmi := q1.2.2.2.2.2.2.2
      have hm3 := hmi.2.2.1
      obtain ⟨kb, rfl⟩ : ∃ j, kb = j + 1 := ⟨kb - 1, by omega⟩
      have lvl : nI (st.length + 1) - 1 = nI st.length := n_pred (by omega)
      have q2 : xq_ (uI_ σ1 84 st.length (nI (m + 1))) a w o (pt_ a w d p acc).2.1 (pt_ a w d p acc).2.2 ((m + 1) :: st) := by
        obtain ⟨g1, g2, g3, g4, g5, g6, g7, g8⟩ := q1
        have f : fi_ (fun a => a = 84) σ1 (uI_ σ1 84 st.length (nI (m + 1))) := fi_u rfl
        exact ⟨g1, sg_fi f (by omega) g2, by rw [uI_ne (by omega)]; exact g3, vw_fi f (by omega) g4, by rw [uI_ne (by omega)]; exact g5, g6, tm_fi f (by omega) (by omega) g7, uI_same, by omega, by omega, mi_eq (fun i hi => uI_ne (by omega)) hmi.2.2.2⟩
      have f2 : fq2_ o σ1 (uI_ σ1 84 st.length (nI (m + 1))) := fi_u (by omega)
      have step : bk_ (kb + 1) k1 o (st.length + 1) (nI x1) σ1 = if at_ w (pt_ a w d p acc).2.1 = 44 then fX10_readTerm_9 5000 k1 82 3 o (nI (st.length + 1)) (nI (x1 + 1)) (uI_ (uI_ σ1 84 st.length (nI (m + 1))) 82 3 (nI ((pt_ a w d p acc).2.1 + 1))) else some (0, uI_ σ1 84 st.length (nI (m + 1))) := by
        unfold bk_
        rw [lvl, sX10_readBehindArgument_12]
        unfold fX10_readBehindArgument_12b
        have l0 : lx_ (uI_ σ1 84 st.length (nI (m + 1))).2.2 := q1.1
        have c0 : ¬ nI (m + 1) ≤ 0 := fun z => by have := (n_le (b := 0) (by omega) (by omega)).mp z; omega
        have c1 : 0 < nI (st.length + 1) := (n_lt (a := 0) (by omega) (by omega)).mpr (by omega)
        rw [if_neg (nI_pos (by omega)), lx_82_1 q1.1, ln_84, n_ib (by omega), if_pos (by simp; omega), if_pos (by simp; omega), n_cl (by omega), hmi.1, show nI (m + 2) - 1 = nI (m + 1) from n_pred (by omega), lt_s_, lx_82_1 l0, ln_84, n_ib (by omega), if_pos (by simp; omega), uI_same, if_neg c0, x10_take hw pg.2.1 q2]
        by_cases c44 : at_ w (pt_ a w d p acc).2.1 = 44
        · rw [if_pos c44, if_pos c44, bd_s, if_neg (by decide), bd_s, show nI st.length + 1 = nI (st.length + 1) from n_add st.length 1, if_pos c1, show nI x1 + 1 = nI (x1 + 1) from n_add x1 1]
        · rw [if_neg c44, if_neg c44, bd_s, if_pos rfl, bd_s]
          rfl
      rw [r1, step]
      show xr_ a w o k p st σ _ (pa_ w (pt_ a w d) (m + 1) false (pt_ a w d p acc).2.1 (pt_ a w d p acc).2.2)
      rw [pa_s, if_neg (show ¬ (false = true) from Bool.false_ne_true)]
      by_cases c44 : at_ w (pt_ a w d p acc).2.1 = 44
      · have hlt := at_eq_in (by decide) c44
        rw [if_pos c44, if_pos c44]
        have l2 := pg.2.2
        have l1 := pg.1
        have := ih ((pt_ a w d p acc).2.1 + 1) (pt_ a w d p acc).2.2 k1 st (x1 + 1) _ hlt (by omega) (by omega) (by omega) (by omega) (by omega) (xq_p (q := (pt_ a w d p acc).2.1 + 1) ho q2)
        have f3 : fq2_ o (uI_ σ1 84 st.length (nI (m + 1))) (uI_ (uI_ σ1 84 st.length (nI (m + 1))) 82 3 (nI ((pt_ a w d p acc).2.1 + 1))) := fi_u (by omega)
        refine ⟨fun h => ?_, fun h => ?_⟩
        · obtain ⟨σ', e1, e2, e3⟩ := this.1 h
          exact ⟨σ', e1, fq2_tr f1 (fq2_tr f2 (fq2_tr f3 e2)), e3⟩
        · obtain ⟨σ', kb', k', x', e1, e2, e3, e4, e5, e6⟩ := this.2 h
          exact ⟨σ', kb', k', x', e1, e2, e3, Nat.le_trans (by omega) e4, e5, fq2_tr f1 (fq2_tr f2 (fq2_tr f3 e6))⟩
      · rw [if_neg c44, if_neg c44]
        refine ⟨fun _ => ⟨_, rfl, fq2_tr f1 f2, q2.2.2.1, q2.2.2.2.2.1⟩, fun h => absurd h Bool.false_ne_true⟩
    · rw [if_neg c]
      exact ⟨h1.1, fun h => absurd h c⟩
theorem x_reads {a : Nat → Nat} {w : List Int32} {o : Nat} (hga : ga_ a) (hw : w.length ≤ 80) (ho : o + 1 < 82 ∧ o ≠ 4 ∧ o + 1 ≠ 4 ∨ 85 < o) : ∀ d, xc_ a w o d
  | 0 => fun p acc k st x4 σ h1 h2 h3 h4 h5 h6 h7 => by omega
  | d + 1 => by
    intro p acc k st x4 σ hp hacc hx hk hst hd hq
    have ih := x_reads hga hw ho d
    have ho' : o + 1 < 82 ∨ 85 < o := by omega
    obtain ⟨k, rfl⟩ : ∃ j, k = j + 1 := ⟨k - 1, by omega⟩
    rw [sX10_readTerm_9, pt_s]
    unfold fX10_readTerm_9b fX10_readTerm_121
    rw [hq.2.2.1, if_neg (fun z => by have := (n_lt (by omega) (by omega)).mp z; omega), hq.2.2.2.2.1, x10_char hw hp hq, bd_s, x_isSym, bd_s]
    by_cases hS : isS_ (at_ w p) = true
    · have hlt := isS_in hS
      rw [if_pos hS, hS, bi_t, if_neg (by decide), hq.2.2.2.2.1, show nI p + 1 = nI (p + 1) from n_add p 1, lt_s_]
      have q1 := xq_p (q := p + 1) ho' hq
      have f1 : fq2_ o σ (uI_ σ 82 3 (nI (p + 1))) := fi_u (by omega)
      obtain ⟨σ2, r2, f2, t2⟩ := x9_append (fu := 5000) (s := at_ w p) q1.2.2.2.2.2.1 q1.2.2.2.2.2.2.1 (by omega)
      have q2 : xq_ σ2 a w o (p + 1) (acc ++ [at_ w p]) st := by
        obtain ⟨g1, g2, g3, g4, g5, g6, g7, g8⟩ := q1
        exact ⟨by rw [fi_r f2]; exact g1, sg_fi f2 (by omega) g2, by rw [f2.2 82 (by omega)]; exact g3, vw_fi f2 (by omega) g4, by rw [f2.2 82 (by omega)]; exact g5, to_fi f2 g6, t2, mi_eq (fun i _ => by rw [f2.2 84 (by omega)]) g8⟩
      have f12 : fq2_ o σ σ2 := fq2_tr f1 (fi_mono f2 (fun a q => by omega))
      rw [r2, bd_s, x8_ofSymbol (lx_3_0 q2.1) ln_4 q2.2.1, bd_s]
      have hsa := sa_le hga (at_ w p)
      by_cases c0 : sa_ a (at_ w p) = 0
      · have e0 : nI (sa_ a (at_ w p)) ≤ 0 := by rw [c0]; decide
        rw [if_pos e0, c0, pa_0, if_pos rfl]
        refine ⟨fun h => absurd h.symm Bool.false_ne_true, fun _ => ⟨σ2, 5000, k, x4, ?_, by omega, by show x4 < p + 1; omega, by show k + 1 + p ≤ k + (p + 1); omega, q2, f12⟩⟩
        unfold fX10_readBehindArgument bk_
        rw [lx_82_1 q2.1, ln_84, n_of, if_neg (fun z => by have := (n_lt (by omega) (by omega)).mp z; omega)]
      · have e0 : ¬ nI (sa_ a (at_ w p)) ≤ 0 := fun z => by have := (n_le (b := 0) (by omega) (by omega)).mp z; omega
        obtain ⟨m, hm⟩ : ∃ m, sa_ a (at_ w p) = m + 1 := ⟨sa_ a (at_ w p) - 1, by omega⟩
        rw [if_neg e0, x10_take hw hlt q2, hm, pa_s, if_pos (show true = true from rfl)]
        by_cases c40 : at_ w (p + 1) = 40
        · have hlt2 := at_eq_in (by decide) c40
          rw [if_pos c40, if_pos c40, bd_s, if_neg (by decide)]
          have q3 := xq_p (q := p + 2) ho' q2
          have f3 : fq2_ o σ2 (uI_ σ2 82 3 (nI (p + 2))) := fi_u (by omega)
          have l3 : lx_ (uI_ σ2 82 3 (nI (p + 2))).2.2 := q2.1
          have q4 : xq_ (uI_ (uI_ σ2 82 3 (nI (p + 2))) 84 st.length (nI (m + 1))) a w o (p + 2) (acc ++ [at_ w p]) ((m + 1) :: st) := by
            obtain ⟨g1, g2, g3, g4, g5, g6, g7, g8⟩ := q3
            have f : fi_ (fun a => a = 84) (uI_ σ2 82 3 (nI (p + 2))) (uI_ (uI_ σ2 82 3 (nI (p + 2))) 84 st.length (nI (m + 1))) := fi_u rfl
            exact ⟨g1, sg_fi f (by omega) g2, by rw [uI_ne (by omega)]; exact g3, vw_fi f (by omega) g4, by rw [uI_ne (by omega)]; exact g5, g6, tm_fi f (by omega) (by omega) g7, uI_same, by omega, by omega, mi_eq (fun i hi => uI_ne (by omega)) g8⟩
          have f4 : fq2_ o (uI_ σ2 82 3 (nI (p + 2))) (uI_ (uI_ σ2 82 3 (nI (p + 2))) 84 st.length (nI (m + 1))) := fi_u (by omega)
          have key := x_args hw ho' ih m (p + 2) (acc ++ [at_ w p]) k st (x4 + 1) _ hlt2 (by rw [List.length_append, List.length_singleton]; omega) (by omega) (by omega) (by omega) (by omega) q4
          have e1 : nI st.length < nI 80 := (n_lt (by omega) (by omega)).mpr (by omega)
          rw [lx_82_1 l3, ln_84, n_of, if_pos e1, n_ib (by omega), if_pos (by simp; omega), n_cl (by omega), lt_s_, show nI st.length + 1 = nI (st.length + 1) from n_add st.length 1, show nI x4 + 1 = nI (x4 + 1) from n_add x4 1]
          show xr_ a w o (k + 1) p st σ _ (pb_ w (pt_ a w d) (m + 1) (p + 2) (acc ++ [at_ w p]))
          refine ⟨fun h => ?_, fun h => ?_⟩
          · obtain ⟨σ', e1, e2, e3⟩ := key.1 h
            exact ⟨σ', e1, fq2_tr f12 (fq2_tr f3 (fq2_tr f4 e2)), e3⟩
          · obtain ⟨σ', kb', k', x', e1, e2, e3, e4, e5, e6⟩ := key.2 h
            exact ⟨σ', kb', k', x', e1, e2, e3, Nat.le_trans (by omega) e4, e5, fq2_tr f12 (fq2_tr f3 (fq2_tr f4 e6))⟩
        · rw [if_neg c40, if_neg c40, bd_s, if_pos rfl]
          exact ⟨fun _ => ⟨σ2, rfl, f12, q2.2.2.1, q2.2.2.2.2.1⟩, fun h => absurd h Bool.false_ne_true⟩
    · have hSf : isS_ (at_ w p) = false := by simpa using hS
      rw [if_neg hS, hSf, bi_f, if_pos rfl]
      exact ⟨fun _ => ⟨σ, rfl, fi_rf, hq.2.2.1, hq.2.2.2.2.1⟩, fun h => absurd h Bool.false_ne_true⟩
/-- the class reads one term from place p on -/
theorem x_readTerm {σ : js_S} {a : Nat → Nat} {w : List Int32} {o p : Nat} (hga : ga_ a) (hw : w.length ≤ 80) (hp : p ≤ w.length) (ho : o + 1 < 82 ∧ o ≠ 4 ∧ o + 1 ≠ 4 ∨ 85 < o) (hl : lx_ σ.2.2) (hg : sg_ σ 3 a) (h2 : σ.1 82 2 = nI w.length) (hv : vw_ σ 83 0 w) (h3 : σ.1 82 3 = nI p) (hto : to_ σ o) : ∃ σ', fX10_readTerm 5000 82 3 o σ = some (bi_ (pt_ a w 60 p []).1, σ') ∧ fq2_ o σ σ' ∧ σ'.1 82 2 = nI w.length ∧ σ'.1 82 3 = nI (pt_ a w 60 p []).2.1 ∧ ((pt_ a w 60 p []).1 = true → tm_ σ' o (pt_ a w 60 p []).2.2) := by
  obtain ⟨σ1, r1, f1, t1⟩ := x9_empty (σ := σ) (fu := 5000) (o := o)
  have q1 : xq_ σ1 a w o p [] [] := ⟨by rw [fi_r f1]; exact hl, sg_fi f1 (by omega) hg, by rw [f1.2 82 (by omega)]; exact h2, vw_fi f1 (by omega) hv, by rw [f1.2 82 (by omega)]; exact h3, to_fi f1 hto, t1, trivial⟩
  have f1' : fq2_ o σ σ1 := fi_mono f1 (fun a q => by omega)
  have key := x_reads hga hw ho 60 p [] 5000 [] 0 σ1 hp (by simp) (by omega) (by omega) (by simp) (by omega) q1
  unfold fX10_readTerm
  rw [r1, bd_s]
  by_cases c : (pt_ a w 60 p []).1 = true
  · obtain ⟨σ2, kb, k, x4, e1, e2, e3, e4, e5, e6⟩ := key.2 c
    refine ⟨σ2, ?_, fq2_tr f1' e6, e5.2.2.1, e5.2.2.2.2.1, fun _ => e5.2.2.2.2.2.2.1⟩
    rw [c, show fX10_readTerm_9 5000 5000 82 3 o 0 0 σ1 = _ from e1]
    unfold bk_
    obtain ⟨kb, rfl⟩ : ∃ j, kb = j + 1 := ⟨kb - 1, by omega⟩
    rw [sX10_readBehindArgument_12]
    unfold fX10_readBehindArgument_12b
    rw [if_pos (by decide), bd_s, if_neg (by decide), if_pos rfl]
    rfl
  · have cf : (pt_ a w 60 p []).1 = false := by simpa using c
    obtain ⟨σ2, e1, e2, e3, e4⟩ := key.1 cf
    refine ⟨σ2, ?_, fq2_tr f1' e2, e3, e4, fun h => absurd h c⟩
    rw [cf, show fX10_readTerm_9 5000 5000 82 3 o 0 0 σ1 = _ from e1]
    rfl
