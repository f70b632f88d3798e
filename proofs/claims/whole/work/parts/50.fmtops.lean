/-! formattedLength, formattedCharacter -/
def ff_ (a : Nat → Nat) (t : List Int32) : List Int32 := (fo_ a t 60 0 []).2
theorem fo_end {a : Nat → Nat} {t : List Int32} (gt : gt_ a t) : (fo_ a t 60 0 []).1 = t.length ∧ (ff_ a t).length < 160 ∧ 0 < t.length := by
  have h40 := gt.2
  have hw : wt_ a (t.drop 0) (0 + 1) := gt.1
  have h1 := fo_wt (d := 60) (e := 0) (acc := []) (m := 0) (by omega) hw
  have w := fo_wg (a := a) (t := t) (d := 60) 0 [] 1 (ok_wt hw) (by omega) (by omega)
  have w2 := w.2.2.1
  have w3 := w.2.2.2
  have hz : ¬ (fo_ a t 60 0 []).1 < t.length := fun z => by
    rw [drop_get z] at h1
    exact absurd h1.1 (by omega)
  refine ⟨by omega, ?_, gt_pos gt⟩
  have q0 : ([] : List Int32).length = 0 := rfl
  unfold ff_
  omega
theorem x_write {σ : js_S} {a : Nat → Nat} {o : Nat} {t : List Int32} (hga : ga_ a) (gt : gt_ a t) (ho : o + 1 < 82) (hl : lx_ σ.2.2) (hg : sg_ σ 3 a) (hto : to_ σ o) (ht : tm_ σ o t) : ∃ σ', fX10_write 5000 85 3 o σ = some ((), σ') ∧ fi_ (fun a => a = 85 ∨ a = 86 ∨ a = 87) σ σ' ∧ σ'.1 85 2 = nI (ff_ a t).length ∧ vw_ σ' 86 0 (ff_ a t) := by
  have h40 := gt.2
  obtain ⟨e1, e2, e3⟩ := fo_end gt
  have f0 : fv2_ σ (uI_ σ 85 2 0) := fi_u (by omega)
  have x0 : xw_ (uI_ σ 85 2 0) a o t [] [] := ⟨hl, sg_fi f0 (by omega) hg, hto, tm_fi f0 (by omega) (by omega) ht, uI_same, fun k hk => by simp at hk, trivial⟩
  have hw : wt_ a (t.drop 0) 1 := gt.1
  obtain ⟨σ1, kb, k1, r1, b1, b2, f1, x1⟩ := x_writes hga h40 ho 60 0 [] 1 5000 [] _ (ok_wt hw) (by omega) (by omega) (by simp) (by omega) (by simp) x0
  refine ⟨σ1, ?_, fv2_tr f0 f1, x1.2.2.2.2.1, x1.2.2.2.2.2.1⟩
  unfold fX10_write
  rw [lt_s_, show fX10_write_10 5000 5000 85 3 o 0 0 (uI_ σ 85 2 0) = _ from r1]
  unfold bw_
  rw [e1] at b2 ⊢
  obtain ⟨kb, rfl⟩ : ∃ j, kb = j + 1 := ⟨kb - 1, by omega⟩
  obtain ⟨k1, rfl⟩ : ∃ j, k1 = j + 1 := ⟨k1 - 1, by omega⟩
  rw [sX10_writeBehindArgument_12]
  unfold fX10_writeBehindArgument_12b
  rw [if_pos (by decide), bd_s, show nI (t.length - 1) + 1 = nI (t.length - 1 + 1) from n_add _ 1, show t.length - 1 + 1 = t.length by omega, sX10_write_10]
  unfold fX10_write_10b
  rw [x1.2.2.2.1.1, if_pos (Int32.le_refl _)]
theorem m_formatted {σ : js_S} {y : js_Y} {i : Nat} (g : gy_ y) (hi : i < 4) (hl : lm_ σ.2.2) (ha : ∀ f, f < 3 → σ.1 391 f = nI (y.1 f)) (hr : rw_ σ 395 (96 * i) (y.2.2 i)) : ∃ σ', fX12_formattedLength 5000 390 (nI i) σ = some (nI (ff_ y.1 (y.2.2 i)).length, σ') ∧ fm_ σ σ' ∧ vw_ σ' 417 0 (ff_ y.1 (y.2.2 i)) := by
  have gt := g.2.2.2 i hi
  have h40 := gt.2
  have m0 : mw_ (uI_ σ 390 35 0) y.1 (96 * i + 1) (y.2.2 i) [] := ⟨hl, fun f hf => by rw [uI_ne (by omega)]; exact ha f hf, vw_eq (uI_row (by omega)) hr.2, uI_same, fun k hk => by simp at hk⟩
  have hw : wt_ y.1 ((y.2.2 i).drop 0) 1 := gt.1
  obtain ⟨σ1, r1, f1, m1⟩ := m_format g.1 h40 (p := 96 * i + 1) (by omega) 60 0 [] 1 _ (ok_wt hw) (by omega) (by omega) (by simp) m0
  refine ⟨σ1, ?_, ?_, m1.2.2.2.2⟩
  · unfold fX12_formattedLength
    rw [m_reg hi, bd_s, if_neg (by decide), lt_s_, n_96, show nI (96 * i) + 1 = nI (96 * i + 1 + 0) from n_add (96 * i) 1, r1, bd_s, m1.2.2.2.1]
    rfl
  · exact fm_tr (fm_u (by unfold sM_; omega)) ⟨by rw [f1.1], fun a _ => by rw [f1.1], fun a b q => f1.2 a b (fun z => q (by unfold sM_; omega)) (fun z => q (by unfold sM_; omega))⟩
theorem fx85 {σ σ' : js_S} (h : fi_ (fun a => a = 85 ∨ a = 86 ∨ a = 87) σ σ') : fx_ σ σ' := fx_fi h (fun a b q z => q (by unfold sX_; omega))
theorem op_formattedLength {σ : js_S} {y : js_Y} {sn : Option js_Y} {tx : List Int32} (h : iv_ σ y sn tx) (x : Int32) : ∃ r σ1 σ2, fX11_formattedLength 5000 1 x σ = some (r, σ1) ∧ fx_ σ σ1 ∧ fX12_formattedLength 5000 390 x σ1 = some (r, σ2) ∧ fm_ σ1 σ2 := by
  have gy := h.2.2.1
  have hl := h.1.1
  by_cases hc : ∃ i, i < 4 ∧ x = nI i
  · obtain ⟨i, hi, rfl⟩ := hc
    have gt := gy.2.2.2 i hi
    obtain ⟨σ1, r1, f1, e1, v1⟩ := x_write gy.1 gt (o := 34 + 2 * i) (by omega) hl h.1.2.2.1.1 (to_reg hl i hi) (sx_reg h.1.2.2.1 hi)
    have h1 := iv_x (fx85 f1) h
    obtain ⟨σ2, r2, f2, v2⟩ := m_formatted gy hi h1.2.1.1 h1.2.1.2.1.1 (h1.2.1.2.1.2.2.2 i hi)
    refine ⟨nI (ff_ y.1 (y.2.2 i)).length, σ1, σ2, ?_, fx85 f1, r2, f2⟩
    unfold fX11_formattedLength
    rw [x_reg hi, bd_s, if_neg (by decide), lx_1_0 hl, x6_register hl hi, bd_s, lx_1_4 hl, lx_2_0 hl, r1, bd_s, lx_1_4 h1.1.1, e1]
  · refine ⟨-1, σ, σ, ?_, fx_rf, ?_, fm_rf⟩
    · unfold fX11_formattedLength
      rw [x_noreg hc, bd_s, if_pos rfl]
    · unfold fX12_formattedLength
      rw [m_noreg hc, bd_s, if_pos rfl]
theorem op_formattedCharacter {σ : js_S} {y : js_Y} {sn : Option js_Y} {tx : List Int32} (h : iv_ σ y sn tx) (x z : Int32) : ∃ r σ1 σ2, fX11_formattedCharacter 5000 1 x z σ = some (r, σ1) ∧ fx_ σ σ1 ∧ fX12_formattedCharacter 5000 390 x z σ1 = some (r, σ2) ∧ fm_ σ1 σ2 := by
  have gy := h.2.2.1
  have hl := h.1.1
  by_cases hc : ∃ i, i < 4 ∧ x = nI i
  · obtain ⟨i, hi, rfl⟩ := hc
    have gt := gy.2.2.2 i hi
    obtain ⟨e1', e2', e3'⟩ := fo_end gt
    obtain ⟨σ1, r1, f1, e1, v1⟩ := x_write gy.1 gt (o := 34 + 2 * i) (by omega) hl h.1.2.2.1.1 (to_reg hl i hi) (sx_reg h.1.2.2.1 hi)
    have h1 := iv_x (fx85 f1) h
    obtain ⟨σ2, r2, f2, v2⟩ := m_formatted gy hi h1.2.1.1 h1.2.1.2.1.1 (h1.2.1.2.1.2.2.2 i hi)
    have hm2 : lm_ σ2.2.2 := by rw [f2.1]; exact h1.2.1.1
    have hcls : fX11_formattedCharacter 5000 1 (nI i) z σ = if z < 0 then some (-1, σ1) else if nI (ff_ y.1 (y.2.2 i)).length ≤ z then some (-1, σ1) else bd_ (fX10_character 5000 85 z σ1) fun r13 σ13 => some (r13, σ13) := by
      unfold fX11_formattedCharacter
      rw [x_reg hi, bd_s, if_neg (by decide), lx_1_0 hl, x6_register hl hi, bd_s, lx_1_4 hl, lx_2_0 hl, r1, bd_s, lx_1_4 h1.1.1, e1]
    have hpos : 0 < (ff_ y.1 (y.2.2 i)).length := by
      -- the symbol itself is written
      unfold ff_
      rw [show (60 : Nat) = 59 + 1 from rfl, fo_s]
      have : ∀ (f : Nat → List Int32 → js_Q) (hf : ∀ e acc, acc.length ≤ (f e acc).2.length) (r : Nat) (first : Bool) (e : Nat) (acc : List Int32), acc.length ≤ (fa_ f r first e acc).2.length := by
        intro f hf r
        induction r with
        | zero =>
          intro first e acc
          show acc.length ≤ (if first = true then acc else acc ++ [41]).length
          split
          · omega
          · rw [List.length_append]; omega
        | succ r ih =>
          intro first e acc
          rw [fa_s]
          have q1 := hf e (acc ++ [if first = true then 40 else 44])
          have q2 := ih false (f e (acc ++ [if first = true then 40 else 44])).1 (f e (acc ++ [if first = true then 40 else 44])).2
          rw [List.length_append] at q1
          omega
      have mono : ∀ (d e : Nat) (acc : List Int32), acc.length ≤ (fo_ y.1 (y.2.2 i) d e acc).2.length := by
        intro d
        induction d with
        | zero => exact fun e acc => Nat.le_refl _
        | succ d ih =>
          intro e acc
          rw [fo_s]
          have q := this (fo_ y.1 (y.2.2 i) d) ih (sa_ y.1 (at_ (y.2.2 i) e)) true (e + 1) (acc ++ [at_ (y.2.2 i) e])
          rw [List.length_append] at q
          omega
      have q := this (fo_ y.1 (y.2.2 i) 59) (mono 59) (sa_ y.1 (at_ (y.2.2 i) 0)) true (0 + 1) ([] ++ [at_ (y.2.2 i) 0])
      rw [List.length_append, List.length_singleton] at q
      omega
    have hmod : fX12_formattedCharacter 5000 390 (nI i) z σ1 = if (if z < 0 then (0 : Int32) else if nI ((ff_ y.1 (y.2.2 i)).length - 1) < z then 0 else 1) = 0 then some (-1, σ2) else if ib_ z (ln_ (σ2.2.2 390 34)) = true then some (σ2.1 (σ2.2.2 390 34) (Int32.toNatClampNeg z), σ2) else none := by
      unfold fX12_formattedCharacter
      rw [r2, bd_s, m_isIn, bd_s, n_pred hpos]
    by_cases hz : ∃ k, k < (ff_ y.1 (y.2.2 i)).length ∧ z = nI k
    · obtain ⟨k, hk, rfl⟩ := hz
      refine ⟨at_ (ff_ y.1 (y.2.2 i)) k, σ1, σ2, ?_, fx85 f1, ?_, f2⟩
      · rw [hcls, if_neg (nI_pos (by omega)), if_neg (fun w => by have := (n_le (by omega) (by omega)).mp w; omega)]
        unfold fX10_character
        have := v1 k hk
        rw [Nat.zero_add] at this
        rw [if_neg (nI_pos (by omega)), e1, if_neg (fun w => by have := (n_le (by omega) (by omega)).mp w; omega), lx_85_0 h1.1.1, ln_86, n_of, if_neg (fun w => by have := (n_le (by omega) (by omega)).mp w; omega), n_ib (by omega), if_pos (by simp; omega), n_cl (by omega), this, bd_s]
      · have := v2 k hk
        rw [Nat.zero_add] at this
        have c1 : ¬ nI k < 0 := nI_pos (by omega)
        have c2 : ¬ nI ((ff_ y.1 (y.2.2 i)).length - 1) < nI k := fun w => by have := (n_lt (by omega) (by omega)).mp w; omega
        rw [hmod, if_neg c1, if_neg c2, if_neg (by decide), lm_34 hm2, ln_417, n_ib (by omega), if_pos (by simp; omega), n_cl (by omega), this]
    · refine ⟨-1, σ1, σ2, ?_, fx85 f1, ?_, f2⟩
      · rw [hcls]
        rcases n_cases z with q | ⟨k, hk, rfl⟩
        · rw [if_pos q]
        · have : ¬ k < (ff_ y.1 (y.2.2 i)).length := fun w => hz ⟨k, w, rfl⟩
          rw [if_neg (nI_pos hk), if_pos ((n_le (by omega) (by omega)).mpr (by omega))]
      · rw [hmod]
        rcases n_cases z with q | ⟨k, hk, rfl⟩
        · rw [if_pos q, if_pos rfl]
        · have : ¬ k < (ff_ y.1 (y.2.2 i)).length := fun w => hz ⟨k, w, rfl⟩
          have c1 : ¬ nI k < 0 := nI_pos hk
          have c2 : nI ((ff_ y.1 (y.2.2 i)).length - 1) < nI k := (n_lt (by omega) (by omega)).mpr (by omega)
          rw [if_neg c1, if_pos c2, if_pos rfl]
  · refine ⟨-1, σ, σ, ?_, fx_rf, ?_, fm_rf⟩
    · unfold fX11_formattedCharacter
      rw [x_noreg hc, bd_s, if_pos rfl]
    · unfold fX12_formattedCharacter fX12_formattedLength
      rw [m_noreg hc, bd_s, if_pos rfl, bd_s, m_isIn, bd_s]
      rcases n_cases z with q | ⟨k, hk, rfl⟩
      · rw [if_pos q, if_pos rfl]
      · have c1 : ¬ nI k < 0 := nI_pos hk
        have c2 : (-1 - 1 : Int32) < nI k := n_neg (a := k) (by decide) hk
        rw [if_neg c1, if_pos c2, if_pos rfl]
