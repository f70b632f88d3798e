/-! setArity -/
def ra_ (a : Nat → Nat) (f v : Nat) : Nat → Nat := fun g => if g = f then v else a g
def sb_ (f : Nat) : Int32 := nI (102 + f)
def rg_ (t : List Int32) (f : Nat) : List Int32 := if sb_ f ∈ t then [122] else t
theorem sa_ra {a : Nat → Nat} {f v : Nat} {s : Int32} (hf : f < 3) (h : s ≠ sb_ f) : sa_ (ra_ a f v) s = sa_ a s := by
  unfold sa_ ra_
  rcases (show f = 0 ∨ f = 1 ∨ f = 2 by omega) with rfl | rfl | rfl
  · have : ¬ s = 102 := h
    rw [if_neg this, if_neg this]
    rfl
  · have : ¬ s = 103 := h
    rw [if_neg this, if_neg this]
    rfl
  · have : ¬ s = 104 := h
    rw [if_neg this, if_neg this]
    rfl
theorem wt_ra {a : Nat → Nat} {f v : Nat} (hf : f < 3) : ∀ {t : List Int32} {n : Nat}, sb_ f ∉ t → wt_ a t n → wt_ (ra_ a f v) t n
  | [], n, _, h => h
  | s :: t, n, hn, h => by
    have h1 : s ≠ sb_ f := fun q => hn (by rw [q]; exact List.mem_cons_self)
    refine ⟨h.1, h.2.1, ?_⟩
    rw [sa_ra hf h1]
    exact wt_ra hf (fun q => hn (List.mem_cons_of_mem _ q)) h.2.2
theorem gt_z (a : Nat → Nat) : gt_ a [122] := ⟨⟨by omega, by decide, by show 1 - 1 + sa_ a 122 = 0; rfl⟩, by simp⟩
theorem gt_ra {a : Nat → Nat} {f v : Nat} {t : List Int32} (hf : f < 3) (h : gt_ a t) : gt_ (ra_ a f v) (rg_ t f) := by
  unfold rg_
  by_cases c : sb_ f ∈ t
  · rw [if_pos c]
    exact gt_z _
  · rw [if_neg c]
    exact ⟨wt_ra hf c h.1, h.2⟩
theorem x9_zero {σ : js_S} {fu o : Nat} (h : to_ σ o) : ∃ σ', fX9_becomeZero fu o σ = some ((), σ') ∧ fi_ (fun a => a = o ∨ a = o + 1) σ σ' ∧ tm_ σ' o [122] := by
  refine ⟨uI_ (uI_ (uI_ σ o 1 0) (o + 1) 0 122) o 1 1, ?_, ?_, ?_, fun k h1 h2 => ?_⟩
  · unfold fX9_becomeZero fX9_append fX9_append_29
    simp only [lt_s_]
    rw [uI_2, h.1, h.2.1, uI_same, if_neg (by decide), if_neg (by decide), if_pos (by decide)]
    have e : (uI_ (uI_ σ o 1 0) (o + 1) (Int32.toNatClampNeg 0) 122).1 o 1 = 0 := by rw [uI_ne (by omega), uI_same]
    rw [e, bd_s]
    rfl
  · exact ⟨rfl, fun a ha => by rw [uI_row (by omega), uI_row (by omega), uI_row (by omega)]⟩
  · exact uI_same
  · have : k = 0 := by simp at h1; omega
    subst this
    rw [uI_ne (by omega), uI_same]
    rfl
theorem x6_reset_loop {f : Nat} :
    ∀ (d e k : Nat) (σ : js_S) (F : Nat → List Int32), e + d = 4 → d < k → lx_ σ.2.2 → (∀ j, j < 4 → tm_ σ (34 + 2 * j) (F j) ∧ (F j).length ≤ 40) →
      ∃ σ', fX6_resetRegistersWith_2 5000 k 2 (sb_ f) (nI e) σ = some ((), σ') ∧ fi_ (fun a => 34 ≤ a ∧ a < 42) σ σ' ∧ ∀ j, j < 4 → tm_ σ' (34 + 2 * j) (if e ≤ j then rg_ (F j) f else F j) := by
  intro d
  induction d with
  | zero =>
    intro e k σ F he hk hl hF
    obtain ⟨k, rfl⟩ : ∃ j, k = j + 1 := ⟨k - 1, by omega⟩
    refine ⟨σ, ?_, fi_rf, fun j hj => by rw [if_neg (by omega)]; exact (hF j hj).1⟩
    rw [sX6_resetRegistersWith_2]
    unfold fX6_resetRegistersWith_2b
    simp (disch := omega) only [n_lit, n_le]
    rw [if_pos (by omega)]
  | succ d ih =>
    intro e k σ F he hk hl hF
    obtain ⟨k, rfl⟩ : ∃ j, k = j + 1 := ⟨k - 1, by omega⟩
    have ho := to_reg hl e (by omega)
    obtain ⟨t1, t2⟩ := hF e (by omega)
    have c4 : ¬ (4 : Int32) ≤ nI e := fun q => by
      have := (n_le (a := 4) (by omega) (by omega)).mp q
      omega
    rw [sX6_resetRegistersWith_2]
    unfold fX6_resetRegistersWith_2b fX6_resetRegistersWith_27
    rw [if_neg c4, x6_register hl (by omega), bd_s, x9_contains ho t1 t2, bd_s, show nI e + 1 = nI (e + 1) from n_add e 1]
    by_cases hc : sb_ f ∈ F e
    · rw [if_pos hc, if_neg (by decide), x6_register hl (by omega), bd_s]
      obtain ⟨σ1, r1, f1, z1⟩ := x9_zero (fu := 5000) ho
      obtain ⟨σ2, r2, f2, z2⟩ := ih (e + 1) k σ1 (fun j => if j = e then [122] else F j) (by omega) (by omega) (by rw [fi_r f1]; exact hl) (fun j hj => by
        by_cases hje : j = e
        · rw [if_pos hje, hje]
          exact ⟨z1, by simp⟩
        · rw [if_neg hje]
          exact ⟨tm_fi f1 (by omega) (by omega) (hF j hj).1, (hF j hj).2⟩)
      refine ⟨σ2, by rw [r1, bd_s, r2], fi_tr f1 f2 (fun a h => by omega) (fun a h => by omega), fun j hj => ?_⟩
      have := z2 j hj
      by_cases hje : j = e
      · subst hje
        rw [if_neg (by omega), if_pos rfl] at this
        rw [if_pos (by omega)]
        unfold rg_
        rw [if_pos hc]
        exact this
      · rw [if_neg hje] at this
        by_cases h2 : e ≤ j
        · rw [if_pos (by omega)] at this
          rw [if_pos h2]
          exact this
        · rw [if_neg (by omega)] at this
          rw [if_neg h2]
          exact this
    · rw [if_neg hc, if_pos rfl]
      obtain ⟨σ2, r2, f2, z2⟩ := ih (e + 1) k σ F (by omega) (by omega) hl hF
      refine ⟨σ2, r2, f2, fun j hj => ?_⟩
      have := z2 j hj
      by_cases hje : j = e
      · subst hje
        rw [if_neg (by omega)] at this
        rw [if_pos (by omega)]
        unfold rg_
        rw [if_neg hc]
        exact this
      · by_cases h2 : e ≤ j
        · rw [if_pos (by omega)] at this
          rw [if_pos h2]
          exact this
        · rw [if_neg (by omega)] at this
          rw [if_neg h2]
          exact this
/-- truth as an int -/
def bi_ (b : Bool) : Int32 := if b = true then 1 else 0
theorem bi_or (a b : Bool) : bi_ a ||| bi_ b = bi_ (a || b) := by cases a <;> cases b <;> decide
theorem bi_and (a b : Bool) : bi_ a &&& bi_ b = bi_ (a && b) := by cases a <;> cases b <;> decide
theorem bi_nz (b : Bool) : nz_ (bi_ b) = bi_ b := by
  cases b
  · exact nz0
  · exact nz1
theorem bi_0 (b : Bool) : (bi_ b = 0) ↔ b = false := by cases b <;> decide
theorem m_setA_in {σ : js_S} {f r : Nat} {prev : Int32} {t : List Int32} (rc : Nat → Int32 → Int32 → Int32 → js_S → Option (Int32 × js_S)) (hm : lm_ σ.2.2) (hf : f < 3) (hr : r < 4) (ht : rw_ σ 395 (96 * r) t) (h40 : t.length ≤ 40) :
    ∀ (d e k : Nat) (b : Bool), e + d = t.length → d < k → fX12_setArity_62 5000 rc k 390 (nI f) prev (nI r) (bi_ b) (nI (e + 1)) σ = (if (b || decide (sb_ f ∈ t.drop e)) = true then bd_ (fX12_setToZ 5000 390 (nI r) σ) (fun _ σ5 => rc 390 (nI f) prev (nI (r + 1)) σ5) else rc 390 (nI f) prev (nI (r + 1)) σ) := by
  intro d
  induction d with
  | zero =>
    intro e k b he hk
    obtain ⟨k, rfl⟩ : ∃ j, k = j + 1 := ⟨k - 1, by omega⟩
    rw [sX12_setArity_62]
    unfold fX12_setArity_62b fX12_setArity_124
    rw [lm_4 hm, ln_395, n_96, drop_end (by omega), show nI r + 1 = nI (r + 1) from n_add r 1]
    simp (disch := omega) only [n_ib, n_cl, decide_eq_true_eq]
    rw [if_pos (by omega), ht.1]
    have c : nI t.length < nI (e + 1) := (n_lt (by omega) (by omega)).mpr (by omega)
    rw [if_pos c]
    cases b
    · rw [if_pos (by decide), if_neg (by simp)]
    · rw [if_neg (by decide), if_pos (by simp)]
  | succ d ih =>
    intro e k b he hk
    obtain ⟨k, rfl⟩ : ∃ j, k = j + 1 := ⟨k - 1, by omega⟩
    rw [sX12_setArity_62]
    unfold fX12_setArity_62b fX12_setArity_104
    rw [lm_4 hm, ln_395, n_96, drop_get (by omega)]
    simp (disch := omega) only [n_ib, n_cl, decide_eq_true_eq, n_add]
    rw [if_pos (by omega), ht.1]
    have c : ¬ nI t.length < nI (e + 1) := fun q => by
      have := (n_lt (by omega) (by omega)).mp q
      omega
    have a1 : σ.1 395 (96 * r + (e + 1)) = at_ t e := by rw [show 96 * r + (e + 1) = 96 * r + 1 + e by omega]; exact ht.2 e (by omega)
    have e2 : (102 : Int32) + nI f = sb_ f := n_add 102 f
    rw [if_neg c, if_pos (by omega), a1, e2, show nI (e + 1) + 1 = nI (e + 1 + 1) from n_add (e + 1) 1, show (1 : Int32) = bi_ true from rfl, show (0 : Int32) = bi_ false from rfl, bi_or, bi_or, ih (e + 1) k _ (by omega) (by omega), ih (e + 1) k _ (by omega) (by omega)]
    by_cases hc : at_ t e = sb_ f
    · rw [if_pos hc, if_pos (by simp), if_pos (by rw [hc]; simp)]
    · rw [if_neg hc]
      have : decide (sb_ f ∈ at_ t e :: t.drop (e + 1)) = decide (sb_ f ∈ t.drop (e + 1)) := by
        congr 1
        rw [List.mem_cons]
        exact propext ⟨fun q => q.elim (fun q => absurd q.symm hc) id, Or.inr⟩
      rw [this, Bool.or_false]
theorem m_setToZ {σ : js_S} {r : Nat} (hm : lm_ σ.2.2) (hr : r < 4) : fX12_setToZ 5000 390 (nI r) σ = some ((), uI_ (uI_ σ 395 (96 * r) 1) 395 (96 * r + 1) 122) := by
  unfold fX12_setToZ
  simp only [lt_s_]
  rw [uI_2, lm_4 hm, ln_395, n_96, show nI (96 * r) + 1 = nI (96 * r + 1) from n_add (96 * r) 1]
  simp (disch := omega) only [n_ib, n_cl, decide_eq_true_eq]
  rw [if_pos (by omega), if_pos (by omega)]
theorem m_setA_out {f : Nat} {prev : Int32} (hf : f < 3) :
    ∀ (d e k : Nat) (σ : js_S) (F : Nat → List Int32), e + d = 4 → d < k → lm_ σ.2.2 → (∀ j, j < 4 → rw_ σ 395 (96 * j) (F j) ∧ (F j).length ≤ 40) →
      ∃ σ', fX12_setArity_50 5000 k 390 (nI f) prev (nI e) σ = some (prev, σ') ∧ fi_ (fun a => a = 395) σ σ' ∧ ∀ j, j < 4 → rw_ σ' 395 (96 * j) (if e ≤ j then rg_ (F j) f else F j) := by
  intro d
  induction d with
  | zero =>
    intro e k σ F he hk hm hF
    obtain ⟨k, rfl⟩ : ∃ j, k = j + 1 := ⟨k - 1, by omega⟩
    refine ⟨σ, ?_, fi_rf, fun j hj => by rw [if_neg (by omega)]; exact (hF j hj).1⟩
    rw [sX12_setArity_50]
    unfold fX12_setArity_50b
    have c4 : (4 : Int32) ≤ nI e := (n_le (a := 4) (by omega) (by omega)).mpr (by omega)
    rw [if_pos c4]
  | succ d ih =>
    intro e k σ F he hk hm hF
    obtain ⟨k, rfl⟩ : ∃ j, k = j + 1 := ⟨k - 1, by omega⟩
    have c4 : ¬ (4 : Int32) ≤ nI e := fun q => by
      have := (n_le (a := 4) (by omega) (by omega)).mp q
      omega
    obtain ⟨t1, t2⟩ := hF e (by omega)
    rw [sX12_setArity_50]
    unfold fX12_setArity_50b
    have key := m_setA_in (prev := prev) (fX12_setArity_50 5000 k) hm hf (by omega) t1 t2 (F e).length 0 5000 false (by omega) (by omega)
    rw [if_neg c4, show (0 : Int32) = bi_ false from rfl, show (1 : Int32) = nI (0 + 1) from rfl, key, List.drop_zero, Bool.false_or]
    by_cases hc : sb_ f ∈ F e
    · rw [if_pos (by simpa using hc), m_setToZ hm (by omega), bd_s]
      obtain ⟨σ2, r2, f2, z2⟩ := ih (e + 1) k (uI_ (uI_ σ 395 (96 * e) 1) 395 (96 * e + 1) 122) (fun j => if j = e then [122] else F j) (by omega) (by omega) hm (fun j hj => by
        by_cases hje : j = e
        · subst hje
          rw [if_pos rfl]
          refine ⟨⟨by rw [uI_ne (by omega), uI_same]; rfl, fun k hk => ?_⟩, by simp⟩
          have : k = 0 := by simp at hk; omega
          subst this
          rw [Nat.add_zero, uI_same]
          rfl
        · rw [if_neg hje]
          have l := (hF j hj).2
          refine ⟨⟨by rw [uI_ne (by omega), uI_ne (by omega)]; exact (hF j hj).1.1, fun k hk => ?_⟩, l⟩
          rw [uI_ne (by omega), uI_ne (by omega)]
          exact (hF j hj).1.2 k hk)
      refine ⟨σ2, r2, fi_tr (S := fun a => a = 395) (σ1 := uI_ (uI_ σ 395 (96 * e) 1) 395 (96 * e + 1) 122) ⟨rfl, fun a ha => by rw [uI_row ha, uI_row ha]⟩ f2 (fun a h => h) (fun a h => h), fun j hj => ?_⟩
      have := z2 j hj
      by_cases hje : j = e
      · subst hje
        rw [if_neg (by omega), if_pos rfl] at this
        rw [if_pos (by omega)]
        unfold rg_
        rw [if_pos hc]
        exact this
      · rw [if_neg hje] at this
        by_cases h2 : e ≤ j
        · rw [if_pos (by omega)] at this
          rw [if_pos h2]
          exact this
        · rw [if_neg (by omega)] at this
          rw [if_neg h2]
          exact this
    · rw [if_neg (by simpa using hc)]
      obtain ⟨σ2, r2, f2, z2⟩ := ih (e + 1) k σ F (by omega) (by omega) hm hF
      refine ⟨σ2, r2, f2, fun j hj => ?_⟩
      have := z2 j hj
      by_cases hje : j = e
      · subst hje
        rw [if_neg (by omega)] at this
        rw [if_pos (by omega)]
        unfold rg_
        rw [if_neg hc]
        exact this
      · by_cases h2 : e ≤ j
        · rw [if_pos (by omega)] at this
          rw [if_pos h2]
          exact this
        · rw [if_neg (by omega)] at this
          rw [if_neg h2]
          exact this
theorem sa_ra2 {a : Nat → Nat} {f v k : Nat} (hf : f < 3) (hk : k < 128) : sa_ (ra_ a f v) (nI k) = if k = 102 + f then v else sa_ a (nI k) := by
  by_cases h : k = 102 + f
  · rw [if_pos h, h]
    rcases (show f = 0 ∨ f = 1 ∨ f = 2 by omega) with rfl | rfl | rfl <;> rfl
  · rw [if_neg h, sa_ra hf (fun q => h ((n_eq (by omega) (by omega)).mp q))]
theorem op_setArity {σ : js_S} {y : js_Y} {sn : Option js_Y} {tx : List Int32} (h : iv_ σ y sn tx) (x z : Int32) : ∃ r σ1 σ2 y', fX11_setArity 5000 1 x z σ = some (r, σ1) ∧ fX12_setArity 5000 390 x z σ1 = some (r, σ2) ∧ iv_ σ2 y' sn tx ∧ ce2_ σ σ2 ∧ (y' = y ∨ (y.2.1 = [] ∧ y'.2.1 = [])) := by
  obtain ⟨hX, hM, g⟩ := id h
  have gy := g.1
  have h6 := gy.2.1
  unfold fX11_setArity fX12_setArity
  by_cases hc : ∃ f, f < 3 ∧ x = nI f
  · obtain ⟨f, hf, rfl⟩ := hc
    rw [x_fnum hf, bd_s, if_neg (by decide)]
    by_cases hz1 : z < 1
    · refine ⟨-2, σ, σ, y, by rw [if_pos hz1], ?_, h, ce2_rf, Or.inl rfl⟩
      rw [m_fnum hf, bd_s, if_neg (by decide), m_isIn, if_pos hz1, bd_s, if_pos rfl]
    · by_cases hz3 : 3 < z
      · refine ⟨-2, σ, σ, y, by rw [if_neg hz1, if_neg (by rw [Int32.not_le]; exact hz3)], ?_, h, ce2_rf, Or.inl rfl⟩
        rw [m_fnum hf, bd_s, if_neg (by decide), m_isIn, if_neg hz1, if_pos hz3, bd_s, if_pos rfl]
      · rw [if_neg hz1, if_pos (by rw [← Int32.not_lt]; exact hz3), lx_1_0 hX.1, hX.2.2.1.2.1]
        by_cases h0 : y.2.1.length = 0
        · have hz : ∃ v, 1 ≤ v ∧ v ≤ 3 ∧ z = nI v := by
            rcases n_cases z with q | ⟨k, hk, rfl⟩
            · exact absurd (n_neg (a := 1) q (by omega)) hz1
            · refine ⟨k, ?_, ?_, rfl⟩
              · have : ¬ nI k < nI 1 := hz1
                rw [n_lt hk (by omega)] at this
                omega
              · have : ¬ nI 3 < nI k := hz3
                rw [n_lt (by omega) hk] at this
                omega
          obtain ⟨v, hv1, hv3, rfl⟩ := hz
          rw [h0, if_pos (by decide), lx_2_0 hX.1, x8_ofFunction (lx_3_0 hX.1) ln_4 hX.2.2.1.1 hf, bd_s]
          have fch : fX8_change 5000 (σ.2.2 (σ.2.2 1 0) 0) (nI f) (nI v) σ = some ((), uI_ σ 4 (102 + f) (nI v)) := by
            unfold fX8_change
            rw [lx_1_0 hX.1, lx_2_0 hX.1, lx_3_0 hX.1, ln_4, show (102 : Int32) = nI 102 from rfl, n_add]
            simp (disch := omega) only [n_lit, n_lt, n_le, n_ib, n_cl, decide_eq_true_eq, lt_s_, Nat.not_lt_zero, if_false]
            rw [if_neg (by omega), if_pos (by omega)]
          have f0 : fi_ (fun a => a = 4) σ (uI_ σ 4 (102 + f) (nI v)) := fi_u rfl
          have hl1 : lx_ (uI_ σ 4 (102 + f) (nI v)).2.2 := hX.1
          obtain ⟨σ1, r1, f1, z1⟩ := x6_reset_loop (f := f) 4 0 5000 (uI_ σ 4 (102 + f) (nI v)) y.2.2 (by omega) (by omega) hl1 (fun j hj => ⟨tm_fi f0 (by omega) (by omega) (sx_reg hX.2.2.1 hj), (gy.2.2.2 j hj).2⟩)
          have f01 : fi_ (fun a => a = 4 ∨ (34 ≤ a ∧ a < 42)) σ σ1 := fi_tr f0 f1 (fun a h => by omega) (fun a h => by omega)
          have gy' : gy_ ((ra_ y.1 f v, y.2.1, fun i => rg_ (y.2.2 i) f) : js_Y) := by
            refine ⟨fun g hg => ?_, h6, fun i hi => ?_, fun i hi => gt_ra hf (gy.2.2.2 i hi)⟩
            · show 1 ≤ (if g = f then v else y.1 g) ∧ (if g = f then v else y.1 g) ≤ 3
              split
              · omega
              · exact gy.1 g hg
            · have : i < y.2.1.length := hi
              omega
          have hX1 : ix_ σ1 (ra_ y.1 f v, y.2.1, fun i => rg_ (y.2.2 i) f) sn tx := by
            refine ix_sys g f01.1 (fun a h1 h2 => f01.2 a (by omega)) (by rw [f01.2 1 (by omega)]) ⟨fun k hk => ?_, by rw [f01.2 2 (by omega)]; exact hX.2.2.1.2.1, fun i hi => ?_, fun i hi => ?_⟩ hX
            · rw [f1.2 (2 + 1 + 1) (by omega)]
              show (uI_ σ 4 (102 + f) (nI v)).1 4 k = _
              rw [sa_ra2 hf hk]
              by_cases hkf : k = 102 + f
              · rw [if_pos hkf, hkf, uI_same]
              · rw [if_neg hkf, uI_ne (by omega)]
                exact hX.2.2.1.1 k hk
            · have : i < y.2.1.length := hi
              omega
            · have := z1 i hi
              rw [if_pos (by omega)] at this
              rw [show 2 + 32 + 2 * i = 34 + 2 * i by omega]
              exact this
          have hM1 : im_ σ1 y sn tx := im_x (σ := σ) (fun a ha => f01.2 a (by omega)) (fun o _ => by rw [f01.1]) hM
          have f2 : fi_ (fun a => a = 391) σ1 (uI_ σ1 391 f (nI v)) := fi_u rfl
          obtain ⟨σ3, r3, f3, z3⟩ := m_setA_out (f := f) (prev := nI (y.1 f)) hf 4 0 5000 (uI_ σ1 391 f (nI v)) y.2.2 (by omega) (by omega) hM1.1 (fun j hj => ⟨rw_fi f2 (by omega) (hM1.2.1.2.2.2 j hj), (gy.2.2.2 j hj).2⟩)
          have f23 : fi_ (fun a => a = 391 ∨ a = 395) σ1 σ3 := fi_tr f2 f3 (fun a h => by omega) (fun a h => by omega)
          refine ⟨nI (y.1 f), σ1, σ3, (ra_ y.1 f v, y.2.1, fun i => rg_ (y.2.2 i) f), ?_, ?_, ⟨?_, ?_, gy', g.2.1, g.2.2⟩, ?_, Or.inr ⟨List.length_eq_zero_iff.mp h0, List.length_eq_zero_iff.mp h0⟩⟩
          · rw [fch, bd_s]
            unfold fX11_symbolOfFunction fX6_resetRegistersWith
            rw [bd_s, uI_2, lx_1_0 hX.1, show (102 : Int32) + nI f = sb_ f from n_add 102 f]
            have : (0 : Int32) = nI 0 := rfl
            rw [this, r1, bd_s]
          · rw [m_fnum hf, bd_s, if_neg (by decide), m_isIn, if_neg hz1, if_neg hz3, bd_s, if_neg (by decide), hM1.2.1.2.1, h0, if_pos (by decide), lm_0 hM1.1, ln_391]
            simp (disch := omega) only [n_ib, n_cl, decide_eq_true_eq, lt_s_]
            rw [if_pos hf, if_pos hf, hM1.2.1.1 f hf]
            exact r3
          · exact ix_m (σ := σ1) ⟨gy', g.2.1, g.2.2⟩ (fun a ha => f23.2 a (by omega)) (by rw [f23.1]) hX1
          · refine im_sys (σ := σ1) f23.1 (fun a ha => f23.2 a (by omega)) (fun b hb => by rw [f23.2 390 (by omega)]) ⟨fun k hk => ?_, by rw [f23.2 390 (by omega)]; exact hM1.2.1.2.1, fun i hi => ?_, fun i hi => ?_⟩ hM1
            · rw [f3.2 391 (by omega)]
              show _ = nI (if k = f then v else y.1 k)
              by_cases hkf : k = f
              · rw [if_pos hkf, hkf, uI_same]
              · rw [if_neg hkf, uI_ne (by omega)]
                exact hM1.2.1.1 k hk
            · have : i < y.2.1.length := hi
              omega
            · have := z3 i hi
              rw [if_pos (by omega)] at this
              exact this
          · exact ce2_tr (ce2_fi f01 (fun a q => by omega)) (ce2_fi f23 (fun a q => by omega))
        · refine ⟨-3, σ, σ, y, ?_, ?_, h, ce2_rf, Or.inl rfl⟩
          · have : ¬ nI y.2.1.length ≤ 0 := fun q => by
              have := (n_le (b := 0) (by omega) (by omega)).mp q
              omega
            rw [if_neg this]
          · rw [m_fnum hf, bd_s, if_neg (by decide), m_isIn, if_neg hz1, if_neg hz3, bd_s, if_neg (by decide), hM.2.1.2.1]
            have : ¬ nI y.2.1.length ≤ 0 := fun q => by
              have := (n_le (b := 0) (by omega) (by omega)).mp q
              omega
            rw [if_neg this]
  · refine ⟨-1, σ, σ, y, ?_, ?_, h, ce2_rf, Or.inl rfl⟩
    · rw [x_nofnum hc, bd_s, if_pos rfl]
    · rw [m_nofnum hc, bd_s, if_pos rfl]
