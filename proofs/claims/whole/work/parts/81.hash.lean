/-! the class's table of graphs -/
def sl_ (h t : Nat) : Nat := (h + t) % 1024
theorem sl_lt {h t : Nat} : sl_ h t < 1024 := Nat.mod_lt _ (by omega)
theorem le_ex {p : Nat → Prop} : ∀ {n : Nat}, p n → ∃ m, m ≤ n ∧ p m ∧ ∀ k, k < m → ¬ p k := by
  intro n
  induction n using Nat.strongRecOn with
  | ind n ih =>
    intro h
    by_cases c : ∃ k, k < n ∧ p k
    · obtain ⟨k, hk, pk⟩ := c
      obtain ⟨m, a1, a2, a3⟩ := ih k hk pk
      exact ⟨m, by omega, a2, a3⟩
    · exact ⟨n, Nat.le_refl _, h, fun k hk pk => c ⟨k, hk, pk⟩⟩
/-- where a graph's slots begin -/
def hs_ (x : Nat) : Nat := (((Int32.toUInt32 (nI x * (-1640531535))) >>> ((Int32.toUInt32 22) &&& Int32.toUInt32 31)).toInt32).toNatClampNeg
theorem hs_eq {x : Nat} : ((Int32.toUInt32 (nI x * (-1640531535))) >>> ((Int32.toUInt32 22) &&& Int32.toUInt32 31)).toInt32 = nI (hs_ x) ∧ hs_ x < 1024 := by
  have hc : ((Int32.toUInt32 22) &&& Int32.toUInt32 31) = (22 : UInt32) := by decide +kernel
  have key : ∀ u : UInt32, ∃ k, k < 1024 ∧ (u >>> (22 : UInt32)).toInt32 = nI k := by
    intro u
    refine ⟨u.toNat / 2 ^ 22, ?_, ?_⟩
    · have := u.toNat_lt
      omega
    · apply Int32.toBitVec_inj.mp
      rw [b_v]
      show (u >>> (22 : UInt32)).toBitVec = _
      apply BitVec.eq_of_toNat_eq
      rw [BitVec.toNat_ofNat]
      show (u >>> (22 : UInt32)).toNat = _
      rw [UInt32.toNat_shiftRight, Nat.shiftRight_eq_div_pow, show (22 : UInt32).toNat % 32 = 22 from rfl, Nat.mod_eq_of_lt]
      have := u.toNat_lt
      omega
  obtain ⟨k, h1, h2⟩ := key (Int32.toUInt32 (nI x * (-1640531535)))
  unfold hs_
  rw [hc, h2, n_cl (by omega)]
  exact ⟨rfl, h1⟩
/-- the table s holds the graphs G -/
def ht_ (s : Nat → Int32) (G : List Nat) : Prop := (∀ i, i < 1024 → s i = 0 ∨ ∃ x, x ∈ G ∧ s i = nI (x + 1)) ∧ (∀ x, x ∈ G → ∃ t, t < 1024 ∧ s (sl_ (hs_ x) t) = nI (x + 1) ∧ ∀ t', t' < t → s (sl_ (hs_ x) t') ≠ 0) ∧ bu_ (fun i => !decide (s i = 0)) 1024 0 ≤ G.length
theorem bu_all {p : Nat → Bool} : ∀ {d j : Nat}, (∀ i, i < d → p (j + i) = true) → bu_ p d j = d
  | 0, j, _ => rfl
  | d + 1, j, h => by
    rw [bu_s, if_pos (show p j = true from h 0 (by omega)), bu_all (fun i hi => by rw [show j + 1 + i = j + (i + 1) by omega]; exact h (i + 1) (by omega))]
    omega
theorem bu_upd {p q : Nat → Bool} {k : Nat} (h : ∀ i, i ≠ k → q i = p i) : ∀ {d j : Nat}, bu_ q d j ≤ bu_ p d j + (if j ≤ k then 1 else 0)
  | 0, j => by
    show 0 ≤ 0 + _
    omega
  | d + 1, j => by
    have ih := bu_upd h (d := d) (j := j + 1)
    rw [bu_s, bu_s]
    by_cases c : j = k
    · rw [if_neg (show ¬ j + 1 ≤ k by omega)] at ih
      rw [if_pos (show j ≤ k by omega)]
      split <;> split <;> omega
    · rw [h j c]
      by_cases c2 : j ≤ k
      · rw [if_pos (show j + 1 ≤ k by omega)] at ih
        rw [if_pos c2]
        omega
      · rw [if_neg (show ¬ j + 1 ≤ k by omega)] at ih
        rw [if_neg c2]
        omega
theorem ht_free {s : Nat → Int32} {G : List Nat} (h : ht_ s G) (hl : G.length ≤ 400) (a : Nat) (ha : a < 1024) : ∃ t, t < 1024 ∧ s (sl_ a t) = 0 := by
  by_cases c : ∃ i, i < 1024 ∧ s i = 0
  · obtain ⟨i, hi, e⟩ := c
    refine ⟨(i + 1024 - a) % 1024, Nat.mod_lt _ (by omega), ?_⟩
    rw [← e]
    congr 1
    unfold sl_
    omega
  · exfalso
    have := bu_all (p := fun i => !decide (s i = 0)) (d := 1024) (j := 0) (fun i hi => by
      rw [Nat.zero_add]
      show (!decide (s i = 0)) = true
      rw [decide_eq_false (fun z => c ⟨i, hi, z⟩)]
      rfl)
    have := h.2.2
    omega
theorem n1_ne {x : Nat} (h : x < 4194304) : nI (x + 1) ≠ 0 := neq_f (b := 0) (by omega) (by omega) (by omega)
theorem n1_eq {x z : Nat} (h : x < 4194304) (h2 : z < 4194304) : nI (x + 1) = nI (z + 1) ↔ x = z := by
  rw [n_eq (by omega) (by omega)]
  omega
/-- where the search ends -/
theorem ht_find {s : Nat → Int32} {G : List Nat} {x : Nat} (h : ht_ s G) (hl : G.length ≤ 400) (hG : ∀ z, z ∈ G → z < 4194304) (hx : x < 4194304) : ∃ T, T < 1024 ∧ (∀ t, t < T → s (sl_ (hs_ x) t) ≠ 0 ∧ s (sl_ (hs_ x) t) ≠ nI (x + 1)) ∧ (x ∈ G → s (sl_ (hs_ x) T) = nI (x + 1)) ∧ (x ∉ G → s (sl_ (hs_ x) T) = 0) := by
  obtain ⟨t0, ht0, e0⟩ := ht_free h hl (hs_ x) hs_eq.2
  obtain ⟨T, a1, a2, a3⟩ := le_ex (p := fun t => s (sl_ (hs_ x) t) = 0 ∨ s (sl_ (hs_ x) t) = nI (x + 1)) (Or.inl e0)
  refine ⟨T, by omega, fun t ht => ⟨fun z => a3 t ht (Or.inl z), fun z => a3 t ht (Or.inr z)⟩, fun hin => ?_, fun hout => ?_⟩
  · obtain ⟨tx, b1, b2, b3⟩ := h.2.1 x hin
    have hle : T ≤ tx := by
      rcases Nat.lt_or_ge tx T with q | q
      · exact absurd (Or.inr b2) (a3 tx q)
      · exact q
    rcases a2 with q | q
    · rcases Nat.lt_or_ge T tx with w | w
      · exact absurd q (b3 T w)
      · rw [show T = tx by omega]
        exact b2
    · exact q
  · rcases a2 with q | q
    · exact q
    · rcases h.1 _ sl_lt with w | ⟨z, hz, w⟩
      · exact w
      · rw [q] at w
        have := (n1_eq hx (hG z hz)).mp w
        exact absurd (this ▸ hz) hout
theorem ht_put {s : Nat → Int32} {G : List Nat} {x T : Nat} (h : ht_ s G) (hG : ∀ z, z ∈ G → z < 4194304) (hx : x < 4194304) (hT : T < 1024) (h1 : ∀ t, t < T → s (sl_ (hs_ x) t) ≠ 0) (h0 : s (sl_ (hs_ x) T) = 0) : ht_ (fun i => if i = sl_ (hs_ x) T then nI (x + 1) else s i) (G ++ [x]) := by
  refine ⟨fun i hi => ?_, fun z hz => ?_, ?_⟩
  · show (if i = sl_ (hs_ x) T then nI (x + 1) else s i) = 0 ∨ ∃ z, z ∈ G ++ [x] ∧ (if i = sl_ (hs_ x) T then nI (x + 1) else s i) = nI (z + 1)
    by_cases c : i = sl_ (hs_ x) T
    · rw [if_pos c]
      exact Or.inr ⟨x, by simp, rfl⟩
    · rw [if_neg c]
      rcases h.1 i hi with q | ⟨z, hz, q⟩
      · exact Or.inl q
      · exact Or.inr ⟨z, by simp [hz], q⟩
  · rcases List.mem_append.mp hz with w | w
    · obtain ⟨t, a1, a2, a3⟩ := h.2.1 z w
      refine ⟨t, a1, ?_, fun t' ht' => ?_⟩
      · show (if sl_ (hs_ z) t = sl_ (hs_ x) T then nI (x + 1) else s (sl_ (hs_ z) t)) = _
        rw [if_neg (fun q => n1_ne (hG z w) (by rw [← a2, q, h0]))]
        exact a2
      · show (if sl_ (hs_ z) t' = sl_ (hs_ x) T then nI (x + 1) else s (sl_ (hs_ z) t')) ≠ 0
        by_cases c : sl_ (hs_ z) t' = sl_ (hs_ x) T
        · rw [if_pos c]; exact n1_ne hx
        · rw [if_neg c]; exact a3 t' ht'
    · rw [List.mem_singleton.mp w]
      refine ⟨T, hT, ?_, fun t' ht' => ?_⟩
      · show (if sl_ (hs_ x) T = sl_ (hs_ x) T then nI (x + 1) else _) = _
        rw [if_pos rfl]
      · show (if sl_ (hs_ x) t' = sl_ (hs_ x) T then nI (x + 1) else s (sl_ (hs_ x) t')) ≠ 0
        by_cases c : sl_ (hs_ x) t' = sl_ (hs_ x) T
        · rw [if_pos c]; exact n1_ne hx
        · rw [if_neg c]; exact h1 t' ht'
  · have := bu_upd (p := fun i => !decide (s i = 0)) (q := fun i => !decide ((if i = sl_ (hs_ x) T then nI (x + 1) else s i) = 0)) (k := sl_ (hs_ x) T) (fun i hi => by
      show (!decide ((if i = sl_ (hs_ x) T then nI (x + 1) else s i) = 0)) = (!decide (s i = 0))
      rw [if_neg hi]) (d := 1024) (j := 0)
    have h3 := h.2.2
    rw [if_pos (Nat.zero_le _)] at this
    rw [List.length_append, List.length_singleton]
    exact Nat.le_trans this (by omega)
/-! slotOf and include -/
theorem n_1023 (a : Nat) : nI a &&& 1023 = nI (a % 1024) := by
  rw [show (1023 : Int32) = nI 1023 from rfl, b_and, show (1023 : Nat) = 2 ^ 10 - 1 by rfl, Nat.and_two_pow_sub_one_eq_mod]
theorem x0_slotLoop {σ : js_S} {x T : Nat} (hl : lx_ σ.2.2) (hT : T < 1024) (h1 : ∀ t, t < T → σ.1 380 (sl_ (hs_ x) t) ≠ 0 ∧ σ.1 380 (sl_ (hs_ x) t) ≠ nI (x + 1)) (h2 : σ.1 380 (sl_ (hs_ x) T) = 0 ∨ σ.1 380 (sl_ (hs_ x) T) = nI (x + 1)) : ∀ (d t k : Nat), t + d = T → d < k → fX0_slotOf_10 5000 k 378 (nI x) (nI (sl_ (hs_ x) t)) (nI t) σ = some (nI (sl_ (hs_ x) T), σ) := by
  intro d
  induction d with
  | zero =>
    intro t k ht hk
    obtain ⟨k, rfl⟩ : ∃ j, k = j + 1 := ⟨k - 1, by omega⟩
    have e : t = T := by omega
    subst e
    have hs := sl_lt (h := hs_ x) (t := t)
    rw [sX0_slotOf_10]
    unfold fX0_slotOf_10b
    rw [if_neg (show ¬ (1024 : Int32) ≤ nI t from nle_f (a := 1024) (by omega) (by omega)), lx_378_1 hl, ln_380, if_pos (ib_t hs (by omega)), n_cl (by omega), n_s]
    rcases h2 with q | q
    · rw [if_pos q]
    · by_cases c : σ.1 380 (sl_ (hs_ x) t) = 0
      · rw [if_pos c]
      · rw [if_neg c, if_pos (ib_t hs (by omega)), if_pos q]
  | succ d ih =>
    intro t k ht hk
    obtain ⟨k, rfl⟩ : ∃ j, k = j + 1 := ⟨k - 1, by omega⟩
    have hs := sl_lt (h := hs_ x) (t := t)
    have hn := h1 t (by omega)
    have ih1 := ih (t + 1) k (by omega) (by omega)
    have e : (sl_ (hs_ x) t + 1) % 1024 = sl_ (hs_ x) (t + 1) := by unfold sl_; omega
    rw [sX0_slotOf_10]
    unfold fX0_slotOf_10b
    rw [if_neg (show ¬ (1024 : Int32) ≤ nI t from nle_f (a := 1024) (by omega) (by omega)), lx_378_1 hl, ln_380, if_pos (ib_t hs (by omega)), n_cl (by omega), n_s, if_neg hn.1, if_pos (ib_t hs (by omega)), if_neg hn.2, n_s, n_1023, e, n_s]
    exact ih1
/-- the class's closure so far -/
def xc2_ (σ : js_S) (G : List Nat) (tl : Bool) : Prop := σ.1 378 2 = nI G.length ∧ σ.1 378 5 = bi_ tl ∧ (∀ j, j < G.length → σ.1 379 j = nI (G.getD j 0)) ∧ ht_ (σ.1 380) G ∧ G.length ≤ 400 ∧ G.Nodup ∧ ∀ x, x ∈ G → gc_ x
def sK_ (a _b : Nat) : Prop := 378 ≤ a ∧ a ≤ 380
theorem getD_app {G : List Nat} {x j : Nat} (h : j < G.length) : (G ++ [x]).getD j 0 = G.getD j 0 := by
  rw [List.getD_eq_getElem?_getD, List.getD_eq_getElem?_getD, List.getElem?_append_left h]
theorem getD_last {G : List Nat} {x : Nat} : (G ++ [x]).getD G.length 0 = x := by
  rw [List.getD_eq_getElem?_getD, List.getElem?_append_right (Nat.le_refl _), Nat.sub_self]
  rfl
theorem x0_include {σ : js_S} {G : List Nat} {tl : Bool} {x : Nat} (hl : lx_ σ.2.2) (h : xc2_ σ G tl) (hx : gc_ x) : ∃ σ' G' tl', fX0_include 5000 378 (nI x) σ = some ((), σ') ∧ fw2_ sK_ (fun _ => False) σ σ' ∧ xc2_ σ' G' tl' ∧ ((x ∈ G ∧ G' = G ∧ tl' = tl) ∨ (x ∉ G ∧ G.length < 400 ∧ G' = G ++ [x] ∧ tl' = tl) ∨ (x ∉ G ∧ G.length = 400 ∧ G' = G ∧ tl' = true)) := by
  obtain ⟨c1, c2, c3, c4, c5, c6, c7⟩ := h
  have hG : ∀ z, z ∈ G → z < 4194304 := fun z hz => gc_lt (c7 z hz)
  have hx4 := gc_lt hx
  obtain ⟨T, t1, t2, t3, t4⟩ := ht_find c4 c5 hG hx4
  have hs := sl_lt (h := hs_ x) (t := T)
  have hslot : fX0_slotOf 5000 378 (nI x) σ = some (nI (sl_ (hs_ x) T), σ) := by
    unfold fX0_slotOf
    have e0 : sl_ (hs_ x) 0 = hs_ x := by
      have := hs_eq (x := x)
      unfold sl_
      omega
    rw [hs_eq.1]
    have := x0_slotLoop (σ := σ) (x := x) hl t1 t2 (by
      by_cases c : x ∈ G
      · exact Or.inr (t3 c)
      · exact Or.inl (t4 c)) T 0 5000 (by omega) (by omega)
    rw [e0] at this
    exact this
  unfold fX0_include fX0_include_36
  rw [hslot, bd_s, lx_378_1 hl, ln_380, if_pos (ib_t hs (by omega)), n_cl (by omega), n_s]
  by_cases c : x ∈ G
  · refine ⟨σ, G, tl, by rw [if_pos (t3 c)], fw2_rf, ⟨c1, c2, c3, c4, c5, c6, c7⟩, Or.inl ⟨c, rfl, rfl⟩⟩
  · have h0 := t4 c
    rw [if_neg (show ¬ σ.1 380 (sl_ (hs_ x) T) = nI (x + 1) from fun z => n1_ne hx4 (by rw [← z, h0])), c1, if_neg (nI_pos (by omega))]
    by_cases cl : G.length < 400
    · rw [if_pos (show nI G.length < (400 : Int32) from nlt_t (b := 400) cl (by omega)), if_pos (ib_t hs (by omega)), lt_s_]
      have e1 : (uI_ σ 380 (sl_ (hs_ x) T) (nI (x + 1))).1 378 2 = nI G.length := by rw [uI_ne (by omega)]; exact c1
      have l1 : lx_ (uI_ σ 380 (sl_ (hs_ x) T) (nI (x + 1))).2.2 := hl
      have e2 : (uI_ (uI_ σ 380 (sl_ (hs_ x) T) (nI (x + 1))) 379 G.length (nI x)).1 378 2 = nI G.length := by rw [uI_ne (by omega)]; exact e1
      refine ⟨uI_ (uI_ (uI_ σ 380 (sl_ (hs_ x) T) (nI (x + 1))) 379 G.length (nI x)) 378 2 (nI (G.length + 1)), G ++ [x], tl, ?_, fw2_tr (fw2_tr (fw2_u (by unfold sK_; omega)) (fw2_u (by unfold sK_; omega))) (fw2_u (by unfold sK_; omega)), ⟨?_, ?_, fun j hj => ?_, ?_, ?_, ?_, fun z hz => ?_⟩, Or.inr (Or.inl ⟨c, cl, rfl, rfl⟩)⟩
      · rw [e1, lx_378_0 l1, ln_379, if_pos (ib_t cl (by omega)), n_cl (by omega), lt_s_, e2, n_s, lt_s_]
      · rw [uI_same, List.length_append, List.length_singleton]
      · rw [uI_ne (by omega), uI_ne (by omega), uI_ne (by omega)]; exact c2
      · rw [List.length_append, List.length_singleton] at hj
        rw [uI_ne (by omega)]
        by_cases q : j = G.length
        · rw [q, uI_same, getD_last]
        · rw [uI_ne (by omega), uI_ne (by omega), getD_app (by omega)]
          exact c3 j (by omega)
      · have hp := ht_put c4 hG hx4 t1 (fun t ht => (t2 t ht).1) h0
        have er : (uI_ (uI_ (uI_ σ 380 (sl_ (hs_ x) T) (nI (x + 1))) 379 G.length (nI x)) 378 2 (nI (G.length + 1))).1 380 = fun i => if i = sl_ (hs_ x) T then nI (x + 1) else σ.1 380 i := by
          funext i
          rw [uI_ne (by omega), uI_ne (by omega)]
          by_cases q : i = sl_ (hs_ x) T
          · rw [q, uI_same, if_pos rfl]
          · rw [uI_ne (by omega), if_neg q]
        rw [er]
        exact hp
      · rw [List.length_append, List.length_singleton]; omega
      · rw [List.nodup_append]
        exact ⟨c6, by simp, fun a ha b hb => by rw [List.mem_singleton.mp hb]; exact fun z => c (z ▸ ha)⟩
      · rcases List.mem_append.mp hz with w | w
        · exact c7 z w
        · rw [List.mem_singleton.mp w]; exact hx
    · rw [if_neg (show ¬ nI G.length < (400 : Int32) from nlt_f (b := 400) (by omega) (by omega)), lt_s_]
      refine ⟨uI_ σ 378 5 1, G, true, rfl, fw2_u (by unfold sK_; omega), ⟨by rw [uI_ne (by omega)]; exact c1, uI_same, fun j hj => by rw [uI_ne (by omega)]; exact c3 j hj, by rw [uI_row (by omega)]; exact c4, c5, c6, c7⟩, Or.inr (Or.inr ⟨c, by omega, rfl, rfl⟩)⟩
