/-! the three calls of the closure -/
theorem x_clos {σ : js_S} {y : js_Y} {sn : Option js_Y} {tx : List Int32} (h : iv_ σ y sn tx) (hc : ch_ σ y) : ∃ σ1, fX11_currentClosure 5000 1 σ = some (378, σ1) ∧ iv_ σ1 y sn tx ∧ ch_ σ1 y ∧ P3_ σ1 y := by
  by_cases h13 : σ.1 1 13 = 0
  · obtain ⟨σ1, r1, a1, a2, a3, a4, a5⟩ := x_pairs h hc
    have lx := a1.1.1
    obtain ⟨σ2, r2, f2, q2⟩ := x0_rebuild a1.2.2.1 lx a3.1
    have fw : fw2_ (fun a b => (378 ≤ a ∧ a ≤ 380) ∨ (a = 1 ∧ b = 13)) (fun _ => False) σ1 (uI_ σ2 1 13 1) := fw2_tr (fw2_mono f2 (fun a b z => Or.inl z) (fun a z => z)) (fw2_u (Or.inr ⟨rfl, rfl⟩))
    have hrow : ∀ a, a ≠ 1 → ¬ (378 ≤ a ∧ a ≤ 380) → (uI_ σ2 1 13 1).1 a = σ1.1 a := fun a q1 q2 => fw2_row fw (fun b z => by omega)
    have hP : P3_ (uI_ σ2 1 13 1) y := P3_eq (σ := σ2) (uI_row (by omega)) rfl rfl q2
    refine ⟨uI_ σ2 1 13 1, ?_, iv_c fw (fun a b z => by omega) a1, ⟨fun q => ?_, fun q => ?_, fun _ => hP, fun q => ?_⟩, hP⟩
    · unfold fX11_currentClosure
      rw [if_pos h13, r1, bd_s, lx_1_12 h.1.1, r2, bd_s, lt_s_, show (uI_ σ2 1 13 1).2.2 1 12 = 378 by rw [fw.1]; exact lx_1_12 lx]
    · exact P1_eq (fun a q1 q2 => hrow a (by omega) (by omega)) (fw.2.2 371 (fun z => z)) rfl rfl a3
    · exact P2_eq (fun a q1 q2 => hrow a (by omega) (by omega)) rfl rfl (a2.2.1 (by rw [← fw.2.1 1 11 (by omega)]; exact q))
    · exact P4_eq (fun a q1 => hrow a (by omega) (by omega)) rfl rfl (a2.2.2.2 (by rw [← fw.2.1 1 15 (by omega)]; exact q))
  · refine ⟨σ, ?_, h, hc, hc.2.2.1 h13⟩
    unfold fX11_currentClosure
    rw [if_neg h13, lx_1_12 h.1.1]
/-- class and model have found the same, or both too much -/
theorem clos_same {σ1 : js_S} {y : js_Y} {G : List Nat} (h : P3_ σ1 y) (n1 : G.Nodup) (h4 : ∀ x, x ∈ G → ∃ k, cl2_ (gn_ y) k x) (h5 : G.length ≤ 400 → ∀ x k, cl2_ (gn_ y) k x → x ∈ G) : (G.length ≤ 400 ∧ σ1.1 378 5 = 0 ∧ σ1.1 378 2 = nI G.length ∧ σ1.1 378 3 = nI (G.countP id_) ∧ σ1.1 378 4 = nI (G.countP (fun x => id_ x && de2_ x))) ∨ (400 < G.length ∧ σ1.1 378 5 = 1) := by
  rcases h with ⟨a1, H, a2, a3, a4, a5, a6, a7⟩ | ⟨a1, H, a2, a3, a4⟩
  · have hle : G.length ≤ H.length := List.Nodup.length_le_of_subset n1 (fun x hx => (a3 x).mpr (h4 x hx))
    have hG : G.length ≤ 400 := by omega
    have hp : G.Perm H := (List.perm_ext_iff_of_nodup n1 a2).mpr (fun x => ⟨fun hx => (a3 x).mpr (h4 x hx), fun hx => by
      obtain ⟨k, hk⟩ := (a3 x).mp hx
      exact h5 hG x k hk⟩)
    exact Or.inl ⟨hG, a1, by rw [hp.length_eq]; exact a5, by rw [hp.countP_eq]; exact a6, by rw [hp.countP_eq]; exact a7⟩
  · refine Or.inr ⟨?_, a1⟩
    rcases Nat.lt_or_ge 400 G.length with q | q
    · exact q
    · have hle : H.length ≤ G.length := List.Nodup.length_le_of_subset a2 (fun x hx => by
        obtain ⟨k, hk⟩ := a3 x hx
        exact h5 q x k hk)
      omega
theorem op_closureSize {σ : js_S} {y : js_Y} {sn : Option js_Y} {tx : List Int32} (h : iv_ σ y sn tx) (hc : ch_ σ y) : ∃ r σ1 σ2, fX11_closureSize 5000 1 σ = some (r, σ1) ∧ fX12_closureSize 5000 390 σ1 = some (r, σ2) ∧ iv_ σ2 y sn tx ∧ ch_ σ2 y := by
  obtain ⟨σ1, r1, a1, a2, a3⟩ := x_clos h hc
  obtain ⟨σ2, G, r2, f2, c1, c2, c3, c4, c5, c6, c7⟩ := m_findClosure a1.2.2.1 (iv_ms a1) a1.2.1.2.2.2.2.2.2
  rcases clos_same a3 c3 c6 c7 with ⟨b0, b1, b2, b3, b4⟩ | ⟨b0, b1⟩
  · refine ⟨nI G.length, σ1, σ2, ?_, ?_, fin2_ a1 a2 f2⟩
    · unfold fX11_closureSize
      rw [r1, bd_s, b1, if_pos rfl, b2]
    · unfold fX12_closureSize
      rw [r2, bd_s, decide_eq_true b0, bi_t, if_neg (by decide), c1]
  · refine ⟨-8, σ1, σ2, ?_, ?_, fin2_ a1 a2 f2⟩
    · unfold fX11_closureSize
      rw [r1, bd_s, b1, if_neg (by decide)]
    · unfold fX12_closureSize
      rw [r2, bd_s, decide_eq_false (by omega), bi_f, if_pos rfl]
/-- the test of the model: idempotent -/
theorem m_mod4 {s t : Nat} (hs : s < 3) (ht : t < 3) : nI (3 * s + t) - nI (3 * s + t) / 4 * 4 = if s = t then 0 else nI ((3 * s + t) % 4) := by
  rw [show nI (3 * s + t) - nI (3 * s + t) / 4 * 4 = nI ((3 * s + t) % 4) from n_rem (b := 4) (by omega) (by omega)]
  by_cases c : s = t
  · rw [if_pos c, show (3 * s + t) % 4 = 0 by omega]
    rfl
  · rw [if_neg c]
theorem m_mod4z {s t : Nat} (hs : s < 3) (ht : t < 3) : (nI (3 * s + t) - nI (3 * s + t) / 4 * 4 = 0) ↔ s = t := by
  rw [m_mod4 hs ht]
  by_cases c : s = t
  · rw [if_pos c]
    exact ⟨fun _ => c, fun _ => rfl⟩
  · rw [if_neg c]
    exact ⟨fun z => absurd z (neq_f (b := 0) (by omega) (by omega) (by omega)), fun z => absurd z c⟩
theorem m_ic {G : List Nat} (hG : ∀ x, x ∈ G → gc_ x) (h401 : G.length ≤ 401) :
    ∀ (d i m : Nat) (σ : js_S), i + d = G.length → d < m → lm_ σ.2.2 → σ.1 390 29 = nI G.length → (∀ j, j < G.length → σ.1 409 j = nI (mc2_ (G.getD j 0))) → ∃ σ', fX12_idempotentCount_14 5000 m 390 (nI (bu_ (fun j => id_ (G.getD j 0)) i 0)) (nI i) σ = some (nI (bu_ (fun j => id_ (G.getD j 0)) G.length 0), σ') ∧ fi_ sQ_ σ σ' := by
  intro d
  induction d with
  | zero =>
    intro i m σ hi hm hl h29 h9
    obtain ⟨m, rfl⟩ : ∃ j, m = j + 1 := ⟨m - 1, by omega⟩
    refine ⟨σ, ?_, fi_rf⟩
    rw [sX12_idempotentCount_14]
    unfold fX12_idempotentCount_14b
    rw [h29, if_pos (nle_t (by omega) (by omega)), show i = G.length by omega]
  | succ d ih =>
    intro i m σ hi hm hl h29 h9
    obtain ⟨m, rfl⟩ : ∃ j, m = j + 1 := ⟨m - 1, by omega⟩
    have hin : i < G.length := by omega
    have gx := hG _ (getD_mem hin)
    have t1 := gc_fe gx (k := 9) (by omega)
    have t2 := gc_fe gx (k := 10) (by omega)
    have m1 := mc2_lt gx
    have m2 := mc2_lt (cx_gc gx gx)
    have next : ∀ σ1, fi_ sQ_ σ σ1 → ∀ r : Nat, r = (if id_ (G.getD i 0) = true then 1 else 0) → ∃ σ', fX12_idempotentCount_14 5000 m 390 (nI (bu_ (fun j => id_ (G.getD j 0)) i 0) + nI r) (nI (i + 1)) σ1 = some (nI (bu_ (fun j => id_ (G.getD j 0)) G.length 0), σ') ∧ fi_ sQ_ σ σ' := by
      intro σ1 f1 r hr
      obtain ⟨σ2, r2, f2⟩ := ih (i + 1) m σ1 (by omega) (by omega) (by rw [fi_r f1]; exact hl) (by rw [f1.2 390 (by unfold sQ_; omega)]; exact h29) (fun j hj => by rw [f1.2 409 (by unfold sQ_; omega)]; exact h9 j hj)
      refine ⟨σ2, ?_, fi_tr f1 f2 (fun a q => q) (fun a q => q)⟩
      rw [bu_1] at r2
      rw [n_add, hr]
      exact r2
    rw [sX12_idempotentCount_14]
    unfold fX12_idempotentCount_14b fX12_idempotentCount_66 fX12_idempotentCount_67
    rw [h29, if_neg (nle_f (by omega) (by omega)), lm_25 hl, ln_409, if_pos (ib_t (show i < 401 by omega) (by omega)), n_cl (by omega), h9 i hin, m_functions gx, bd_s, show nI i + 1 = nI (i + 1) from n_add i 1]
    by_cases c1 : fe_ (G.getD i 0) 9 = fe_ (G.getD i 0) 10
    · obtain ⟨σ1, r1, f1⟩ := m_compose hl gx gx
      rw [if_pos c1.symm] at r1
      have l1 : lm_ σ1.2.2 := by rw [fi_r f1]; exact hl
      have e9 : σ1.1 409 i = nI (mc2_ (G.getD i 0)) := by rw [f1.2 409 (by unfold sQ_; omega)]; exact h9 i hin
      rw [if_pos ((m_mod4z t1 t2).mpr c1), lm_25 hl, ln_409, if_pos (ib_t (show i < 401 by omega) (by omega)), if_pos (ib_t (show i < 401 by omega) (by omega)), h9 i hin, r1, bd_s, lm_25 l1, ln_409, if_pos (ib_t (show i < 401 by omega) (by omega)), e9]
      by_cases c2 : cx_ (G.getD i 0) (G.getD i 0) = G.getD i 0
      · rw [if_pos (by rw [c2])]
        exact next σ1 f1 1 (by rw [if_pos (show id_ (G.getD i 0) = true by unfold id_; rw [decide_eq_true c1, decide_eq_true c2]; rfl)])
      · rw [if_neg (neq_f (fun z => c2 (mc2_inj (cx_gc gx gx) gx z)) (by omega) (by omega))]
        exact next σ1 f1 0 (by rw [if_neg (show ¬ id_ (G.getD i 0) = true by unfold id_; rw [decide_eq_false c2, Bool.and_false]; exact Bool.false_ne_true)])
    · rw [if_neg (fun z => c1 ((m_mod4z t1 t2).mp z))]
      exact next σ fi_rf 0 (by rw [if_neg (show ¬ id_ (G.getD i 0) = true by unfold id_; rw [decide_eq_false c1, Bool.false_and]; exact Bool.false_ne_true)])
theorem fm_Q {σ σ' : js_S} (h : fi_ sQ_ σ σ') : fm_ σ σ' := fm_fi h (fun a b q z => q (by unfold sQ_ at z; unfold sM_; omega))
theorem op_idempotentCount {σ : js_S} {y : js_Y} {sn : Option js_Y} {tx : List Int32} (h : iv_ σ y sn tx) (hc : ch_ σ y) : ∃ r σ1 σ2, fX11_idempotentCount 5000 1 σ = some (r, σ1) ∧ fX12_idempotentCount 5000 390 σ1 = some (r, σ2) ∧ iv_ σ2 y sn tx ∧ ch_ σ2 y := by
  obtain ⟨σ1, r1, a1, a2, a3⟩ := x_clos h hc
  obtain ⟨σ2, G, r2, f2, c1, c2, c3, c4, c5, c6, c7⟩ := m_findClosure a1.2.2.1 (iv_ms a1) a1.2.1.2.2.2.2.2.2
  have l2 : lm_ σ2.2.2 := (ms_fm f2 (iv_ms a1)).1
  rcases clos_same a3 c3 c6 c7 with ⟨b0, b1, b2, b3, b4⟩ | ⟨b0, b1⟩
  · obtain ⟨σ3, r3, f3⟩ := m_ic c5 c4 G.length 0 5000 σ2 (by omega) (by omega) l2 c1 c2
    refine ⟨nI (G.countP id_), σ1, σ3, ?_, ?_, fin2_ a1 a2 (fm_tr f2 (fm_Q f3))⟩
    · unfold fX11_idempotentCount
      rw [r1, bd_s, b1, if_pos rfl, b3]
    · unfold fX12_idempotentCount
      rw [r2, bd_s, decide_eq_true b0, bi_t, if_neg (by decide), show fX12_idempotentCount_14 5000 5000 390 0 0 σ2 = _ from r3, bu_countP]
  · refine ⟨-8, σ1, σ2, ?_, ?_, fin2_ a1 a2 f2⟩
    · unfold fX11_idempotentCount
      rw [r1, bd_s, b1, if_neg (by decide)]
    · unfold fX12_idempotentCount
      rw [r2, bd_s, decide_eq_false (by omega), bi_f, if_pos rfl]
theorem m_tc {G : List Nat} (hG : ∀ x, x ∈ G → gc_ x) (h401 : G.length ≤ 401) :
    ∀ (d i m : Nat) (σ : js_S), i + d = G.length → d < m → lm_ σ.2.2 → σ.1 390 29 = nI G.length → (∀ j, j < G.length → σ.1 409 j = nI (mc2_ (G.getD j 0))) → ∃ σ', fX12_terminatesBySizeChange_14 5000 m 390 (bi_ (decide (bu_ (fun j => id_ (G.getD j 0)) i 0 = bu_ (fun j => id_ (G.getD j 0) && de2_ (G.getD j 0)) i 0))) (nI i) σ = some (bi_ (decide (bu_ (fun j => id_ (G.getD j 0)) G.length 0 = bu_ (fun j => id_ (G.getD j 0) && de2_ (G.getD j 0)) G.length 0)), σ') ∧ fi_ sQ_ σ σ' := by
  intro d
  induction d with
  | zero =>
    intro i m σ hi hm hl h29 h9
    obtain ⟨m, rfl⟩ : ∃ j, m = j + 1 := ⟨m - 1, by omega⟩
    refine ⟨σ, ?_, fi_rf⟩
    rw [sX12_terminatesBySizeChange_14]
    unfold fX12_terminatesBySizeChange_14b
    rw [h29, if_pos (nle_t (by omega) (by omega)), show i = G.length by omega, bi_ite]
  | succ d ih =>
    intro i m σ hi hm hl h29 h9
    obtain ⟨m, rfl⟩ : ∃ j, m = j + 1 := ⟨m - 1, by omega⟩
    have hin : i < G.length := by omega
    have gx := hG _ (getD_mem hin)
    have t1 := gc_fe gx (k := 9) (by omega)
    have t2 := gc_fe gx (k := 10) (by omega)
    have u0 := gc_fe gx (k := 0) (by omega)
    have u4 := gc_fe gx (k := 4) (by omega)
    have u8 := gc_fe gx (k := 8) (by omega)
    have m1 := mc2_lt gx
    have m2 := mc2_lt (cx_gc gx gx)
    have hmono := bu_mono (p := fun j => id_ (G.getD j 0) && de2_ (G.getD j 0)) (q := fun j => id_ (G.getD j 0)) (fun k z => by simp only [Bool.and_eq_true] at z; exact z.1) (d := i) (i := 0)
    have next : ∀ σ1, fi_ sQ_ σ σ1 → ∀ b : Bool, b = decide (bu_ (fun j => id_ (G.getD j 0)) (i + 1) 0 = bu_ (fun j => id_ (G.getD j 0) && de2_ (G.getD j 0)) (i + 1) 0) → ∃ σ', fX12_terminatesBySizeChange_14 5000 m 390 (bi_ b) (nI (i + 1)) σ1 = some (bi_ (decide (bu_ (fun j => id_ (G.getD j 0)) G.length 0 = bu_ (fun j => id_ (G.getD j 0) && de2_ (G.getD j 0)) G.length 0)), σ') ∧ fi_ sQ_ σ σ' := by
      intro σ1 f1 b hb
      obtain ⟨σ2, r2, f2⟩ := ih (i + 1) m σ1 (by omega) (by omega) (by rw [fi_r f1]; exact hl) (by rw [f1.2 390 (by unfold sQ_; omega)]; exact h29) (fun j hj => by rw [f1.2 409 (by unfold sQ_; omega)]; exact h9 j hj)
      refine ⟨σ2, ?_, fi_tr f1 f2 (fun a q => q) (fun a q => q)⟩
      rw [hb]
      exact r2
    have same : id_ (G.getD i 0) = false → decide (bu_ (fun j => id_ (G.getD j 0)) i 0 = bu_ (fun j => id_ (G.getD j 0) && de2_ (G.getD j 0)) i 0) = decide (bu_ (fun j => id_ (G.getD j 0)) (i + 1) 0 = bu_ (fun j => id_ (G.getD j 0) && de2_ (G.getD j 0)) (i + 1) 0) := by
      intro hs
      rw [bu_1, bu_1, if_neg (show ¬ id_ (G.getD i 0) = true by rw [hs]; exact Bool.false_ne_true), if_neg (show ¬ (id_ (G.getD i 0) && de2_ (G.getD i 0)) = true by rw [hs]; exact Bool.false_ne_true), Nat.add_zero, Nat.add_zero]
    rw [sX12_terminatesBySizeChange_14]
    unfold fX12_terminatesBySizeChange_14b fX12_terminatesBySizeChange_106 fX12_terminatesBySizeChange_111 fX12_terminatesBySizeChange_113
    rw [h29, if_neg (nle_f (by omega) (by omega)), lm_25 hl, ln_409, if_pos (ib_t (show i < 401 by omega) (by omega)), n_cl (by omega), h9 i hin, m_functions gx, bd_s, n_s]
    by_cases c1 : fe_ (G.getD i 0) 9 = fe_ (G.getD i 0) 10
    · obtain ⟨σ1, r1, f1⟩ := m_compose hl gx gx
      rw [if_pos c1.symm] at r1
      have l1 : lm_ σ1.2.2 := by rw [fi_r f1]; exact hl
      have e9 : σ1.1 409 i = nI (mc2_ (G.getD i 0)) := by rw [f1.2 409 (by unfold sQ_; omega)]; exact h9 i hin
      rw [if_pos ((m_mod4z t1 t2).mpr c1), lm_25 hl, ln_409, if_pos (ib_t (show i < 401 by omega) (by omega)), if_pos (ib_t (show i < 401 by omega) (by omega)), h9 i hin, r1, bd_s, lm_25 l1, ln_409, if_pos (ib_t (show i < 401 by omega) (by omega)), e9]
      by_cases c2 : cx_ (G.getD i 0) (G.getD i 0) = G.getD i 0
      · have hid : id_ (G.getD i 0) = true := by unfold id_; rw [decide_eq_true c1, decide_eq_true c2]; rfl
        obtain ⟨σ2, r2, f2, q2⟩ := m_decode (σ := σ1) gx ln_410
        have l2 : lm_ σ2.2.2 := by rw [fi_r f2]; exact l1
        have f12 : fi_ sQ_ σ σ2 := fi_tr f1 f2 (fun a q => q) (fun a q => by unfold sQ_ at q; omega)
        have d0 : σ2.1 410 (Int32.toNatClampNeg 0) = nI (fe_ (G.getD i 0) 0) := q2 0 (by omega)
        have d4 : σ2.1 410 (Int32.toNatClampNeg 4) = nI (fe_ (G.getD i 0) 4) := q2 4 (by omega)
        have d8 : σ2.1 410 (Int32.toNatClampNeg 8) = nI (fe_ (G.getD i 0) 8) := q2 8 (by omega)
        have yes : de2_ (G.getD i 0) = true → ∃ σ', fX12_terminatesBySizeChange_14 5000 m 390 (bi_ (decide (bu_ (fun j => id_ (G.getD j 0)) i 0 = bu_ (fun j => id_ (G.getD j 0) && de2_ (G.getD j 0)) i 0)) &&& 1) (nI (i + 1)) σ2 = some (bi_ (decide (bu_ (fun j => id_ (G.getD j 0)) G.length 0 = bu_ (fun j => id_ (G.getD j 0) && de2_ (G.getD j 0)) G.length 0)), σ') ∧ fi_ sQ_ σ σ' := by
          intro hde
          rw [show bi_ (decide (bu_ (fun j => id_ (G.getD j 0)) i 0 = bu_ (fun j => id_ (G.getD j 0) && de2_ (G.getD j 0)) i 0)) &&& 1 = bi_ (decide (bu_ (fun j => id_ (G.getD j 0)) i 0 = bu_ (fun j => id_ (G.getD j 0) && de2_ (G.getD j 0)) i 0) && true) from bi_and _ true, Bool.and_true]
          refine next σ2 f12 _ ?_
          rw [bu_1, bu_1, if_pos hid, if_pos (show (id_ (G.getD i 0) && de2_ (G.getD i 0)) = true by rw [hid, hde]; rfl)]
          by_cases c : bu_ (fun j => id_ (G.getD j 0)) i 0 = bu_ (fun j => id_ (G.getD j 0) && de2_ (G.getD j 0)) i 0
          · rw [decide_eq_true c, decide_eq_true (by omega)]
          · rw [decide_eq_false c, decide_eq_false (by omega)]
        rw [if_pos (by rw [c2]), if_pos (ib_t (show i < 401 by omega) (by omega)), lm_26 l1, r2, bd_s, lm_26 l2, ln_410, d0, d4, d8, if_pos (show ib_ 0 9 = true from by decide)]
        by_cases z0 : fe_ (G.getD i 0) 0 = 2
        · rw [if_pos (show nI (fe_ (G.getD i 0) 0) = 2 by rw [z0]; rfl)]
          exact yes (by unfold de2_; rw [decide_eq_true z0]; rfl)
        · rw [if_neg (show ¬ nI (fe_ (G.getD i 0) 0) = 2 from neq_f (b := 2) z0 (by omega) (by omega)), if_pos (show ib_ 4 9 = true from by decide)]
          by_cases z4 : fe_ (G.getD i 0) 4 = 2
          · rw [if_pos (show nI (fe_ (G.getD i 0) 4) = 2 by rw [z4]; rfl)]
            exact yes (by unfold de2_; rw [decide_eq_true z4, Bool.true_or, Bool.or_true])
          · rw [if_neg (show ¬ nI (fe_ (G.getD i 0) 4) = 2 from neq_f (b := 2) z4 (by omega) (by omega)), if_pos (show ib_ 8 9 = true from by decide)]
            by_cases z8 : fe_ (G.getD i 0) 8 = 2
            · rw [if_pos (show nI (fe_ (G.getD i 0) 8) = 2 by rw [z8]; rfl)]
              exact yes (by unfold de2_; rw [decide_eq_true z8, Bool.or_true, Bool.or_true])
            · rw [if_neg (show ¬ nI (fe_ (G.getD i 0) 8) = 2 from neq_f (b := 2) z8 (by omega) (by omega)), show bi_ (decide (bu_ (fun j => id_ (G.getD j 0)) i 0 = bu_ (fun j => id_ (G.getD j 0) && de2_ (G.getD j 0)) i 0)) &&& 0 = bi_ (decide (bu_ (fun j => id_ (G.getD j 0)) i 0 = bu_ (fun j => id_ (G.getD j 0) && de2_ (G.getD j 0)) i 0) && false) from bi_and _ false, Bool.and_false]
              refine next σ2 f12 false ?_
              have hde : de2_ (G.getD i 0) = false := by unfold de2_; rw [decide_eq_false z0, decide_eq_false z4, decide_eq_false z8]; rfl
              rw [bu_1, bu_1, if_pos hid, if_neg (show ¬ (id_ (G.getD i 0) && de2_ (G.getD i 0)) = true by rw [hde, Bool.and_false]; exact Bool.false_ne_true), decide_eq_false (by omega)]
      · rw [if_neg (neq_f (fun z => c2 (mc2_inj (cx_gc gx gx) gx z)) (by omega) (by omega))]
        exact next σ1 f1 _ (same (by unfold id_; rw [decide_eq_false c2, Bool.and_false]))
    · rw [if_neg (fun z => c1 ((m_mod4z t1 t2).mp z))]
      exact next σ fi_rf _ (same (by unfold id_; rw [decide_eq_false c1, Bool.false_and]))
theorem op_terminatesBySizeChange {σ : js_S} {y : js_Y} {sn : Option js_Y} {tx : List Int32} (h : iv_ σ y sn tx) (hc : ch_ σ y) : ∃ r σ1 σ2, fX11_terminatesBySizeChange 5000 1 σ = some (r, σ1) ∧ fX12_terminatesBySizeChange 5000 390 σ1 = some (r, σ2) ∧ iv_ σ2 y sn tx ∧ ch_ σ2 y := by
  obtain ⟨σ1, r1, a1, a2, a3⟩ := x_clos h hc
  obtain ⟨σ2, G, r2, f2, c1, c2, c3, c4, c5, c6, c7⟩ := m_findClosure a1.2.2.1 (iv_ms a1) a1.2.1.2.2.2.2.2.2
  have l2 : lm_ σ2.2.2 := (ms_fm f2 (iv_ms a1)).1
  rcases clos_same a3 c3 c6 c7 with ⟨b0, b1, b2, b3, b4⟩ | ⟨b0, b1⟩
  · obtain ⟨σ3, r3, f3⟩ := m_tc c5 c4 G.length 0 5000 σ2 (by omega) (by omega) l2 c1 c2
    have h1 := List.countP_le_length (p := id_) (l := G)
    have h2 := List.countP_le_length (p := fun x => id_ x && de2_ x) (l := G)
    refine ⟨bi_ (decide (G.countP id_ = G.countP (fun x => id_ x && de2_ x))), σ1, σ3, ?_, ?_, fin2_ a1 a2 (fm_tr f2 (fm_Q f3))⟩
    · unfold fX11_terminatesBySizeChange
      rw [r1, bd_s, b1, if_pos rfl, b3, b4]
      by_cases c : G.countP id_ = G.countP (fun x => id_ x && de2_ x)
      · rw [if_pos (by rw [c]), decide_eq_true c]
        rfl
      · rw [if_neg (neq_f c (by omega) (by omega)), decide_eq_false c]
        rfl
    · unfold fX12_terminatesBySizeChange
      rw [r2, bd_s, decide_eq_true b0, bi_t, if_neg (by decide), show fX12_terminatesBySizeChange_14 5000 5000 390 1 0 σ2 = _ from r3, bu_countP, bu_countP (p := fun x => id_ x && de2_ x)]
  · refine ⟨-8, σ1, σ2, ?_, ?_, fin2_ a1 a2 f2⟩
    · unfold fX11_terminatesBySizeChange
      rw [r1, bd_s, b1, if_neg (by decide)]
    · unfold fX12_terminatesBySizeChange
      rw [r2, bd_s, decide_eq_false (by omega), bi_f, if_pos rfl]
