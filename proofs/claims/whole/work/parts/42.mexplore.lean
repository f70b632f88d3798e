/-! the model explores -/
theorem ac_map {P : js_F} {j : Nat} (h : j < P.length) : ac_ (P.map Prod.fst) j = (ka_ P j).1 := by
  unfold ac_ ka_
  rw [List.getD_eq_getElem?_getD, List.getD_eq_getElem?_getD, List.getElem?_map, List.getElem?_eq_getElem h]
  rfl
theorem ka_mem {P : js_F} {j : Nat} (h : j < P.length) : ka_ P j ∈ P := by
  unfold ka_
  rw [List.getD_eq_getElem?_getD, List.getElem?_eq_getElem h]
  exact List.getElem_mem h
theorem mem_ka {P : js_F} {p : List Int32 × Bool} (h : p ∈ P) : ∃ j, j < P.length ∧ ka_ P j = p := by
  obtain ⟨k, hk, e⟩ := List.getElem_of_mem h
  refine ⟨k, hk, ?_⟩
  unfold ka_
  rw [List.getD_eq_getElem?_getD, List.getElem?_eq_getElem hk]
  exact e
def mp_ (σ : js_S) (P : js_F) : Prop := mm_ σ (P.map Prod.fst) ∧ ∀ j, j < P.length → σ.1 419 j = bi_ (ka_ P j).2
theorem mp_fi {S : Nat → Prop} {σ σ' : js_S} {P : js_F} (h : fi_ S σ σ') (h1 : ¬ S 390) (h2 : ¬ S 418) (h3 : ¬ S 419) (hm : mp_ σ P) : mp_ σ' P := ⟨mm_fi h h1 h2 hm.1, fun j hj => by rw [h.2 419 h3]; exact hm.2 j hj⟩
theorem mp_n {σ : js_S} {P : js_F} (h : mp_ σ P) : σ.1 390 38 = nI P.length := by
  have := h.1.1
  rw [List.length_map] at this
  exact this
theorem mp_row {σ : js_S} {P : js_F} (h : mp_ σ P) {j : Nat} (hj : j < P.length) : rw_ σ 418 (96 * j) (ka_ P j).1 := by
  have := h.1.2 j (by rw [List.length_map]; exact hj)
  rw [ac_map hj] at this
  exact this
/-- two of the model's terms compared -/
theorem m_cmp2 {σ : js_S} {a : Nat → Nat} {P : js_F} {i j : Nat} (hm : mp_ σ P) (hn : P.length ≤ 1201) (g : ∀ q, q ∈ P → gt_ a q.1) (hi : i < P.length) (hj : j < P.length) : ∃ v, fX12_compare 5000 418 (nI (96 * i)) 418 (nI (96 * j)) σ = some (v, σ) ∧ sgn_ v (cmp_ (ka_ P i).1 (ka_ P j).1) := by
  have g1 := g _ (ka_mem hi)
  have g2 := g _ (ka_mem hj)
  have l1 := g1.2
  have l2 := g2.2
  exact m_compare (by rw [ln_418]; omega) (by rw [ln_418]; omega) (by rw [ln_418]; omega) (by rw [ln_418]; omega) (mp_row hm hi) (mp_row hm hj) (gt_sym g1) (gt_sym g2) (by omega) (by omega)
/-- the best index so far among those that satisfy Q -/
def bs_ (P : js_F) (Q : List Int32 × Bool → Bool) (j : Nat) (x : Int32) : Prop := (x = -5 ∧ ∀ i, i < j → ¬ Q (ka_ P i) = true) ∨ ∃ b, b < j ∧ x = nI b ∧ Q (ka_ P b) = true ∧ ∀ i, i < j → Q (ka_ P i) = true → ¬ tl_ (ka_ P i).1 (ka_ P b).1
theorem bs_skip {P : js_F} {Q : List Int32 × Bool → Bool} {j : Nat} {x : Int32} (h : bs_ P Q j x) (hq : ¬ Q (ka_ P j) = true) : bs_ P Q (j + 1) x := by
  rcases h with ⟨h1, h2⟩ | ⟨b, h1, h2, h3, h4⟩
  · refine Or.inl ⟨h1, fun i hi => ?_⟩
    by_cases c : i = j
    · rw [c]; exact hq
    · exact h2 i (by omega)
  · refine Or.inr ⟨b, by omega, h2, h3, fun i hi => ?_⟩
    by_cases c : i = j
    · rw [c]; exact fun w => absurd w hq
    · exact h4 i (by omega)
theorem bs_first {P : js_F} {Q : List Int32 × Bool → Bool} {j : Nat} (h : bs_ P Q j (-5)) (hq : Q (ka_ P j) = true) (hj : j < 2147483648) : bs_ P Q (j + 1) (nI j) := by
  rcases h with ⟨h1, h2⟩ | ⟨b, h1, h2, h3, h4⟩
  · refine Or.inr ⟨j, by omega, rfl, hq, fun i hi => ?_⟩
    by_cases c : i = j
    · rw [c]; exact fun _ => tl_ir
    · exact fun w => absurd w (h2 i (by omega))
  · exact absurd (show nI b < 0 from by rw [← h2]; decide) (nI_pos (by omega))
theorem bs_keep {P : js_F} {Q : List Int32 × Bool → Bool} {j b : Nat} (h : bs_ P Q j (nI b)) (hb2 : b < j) (hj : j < 2147483648) (hc : ¬ tl_ (ka_ P j).1 (ka_ P b).1) : bs_ P Q (j + 1) (nI b) := by
  rcases h with ⟨h1, h2⟩ | ⟨b', h1, h2, h3, h4⟩
  · exact absurd (show nI b < 0 from by rw [h1]; decide) (nI_pos (by omega))
  · have : b = b' := (n_eq (by omega) (by omega)).mp h2
    subst this
    refine Or.inr ⟨b, by omega, rfl, h3, fun i hi => ?_⟩
    by_cases c : i = j
    · rw [c]; exact fun _ => hc
    · exact h4 i (by omega)
theorem bs_new {P : js_F} {Q : List Int32 × Bool → Bool} {j b : Nat} (h : bs_ P Q j (nI b)) (hb2 : b < j) (hj : j < 2147483648) (hq : Q (ka_ P j) = true) (hc : tl_ (ka_ P j).1 (ka_ P b).1) : bs_ P Q (j + 1) (nI j) := by
  rcases h with ⟨h1, h2⟩ | ⟨b', h1, h2, h3, h4⟩
  · exact absurd (show nI b < 0 from by rw [h1]; decide) (nI_pos (by omega))
  · have : b = b' := (n_eq (by omega) (by omega)).mp h2
    subst this
    refine Or.inr ⟨j, by omega, rfl, hq, fun i hi => ?_⟩
    by_cases c : i = j
    · rw [c]; exact fun _ => tl_ir
    · exact fun w z => h4 i (by omega) w (tl_tr z hc)
theorem bs_cases {P : js_F} {Q : List Int32 × Bool → Bool} {j : Nat} {x : Int32} (h : bs_ P Q j x) : x = -5 ∨ ∃ b, b < j ∧ x = nI b := h.elim (fun w => Or.inl w.1) (fun ⟨b, h1, h2, _⟩ => Or.inr ⟨b, h1, h2⟩)
theorem m_lu {σ : js_S} {a : Nat → Nat} {P : js_F} (hl : lm_ σ.2.2) (hn : P.length ≤ 1201) (g : ∀ q, q ∈ P → gt_ a q.1) (hm : mp_ σ P) :
    ∀ (d j k : Nat) (x : Int32), j + d = P.length → d < k → bs_ P (fun q => !q.2) j x → ∃ r, fX12_lowestUnexpanded_5 5000 k 390 x (nI j) σ = some (r, σ) ∧ bs_ P (fun q => !q.2) P.length r := by
  intro d
  induction d with
  | zero =>
    intro j k x hj hk hb
    obtain ⟨k, rfl⟩ : ∃ j, k = j + 1 := ⟨k - 1, by omega⟩
    refine ⟨x, ?_, by rw [show P.length = j by omega]; exact hb⟩
    rw [sX12_lowestUnexpanded_5]
    unfold fX12_lowestUnexpanded_5b
    rw [mp_n hm, if_pos ((n_le (by omega) (by omega)).mpr (by omega))]
  | succ d ih =>
    intro j k x hj hk hb
    obtain ⟨k, rfl⟩ : ∃ j, k = j + 1 := ⟨k - 1, by omega⟩
    rw [sX12_lowestUnexpanded_5]
    unfold fX12_lowestUnexpanded_5b fX12_lowestUnexpanded_48 fX12_lowestUnexpanded_50
    rw [mp_n hm, if_neg (fun z => by have := (n_le (by omega) (by omega)).mp z; omega), lm_37 hl, ln_419, n_ib (by omega), if_pos (by simp; omega), n_cl (by omega), hm.2 j (by omega), show nI j + 1 = nI (j + 1) from n_add j 1]
    by_cases c : (ka_ P j).2 = true
    · rw [c, bi_t, if_neg (by decide)]
      exact ih (j + 1) k x (by omega) (by omega) (bs_skip hb (by show ¬ (!(ka_ P j).2) = true; rw [c]; decide))
    · have cf : (ka_ P j).2 = false := by simpa using c
      have hq : (fun q : List Int32 × Bool => !q.2) (ka_ P j) = true := by show (!(ka_ P j).2) = true; rw [cf]; rfl
      rw [cf, bi_f, if_pos rfl]
      rcases bs_cases hb with e | ⟨b, hbj, e⟩
      · subst e
        rw [if_pos (by decide)]
        exact ih (j + 1) k _ (by omega) (by omega) (bs_first hb hq (by omega))
      · subst e
        obtain ⟨v, r1, s1⟩ := m_cmp2 hm hn g (i := j) (j := b) (by omega) (by omega)
        rw [if_neg (nI_pos (by omega)), lm_36 hl, n_96, n_96, r1, bd_s]
        by_cases cc : tl_ (ka_ P j).1 (ka_ P b).1
        · rw [if_neg (fun z => absurd (s1.2.mpr (cmp_tl.mpr cc)) (Int32.not_lt.mpr z))]
          exact ih (j + 1) k _ (by omega) (by omega) (bs_new hb hbj (by omega) hq cc)
        · rw [if_pos (Int32.not_lt.mp (fun z => cc (cmp_tl.mp (s1.2.mp z))))]
          exact ih (j + 1) k _ (by omega) (by omega) (bs_keep hb hbj (by omega) cc)
theorem so_app : ∀ {A B : js_F}, so_ (A ++ B) → ∀ p q, p ∈ A → q ∈ B → tl_ p.1 q.1
  | [], B, _, p, q, hp, _ => by cases hp
  | x :: A, B, h, p, q, hp, hq => by
    rcases List.mem_cons.mp hp with e | e
    · rw [e]; exact h.1 q (List.mem_append.mpr (Or.inr hq))
    · exact so_app h.2 p q e hq
theorem so_suf : ∀ {A B : js_F}, so_ (A ++ B) → so_ B
  | [], B, h => h
  | x :: A, B, h => so_suf h.2
/-- the model's pick is the first unmarked one -/
theorem lu_pick {F P : js_F} {r : Int32} (hs : so_ F) (hp : List.Perm F P) (hb : bs_ P (fun q => !q.2) P.length r) : (mk_ F = none → r = -5) ∧ ∀ q, mk_ F = some q → ∃ b, b < P.length ∧ r = nI b ∧ ka_ P b = (q.1, false) := by
  refine ⟨fun h => ?_, fun q h => ?_⟩
  · rcases hb with ⟨h1, -⟩ | ⟨b, h1, h2, h3, -⟩
    · exact h1
    · have := mk_n h _ (hp.mem_iff.mpr (ka_mem h1))
      have h3' : (!(ka_ P b).2) = true := h3
      rw [this] at h3'
      exact absurd h3' (by decide)
  · obtain ⟨A, B, e1, e2, e3, e4⟩ := mk_s (t := q.1) (F' := q.2) h
    have hin : (q.1, false) ∈ P := hp.mem_iff.mp (by rw [e1]; exact List.mem_append.mpr (Or.inr List.mem_cons_self))
    obtain ⟨i, hi, ei⟩ := mem_ka hin
    rcases hb with ⟨h1, h2⟩ | ⟨b, h1, h2, h3, h4⟩
    · exact absurd (by show (!(ka_ P i).2) = true; rw [ei]; rfl) (h2 i hi)
    · refine ⟨b, h1, h2, ?_⟩
      have hbF : ka_ P b ∈ F := hp.mem_iff.mpr (ka_mem h1)
      have hbf : (ka_ P b).2 = false := by
        have h3' : (!(ka_ P b).2) = true := h3
        cases hh : (ka_ P b).2 with
        | false => rfl
        | true => rw [hh] at h3'; exact absurd h3' (by decide)
      have hmin := h4 i hi (by show (!(ka_ P i).2) = true; rw [ei]; rfl)
      rw [ei] at hmin
      rw [e1] at hbF hs
      rcases List.mem_append.mp hbF with w | w
      · exact absurd (e3 _ w) (by rw [hbf]; decide)
      · rcases List.mem_cons.mp w with z | z
        · exact z
        · have := so_suf hs
          exact absurd (this.1 _ z) hmin
/-- the model at a state of the exploration -/
def me_ (σ : js_S) (s : js_E) (P : js_F) : Prop := mp_ σ P ∧ List.Perm s.1 P ∧ σ.1 390 39 = nI s.2.1 ∧ (0 < s.2.1 → ∃ b, b < P.length ∧ σ.1 390 40 = nI b ∧ (ka_ P b).1 = s.2.2.2.1)
theorem ka_push {P : js_F} {x : List Int32 × Bool} {j : Nat} (h : j < P.length) : ka_ (P ++ [x]) j = ka_ P j := by
  unfold ka_
  rw [List.getD_eq_getElem?_getD, List.getD_eq_getElem?_getD, List.getElem?_append_left h]
theorem ka_last {P : js_F} {x : List Int32 × Bool} : ka_ (P ++ [x]) P.length = x := by
  unfold ka_
  rw [List.getD_eq_getElem?_getD, List.getElem?_append_right (Nat.le_refl _), Nat.sub_self]
  rfl
theorem m_ex61 {y : js_Y} {t : List Int32} {lim : Int32} {b : Nat} {rc : Nat → Int32 → Int32 → js_S → Option (Unit × js_S)} (g : gy_ y) (gt : gt_ y.1 t) :
    ∀ (d e k : Nat) (σ : js_S) (F P : js_F), e + d = t.length → d < k → ms_ σ y → mp_ σ P → List.Perm F P → so_ F → (∀ q, q ∈ F → gt_ y.1 q.1) → b < P.length → ka_ P b = (t, true) → P.length + d ≤ 1201 → ∃ σ' P', fX12_explore_61 5000 rc k 390 lim (nI b) (nI e) σ = (bd_ (fX12_lowestUnexpanded 5000 390 σ') fun r4 σ4 => rc 390 lim r4 σ4) ∧ fm_ σ σ' ∧ mp_ σ' P' ∧ List.Perm (ed_ y t d e F) P' ∧ P'.length ≤ P.length + d ∧ b < P'.length ∧ ka_ P' b = (t, true) ∧ σ'.1 390 39 = σ.1 390 39 ∧ σ'.1 390 40 = σ.1 390 40 := by
  have t40 := gt.2
  intro d
  induction d with
  | zero =>
    intro e k σ F P he hk hm hp hpm hs hg hb hkb hn
    obtain ⟨k, rfl⟩ : ∃ j, k = j + 1 := ⟨k - 1, by omega⟩
    refine ⟨σ, P, ?_, fm_rf, hp, hpm, Nat.le_refl _, hb, hkb, rfl, rfl⟩
    have hr : rw_ σ 418 (96 * b) t := by
      have hr := mp_row hp hb
      rw [hkb] at hr
      exact hr
    rw [sX12_explore_61]
    unfold fX12_explore_61b
    rw [lm_36 hm.1, n_96, ln_418, n_ib (by omega), if_pos (by simp; omega), n_cl (by omega), hr.1, if_pos ((n_le (by omega) (by omega)).mpr (by omega))]
  | succ d ih =>
    intro e k σ F P he hk hm hp hpm hs hg hb hkb hn
    obtain ⟨k, rfl⟩ : ∃ j, k = j + 1 := ⟨k - 1, by omega⟩
    have hr : rw_ σ 418 (96 * b) t := by
      have hr := mp_row hp hb
      rw [hkb] at hr
      exact hr
    obtain ⟨σ1, r1, f1, u1⟩ := m_rewrite (o := 418) (p := 96 * b) (e := e) g gt (by omega) (by omega) (by rw [ln_418]; omega) (by rw [ln_418]; omega) hm hr
    have hm1 := ms_fi f1 (fun a q => by omega) hm
    have hp1 := mp_fi f1 (by omega) (by omega) (by omega) hp
    rw [sX12_explore_61, ed_s]
    unfold fX12_explore_61b fX12_explore_108
    rw [lm_36 hm.1, n_96, ln_418, n_ib (by omega), if_pos (by simp; omega), n_cl (by omega), hr.1, if_neg (fun z => by have := (n_le (by omega) (by omega)).mp z; omega), r1, bd_s, show nI e + 1 = nI (e + 1) from n_add e 1]
    cases hsk : sk2_ (sp_ y t e) with
    | none =>
      have cneg : sr_ (sp_ y t e) ≤ 0 := by
        rcases sk2_r hsk with q | q
        · rw [q]; decide
        · rw [q]; decide
      obtain ⟨σ2, P2, r2, f2, a1, a2, a3, a4, a5, a6, a7⟩ := ih (e + 1) k σ1 F P (by omega) (by omega) hm1 hp1 hpm hs hg hb hkb (by omega)
      exact ⟨σ2, P2, by rw [if_pos cneg, r2], fm_tr (fm99 f1) f2, a1, a2, by omega, a4, a5, by rw [a6, f1.2 390 (by omega)], by rw [a7, f1.2 390 (by omega)]⟩
    | some u =>
      have h3 := sk2_s hsk
      have h4 := sk2_gt g gt (by omega) hsk
      have c0 : ¬ nI u.length ≤ 0 := fun z => by have := (n_le (b := 0) (by omega) (by omega)).mp z; omega
      have hg2 : ∀ j, j < (P.map Prod.fst).length → gt_ y.1 (ac_ (P.map Prod.fst) j) := fun j hj => by
        rw [List.length_map] at hj
        rw [ac_map hj]
        exact hg _ (hpm.mem_iff.mpr (ka_mem hj))
      have hru := u1 u h3.2.2 h3.2.1
      have r3 := m_isMet (a := y.1) hm1.1 (by rw [List.length_map]; omega) hg2 h4.1 hp1.1 hru (P.map Prod.fst).length 0 5000 (by omega) (by rw [List.length_map]; omega)
      rw [List.drop_zero] at r3
      rw [h3.1, if_neg c0]
      unfold fX12_isMet
      rw [show fX12_isMet_4 5000 5000 390 0 0 σ1 = _ from r3, bd_s]
      show ∃ σ' P', _ ∧ _ ∧ _ ∧ List.Perm (ed_ y t d (e + 1) (ii_ u F)) P' ∧ _
      by_cases hc : u ∈ P.map Prod.fst
      · obtain ⟨p, hpP, ep⟩ := List.mem_map.mp hc
        have hin : ∃ b, (u, b) ∈ F := ⟨p.2, hpm.mem_iff.mpr (by rw [← ep]; exact hpP)⟩
        obtain ⟨σ2, P2, r2, f2, a1, a2, a3, a4, a5, a6, a7⟩ := ih (e + 1) k σ1 F P (by omega) (by omega) hm1 hp1 hpm hs hg hb hkb (by omega)
        rw [ii_in hs hin]
        exact ⟨σ2, P2, by rw [decide_eq_true hc, bi_t, if_neg (by decide), r2], fm_tr (fm99 f1) f2, a1, a2, by omega, a4, a5, by rw [a6, f1.2 390 (by omega)], by rw [a7, f1.2 390 (by omega)]⟩
      · have hnot : ∀ b, (u, b) ∉ F := fun b hb => hc (List.mem_map.mpr ⟨(u, b), hpm.mem_iff.mp hb, rfl⟩)
        obtain ⟨σ3, q1, q2, q3, q4, q5⟩ := m_meet (o := 399) (p := 0) hm1.1 (by rw [List.length_map]; omega) hp1.1 hru h3.2.1 (fun j hj => (hg2 j hj).2) (by omega) (by rw [ln_399]; omega) (by rw [ln_399]; omega)
        have f3 : fm_ σ1 σ3 := fm_meet q2 q3
        have hm3 := ms_fm f3 hm1
        have hp3 : mp_ σ3 (P ++ [(u, false)]) := by
          refine ⟨by rw [List.map_append]; exact q4, fun j hj => ?_⟩
          rw [List.length_append, List.length_singleton] at hj
          rw [List.length_map] at q3 q5
          by_cases c : j < P.length
          · rw [ka_push c, q3 419 j (by omega) (by omega) (by omega)]
            exact hp1.2 j c
          · rw [show j = P.length by omega, ka_last, q5]
            rfl
        have hpm3 : List.Perm (ii_ u F) (P ++ [(u, false)]) := List.Perm.trans (ii_perm hnot) (List.Perm.trans (List.Perm.cons _ hpm) (List.perm_append_singleton _ _).symm)
        obtain ⟨σ2, P2, r2, f2, a1, a2, a3, a4, a5, a6, a7⟩ := ih (e + 1) k σ3 (ii_ u F) (P ++ [(u, false)]) (by omega) (by omega) hm3 hp3 hpm3 (ii_so hs) (fun q hq => (ii_mem hq).elim (fun w => by rw [w]; exact h4.1) (fun w => hg q w)) (by rw [List.length_append]; omega) (by rw [ka_push hb]; exact hkb) (by rw [List.length_append, List.length_singleton]; omega)
        rw [List.length_append, List.length_singleton] at a3
        refine ⟨σ2, P2, by rw [decide_eq_false hc, bi_f, if_pos rfl, lm_11 hm1.1, show fX12_meet 5000 390 399 0 σ1 = _ from q1, bd_s, r2], fm_tr (fm99 f1) (fm_tr f3 f2), a1, a2, by omega, a4, a5, ?_, ?_⟩
        · rw [a6, q3 390 39 (by omega) (by omega) (by omega), f1.2 390 (by omega)]
        · rw [a7, q3 390 40 (by omega) (by omega) (by omega), f1.2 390 (by omega)]
theorem ka_set {P : js_F} {x : List Int32 × Bool} {b j : Nat} (hb : b < P.length) : ka_ (P.set b x) j = if j = b then x else ka_ P j := by
  unfold ka_
  rw [List.getD_eq_getElem?_getD, List.getD_eq_getElem?_getD, List.getElem?_set]
  by_cases c : j = b
  · rw [if_pos c, if_pos c.symm, if_pos (by omega)]
    rfl
  · rw [if_neg c, if_neg (fun z => c z.symm)]
theorem set_split {P : js_F} {b : Nat} (hb : b < P.length) (x : List Int32 × Bool) : P = P.take b ++ ka_ P b :: P.drop (b + 1) ∧ P.set b x = P.take b ++ x :: P.drop (b + 1) := by
  refine ⟨?_, by rw [List.set_eq_take_append_cons_drop, if_pos hb]⟩
  rw [← ka_drop hb, List.take_append_drop]
theorem perm_mark {F P : js_F} {t : List Int32} {A B : js_F} {b : Nat} (hp : List.Perm F P) (hF : F = A ++ (t, false) :: B) (hb : b < P.length) (hk : ka_ P b = (t, false)) : List.Perm (A ++ (t, true) :: B) (P.set b (t, true)) := by
  have h1 := set_split hb (t, true)
  rw [hF] at hp
  rw [h1.1, hk] at hp
  rw [h1.2]
  have h2 : List.Perm (A ++ B) (P.take b ++ P.drop (b + 1)) := (List.perm_cons (t, false)).mp (List.perm_middle.symm.trans (hp.trans List.perm_middle))
  exact List.perm_middle.trans (((List.perm_cons (t, true)).mpr h2).trans List.perm_middle.symm)
theorem map_set {P : js_F} {b : Nat} {x : List Int32 × Bool} (hb : b < P.length) (hx : (ka_ P b).1 = x.1) : (P.set b x).map Prod.fst = P.map Prod.fst := by
  have h1 := set_split hb x
  rw [h1.2]
  conv => rhs; rw [h1.1]
  rw [List.map_append, List.map_append, List.map_cons, List.map_cons, hx]
theorem m_ex24 {y : js_Y} {lim : Nat} (g : gy_ y) (hlim : lim ≤ 30) :
    ∀ (n k : Nat) (σ : js_S) (s : js_E) (P : js_F) (x : Int32), s.2.1 + n = lim → n < k → ms_ σ y → ei_ y s → me_ σ s P → ((mk_ s.1 = none → x = -5) ∧ ∀ q, mk_ s.1 = some q → ∃ b, b < P.length ∧ x = nI b ∧ ka_ P b = (q.1, false)) → ∃ σ' P', fX12_explore_24 5000 k 390 (nI lim) x σ = some ((), σ') ∧ fm_ σ σ' ∧ me_ σ' (er_ y n s) P' := by
  intro n
  induction n with
  | zero =>
    intro k σ s P x hs hk hm hi he hx
    obtain ⟨k, rfl⟩ : ∃ j, k = j + 1 := ⟨k - 1, by omega⟩
    refine ⟨σ, P, ?_, fm_rf, he⟩
    rw [sX12_explore_24]
    unfold fX12_explore_24b
    rw [he.2.2.1]
    by_cases c : x < 0
    · rw [if_pos c]
    · rw [if_neg c, if_pos ((n_le (by omega) (by omega)).mpr (by omega))]
  | succ n ih =>
    intro k σ s P x hs hk hm hi he hx
    obtain ⟨k, rfl⟩ : ∃ j, k = j + 1 := ⟨k - 1, by omega⟩
    rw [sX12_explore_24, er_s]
    unfold fX12_explore_24b
    cases hmk : mk_ s.1 with
    | none =>
      refine ⟨σ, P, ?_, fm_rf, he⟩
      rw [hx.1 hmk, if_pos (by decide)]
    | some q =>
      obtain ⟨b, hb, e, hkb⟩ := hx.2 q hmk
      subst e
      obtain ⟨g1, g2, g3, g4, g5⟩ := mk_ei hi hmk
      obtain ⟨A, B, e1, e2, -, -⟩ := mk_s (t := q.1) (F' := q.2) hmk
      have hlen : P.length = s.1.length := he.2.1.length_eq.symm
      have hil := hi.2.2.2
      have hql := g1.2
      have hP2 : List.Perm q.2 (P.set b (q.1, true)) := by
        rw [e2]
        exact perm_mark he.2.1 e1 hb hkb
      have hl1 : lm_ σ.2.2 := hm.1
      have fa : fm_ σ (uI_ (uI_ (uI_ σ 419 b 1) 390 39 (nI (s.2.1 + 1))) 390 40 (nI b)) := fm_tr (fm_u (by unfold sM_; omega)) (fm_tr (fm_u (by unfold sM_; omega)) (fm_u (by unfold sM_; omega)))
      have hma := ms_fm fa hm
      have hpa : mp_ (uI_ (uI_ (uI_ σ 419 b 1) 390 39 (nI (s.2.1 + 1))) 390 40 (nI b)) (P.set b (q.1, true)) := by
        refine ⟨?_, fun j hj => ?_⟩
        · rw [map_set hb (by rw [hkb])]
          refine ⟨?_, fun j hj => ?_⟩
          · rw [uI_ne (by omega), uI_ne (by omega), uI_ne (by omega)]
            exact he.1.1.1
          · exact rw_eq (by rw [uI_row (by omega), uI_row (by omega), uI_row (by omega)]) (he.1.1.2 j hj)
        · rw [List.length_set] at hj
          rw [ka_set hb, uI_ne (by omega), uI_ne (by omega)]
          by_cases c : j = b
          · rw [if_pos c, c, uI_same]
            rfl
          · rw [if_neg c, uI_ne (by omega)]
            exact he.1.2 j hj
      obtain ⟨σ1, P1, r1, f1, a1, a2, a3, a4, a5, a6, a7⟩ := m_ex61 (lim := nI lim) (b := b) (rc := fX12_explore_24 5000 k) g g1 q.1.length 0 5000 _ q.2 (P.set b (q.1, true)) (by omega) (by omega) hma hpa hP2 g2 g3 (by rw [List.length_set]; exact hb) (by rw [ka_set hb, if_pos rfl]) (by rw [List.length_set]; omega)
      rw [List.length_set] at a3
      have hm1 := ms_fm f1 hma
      have hei := en_ei g hi hmk
      have hg1 : ∀ r, r ∈ P1 → gt_ y.1 r.1 := fun r hr => hei.2.1 r (a2.mem_iff.mpr hr)
      obtain ⟨r, r2, hbs⟩ := m_lu hm1.1 (by omega) hg1 a1 P1.length 0 5000 (-5) (by omega) (by omega) (Or.inl ⟨rfl, fun i hi => by omega⟩)
      have he1 : me_ σ1 (ex1_ y q s) P1 := by
        refine ⟨a1, a2, ?_, fun _ => ⟨b, a4, ?_, by rw [a5]; rfl⟩⟩
        · rw [a6, uI_ne (by omega), uI_same]
          rfl
        · rw [a7, uI_same]
      obtain ⟨σ2, P2, r3, f3, he2⟩ := ih k σ1 (ex1_ y q s) P1 r (by show s.2.1 + 1 + n = lim; omega) (by omega) hm1 hei he1 (lu_pick hei.1 a2 hbs)
      refine ⟨σ2, P2, ?_, fm_tr fa (fm_tr f1 f3), he2⟩
      have c1 : ¬ nI lim ≤ nI s.2.1 := fun z => by have := (n_le (by omega) (by omega)).mp z; omega
      have r1' : fX12_explore_61 5000 (fX12_explore_24 5000 k) 5000 390 (nI lim) (nI b) 0 (uI_ (uI_ (uI_ σ 419 b 1) 390 39 (nI (s.2.1 + 1))) 390 40 (nI b)) = _ := r1
      rw [if_neg (nI_pos (by omega)), he.2.2.1, if_neg c1, lm_37 hl1, ln_419, n_ib (by omega), if_pos (by simp; omega), n_cl (by omega), nz1, lt_s_, lt_s_, lt_s_, uI_ne (by omega), he.2.2.1, show nI s.2.1 + 1 = nI (s.2.1 + 1) from n_add s.2.1 1, r1']
      unfold fX12_lowestUnexpanded
      rw [show fX12_lowestUnexpanded_5 5000 5000 390 (-5) 0 σ1 = _ from r2, bd_s, r3]
/-- how many marked normal forms -/
def nc_ (y : js_Y) (F : js_F) : Nat := F.countP fun p => p.2 && nfm_ y p.1
theorem nc_ii {y : js_Y} {u : List Int32} : ∀ {F : js_F}, nc_ y (ii_ u F) = nc_ y F
  | [] => by simp [nc_, ii_]
  | p :: F => by
    unfold ii_
    by_cases c1 : cmp_ u p.1 = 0
    · rw [if_pos c1]
    · rw [if_neg c1]
      by_cases c2 : cmp_ u p.1 < 0
      · rw [if_pos c2]
        unfold nc_
        rw [List.countP_cons]
        simp
      · rw [if_neg c2]
        have ih := nc_ii (y := y) (u := u) (F := F)
        unfold nc_ at ih ⊢
        rw [List.countP_cons, List.countP_cons, ih]
theorem nc_ed {y : js_Y} {t : List Int32} : ∀ {d e : Nat} {F : js_F}, nc_ y (ed_ y t d e F) = nc_ y F
  | 0, e, F => rfl
  | d + 1, e, F => by
    rw [ed_s, nc_ed]
    cases sk2_ (sp_ y t e) with
    | none => rfl
    | some u => exact nc_ii
/-- the exploration's normal forms -/
def en2_ (y : js_Y) (s : js_E) : Prop := nc_ y s.1 = s.2.2.1 ∧ (0 < s.2.2.1 → (s.2.2.2.2, true) ∈ s.1 ∧ nfm_ y s.2.2.2.2 = true ∧ ∀ p, p ∈ s.1 → p.2 = true → nfm_ y p.1 = true → ¬ tl_ p.1 s.2.2.2.2)
theorem ii_sub {u : List Int32} : ∀ {F : js_F} {p : List Int32 × Bool}, p ∈ F → p ∈ ii_ u F
  | [], p, h => by cases h
  | x :: F, p, h => by
    unfold ii_
    split
    · exact h
    · split
      · exact List.mem_cons_of_mem _ h
      · rcases List.mem_cons.mp h with e | e
        · rw [e]; exact List.mem_cons_self
        · exact List.mem_cons_of_mem _ (ii_sub e)
theorem ed_mem {y : js_Y} {t : List Int32} : ∀ {d e : Nat} {F : js_F} {p : List Int32 × Bool}, p.2 = true → (p ∈ ed_ y t d e F ↔ p ∈ F)
  | 0, e, F, p, _ => Iff.rfl
  | d + 1, e, F, p, hp => by
    rw [ed_s, ed_mem hp]
    cases sk2_ (sp_ y t e) with
    | none => exact Iff.rfl
    | some u =>
      constructor
      · intro h
        exact (ii_mem h).elim (fun w => absurd hp (by rw [w]; exact Bool.false_ne_true)) (fun w => w)
      · exact ii_sub
theorem en2_s {y : js_Y} {s : js_E} {q : List Int32 × js_F} (h : en2_ y s) (hm : mk_ s.1 = some q) : en2_ y (ex1_ y q s) := by
  obtain ⟨A, B, e1, e2, -, -⟩ := mk_s (t := q.1) (F' := q.2) hm
  refine ⟨?_, fun w => ?_⟩
  · show nc_ y (ed_ y q.1 q.1.length 0 q.2) = s.2.2.1 + if nfm_ y q.1 = true then 1 else 0
    rw [nc_ed, ← h.1, e1, e2]
    unfold nc_
    rw [List.countP_append, List.countP_append, List.countP_cons, List.countP_cons]
    simp only [Bool.true_and, Bool.false_and]
    split <;> simp <;> omega
  · have w2 : 0 < s.2.2.1 + (if nfm_ y q.1 = true then 1 else 0) := w
    -- marked ones: those of before and the new one
    have hmem : ∀ p : List Int32 × Bool, p.2 = true → (p ∈ ed_ y q.1 q.1.length 0 q.2 ↔ p = (q.1, true) ∨ p ∈ s.1) := by
      intro p hp
      rw [ed_mem hp, e2, e1, List.mem_append, List.mem_cons, List.mem_append, List.mem_cons]
      constructor
      · rintro (z | z | z)
        · exact Or.inr (Or.inl z)
        · exact Or.inl z
        · exact Or.inr (Or.inr (Or.inr z))
      · rintro (z | z | z | z)
        · exact Or.inr (Or.inl z)
        · exact Or.inl z
        · exact absurd hp (by rw [z]; exact Bool.false_ne_true)
        · exact Or.inr (Or.inr z)
    show ((if nfm_ y q.1 = true ∧ (s.2.2.1 = 0 ∨ cmp_ q.1 s.2.2.2.2 < 0) then q.1 else s.2.2.2.2), true) ∈ ed_ y q.1 q.1.length 0 q.2 ∧ nfm_ y (if nfm_ y q.1 = true ∧ (s.2.2.1 = 0 ∨ cmp_ q.1 s.2.2.2.2 < 0) then q.1 else s.2.2.2.2) = true ∧ ∀ p, p ∈ ed_ y q.1 q.1.length 0 q.2 → p.2 = true → nfm_ y p.1 = true → ¬ tl_ p.1 (if nfm_ y q.1 = true ∧ (s.2.2.1 = 0 ∨ cmp_ q.1 s.2.2.2.2 < 0) then q.1 else s.2.2.2.2)
    by_cases c : nfm_ y q.1 = true ∧ (s.2.2.1 = 0 ∨ cmp_ q.1 s.2.2.2.2 < 0)
    · rw [if_pos c]
      refine ⟨(hmem _ rfl).mpr (Or.inl rfl), c.1, fun p hp h1 h2 => ?_⟩
      rcases (hmem p h1).mp hp with z | z
      · rw [z]; exact tl_ir
      · rcases c.2 with c0 | c0
        · have h0 := h.1
          rw [c0] at h0
          exact absurd (show (p.2 && nfm_ y p.1) = true by rw [h1, h2]; rfl) (List.countP_eq_zero.mp h0 p z)
        · have hpos : 0 < s.2.2.1 := by
            rw [← h.1]
            exact List.countP_pos_iff.mpr ⟨p, z, by rw [h1, h2]; rfl⟩
          exact fun t => (h.2 hpos).2.2 p z h1 h2 (tl_tr t (cmp_tl.mp c0))
    · rw [if_neg c]
      have hpos : 0 < s.2.2.1 := by
        by_cases cn : nfm_ y q.1 = true
        · rcases Nat.eq_zero_or_pos s.2.2.1 with z | z
          · exact absurd ⟨cn, Or.inl z⟩ c
          · exact z
        · rw [if_neg cn] at w2
          omega
      obtain ⟨a1, a2, a3⟩ := h.2 hpos
      refine ⟨(hmem _ rfl).mpr (Or.inr a1), a2, fun p hp h1 h2 => ?_⟩
      rcases (hmem p h1).mp hp with z | z
      · rw [z] at h2 ⊢
        exact fun t => c ⟨h2, Or.inr (cmp_tl.mpr t)⟩
      · exact a3 p z h1 h2
theorem er_en2 {y : js_Y} (g : gy_ y) : ∀ {k : Nat} {s : js_E}, ei_ y s → en2_ y s → ei_ y (er_ y k s) ∧ en2_ y (er_ y k s) ∧ s.2.1 ≤ (er_ y k s).2.1 ∧ (er_ y k s).2.1 ≤ s.2.1 + k
  | 0, s, h1, h2 => ⟨h1, h2, Nat.le_refl _, Nat.le_refl _⟩
  | k + 1, s, h1, h2 => by
    rw [er_s]
    cases hm : mk_ s.1 with
    | none => exact ⟨h1, h2, Nat.le_refl _, Nat.le_add_right _ _⟩
    | some q =>
      have := er_en2 g (k := k) (en_ei g h1 hm) (en2_s h2 hm)
      have e : (ex1_ y q s).2.1 = s.2.1 + 1 := rfl
      rw [e] at this
      exact ⟨this.1, this.2.1, Nat.le_trans (by omega) this.2.2.1, Nat.le_trans this.2.2.2 (by omega)⟩
/-- the start -/
def s0_ (t : List Int32) : js_E := ([(t, false)], 0, 0, [], [])
theorem s0_ei {y : js_Y} {t : List Int32} (gt : gt_ y.1 t) : ei_ y (s0_ t) ∧ en2_ y (s0_ t) := by
  refine ⟨⟨⟨fun q h => (by cases h), trivial⟩, fun q hq => ?_, rfl, by show 1 ≤ 1 + 40 * 0; omega⟩, rfl, fun h => absurd h (by show ¬ 0 < 0; omega)⟩
  rw [List.mem_singleton.mp hq]
  exact gt
theorem s0_pos {y : js_Y} {t : List Int32} {n : Nat} (g : gy_ y) (gt : gt_ y.1 t) : 0 < (er_ y (n + 1) (s0_ t)).2.1 := by
  rw [er_s]
  have hm : mk_ (s0_ t).1 = some (t, [(t, true)]) := rfl
  rw [hm]
  have := er_en2 g (k := n) (en_ei g (s0_ei gt).1 hm) (en2_s (s0_ei gt).2 hm)
  have e : (ex1_ y (t, [(t, true)]) (s0_ t)).2.1 = 1 := rfl
  rw [e] at this
  exact this.2.2.1
