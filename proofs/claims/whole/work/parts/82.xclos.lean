/-! the class's closure -/
def xk_ (σ : js_S) (y : js_Y) (G : List Nat) (tl : Bool) : Prop := xc2_ σ G tl ∧ (∀ x, x ∈ G → ∃ k, cl2_ (gn_ y) k x) ∧ (tl = true → ∃ H : List Nat, H.Nodup ∧ (∀ x, x ∈ H → ∃ k, cl2_ (gn_ y) k x) ∧ 400 < H.length)
theorem x0_inc2 {σ : js_S} {y : js_Y} {G : List Nat} {tl : Bool} {x : Nat} (hl : lx_ σ.2.2) (h : xk_ σ y G tl) (hx : ∃ k, cl2_ (gn_ y) k x) : ∃ σ' G' tl', fX0_include 5000 378 (nI x) σ = some ((), σ') ∧ fw2_ sK_ (fun _ => False) σ σ' ∧ xk_ σ' y G' tl' ∧ (∃ t, G' = G ++ t) ∧ (tl = true → tl' = true) ∧ (x ∈ G' ∨ tl' = true) ∧ (G.length < 400 → tl' = tl ∧ G'.length ≤ G.length + 1 ∧ x ∈ G') ∧ ∀ z, z ∈ G' → z ∈ G ∨ z = x := by
  obtain ⟨k, hk⟩ := hx
  have hg := cl_gc gn_gc hk
  obtain ⟨h1, h2, h3⟩ := h
  obtain ⟨σ', G', tl', r1, f1, c1, cc⟩ := x0_include hl h1 hg
  refine ⟨σ', G', tl', r1, f1, ?_⟩
  rcases cc with ⟨a1, rfl, rfl⟩ | ⟨a1, a2, rfl, rfl⟩ | ⟨a1, a2, rfl, rfl⟩
  · exact ⟨⟨c1, h2, h3⟩, ⟨[], (List.append_nil _).symm⟩, fun z => z, Or.inl a1, fun _ => ⟨rfl, by omega, a1⟩, fun z hz => Or.inl hz⟩
  · refine ⟨⟨c1, fun z hz => ?_, h3⟩, ⟨[x], rfl⟩, fun z => z, Or.inl (by simp), fun _ => ⟨rfl, by simp, by simp⟩, fun z hz => ?_⟩
    · rcases List.mem_append.mp hz with w | w
      · exact h2 z w
      · rw [List.mem_singleton.mp w]; exact ⟨k, hk⟩
    · rcases List.mem_append.mp hz with w | w
      · exact Or.inl w
      · exact Or.inr (List.mem_singleton.mp w)
  · refine ⟨⟨c1, h2, fun _ => ⟨G' ++ [x], ?_, fun z hz => ?_, by simp; omega⟩⟩, ⟨[], (List.append_nil _).symm⟩, fun _ => rfl, Or.inr rfl, fun z => by omega, fun z hz => Or.inl hz⟩
    · rw [List.nodup_append]
      exact ⟨h1.2.2.2.2.2.1, by simp, fun a ha b hb => by rw [List.mem_singleton.mp hb]; exact fun z => a1 (z ▸ ha)⟩
    · rcases List.mem_append.mp hz with w | w
      · exact h2 z w
      · rw [List.mem_singleton.mp w]; exact ⟨k, hk⟩
theorem getD_mem {G : List Nat} {j : Nat} (h : j < G.length) : G.getD j 0 ∈ G := by
  rw [List.getD_eq_getElem?_getD, List.getElem?_eq_getElem h]
  exact List.getElem_mem h
theorem getD_of_mem {G : List Nat} {x : Nat} (h : x ∈ G) : ∃ j, j < G.length ∧ G.getD j 0 = x := by
  obtain ⟨j, hj, e⟩ := List.getElem_of_mem h
  exact ⟨j, hj, by rw [List.getD_eq_getElem?_getD, List.getElem?_eq_getElem hj]; exact e⟩
theorem getD_pre {G t : List Nat} {j : Nat} (h : j < G.length) : (G ++ t).getD j 0 = G.getD j 0 := by
  rw [List.getD_eq_getElem?_getD, List.getD_eq_getElem?_getD, List.getElem?_append_left h]
/-- the class finds the closure from the generators G0 -/
theorem x0_rb91 {y : js_Y} {G0 : List Nat} {f : Nat} {rc66 : Nat → Int32 → Int32 → js_S → Option (Unit × js_S)} (h0 : ∀ x, x ∈ G0 → gn_ y x) (hl0 : G0.length ≤ 400) :
    ∀ (d b m : Nat) (σ : js_S) (t : List Nat) (tl : Bool), b + d = G0.length → d < m → lx_ σ.2.2 → xk_ σ y (G0 ++ t) tl → f < (G0 ++ t).length → ∃ σ' t' tl', fX0_rebuild_91 5000 rc66 m 378 (nI G0.length) (nI f) (nI b) σ = rc66 378 (nI G0.length) (nI (f + 1)) σ' ∧ fw2_ sK_ (fun _ => False) σ σ' ∧ xk_ σ' y (G0 ++ t ++ t') tl' ∧ (tl = true → tl' = true) ∧ ∀ g, b ≤ g → g < G0.length → fe_ ((G0 ++ t).getD f 0) 10 = fe_ (G0.getD g 0) 9 → cx_ ((G0 ++ t).getD f 0) (G0.getD g 0) ∈ G0 ++ t ++ t' ∨ tl' = true := by
  intro d
  induction d with
  | zero =>
    intro b m σ t tl hb hm hl h hf
    obtain ⟨m, rfl⟩ : ∃ j, m = j + 1 := ⟨m - 1, by omega⟩
    refine ⟨σ, [], tl, ?_, fw2_rf, by rw [List.append_nil]; exact h, fun z => z, fun g q1 q2 => by omega⟩
    rw [sX0_rebuild_91]
    unfold fX0_rebuild_91b
    rw [if_pos (nle_t (by omega) (by omega)), n_s]
  | succ d ih =>
    intro b m σ t tl hb hm hl h hf
    obtain ⟨m, rfl⟩ : ∃ j, m = j + 1 := ⟨m - 1, by omega⟩
    obtain ⟨⟨c1, c2, c3, c4, c5, c6, c7⟩, h2, h3⟩ := id h
    have hb0 : b < G0.length := by omega
    have hbl : b < (G0 ++ t).length := by rw [List.length_append]; omega
    have eb : (G0 ++ t).getD b 0 = G0.getD b 0 := getD_pre hb0
    have mf := getD_mem hf
    have mb := getD_mem hb0
    have gf := c7 _ mf
    have gb := gn_gc _ (h0 _ mb)
    have ef : σ.1 379 f = nI ((G0 ++ t).getD f 0) := c3 f hf
    have eb2 : σ.1 379 b = nI (G0.getD b 0) := by rw [c3 b hbl, eb]
    have t1 := gc_fe gf (k := 10) (by omega)
    have t2 := gc_fe gb (k := 9) (by omega)
    rw [sX0_rebuild_91]
    unfold fX0_rebuild_91b fX0_rebuild_139
    rw [if_neg (nle_f (by omega) (by omega)), lx_378_0 hl, ln_379, if_pos (ib_t (show f < 400 by omega) (by omega)), n_cl (by omega), ef, x_tgt gf, bd_s, lx_378_0 hl, ln_379, if_pos (ib_t (show b < 400 by omega) (by omega)), n_cl (by omega), eb2, x_src gb, bd_s, lx_378_0 hl, ln_379, if_pos (ib_t (show f < 400 by omega) (by omega)), if_pos (ib_t (show b < 400 by omega) (by omega)), ef, eb2, x_composed gf gb, bd_s, n_s]
    by_cases c : fe_ ((G0 ++ t).getD f 0) 10 = fe_ (G0.getD b 0) 9
    · rw [if_pos (by rw [c])]
      obtain ⟨k, hk⟩ := h2 _ mf
      obtain ⟨σ1, G1, tl1, r1, f1, k1, ⟨t', e1⟩, p1, p2, -⟩ := x0_inc2 hl h (x := cx_ ((G0 ++ t).getD f 0) (G0.getD b 0)) ⟨k + 1, _, _, hk, h0 _ mb, c, rfl⟩
      subst e1
      have hf1 : f < (G0 ++ (t ++ t')).length := by rw [List.length_append] at hf; rw [List.length_append, List.length_append]; omega
      rw [List.append_assoc] at k1
      obtain ⟨σ2, t2', tl2, r2, f2, k2, p4, p5⟩ := ih (b + 1) m σ1 (t ++ t') tl1 (by omega) (by omega) (by rw [f1.1]; exact hl) k1 hf1
      have eg : (G0 ++ (t ++ t')).getD f 0 = (G0 ++ t).getD f 0 := by rw [← List.append_assoc]; exact getD_pre hf
      have ea : G0 ++ (t ++ t') ++ t2' = G0 ++ t ++ (t' ++ t2') := by simp [List.append_assoc]
      rw [ea] at k2
      refine ⟨σ2, t' ++ t2', tl2, ?_, fw2_tr f1 f2, k2, fun z => p4 (p1 z), fun g q1 q2 q3 => ?_⟩
      · rw [r1, bd_s, r2]
      · by_cases z : g = b
        · rw [z]
          rcases p2 with w | w
          · exact Or.inl (by rw [← List.append_assoc]; exact List.mem_append_left _ w)
          · exact Or.inr (p4 w)
        · have := p5 g (by omega) q2 (by rw [eg]; exact q3)
          rw [eg, ea] at this
          exact this
    · rw [if_neg (neq_f c (by omega) (by omega))]
      obtain ⟨σ2, t2', tl2, r2, f2, k2, p4, p5⟩ := ih (b + 1) m σ t tl (by omega) (by omega) hl h hf
      refine ⟨σ2, t2', tl2, r2, f2, k2, p4, fun g q1 q2 q3 => ?_⟩
      by_cases z : g = b
      · rw [z] at q3; exact absurd q3 c
      · exact p5 g (by omega) q2 q3
theorem x0_rb66 {y : js_Y} {G0 : List Nat} (h0 : ∀ x, x ∈ G0 → gn_ y x) (hl0 : G0.length ≤ 400) :
    ∀ (d f m : Nat) (σ : js_S) (t : List Nat) (tl : Bool), f + d = 401 → d < m → lx_ σ.2.2 → xk_ σ y (G0 ++ t) tl → (∀ a, a < f → a < (G0 ++ t).length → ∀ g, g < G0.length → fe_ ((G0 ++ t).getD a 0) 10 = fe_ (G0.getD g 0) 9 → cx_ ((G0 ++ t).getD a 0) (G0.getD g 0) ∈ G0 ++ t ∨ tl = true) → ∃ σ' t' tl', fX0_rebuild_66 5000 m 378 (nI G0.length) (nI f) σ = fX0_rebuild_151 5000 378 σ' ∧ fw2_ sK_ (fun _ => False) σ σ' ∧ xk_ σ' y (G0 ++ t') tl' ∧ (tl' = true ∨ ∀ a, a < (G0 ++ t').length → ∀ g, g < G0.length → fe_ ((G0 ++ t').getD a 0) 10 = fe_ (G0.getD g 0) 9 → cx_ ((G0 ++ t').getD a 0) (G0.getD g 0) ∈ G0 ++ t') := by
  have stop : ∀ (f : Nat) (t : List Nat) (tl : Bool), (G0 ++ t).length ≤ f → (∀ a, a < f → a < (G0 ++ t).length → ∀ g, g < G0.length → fe_ ((G0 ++ t).getD a 0) 10 = fe_ (G0.getD g 0) 9 → cx_ ((G0 ++ t).getD a 0) (G0.getD g 0) ∈ G0 ++ t ∨ tl = true) → (tl = true ∨ ∀ a, a < (G0 ++ t).length → ∀ g, g < G0.length → fe_ ((G0 ++ t).getD a 0) 10 = fe_ (G0.getD g 0) 9 → cx_ ((G0 ++ t).getD a 0) (G0.getD g 0) ∈ G0 ++ t) := by
    intro f t tl hf hc
    cases tl with
    | true => exact Or.inl rfl
    | false =>
      refine Or.inr (fun a ha g hg e => ?_)
      rcases hc a (by omega) ha g hg e with w | w
      · exact w
      · cases w
  intro d
  induction d with
  | zero =>
    intro f m σ t tl hf hm hl h hc
    obtain ⟨m, rfl⟩ : ∃ j, m = j + 1 := ⟨m - 1, by omega⟩
    have c5 := h.1.2.2.2.2.1
    refine ⟨σ, t, tl, ?_, fw2_rf, h, stop f t tl (by omega) hc⟩
    rw [sX0_rebuild_66]
    unfold fX0_rebuild_66b
    rw [h.1.1, if_pos (nle_t (by omega) (by omega))]
  | succ d ih =>
    intro f m σ t tl hf hm hl h hc
    obtain ⟨m, rfl⟩ : ∃ j, m = j + 1 := ⟨m - 1, by omega⟩
    have c5 := h.1.2.2.2.2.1
    by_cases c : (G0 ++ t).length ≤ f
    · refine ⟨σ, t, tl, ?_, fw2_rf, h, stop f t tl c hc⟩
      rw [sX0_rebuild_66]
      unfold fX0_rebuild_66b
      rw [h.1.1, if_pos (nle_t (by omega) (by omega))]
    · have hfl : f < (G0 ++ t).length := by omega
      rw [sX0_rebuild_66]
      unfold fX0_rebuild_66b
      rw [h.1.1, if_neg (nle_f (by omega) (by omega)), if_neg (show ¬ (400 : Int32) ≤ nI f from nle_f (a := 400) (by omega) (by omega)), h.1.2.1]
      cases tl with
      | true =>
        refine ⟨σ, t, true, ?_, fw2_rf, h, Or.inl rfl⟩
        rw [bi_t, if_neg (by decide)]
      | false =>
        rw [bi_f, if_pos rfl]
        obtain ⟨σ1, t', tl1, r1, f1, k1, p1, p2⟩ := x0_rb91 (rc66 := fX0_rebuild_66 5000 m) h0 hl0 G0.length 0 5000 σ t false (by omega) (by omega) hl h hfl
        rw [List.append_assoc] at k1
        have ep : ∀ a, a < (G0 ++ t).length → (G0 ++ (t ++ t')).getD a 0 = (G0 ++ t).getD a 0 := fun a ha => by rw [← List.append_assoc]; exact getD_pre ha
        obtain ⟨σ2, t2, tl2, r2, f2, k2, p3⟩ := ih (f + 1) m σ1 (t ++ t') tl1 (by omega) (by omega) (by rw [f1.1]; exact hl) k1 (fun a ha hal g hg e => by
          rw [← List.append_assoc]
          by_cases z : a = f
          · subst z
            rw [ep a hfl] at e
            rw [show (G0 ++ t ++ t').getD a 0 = (G0 ++ t).getD a 0 from getD_pre hfl]
            exact p2 g (Nat.zero_le g) hg e
          · have hal2 : a < (G0 ++ t).length := by omega
            rw [ep a hal2] at e
            rw [show (G0 ++ t ++ t').getD a 0 = (G0 ++ t).getD a 0 from getD_pre hal2]
            rcases hc a (by omega) hal2 g hg e with w | w
            · exact Or.inl (List.mem_append_left _ w)
            · cases w)
        exact ⟨σ2, t2, tl2, by rw [show fX0_rebuild_91 5000 (fX0_rebuild_66 5000 m) 5000 378 (nI G0.length) (nI f) 0 σ = _ from r1, r2], fw2_tr f1 f2, k2, p3⟩
/-- the generators -/
theorem x0_rb36 {y : js_Y} (g : gy_ y) :
    ∀ (d j m : Nat) (σ : js_S) (G : List Nat), j + d = (pp_ y).length → d < m → lx_ σ.2.2 → px_ σ y (pp_ y) → xk_ σ y G false → G.length ≤ j → (∀ x, x ∈ G → gn_ y x) → (∀ i, i < j → gd_ (fp2_ y i) 11 ∈ G) → ∃ σ' G0, fX0_rebuild_36 5000 m 378 366 (nI j) σ = fX0_rebuild_66 5000 5000 378 (nI G0.length) 0 σ' ∧ fw2_ sK_ (fun _ => False) σ σ' ∧ xk_ σ' y G0 false ∧ G0.length ≤ 240 ∧ (∀ x, x ∈ G0 → gn_ y x) ∧ ∀ x, gn_ y x → x ∈ G0 := by
  have h240 := pp_len g
  intro d
  induction d with
  | zero =>
    intro j m σ G hj hm hl hp h hG h1 h2
    obtain ⟨m, rfl⟩ : ∃ j, m = j + 1 := ⟨m - 1, by omega⟩
    refine ⟨σ, G, ?_, fw2_rf, h, by omega, h1, fun x hx => ?_⟩
    · rw [sX0_rebuild_36]
      unfold fX0_rebuild_36b
      rw [hp.1, if_pos (nle_t (by omega) (by omega)), h.1.1]
    · obtain ⟨i, hi, rfl⟩ := hx
      exact h2 i (by omega)
  | succ d ih =>
    intro j m σ G hj hm hl hp h hG h1 h2
    obtain ⟨m, rfl⟩ : ∃ j, m = j + 1 := ⟨m - 1, by omega⟩
    have hjn : j < (pp_ y).length := by omega
    have hgen : gn_ y (gd_ (fp2_ y j) 11) := ⟨j, hjn, rfl⟩
    obtain ⟨σ1, G1, tl1, r1, f1, k1, ⟨t, e1⟩, p1, p2, p3, p4⟩ := x0_inc2 hl h (x := gd_ (fp2_ y j) 11) ⟨0, hgen⟩
    obtain ⟨q1, q2, q3⟩ := p3 (by omega)
    subst q1
    obtain ⟨σ2, G0, r2, f2, k2, p5, p6, p7⟩ := ih (j + 1) m σ1 G1 (by omega) (by omega) (by rw [f1.1]; exact hl) (by
      unfold px_
      rw [fw2_row f1 (a := 366) (fun b z => by unfold sK_ at z; omega), fw2_row f1 (a := 367) (fun b z => by unfold sK_ at z; omega), fw2_row f1 (a := 368) (fun b z => by unfold sK_ at z; omega), fw2_row f1 (a := 369) (fun b z => by unfold sK_ at z; omega)]
      exact hp) k1 (by omega) (fun x hx => by
        rcases p4 x hx with w | w
        · exact h1 x w
        · rw [w]; exact hgen) (fun i hi => by
        by_cases z : i = j
        · rw [z]; exact q3
        · rw [e1]; exact List.mem_append_left _ (h2 i (by omega)))
    refine ⟨σ2, G0, ?_, fw2_tr f1 f2, k2, p5, p6, p7⟩
    rw [sX0_rebuild_36]
    unfold fX0_rebuild_36b
    rw [hp.1, if_neg (nle_f (by omega) (by omega)), x5_graph hl hp h240 hjn, bd_s, show fX0_include 5000 378 (gg_ (gp_ y (pc_ (pp_ y) j))) σ = _ from r1, bd_s, n_s, r2]
theorem x0_rb12 : ∀ (d j m : Nat) (σ : js_S), j + d = 1024 → d < m → lx_ σ.2.2 → (∀ i, i < j → σ.1 380 i = 0) → ∃ σ', fX0_rebuild_12 5000 m 378 366 (nI j) σ = fX0_rebuild_36 5000 5000 378 366 0 σ' ∧ fi_ (fun a => a = 380) σ σ' ∧ ∀ i, i < 1024 → σ'.1 380 i = 0 := by
  intro d
  induction d with
  | zero =>
    intro j m σ hj hm hl h
    obtain ⟨m, rfl⟩ : ∃ j, m = j + 1 := ⟨m - 1, by omega⟩
    refine ⟨σ, ?_, fi_rf, fun i hi => h i (by omega)⟩
    rw [sX0_rebuild_12]
    unfold fX0_rebuild_12b
    rw [lx_378_1 hl, ln_380, n_of, if_pos (nle_t (by omega) (by omega))]
  | succ d ih =>
    intro j m σ hj hm hl h
    obtain ⟨m, rfl⟩ : ∃ j, m = j + 1 := ⟨m - 1, by omega⟩
    have f1 : fi_ (fun a => a = 380) σ (uI_ σ 380 j 0) := fi_u rfl
    obtain ⟨σ2, r2, f2, e2⟩ := ih (j + 1) m (uI_ σ 380 j 0) (by omega) (by omega) hl (fun i hi => by
      by_cases z : i = j
      · rw [z, uI_same]
      · rw [uI_ne (by omega)]; exact h i (by omega))
    refine ⟨σ2, ?_, fi_tr f1 f2 (fun a q => q) (fun a q => q), e2⟩
    rw [sX0_rebuild_12]
    unfold fX0_rebuild_12b
    rw [lx_378_1 hl, ln_380, n_of, if_neg (nle_f (by omega) (by omega)), if_pos (ib_t (by omega) (by omega)), n_cl (by omega), lt_s_, n_s, r2]
/-! idempotent and decreasing graphs counted -/
theorem x0_decreases {x : Nat} {σ : js_S} (hx : gc_ x) : fX0_decreases 5000 (nI x) σ = some (bi_ (de2_ x), σ) := by
  have h0 := gc_fe hx (k := 0) (by omega)
  have h4 := gc_fe hx (k := 4) (by omega)
  have h8 := gc_fe hx (k := 8) (by omega)
  unfold fX0_decreases de2_
  rw [show (5000 : Nat) = 4999 + 1 from rfl, sX0_decreases_2]
  unfold fX0_decreases_2b
  rw [if_neg (by decide), show fX11_relationIn 5000 (nI x) 0 0 σ = some (nI (fe_ x 0), σ) from x_rel (i := 0) (j := 0) hx (by omega) (by omega), bd_s]
  by_cases c0 : fe_ x 0 = 2
  · rw [c0, if_pos (show nI 2 = 2 from rfl), decide_eq_true (show (2 : Nat) = 2 from rfl), Bool.true_or]
    rfl
  · rw [if_neg (show ¬ nI (fe_ x 0) = 2 from neq_f (b := 2) c0 (by omega) (by omega)), decide_eq_false c0, Bool.false_or]
    show fX0_decreases_2 5000 (4998 + 1) (nI x) 1 σ = _
    rw [sX0_decreases_2]
    unfold fX0_decreases_2b
    rw [if_neg (by decide), show fX11_relationIn 5000 (nI x) 1 1 σ = some (nI (fe_ x 4), σ) from x_rel (i := 1) (j := 1) hx (by omega) (by omega), bd_s]
    by_cases c4 : fe_ x 4 = 2
    · rw [c4, if_pos (show nI 2 = 2 from rfl), decide_eq_true (show (2 : Nat) = 2 from rfl), Bool.true_or]
      rfl
    · rw [if_neg (show ¬ nI (fe_ x 4) = 2 from neq_f (b := 2) c4 (by omega) (by omega)), decide_eq_false c4, Bool.false_or]
      show fX0_decreases_2 5000 (4997 + 1) (nI x) 2 σ = _
      rw [sX0_decreases_2]
      unfold fX0_decreases_2b
      rw [if_neg (by decide), show fX11_relationIn 5000 (nI x) 2 2 σ = some (nI (fe_ x 8), σ) from x_rel (i := 2) (j := 2) hx (by omega) (by omega), bd_s]
      by_cases c8 : fe_ x 8 = 2
      · rw [c8, if_pos (show nI 2 = 2 from rfl), decide_eq_true (show (2 : Nat) = 2 from rfl)]
        rfl
      · rw [if_neg (show ¬ nI (fe_ x 8) = 2 from neq_f (b := 2) c8 (by omega) (by omega)), decide_eq_false c8]
        rfl
theorem bu_1 {p : Nat → Bool} {i : Nat} : bu_ p (i + 1) 0 = bu_ p i 0 + (if p i = true then 1 else 0) := by
  rw [bu_add, Nat.zero_add, bu_s]
  rfl
theorem bu_countP {p : Nat → Bool} : ∀ {G : List Nat}, bu_ (fun j => p (G.getD j 0)) G.length 0 = G.countP p
  | [] => rfl
  | x :: G => by
    rw [List.countP_cons, List.length_cons, bu_s, ← bu_countP (G := G), bu_ext (q := fun j => p (G.getD j 0)) (i := 0) (fun k hk => ?_)]
    · show (if p x = true then 1 else 0) + _ = _
      omega
    · show p ((x :: G).getD (0 + 1 + k) 0) = p (G.getD (0 + k) 0)
      rw [show 0 + 1 + k = k + 1 by omega, Nat.zero_add]
      rfl
theorem x0_judge {G : List Nat} (h4 : G.length ≤ 400) (hG : ∀ x, x ∈ G → gc_ x) :
    ∀ (d i m : Nat) (σ : js_S), i + d = G.length → d < m → lx_ σ.2.2 → σ.1 378 2 = nI G.length → (∀ j, j < G.length → σ.1 379 j = nI (G.getD j 0)) → σ.1 378 3 = nI (bu_ (fun j => id_ (G.getD j 0)) i 0) → σ.1 378 4 = nI (bu_ (fun j => id_ (G.getD j 0) && de2_ (G.getD j 0)) i 0) → ∃ σ', fX0_judge_12 5000 m 378 (nI i) σ = some ((), σ') ∧ fw2_ (fun a b => a = 378 ∧ (b = 3 ∨ b = 4)) (fun _ => False) σ σ' ∧ σ'.1 378 3 = nI (bu_ (fun j => id_ (G.getD j 0)) G.length 0) ∧ σ'.1 378 4 = nI (bu_ (fun j => id_ (G.getD j 0) && de2_ (G.getD j 0)) G.length 0) := by
  intro d
  induction d with
  | zero =>
    intro i m σ hi hm hl h2 h9 h3 h4'
    obtain ⟨m, rfl⟩ : ∃ j, m = j + 1 := ⟨m - 1, by omega⟩
    have e : i = G.length := by omega
    subst e
    refine ⟨σ, ?_, fw2_rf, h3, h4'⟩
    rw [sX0_judge_12]
    unfold fX0_judge_12b
    rw [h2, if_pos (nle_t (by omega) (by omega))]
  | succ d ih =>
    intro i m σ hi hm hl h2 h9 h3 h4'
    obtain ⟨m, rfl⟩ : ∃ j, m = j + 1 := ⟨m - 1, by omega⟩
    have hin : i < G.length := by omega
    have gx := hG _ (getD_mem hin)
    have t1 := gc_fe gx (k := 9) (by omega)
    have t2 := gc_fe gx (k := 10) (by omega)
    have hx4 := gc_lt gx
    have hc4 := gc_lt (cx_gc gx gx)
    have skip : id_ (G.getD i 0) = false → ∃ σ', fX0_judge_12 5000 m 378 (nI (i + 1)) σ = some ((), σ') ∧ fw2_ (fun a b => a = 378 ∧ (b = 3 ∨ b = 4)) (fun _ => False) σ σ' ∧ σ'.1 378 3 = nI (bu_ (fun j => id_ (G.getD j 0)) G.length 0) ∧ σ'.1 378 4 = nI (bu_ (fun j => id_ (G.getD j 0) && de2_ (G.getD j 0)) G.length 0) := by
      intro hs
      refine ih (i + 1) m σ (by omega) (by omega) hl h2 h9 ?_ ?_
      · rw [bu_1, if_neg (show ¬ id_ (G.getD i 0) = true by rw [hs]; exact Bool.false_ne_true)]; exact h3
      · rw [bu_1, if_neg (show ¬ (id_ (G.getD i 0) && de2_ (G.getD i 0)) = true by rw [hs]; exact Bool.false_ne_true)]; exact h4'
    rw [sX0_judge_12]
    unfold fX0_judge_12b fX0_judge_81
    rw [h2, if_neg (nle_f (by omega) (by omega)), if_neg (show ¬ (400 : Int32) ≤ nI i from nle_f (a := 400) (by omega) (by omega)), lx_378_0 hl, ln_379, if_pos (ib_t (by omega) (by omega)), n_cl (by omega), h9 i hin, x_src gx, bd_s, x_tgt gx, bd_s, n_s]
    by_cases c1 : fe_ (G.getD i 0) 9 = fe_ (G.getD i 0) 10
    · rw [if_pos (by rw [c1]), x_composed gx gx, bd_s]
      by_cases c2 : cx_ (G.getD i 0) (G.getD i 0) = G.getD i 0
      · have hid : id_ (G.getD i 0) = true := by unfold id_; rw [decide_eq_true c1, decide_eq_true c2]; rfl
        rw [if_pos (by rw [c2]), h3, n_s, lt_s_, x0_decreases gx, bd_s]
        have b3 := bu_le (p := fun j => id_ (G.getD j 0)) (d := i) (j := 0)
        have b4 := bu_le (p := fun j => id_ (G.getD j 0) && de2_ (G.getD j 0)) (d := i) (j := 0)
        have e3 : bu_ (fun j => id_ (G.getD j 0)) (i + 1) 0 = bu_ (fun j => id_ (G.getD j 0)) i 0 + 1 := by rw [bu_1, if_pos (show id_ (G.getD i 0) = true from hid)]
        cases c3 : de2_ (G.getD i 0) with
        | false =>
          have e4 : bu_ (fun j => id_ (G.getD j 0) && de2_ (G.getD j 0)) (i + 1) 0 = bu_ (fun j => id_ (G.getD j 0) && de2_ (G.getD j 0)) i 0 := by rw [bu_1, if_neg (show ¬ (id_ (G.getD i 0) && de2_ (G.getD i 0)) = true by rw [c3, Bool.and_false]; exact Bool.false_ne_true)]; rfl
          obtain ⟨σ2, r2, f2, q2⟩ := ih (i + 1) m (uI_ σ 378 3 (nI (bu_ (fun j => id_ (G.getD j 0)) i 0 + 1))) (by omega) (by omega) hl (by rw [uI_ne (by omega)]; exact h2) (fun j hj => by rw [uI_ne (by omega)]; exact h9 j hj) (by rw [uI_same, e3]) (by rw [uI_ne (by omega), e4]; exact h4')
          refine ⟨σ2, ?_, fw2_tr (fw2_u ⟨rfl, Or.inl rfl⟩) f2, q2⟩
          rw [bi_f, if_pos rfl, r2]
        | true =>
          have e4 : bu_ (fun j => id_ (G.getD j 0) && de2_ (G.getD j 0)) (i + 1) 0 = bu_ (fun j => id_ (G.getD j 0) && de2_ (G.getD j 0)) i 0 + 1 := by rw [bu_1, if_pos (show (id_ (G.getD i 0) && de2_ (G.getD i 0)) = true by rw [c3, hid]; rfl)]
          have e5 : (uI_ σ 378 3 (nI (bu_ (fun j => id_ (G.getD j 0)) i 0 + 1))).1 378 4 = nI (bu_ (fun j => id_ (G.getD j 0) && de2_ (G.getD j 0)) i 0) := by rw [uI_ne (by omega)]; exact h4'
          obtain ⟨σ2, r2, f2, q2⟩ := ih (i + 1) m (uI_ (uI_ σ 378 3 (nI (bu_ (fun j => id_ (G.getD j 0)) i 0 + 1))) 378 4 (nI (bu_ (fun j => id_ (G.getD j 0) && de2_ (G.getD j 0)) i 0 + 1))) (by omega) (by omega) hl (by rw [uI_ne (by omega), uI_ne (by omega)]; exact h2) (fun j hj => by rw [uI_ne (by omega), uI_ne (by omega)]; exact h9 j hj) (by rw [uI_ne (by omega), uI_same, e3]) (by rw [uI_same, e4])
          refine ⟨σ2, ?_, fw2_tr (fw2_tr (fw2_u ⟨rfl, Or.inl rfl⟩) (fw2_u ⟨rfl, Or.inr rfl⟩)) f2, q2⟩
          rw [bi_t, if_neg (by decide), e5, n_s, lt_s_, r2]
      · rw [if_neg (neq_f c2 (by omega) (by omega))]
        exact skip (by unfold id_; rw [decide_eq_false c2, Bool.and_false])
    · rw [if_neg (neq_f c1 (by omega) (by omega))]
      exact skip (by unfold id_; rw [decide_eq_false c1, Bool.false_and])
theorem x0_rebuild {σ : js_S} {y : js_Y} (g : gy_ y) (hl : lx_ σ.2.2) (hp : px_ σ y (pp_ y)) : ∃ σ', fX0_rebuild 5000 378 366 σ = some ((), σ') ∧ fw2_ sK_ (fun _ => False) σ σ' ∧ P3_ σ' y := by
  have f0 : fw2_ sK_ (fun _ => False) σ (uI_ (uI_ σ 378 2 0) 378 5 0) := fw2_tr (fw2_u (by unfold sK_; omega)) (fw2_u (by unfold sK_; omega))
  have px : ∀ σ', fw2_ sK_ (fun _ => False) σ σ' → px_ σ' y (pp_ y) := fun σ' f => by
    unfold px_
    rw [fw2_row f (a := 366) (fun b z => by unfold sK_ at z; omega), fw2_row f (a := 367) (fun b z => by unfold sK_ at z; omega), fw2_row f (a := 368) (fun b z => by unfold sK_ at z; omega), fw2_row f (a := 369) (fun b z => by unfold sK_ at z; omega)]
    exact hp
  obtain ⟨σ1, r1, f1, e1⟩ := x0_rb12 1024 0 5000 (uI_ (uI_ σ 378 2 0) 378 5 0) (by omega) (by omega) hl (fun i hi => by omega)
  have f01 : fw2_ sK_ (fun _ => False) σ σ1 := fw2_tr f0 (fw2_fi f1 (fun a b z => by unfold sK_; omega))
  have k1 : xk_ σ1 y [] false := by
    refine ⟨⟨?_, ?_, fun j hj => by simp at hj, ⟨fun i hi => Or.inl (e1 i hi), fun x hx => by simp at hx, ?_⟩, by simp, List.nodup_nil, fun x hx => by simp at hx⟩, fun x hx => by simp at hx, fun z => by cases z⟩
    · rw [f1.2 378 (by omega), uI_ne (by omega), uI_same]; rfl
    · rw [f1.2 378 (by omega), uI_same]; rfl
    · rw [bu_0 (fun k hk => by show (!decide (σ1.1 380 (0 + k) = 0)) = false; rw [Nat.zero_add, e1 k hk]; rfl)]
      exact Nat.le_refl _
  obtain ⟨σ2, G0, r2, f2, k2, p5, p6, p7⟩ := x0_rb36 g (pp_ y).length 0 5000 σ1 [] (by omega) (by have := pp_len g; omega) (by rw [f01.1]; exact hl) (px σ1 f01) k1 (by simp) (fun x hx => by simp at hx) (fun i hi => by omega)
  have f02 := fw2_tr f01 f2
  have k2' : xk_ σ2 y (G0 ++ []) false := by rw [List.append_nil]; exact k2
  obtain ⟨σ3, t, tl, r3, f3, k3, p8⟩ := x0_rb66 p6 (by omega) 401 0 5000 σ2 [] false (by omega) (by omega) (by rw [f02.1]; exact hl) k2' (fun a ha => by omega)
  have f03 := fw2_tr f02 f3
  obtain ⟨⟨c1, c2, c3, c4, c5, c6, c7⟩, h2, h3⟩ := k3
  have l3 : lx_ σ3.2.2 := by rw [f03.1]; exact hl
  obtain ⟨σ4, r4, f4, q3, q4⟩ := x0_judge c5 c7 (G0 ++ t).length 0 5000 (uI_ (uI_ σ3 378 3 0) 378 4 0) (by omega) (by omega) l3 (by rw [uI_ne (by omega), uI_ne (by omega)]; exact c1) (fun j hj => by rw [uI_ne (by omega), uI_ne (by omega)]; exact c3 j hj) (by rw [uI_ne (by omega), uI_same]; rfl) (by rw [uI_same]; rfl)
  have f4K : fw2_ sK_ (fun _ => False) σ3 σ4 := fw2_tr (fw2_tr (fw2_u (by unfold sK_; omega)) (fw2_u (by unfold sK_; omega))) (fw2_mono f4 (fun a b z => by unfold sK_; omega) (fun a z => z))
  have e2 : σ4.1 378 2 = nI (G0 ++ t).length := by rw [f4.2.1 378 2 (by omega), uI_ne (by omega), uI_ne (by omega)]; exact c1
  have e5 : σ4.1 378 5 = bi_ tl := by rw [f4.2.1 378 5 (by omega), uI_ne (by omega), uI_ne (by omega)]; exact c2
  refine ⟨σ4, ?_, fw2_tr f03 f4K, ?_⟩
  · unfold fX0_rebuild
    rw [lt_s_, lt_s_, show fX0_rebuild_12 5000 5000 378 366 0 (uI_ (uI_ σ 378 2 0) 378 5 0) = _ from r1, show fX0_rebuild_36 5000 5000 378 366 0 σ1 = _ from r2, show fX0_rebuild_66 5000 5000 378 (nI G0.length) 0 σ2 = _ from r3]
    unfold fX0_rebuild_151 fX0_judge
    rw [lt_s_, lt_s_, show fX0_judge_12 5000 5000 378 0 (uI_ (uI_ σ3 378 3 0) 378 4 0) = _ from r4, bd_s]
  · cases tl with
    | true => exact Or.inr ⟨e5, h3 rfl⟩
    | false =>
      refine Or.inl ⟨e5, G0 ++ t, c6, fun x => ⟨h2 x, fun ⟨k, hk⟩ => ?_⟩, c5, e2, by rw [q3, bu_countP], by rw [q4, bu_countP (p := fun x => id_ x && de2_ x)]⟩
      rcases p8 with w | w
      · cases w
      · refine cl_sub (S := fun x => x ∈ G0 ++ t) (fun x hx => List.mem_append_left _ (p7 x hx)) (fun u v hu hv e => ?_) hk
        obtain ⟨a, ha, rfl⟩ := getD_of_mem hu
        obtain ⟨b, hb, rfl⟩ := getD_of_mem (p7 v hv)
        exact w a ha b hb e
