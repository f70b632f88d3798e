/-! the model: the components' numbers -/
def sC_ (a b : Nat) : Prop := (a = 390 ∧ b = 24) ∨ a = 408
theorem m_fc197 {n : Nat} (hn : n ≤ 240) : ∀ (d j k : Nat) (σ : js_S), j + d = n → d < k → lm_ σ.2.2 → σ.1 390 23 = nI n → (∀ i, i < j → σ.1 408 i = -5) → ∃ σ', fX12_findComponents_197 5000 k 390 (nI j) σ = fX12_findComponents_221 5000 5000 390 0 σ' ∧ fi_ (fun a => a = 408) σ σ' ∧ ∀ i, i < n → σ'.1 408 i = -5 := by
  intro d
  induction d with
  | zero =>
    intro j k σ hj hk h h23 he
    obtain ⟨k, rfl⟩ : ∃ j, k = j + 1 := ⟨k - 1, by omega⟩
    refine ⟨σ, ?_, fi_rf, fun i hi => he i (by omega)⟩
    rw [sX12_findComponents_197]
    unfold fX12_findComponents_197b
    rw [h23, if_pos (nle_t (by omega) (by omega))]
  | succ d ih =>
    intro j k σ hj hk h h23 he
    obtain ⟨k, rfl⟩ : ∃ j, k = j + 1 := ⟨k - 1, by omega⟩
    have f1 : fi_ (fun a => a = 408) σ (uI_ σ 408 j (-5)) := fi_u rfl
    obtain ⟨σ2, r2, f2, e2⟩ := ih (j + 1) k (uI_ σ 408 j (-5)) (by omega) (by omega) h (by rw [uI_ne (by omega)]; exact h23) (fun i hi => by
      by_cases c : i = j
      · rw [c, uI_same]
      · rw [uI_ne (by omega)]; exact he i (by omega))
    refine ⟨σ2, ?_, fi_tr f1 f2 (fun a q => q) (fun a q => q), e2⟩
    rw [sX12_findComponents_197]
    unfold fX12_findComponents_197b
    rw [h23, if_neg (nle_f (by omega) (by omega)), lm_22 h, ln_408, if_pos (ib_t (by omega) (by omega)), n_cl (by omega), lt_s_, n_s, r2]
theorem m_fc257 {i n c : Nat} {W : Nat → Nat → Bool} {rc : Nat → Int32 → js_S → Option (Unit × js_S)} (hn : n ≤ 240) (hi : i < n) (hc : c < 1000000) : ∀ (d j k : Nat) (σ : js_S), j + d = n → d < k → lm_ σ.2.2 → σ.1 390 23 = nI n → σ.1 390 24 = nI c → (∀ f t, f < n → t < 240 → eb_ σ 406 f t = W f t) → ∃ σ', fX12_findComponents_257 5000 rc k 390 (nI i) (nI j) σ = rc 390 (nI (i + 1)) σ' ∧ fw2_ sC_ (fun _ => False) σ σ' ∧ σ'.1 390 24 = nI (c + 1) ∧ ∀ t, t < n → σ'.1 408 t = if j ≤ t ∧ mu_ W i t = true then nI c else σ.1 408 t := by
  intro d
  induction d with
  | zero =>
    intro j k σ hj hk h h23 h24 he
    obtain ⟨k, rfl⟩ : ∃ j, k = j + 1 := ⟨k - 1, by omega⟩
    refine ⟨uI_ σ 390 24 (nI (c + 1)), ?_, fw2_u (Or.inl ⟨rfl, rfl⟩), uI_same, fun t ht => ?_⟩
    · rw [sX12_findComponents_257]
      unfold fX12_findComponents_257b fX12_findComponents_315
      rw [h23, if_pos (nle_t (by omega) (by omega)), h24, n_s, lt_s_, n_s]
    · rw [if_neg (by omega), uI_ne (by omega)]
  | succ d ih =>
    intro j k σ hj hk h h23 h24 he
    obtain ⟨k, rfl⟩ : ∃ j, k = j + 1 := ⟨k - 1, by omega⟩
    have skip : mu_ W i j = false → ∃ σ', fX12_findComponents_257 5000 rc k 390 (nI i) (nI (j + 1)) σ = rc 390 (nI (i + 1)) σ' ∧ fw2_ sC_ (fun _ => False) σ σ' ∧ σ'.1 390 24 = nI (c + 1) ∧ ∀ t, t < n → σ'.1 408 t = if j ≤ t ∧ mu_ W i t = true then nI c else σ.1 408 t := by
      intro hmu
      obtain ⟨σ2, r2, f2, q2, e2⟩ := ih (j + 1) k σ (by omega) (by omega) h h23 h24 he
      refine ⟨σ2, r2, f2, q2, fun t ht => ?_⟩
      rw [e2 t ht]
      by_cases z : t = j
      · rw [z, if_neg (by omega), if_neg (by rw [hmu]; exact fun q => Bool.false_ne_true q.2)]
      · by_cases z2 : j ≤ t ∧ mu_ W i t = true
        · rw [if_pos z2, if_pos ⟨by omega, z2.2⟩]
        · rw [if_neg z2, if_neg (fun q => z2 ⟨by omega, q.2⟩)]
    rw [sX12_findComponents_257]
    unfold fX12_findComponents_257b fX12_findComponents_299
    rw [h23, if_neg (nle_f (by omega) (by omega)), lm_20 h, m_hasBit ln_406 (show i < 240 by omega) (show j < 240 by omega), he i j hi (by omega), bd_s, n_s]
    cases c1 : W i j with
    | false =>
      rw [bi_f, if_pos rfl]
      exact skip (by unfold mu_; rw [c1]; rfl)
    | true =>
      rw [bi_t, if_neg (by decide), lm_20 h, m_hasBit ln_406 (show j < 240 by omega) (show i < 240 by omega), he j i (by omega) (by omega), bd_s]
      cases c2 : W j i with
      | false =>
        rw [bi_f, if_pos rfl]
        exact skip (by unfold mu_; rw [c2, Bool.and_false])
      | true =>
        have hmu : mu_ W i j = true := by unfold mu_; rw [c1, c2]; rfl
        have f1 : fw2_ sC_ (fun _ => False) σ (uI_ σ 408 j (nI c)) := fw2_u (Or.inr rfl)
        obtain ⟨σ2, r2, f2, q2, e2⟩ := ih (j + 1) k (uI_ σ 408 j (nI c)) (by omega) (by omega) h (by rw [uI_ne (by omega)]; exact h23) (by rw [uI_ne (by omega)]; exact h24) he
        refine ⟨σ2, ?_, fw2_tr f1 f2, q2, fun t ht => ?_⟩
        · rw [bi_t, if_neg (by decide), lm_22 h, ln_408, if_pos (ib_t (by omega) (by omega)), n_cl (by omega), h24, lt_s_, r2]
        · rw [e2 t ht]
          by_cases z : t = j
          · rw [z, if_neg (by omega), if_pos ⟨Nat.le_refl j, hmu⟩, uI_same]
          · rw [uI_ne (by omega)]
            by_cases z2 : j ≤ t ∧ mu_ W i t = true
            · rw [if_pos z2, if_pos ⟨by omega, z2.2⟩]
            · rw [if_neg z2, if_neg (fun q => z2 ⟨by omega, q.2⟩)]
/-- the numbers known before i -/
def nk_ (R : Nat → Nat → Bool) (i j : Nat) : Int32 := if R j j = true ∧ lo2_ R j < i then nI (nu_ R j) else -5
theorem nk_skip {R : Nat → Nat → Bool} {n i j : Nat} (h : qv_ R n) (hi : R i i = false ∨ lo2_ R i < i) : nk_ R (i + 1) j = nk_ R i j := by
  unfold nk_
  by_cases c : R j j = true ∧ lo2_ R j < i
  · rw [if_pos c, if_pos ⟨c.1, by omega⟩]
  · rw [if_neg c]
    by_cases c2 : R j j = true ∧ lo2_ R j < i + 1
    · exfalso
      have e : lo2_ R j = i := by
        rcases Nat.lt_or_ge (lo2_ R j) i with q | q
        · exact absurd ⟨c2.1, q⟩ c
        · omega
      have h1 := (lo2_spec c2.1).1
      rw [e] at h1
      rcases hi with q | q
      · have := h.2.1 i i j (h.1 _ _ h1) h1
        rw [q] at this
        cases this
      · rw [← lo2_eq h h1, e] at q
        omega
    · rw [if_neg c2]
theorem m_fc221 {n : Nat} {W : Nat → Nat → Bool} (hn : n ≤ 240) (hq : qv_ (mu_ W) n) : ∀ (d i k : Nat) (σ : js_S), i + d = n → d < k → lm_ σ.2.2 → σ.1 390 23 = nI n → (∀ f t, f < n → t < 240 → eb_ σ 406 f t = W f t) → σ.1 390 24 = nI (ct2_ (mu_ W) i) → (∀ j, j < n → σ.1 408 j = nk_ (mu_ W) i j) → ∃ σ', fX12_findComponents_221 5000 k 390 (nI i) σ = some ((), σ') ∧ fw2_ sC_ (fun _ => False) σ σ' ∧ σ'.1 390 24 = nI (ct2_ (mu_ W) n) ∧ ∀ j, j < n → σ'.1 408 j = nm_ (mu_ W) j := by
  intro d
  induction d with
  | zero =>
    intro i k σ hi hk h h23 he h24 h8
    obtain ⟨k, rfl⟩ : ∃ j, k = j + 1 := ⟨k - 1, by omega⟩
    have e : i = n := by omega
    subst e
    refine ⟨σ, ?_, fw2_rf, h24, fun j hj => ?_⟩
    · rw [sX12_findComponents_221]
      unfold fX12_findComponents_221b
      rw [h23, if_pos (nle_t (by omega) (by omega))]
    · rw [h8 j hj]
      unfold nk_ nm_
      by_cases c : mu_ W j j = true
      · rw [if_pos c, if_pos ⟨c, by have := (lo2_spec c).2.1; omega⟩]
      · rw [if_neg c, if_neg (fun z => c z.1)]
  | succ d ih =>
    intro i k σ hi hk h h23 he h24 h8
    obtain ⟨k, rfl⟩ : ∃ j, k = j + 1 := ⟨k - 1, by omega⟩
    have hct := ct2_le (R := mu_ W) (i := i)
    have skip : (mu_ W i i = false ∨ lo2_ (mu_ W) i < i) → ∃ σ', fX12_findComponents_221 5000 k 390 (nI (i + 1)) σ = some ((), σ') ∧ fw2_ sC_ (fun _ => False) σ σ' ∧ σ'.1 390 24 = nI (ct2_ (mu_ W) n) ∧ ∀ j, j < n → σ'.1 408 j = nm_ (mu_ W) j := by
      intro hs
      refine ih (i + 1) k σ (by omega) (by omega) h h23 he ?_ (fun j hj => by rw [h8 j hj, nk_skip hq hs])
      have : lb_ (mu_ W) i = false := by
        unfold lb_
        rcases hs with q | q
        · rw [q]; rfl
        · rw [decide_eq_false (by omega), Bool.and_false]
      rw [ct2_s, this, if_neg Bool.false_ne_true]
      exact h24
    rw [sX12_findComponents_221]
    unfold fX12_findComponents_221b fX12_findComponents_315
    rw [h23, if_neg (nle_f (by omega) (by omega)), lm_22 h, ln_408, if_pos (ib_t (by omega) (by omega)), n_cl (by omega), h8 i (by omega), n_s]
    by_cases c : mu_ W i i = true ∧ lo2_ (mu_ W) i < i
    · have hnu := nu_lt hq c.1
      have hcn := ct2_le (R := mu_ W) (i := n)
      unfold nk_
      rw [if_pos c, if_neg (fun z => nI_pos (n := nu_ (mu_ W) i) (by omega) (by rw [z]; decide))]
      exact skip (Or.inr c.2)
    · unfold nk_
      rw [if_neg c, if_pos rfl, lm_20 h, m_hasBit ln_406 (show i < 240 by omega) (show i < 240 by omega), he i i (by omega) (by omega), bd_s]
      cases c1 : W i i with
      | false =>
        rw [bi_f, if_pos rfl]
        exact skip (Or.inl (by rw [mu_d]; exact c1))
      | true =>
        have hR : mu_ W i i = true := by rw [mu_d]; exact c1
        have hlo : lo2_ (mu_ W) i = i := by
          have := (lo2_spec hR).2.1
          rcases Nat.lt_or_ge (lo2_ (mu_ W) i) i with q | q
          · exact absurd ⟨hR, q⟩ c
          · omega
        have hlb : lb_ (mu_ W) i = true := by unfold lb_; rw [hR, decide_eq_true hlo]; rfl
        obtain ⟨σ1, r1, f1, q1, e1⟩ := m_fc257 (rc := fX12_findComponents_221 5000 k) (W := W) (c := ct2_ (mu_ W) i) hn (show i < n by omega) (by omega) (n - i) i 5000 σ (by omega) (by omega) h h23 h24 he
        have h81 : ∀ j, j < n → σ1.1 408 j = nk_ (mu_ W) (i + 1) j := by
          intro j hj
          rw [e1 j hj, h8 j hj]
          unfold nk_
          by_cases z : i ≤ j ∧ mu_ W i j = true
          · have hl : lo2_ (mu_ W) j = i := by rw [← lo2_eq hq z.2, hlo]
            have hjj := hq.2.1 j j i (hq.1 _ _ z.2) z.2
            rw [if_pos z, if_pos ⟨hjj, by omega⟩]
            unfold nu_
            rw [hl]
          · rw [if_neg z]
            by_cases z2 : mu_ W j j = true ∧ lo2_ (mu_ W) j < i
            · rw [if_pos z2, if_pos ⟨z2.1, by omega⟩]
            · rw [if_neg z2]
              by_cases z3 : mu_ W j j = true ∧ lo2_ (mu_ W) j < i + 1
              · exfalso
                have e : lo2_ (mu_ W) j = i := by
                  rcases Nat.lt_or_ge (lo2_ (mu_ W) j) i with q | q
                  · exact absurd ⟨z3.1, q⟩ z2
                  · omega
                have h1 := lo2_spec z3.1
                rw [e] at h1
                exact z ⟨h1.2.1, hq.1 _ _ h1.1⟩
              · rw [if_neg z3]
        obtain ⟨σ2, r2, f2, q2⟩ := ih (i + 1) k σ1 (by omega) (by omega) (by rw [f1.1]; exact h) (by rw [f1.2.1 390 23 (by unfold sC_; omega)]; exact h23) (fun f t hf ht => by rw [fw2_eb f1 (fun z => z)]; exact he f t hf ht) (by rw [q1, ct2_s, if_pos hlb]) h81
        refine ⟨σ2, ?_, fw2_tr f1 f2, q2⟩
        rw [bi_t, if_neg (by decide), r1, r2]
/-- components of the pairs left -/
def rk_ (y : js_Y) (L : Nat → Bool) : Nat → Nat → Bool := mu_ (wr_ (fun i j => (decide (i < (pp_ y).length) && (decide (j < (pp_ y).length) && ee_ y i j)) && L i) (pp_ y).length)
theorem rk_e {y : js_Y} {L : Nat → Bool} {i j : Nat} (h : ((decide (i < (pp_ y).length) && (decide (j < (pp_ y).length) && ee_ y i j)) && L i) = true) : i < (pp_ y).length ∧ j < (pp_ y).length := by
  simp only [Bool.and_eq_true, decide_eq_true_eq] at h
  exact ⟨h.1.1, h.1.2.1⟩
theorem rk_qv {y : js_Y} {L : Nat → Bool} : qv_ (rk_ y L) (pp_ y).length := mu_qv (fun i j z => rk_e z)
theorem rk_L {y : js_Y} {L : Nat → Bool} {i j : Nat} (h : rk_ y L i j = true) : L i = true := by
  unfold rk_ mu_ at h
  simp only [Bool.and_eq_true] at h
  exact wr_src (p := fun i => L i = true) (fun i j z => by simp only [Bool.and_eq_true] at z; exact z.2) h.1
theorem rk_eq {y : js_Y} {L : Nat → Bool} : mu_ (wr_ (e2_ y L) (pp_ y).length) = rk_ y L := funext (fun i => funext (fun j => mu_cut (E := fun i j => decide (i < (pp_ y).length) && (decide (j < (pp_ y).length) && ee_ y i j)) (L := L)))
theorem mg_fw {S : Nat → Nat → Prop} {J : Nat → Prop} {σ σ' : js_S} {y : js_Y} {L : Nat → Bool} (h : fw2_ S J σ σ') (hs : ∀ a b, S a b → sM_ a b ∧ a ≠ 403 ∧ a ≠ 404 ∧ a ≠ 407 ∧ ¬ (a = 390 ∧ b = 23)) (hj : ∀ a, J a → 405 < a) (hm : mg_ σ y L) : mg_ σ' y L :=
  ⟨ms_fm (fm_fw h (fun a b z => (hs a b z).1) (fun a z => by have := hj a z; omega)) hm.1, mr_fw h (fun a b z => ⟨(hs a b z).2.1, (hs a b z).2.2.1⟩) hm.2.1, by rw [h.2.1 390 23 (fun z => (hs _ _ z).2.2.2.2 ⟨rfl, rfl⟩)]; exact hm.2.2.1, fun f hf => by rw [h.2.1 407 f (fun z => (hs _ _ z).2.2.2.1 rfl)]; exact hm.2.2.2.1 f hf, fun f t hf ht => by rw [fw2_eb h (fun z => by have := hj _ z; omega)]; exact hm.2.2.2.2 f t hf ht⟩
theorem m_findComponents {σ : js_S} {y : js_Y} {L : Nat → Bool} (g : gy_ y) (hm : mg_ σ y L) : ∃ σ', fX12_findComponents 5000 390 σ = some ((), σ') ∧ fw2_ sC_ (fun a => a = 406) σ σ' ∧ mg_ σ' y L ∧ σ'.1 390 24 = nI (ct2_ (rk_ y L) (pp_ y).length) ∧ ∀ j, j < (pp_ y).length → σ'.1 408 j = nm_ (rk_ y L) j := by
  have h240 := pp_len g
  obtain ⟨σ1, r1, f1, e1⟩ := m_fc2 (L := L) g (pp_ y).length 0 5000 σ (by omega) (by omega) hm (fun f t hf ht => by omega)
  have hm1 := mg_fl (by omega) f1 hm
  obtain ⟨σ2, r2, f2, e2⟩ := m_fc112 (E := e2_ y L) h240 (pp_ y).length 0 5000 σ1 (by omega) (by omega) hm1.1.1 hm1.2.2.1 e1
  have hm2 := mg_fl (by omega) f2 hm1
  have f3 : fw2_ sC_ (fun a => a = 406) σ2 (uI_ σ2 390 24 0) := fw2_u (Or.inl ⟨rfl, rfl⟩)
  have hS : ∀ a b, sC_ a b → sM_ a b ∧ a ≠ 403 ∧ a ≠ 404 ∧ a ≠ 407 ∧ ¬ (a = 390 ∧ b = 23) := fun a b z => by unfold sC_ at z; unfold sM_; omega
  have hm3 := mg_fw f3 hS (fun a z => by omega) hm2
  obtain ⟨σ4, r4, f4, e4⟩ := m_fc197 h240 (pp_ y).length 0 5000 (uI_ σ2 390 24 0) (by omega) (by omega) hm3.1.1 hm3.2.2.1 (fun i hi => by omega)
  have f4w : fw2_ sC_ (fun a => a = 406) (uI_ σ2 390 24 0) σ4 := fw2_fi f4 (fun a b z => Or.inr z)
  have hm4 := mg_fw f4w hS (fun a z => by omega) hm3
  have e3 : ∀ f t, f < (pp_ y).length → t < 240 → eb_ σ4 406 f t = wr_ (e2_ y L) (pp_ y).length f t := by
    intro f t hf ht
    rw [← e2 f t hf ht]
    unfold eb_
    rw [f4.1]
    rfl
  have hqv : qv_ (mu_ (wr_ (e2_ y L) (pp_ y).length)) (pp_ y).length := by rw [rk_eq]; exact rk_qv
  obtain ⟨σ5, r5, f5, q5, e5⟩ := m_fc221 (W := wr_ (e2_ y L) (pp_ y).length) h240 hqv (pp_ y).length 0 5000 σ4 (by omega) (by omega) hm4.1.1 hm4.2.2.1 e3 (by rw [f4.2 390 (by omega), uI_same]; rfl) (fun j hj => by rw [e4 j hj]; unfold nk_; rw [if_neg (by omega)])
  have f5w := fw2_mono (S' := sC_) (J' := fun a => a = 406) f5 (fun a b z => z) (fun a z => z.elim)
  have fall : fw2_ sC_ (fun a => a = 406) σ σ5 := fw2_tr (fw2_fl rfl (fl2_tr f1 f2)) (fw2_tr f3 (fw2_tr f4w f5w))
  rw [rk_eq] at q5 e5
  refine ⟨σ5, ?_, fall, mg_fw fall hS (fun a z => by omega) hm, q5, e5⟩
  unfold fX12_findComponents
  rw [show fX12_findComponents_2 5000 5000 390 0 σ = _ from r1, show fX12_findComponents_112 5000 5000 390 0 σ1 = _ from r2, show fX12_findComponents_197 5000 5000 390 0 (uI_ σ2 390 24 0) = _ from r4, show fX12_findComponents_221 5000 5000 390 0 σ4 = _ from r5]
