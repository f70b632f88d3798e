/-! frames by cell -/
def fw2_ (S : Nat → Nat → Prop) (J : Nat → Prop) (σ σ' : js_S) : Prop := σ'.2.2 = σ.2.2 ∧ (∀ a b, ¬ S a b → σ'.1 a b = σ.1 a b) ∧ ∀ a, ¬ J a → σ'.2.1 a = σ.2.1 a
theorem fw2_rf {S : Nat → Nat → Prop} {J : Nat → Prop} {σ : js_S} : fw2_ S J σ σ := ⟨rfl, fun _ _ _ => rfl, fun _ _ => rfl⟩
theorem fw2_tr {S : Nat → Nat → Prop} {J : Nat → Prop} {σ σ1 σ2 : js_S} (h1 : fw2_ S J σ σ1) (h2 : fw2_ S J σ1 σ2) : fw2_ S J σ σ2 := ⟨h2.1.trans h1.1, fun a b q => (h2.2.1 a b q).trans (h1.2.1 a b q), fun a q => (h2.2.2 a q).trans (h1.2.2 a q)⟩
theorem fw2_mono {S S' : Nat → Nat → Prop} {J J' : Nat → Prop} {σ σ1 : js_S} (h1 : fw2_ S J σ σ1) (hs : ∀ a b, S a b → S' a b) (hj : ∀ a, J a → J' a) : fw2_ S' J' σ σ1 := ⟨h1.1, fun a b q => h1.2.1 a b (fun z => q (hs a b z)), fun a q => h1.2.2 a (fun z => q (hj a z))⟩
theorem fw2_u {S : Nat → Nat → Prop} {J : Nat → Prop} {σ : js_S} {o j : Nat} {x : Int32} (h : S o j) : fw2_ S J σ (uI_ σ o j x) := ⟨rfl, fun a b q => uI_ne (fun z => q (by rw [z.1, z.2]; exact h)), fun _ _ => rfl⟩
theorem fw2_fl {S : Nat → Nat → Prop} {J : Nat → Prop} {σ σ' : js_S} {o : Nat} (hj : J o) (h : fl2_ o σ σ') : fw2_ S J σ σ' := ⟨h.2.1, fun a b _ => by rw [h.1], fun a q => h.2.2 a (fun z => q (z ▸ hj))⟩
theorem fw2_fi {S : Nat → Nat → Prop} {J : Nat → Prop} {T : Nat → Prop} {σ σ' : js_S} (h : fi_ T σ σ') (hs : ∀ a b, T a → S a b) : fw2_ S J σ σ' := ⟨fi_r h, fun a b q => by rw [h.2 a (fun z => q (hs a b z))], fun a _ => by rw [h.1]⟩
theorem fw2_row {S : Nat → Nat → Prop} {J : Nat → Prop} {σ σ' : js_S} {a : Nat} (h : fw2_ S J σ σ') (ha : ∀ b, ¬ S a b) : σ'.1 a = σ.1 a := funext (fun b => h.2.1 a b (ha b))
theorem fw2_eb {S : Nat → Nat → Prop} {J : Nat → Prop} {σ σ' : js_S} {o f t : Nat} (h : fw2_ S J σ σ') (ho : ¬ J o) : eb_ σ' o f t = eb_ σ o f t := by
  unfold eb_
  rw [h.2.2 o ho]
theorem fm_fw {S : Nat → Nat → Prop} {J : Nat → Prop} {σ σ' : js_S} (h : fw2_ S J σ σ') (hs : ∀ a b, S a b → sM_ a b) (hj : ∀ a, J a → 390 ≤ a) : fm_ σ σ' := ⟨h.1, fun a ha => h.2.2 a (fun z => by have := hj a z; omega), fun a b q => h.2.1 a b (fun z => q (hs a b z))⟩
theorem mr_eq {σ σ' : js_S} {P : List (Nat × Nat)} (h1 : σ'.1 403 = σ.1 403) (h2 : σ'.1 404 = σ.1 404) (hp : mr_ σ P) : mr_ σ' P := by
  unfold mr_
  rw [h1, h2]
  exact hp
theorem mr_fw {S : Nat → Nat → Prop} {J : Nat → Prop} {σ σ' : js_S} {P : List (Nat × Nat)} (h : fw2_ S J σ σ') (hs : ∀ a b, S a b → a ≠ 403 ∧ a ≠ 404) (hp : mr_ σ P) : mr_ σ' P := mr_eq (fw2_row h (fun b z => (hs _ _ z).1 rfl)) (fw2_row h (fun b z => (hs _ _ z).2 rfl)) hp
/-! the model: its graph -/
theorem d_65 {t : Nat} (h : t < 240) : ((nI t).toInt64 &&& 63) = Int64.ofNat (t % 64) := by
  have : ∀ t, t < 240 → ((nI t).toInt64 &&& 63) = Int64.ofNat (t % 64) := by decide +kernel
  exact this t h
theorem n_4c {f t : Nat} (ht : t < 240) : 4 * nI f + nI t / 64 = nI (4 * f + t / 64) := by
  rw [(d_64 ht).1, n_4w]
theorem m_hasBit {σ : js_S} {o f t : Nat} (ho : ln_ o = 960) (hf : f < 240) (ht : t < 240) : fX12_hasBit 5000 o (nI f) (nI t) σ = some (bi_ (eb_ σ o f t), σ) := by
  unfold fX12_hasBit eb_
  rw [n_4c ht, ho, if_pos (ib_t (by omega) (by omega)), n_cl (by omega), d_65 ht, jb_shr (by omega)]
  cases jb_ (σ.2.1 o (4 * f + t / 64)) (t % 64) <;> rfl
theorem con_step {i j n f t : Nat} {e : Nat → Bool} (hj : j < n) : (decide (f = i) && (decide (j ≤ t) && (decide (t < n) && e t))) = ((e j && (decide (f = i) && decide (t = j))) || (decide (f = i) && (decide (j + 1 ≤ t) && (decide (t < n) && e t)))) := by
  by_cases c : t = j
  · subst c
    rw [decide_eq_true (Nat.le_refl t), decide_eq_true hj, decide_eq_true (show t = t from rfl), decide_eq_false (show ¬ t + 1 ≤ t by omega)]
    cases decide (f = i) <;> cases e t <;> rfl
  · have e1 : decide (j ≤ t) = decide (j + 1 ≤ t) := by
      by_cases c2 : j ≤ t
      · rw [decide_eq_true c2, decide_eq_true (by omega)]
      · rw [decide_eq_false c2, decide_eq_false (by omega)]
    rw [e1, decide_eq_false c, Bool.and_false, Bool.and_false, Bool.false_or]
theorem eb_bit {σ : js_S} {o i j f t : Nat} {x : Int64} (b : Bool) (hj : j < 240) (ht : t < 240) (hx : x = if b = true then (1 : Int64) <<< Int64.ofNat (j % 64) else 0) : eb_ (uJ_ σ o (4 * i + j / 64) (σ.2.1 o (4 * i + j / 64) ||| x)) o f t = (eb_ σ o f t || (b && (decide (f = i) && decide (t = j)))) := by
  rw [eb_u (by omega) ht]
  by_cases c : f = i ∧ t / 64 = j / 64
  · rw [if_pos c, jb_or, hx, decide_eq_true c.1, Bool.true_and]
    have e : jb_ (if b = true then (1 : Int64) <<< Int64.ofNat (j % 64) else 0) (t % 64) = (b && decide (t = j)) := by
      cases b with
      | false => rw [if_neg Bool.false_ne_true, jb_0]; rfl
      | true =>
        rw [if_pos rfl, jb_one (by omega) (by omega), Bool.true_and]
        by_cases q : t = j
        · rw [decide_eq_true q, decide_eq_true (by rw [q])]
        · rw [decide_eq_false q, decide_eq_false (by omega)]
    rw [e]
    unfold eb_
    rw [c.1, c.2]
  · rw [if_neg c]
    have : (decide (f = i) && decide (t = j)) = false := by
      by_cases q : f = i
      · rw [decide_eq_false (show ¬ t = j from fun z => c ⟨q, by rw [z]⟩), Bool.and_false]
      · rw [decide_eq_false q, Bool.false_and]
    rw [this, Bool.and_false, Bool.or_false]
theorem ms_fl {o : Nat} {σ σ' : js_S} {y : js_Y} (ho : 390 ≤ o) (h : fl2_ o σ σ') (hm : ms_ σ y) : ms_ σ' y := ms_fm ⟨h.2.1, fun a ha => h.2.2 a (by omega), fun a b _ => by rw [h.1]⟩ hm
theorem mr_fl {o : Nat} {σ σ' : js_S} {P : List (Nat × Nat)} (h : fl2_ o σ σ') (hp : mr_ σ P) : mr_ σ' P := mr_eq (by rw [h.1]) (by rw [h.1]) hp
theorem m_fg51 {y : js_Y} {i : Nat} {rc : Nat → Int32 → js_S → Option (Unit × js_S)} (g : gy_ y) (hi : i < (pp_ y).length) :
    ∀ (d j k : Nat) (σ : js_S), j + d = (pp_ y).length → d < k → ms_ σ y → mr_ σ (pp_ y) → σ.1 390 23 = nI (pp_ y).length → ∃ σ', fX12_findGraph_51 5000 rc k 390 (nI i) (nI j) σ = rc 390 (nI (i + 1)) σ' ∧ fl2_ 405 σ σ' ∧ ∀ f t, t < 240 → eb_ σ' 405 f t = (eb_ σ 405 f t || (decide (f = i) && (decide (j ≤ t) && (decide (t < (pp_ y).length) && ee_ y i t)))) := by
  have h240 := pp_len g
  intro d
  induction d with
  | zero =>
    intro j k σ hj hk hm hp hn
    obtain ⟨k, rfl⟩ : ∃ j, k = j + 1 := ⟨k - 1, by omega⟩
    refine ⟨σ, ?_, fl2_rf, fun f t ht => ?_⟩
    · rw [sX12_findGraph_51]
      unfold fX12_findGraph_51b
      rw [hn, if_pos (nle_t (by omega) (by omega)), n_s]
    · by_cases c : j ≤ t
      · rw [decide_eq_false (show ¬ t < (pp_ y).length by omega), Bool.false_and, Bool.and_false, Bool.and_false, Bool.or_false]
      · rw [decide_eq_false c, Bool.false_and, Bool.and_false, Bool.or_false]
  | succ d ih =>
    intro j k σ hj hk hm hp hn
    obtain ⟨k, rfl⟩ : ∃ j, k = j + 1 := ⟨k - 1, by omega⟩
    have f1 : ∀ x, fl2_ 405 σ (uJ_ σ 405 (4 * i + j / 64) (σ.2.1 405 (4 * i + j / 64) ||| x)) := fun x => fl2_u
    have key : ∀ x : Int64, x = (if ee_ y i j = true then (1 : Int64) <<< Int64.ofNat (j % 64) else 0) → ∃ σ', fX12_findGraph_89 5000 rc (fX12_findGraph_51 5000 rc k) 390 (nI i) (nI j) x (σ.2.1 405 (4 * i + j / 64)) (nI (4 * i + j / 64)) 405 σ = rc 390 (nI (i + 1)) σ' ∧ fl2_ 405 σ σ' ∧ ∀ f t, t < 240 → eb_ σ' 405 f t = (eb_ σ 405 f t || (decide (f = i) && (decide (j ≤ t) && (decide (t < (pp_ y).length) && ee_ y i t)))) := by
      intro x hx
      obtain ⟨σ2, r2, f2, e2⟩ := ih (j + 1) k _ (by omega) (by omega) (ms_fl (by omega) (f1 x) hm) (mr_fl (f1 x) hp) (by rw [(f1 x).1]; exact hn)
      refine ⟨σ2, ?_, fl2_tr (f1 x) f2, fun f t ht => ?_⟩
      · unfold fX12_findGraph_89
        rw [ln_405, if_pos (ib_t (by omega) (by omega)), n_cl (by omega), lt_s_, n_s]
        exact r2
      · rw [e2 f t ht, eb_bit (ee_ y i j) (show j < 240 by omega) ht hx, con_step (e := ee_ y i) (show j < (pp_ y).length by omega), Bool.or_assoc]
    rw [sX12_findGraph_51]
    unfold fX12_findGraph_51b
    rw [hn, if_neg (nle_f (by omega) (by omega)), n_4c (show j < 240 by omega), lm_19 hm.1, ln_405, if_pos (ib_t (by omega) (by omega)), m_isEdge g hm hp hi (show j < (pp_ y).length by omega), bd_s, n_cl (by omega), d_65 (show j < 240 by omega)]
    cases ce : ee_ y i j with
    | false =>
      rw [bi_f, if_pos rfl]
      exact key 0 (by rw [ce, if_neg Bool.false_ne_true])
    | true =>
      rw [bi_t, if_neg (by decide)]
      exact key _ (by rw [ce, if_pos rfl])
theorem m_fg27 {y : js_Y} {i : Nat} {rc : Nat → Int32 → js_S → Option (Unit × js_S)} (hi : i < 240) :
    ∀ (d w k : Nat) (σ : js_S), w + d = 4 → d < k → lm_ σ.2.2 → ∃ σ', fX12_findGraph_27 5000 rc k 390 (nI i) (nI w) σ = fX12_findGraph_51 5000 rc 5000 390 (nI i) 0 σ' ∧ fl2_ 405 σ σ' ∧ ∀ f t, t < 240 → eb_ σ' 405 f t = (eb_ σ 405 f t && !(decide (f = i) && decide (w ≤ t / 64))) := by
  intro d
  induction d with
  | zero =>
    intro w k σ hw hk hm
    obtain ⟨k, rfl⟩ : ∃ j, k = j + 1 := ⟨k - 1, by omega⟩
    refine ⟨σ, ?_, fl2_rf, fun f t ht => ?_⟩
    · rw [sX12_findGraph_27]
      unfold fX12_findGraph_27b
      rw [if_pos (n4_t (by omega) (by omega))]
    · rw [decide_eq_false (show ¬ w ≤ t / 64 by omega), Bool.and_false, Bool.not_false, Bool.and_true]
  | succ d ih =>
    intro w k σ hw hk hm
    obtain ⟨k, rfl⟩ : ∃ j, k = j + 1 := ⟨k - 1, by omega⟩
    have f1 : fl2_ 405 σ (uJ_ σ 405 (4 * i + w) 0) := fl2_u
    obtain ⟨σ2, r2, f2, e2⟩ := ih (w + 1) k _ (by omega) (by omega) (show lm_ (uJ_ σ 405 (4 * i + w) 0).2.2 from hm)
    refine ⟨σ2, ?_, fl2_tr f1 f2, fun f t ht => ?_⟩
    · rw [sX12_findGraph_27]
      unfold fX12_findGraph_27b
      rw [if_neg (n4_f (by omega)), n_4w, lm_19 hm, ln_405, if_pos (ib_t (by omega) (by omega)), n_cl (by omega), lt_s_, n_s]
      exact r2
    · rw [e2 f t ht, eb_u (by omega) ht, jb_0]
      by_cases c : f = i
      · by_cases c2 : t / 64 = w
        · rw [if_pos ⟨c, c2⟩, decide_eq_true c, decide_eq_true (show w ≤ t / 64 by omega)]
          simp
        · rw [if_neg (fun z => c2 z.2)]
          by_cases c3 : w ≤ t / 64
          · rw [decide_eq_true (show w + 1 ≤ t / 64 by omega), decide_eq_true c3]
          · rw [decide_eq_false (show ¬ w + 1 ≤ t / 64 by omega), decide_eq_false c3]
      · rw [if_neg (fun z => c z.1), decide_eq_false c]
        rfl
def sG_ (a b : Nat) : Prop := a = 407
theorem m_fg10 {y : js_Y} (g : gy_ y) :
    ∀ (d i k : Nat) (σ : js_S), i + d = (pp_ y).length → d < k → ms_ σ y → mr_ σ (pp_ y) → σ.1 390 23 = nI (pp_ y).length → (∀ f, f < i → σ.1 407 f = 1) → (∀ f t, f < i → t < 240 → eb_ σ 405 f t = (decide (t < (pp_ y).length) && ee_ y f t)) → ∃ σ', fX12_findGraph_10 5000 k 390 (nI i) σ = some ((), σ') ∧ fw2_ sG_ (fun a => a = 405) σ σ' ∧ (∀ f, f < (pp_ y).length → σ'.1 407 f = 1) ∧ ∀ f t, f < (pp_ y).length → t < 240 → eb_ σ' 405 f t = (decide (t < (pp_ y).length) && ee_ y f t) := by
  have h240 := pp_len g
  intro d
  induction d with
  | zero =>
    intro i k σ hi hk hm hp hn hl he
    obtain ⟨k, rfl⟩ : ∃ j, k = j + 1 := ⟨k - 1, by omega⟩
    refine ⟨σ, ?_, fw2_rf, fun f hf => hl f (by omega), fun f t hf ht => he f t (by omega) ht⟩
    rw [sX12_findGraph_10]
    unfold fX12_findGraph_10b
    rw [hn, if_pos (nle_t (by omega) (by omega))]
  | succ d ih =>
    intro i k σ hi hk hm hp hn hl he
    obtain ⟨k, rfl⟩ : ∃ j, k = j + 1 := ⟨k - 1, by omega⟩
    have f1 : fw2_ sG_ (fun a => a = 405) σ (uI_ σ 407 i 1) := fw2_u rfl
    have hm1 := ms_fm (fm_fw f1 (fun a b z => by unfold sG_ at z; unfold sM_; omega) (fun a z => by omega)) hm
    obtain ⟨σ2, r2, f2, e2⟩ := m_fg27 (y := y) (i := i) (rc := fX12_findGraph_10 5000 k) (by omega) 4 0 5000 (uI_ σ 407 i 1) (by omega) (by omega) hm1.1
    have f12 := fw2_tr f1 (fw2_fl (S := sG_) (J := fun a => a = 405) rfl f2)
    have hm2 := ms_fl (by omega) f2 hm1
    have hp2 := mr_fw f12 (fun a b z => by unfold sG_ at z; omega) hp
    have hn2 : σ2.1 390 23 = nI (pp_ y).length := by rw [f12.2.1 390 23 (by unfold sG_; omega)]; exact hn
    obtain ⟨σ3, r3, f3, e3⟩ := m_fg51 (rc := fX12_findGraph_10 5000 k) g (show i < (pp_ y).length by omega) (pp_ y).length 0 5000 σ2 (by omega) (by omega) hm2 hp2 hn2
    have f13 := fw2_tr f12 (fw2_fl (S := sG_) (J := fun a => a = 405) rfl f3)
    have hl3 : ∀ f, f < i + 1 → σ3.1 407 f = 1 := by
      intro f hf
      rw [f3.1, f2.1]
      by_cases c : f = i
      · rw [c, uI_same]
      · rw [uI_ne (by omega)]; exact hl f (by omega)
    have he3 : ∀ f t, f < i + 1 → t < 240 → eb_ σ3 405 f t = (decide (t < (pp_ y).length) && ee_ y f t) := by
      intro f t hf ht
      rw [e3 f t ht, e2 f t ht]
      by_cases c : f = i
      · rw [decide_eq_true c, decide_eq_true (Nat.zero_le _), decide_eq_true (Nat.zero_le _), c]
        simp
      · rw [decide_eq_false c, Bool.false_and, Bool.not_false, Bool.and_true, Bool.false_and, Bool.or_false]
        exact he f t (by omega) ht
    obtain ⟨σ4, r4, f4, l4, e4⟩ := ih (i + 1) k σ3 (by omega) (by omega) (ms_fl (by omega) f3 hm2) (mr_fl f3 hp2) (by rw [f3.1]; exact hn2) hl3 he3
    refine ⟨σ4, ?_, fw2_tr f13 f4, l4, e4⟩
    rw [sX12_findGraph_10]
    unfold fX12_findGraph_10b
    rw [hn, if_neg (nle_f (by omega) (by omega)), lm_21 hm.1, ln_407, if_pos (ib_t (by omega) (by omega)), n_cl (by omega), lt_s_, show nz_ 1 = 1 from bi_nz true, show fX12_findGraph_27 5000 (fX12_findGraph_10 5000 k) 5000 390 (nI i) 0 (uI_ σ 407 i 1) = _ from r2, show fX12_findGraph_51 5000 (fX12_findGraph_10 5000 k) 5000 390 (nI i) 0 σ2 = _ from r3, r4]
/-- what the model knows of its graph, the pairs L still left -/
def mg_ (σ : js_S) (y : js_Y) (L : Nat → Bool) : Prop := ms_ σ y ∧ mr_ σ (pp_ y) ∧ σ.1 390 23 = nI (pp_ y).length ∧ (∀ f, f < (pp_ y).length → σ.1 407 f = bi_ (L f)) ∧ ∀ f t, f < (pp_ y).length → t < 240 → eb_ σ 405 f t = (decide (t < (pp_ y).length) && ee_ y f t)
theorem m_findGraph {σ : js_S} {y : js_Y} (g : gy_ y) (hm : ms_ σ y) : ∃ σ', fX12_findGraph 5000 390 σ = some ((), σ') ∧ fm_ σ σ' ∧ (∀ a, a = 403 ∨ a = 404 → σ'.1 a = σ'.1 a) ∧ mg_ σ' y (fun _ => true) := by
  have h240 := pp_len g
  obtain ⟨σ1, r1, f1, p1⟩ := m_findPairs g hm
  have fm1 : fm_ σ σ1 := fm_fi f1 (fun a b q z => q (by unfold sM_; omega))
  have fm2 : fm_ σ (uI_ σ1 390 23 (nI (pp_ y).length)) := fm_tr fm1 (fm_u (by unfold sM_; omega))
  have p2 : mr_ (uI_ σ1 390 23 (nI (pp_ y).length)) (pp_ y) := mr_eq (uI_row (by omega)) (uI_row (by omega)) p1
  obtain ⟨σ3, r3, f3, l3, e3⟩ := m_fg10 g (pp_ y).length 0 5000 (uI_ σ1 390 23 (nI (pp_ y).length)) (by omega) (by omega) (ms_fm fm2 hm) p2 uI_same (fun f hf => by omega) (fun f t hf ht => by omega)
  have fm3 := fm_tr fm2 (fm_fw f3 (fun a b z => by unfold sG_ at z; unfold sM_; omega) (fun a z => by omega))
  refine ⟨σ3, ?_, fm3, fun _ _ => rfl, ms_fm fm3 hm, mr_fw f3 (fun a b z => by unfold sG_ at z; omega) p2, by rw [f3.2.1 390 23 (by unfold sG_; omega), uI_same], l3, e3⟩
  unfold fX12_findGraph
  rw [r1, bd_s, lt_s_]
  exact r3
