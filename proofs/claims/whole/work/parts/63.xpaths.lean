/-! the class: paths -/
theorem n_w4 (f w : Nat) : nI f * 4 + nI w = nI (4 * f + w) := by
  rw [show nI f * 4 = nI (f * 4) from n_mul f 4, n_add, Nat.mul_comm f 4]
theorem n_4w (f w : Nat) : 4 * nI f + nI w = nI (4 * f + w) := by
  rw [show 4 * nI f = nI (4 * f) from n_mul 4 f, n_add]
theorem go_fl {p o q : Nat} {σ σ' : js_S} (h : fl2_ q σ σ') (hg : go_ σ p o) : go_ σ' p o := ⟨by rw [h.2.1]; exact hg.1, hg.2⟩
theorem fl2_u {σ : js_S} {o j : Nat} {x : Int64} : fl2_ o σ (uJ_ σ o j x) := ⟨rfl, rfl, fun a ha => funext (fun b => by show (if a = o ∧ b = j then _ else _) = _; rw [if_neg (fun z => ha z.1)])⟩
theorem eb_u {σ : js_S} {o f w f' t' : Nat} {x : Int64} (hw : w < 4) (ht : t' < 240) : eb_ (uJ_ σ o (4 * f + w) x) o f' t' = if f' = f ∧ t' / 64 = w then jb_ x (t' % 64) else eb_ σ o f' t' := by
  unfold eb_
  show jb_ (if o = o ∧ 4 * f' + t' / 64 = 4 * f + w then x else σ.2.1 o (4 * f' + t' / 64)) (t' % 64) = _
  by_cases c : f' = f ∧ t' / 64 = w
  · rw [if_pos c, if_pos ⟨rfl, by omega⟩]
  · rw [if_neg c, if_neg (by omega)]
theorem eb_or {σ : js_S} {o f m w f' t' : Nat} (hw : w < 4) (ht : t' < 240) : eb_ (uJ_ σ o (4 * f + w) (σ.2.1 o (4 * f + w) ||| σ.2.1 o (4 * m + w))) o f' t' = (eb_ σ o f' t' || (decide (f' = f) && (decide (t' / 64 = w) && eb_ σ o m t'))) := by
  rw [eb_u hw ht]
  by_cases c : f' = f ∧ t' / 64 = w
  · rw [if_pos c, jb_or, decide_eq_true c.1, decide_eq_true c.2, Bool.true_and, Bool.true_and]
    unfold eb_
    rw [c.1, c.2]
  · rw [if_neg c]
    by_cases c1 : f' = f
    · rw [decide_eq_false (fun z => c ⟨c1, z⟩), Bool.false_and, Bool.and_false, Bool.or_false]
    · rw [decide_eq_false c1, Bool.false_and, Bool.or_false]
/-- one word, then the words behind it -/
theorem or_step {a b c d e : Bool} {w t f f' m : Nat} (h1 : c = (a || (decide (f' = f) && (decide (t / 64 = w) && b)))) (h2 : d = (b || (decide (m = f) && (decide (t / 64 = w) && b)))) (h3 : e = (c || (decide (f' = f) && (decide (w + 1 ≤ t / 64) && d)))) : e = (a || (decide (f' = f) && (decide (w ≤ t / 64) && b))) := by
  subst h1 h2 h3
  have hx : decide (w ≤ t / 64) = (decide (t / 64 = w) || decide (w + 1 ≤ t / 64)) := by
    by_cases q : t / 64 = w
    · rw [decide_eq_true q, decide_eq_true (by omega), Bool.true_or]
    · rw [decide_eq_false q, Bool.false_or]
      by_cases q2 : w ≤ t / 64
      · rw [decide_eq_true q2, decide_eq_true (by omega)]
      · rw [decide_eq_false q2, decide_eq_false (by omega)]
  rw [hx]
  cases a <;> cases b <;> cases decide (f' = f) <;> cases decide (m = f) <;> cases decide (t / 64 = w) <;> cases decide (w + 1 ≤ t / 64) <;> rfl
theorem x4_addRowLoop {p o f m : Nat} (hf : f < 240) (hm : m < 240) : ∀ (d w k : Nat) (σ : js_S), w + d = 4 → d < k → go_ σ p o → ∃ σ', fX4_addRow_10 5000 k p (nI f) (nI m) (nI w) σ = some ((), σ') ∧ fl2_ o σ σ' ∧ ∀ f' t', t' < 240 → eb_ σ' o f' t' = (eb_ σ o f' t' || (decide (f' = f) && (decide (w ≤ t' / 64) && eb_ σ o m t'))) := by
  intro d
  induction d with
  | zero =>
    intro w k σ hw hk h
    obtain ⟨k, rfl⟩ : ∃ j, k = j + 1 := ⟨k - 1, by omega⟩
    refine ⟨σ, ?_, fl2_rf, fun f' t' ht => ?_⟩
    · rw [sX4_addRow_10]
      unfold fX4_addRow_10b
      rw [if_pos (n4_t (by omega) (by omega))]
    · rw [decide_eq_false (show ¬ w ≤ t' / 64 by omega), Bool.false_and, Bool.and_false, Bool.or_false]
  | succ d ih =>
    intro w k σ hw hk h
    obtain ⟨k, rfl⟩ : ∃ j, k = j + 1 := ⟨k - 1, by omega⟩
    have f1 : fl2_ o σ (uJ_ σ o (4 * f + w) (σ.2.1 o (4 * f + w) ||| σ.2.1 o (4 * m + w))) := fl2_u
    obtain ⟨σ2, r2, f2, e2⟩ := ih (w + 1) k _ (by omega) (by omega) (go_fl f1 h)
    refine ⟨σ2, ?_, fl2_tr f1 f2, fun f' t' ht => ?_⟩
    · rw [sX4_addRow_10]
      unfold fX4_addRow_10b
      rw [if_neg (n4_f (by omega)), n_w4, n_w4, h.1, h.2, if_pos (ib_t (by omega) (by omega)), if_pos (ib_t (by omega) (by omega)), if_pos (ib_t (by omega) (by omega)), n_cl (by omega), n_cl (by omega), lt_s_, n_s]
      exact r2
    · exact or_step (eb_or (by omega) ht) (eb_or (m := m) (f' := m) (by omega) ht) (e2 f' t' ht)
theorem x4_addRow {σ : js_S} {p o f m : Nat} (hf : f < 240) (hm : m < 240) (h : go_ σ p o) : ∃ σ', fX4_addRow 5000 p (nI f) (nI m) σ = some ((), σ') ∧ fl2_ o σ σ' ∧ ∀ f' t', t' < 240 → eb_ σ' o f' t' = (eb_ σ o f' t' || (decide (f' = f) && eb_ σ o m t')) := by
  obtain ⟨σ2, r2, f2, e2⟩ := x4_addRowLoop hf hm 4 0 5000 σ (by omega) (by omega) h
  refine ⟨σ2, ?_, f2, fun f' t' ht => ?_⟩
  · unfold fX4_addRow
    rw [x4_covers hf hm, bd_s, if_neg (by decide)]
    exact r2
  · rw [e2 f' t' ht, decide_eq_true (Nat.zero_le _), Bool.true_and]
/-- one row, then the rows behind it -/
theorem row_step {S S1 S2 : Nat → Nat → Bool} {f m n : Nat} (hfn : f < n) (h1 : ∀ f' t', t' < 240 → S1 f' t' = (S f' t' || (decide (f' = f) && (S f m && S m t')))) (h2 : ∀ f' t', t' < 240 → S2 f' t' = (S1 f' t' || (decide (f + 1 ≤ f') && (decide (f' < n) && (S1 f' m && S1 m t'))))) (hm : m < 240) : ∀ f' t', t' < 240 → S2 f' t' = (S f' t' || (decide (f ≤ f') && (decide (f' < n) && (S f' m && S m t')))) := by
  intro f' t' ht
  rw [h2 f' t' ht, h1 f' t' ht, h1 f' m hm, h1 m t' ht]
  by_cases c : f' = f
  · subst c
    rw [decide_eq_true (show f' = f' from rfl), decide_eq_false (show ¬ f' + 1 ≤ f' by omega), decide_eq_true (Nat.le_refl f'), decide_eq_true hfn]
    cases S f' t' <;> cases S f' m <;> cases S m t' <;> cases decide (m = f') <;> rfl
  · have e : decide (f + 1 ≤ f') = decide (f ≤ f') := by
      by_cases c2 : f ≤ f'
      · rw [decide_eq_true c2, decide_eq_true (by omega)]
      · rw [decide_eq_false c2, decide_eq_false (by omega)]
    rw [decide_eq_false c, e]
    cases S f' t' <;> cases S f' m <;> cases S m t' <;> cases decide (m = f) <;> cases decide (f ≤ f') <;> cases decide (f' < n) <;> cases S f m <;> rfl
theorem x4_paths9 {p o m n : Nat} {rc : Nat → Int32 → Int32 → js_S → Option (Unit × js_S)} (hn : n ≤ 240) (hm : m < n) : ∀ (d f k : Nat) (σ : js_S), f + d = n → d < k → go_ σ p o → ∃ σ', fX4_addPaths_9 5000 rc k p (nI n) (nI m) (nI f) σ = rc p (nI n) (nI (m + 1)) σ' ∧ fl2_ o σ σ' ∧ ∀ f' t', t' < 240 → eb_ σ' o f' t' = (eb_ σ o f' t' || (decide (f ≤ f') && (decide (f' < n) && (eb_ σ o f' m && eb_ σ o m t')))) := by
  intro d
  induction d with
  | zero =>
    intro f k σ hf hk h
    obtain ⟨k, rfl⟩ : ∃ j, k = j + 1 := ⟨k - 1, by omega⟩
    refine ⟨σ, ?_, fl2_rf, fun f' t' ht => ?_⟩
    · rw [sX4_addPaths_9]
      unfold fX4_addPaths_9b
      rw [if_pos (nle_t (by omega) (by omega)), n_s]
    · by_cases c : f ≤ f'
      · rw [decide_eq_false (show ¬ f' < n by omega), Bool.false_and, Bool.and_false, Bool.or_false]
      · rw [decide_eq_false c, Bool.false_and, Bool.or_false]
  | succ d ih =>
    intro f k σ hf hk h
    obtain ⟨k, rfl⟩ : ∃ j, k = j + 1 := ⟨k - 1, by omega⟩
    rw [sX4_addPaths_9]
    unfold fX4_addPaths_9b fX4_addPaths_29
    rw [if_neg (nle_f (by omega) (by omega)), x4_has h (show f < 240 by omega) (show m < 240 by omega), bd_s, n_s]
    cases c : eb_ σ o f m with
    | false =>
      obtain ⟨σ2, r2, f2, e2⟩ := ih (f + 1) k σ (by omega) (by omega) h
      refine ⟨σ2, by rw [bi_f, if_pos rfl, r2], f2, row_step (S := eb_ σ o) (S1 := eb_ σ o) (show f < n by omega) (fun f' t' ht => ?_) e2 (by omega)⟩
      rw [c, Bool.false_and, Bool.and_false, Bool.or_false]
    | true =>
      obtain ⟨σ1, r1, f1, e1⟩ := x4_addRow (show f < 240 by omega) (show m < 240 by omega) h
      obtain ⟨σ2, r2, f2, e2⟩ := ih (f + 1) k σ1 (by omega) (by omega) (go_fl f1 h)
      refine ⟨σ2, by rw [bi_t, if_neg (by decide), r1, bd_s, r2], fl2_tr f1 f2, row_step (S := eb_ σ o) (S1 := eb_ σ1 o) (show f < n by omega) (fun f' t' ht => ?_) e2 (by omega)⟩
      rw [c, Bool.true_and]
      exact e1 f' t' ht
theorem x4_paths2 {p o n : Nat} {E : Nat → Nat → Bool} (hn : n ≤ 240) (hE : ∀ i j, E i j = true → i < n ∧ j < n) : ∀ (d m k : Nat) (σ : js_S), m + d = n → d < k → go_ σ p o → (∀ f t, t < 240 → f < 240 → eb_ σ o f t = wr_ E m f t) → ∃ σ', fX4_addPaths_2 5000 k p (nI n) (nI m) σ = some ((), σ') ∧ fl2_ o σ σ' ∧ ∀ f t, t < 240 → f < 240 → eb_ σ' o f t = wr_ E n f t := by
  intro d
  induction d with
  | zero =>
    intro m k σ hm hk h he
    obtain ⟨k, rfl⟩ : ∃ j, k = j + 1 := ⟨k - 1, by omega⟩
    refine ⟨σ, ?_, fl2_rf, fun f t ht hf => ?_⟩
    · rw [sX4_addPaths_2]
      unfold fX4_addPaths_2b
      rw [if_pos (nle_t (by omega) (by omega))]
    · rw [he f t ht hf, show m = n by omega]
  | succ d ih =>
    intro m k σ hm hk h he
    obtain ⟨k, rfl⟩ : ∃ j, k = j + 1 := ⟨k - 1, by omega⟩
    obtain ⟨σ1, r1, f1, e1⟩ := x4_paths9 (rc := fX4_addPaths_2 5000 k) (o := o) hn (show m < n by omega) n 0 5000 σ (by omega) (by omega) h
    have he1 : ∀ f t, t < 240 → f < 240 → eb_ σ1 o f t = wr_ E (m + 1) f t := by
      intro f t ht hf
      rw [e1 f t ht, wr_s, he f t ht hf, he f m (by omega) hf, he m t ht (by omega), decide_eq_true (Nat.zero_le _), Bool.true_and]
      by_cases c : f < n
      · rw [decide_eq_true c, Bool.true_and]
      · have : wr_ E m f m = false := by
          cases q : wr_ E m f m with
          | false => rfl
          | true => exact absurd (wr_src (p := fun i => i < n) (fun i j z => (hE i j z).1) q) c
        rw [decide_eq_false c, Bool.false_and, this, Bool.false_and]
    obtain ⟨σ2, r2, f2, e2⟩ := ih (m + 1) k σ1 (by omega) (by omega) (go_fl f1 h) he1
    refine ⟨σ2, ?_, fl2_tr f1 f2, e2⟩
    rw [sX4_addPaths_2]
    unfold fX4_addPaths_2b
    rw [if_neg (nle_f (by omega) (by omega)), show fX4_addPaths_9 5000 (fX4_addPaths_2 5000 k) 5000 p (nI n) (nI m) 0 σ = _ from r1, r2]
theorem x4_copyFrom {σ : js_S} {p o q u : Nat} (h : go_ σ p o) (h2 : go_ σ q u) : ∃ σ', fX4_copyFrom 5000 p q σ = some ((), σ') ∧ fl2_ o σ σ' ∧ ∀ f t, t < 240 → f < 240 → eb_ σ' o f t = eb_ σ u f t := by
  refine ⟨cJ_ σ u 0 o 0 960, ?_, ⟨rfl, rfl, fun a ha => funext (fun b => ?_)⟩, fun f t ht hf => ?_⟩
  · unfold fX4_copyFrom
    rw [h.1, h2.1, h.2, h2.2, if_pos (by decide +kernel), lt_s_]
    rfl
  · show (if a = o ∧ 0 ≤ b ∧ b < 0 + 960 then _ else _) = _
    rw [if_neg (fun z => ha z.1)]
  · unfold eb_
    show jb_ (if o = o ∧ 0 ≤ 4 * f + t / 64 ∧ 4 * f + t / 64 < 0 + 960 then σ.2.1 u (0 + (4 * f + t / 64 - 0)) else _) _ = _
    rw [if_pos ⟨rfl, by omega, by omega⟩, Nat.zero_add, Nat.sub_zero]
