/-! edgeCount -/
def to2_ (σ : js_S) (o : Nat) : Nat → Nat → Nat
  | 0, _ => 0
  | d + 1, w => bu_ (jb_ (σ.2.1 o w)) 64 0 + to2_ σ o d (w + 1)
theorem to2_s {σ : js_S} {o d w : Nat} : to2_ σ o (d + 1) w = bu_ (jb_ (σ.2.1 o w)) 64 0 + to2_ σ o d (w + 1) := rfl
theorem to2_le {σ : js_S} {o : Nat} : ∀ {d w : Nat}, to2_ σ o d w ≤ 64 * d
  | 0, w => Nat.le_refl _
  | d + 1, w => by
    have h1 := to2_le (σ := σ) (o := o) (d := d) (w := w + 1)
    have h2 := bu_le (p := jb_ (σ.2.1 o w)) (d := 64) (j := 0)
    rw [to2_s]
    omega
theorem x4_totalLoop {σ : js_S} {p o : Nat} (h : go_ σ p o) : ∀ (d w k a : Nat), w + d = 960 → d < k → a ≤ 64 * w → fX4_total_4 5000 k p (nI a) (nI w) σ = some (nI (a + to2_ σ o d w), σ) := by
  intro d
  induction d with
  | zero =>
    intro w k a hw hk ha
    obtain ⟨k, rfl⟩ : ∃ j, k = j + 1 := ⟨k - 1, by omega⟩
    rw [sX4_total_4]
    unfold fX4_total_4b
    rw [h.1, h.2, n_of, if_pos (nle_t (by omega) (by omega))]
    rfl
  | succ d ih =>
    intro w k a hw hk ha
    obtain ⟨k, rfl⟩ : ∃ j, k = j + 1 := ⟨k - 1, by omega⟩
    have hb := bu_le (p := jb_ (σ.2.1 o w)) (d := 64) (j := 0)
    rw [sX4_total_4, to2_s]
    unfold fX4_total_4b
    rw [h.1, h.2, n_of, if_neg (nle_f (by omega) (by omega)), if_pos (ib_t (by omega) (by omega)), n_cl (by omega), j13_bitCount, bd_s, n_s, n_add, ih (w + 1) k _ (by omega) (by omega) (by omega), Nat.add_assoc]
/-- by rows -/
def ro_ (E : Nat → Nat → Bool) (m : Nat) : Nat → Nat → Nat
  | 0, _ => 0
  | d + 1, f => bu_ (E f) m 0 + ro_ E m d (f + 1)
theorem ro_s {E : Nat → Nat → Bool} {m d f : Nat} : ro_ E m (d + 1) f = bu_ (E f) m 0 + ro_ E m d (f + 1) := rfl
theorem bu_row {σ : js_S} {o f : Nat} : bu_ (eb_ σ o f) 256 0 = bu_ (jb_ (σ.2.1 o (4 * f))) 64 0 + (bu_ (jb_ (σ.2.1 o (4 * f + 1))) 64 0 + (bu_ (jb_ (σ.2.1 o (4 * f + 1 + 1))) 64 0 + bu_ (jb_ (σ.2.1 o (4 * f + 1 + 1 + 1))) 64 0)) := by
  have e : ∀ q, q < 4 → bu_ (eb_ σ o f) 64 (64 * q) = bu_ (jb_ (σ.2.1 o (4 * f + q))) 64 0 := by
    intro q hq
    apply bu_ext
    intro k hk
    unfold eb_
    rw [show (64 * q + k) / 64 = q by omega, show (64 * q + k) % 64 = 0 + k by omega]
  have e0 := e 0 (by omega)
  rw [Nat.mul_zero, Nat.add_zero] at e0
  rw [show (256 : Nat) = 64 + (64 + (64 + 64)) by rfl, bu_add, bu_add, bu_add, show (0 : Nat) + 64 = 64 * 1 by rfl, show 64 * 1 + 64 = 64 * 2 by rfl, show 64 * 2 + 64 = 64 * 3 by rfl, e0, e 1 (by omega), e 2 (by omega), e 3 (by omega)]
theorem to2_ro {σ : js_S} {o : Nat} : ∀ {d f : Nat}, to2_ σ o (4 * d) (4 * f) = ro_ (eb_ σ o) 256 d f
  | 0, f => rfl
  | d + 1, f => by
    rw [show 4 * (d + 1) = 4 * d + 1 + 1 + 1 + 1 by omega, to2_s, to2_s, to2_s, to2_s, show 4 * f + 1 + 1 + 1 + 1 = 4 * (f + 1) by omega, to2_ro, ro_s, bu_row]
    omega
/-- the edges counted -/
theorem ro_cut {E B : Nat → Nat → Bool} {n : Nat} (hn : n ≤ 240) (h : ∀ f t, f < 240 → t < 256 → B f t = (decide (f < n) && (decide (t < n) && E f t))) : ∀ {d f : Nat}, f + d = 240 → ro_ B 256 d f = ro_ E n (n - f) f
  | 0, f, hf => by rw [show n - f = 0 by omega]; rfl
  | d + 1, f, hf => by
    rw [ro_s, ro_cut hn h (d := d) (f := f + 1) (by omega)]
    by_cases c : f < n
    · have e : bu_ (B f) (n + (256 - n)) 0 = bu_ (E f) n 0 := by
        rw [bu_add, bu_0 (d := 256 - n) (fun k hk => ?_), Nat.add_zero]
        · apply bu_ext
          intro k hk
          rw [h f (0 + k) (by omega) (by omega), decide_eq_true c, decide_eq_true (show 0 + k < n by omega)]
          rfl
        · rw [h f _ (by omega) (by omega), decide_eq_false (show ¬ 0 + n + k < n by omega), Bool.false_and, Bool.and_false]
      rw [show n + (256 - n) = 256 by omega] at e
      rw [show n - f = (n - (f + 1)) + 1 by omega, ro_s, e]
    · rw [show n - f = 0 by omega, show n - (f + 1) = 0 by omega, bu_0 (fun k hk => ?_)]
      · rfl
      · rw [h f _ (by omega) (by omega), decide_eq_false c, Bool.false_and]
theorem ro_le {E : Nat → Nat → Bool} {m : Nat} : ∀ {d f : Nat}, ro_ E m d f ≤ m * d
  | 0, f => Nat.zero_le _
  | d + 1, f => by
    have h1 := ro_le (E := E) (m := m) (d := d) (f := f + 1)
    have h2 := bu_le (p := E f) (d := m) (j := 0)
    rw [ro_s, Nat.mul_succ]
    omega
theorem m_ec17 {y : js_Y} {i : Nat} {rc : Nat → Int32 → Int32 → Int32 → js_S → Option (Int32 × js_S)} {σ : js_S} (g : gy_ y) (hm : ms_ σ y) (hp : mr_ σ (pp_ y)) (hi : i < (pp_ y).length) : ∀ (d j k a : Nat), j + d = (pp_ y).length → d < k → fX12_edgeCount_17 5000 rc k 390 (nI (pp_ y).length) (nI a) (nI i) (nI j) σ = rc 390 (nI (pp_ y).length) (nI (a + bu_ (ee_ y i) d j)) (nI (i + 1)) σ := by
  have h240 := pp_len g
  intro d
  induction d with
  | zero =>
    intro j k a hj hk
    obtain ⟨k, rfl⟩ : ∃ j, k = j + 1 := ⟨k - 1, by omega⟩
    rw [sX12_edgeCount_17]
    unfold fX12_edgeCount_17b
    rw [if_pos (nle_t (by omega) (by omega)), n_s]
    rfl
  | succ d ih =>
    intro j k a hj hk
    obtain ⟨k, rfl⟩ : ∃ j, k = j + 1 := ⟨k - 1, by omega⟩
    rw [sX12_edgeCount_17, bu_s]
    unfold fX12_edgeCount_17b fX12_edgeCount_39
    rw [if_neg (nle_f (by omega) (by omega)), m_isEdge g hm hp hi (show j < (pp_ y).length by omega), bd_s, n_s]
    cases c : ee_ y i j with
    | false =>
      rw [bi_f, if_pos rfl, if_neg Bool.false_ne_true, show nI a + 0 = nI (a + 0) from n_add a 0, ih (j + 1) k _ (by omega) (by omega), Nat.add_zero, Nat.zero_add]
    | true =>
      rw [bi_t, if_neg (by decide), if_pos rfl, n_s, ih (j + 1) k _ (by omega) (by omega), Nat.add_assoc]
theorem m_ec9 {y : js_Y} {σ : js_S} (g : gy_ y) (hm : ms_ σ y) (hp : mr_ σ (pp_ y)) : ∀ (d i k a : Nat), i + d = (pp_ y).length → d < k → fX12_edgeCount_9 5000 k 390 (nI (pp_ y).length) (nI a) (nI i) σ = some (nI (a + ro_ (ee_ y) (pp_ y).length d i), σ) := by
  have h240 := pp_len g
  intro d
  induction d with
  | zero =>
    intro i k a hi hk
    obtain ⟨k, rfl⟩ : ∃ j, k = j + 1 := ⟨k - 1, by omega⟩
    rw [sX12_edgeCount_9]
    unfold fX12_edgeCount_9b
    rw [if_pos (nle_t (by omega) (by omega))]
    rfl
  | succ d ih =>
    intro i k a hi hk
    obtain ⟨k, rfl⟩ : ∃ j, k = j + 1 := ⟨k - 1, by omega⟩
    rw [sX12_edgeCount_9, ro_s]
    unfold fX12_edgeCount_9b
    rw [if_neg (nle_f (by omega) (by omega)), show fX12_edgeCount_17 5000 (fX12_edgeCount_9 5000 k) 5000 390 (nI (pp_ y).length) (nI a) (nI i) 0 σ = _ from m_ec17 g hm hp (show i < (pp_ y).length by omega) (pp_ y).length 0 5000 a (by omega) (by omega), ih (i + 1) k _ (by omega) (by omega), Nat.add_assoc]
theorem op_edgeCount {σ : js_S} {y : js_Y} {sn : Option js_Y} {tx : List Int32} (h : iv_ σ y sn tx) (hc : ch_ σ y) : ∃ r σ1 σ2, fX11_edgeCount 5000 1 σ = some (r, σ1) ∧ fX12_edgeCount 5000 390 σ1 = some (r, σ2) ∧ iv_ σ2 y sn tx ∧ ch_ σ2 y := by
  have g := h.2.2.1
  have h240 := pp_len g
  obtain ⟨σ1, r1, a1, a2, a3, a4, a5⟩ := x_pairs h hc
  obtain ⟨σ2, r2, f2, p2⟩ := m_findPairs g (iv_ms a1)
  have fm2 := fm_34 f2
  refine ⟨nI (ro_ (ee_ y) (pp_ y).length (pp_ y).length 0), σ1, σ2, ?_, ?_, fin2_ a1 a2 fm2⟩
  · unfold fX11_edgeCount fX4_total
    have hgo : go_ σ1 370 371 := ⟨lx_370_0 a1.1.1, ln_371⟩
    have e1 : to2_ σ1 371 960 0 = ro_ (ee_ y) (pp_ y).length (pp_ y).length 0 := by
      rw [show to2_ σ1 371 960 0 = to2_ σ1 371 (4 * 240) (4 * 0) from rfl, to2_ro, ro_cut (n := (pp_ y).length) h240 a3.2 (by omega), Nat.sub_zero]
    rw [r1, bd_s, lx_366_3 a1.1.1, show fX4_total_4 5000 5000 370 0 0 σ1 = _ from x4_totalLoop hgo 960 0 5000 0 (by omega) (by omega) (by omega), bd_s, e1, Nat.zero_add]
  · unfold fX12_edgeCount
    rw [r2, bd_s, show fX12_edgeCount_9 5000 5000 390 (nI (pp_ y).length) 0 0 σ2 = _ from m_ec9 g (ms_fm fm2 (iv_ms a1)) p2 (pp_ y).length 0 5000 0 (by omega) (by omega), Nat.zero_add]
