/-! the model: components -/
theorem jb_clr {x : Int64} {k i : Nat} (hk : k < 64) (hi : i < 64) : jb_ (x &&& (((1 : Int64) <<< Int64.ofNat k) ^^^ (-1 : Int64))) i = (jb_ x i && !decide (i = k)) := by
  have h1 := jb_one hk hi
  unfold jb_ at h1 ⊢
  rw [Int64.toBitVec_and, BitVec.getLsbD_and, Int64.toBitVec_xor, BitVec.getLsbD_xor, h1]
  have e : ((-1 : Int64).toBitVec).getLsbD i = true := by
    have : ∀ i, i < 64 → ((-1 : Int64).toBitVec).getLsbD i = true := by decide +kernel
    exact this i hi
  rw [e, Bool.xor_true]
/-- rows of the pairs left: words taken over -/
theorem m_fc12 {i : Nat} {b : Bool} {rc : Nat → Int32 → js_S → Option (Unit × js_S)} (hi : i < 240) :
    ∀ (d w k : Nat) (σ : js_S), w + d = 4 → d < k → lm_ σ.2.2 → σ.1 407 i = bi_ b → ∃ σ', fX12_findComponents_12 5000 rc k 390 (nI i) (nI w) σ = fX12_findComponents_58 5000 rc 5000 390 (nI i) 0 σ' ∧ fl2_ 406 σ σ' ∧ ∀ f t, t < 240 → eb_ σ' 406 f t = if f = i ∧ w ≤ t / 64 then (b && eb_ σ 405 i t) else eb_ σ 406 f t := by
  intro d
  induction d with
  | zero =>
    intro w k σ hw hk hm hb
    obtain ⟨k, rfl⟩ : ∃ j, k = j + 1 := ⟨k - 1, by omega⟩
    refine ⟨σ, ?_, fl2_rf, fun f t ht => ?_⟩
    · rw [sX12_findComponents_12]
      unfold fX12_findComponents_12b
      rw [if_pos (n4_t (by omega) (by omega))]
    · rw [if_neg (by omega)]
  | succ d ih =>
    intro w k σ hw hk hm hb
    obtain ⟨k, rfl⟩ : ∃ j, k = j + 1 := ⟨k - 1, by omega⟩
    have key : ∀ x : Int64, (∀ q, jb_ x q = (b && jb_ (σ.2.1 405 (4 * i + w)) q)) → ∃ σ', fX12_findComponents_49 5000 rc (fX12_findComponents_12 5000 rc k) 390 (nI i) (nI w) x (nI (4 * i + w)) 406 σ = fX12_findComponents_58 5000 rc 5000 390 (nI i) 0 σ' ∧ fl2_ 406 σ σ' ∧ ∀ f t, t < 240 → eb_ σ' 406 f t = if f = i ∧ w ≤ t / 64 then (b && eb_ σ 405 i t) else eb_ σ 406 f t := by
      intro x hx
      have f1 : fl2_ 406 σ (uJ_ σ 406 (4 * i + w) x) := fl2_u
      obtain ⟨σ2, r2, f2, e2⟩ := ih (w + 1) k (uJ_ σ 406 (4 * i + w) x) (by omega) (by omega) hm hb
      refine ⟨σ2, ?_, fl2_tr f1 f2, fun f t ht => ?_⟩
      · unfold fX12_findComponents_49
        rw [ln_406, if_pos (ib_t (by omega) (by omega)), n_cl (by omega), lt_s_, n_s]
        exact r2
      · have e5 : eb_ (uJ_ σ 406 (4 * i + w) x) 405 i t = eb_ σ 405 i t := by unfold eb_; rw [f1.2.2 405 (by omega)]
        rw [e2 f t ht, e5]
        by_cases c : f = i ∧ w + 1 ≤ t / 64
        · rw [if_pos c, if_pos ⟨c.1, by omega⟩]
        · rw [if_neg c, eb_u (by omega) ht]
          by_cases c2 : f = i ∧ t / 64 = w
          · rw [if_pos c2, if_pos ⟨c2.1, by omega⟩, hx]
            unfold eb_
            rw [c2.2]
          · rw [if_neg c2, if_neg (by omega)]
    rw [sX12_findComponents_12]
    unfold fX12_findComponents_12b
    rw [if_neg (n4_f (by omega)), lm_21 hm, ln_407, if_pos (ib_t (by omega) (by omega)), n_cl (by omega), hb, n_4w, lm_20 hm, lm_19 hm, ln_405]
    cases b with
    | false =>
      rw [bi_f, if_pos rfl]
      exact key 0 (fun q => jb_0)
    | true =>
      rw [bi_t, if_neg (by decide), if_pos (ib_t (by omega) (by omega)), n_cl (by omega)]
      exact key _ (fun q => (Bool.true_and _).symm)
theorem clr_step {i j n f t : Nat} {e : Nat → Bool} (hj : j < n) : (!(decide (f = i) && (decide (j ≤ t) && (decide (t < n) && e t)))) = ((!(e j && (decide (f = i) && decide (t = j)))) && !(decide (f = i) && (decide (j + 1 ≤ t) && (decide (t < n) && e t)))) := by
  rw [con_step hj, Bool.not_or]
theorem m_fc58 {i n : Nat} {L : Nat → Bool} {rc : Nat → Int32 → js_S → Option (Unit × js_S)} (hi : i < 240) (hn240 : n ≤ 240) :
    ∀ (d j k : Nat) (σ : js_S), j + d = n → d < k → lm_ σ.2.2 → σ.1 390 23 = nI n → (∀ f, f < n → σ.1 407 f = bi_ (L f)) → ∃ σ', fX12_findComponents_58 5000 rc k 390 (nI i) (nI j) σ = rc 390 (nI (i + 1)) σ' ∧ fl2_ 406 σ σ' ∧ ∀ f t, t < 240 → eb_ σ' 406 f t = (eb_ σ 406 f t && !(decide (f = i) && (decide (j ≤ t) && (decide (t < n) && !L t)))) := by
  intro d
  induction d with
  | zero =>
    intro j k σ hj hk hm hn hl
    obtain ⟨k, rfl⟩ : ∃ j, k = j + 1 := ⟨k - 1, by omega⟩
    refine ⟨σ, ?_, fl2_rf, fun f t ht => ?_⟩
    · rw [sX12_findComponents_58]
      unfold fX12_findComponents_58b
      rw [hn, if_pos (nle_t (by omega) (by omega)), n_s]
    · by_cases c : j ≤ t
      · rw [decide_eq_false (show ¬ t < n by omega), Bool.false_and, Bool.and_false, Bool.and_false, Bool.not_false, Bool.and_true]
      · rw [decide_eq_false c, Bool.false_and, Bool.and_false, Bool.not_false, Bool.and_true]
  | succ d ih =>
    intro j k σ hj hk hm hn hl
    obtain ⟨k, rfl⟩ : ∃ j, k = j + 1 := ⟨k - 1, by omega⟩
    rw [sX12_findComponents_58]
    unfold fX12_findComponents_58b fX12_findComponents_98
    rw [hn, if_neg (nle_f (by omega) (by omega)), lm_21 hm, ln_407, if_pos (ib_t (by omega) (by omega)), n_cl (by omega), hl j (by omega), n_4c (show j < 240 by omega), lm_20 hm, ln_406, if_pos (ib_t (show 4 * i + j / 64 < 960 by omega) (by omega)), if_pos (ib_t (show 4 * i + j / 64 < 960 by omega) (by omega)), n_cl (show 4 * i + j / 64 < 2147483648 by omega), d_65 (show j < 240 by omega), n_s]
    cases c : L j with
    | true =>
      obtain ⟨σ2, r2, f2, e2⟩ := ih (j + 1) k σ (by omega) (by omega) hm hn hl
      refine ⟨σ2, by rw [bi_t, if_neg (by decide), r2], f2, fun f t ht => ?_⟩
      rw [e2 f t ht, clr_step (e := fun t => !L t) (show j < n by omega)]
      show _ = (_ && ((!(!L j && _)) && _))
      rw [c, Bool.not_true, Bool.false_and, Bool.not_false, Bool.true_and]
    | false =>
      have f1 : fl2_ 406 σ (uJ_ σ 406 (4 * i + j / 64) (σ.2.1 406 (4 * i + j / 64) &&& (((1 : Int64) <<< Int64.ofNat (j % 64)) ^^^ (-1 : Int64)))) := fl2_u
      obtain ⟨σ2, r2, f2, e2⟩ := ih (j + 1) k (uJ_ σ 406 (4 * i + j / 64) (σ.2.1 406 (4 * i + j / 64) &&& (((1 : Int64) <<< Int64.ofNat (j % 64)) ^^^ (-1 : Int64)))) (by omega) (by omega) hm hn hl
      refine ⟨σ2, by rw [bi_f, if_pos rfl, lt_s_, r2], fl2_tr f1 f2, fun f t ht => ?_⟩
      rw [e2 f t ht, clr_step (e := fun t => !L t) (show j < n by omega)]
      show _ = (_ && ((!(!L j && _)) && _))
      rw [c, Bool.not_false, Bool.true_and]
      have hx : eb_ (uJ_ σ 406 (4 * i + j / 64) (σ.2.1 406 (4 * i + j / 64) &&& (((1 : Int64) <<< Int64.ofNat (j % 64)) ^^^ (-1 : Int64)))) 406 f t = (eb_ σ 406 f t && !(decide (f = i) && decide (t = j))) := by
        rw [eb_u (by omega) ht]
        by_cases c2 : f = i ∧ t / 64 = j / 64
        · rw [if_pos c2, jb_clr (by omega) (by omega), decide_eq_true c2.1, Bool.true_and]
          have e : decide (t % 64 = j % 64) = decide (t = j) := by
            by_cases q : t = j
            · rw [decide_eq_true q, decide_eq_true (by rw [q])]
            · rw [decide_eq_false q, decide_eq_false (by omega)]
          rw [e]
          unfold eb_
          rw [c2.1, c2.2]
        · rw [if_neg c2]
          have : (decide (f = i) && decide (t = j)) = false := by
            by_cases q : f = i
            · rw [decide_eq_false (show ¬ t = j from fun z => c2 ⟨q, by rw [z]⟩), Bool.and_false]
            · rw [decide_eq_false q, Bool.false_and]
          rw [this, Bool.not_false, Bool.and_true]
      rw [hx, Bool.and_assoc]
/-- the edges among the pairs left -/
def e2_ (y : js_Y) (L : Nat → Bool) (i j : Nat) : Bool := (decide (i < (pp_ y).length) && (decide (j < (pp_ y).length) && ee_ y i j)) && (L i && L j)
theorem mg_fl {o : Nat} {σ σ' : js_S} {y : js_Y} {L : Nat → Bool} (ho : 405 < o) (h : fl2_ o σ σ') (hm : mg_ σ y L) : mg_ σ' y L := ⟨ms_fl (by omega) h hm.1, mr_fl h hm.2.1, by rw [h.1]; exact hm.2.2.1, by rw [h.1]; exact hm.2.2.2.1, fun f t hf ht => by unfold eb_; rw [h.2.2 405 (by omega)]; exact hm.2.2.2.2 f t hf ht⟩
theorem m_fc2 {y : js_Y} {L : Nat → Bool} (g : gy_ y) :
    ∀ (d i k : Nat) (σ : js_S), i + d = (pp_ y).length → d < k → mg_ σ y L → (∀ f t, f < i → t < 240 → eb_ σ 406 f t = e2_ y L f t) → ∃ σ', fX12_findComponents_2 5000 k 390 (nI i) σ = fX12_findComponents_112 5000 5000 390 0 σ' ∧ fl2_ 406 σ σ' ∧ ∀ f t, f < (pp_ y).length → t < 240 → eb_ σ' 406 f t = e2_ y L f t := by
  have h240 := pp_len g
  intro d
  induction d with
  | zero =>
    intro i k σ hi hk hm he
    obtain ⟨k, rfl⟩ : ∃ j, k = j + 1 := ⟨k - 1, by omega⟩
    refine ⟨σ, ?_, fl2_rf, fun f t hf ht => he f t (by omega) ht⟩
    rw [sX12_findComponents_2]
    unfold fX12_findComponents_2b
    rw [hm.2.2.1, if_pos (nle_t (by omega) (by omega))]
  | succ d ih =>
    intro i k σ hi hk hm he
    obtain ⟨k, rfl⟩ : ∃ j, k = j + 1 := ⟨k - 1, by omega⟩
    obtain ⟨σ1, r1, f1, e1⟩ := m_fc12 (rc := fX12_findComponents_2 5000 k) (i := i) (b := L i) (by omega) 4 0 5000 σ (by omega) (by omega) hm.1.1 (hm.2.2.2.1 i (by omega))
    have hm1 := mg_fl (by omega) f1 hm
    obtain ⟨σ2, r2, f2, e2⟩ := m_fc58 (rc := fX12_findComponents_2 5000 k) (i := i) (L := L) (by omega) h240 (pp_ y).length 0 5000 σ1 (by omega) (by omega) hm1.1.1 hm1.2.2.1 hm1.2.2.2.1
    have he2 : ∀ f t, f < i + 1 → t < 240 → eb_ σ2 406 f t = e2_ y L f t := by
      intro f t hf ht
      rw [e2 f t ht, e1 f t ht]
      by_cases c : f = i
      · rw [if_pos ⟨c, Nat.zero_le _⟩, hm.2.2.2.2 i t (by omega) ht, c, decide_eq_true (show i = i from rfl), decide_eq_true (Nat.zero_le t)]
        unfold e2_
        rw [decide_eq_true (show i < (pp_ y).length by omega)]
        cases L i <;> cases decide (t < (pp_ y).length) <;> cases ee_ y i t <;> cases L t <;> rfl
      · rw [if_neg (fun z => c z.1), decide_eq_false c, Bool.false_and, Bool.not_false, Bool.and_true]
        exact he f t (by omega) ht
    obtain ⟨σ3, r3, f3, e3⟩ := ih (i + 1) k σ2 (by omega) (by omega) (mg_fl (by omega) f2 hm1) he2
    refine ⟨σ3, ?_, fl2_tr f1 (fl2_tr f2 f3), e3⟩
    rw [sX12_findComponents_2]
    unfold fX12_findComponents_2b
    rw [hm.2.2.1, if_neg (nle_f (by omega) (by omega)), show fX12_findComponents_12 5000 (fX12_findComponents_2 5000 k) 5000 390 (nI i) 0 σ = _ from r1, show fX12_findComponents_58 5000 (fX12_findComponents_2 5000 k) 5000 390 (nI i) 0 σ1 = _ from r2, r3]
theorem m_fc144 {f m : Nat} {rc112 : Nat → Int32 → js_S → Option (Unit × js_S)} {rc122 : Nat → Int32 → Int32 → js_S → Option (Unit × js_S)} (hf : f < 240) (hm : m < 240) : ∀ (d w k : Nat) (σ : js_S), w + d = 4 → d < k → lm_ σ.2.2 → ∃ σ', fX12_findComponents_144 5000 rc112 rc122 k 390 (nI m) (nI f) (nI w) σ = rc122 390 (nI m) (nI (f + 1)) σ' ∧ fl2_ 406 σ σ' ∧ ∀ f' t', t' < 240 → eb_ σ' 406 f' t' = (eb_ σ 406 f' t' || (decide (f' = f) && (decide (w ≤ t' / 64) && eb_ σ 406 m t'))) := by
  intro d
  induction d with
  | zero =>
    intro w k σ hw hk h
    obtain ⟨k, rfl⟩ : ∃ j, k = j + 1 := ⟨k - 1, by omega⟩
    refine ⟨σ, ?_, fl2_rf, fun f' t' ht => ?_⟩
    · rw [sX12_findComponents_144]
      unfold fX12_findComponents_144b fX12_findComponents_178
      rw [if_pos (n4_t (by omega) (by omega)), n_s]
    · rw [decide_eq_false (show ¬ w ≤ t' / 64 by omega), Bool.false_and, Bool.and_false, Bool.or_false]
  | succ d ih =>
    intro w k σ hw hk h
    obtain ⟨k, rfl⟩ : ∃ j, k = j + 1 := ⟨k - 1, by omega⟩
    have f1 : fl2_ 406 σ (uJ_ σ 406 (4 * f + w) (σ.2.1 406 (4 * f + w) ||| σ.2.1 406 (4 * m + w))) := fl2_u
    obtain ⟨σ2, r2, f2, e2⟩ := ih (w + 1) k (uJ_ σ 406 (4 * f + w) (σ.2.1 406 (4 * f + w) ||| σ.2.1 406 (4 * m + w))) (by omega) (by omega) h
    refine ⟨σ2, ?_, fl2_tr f1 f2, fun f' t' ht => ?_⟩
    · rw [sX12_findComponents_144]
      unfold fX12_findComponents_144b
      rw [if_neg (n4_f (by omega)), n_4w, n_4w, lm_20 h, ln_406, if_pos (ib_t (by omega) (by omega)), if_pos (ib_t (by omega) (by omega)), if_pos (ib_t (by omega) (by omega)), n_cl (by omega), n_cl (by omega), lt_s_, n_s]
      exact r2
    · exact or_step (eb_or (by omega) ht) (eb_or (m := m) (f' := m) (by omega) ht) (e2 f' t' ht)
theorem m_fc122 {m n : Nat} {rc : Nat → Int32 → js_S → Option (Unit × js_S)} (hn : n ≤ 240) (hm : m < n) : ∀ (d f k : Nat) (σ : js_S), f + d = n → d < k → lm_ σ.2.2 → σ.1 390 23 = nI n → ∃ σ', fX12_findComponents_122 5000 rc k 390 (nI m) (nI f) σ = rc 390 (nI (m + 1)) σ' ∧ fl2_ 406 σ σ' ∧ ∀ f' t', t' < 240 → eb_ σ' 406 f' t' = (eb_ σ 406 f' t' || (decide (f ≤ f') && (decide (f' < n) && (eb_ σ 406 f' m && eb_ σ 406 m t')))) := by
  intro d
  induction d with
  | zero =>
    intro f k σ hf hk h h23
    obtain ⟨k, rfl⟩ : ∃ j, k = j + 1 := ⟨k - 1, by omega⟩
    refine ⟨σ, ?_, fl2_rf, fun f' t' ht => ?_⟩
    · rw [sX12_findComponents_122]
      unfold fX12_findComponents_122b
      rw [h23, if_pos (nle_t (by omega) (by omega)), n_s]
    · by_cases c : f ≤ f'
      · rw [decide_eq_false (show ¬ f' < n by omega), Bool.false_and, Bool.and_false, Bool.or_false]
      · rw [decide_eq_false c, Bool.false_and, Bool.or_false]
  | succ d ih =>
    intro f k σ hf hk h h23
    obtain ⟨k, rfl⟩ : ∃ j, k = j + 1 := ⟨k - 1, by omega⟩
    rw [sX12_findComponents_122]
    unfold fX12_findComponents_122b fX12_findComponents_178
    rw [h23, if_neg (nle_f (by omega) (by omega)), lm_20 h, m_hasBit ln_406 (show f < 240 by omega) (show m < 240 by omega), bd_s]
    cases c : eb_ σ 406 f m with
    | false =>
      obtain ⟨σ2, r2, f2, e2⟩ := ih (f + 1) k σ (by omega) (by omega) h h23
      refine ⟨σ2, by rw [bi_f, if_pos rfl, n_s, r2], f2, row_step (S := eb_ σ 406) (S1 := eb_ σ 406) (show f < n by omega) (fun f' t' ht => ?_) e2 (by omega)⟩
      rw [c, Bool.false_and, Bool.and_false, Bool.or_false]
    | true =>
      obtain ⟨σ1, r1, f1, e1⟩ := m_fc144 (rc112 := rc) (rc122 := fX12_findComponents_122 5000 rc k) (show f < 240 by omega) (show m < 240 by omega) 4 0 5000 σ (by omega) (by omega) h
      obtain ⟨σ2, r2, f2, e2⟩ := ih (f + 1) k σ1 (by omega) (by omega) (by rw [f1.2.1]; exact h) (by rw [f1.1]; exact h23)
      refine ⟨σ2, ?_, fl2_tr f1 f2, row_step (S := eb_ σ 406) (S1 := eb_ σ1 406) (show f < n by omega) (fun f' t' ht => ?_) e2 (by omega)⟩
      · rw [bi_t, if_neg (by decide), show fX12_findComponents_144 5000 rc (fX12_findComponents_122 5000 rc k) 5000 390 (nI m) (nI f) 0 σ = _ from r1, r2]
      · rw [e1 f' t' ht, c, Bool.true_and, decide_eq_true (Nat.zero_le _), Bool.true_and]
theorem m_fc112 {n : Nat} {E : Nat → Nat → Bool} (hn : n ≤ 240) : ∀ (d m k : Nat) (σ : js_S), m + d = n → d < k → lm_ σ.2.2 → σ.1 390 23 = nI n → (∀ f t, f < n → t < 240 → eb_ σ 406 f t = wr_ E m f t) → ∃ σ', fX12_findComponents_112 5000 k 390 (nI m) σ = fX12_findComponents_197 5000 5000 390 0 (uI_ σ' 390 24 0) ∧ fl2_ 406 σ σ' ∧ ∀ f t, f < n → t < 240 → eb_ σ' 406 f t = wr_ E n f t := by
  intro d
  induction d with
  | zero =>
    intro m k σ hm hk h h23 he
    obtain ⟨k, rfl⟩ : ∃ j, k = j + 1 := ⟨k - 1, by omega⟩
    refine ⟨σ, ?_, fl2_rf, fun f t hf ht => ?_⟩
    · rw [sX12_findComponents_112]
      unfold fX12_findComponents_112b
      rw [h23, if_pos (nle_t (by omega) (by omega)), lt_s_]
    · rw [he f t hf ht, show m = n by omega]
  | succ d ih =>
    intro m k σ hm hk h h23 he
    obtain ⟨k, rfl⟩ : ∃ j, k = j + 1 := ⟨k - 1, by omega⟩
    obtain ⟨σ1, r1, f1, e1⟩ := m_fc122 (rc := fX12_findComponents_112 5000 k) hn (show m < n by omega) n 0 5000 σ (by omega) (by omega) h h23
    have he1 : ∀ f t, f < n → t < 240 → eb_ σ1 406 f t = wr_ E (m + 1) f t := by
      intro f t hf ht
      rw [e1 f t ht, wr_s, he f t hf ht, he f m hf (by omega), he m t (by omega) ht, decide_eq_true (Nat.zero_le _), Bool.true_and, decide_eq_true hf, Bool.true_and]
    obtain ⟨σ2, r2, f2, e2⟩ := ih (m + 1) k σ1 (by omega) (by omega) (by rw [f1.2.1]; exact h) (by rw [f1.1]; exact h23) he1
    refine ⟨σ2, ?_, fl2_tr f1 f2, e2⟩
    rw [sX12_findComponents_112]
    unfold fX12_findComponents_112b
    rw [h23, if_neg (nle_f (by omega) (by omega)), show fX12_findComponents_122 5000 (fX12_findComponents_112 5000 k) 5000 390 (nI m) 0 σ = _ from r1, r2]
