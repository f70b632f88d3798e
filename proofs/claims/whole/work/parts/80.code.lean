/-! codes of size-change graphs -/
theorem n_div {a b : Nat} (ha : a < 2147483648) (hb : b < 2147483648) : nI a / nI b = nI (a / b) := by
  have h1 : a / b ≤ a := Nat.div_le_self a b
  have h0 : (0 : Int) ≤ ((a / b : Nat) : Int) := Int.natCast_nonneg _
  apply Int32.toInt_inj.mp
  rw [Int32.toInt_div, nI_toInt (by omega), nI_toInt (by omega), nI_toInt (by omega), ← Int.ofNat_tdiv]
  apply Int.bmod_eq_of_le
  · omega
  · omega
theorem n_rem {a b : Nat} (ha : a < 2147483648) (hb : b < 2147483648) : nI a - nI a / nI b * nI b = nI (a % b) := by
  have h1 : a / b * b ≤ a := Nat.div_mul_le_self a b
  rw [n_div ha hb, n_mul, n_sub h1]
  congr 1
  have := Nat.div_add_mod a b
  rw [Nat.mul_comm] at this
  omega
theorem fe_lt {x k : Nat} : fe_ x k < 4 := Nat.lt_of_le_of_lt Nat.and_le_right (by omega)
theorem fe_gd {D : Nat → Nat} (h : ∀ k, D k < 4) {k : Nat} (hk : k < 11) : fe_ (gd_ D 11) k = D k := gd_get h hk
/-- a good code -/
def gc_ (x : Nat) : Prop := ∃ D : Nat → Nat, (∀ k, D k < 3) ∧ x = gd_ D 11
theorem gc_lt {x : Nat} (h : gc_ x) : x < 4194304 := by
  obtain ⟨D, h1, rfl⟩ := h
  exact gd_lt (fun k => Nat.lt_of_lt_of_le (h1 k) (by omega)) 11
theorem gc_fe {x k : Nat} (h : gc_ x) (hk : k < 11) : fe_ x k < 3 := by
  obtain ⟨D, h1, rfl⟩ := h
  rw [fe_gd (fun k => Nat.lt_of_lt_of_le (h1 k) (by omega)) hk]
  exact h1 k
theorem gc_eq {x z : Nat} (h : gc_ x) (h2 : gc_ z) (he : ∀ k, k < 11 → fe_ x k = fe_ z k) : x = z := by
  obtain ⟨D, h1, rfl⟩ := h
  obtain ⟨E, h3, rfl⟩ := h2
  apply gd_ext
  intro k hk
  have := he k hk
  rw [fe_gd (fun k => Nat.lt_of_lt_of_le (h1 k) (by omega)) hk, fe_gd (fun k => Nat.lt_of_lt_of_le (h3 k) (by omega)) hk] at this
  exact this
theorem gc_self {x : Nat} (h : gc_ x) : x = gd_ (fe_ x) 11 := by
  obtain ⟨D, h1, rfl⟩ := h
  exact gd_ext (fun k hk => (fe_gd (fun k => Nat.lt_of_lt_of_le (h1 k) (by omega)) hk).symm)
theorem h2_lt {a b : Nat} (ha : a < 3) (hb : b < 3) : h2_ a b < 3 := by
  unfold h2_
  split
  · omega
  · omega
theorem cp2_lt {D E : Nat → Nat} (hD : ∀ k, k < 11 → D k < 3) (hE : ∀ k, k < 11 → E k < 3) : ∀ k, cp2_ D E k < 3 := by
  intro k
  unfold cp2_
  split
  · exact hE 10 (by omega)
  · split
    · exact hD 9 (by omega)
    · split
      · omega
      · have h1 := h2_lt (hD (3 * (k / 3)) (by omega)) (hE (k % 3) (by omega))
        have h2 := h2_lt (hD (3 * (k / 3) + 1) (by omega)) (hE (3 + k % 3) (by omega))
        have h3 := h2_lt (hD (3 * (k / 3) + 2) (by omega)) (hE (6 + k % 3) (by omega))
        omega
theorem cx_gc {x z : Nat} (h : gc_ x) (h2 : gc_ z) : gc_ (cx_ x z) := ⟨_, cp2_lt (fun k hk => gc_fe h hk) (fun k hk => gc_fe h2 hk), rfl⟩
theorem cx_fe {x z k : Nat} (h : gc_ x) (h2 : gc_ z) (hk : k < 11) : fe_ (cx_ x z) k = cp2_ (fe_ x) (fe_ z) k := fe_gd (fun k => Nat.lt_of_lt_of_le (cp2_lt (fun k hk => gc_fe h hk) (fun k hk => gc_fe h2 hk) k) (by omega)) hk
theorem cp2_9 {D E : Nat → Nat} : cp2_ D E 9 = D 9 := rfl
theorem cp2_10 {D E : Nat → Nat} : cp2_ D E 10 = E 10 := rfl
theorem cp2_r {D E : Nat → Nat} {i j : Nat} (hi : i < 3) (hj : j < 3) : cp2_ D E (3 * i + j) = max (max (h2_ (D (3 * i)) (E j)) (h2_ (D (3 * i + 1)) (E (3 + j)))) (h2_ (D (3 * i + 2)) (E (6 + j))) := by
  unfold cp2_
  rw [if_neg (by omega), if_neg (by omega), if_neg (by omega), show (3 * i + j) / 3 = i by omega, show (3 * i + j) % 3 = j by omega]
theorem h2_ml {a b c : Nat} : h2_ (max a b) c = max (h2_ a c) (h2_ b c) := by
  unfold h2_
  by_cases hc : c = 0
  · rw [if_pos (Or.inr hc), if_pos (Or.inr hc), if_pos (Or.inr hc)]
    rfl
  · by_cases ha : a = 0
    · by_cases hb : b = 0
      · rw [if_pos (Or.inl (by omega)), if_pos (Or.inl ha), if_pos (Or.inl hb)]
        rfl
      · rw [if_neg (by omega), if_pos (Or.inl ha), if_neg (by omega)]
        omega
    · by_cases hb : b = 0
      · rw [if_neg (by omega), if_neg (by omega), if_pos (Or.inl hb)]
        omega
      · rw [if_neg (by omega), if_neg (by omega), if_neg (by omega)]
        omega
theorem h2_comm {a b : Nat} : h2_ a b = h2_ b a := by
  unfold h2_
  rw [Nat.max_comm]
  by_cases h : a = 0 ∨ b = 0
  · rw [if_pos h, if_pos h.symm]
  · rw [if_neg h, if_neg (fun z => h z.symm)]
theorem h2_mr {a b c : Nat} : h2_ c (max a b) = max (h2_ c a) (h2_ c b) := by rw [h2_comm, h2_ml, h2_comm, h2_comm (a := b)]
theorem h2_as {a b c : Nat} : h2_ (h2_ a b) c = h2_ a (h2_ b c) := by
  unfold h2_
  by_cases ha : a = 0
  · rw [if_pos (Or.inl (if_pos (Or.inl ha))), if_pos (Or.inl ha)]
  · by_cases hb : b = 0
    · rw [if_pos (Or.inl (if_pos (Or.inr hb))), if_pos (Or.inr (if_pos (Or.inl hb)))]
    · by_cases hc : c = 0
      · rw [if_pos (Or.inr hc), if_pos (Or.inr (if_pos (Or.inr hc)))]
      · rw [if_neg (show ¬ (a = 0 ∨ b = 0) by omega), if_neg (show ¬ (b = 0 ∨ c = 0) by omega), if_neg (by omega), if_neg (by omega), Nat.max_assoc]
theorem cx_assoc {u v w : Nat} (hu : gc_ u) (hv : gc_ v) (hw : gc_ w) : cx_ (cx_ u v) w = cx_ u (cx_ v w) := by
  refine gc_eq (cx_gc (cx_gc hu hv) hw) (cx_gc hu (cx_gc hv hw)) (fun k hk => ?_)
  rw [cx_fe (cx_gc hu hv) hw hk, cx_fe hu (cx_gc hv hw) hk]
  by_cases c10 : k = 10
  · rw [c10, cp2_10, cp2_10, cx_fe hv hw (by omega), cp2_10]
  · by_cases c9 : k = 9
    · rw [c9, cp2_9, cp2_9, cx_fe hu hv (by omega), cp2_9]
    · obtain ⟨i, j, hi, hj, rfl⟩ : ∃ i j, i < 3 ∧ j < 3 ∧ k = 3 * i + j := ⟨k / 3, k % 3, by omega, by omega, by omega⟩
      have e : ∀ a b, a < 3 → b < 3 → fe_ (cx_ u v) (3 * a + b) = _ := fun a b ha hb => (cx_fe hu hv (by omega)).trans (cp2_r ha hb)
      have e' : ∀ a b, a < 3 → b < 3 → fe_ (cx_ v w) (3 * a + b) = _ := fun a b ha hb => (cx_fe hv hw (by omega)).trans (cp2_r ha hb)
      have u0 := e i 0 hi (by omega)
      have u1 := e i 1 hi (by omega)
      have u2 := e i 2 hi (by omega)
      have w0 := e' 0 j (by omega) hj
      have w1 := e' 1 j (by omega) hj
      have w2 := e' 2 j (by omega) hj
      simp only [Nat.mul_zero, Nat.add_zero, Nat.zero_add, Nat.mul_one, show 3 * 2 = 6 from rfl, show 3 + 1 = 4 from rfl, show 6 + 1 = 7 from rfl, show 3 + 2 = 5 from rfl, show 6 + 2 = 8 from rfl] at u0 u1 u2 w0 w1 w2
      rw [cp2_r hi hj, cp2_r hi hj, u0, u1, u2, w0, w1, w2]
      simp only [h2_ml, h2_mr, h2_as]
      ac_rfl
/-! what is composed of generators -/
theorem cl_gc {G : Nat → Prop} (hG : ∀ x, G x → gc_ x) : ∀ {k x : Nat}, cl2_ G k x → gc_ x
  | 0, x, h => hG x h
  | k + 1, x, h => by
    obtain ⟨u, g, h1, h2, h3, rfl⟩ := h
    exact cx_gc (cl_gc hG h1) (hG g h2)
theorem cl_comp {G : Nat → Prop} (hG : ∀ x, G x → gc_ x) : ∀ {k u v : Nat}, (∃ j, cl2_ G j u) → cl2_ G k v → fe_ u 10 = fe_ v 9 → ∃ j, cl2_ G j (cx_ u v)
  | 0, u, v, ⟨j, hu⟩, hv, hf => ⟨j + 1, u, v, hu, hv, hf, rfl⟩
  | k + 1, u, v, hu, hv, hf => by
    obtain ⟨v', g, h1, h2, h3, rfl⟩ := hv
    obtain ⟨i, hi⟩ := hu
    have gu := cl_gc hG hi
    have gv := cl_gc hG h1
    have gg := hG g h2
    rw [cx_fe gv gg (by omega), cp2_9] at hf
    obtain ⟨j, hj⟩ := cl_comp hG ⟨i, hi⟩ h1 hf
    rw [← cx_assoc gu gv gg]
    exact ⟨j + 1, cx_ u v', g, hj, h2, by rw [cx_fe gu gv (by omega), cp2_10]; exact h3, rfl⟩
theorem gn_gc {y : js_Y} : ∀ x, gn_ y x → gc_ x := by
  intro x hx
  obtain ⟨j, hj, rfl⟩ := hx
  refine ⟨fp2_ y j, fun k => ?_, rfl⟩
  show dg_ _ _ _ _ k < 3
  unfold dg_
  split
  · exact fn_lt _
  · split
    · exact fn_lt _
    · split
      · unfold rv_
        exact Nat.lt_of_le_of_lt rb_le (by omega)
      · omega
/-- all that is composed lies in a set that has the generators and is closed to the right -/
theorem cl_sub {G S : Nat → Prop} (h0 : ∀ x, G x → S x) (h1 : ∀ u g, S u → G g → fe_ u 10 = fe_ g 9 → S (cx_ u g)) : ∀ {k x : Nat}, cl2_ G k x → S x
  | 0, x, h => h0 x h
  | k + 1, x, h => by
    obtain ⟨u, g, h2, h3, h4, rfl⟩ := h
    exact h1 u g (cl_sub h0 h1 h2) h3 h4
/-! the class composes -/
theorem n_max {a b : Nat} (ha : a < 2147483648) (hb : b < 2147483648) : (if nI a < nI b then nI b else nI a) = nI (max a b) := by
  by_cases c : a < b
  · rw [if_pos (nlt_t c hb), Nat.max_eq_right (by omega)]
  · rw [if_neg (nlt_f (by omega) ha), Nat.max_eq_left (by omega)]
theorem x_chained {a b : Nat} {σ : js_S} (ha : a < 4) (hb : b < 4) : fX11_chained 5000 (nI a) (nI b) σ = some (nI (h2_ a b), σ) := by
  unfold fX11_chained fX11_chained_8 h2_
  by_cases c1 : a = 0
  · rw [if_pos (show nI a = 0 by rw [c1]; rfl), if_pos (Or.inl c1)]
    rfl
  · rw [if_neg (show ¬ nI a = 0 from neq_f (b := 0) c1 (by omega) (by omega))]
    by_cases c2 : b = 0
    · rw [if_pos (show nI b = 0 by rw [c2]; rfl), if_pos (Or.inr c2)]
      rfl
    · rw [if_neg (show ¬ nI b = 0 from neq_f (b := 0) c2 (by omega) (by omega)), n_max (by omega) (by omega), if_neg (show ¬ (a = 0 ∨ b = 0) by omega)]
theorem x_co34s {D E : Nat → Nat} {i j m b k : Nat} {x2 : Int32} {σ : js_S} {rc14 : Int32 → Int32 → Int32 → Int32 → js_S → Option (Int32 × js_S)} {rc22 : Int32 → Int32 → Int32 → Int32 → Int32 → js_S → Option (Int32 × js_S)} (hD : ∀ k, D k < 4) (hE : ∀ k, E k < 4) (hi : i < 3) (hj : j < 3) (hm : m < 3) (hb : b < 4) : fX11_composed_34 5000 rc14 rc22 (k + 1) (gg_ D) (gg_ E) x2 (nI i) (nI j) (nI b) (nI m) σ = fX11_composed_34 5000 rc14 rc22 k (gg_ D) (gg_ E) x2 (nI i) (nI j) (nI (max b (h2_ (D (3 * i + m)) (E (3 * m + j))))) (nI (m + 1)) σ := by
  have h1 := hD (3 * i + m)
  have h2 := hE (3 * m + j)
  have h3 : h2_ (D (3 * i + m)) (E (3 * m + j)) < 4 := by unfold h2_; split <;> omega
  rw [sX11_composed_34]
  unfold fX11_composed_34b
  rw [if_neg (show ¬ (3 : Int32) ≤ nI m from nle_f (a := 3) hm (by omega)), x_relationIn hD hi hm, bd_s, x_relationIn hE hm hj, bd_s, x_chained h1 h2, bd_s, n_max (by omega) (by omega), n_s]
theorem de_step {C : Nat → Nat} {n : Nat} (hn : n < 9) : gg_ (fun k => if k = n then C n else de_ C n k) = gg_ (de_ C (n + 1)) := by
  apply gg_ext
  intro q hq
  show (if q = n then C n else de_ C n q) = _
  unfold de_
  by_cases c0 : q = n
  · rw [if_pos c0, if_neg (by omega), if_pos (by omega), c0]
  · rw [if_neg c0]
    by_cases c : q = 9 ∨ q = 10
    · rw [if_pos c, if_pos c]
    · rw [if_neg c, if_neg c]
      by_cases c1 : q < n
      · rw [if_pos c1, if_pos (by omega)]
      · rw [if_neg c1, if_neg (by omega)]
theorem x_co34 {D E : Nat → Nat} {i j : Nat} {σ : js_S} {rc14 : Int32 → Int32 → Int32 → Int32 → js_S → Option (Int32 × js_S)} {rc22 : Int32 → Int32 → Int32 → Int32 → Int32 → js_S → Option (Int32 × js_S)} (hD : ∀ k, D k < 3) (hE : ∀ k, E k < 3) (hi : i < 3) (hj : j < 3) : fX11_composed_34 5000 rc14 rc22 5000 (gg_ D) (gg_ E) (gg_ (de_ (cp2_ D E) (3 * i + j))) (nI i) (nI j) 0 0 σ = rc22 (gg_ D) (gg_ E) (gg_ (de_ (cp2_ D E) (3 * i + j + 1))) (nI i) (nI (j + 1)) σ := by
  have hC : ∀ k, cp2_ D E k < 3 := cp2_lt (fun k _ => hD k) (fun k _ => hE k)
  have hC4 : ∀ k, cp2_ D E k < 4 := fun k => Nat.lt_of_lt_of_le (hC k) (by omega)
  have hD4 : ∀ k, D k < 4 := fun k => Nat.lt_of_lt_of_le (hD k) (by omega)
  have hE4 : ∀ k, E k < 4 := fun k => Nat.lt_of_lt_of_le (hE k) (by omega)
  have a0 := h2_lt (hD (3 * i + 0)) (hE (3 * 0 + j))
  have a1 := h2_lt (hD (3 * i + 1)) (hE (3 * 1 + j))
  have a2 := h2_lt (hD (3 * i + (0 + 1))) (hE (3 * (0 + 1) + j))
  have s0 := x_co34s (rc14 := rc14) (rc22 := rc22) (k := 4999) (m := 0) (b := 0) (x2 := gg_ (de_ (cp2_ D E) (3 * i + j))) (σ := σ) hD4 hE4 hi hj (by omega) (by omega)
  have s1 := x_co34s (rc14 := rc14) (rc22 := rc22) (k := 4998) (m := 0 + 1) (b := max 0 (h2_ (D (3 * i + 0)) (E (3 * 0 + j)))) (x2 := gg_ (de_ (cp2_ D E) (3 * i + j))) (σ := σ) hD4 hE4 hi hj (by omega) (by omega)
  have s2 := x_co34s (rc14 := rc14) (rc22 := rc22) (k := 4997) (m := 0 + 1 + 1) (b := max (max 0 (h2_ (D (3 * i + 0)) (E (3 * 0 + j)))) (h2_ (D (3 * i + (0 + 1))) (E (3 * (0 + 1) + j)))) (x2 := gg_ (de_ (cp2_ D E) (3 * i + j))) (σ := σ) hD4 hE4 hi hj (by omega) (by omega)
  have e : max (max (max 0 (h2_ (D (3 * i + 0)) (E (3 * 0 + j)))) (h2_ (D (3 * i + (0 + 1))) (E (3 * (0 + 1) + j)))) (h2_ (D (3 * i + (0 + 1 + 1))) (E (3 * (0 + 1 + 1) + j))) = cp2_ D E (3 * i + j) := by
    rw [cp2_r hi hj, Nat.zero_max, show 3 * i + 0 = 3 * i from rfl, show 3 * 0 + j = j by omega, show 3 * i + (0 + 1) = 3 * i + 1 from rfl, show 3 * (0 + 1) + j = 3 + j by omega, show 3 * i + (0 + 1 + 1) = 3 * i + 2 from rfl, show 3 * (0 + 1 + 1) + j = 6 + j by omega]
  rw [e] at s2
  rw [show fX11_composed_34 5000 rc14 rc22 5000 (gg_ D) (gg_ E) (gg_ (de_ (cp2_ D E) (3 * i + j))) (nI i) (nI j) 0 0 σ = _ from s0, show fX11_composed_34 5000 rc14 rc22 4999 _ _ _ _ _ _ _ _ = _ from s1, show fX11_composed_34 5000 rc14 rc22 4998 _ _ _ _ _ _ _ _ = _ from s2, show (4997 : Nat) = 4996 + 1 from rfl, sX11_composed_34]
  unfold fX11_composed_34b
  rw [if_pos (show (3 : Int32) ≤ nI (0 + 1 + 1 + 1) from by decide), x_withRelation (de_lt hC4) hi hj (by unfold de_; rw [if_neg (by omega), if_neg (by omega)]) (hC4 _), bd_s, de_step (by omega), n_s]
theorem x_co22 {D E : Nat → Nat} {i : Nat} {σ : js_S} {rc14 : Int32 → Int32 → Int32 → Int32 → js_S → Option (Int32 × js_S)} (hD : ∀ k, D k < 3) (hE : ∀ k, E k < 3) (hi : i < 3) : ∀ (d j k : Nat), j + d = 3 → d < k → fX11_composed_22 5000 rc14 k (gg_ D) (gg_ E) (gg_ (de_ (cp2_ D E) (3 * i + j))) (nI i) (nI j) σ = rc14 (gg_ D) (gg_ E) (gg_ (de_ (cp2_ D E) (3 * i + 3))) (nI (i + 1)) σ := by
  intro d
  induction d with
  | zero =>
    intro j k hj hk
    obtain ⟨k, rfl⟩ : ∃ j, k = j + 1 := ⟨k - 1, by omega⟩
    rw [sX11_composed_22]
    unfold fX11_composed_22b
    rw [if_pos (show (3 : Int32) ≤ nI j from nle_t (a := 3) (by omega) (by omega)), n_s, show j = 3 by omega]
  | succ d ih =>
    intro j k hj hk
    obtain ⟨k, rfl⟩ : ∃ j, k = j + 1 := ⟨k - 1, by omega⟩
    rw [sX11_composed_22]
    unfold fX11_composed_22b
    rw [if_neg (show ¬ (3 : Int32) ≤ nI j from nle_f (a := 3) (by omega) (by omega)), x_co34 hD hE hi (by omega)]
    exact ih (j + 1) k (by omega) (by omega)
theorem x_co14 {D E : Nat → Nat} {σ : js_S} (hD : ∀ k, D k < 3) (hE : ∀ k, E k < 3) : ∀ (d i k : Nat), i + d = 3 → d < k → fX11_composed_14 5000 k (gg_ D) (gg_ E) (gg_ (de_ (cp2_ D E) (3 * i))) (nI i) σ = some (gg_ (cp2_ D E), σ) := by
  intro d
  induction d with
  | zero =>
    intro i k hi hk
    obtain ⟨k, rfl⟩ : ∃ j, k = j + 1 := ⟨k - 1, by omega⟩
    rw [sX11_composed_14]
    unfold fX11_composed_14b
    rw [if_pos (show (3 : Int32) ≤ nI i from nle_t (a := 3) (by omega) (by omega)), show i = 3 by omega]
    have e : gg_ (de_ (cp2_ D E) (3 * 3)) = gg_ (cp2_ D E) := by
      apply gg_ext
      intro q hq
      unfold de_
      by_cases c : q = 9 ∨ q = 10
      · rw [if_pos c]
      · rw [if_neg c, if_pos (by omega)]
    rw [e]
  | succ d ih =>
    intro i k hi hk
    obtain ⟨k, rfl⟩ : ∃ j, k = j + 1 := ⟨k - 1, by omega⟩
    rw [sX11_composed_14]
    unfold fX11_composed_14b
    rw [if_neg (show ¬ (3 : Int32) ≤ nI i from nle_f (a := 3) (by omega) (by omega)), show fX11_composed_22 5000 (fX11_composed_14 5000 k) 5000 (gg_ D) (gg_ E) (gg_ (de_ (cp2_ D E) (3 * i))) (nI i) 0 σ = _ from x_co22 hD hE (by omega) 3 0 5000 (by omega) (by omega)]
    exact ih (i + 1) k (by omega) (by omega)
theorem x_composed {x z : Nat} {σ : js_S} (hx : gc_ x) (hz : gc_ z) : fX11_composed 5000 (nI x) (nI z) σ = some (nI (cx_ x z), σ) := by
  obtain ⟨D, hD, rfl⟩ := hx
  obtain ⟨E, hE, rfl⟩ := hz
  have hD4 : ∀ k, D k < 4 := fun k => Nat.lt_of_lt_of_le (hD k) (by omega)
  have hE4 : ∀ k, E k < 4 := fun k => Nat.lt_of_lt_of_le (hE k) (by omega)
  have e0 : gg_ (cp2_ D E) = nI (cx_ (gd_ D 11) (gd_ E 11)) := by
    unfold gg_ cx_
    congr 1
    apply gd_ext
    intro k hk
    unfold cp2_
    rw [fe_gd hE4 (show 10 < 11 by omega), fe_gd hD4 (show 9 < 11 by omega)]
    by_cases c1 : k = 10
    · rw [if_pos c1, if_pos c1]
    · rw [if_neg c1, if_neg c1]
      by_cases c2 : k = 9
      · rw [if_pos c2, if_pos c2]
      · rw [if_neg c2, if_neg c2]
        by_cases c3 : 8 < k
        · rw [if_pos c3, if_pos c3]
        · rw [if_neg c3, if_neg c3, fe_gd hD4 (show 3 * (k / 3) < 11 by omega), fe_gd hD4 (show 3 * (k / 3) + 1 < 11 by omega), fe_gd hD4 (show 3 * (k / 3) + 2 < 11 by omega), fe_gd hE4 (show k % 3 < 11 by omega), fe_gd hE4 (show 3 + k % 3 < 11 by omega), fe_gd hE4 (show 6 + k % 3 < 11 by omega)]
  rw [← e0]
  show fX11_composed 5000 (gg_ D) (gg_ E) σ = _
  unfold fX11_composed
  rw [x_sourceOf hD4, bd_s, x_targetOf hE4, bd_s, x_emptyGraph (hD 9) (hE 10), bd_s]
  have e : gg_ (fun k => if k = 10 then E 10 else if k = 9 then D 9 else 0) = gg_ (de_ (cp2_ D E) (3 * 0)) := by
    apply gg_ext
    intro q hq
    show (if q = 10 then E 10 else if q = 9 then D 9 else 0) = _
    unfold de_
    by_cases c1 : q = 10
    · rw [if_pos c1, if_pos (Or.inr c1), c1, cp2_10]
    · rw [if_neg c1]
      by_cases c2 : q = 9
      · rw [if_pos c2, if_pos (Or.inl c2), c2, cp2_9]
      · rw [if_neg c2, if_neg (by omega), if_neg (by omega)]
  rw [e]
  exact x_co14 hD hE 3 0 5000 (by omega) (by omega)
theorem x_src {x : Nat} {σ : js_S} (hx : gc_ x) : fX11_sourceOf 5000 (nI x) σ = some (nI (fe_ x 9), σ) := by
  obtain ⟨D, hD, rfl⟩ := hx
  have hD4 : ∀ k, D k < 4 := fun k => Nat.lt_of_lt_of_le (hD k) (by omega)
  rw [fe_gd hD4 (by omega)]
  exact x_sourceOf hD4
theorem x_tgt {x : Nat} {σ : js_S} (hx : gc_ x) : fX11_targetOf 5000 (nI x) σ = some (nI (fe_ x 10), σ) := by
  obtain ⟨D, hD, rfl⟩ := hx
  have hD4 : ∀ k, D k < 4 := fun k => Nat.lt_of_lt_of_le (hD k) (by omega)
  rw [fe_gd hD4 (by omega)]
  exact x_targetOf hD4
theorem x_rel {x i j : Nat} {σ : js_S} (hx : gc_ x) (hi : i < 3) (hj : j < 3) : fX11_relationIn 5000 (nI x) (nI i) (nI j) σ = some (nI (fe_ x (3 * i + j)), σ) := by
  obtain ⟨D, hD, rfl⟩ := hx
  have hD4 : ∀ k, D k < 4 := fun k => Nat.lt_of_lt_of_le (hD k) (by omega)
  rw [fe_gd hD4 (by omega)]
  exact x_relationIn hD4 hi hj
