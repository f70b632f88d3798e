/-! whole systems copied -/
theorem x9_copyRaw {σ : js_S} {fu d s : Nat} (hd : to_ σ d) (hs : to_ σ s) (hds : d + 1 < s ∨ s + 1 < d) : ∃ σ', fX9_copyFrom fu d s σ = some ((), σ') ∧ fi_ (fun a => a = d ∨ a = d + 1) σ σ' ∧ ∀ t, tm_ σ s t → tm_ σ' d t := by
  refine ⟨uI_ (cI_ σ (s + 1) 0 (d + 1) 0 40) d 1 (σ.1 s 1), ?_, ?_, fun t ht => ?_⟩
  · unfold fX9_copyFrom
    rw [hd.1, hs.1, hd.2.1, hs.2.1]
    rw [if_pos (by decide +kernel)]
    have e : (cI_ σ (s + 1) 0 (d + 1) 0 40).1 s 1 = σ.1 s 1 := cI_out (by omega)
    simp only [lt_s_]
    show some ((), uI_ (cI_ σ (s + 1) 0 (d + 1) 0 40) d 1 ((cI_ σ (s + 1) 0 (d + 1) 0 40).1 s 1)) = _
    rw [e]
  · exact fi_tr (S := fun a => a = d + 1) (S2 := fun a => a = d) (fi_c rfl) (fi_u rfl) (fun a h q => h (Or.inr q)) (fun a h q => h (Or.inl q))
  · refine ⟨by rw [uI_same]; exact ht.1, fun k h1 h2 => ?_⟩
    rw [uI_ne (by omega), cI_in (by omega), Nat.zero_add, Nat.sub_zero]
    exact ht.2 k h1 h2
theorem xl_ {σ : js_S} {fu b i : Nat} (hb : b = 2 ∨ b = 42) (h : lx_ σ.2.2) (hi : i < 6) : fX6_left fu b (nI i) σ = some (b + 8 + 4 * i, σ) ∧ fX6_right fu b (nI i) σ = some (b + 10 + 4 * i, σ) ∧ to_ σ (b + 8 + 4 * i) ∧ to_ σ (b + 10 + 4 * i) := by
  rcases hb with rfl | rfl
  · rw [x6_left h hi, x6_right h hi, show 2 + 8 + 4 * i = 10 + 4 * i by omega, show 2 + 10 + 4 * i = 12 + 4 * i by omega]
    exact ⟨rfl, rfl, to_left h i hi, to_right h i hi⟩
  · rw [x6_left2 h hi, x6_right2 h hi, show 42 + 8 + 4 * i = 50 + 4 * i by omega, show 42 + 10 + 4 * i = 52 + 4 * i by omega]
    exact ⟨rfl, rfl, to_left2 h i hi, to_right2 h i hi⟩
theorem xg_ {σ : js_S} {fu b i : Nat} (hb : b = 2 ∨ b = 42) (h : lx_ σ.2.2) (hi : i < 4) : fX6_register fu b (nI i) σ = some (b + 32 + 2 * i, σ) ∧ to_ σ (b + 32 + 2 * i) := by
  rcases hb with rfl | rfl
  · rw [x6_register h hi, show 2 + 32 + 2 * i = 34 + 2 * i by omega]
    exact ⟨rfl, to_reg h i hi⟩
  · rw [x6_register2 h hi, show 42 + 32 + 2 * i = 74 + 2 * i by omega]
    exact ⟨rfl, to_reg2 h i hi⟩
theorem x6_copy_loop2 {fu b s : Nat} (hb : b = 2 ∨ b = 42) (hs : s = 2 ∨ s = 42) (hbs : b + 40 ≤ s ∨ s + 40 ≤ b) :
    ∀ (d e k : Nat) (σ : js_S), e + d = 4 → d < k → lx_ σ.2.2 → ∃ σ', fX6_copyFrom_61 fu k b s (nI e) σ = some ((), σ') ∧ fi_ (fun a => b + 32 ≤ a ∧ a < b + 40) σ σ' ∧ (∀ j, j < e → ∀ t, tm_ σ (b + 32 + 2 * j) t → tm_ σ' (b + 32 + 2 * j) t) ∧ ∀ j, e ≤ j → j < 4 → ∀ t, tm_ σ (s + 32 + 2 * j) t → tm_ σ' (b + 32 + 2 * j) t := by
  intro d
  induction d with
  | zero =>
    intro e k σ he hk hl
    obtain ⟨k, rfl⟩ : ∃ j, k = j + 1 := ⟨k - 1, by omega⟩
    refine ⟨σ, ?_, fi_rf, fun j _ t h => h, fun j h1 h2 => by omega⟩
    rw [sX6_copyFrom_61]
    unfold fX6_copyFrom_61b
    simp (disch := omega) only [n_lit, n_le]
    rw [if_pos (by omega)]
  | succ d ih =>
    intro e k σ he hk hl
    obtain ⟨k, rfl⟩ : ∃ j, k = j + 1 := ⟨k - 1, by omega⟩
    obtain ⟨r1, o1⟩ := xg_ (fu := fu) (i := e) hb hl (by omega)
    obtain ⟨r2, o2⟩ := xg_ (fu := fu) (i := e) hs hl (by omega)
    obtain ⟨σ1, h1, f1, t1⟩ := x9_copyRaw (fu := fu) o1 o2 (by omega)
    obtain ⟨σ2, h2, f2, t2, t3⟩ := ih (e + 1) k σ1 (by omega) (by omega) (by rw [fi_r f1]; exact hl)
    refine ⟨σ2, ?_, fi_tr f1 f2 (fun a h => by omega) (fun a h => by omega), fun j hj t h => ?_, fun j hj1 hj2 t h => ?_⟩
    · rw [sX6_copyFrom_61]
      unfold fX6_copyFrom_61b
      rw [r1, bd_s, r2, bd_s, h1, bd_s]
      simp (disch := omega) only [n_lit, n_le, n_add]
      rw [if_neg (by omega), h2]
    · exact t2 j (by omega) t (tm_fi f1 (by omega) (by omega) h)
    · by_cases hje : j = e
      · subst hje
        exact t2 j (by omega) t (t1 t h)
      · exact t3 j (by omega) hj2 t (tm_fi f1 (by omega) (by omega) h)
theorem x6_copy_loop1 {b s : Nat} (hb : b = 2 ∨ b = 42) (hs : s = 2 ∨ s = 42) (hbs : b + 40 ≤ s ∨ s + 40 ≤ b) :
    ∀ (d e k : Nat) (σ : js_S), e + d = 6 → d < k → lx_ σ.2.2 → ∃ σ', fX6_copyFrom_21 5000 k b s (nI e) σ = some ((), σ') ∧ fi_ (fun a => b + 8 ≤ a ∧ a < b + 40) σ σ' ∧ (∀ j, j < e → ∀ t, (tm_ σ (b + 8 + 4 * j) t → tm_ σ' (b + 8 + 4 * j) t) ∧ (tm_ σ (b + 10 + 4 * j) t → tm_ σ' (b + 10 + 4 * j) t)) ∧ (∀ j, e ≤ j → j < 6 → ∀ t, (tm_ σ (s + 8 + 4 * j) t → tm_ σ' (b + 8 + 4 * j) t) ∧ (tm_ σ (s + 10 + 4 * j) t → tm_ σ' (b + 10 + 4 * j) t)) ∧ ∀ j, j < 4 → ∀ t, tm_ σ (s + 32 + 2 * j) t → tm_ σ' (b + 32 + 2 * j) t := by
  intro d
  induction d with
  | zero =>
    intro e k σ he hk hl
    obtain ⟨k, rfl⟩ : ∃ j, k = j + 1 := ⟨k - 1, by omega⟩
    obtain ⟨σ2, h2, f2, t2, t3⟩ := x6_copy_loop2 (fu := 5000) hb hs hbs 4 0 5000 σ (by omega) (by omega) hl
    refine ⟨σ2, ?_, fi_mono f2 (fun a h => by omega), fun j hj t => ⟨fun h => tm_fi f2 (by omega) (by omega) h, fun h => tm_fi f2 (by omega) (by omega) h⟩, fun j h1 h2 => by omega, fun j hj t h => t3 j (by omega) hj t h⟩
    rw [sX6_copyFrom_21]
    unfold fX6_copyFrom_21b
    simp (disch := omega) only [n_lit, n_le]
    rw [if_pos (by omega), h2]
  | succ d ih =>
    intro e k σ he hk hl
    obtain ⟨k, rfl⟩ : ∃ j, k = j + 1 := ⟨k - 1, by omega⟩
    obtain ⟨a1, -, a3, -⟩ := xl_ (fu := 5000) (i := e) hb hl (by omega)
    obtain ⟨b1, -, b3, -⟩ := xl_ (fu := 5000) (i := e) hs hl (by omega)
    obtain ⟨σ1, h1, f1, t1⟩ := x9_copyRaw (fu := 5000) a3 b3 (by omega)
    have hl1 : lx_ σ1.2.2 := by rw [fi_r f1]; exact hl
    obtain ⟨-, a2, -, a4⟩ := xl_ (fu := 5000) (i := e) hb hl1 (by omega)
    obtain ⟨-, b2, -, b4⟩ := xl_ (fu := 5000) (i := e) hs hl1 (by omega)
    obtain ⟨σ2, h2, f2, t2⟩ := x9_copyRaw (fu := 5000) a4 b4 (by omega)
    have hl2 : lx_ σ2.2.2 := by rw [fi_r f2]; exact hl1
    obtain ⟨σ3, h3, f3, u1, u2, u3⟩ := ih (e + 1) k σ2 (by omega) (by omega) hl2
    have f12 : fi_ (fun a => b + 8 + 4 * e ≤ a ∧ a < b + 12 + 4 * e) σ σ2 := fi_tr f1 f2 (fun a h => by omega) (fun a h => by omega)
    refine ⟨σ3, ?_, fi_tr f12 f3 (fun a h => by omega) (fun a h => by omega), fun j hj t => ⟨fun h => (u1 j (by omega) t).1 (tm_fi f12 (by omega) (by omega) h), fun h => (u1 j (by omega) t).2 (tm_fi f12 (by omega) (by omega) h)⟩, fun j hj1 hj2 t => ?_, fun j hj t h => u3 j hj t (tm_fi f12 (by omega) (by omega) h)⟩
    · rw [sX6_copyFrom_21]
      unfold fX6_copyFrom_21b
      rw [a1, bd_s, b1, bd_s, h1, bd_s, a2, bd_s, b2, bd_s, h2, bd_s]
      simp (disch := omega) only [n_lit, n_le, n_add]
      rw [if_neg (by omega), h3]
    · by_cases hje : j = e
      · subst hje
        exact ⟨fun h => (u1 j (by omega) t).1 (tm_fi f2 (by omega) (by omega) (t1 t h)), fun h => (u1 j (by omega) t).2 (t2 t (tm_fi f1 (by omega) (by omega) h))⟩
      · exact ⟨fun h => (u2 j (by omega) hj2 t).1 (tm_fi f12 (by omega) (by omega) h), fun h => (u2 j (by omega) hj2 t).2 (tm_fi f12 (by omega) (by omega) h)⟩
theorem x6_copyFrom {σ : js_S} {b s : Nat} {y : js_Y} (hb : b = 2 ∧ s = 42 ∨ b = 42 ∧ s = 2) (hl : lx_ σ.2.2) (h6 : y.2.1.length ≤ 6) (hy : sx_ σ s y) : ∃ σ', fX6_copyFrom 5000 b s σ = some ((), σ') ∧ fi_ (fun a => b ≤ a ∧ a < b + 40) σ σ' ∧ sx_ σ' b y := by
  have hb1 : b = 2 ∨ b = 42 := by omega
  have hs1 : s = 2 ∨ s = 42 := by omega
  have eb : σ.2.2 b 0 = b + 1 ∧ σ.2.2 (b + 1) 0 = b + 2 ∧ ln_ (b + 2) = 128 := by
    rcases hb1 with rfl | rfl
    · exact ⟨lx_2_0 hl, lx_3_0 hl, ln_4⟩
    · exact ⟨lx_42_0 hl, lx_43_0 hl, ln_44⟩
  have es : σ.2.2 s 0 = s + 1 ∧ σ.2.2 (s + 1) 0 = s + 2 ∧ ln_ (s + 2) = 128 := by
    rcases hs1 with rfl | rfl
    · exact ⟨lx_2_0 hl, lx_3_0 hl, ln_4⟩
    · exact ⟨lx_42_0 hl, lx_43_0 hl, ln_44⟩
  obtain ⟨s1, s2, s3, s4⟩ := hy
  obtain ⟨σ3, h3, f3, u1, u2, u3⟩ := x6_copy_loop1 hb1 hs1 (by omega) 6 0 5000 (uI_ (cI_ σ (s + 2) 0 (b + 2) 0 128) b 5 (nI y.2.1.length)) (by omega) (by omega) hl
  have f1 : fi_ (fun a => a = b + 2) σ (cI_ σ (s + 2) 0 (b + 2) 0 128) := fi_c rfl
  have f2 : fi_ (fun a => a = b ∨ a = b + 2) σ (uI_ (cI_ σ (s + 2) 0 (b + 2) 0 128) b 5 (nI y.2.1.length)) := fi_tr (S2 := fun a => a = b) f1 (fi_u rfl) (fun a h => by omega) (fun a h => by omega)
  refine ⟨σ3, ?_, fi_tr f2 f3 (fun a h => by omega) (fun a h => by omega), ?_, ?_, fun i hi => ⟨?_, ?_⟩, fun i hi => ?_⟩
  · unfold fX6_copyFrom fX8_copyFrom
    rw [eb.1, es.1, eb.2.1, es.2.1, eb.2.2, es.2.2, if_pos (by decide +kernel)]
    simp only [lt_s_, bd_s]
    have e5 : (cI_ σ (s + 2) 0 (b + 2) 0 128).1 s 5 = nI y.2.1.length := by rw [cI_out (by omega)]; exact s2
    show fX6_copyFrom_21 5000 5000 b s 0 (uI_ (cI_ σ (s + 2) 0 (b + 2) 0 128) b 5 ((cI_ σ (s + 2) 0 (b + 2) 0 128).1 s 5)) = _
    rw [e5]
    exact h3
  · intro k hk
    rw [f3.2 (b + 1 + 1) (by omega), uI_ne (by omega), show b + 1 + 1 = b + 2 by omega, cI_in (by omega), Nat.zero_add, Nat.sub_zero]
    exact s1 k hk
  · rw [f3.2 b (by omega)]
    exact uI_same
  · exact (u2 i (by omega) (by omega) _).1 (tm_fi f2 (by omega) (by omega) (s3 i hi).1)
  · exact (u2 i (by omega) (by omega) _).2 (tm_fi f2 (by omega) (by omega) (s3 i hi).2)
  · exact u3 i hi _ (tm_fi f2 (by omega) (by omega) (s4 i hi))
/-- a row copied to the same place of another row -/
theorem rw_cp0 {σ : js_S} {o p q n : Nat} {t : List Int32} (h : q + 1 + t.length ≤ n) (ht : rw_ σ o q t) : rw_ (cI_ σ o 0 p 0 n) p q t := by
  refine ⟨?_, fun k hk => ?_⟩
  · rw [cI_in (by omega), Nat.zero_add, Nat.sub_zero]
    exact ht.1
  · rw [cI_in (by omega), Nat.zero_add, Nat.sub_zero]
    exact ht.2 k hk
/-- the model's copies of a whole system -/
def mc_ (σ : js_S) (a1 a2 q1 q2 g1 g2 : Nat) : js_S := cI_ (cI_ (cI_ σ a1 0 a2 0 3) q1 0 q2 0 1152) g1 0 g2 0 384
theorem mc_fi {σ : js_S} {a1 a2 q1 q2 g1 g2 : Nat} : fi_ (fun a => a = a2 ∨ a = q2 ∨ a = g2) σ (mc_ σ a1 a2 q1 q2 g1 g2) :=
  fi_tr (S := fun a => a = a2 ∨ a = q2) (S2 := fun a => a = g2) (fi_tr (S := fun a => a = a2) (S2 := fun a => a = q2) (fi_c rfl) (fi_c rfl) (fun a h => by omega) (fun a h => by omega)) (fi_c rfl) (fun a h => by omega) (fun a h => by omega)
theorem mc_sm {σ σ' : js_S} {a1 a2 q1 q2 g1 g2 c1 c2 : Nat} {y : js_Y} (gy : gy_ y) (hd : a2 ≠ q1 ∧ a2 ≠ g1 ∧ q2 ≠ g1 ∧ a2 ≠ q2 ∧ a2 ≠ g2 ∧ q2 ≠ g2) (h390 : a2 ≠ 390 ∧ q2 ≠ 390 ∧ g2 ≠ 390) (h : sm_ σ a1 q1 g1 c1 y) (e1 : ∀ a, a ≠ 390 → σ'.1 a = (mc_ σ a1 a2 q1 q2 g1 g2).1 a) (e2 : σ'.1 390 c2 = σ.1 390 c1) : sm_ σ' a2 q2 g2 c2 y := by
  obtain ⟨s1, s2, s3, s4⟩ := h
  have h6 := gy.2.1
  have f1 : fi_ (fun a => a = a2) σ (cI_ σ a1 0 a2 0 3) := fi_c rfl
  have f2 : fi_ (fun a => a = q2) (cI_ σ a1 0 a2 0 3) (cI_ (cI_ σ a1 0 a2 0 3) q1 0 q2 0 1152) := fi_c rfl
  have f3 : fi_ (fun a => a = g2) (cI_ (cI_ σ a1 0 a2 0 3) q1 0 q2 0 1152) (mc_ σ a1 a2 q1 q2 g1 g2) := fi_c rfl
  refine ⟨fun f hf => ?_, by rw [e2]; exact s2, fun i hi => ⟨?_, ?_⟩, fun i hi => ?_⟩
  · rw [e1 a2 h390.1, f3.2 a2 (by omega), f2.2 a2 (by omega), cI_in (by omega), Nat.zero_add, Nat.sub_zero]
    exact s1 f hf
  · have l := (gy.2.2.1 i hi).1.2
    exact rw_eq (e1 q2 h390.2.1) (rw_fi f3 (by omega) (rw_cp0 (by omega) (rw_fi f1 (by omega) (s3 i hi).1)))
  · have l := (gy.2.2.1 i hi).2.1.2
    exact rw_eq (e1 q2 h390.2.1) (rw_fi f3 (by omega) (rw_cp0 (by omega) (rw_fi f1 (by omega) (s3 i hi).2)))
  · have l := (gy.2.2.2 i hi).2
    exact rw_eq (e1 g2 h390.2.2) (rw_cp0 (by omega) (rw_fi f2 (by omega) (rw_fi f1 (by omega) (s4 i hi))))
theorem op_save {σ : js_S} {y : js_Y} {sn : Option js_Y} {tx : List Int32} (h : iv_ σ y sn tx) : ∃ r σ1 σ2, fX11_saveSnapshot 5000 1 σ = some (r, σ1) ∧ fX12_saveSnapshot 5000 390 σ1 = some (r, σ2) ∧ iv_ σ2 y (some y) tx ∧ ce2_ σ σ2 := by
  obtain ⟨hX, hM, g⟩ := h
  have gy := g.1
  have h6 := gy.2.1
  obtain ⟨σ3, h3, f3, s3⟩ := x6_copyFrom (b := 42) (s := 2) (by omega) hX.1 h6 hX.2.2.1
  have hl3 : lx_ σ3.2.2 := by rw [fi_r f3]; exact hX.1
  have c25 : σ3.1 2 5 = nI y.2.1.length := by rw [f3.2 2 (by omega)]; exact hX.2.2.1.2.1
  have hM1 : im_ (uI_ σ3 1 2 1) y sn tx := im_x (σ := σ) (fun a ha => by
    have : (uI_ σ3 1 2 1).1 a = σ3.1 a := funext (fun b => uI_ne (by omega))
    rw [this, f3.2 a (by omega)]) (fun o _ => by show σ3.2.2 o = _; rw [fi_r f3]) hM
  have hm1 := hM1.1
  have c6 := hM1.2.1.2.1
  refine ⟨nI y.2.1.length, uI_ σ3 1 2 1, uI_ (uI_ (mc_ (uI_ σ3 1 2 1) 391 392 393 394 395 396) 390 7 (nI y.2.1.length)) 390 8 1, ?_, ?_, ⟨?_, ?_, gy, fun z hz => ?_, g.2.2⟩, ?_⟩
  · unfold fX11_saveSnapshot
    rw [lx_1_0 hX.1, lx_1_1 hX.1, h3, bd_s]
    simp only [lt_s_]
    rw [uI_2, lx_1_0 hl3, uI_ne (by omega), c25]
  · unfold fX12_saveSnapshot
    rw [lm_0 hm1, lm_1 hm1, show (0 : Int32) = nI 0 from rfl, show (3 : Int32) = nI 3 from rfl, m_copy (by rw [ln_391]; omega) (by rw [ln_392]; omega) (by rw [ln_391]; omega) (by rw [ln_392]; omega) (by omega) (by omega), bd_s]
    have e1 : (cI_ (uI_ σ3 1 2 1) 391 0 392 0 3).2.2 = (uI_ σ3 1 2 1).2.2 := rfl
    rw [e1, lm_2 hm1, lm_3 hm1, ln_393, n_of, m_copy (by rw [ln_393]; omega) (by rw [ln_394]; omega) (by rw [ln_393]; omega) (by rw [ln_394]; omega) (by omega) (by omega), bd_s]
    have e2 : (cI_ (cI_ (uI_ σ3 1 2 1) 391 0 392 0 3) 393 0 394 0 1152).2.2 = (uI_ σ3 1 2 1).2.2 := rfl
    rw [e2, lm_4 hm1, lm_5 hm1, ln_395, n_of, m_copy (by rw [ln_395]; omega) (by rw [ln_396]; omega) (by rw [ln_395]; omega) (by rw [ln_396]; omega) (by omega) (by omega), bd_s]
    simp only [lt_s_]
    have e3 : (cI_ (cI_ (cI_ (uI_ σ3 1 2 1) 391 0 392 0 3) 393 0 394 0 1152) 395 0 396 0 384).1 390 6 = nI y.2.1.length := by
      rw [cI_out (by omega), cI_out (by omega), cI_out (by omega)]
      exact c6
    rw [e3, uI_ne (by omega), uI_ne (by omega), e3]
    rfl
  · have hs : ∀ a, a < 390 → (uI_ (uI_ (mc_ (uI_ σ3 1 2 1) 391 392 393 394 395 396) 390 7 (nI y.2.1.length)) 390 8 1).1 a = (uI_ σ3 1 2 1).1 a := fun a ha => by
      rw [uI_row (by omega), uI_row (by omega), mc_fi.2 a (by omega)]
    refine ix_m (σ := uI_ σ3 1 2 1) ⟨gy, fun z hz => by cases hz; exact gy, g.2.2⟩ hs rfl ?_
    obtain ⟨q1, q2, q3, q4, q5, q6, q7⟩ := hX
    have hS : ∀ a, a ≠ 1 → (a < 42 ∨ 82 ≤ a) → (uI_ σ3 1 2 1).1 a = σ.1 a := fun a h1 h2 => by
      rw [uI_row (by omega), f3.2 a (by omega)]
    refine ⟨by show lx_ σ3.2.2; exact hl3, by show fd_ σ3.2.2; rw [fi_r f3]; exact q2, sx_eq h6 (fun a _ _ => hS a (by omega) (by omega)) q3, uI_same, fun z hz => ?_, by rw [hS 82 (by omega) (by omega)]; exact q6, vw_eq (hS 83 (by omega) (by omega)) q7⟩
    cases hz
    exact sx_eq h6 (fun a _ _ => funext (fun b => uI_ne (by omega))) s3
  · obtain ⟨q1, q2, q3, q4, q5, q6, q7⟩ := hM1
    have hf := mc_fi (σ := uI_ σ3 1 2 1) (a1 := 391) (a2 := 392) (q1 := 393) (q2 := 394) (g1 := 395) (g2 := 396)
    have hS : ∀ a, a ≠ 390 → a ≠ 392 → a ≠ 394 → a ≠ 396 → (uI_ (uI_ (mc_ (uI_ σ3 1 2 1) 391 392 393 394 395 396) 390 7 (nI y.2.1.length)) 390 8 1).1 a = (uI_ σ3 1 2 1).1 a := fun a h1 h2 h3 h4 => by
      rw [uI_row (by omega), uI_row (by omega), hf.2 a (by omega)]
    have h0 : ∀ b, b ≠ 7 → b ≠ 8 → (uI_ (uI_ (mc_ (uI_ σ3 1 2 1) 391 392 393 394 395 396) 390 7 (nI y.2.1.length)) 390 8 1).1 390 b = (uI_ σ3 1 2 1).1 390 b := fun b h1 h2 => by
      rw [uI_ne (by omega), uI_ne (by omega), hf.2 390 (by omega)]
    refine ⟨q1, sm_eq (hS _ (by omega) (by omega) (by omega) (by omega)) (hS _ (by omega) (by omega) (by omega) (by omega)) (hS _ (by omega) (by omega) (by omega) (by omega)) (h0 _ (by omega) (by omega)) q2, uI_same, fun z hz => ?_, by rw [h0 15 (by omega) (by omega)]; exact q5, vw_eq (hS 400 (by omega) (by omega) (by omega) (by omega)) q6, fun k => by rw [hS 412 (by omega) (by omega) (by omega) (by omega)]; exact q7 k⟩
    cases hz
    refine mc_sm (σ := uI_ σ3 1 2 1) gy (by omega) (by omega) q2 (fun a ha => ?_) ?_
    · rw [uI_row (by omega), uI_row (by omega)]
    · rw [uI_ne (by omega), uI_same]
      exact c6.symm
  · cases hz
    exact gy
  · have hf := mc_fi (σ := uI_ σ3 1 2 1) (a1 := 391) (a2 := 392) (q1 := 393) (q2 := 394) (g1 := 395) (g2 := 396)
    refine ⟨fun b hb => ?_, fun a h1 h2 => ⟨?_, ?_⟩, fun o _ => ?_⟩
    · rw [uI_ne (by omega), uI_ne (by omega), hf.2 1 (by omega), uI_ne (by omega), f3.2 1 (by omega)]
    · rw [uI_row (by omega), uI_row (by omega), hf.2 a (by omega), uI_row (by omega), f3.2 a (by omega)]
    · show σ3.2.1 a = _
      rw [f3.1]
    · show σ3.2.2 o = _
      rw [f3.1]
