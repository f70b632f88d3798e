/-- the class's match at a place -/
theorem x7_unbind {σ : js_S} (hl : lx_ σ.2.2) : ∃ σ', fX7_unbind 5000 88 σ = some ((), σ') ∧ fi_ (fun z => z = 89) σ σ' ∧ ∀ v, v < 3 → σ'.1 89 v = -1 := by
  refine ⟨uI_ (uI_ (uI_ σ 89 0 (-1)) 89 1 (-1)) 89 2 (-1), ?_, ⟨rfl, fun a h => by rw [uI_row h, uI_row h, uI_row h]⟩, fun v hv => ?_⟩
  · unfold fX7_unbind
    rw [show (5000 : Nat) = 4999 + 1 from rfl, sX7_unbind_2]
    unfold fX7_unbind_2b
    rw [lx_88_0 hl, ln_89, if_neg (by decide), if_pos (by decide), lt_s_, show (4999 : Nat) = 4998 + 1 from rfl, sX7_unbind_2]
    unfold fX7_unbind_2b
    rw [uI_2, lx_88_0 hl, ln_89, if_neg (by decide), if_pos (by decide), lt_s_, show (4998 : Nat) = 4997 + 1 from rfl, sX7_unbind_2]
    unfold fX7_unbind_2b
    rw [uI_2, uI_2, lx_88_0 hl, ln_89, if_neg (by decide), if_pos (by decide), lt_s_, show (4997 : Nat) = 4996 + 1 from rfl, sX7_unbind_2]
    unfold fX7_unbind_2b
    rw [uI_2, uI_2, uI_2, lx_88_0 hl, ln_89, if_pos (by decide)]
    rfl
  · rcases (show v = 0 ∨ v = 1 ∨ v = 2 by omega) with rfl | rfl | rfl
    · rw [uI_ne (by omega), uI_ne (by omega), uI_same]
    · rw [uI_ne (by omega), uI_same]
    · rw [uI_same]
/-- what a class's rewriting needs: the signature and the rules -/
def xs_ (σ : js_S) (y : js_Y) : Prop := lx_ σ.2.2 ∧ sg_ σ 3 y.1 ∧ σ.1 2 5 = nI y.2.1.length ∧ (∀ i, i < y.2.1.length → tm_ σ (10 + 4 * i) (rl_ y i).1 ∧ tm_ σ (12 + 4 * i) (rl_ y i).2)
theorem xs_of {σ : js_S} {y : js_Y} (hl : lx_ σ.2.2) (h : sx_ σ 2 y) : xs_ σ y := ⟨hl, h.1, h.2.1, fun i hi => ⟨sx_left h hi, sx_right h hi⟩⟩
theorem xs_fi {S : Nat → Prop} {σ σ' : js_S} {y : js_Y} (h : fi_ S σ σ') (hy : y.2.1.length ≤ 6) (hS : ∀ a, a = 2 ∨ a = 4 ∨ (10 ≤ a ∧ a < 34) → ¬ S a) (hx : xs_ σ y) : xs_ σ' y := by
  obtain ⟨h1, h2, h3, h4⟩ := hx
  refine ⟨by rw [fi_r h]; exact h1, sg_fi h (hS _ (by omega)) h2, by rw [h.2 2 (hS _ (by omega))]; exact h3, fun i hi => ⟨tm_fi h (hS _ (by omega)) (hS _ (by omega)) (h4 i hi).1, tm_fi h (hS _ (by omega)) (hS _ (by omega)) (h4 i hi).2⟩⟩
theorem x7_fits {σ : js_S} {y : js_Y} {t : List Int32} {i o e : Nat} (hx : xs_ σ y) (g : gy_ y) (hi : i < y.2.1.length) (ho : to_ σ o) (ho89 : o ≠ 89 ∧ o + 1 ≠ 89) (ht : tm_ σ o t) (gt : gt_ y.1 t) (he : e < t.length) : ∃ σ', fX7_ruleFits 5000 88 2 (nI i) o (nI e) σ = some (bi_ (mt_ y.1 t (rl_ y i).1 e (fun _ => [])).isSome, σ') ∧ fi_ (fun z => z = 89) σ σ' ∧ ∀ b', mt_ y.1 t (rl_ y i).1 e (fun _ => []) = some b' → bx_ σ' y.1 t b' := by
  have h6 := g.2.1
  obtain ⟨σ1, r1, f1, u1⟩ := x7_unbind hx.1
  have hx1 := xs_fi f1 h6 (fun a q => by omega) hx
  have gl := (g.2.2.1 i hi).1
  obtain ⟨σ2, r2, f2, u2⟩ := x7_fits_loop (i := i) (o := o) (by omega) g.1 gt.2 gt.1 gl.2 ho89 (rl_ y i).1.length 0 e 1 5000 σ1 (fun _ => []) (by omega) (by have := gl.2; omega) hx1.1 hx1.2.1 (hx1.2.2.2 i hi).1 (to_fi f1 ho) (tm_fi f1 ho89.1 ho89.2 ht) (by rw [List.drop_zero]; exact gl.1) (wt_tail gt.1 he) (Nat.le_of_lt he) (fun v hv => Or.inl ⟨rfl, u1 v hv⟩)
  rw [List.drop_zero] at r2 u2
  refine ⟨σ2, ?_, fi_tr f1 f2 (fun a h => h) (fun a h => h), u2⟩
  unfold fX7_ruleFits
  rw [x6_left hx.1 (by omega), bd_s, r1, bd_s, show (0 : Int32) = nI 0 from rfl, r2]
/-! the model's match -/
theorem m_eq_loop {σ : js_S} {fu o p q n : Nat} {l u : List Int32} (hl : vw_ σ o p l) (hu : vw_ σ o q u) (h1 : n ≤ l.length) (h2 : n ≤ u.length) (hp : p + n ≤ ln_ o) (hq : q + n ≤ ln_ o) (hn : ln_ o < 1000000000) :
    ∀ (d e k : Nat) (b : Bool), e + d = n → d < k → fX12_areEqual_6 fu k o (nI p) o (nI q) (nI n) (bi_ b) (nI e) σ = some (bi_ (b && decide ((l.drop e).take d = (u.drop e).take d)), σ) := by
  intro d
  induction d with
  | zero =>
    intro e k b he hk
    obtain ⟨k, rfl⟩ : ∃ j, k = j + 1 := ⟨k - 1, by omega⟩
    rw [sX12_areEqual_6]
    unfold fX12_areEqual_6b
    rw [if_pos ((n_le (by omega) (by omega)).mpr (by omega)), if_pos (bi_nz b)]
    simp
  | succ d ih =>
    intro e k b he hk
    obtain ⟨k, rfl⟩ : ∃ j, k = j + 1 := ⟨k - 1, by omega⟩
    rw [sX12_areEqual_6]
    unfold fX12_areEqual_6b fX12_areEqual_38
    rw [if_neg (fun z => by have := (n_le (by omega) (by omega)).mp z; omega)]
    cases b with
    | false =>
      rw [if_pos bi_f, if_pos (bi_nz false)]
      rfl
    | true =>
      rw [if_neg (by decide), n_add, n_add, n_ib (by omega), n_ib (by omega), n_cl (by omega), n_cl (by omega), if_pos (by simp; omega), if_pos (by simp; omega), hl e (by omega), hu e (by omega), show nI e + 1 = nI (e + 1) from n_add e 1, drop_get (l := l) (p := e) (by omega), drop_get (l := u) (p := e) (by omega), List.take_succ_cons, List.take_succ_cons]
      by_cases hc : at_ l e = at_ u e
      · rw [if_pos hc, ← bi_t, ih (e + 1) k true (by omega) (by omega), hc]
        simp
      · rw [if_neg hc, ← bi_f, ih (e + 1) k false (by omega) (by omega)]
        simp [hc]
theorem m_areEqual {σ : js_S} {o p q n : Nat} {l u : List Int32} (hl : vw_ σ o p l) (hu : vw_ σ o q u) (h1 : n ≤ l.length) (h2 : n ≤ u.length) (hp : p + n ≤ ln_ o) (hq : q + n ≤ ln_ o) (hn : ln_ o < 1000000000) (h3 : n < 4000) : fX12_areEqual 5000 o (nI p) o (nI q) (nI n) σ = some (bi_ (decide (l.take n = u.take n)), σ) := by
  unfold fX12_areEqual
  have := m_eq_loop (fu := 5000) hl hu h1 h2 hp hq hn n 0 5000 true (by omega) (by omega)
  rw [List.drop_zero, List.drop_zero, Bool.true_and] at this
  exact this
/-- what a model's rewriting needs -/
def ms_ (σ : js_S) (y : js_Y) : Prop := lm_ σ.2.2 ∧ (∀ f, f < 3 → σ.1 391 f = nI (y.1 f)) ∧ σ.1 390 6 = nI y.2.1.length ∧ ∀ i, i < y.2.1.length → rw_ σ 393 (192 * i) (rl_ y i).1 ∧ rw_ σ 393 (192 * i + 96) (rl_ y i).2
theorem ms_of {σ : js_S} {y : js_Y} (hl : lm_ σ.2.2) (h : sm_ σ 391 393 395 6 y) : ms_ σ y := ⟨hl, h.1, h.2.1, h.2.2.1⟩
theorem ms_fi {S : Nat → Prop} {σ σ' : js_S} {y : js_Y} (h : fi_ S σ σ') (hS : ∀ a, a = 390 ∨ a = 391 ∨ a = 393 → ¬ S a) (hx : ms_ σ y) : ms_ σ' y := by
  obtain ⟨h1, h2, h3, h4⟩ := hx
  refine ⟨by rw [fi_r h]; exact h1, by rw [h.2 391 (hS _ (by omega))]; exact h2, by rw [h.2 390 (hS _ (by omega))]; exact h3, fun i hi => ⟨rw_fi h (hS _ (by omega)) (h4 i hi).1, rw_fi h (hS _ (by omega)) (h4 i hi).2⟩⟩
/-- the model's bindings: where in the row, and how many -/
def bm_ (σ : js_S) (a : Nat → Nat) (p : Nat) (t : List Int32) (b : Nat → List Int32) : Prop := ∀ v, v < 3 → (b v = [] ∧ σ.1 398 v = 0) ∨ ∃ q, q < t.length ∧ σ.1 397 v = nI (p + q) ∧ σ.1 398 v = nI (b v).length ∧ b v = su_ a t q
theorem m_variable {fu : Nat} {s : Int32} {σ : js_S} : fX12_variable fu s σ = some (nI (vn_ s), σ) := by
  unfold fX12_variable vn_
  split
  · rfl
  · split <;> rfl
theorem m_isV {fu : Nat} {x : Int32} {σ : js_S} : fX12_isVariable fu x σ = some (bi_ (isV_ x), σ) := m_isVariable
theorem m_match_loop {i o p : Nat} {y : js_Y} {t : List Int32} (g : gy_ y) (hi : i < y.2.1.length) (gt : gt_ y.1 t) (ho : o ≠ 397 ∧ o ≠ 398) (hb : p + t.length ≤ ln_ o) (hn : ln_ o < 1000000000) :
    ∀ (d j e m k : Nat) (σ : js_S) (b : Nat → List Int32), j + d = (rl_ y i).1.length → d < k → ms_ σ y → vw_ σ o p t → wt_ y.1 ((rl_ y i).1.drop j) m → ok_ y.1 (t.drop e) m → e ≤ t.length → bm_ σ y.1 p t b →
      ∃ σ', fX12_isMatch_29 5000 k 390 (nI i) o (nI (p + e)) (nI (j + 1)) σ = some (bi_ (mt_ y.1 t ((rl_ y i).1.drop j) e b).isSome, σ') ∧ fi_ (fun z => z = 397 ∨ z = 398) σ σ' ∧ ∀ b', mt_ y.1 t ((rl_ y i).1.drop j) e b = some b' → bm_ σ' y.1 p t b' := by
  have h6 := g.2.1
  have gl := (g.2.2.1 i hi).1.2
  have g40 := gt.2
  intro d
  induction d with
  | zero =>
    intro j e m k σ b he hk hm hv hw hok hel hbm
    obtain ⟨k, rfl⟩ : ∃ j, k = j + 1 := ⟨k - 1, by omega⟩
    rw [drop_end (l := (rl_ y i).1) (by omega)]
    refine ⟨σ, ?_, fi_rf, fun b' hb' => by cases hb'; exact hbm⟩
    rw [sX12_isMatch_29]
    unfold fX12_isMatch_29b fX12_left
    rw [bd_s, n_left, lm_2 hm.1, ln_393, n_ib (by omega), n_cl (by omega), if_pos (by simp; omega), (hm.2.2.2 i hi).1.1, if_pos ((n_lt (by omega) (by omega)).mpr (by omega))]
    rfl
  | succ d ih =>
    intro j e m k σ b he hk hm hv hw hok hel hbm
    obtain ⟨k, rfl⟩ : ∃ j, k = j + 1 := ⟨k - 1, by omega⟩
    rw [drop_get (l := (rl_ y i).1) (by omega)] at hw
    have hm0 := hw.1
    have hlt := ok_ne hok hm0
    have hvs := hw.2.2
    rw [sX12_isMatch_29]
    unfold fX12_isMatch_29b fX12_left fX12_isMatch_171 fX12_isMatch_175
    have es : σ.1 393 (192 * i + (j + 1)) = at_ (rl_ y i).1 j := by
      rw [show 192 * i + (j + 1) = 192 * i + 1 + j by omega]
      exact (hm.2.2.2 i hi).1.2 j (by omega)
    rw [bd_s, n_left, lm_2 hm.1, ln_393, n_ib (by omega), n_cl (by omega), if_pos (by simp; omega), (hm.2.2.2 i hi).1.1, if_neg (fun z => by have := (n_lt (by omega) (by omega)).mp z; omega), bd_s, n_add, n_ib (by omega), n_cl (by omega), if_pos (by simp; omega), es, m_isV, bd_s, drop_get (l := (rl_ y i).1) (p := j) (by omega)]
    unfold mt_
    rw [show nI (j + 1) + 1 = nI (j + 1 + 1) from n_add (j + 1) 1, show nI (p + e) + 1 = nI (p + (e + 1)) from n_add (p + e) 1]
    by_cases hV : isV_ (at_ (rl_ y i).1 j) = true
    · have hv3 := vn_lt (at_ (rl_ y i).1 j)
      have hep := ep_le (a := y.1) hel
      have hgt := ep_gt (a := y.1) hlt
      rw [isV_sa hV, Nat.add_zero] at hvs
      have hvd := vw_drop (q := e) hv
      have hend : fX12_end 5000 390 o (nI (p + e)) σ = some (nI (p + ep_ y.1 t e), σ) := by
        rw [m_end hm.1 hm.2.1 g.1 (by omega) (ok_le hok (by omega)) hvd (by rw [List.length_drop]; omega) (by rw [List.length_drop]; omega)]
        unfold ep_
        rw [Nat.add_assoc]
      have esub : nI (p + ep_ y.1 t e) - nI (p + e) = nI (ep_ y.1 t e - e) := by
        rw [n_sub (by omega)]
        congr 1
        omega
      rw [hV, bi_t, if_neg (by decide), if_pos rfl, m_variable, bd_s, hend, bd_s, lm_10 hm.1, lm_9 hm.1, ln_398, ln_397, n_ib (by omega), n_cl (by omega), if_pos (by simpa using hv3), esub]
      simp only [lt_s_]
      rcases hbm _ hv3 with ⟨b1, b2⟩ | ⟨q, b0, b1, b2, b3⟩
      · have f1 : fi_ (fun z => z = 397 ∨ z = 398) σ (uI_ (uI_ σ 397 (vn_ (at_ (rl_ y i).1 j)) (nI (p + e))) 398 (vn_ (at_ (rl_ y i).1 j)) (nI (ep_ y.1 t e - e))) := ⟨rfl, fun a h => by rw [uI_row (by omega), uI_row (by omega)]⟩
        obtain ⟨σ', r1, r2, r3⟩ := ih (j + 1) (ep_ y.1 t e) (m - 1) k _ (fun v => if v = vn_ (at_ (rl_ y i).1 j) then su_ y.1 t e else b v) (by omega) (by omega) (ms_fi f1 (fun a q => by omega) hm) (vw_fi f1 (by omega) hv) hvs (ok_skip hok hm0) hep (fun v hvv => by
          by_cases hvq : v = vn_ (at_ (rl_ y i).1 j)
          · right
            have e1 : (fun v => if v = vn_ (at_ (rl_ y i).1 j) then su_ y.1 t e else b v) v = su_ y.1 t e := if_pos hvq
            refine ⟨e, hlt, by rw [uI_ne (by omega), hvq, uI_same], by rw [e1, hvq, uI_same, su_len], e1⟩
          · have e1 : (fun v => if v = vn_ (at_ (rl_ y i).1 j) then su_ y.1 t e else b v) v = b v := if_neg hvq
            rw [e1, uI_ne (by omega), uI_ne (by omega), uI_ne (by omega), uI_ne (by omega)]
            exact hbm v hvv)
        refine ⟨σ', ?_, fi_tr f1 r2 (fun a h => h) (fun a h => h), ?_⟩
        · rw [b2, if_pos rfl, if_pos (by simpa using hv3), uI_2, lm_10 hm.1, ln_398, n_ib (by omega), if_pos (by simpa using hv3), if_pos (Or.inl b1), r1]
        · rw [if_pos (Or.inl b1)]
          exact r3
      · have hbl : (b (vn_ (at_ (rl_ y i).1 j))).length = ep_ y.1 t q - q := by rw [b3, su_len]
        have hq1 := ep_gt (a := y.1) b0
        have hq2 := ep_le (a := y.1) (Nat.le_of_lt b0)
        rw [b2, hbl, if_neg (fun z => by have := (n_eq (b := 0) (by omega) (by omega)).mp z; omega), if_pos (by simpa using hv3)]
        have hdec : (su_ y.1 t q = su_ y.1 t e) ↔ (ep_ y.1 t q - q = ep_ y.1 t e - e ∧ (t.drop q).take (ep_ y.1 t e - e) = (t.drop e).take (ep_ y.1 t e - e)) := by
          have k1 : su_ y.1 t q = (t.drop q).take (ep_ y.1 t q - q) := by unfold su_ ep_; rw [Nat.add_sub_cancel_left]
          have k2 : su_ y.1 t e = (t.drop e).take (ep_ y.1 t e - e) := by unfold su_ ep_; rw [Nat.add_sub_cancel_left]
          constructor
          · intro z
            have z1 := congrArg List.length z
            rw [su_len, su_len] at z1
            rw [k1, k2, z1] at z
            exact ⟨z1, z⟩
          · rintro ⟨z1, z2⟩
            rw [k1, k2, z1, z2]
        by_cases hL : ep_ y.1 t q - q = ep_ y.1 t e - e
        · rw [if_pos (by rw [hL]), if_pos (by simpa using hv3), b1, m_areEqual (vw_drop (q := q) hv) hvd (by rw [List.length_drop]; omega) (by rw [List.length_drop]; omega) (by omega) (by omega) (by omega) (by omega), bd_s]
          by_cases hE : (t.drop q).take (ep_ y.1 t e - e) = (t.drop e).take (ep_ y.1 t e - e)
          · have hsu := hdec.mpr ⟨hL, hE⟩
            rw [decide_eq_true hE, bi_t, if_neg (by decide), if_pos (Or.inr (by rw [b3]; exact hsu))]
            refine ih (j + 1) (ep_ y.1 t e) (m - 1) k σ _ (by omega) (by omega) hm hv hvs (ok_skip hok hm0) hep (fun v hvv => ?_)
            by_cases hvq : v = vn_ (at_ (rl_ y i).1 j)
            · right
              refine ⟨q, b0, by rw [hvq]; exact b1, by rw [if_pos hvq, hvq, b2, hbl, su_len, hL], by rw [if_pos hvq]; exact hsu.symm⟩
            · rw [if_neg hvq]
              exact hbm v hvv
          · have hsu : ¬ su_ y.1 t q = su_ y.1 t e := fun z => hE (hdec.mp z).2
            rw [decide_eq_false hE, bi_f, if_pos rfl, if_neg (fun z => z.elim (fun z => su_ne b0 (b3 ▸ z)) (fun z => hsu (b3 ▸ z)))]
            exact ⟨σ, rfl, fi_rf, fun b' hb' => by cases hb'⟩
        · have hsu : ¬ su_ y.1 t q = su_ y.1 t e := fun z => hL (hdec.mp z).1
          rw [if_neg (fun z => hL ((n_eq (by omega) (by omega)).mp z)), if_neg (fun z => z.elim (fun z => su_ne b0 (b3 ▸ z)) (fun z => hsu (b3 ▸ z)))]
          exact ⟨σ, rfl, fi_rf, fun b' hb' => by cases hb'⟩
    · have hV2 : isV_ (at_ (rl_ y i).1 j) = false := by simpa using hV
      rw [hV2, bi_f, if_pos rfl, n_ib (by omega), n_cl (by omega), if_pos (by simp; omega), hv e hlt, if_neg (show ¬ (false = true) by decide)]
      by_cases hc : at_ t e = at_ (rl_ y i).1 j
      · rw [if_pos hc, if_pos hc]
        have hok2 := ok_step hok hm0
        rw [hc] at hok2
        exact ih (j + 1) (e + 1) _ k σ b (by omega) (by omega) hm hv hvs hok2 hlt hbm
      · rw [if_neg hc, if_neg hc]
        exact ⟨σ, rfl, fi_rf, fun b' hb' => by cases hb'⟩
theorem m_match {σ : js_S} {i o p e : Nat} {y : js_Y} {t : List Int32} (g : gy_ y) (hi : i < y.2.1.length) (gt : gt_ y.1 t) (ho : o ≠ 397 ∧ o ≠ 398) (hb : p + t.length ≤ ln_ o) (hn : ln_ o < 1000000000) (hm : ms_ σ y) (hv : vw_ σ o p t) (he : e < t.length) : ∃ σ', fX12_isMatch 5000 390 (nI i) o (nI (p + e)) σ = some (bi_ (mt_ y.1 t (rl_ y i).1 e (fun _ => [])).isSome, σ') ∧ fi_ (fun z => z = 397 ∨ z = 398) σ σ' ∧ ∀ b', mt_ y.1 t (rl_ y i).1 e (fun _ => []) = some b' → bm_ σ' y.1 p t b' := by
  have gl := (g.2.2.1 i hi).1
  have f1 : fi_ (fun z => z = 397 ∨ z = 398) σ (uI_ (uI_ (uI_ σ 398 0 0) 398 1 0) 398 2 0) := ⟨rfl, fun a h => by rw [uI_row (by omega), uI_row (by omega), uI_row (by omega)]⟩
  obtain ⟨σ2, r2, f2, u2⟩ := m_match_loop g hi gt ho hb hn (rl_ y i).1.length 0 e 1 5000 (uI_ (uI_ (uI_ σ 398 0 0) 398 1 0) 398 2 0) (fun _ => []) (by omega) (by have := gl.2; omega) (ms_fi f1 (fun a q => by omega) hm) (vw_fi f1 (by omega) hv) (by rw [List.drop_zero]; exact gl.1) (wt_tail gt.1 he) (Nat.le_of_lt he) (fun v hv => Or.inl ⟨rfl, by
    rcases (show v = 0 ∨ v = 1 ∨ v = 2 by omega) with rfl | rfl | rfl
    · rw [uI_ne (by omega), uI_ne (by omega), uI_same]
    · rw [uI_ne (by omega), uI_same]
    · rw [uI_same]⟩)
  rw [List.drop_zero] at r2 u2
  refine ⟨σ2, ?_, fi_tr f1 f2 (fun a h => h) (fun a h => h), u2⟩
  unfold fX12_isMatch
  rw [show (5000 : Nat) = 4999 + 1 from rfl, sX12_isMatch_3]
  unfold fX12_isMatch_3b
  rw [lm_10 hm.1, ln_398, if_neg (by decide), if_pos (by decide), lt_s_, show (4999 : Nat) = 4998 + 1 from rfl, sX12_isMatch_3]
  unfold fX12_isMatch_3b
  rw [uI_2, lm_10 hm.1, ln_398, if_neg (by decide), if_pos (by decide), lt_s_, show (4998 : Nat) = 4997 + 1 from rfl, sX12_isMatch_3]
  unfold fX12_isMatch_3b
  rw [uI_2, uI_2, lm_10 hm.1, ln_398, if_neg (by decide), if_pos (by decide), lt_s_, show (4997 : Nat) = 4996 + 1 from rfl, sX12_isMatch_3]
  unfold fX12_isMatch_3b
  rw [if_pos (by decide)]
  exact r2
