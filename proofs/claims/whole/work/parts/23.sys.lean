/-! frames: ints changed only where S says -/
def fi_ (S : Nat → Prop) (σ σ' : js_S) : Prop := σ'.2 = σ.2 ∧ ∀ a, ¬ S a → σ'.1 a = σ.1 a
theorem fi_rf {S : Nat → Prop} {σ : js_S} : fi_ S σ σ := ⟨rfl, fun _ _ => rfl⟩
theorem fi_tr {S S2 S3 : Nat → Prop} {σ σ1 σ2 : js_S} (h1 : fi_ S σ σ1) (h2 : fi_ S2 σ1 σ2) (ha : ∀ a, ¬ S3 a → ¬ S a) (hb : ∀ a, ¬ S3 a → ¬ S2 a) : fi_ S3 σ σ2 := ⟨h2.1.trans h1.1, fun a h => (h2.2 a (hb a h)).trans (h1.2 a (ha a h))⟩
theorem fi_mono {S S2 : Nat → Prop} {σ σ1 : js_S} (h1 : fi_ S σ σ1) (ha : ∀ a, ¬ S2 a → ¬ S a) : fi_ S2 σ σ1 := ⟨h1.1, fun a h => h1.2 a (ha a h)⟩
theorem fi_u {S : Nat → Prop} {σ : js_S} {o j : Nat} {x : Int32} (h : S o) : fi_ S σ (uI_ σ o j x) := by
  refine ⟨rfl, fun a ha => ?_⟩
  have : ¬ a = o := fun q => ha (q ▸ h)
  funext b
  simp [uI_, this]
theorem fi_c {S : Nat → Prop} {σ : js_S} {o i p j n : Nat} (h : S p) : fi_ S σ (cI_ σ o i p j n) := by
  refine ⟨rfl, fun a ha => ?_⟩
  have : ¬ a = p := fun q => ha (q ▸ h)
  funext b
  simp [cI_, this]
theorem fi_r {S : Nat → Prop} {σ σ' : js_S} (h : fi_ S σ σ') : σ'.2.2 = σ.2.2 := by rw [h.1]
theorem uI_same {σ : js_S} {o j : Nat} {x : Int32} : (uI_ σ o j x).1 o j = x := by simp [uI_]
theorem uI_ne {σ : js_S} {o j a b : Nat} {x : Int32} (h : ¬ (a = o ∧ b = j)) : (uI_ σ o j x).1 a b = σ.1 a b := by simp only [uI_, if_neg h]
theorem uI_row {σ : js_S} {o j a : Nat} {x : Int32} (h : a ≠ o) : (uI_ σ o j x).1 a = σ.1 a := funext (fun b => uI_ne (fun q => h q.1))
theorem uI_2 {σ : js_S} {o j : Nat} {x : Int32} : (uI_ σ o j x).2 = σ.2 := rfl
theorem tm_fi {S : Nat → Prop} {σ σ' : js_S} {o : Nat} {t : List Int32} (h : fi_ S σ σ') (h1 : ¬ S o) (h2 : ¬ S (o + 1)) (ht : tm_ σ o t) : tm_ σ' o t := by
  unfold tm_
  rw [h.2 o h1, h.2 (o + 1) h2]
  exact ht
theorem sg_fi {S : Nat → Prop} {σ σ' : js_S} {o : Nat} {a : Nat → Nat} (h : fi_ S σ σ') (h2 : ¬ S (o + 1)) (ht : sg_ σ o a) : sg_ σ' o a := by
  unfold sg_
  rw [h.2 (o + 1) h2]
  exact ht
theorem vw_fi {S : Nat → Prop} {σ σ' : js_S} {o p : Nat} {t : List Int32} (h : fi_ S σ σ') (h1 : ¬ S o) (ht : vw_ σ o p t) : vw_ σ' o p t := by
  unfold vw_
  rw [h.2 o h1]
  exact ht
def rw_ (σ : js_S) (o p : Nat) (t : List Int32) : Prop := σ.1 o p = nI t.length ∧ vw_ σ o (p + 1) t
theorem rw_fi {S : Nat → Prop} {σ σ' : js_S} {o p : Nat} {t : List Int32} (h : fi_ S σ σ') (h1 : ¬ S o) (ht : rw_ σ o p t) : rw_ σ' o p t := ⟨by rw [h.2 o h1]; exact ht.1, vw_fi h h1 ht.2⟩
/-! systems -/
abbrev js_Y : Type := (Nat → Nat) × List (List Int32 × List Int32) × (Nat → List Int32)
def rl_ (y : js_Y) (i : Nat) : List Int32 × List Int32 := y.2.1.getD i ([], [])
def gt_ (a : Nat → Nat) (t : List Int32) : Prop := wt_ a t 1 ∧ t.length ≤ 40
def gr_ (a : Nat → Nat) (q : List Int32 × List Int32) : Prop := gt_ a q.1 ∧ gt_ a q.2 ∧ isF_ (at_ q.1 0) = true ∧ (∀ k, 0 < k → k < q.1.length → isF_ (at_ q.1 k) = false) ∧ ∀ k, k < q.2.length → isV_ (at_ q.2 k) = true → at_ q.2 k ∈ q.1
def gy_ (y : js_Y) : Prop := ga_ y.1 ∧ y.2.1.length ≤ 6 ∧ (∀ i, i < y.2.1.length → gr_ y.1 (rl_ y i)) ∧ ∀ i, i < 4 → gt_ y.1 (y.2.2 i)
/-- the system object b holds y -/
def sx_ (σ : js_S) (b : Nat) (y : js_Y) : Prop := sg_ σ (b + 1) y.1 ∧ σ.1 b 5 = nI y.2.1.length ∧ (∀ i, i < y.2.1.length → tm_ σ (b + 8 + 4 * i) (rl_ y i).1 ∧ tm_ σ (b + 10 + 4 * i) (rl_ y i).2) ∧ ∀ i, i < 4 → tm_ σ (b + 32 + 2 * i) (y.2.2 i)
theorem sx_fi {S : Nat → Prop} {σ σ' : js_S} {b : Nat} {y : js_Y} (h : fi_ S σ σ') (hy : y.2.1.length ≤ 6) (hS : ∀ a, b ≤ a → a < b + 40 → ¬ S a) (hx : sx_ σ b y) : sx_ σ' b y := by
  obtain ⟨h1, h2, h3, h4⟩ := hx
  refine ⟨sg_fi h (hS _ (by omega) (by omega)) h1, by rw [h.2 b (hS _ (by omega) (by omega))]; exact h2, fun i hi => ⟨?_, ?_⟩, fun i hi => ?_⟩
  · exact tm_fi h (hS _ (by omega) (by omega)) (hS _ (by omega) (by omega)) (h3 i hi).1
  · exact tm_fi h (hS _ (by omega) (by omega)) (hS _ (by omega) (by omega)) (h3 i hi).2
  · exact tm_fi h (hS _ (by omega) (by omega)) (hS _ (by omega) (by omega)) (h4 i hi)
/-- the model's rows hold y -/
def sm_ (σ : js_S) (oa oq og c : Nat) (y : js_Y) : Prop := (∀ f, f < 3 → σ.1 oa f = nI (y.1 f)) ∧ σ.1 390 c = nI y.2.1.length ∧ (∀ i, i < y.2.1.length → rw_ σ oq (192 * i) (rl_ y i).1 ∧ rw_ σ oq (192 * i + 96) (rl_ y i).2) ∧ ∀ i, i < 4 → rw_ σ og (96 * i) (y.2.2 i)
/-! terms and systems of the class: what is read -/
theorem x6_left {σ : js_S} {fu i : Nat} (h : lx_ σ.2.2) (hi : i < 6) : fX6_left fu 2 (nI i) σ = some (10 + 4 * i, σ) := by
  unfold fX6_left
  rw [lx_2_1 h, ln_5]
  simp (disch := omega) only [n_lit, n_of, n_lt, n_le, n_ib, n_cl, decide_eq_true_eq, Nat.not_lt_zero, if_false]
  rw [if_neg (by omega), if_pos hi, lx_5 h hi]
theorem x6_right {σ : js_S} {fu i : Nat} (h : lx_ σ.2.2) (hi : i < 6) : fX6_right fu 2 (nI i) σ = some (12 + 4 * i, σ) := by
  unfold fX6_right
  rw [lx_2_2 h, ln_6]
  simp (disch := omega) only [n_lit, n_of, n_lt, n_le, n_ib, n_cl, decide_eq_true_eq, Nat.not_lt_zero, if_false]
  rw [if_neg (by omega), if_pos hi, lx_6 h hi]
theorem x6_register {σ : js_S} {fu i : Nat} (h : lx_ σ.2.2) (hi : i < 4) : fX6_register fu 2 (nI i) σ = some (34 + 2 * i, σ) := by
  unfold fX6_register
  rw [lx_2_3 h, ln_7]
  simp (disch := omega) only [n_lit, n_of, n_lt, n_le, n_ib, n_cl, decide_eq_true_eq, Nat.not_lt_zero, if_false]
  rw [if_neg (by omega), if_pos hi, lx_7 h hi]
theorem x6_left2 {σ : js_S} {fu i : Nat} (h : lx_ σ.2.2) (hi : i < 6) : fX6_left fu 42 (nI i) σ = some (50 + 4 * i, σ) := by
  unfold fX6_left
  rw [lx_42_1 h, ln_45]
  simp (disch := omega) only [n_lit, n_of, n_lt, n_le, n_ib, n_cl, decide_eq_true_eq, Nat.not_lt_zero, if_false]
  rw [if_neg (by omega), if_pos hi, lx_45 h hi]
theorem x6_right2 {σ : js_S} {fu i : Nat} (h : lx_ σ.2.2) (hi : i < 6) : fX6_right fu 42 (nI i) σ = some (52 + 4 * i, σ) := by
  unfold fX6_right
  rw [lx_42_2 h, ln_46]
  simp (disch := omega) only [n_lit, n_of, n_lt, n_le, n_ib, n_cl, decide_eq_true_eq, Nat.not_lt_zero, if_false]
  rw [if_neg (by omega), if_pos hi, lx_46 h hi]
theorem x6_register2 {σ : js_S} {fu i : Nat} (h : lx_ σ.2.2) (hi : i < 4) : fX6_register fu 42 (nI i) σ = some (74 + 2 * i, σ) := by
  unfold fX6_register
  rw [lx_42_3 h, ln_47]
  simp (disch := omega) only [n_lit, n_of, n_lt, n_le, n_ib, n_cl, decide_eq_true_eq, Nat.not_lt_zero, if_false]
  rw [if_neg (by omega), if_pos hi, lx_47 h hi]
/-- a term object's place -/
def to_ (σ : js_S) (o : Nat) : Prop := σ.2.2 o 0 = o + 1 ∧ ln_ (o + 1) = 40 ∧ o + 1 < 390
theorem to_of {σ : js_S} {o : Nat} (h : lx_ σ.2.2) (h1 : o < 390) (h2 : kd_ o = 9) : to_ σ o := ⟨lx_T h h1 h2, (lx_T0 o h1 h2).2.2.1, (lx_T0 o h1 h2).2.2.2.2⟩
theorem to_fi {S : Nat → Prop} {σ σ' : js_S} {o : Nat} (h : fi_ S σ σ') (ho : to_ σ o) : to_ σ' o := by
  unfold to_
  rw [fi_r h]
  exact ho
theorem to_left {σ : js_S} (h : lx_ σ.2.2) : ∀ i, i < 6 → to_ σ (10 + 4 * i) := fun i hi => to_of h (by omega) ((by decide +kernel : ∀ i, i < 6 → kd_ (10 + 4 * i) = 9) i hi)
theorem to_right {σ : js_S} (h : lx_ σ.2.2) : ∀ i, i < 6 → to_ σ (12 + 4 * i) := fun i hi => to_of h (by omega) ((by decide +kernel : ∀ i, i < 6 → kd_ (12 + 4 * i) = 9) i hi)
theorem to_reg {σ : js_S} (h : lx_ σ.2.2) : ∀ i, i < 4 → to_ σ (34 + 2 * i) := fun i hi => to_of h (by omega) ((by decide +kernel : ∀ i, i < 4 → kd_ (34 + 2 * i) = 9) i hi)
theorem to_left2 {σ : js_S} (h : lx_ σ.2.2) : ∀ i, i < 6 → to_ σ (50 + 4 * i) := fun i hi => to_of h (by omega) ((by decide +kernel : ∀ i, i < 6 → kd_ (50 + 4 * i) = 9) i hi)
theorem to_right2 {σ : js_S} (h : lx_ σ.2.2) : ∀ i, i < 6 → to_ σ (52 + 4 * i) := fun i hi => to_of h (by omega) ((by decide +kernel : ∀ i, i < 6 → kd_ (52 + 4 * i) = 9) i hi)
theorem to_reg2 {σ : js_S} (h : lx_ σ.2.2) : ∀ i, i < 4 → to_ σ (74 + 2 * i) := fun i hi => to_of h (by omega) ((by decide +kernel : ∀ i, i < 4 → kd_ (74 + 2 * i) = 9) i hi)
theorem to_seq {σ : js_S} (h : lx_ σ.2.2) : ∀ i, i < 101 → to_ σ (91 + 2 * i) := fun i hi => to_of h (by omega) ((by decide +kernel : ∀ i, i < 101 → kd_ (91 + 2 * i) = 9) i hi)
theorem to_found {σ : js_S} (h : lx_ σ.2.2) : ∀ i, i < 31 → to_ σ (302 + 2 * i) := fun i hi => to_of h (by omega) ((by decide +kernel : ∀ i, i < 31 → kd_ (302 + 2 * i) = 9) i hi)
/-! Term's own methods -/
theorem x9_contains_loop {σ : js_S} {fu o : Nat} {t : List Int32} {c : Int32} (h : to_ σ o) (ht : tm_ σ o t) (hs : t.length ≤ 40) :
    ∀ (d e k : Nat), e + d = t.length → d < k → fX9_contains_2 fu k o c (nI e) σ = some ((if c ∈ t.drop e then 1 else 0), σ) := by
  intro d
  induction d with
  | zero =>
    intro e k he hk
    obtain ⟨k, rfl⟩ : ∃ j, k = j + 1 := ⟨k - 1, by omega⟩
    rw [sX9_contains_2]
    unfold fX9_contains_2b
    rw [ht.1, drop_end (by omega)]
    simp (disch := omega) only [n_le]
    rw [if_pos (by omega), if_neg (by simp)]
  | succ d ih =>
    intro e k he hk
    obtain ⟨k, rfl⟩ : ∃ j, k = j + 1 := ⟨k - 1, by omega⟩
    rw [sX9_contains_2]
    unfold fX9_contains_2b
    rw [ht.1, x9_symbolAt h.1 h.2.1 ht hs (by omega), bd_s, drop_get (by omega)]
    simp (disch := omega) only [n_le, n_lit, n_add]
    rw [if_neg (by omega), ih (e + 1) k (by omega) (by omega)]
    by_cases hc : at_ t e = c
    · rw [if_pos hc, if_pos (by rw [hc]; exact List.mem_cons_self)]
    · rw [if_neg hc]
      by_cases h2 : c ∈ t.drop (e + 1)
      · rw [if_pos h2, if_pos (List.mem_cons_of_mem _ h2)]
        rfl
      · rw [if_neg h2, if_neg (fun q => (List.mem_cons.mp q).elim (fun q => hc q.symm) h2)]
        rfl
theorem x9_contains {σ : js_S} {o : Nat} {t : List Int32} {c : Int32} (h : to_ σ o) (ht : tm_ σ o t) (hs : t.length ≤ 40) : fX9_contains 5000 o c σ = some ((if c ∈ t then 1 else 0), σ) := by
  unfold fX9_contains
  exact x9_contains_loop h ht hs t.length 0 5000 (by omega) (by omega)
theorem x9_copyFrom {σ : js_S} {fu d s : Nat} {t : List Int32} (hd : to_ σ d) (hs : to_ σ s) (ht : tm_ σ s t) (hds : d = s ∨ d + 1 < s ∨ s + 1 < d) : ∃ σ', fX9_copyFrom fu d s σ = some ((), σ') ∧ fi_ (fun a => a = d ∨ a = d + 1) σ σ' ∧ tm_ σ' d t := by
  refine ⟨uI_ (cI_ σ (s + 1) 0 (d + 1) 0 40) d 1 (nI t.length), ?_, ?_, ?_⟩
  · unfold fX9_copyFrom
    rw [hd.1, hs.1, hd.2.1, hs.2.1]
    rw [if_pos (by decide +kernel)]
    have e : (cI_ σ (s + 1) 0 (d + 1) 0 40).1 s 1 = nI t.length := by
      rw [← ht.1]
      have : ¬ s = d + 1 := by omega
      simp [cI_, this]
    simp only [lt_s_]
    show some ((), uI_ (cI_ σ (s + 1) 0 (d + 1) 0 40) d 1 ((cI_ σ (s + 1) 0 (d + 1) 0 40).1 s 1)) = _
    rw [e]
  · exact fi_tr (S := fun a => a = d + 1) (S2 := fun a => a = d) (fi_c rfl) (fi_u rfl) (fun a h q => h (Or.inr q)) (fun a h q => h (Or.inl q))
  · refine ⟨uI_same, fun k h1 h2 => ?_⟩
    rw [uI_ne (by omega)]
    show (if d + 1 = d + 1 ∧ 0 ≤ k ∧ k < 0 + 40 then σ.1 (s + 1) (0 + (k - 0)) else σ.1 (d + 1) k) = _
    rw [if_pos ⟨rfl, by omega, by omega⟩, Nat.zero_add, Nat.sub_zero]
    exact ht.2 k h1 h2
/-- rows compared -/
def cp_ : List Int32 → List Int32 → Int32
  | s :: t, r :: u => if s = r then cp_ t u else if r ≤ s then 1 else -1
  | _, _ => 0
def cmp_ (t u : List Int32) : Int32 := if t.length = u.length then cp_ t u else if u.length ≤ t.length then 1 else -1
theorem j6_compare {fu : Nat} {x y : Int32} {σ : js_S} : fJ6_compare_7cf53 fu x y σ = some ((if x = y then 0 else if y ≤ x then 1 else -1), σ) := by
  unfold fJ6_compare_7cf53
  by_cases h1 : x = y
  · subst h1
    rw [if_pos (Int32.le_refl x), if_pos rfl, if_pos rfl]
  · rw [if_neg h1, if_neg h1]
    by_cases h2 : y ≤ x
    · rw [if_pos h2, if_pos h2]
    · rw [if_neg h2, if_neg h2]
theorem cp_cons (s r : Int32) (t u : List Int32) : cp_ (s :: t) (r :: u) = if s = r then cp_ t u else if r ≤ s then 1 else -1 := rfl
theorem cp_nz {s r : Int32} (h : ¬ s = r) : ¬ (if s = r then (0 : Int32) else if r ≤ s then 1 else -1) = 0 := by
  rw [if_neg h]
  split <;> decide
theorem x9_order_loop {σ : js_S} {fu o q : Nat} {t u : List Int32} (h : to_ σ o) (ht : tm_ σ o t) (hs : t.length ≤ 40) (h2 : to_ σ q) (hu : tm_ σ q u) (hl : t.length = u.length) :
    ∀ (d e k : Nat), e + d = t.length → d < k → fX9_orderAgainst_25 fu k o q (nI e) σ = some (cp_ (t.drop e) (u.drop e), σ) := by
  intro d
  induction d with
  | zero =>
    intro e k he hk
    obtain ⟨k, rfl⟩ : ∃ j, k = j + 1 := ⟨k - 1, by omega⟩
    rw [sX9_orderAgainst_25]
    unfold fX9_orderAgainst_25b
    rw [ht.1, drop_end (by omega)]
    simp (disch := omega) only [n_le]
    rw [if_pos (by omega)]
    simp [cp_]
  | succ d ih =>
    intro e k he hk
    obtain ⟨k, rfl⟩ : ∃ j, k = j + 1 := ⟨k - 1, by omega⟩
    rw [sX9_orderAgainst_25]
    unfold fX9_orderAgainst_25b
    rw [ht.1, x9_symbolAt h.1 h.2.1 ht hs (by omega), bd_s, x9_symbolAt h2.1 h2.2.1 hu (by omega) (by omega), bd_s, j6_compare, bd_s, drop_get (l := t) (by omega), drop_get (l := u) (by omega)]
    have e1 : nI e + 1 = nI (e + 1) := n_add e 1
    rw [e1, ih (e + 1) k (by omega) (by omega)]
    simp (disch := omega) only [n_le]
    rw [if_neg (by omega)]
    rw [cp_cons]
    by_cases hc : at_ t e = at_ u e
    · rw [if_pos hc, if_pos rfl, if_pos hc]
    · rw [if_neg (cp_nz hc), if_neg hc, if_neg hc]
theorem x9_order {σ : js_S} {o q : Nat} {t u : List Int32} (h : to_ σ o) (ht : tm_ σ o t) (hs : t.length ≤ 40) (h2 : to_ σ q) (hu : tm_ σ q u) (hs2 : u.length ≤ 40) : fX9_orderAgainst 5000 o q σ = some (cmp_ t u, σ) := by
  unfold fX9_orderAgainst cmp_
  rw [ht.1, hu.1, j6_compare, bd_s]
  have e0 : (0 : Int32) = nI 0 := rfl
  by_cases hl : t.length = u.length
  · rw [if_pos (by rw [hl]), if_pos hl, e0, x9_order_loop h ht hs h2 hu hl t.length 0 5000 (by omega) (by omega)]
    rfl
  · have h3 : ¬ nI t.length = nI u.length := by
      rw [n_eq (by omega) (by omega)]
      exact hl
    rw [if_neg h3, if_neg h3, if_neg hl]
    by_cases h4 : u.length ≤ t.length
    · rw [if_pos ((n_le (by omega) (by omega)).mpr h4), if_pos h4]
    · rw [if_neg (fun q => h4 ((n_le (by omega) (by omega)).mp q)), if_neg h4]
