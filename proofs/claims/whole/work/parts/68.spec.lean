/-! what depends on the rules alone -/
theorem pl_ext {y y' : js_Y} (h : y'.2.1 = y.2.1) : ∀ {d r : Nat}, pl_ y' d r = pl_ y d r
  | 0, r => rfl
  | d + 1, r => by
    have e : rl_ y' r = rl_ y r := by unfold rl_; rw [h]
    rw [pl_s, pl_s, e, pl_ext h]
theorem pp_ext {y y' : js_Y} (h : y'.2.1 = y.2.1) : pp_ y' = pp_ y := by
  unfold pp_
  rw [h, pl_ext h]
/-- the fields of pair j -/
def fp2_ (y : js_Y) (j : Nat) : Nat → Nat := gp_ y (pc_ (pp_ y) j)
theorem fp2_ext {y y' : js_Y} (h1 : y'.1 = y.1) (h : y'.2.1 = y.2.1) : fp2_ y' = fp2_ y := by
  funext j
  unfold fp2_ gp_ rl_
  rw [pp_ext h, h1, h]
theorem ee_ext {y y' : js_Y} (h1 : y'.1 = y.1) (h : y'.2.1 = y.2.1) : ee_ y' = ee_ y := by
  funext i j
  unfold ee_ rl_
  rw [pp_ext h, h1, h]
theorem rk_ext {y y' : js_Y} (h1 : y'.1 = y.1) (h : y'.2.1 = y.2.1) : rk_ y' = rk_ y := by
  funext L
  unfold rk_
  rw [pp_ext h, ee_ext h1 h]
theorem fp2_lt {y : js_Y} {j : Nat} : ∀ k, fp2_ y j k < 4 := fun k => dg_lt k
theorem fp2_9 {y : js_Y} {j : Nat} : fp2_ y j 9 = fn_ (at_ (rl_ y (pc_ (pp_ y) j).1).1 0) := rfl
theorem fp2_10 {y : js_Y} {j : Nat} : fp2_ y j 10 = fn_ (at_ (rl_ y (pc_ (pp_ y) j).1).2 (pc_ (pp_ y) j).2) := rfl
theorem fp2_r {y : js_Y} {j a b : Nat} (ha : a < 3) (hb : b < 3) : fp2_ y j (3 * a + b) = if a < y.1 (fp2_ y j 9) ∧ b < y.1 (fp2_ y j 10) then rv_ y.1 (rl_ y (pc_ (pp_ y) j).1).1 (rl_ y (pc_ (pp_ y) j).1).2 (ag_ y.1 (rl_ y (pc_ (pp_ y) j).1).1 0 a) (ag_ y.1 (rl_ y (pc_ (pp_ y) j).1).2 (pc_ (pp_ y) j).2 b) else 0 := by
  rw [fp2_9, fp2_10]
  show dg_ _ _ _ _ _ = _
  unfold dg_
  rw [if_neg (by omega), if_neg (by omega), show (3 * a + b) / 3 = a by omega, show (3 * a + b) % 3 = b by omega]
  by_cases c : a < y.1 (fn_ (at_ (rl_ y (pc_ (pp_ y) j).1).1 0)) ∧ b < y.1 (fn_ (at_ (rl_ y (pc_ (pp_ y) j).1).2 (pc_ (pp_ y) j).2))
  · rw [if_pos c, if_pos ⟨by omega, c⟩]
  · rw [if_neg c, if_neg (fun z => c z.2)]
/-! projections -/
def cv_ (F : Nat → Nat → Nat) (c : Nat → Nat) (j : Nat) : Nat := F j (3 * c (F j 9) + c (F j 10))
def ik_ (R : Nat → Nat → Bool) (k j : Nat) : Bool := R j j && decide (nu_ R j = k)
def vd_ (F : Nat → Nat → Nat) (R : Nat → Nat → Bool) (k : Nat) (c : Nat → Nat) : Nat → Nat → Bool → Bool
  | 0, _, s => s
  | d + 1, j, s => if ik_ R k j = true then (if cv_ F c j = 0 then false else vd_ F R k c d (j + 1) (s || decide (cv_ F c j = 2))) else vd_ F R k c d (j + 1) s
theorem vd_s {F : Nat → Nat → Nat} {R : Nat → Nat → Bool} {k : Nat} {c : Nat → Nat} {d j : Nat} {s : Bool} : vd_ F R k c (d + 1) j s = if ik_ R k j = true then (if cv_ F c j = 0 then false else vd_ F R k c d (j + 1) (s || decide (cv_ F c j = 2))) else vd_ F R k c d (j + 1) s := rfl
def us_ (F : Nat → Nat → Nat) (R : Nat → Nat → Bool) (k f : Nat) : Nat → Bool
  | 0 => false
  | j + 1 => us_ F R k f j || (ik_ R k j && (decide (F j 9 = f) || decide (F j 10 = f)))
theorem us_s {F : Nat → Nat → Nat} {R : Nat → Nat → Bool} {k f j : Nat} : us_ F R k f (j + 1) = (us_ F R k f j || (ik_ R k j && (decide (F j 9 = f) || decide (F j 10 = f)))) := rfl
def cs2_ (F : Nat → Nat → Nat) (a : Nat → Nat) (R : Nat → Nat → Bool) (k n f : Nat) : Nat := if us_ F R k f n = true then a f else 1
def fs_ {α : Type} (v : Nat → Option α) : Nat → Nat → Option α
  | 0, _ => none
  | d + 1, i => (v i).or (fs_ v d (i + 1))
theorem fs_s {α : Type} {v : Nat → Option α} {d i : Nat} : fs_ v (d + 1) i = (v i).or (fs_ v d (i + 1)) := rfl
def c3_ (a b c f : Nat) : Nat := if f = 0 then a else if f = 1 then b else c
def p3_ (F : Nat → Nat → Nat) (R : Nat → Nat → Bool) (k n a b c : Nat) : Option (Nat × Nat × Nat) := if vd_ F R k (c3_ a b c) n 0 false = true then some (a, b, c) else none
def pj_ (F : Nat → Nat → Nat) (ar : Nat → Nat) (n : Nat) (R : Nat → Nat → Bool) (k : Nat) : Option (Nat × Nat × Nat) := fs_ (fun a => fs_ (fun b => fs_ (fun c => p3_ F R k n a b c) (cs2_ F ar R k n 2) 0) (cs2_ F ar R k n 1) 0) (cs2_ F ar R k n 0) 0
/-! elimination -/
def rq_ (F : Nat → Nat → Nat) (i : Nat) (q : Option (Nat × Nat × Nat)) : Bool := match q with
  | none => false
  | some q => decide (cv_ F (c3_ q.1 q.2.1 q.2.2) i = 2)
def rm2_ (F : Nat → Nat → Nat) (ar : Nat → Nat) (n : Nat) (R : Nat → Nat → Bool) (i : Nat) : Bool := R i i && rq_ F i (pj_ F ar n R (nu_ R i))
def mo_ (F : Nat → Nat → Nat) (ar : Nat → Nat) (n : Nat) (R : Nat → Nat → Bool) : Nat → Bool
  | 0 => false
  | k + 1 => mo_ F ar n R k || (pj_ F ar n R k).isSome
theorem mo_s {F : Nat → Nat → Nat} {ar : Nat → Nat} {n : Nat} {R : Nat → Nat → Bool} {k : Nat} : mo_ F ar n R (k + 1) = (mo_ F ar n R k || (pj_ F ar n R k).isSome) := rfl
def el_ (F : Nat → Nat → Nat) (ar : Nat → Nat) (n : Nat) (rk : (Nat → Bool) → Nat → Nat → Bool) : Nat → Nat → (Nat → Bool) → Nat × (Nat → Bool)
  | 0, r, L => (r, L)
  | d + 1, r, L => if mo_ F ar n (rk L) (ct2_ (rk L) n) = true then el_ F ar n rk d (r + 1) (fun i => L i && !rm2_ F ar n (rk L) i) else (r, L)
theorem el_s {F : Nat → Nat → Nat} {ar : Nat → Nat} {n : Nat} {rk : (Nat → Bool) → Nat → Nat → Bool} {d r : Nat} {L : Nat → Bool} : el_ F ar n rk (d + 1) r L = if mo_ F ar n (rk L) (ct2_ (rk L) n) = true then el_ F ar n rk d (r + 1) (fun i => L i && !rm2_ F ar n (rk L) i) else (r, L) := rfl
def es_ (y : js_Y) : Nat × (Nat → Bool) := el_ (fp2_ y) y.1 (pp_ y).length (rk_ y) 240 0 (fun _ => true)
theorem es_ext {y y' : js_Y} (h1 : y'.1 = y.1) (h : y'.2.1 = y.2.1) : es_ y' = es_ y := by
  unfold es_
  rw [fp2_ext h1 h, h1, pp_ext h, rk_ext h1 h]
theorem es_nil {y : js_Y} (h : pp_ y = []) : es_ y = (0, fun _ => true) := by
  unfold es_
  rw [h, List.length_nil, el_s]
  show (if mo_ (fp2_ y) y.1 0 (rk_ y fun _ => true) 0 = true then _ else _) = _
  rw [if_neg (show ¬ mo_ (fp2_ y) y.1 0 (rk_ y fun _ => true) 0 = true from Bool.false_ne_true)]
theorem pp_nil {y : js_Y} (h : y.2.1 = []) : pp_ y = [] := by
  unfold pp_
  rw [h]
  rfl
/-! the closure -/
def fe_ (x k : Nat) : Nat := (x >>> (2 * k)) &&& 3
def h2_ (a b : Nat) : Nat := if a = 0 ∨ b = 0 then 0 else max a b
def cp2_ (D E : Nat → Nat) (k : Nat) : Nat := if k = 10 then E 10 else if k = 9 then D 9 else if 8 < k then 0 else max (max (h2_ (D (3 * (k / 3))) (E (k % 3))) (h2_ (D (3 * (k / 3) + 1)) (E (3 + k % 3)))) (h2_ (D (3 * (k / 3) + 2)) (E (6 + k % 3)))
def cx_ (x z : Nat) : Nat := gd_ (cp2_ (fe_ x) (fe_ z)) 11
def gn_ (y : js_Y) (x : Nat) : Prop := ∃ j, j < (pp_ y).length ∧ x = gd_ (fp2_ y j) 11
def cl2_ (G : Nat → Prop) : Nat → Nat → Prop
  | 0, x => G x
  | k + 1, x => ∃ u g, cl2_ G k u ∧ G g ∧ fe_ u 10 = fe_ g 9 ∧ x = cx_ u g
def id_ (x : Nat) : Bool := decide (fe_ x 9 = fe_ x 10) && decide (cx_ x x = x)
def de2_ (x : Nat) : Bool := decide (fe_ x 0 = 2) || (decide (fe_ x 4 = 2) || decide (fe_ x 8 = 2))
/-! the class's caches -/
def P1_ (σ : js_S) (y : js_Y) : Prop := px_ σ y (pp_ y) ∧ ∀ f t, f < 240 → t < 256 → eb_ σ 371 f t = (decide (f < (pp_ y).length) && (decide (t < (pp_ y).length) && ee_ y f t))
def P2_ (σ : js_S) (y : js_Y) : Prop := σ.1 372 3 = nI (ct2_ (rk_ y (fun _ => true)) (pp_ y).length) ∧ ∀ j, j < (pp_ y).length → σ.1 377 j = nc2_ (rk_ y (fun _ => true)) j
def P3_ (σ : js_S) (y : js_Y) : Prop := (σ.1 378 5 = 0 ∧ ∃ G : List Nat, G.Nodup ∧ (∀ x, x ∈ G ↔ ∃ k, cl2_ (gn_ y) k x) ∧ G.length ≤ 400 ∧ σ.1 378 2 = nI G.length ∧ σ.1 378 3 = nI (G.countP id_) ∧ σ.1 378 4 = nI (G.countP (fun x => id_ x && de2_ x))) ∨ (σ.1 378 5 = 1 ∧ ∃ G : List Nat, G.Nodup ∧ (∀ x, x ∈ G → ∃ k, cl2_ (gn_ y) k x) ∧ 400 < G.length)
def P4_ (σ : js_S) (y : js_Y) : Prop := σ.1 381 3 = nI (es_ y).1 ∧ σ.1 382 3 = nI (ct2_ (rk_ y (es_ y).2) (pp_ y).length) ∧ σ.1 382 4 = nI (mb_ (rk_ y (es_ y).2) (pp_ y).length)
def ch_ (σ : js_S) (y : js_Y) : Prop := (σ.1 1 9 ≠ 0 → P1_ σ y) ∧ (σ.1 1 11 ≠ 0 → P2_ σ y) ∧ (σ.1 1 13 ≠ 0 → P3_ σ y) ∧ (σ.1 1 15 ≠ 0 → P4_ σ y)
/-- what each cache rests on -/
theorem P1_eq {σ σ' : js_S} {y y' : js_Y} (hi : ∀ a, 366 ≤ a → a ≤ 369 → σ'.1 a = σ.1 a) (hj : σ'.2.1 371 = σ.2.1 371) (h1 : y'.1 = y.1) (h2 : y'.2.1 = y.2.1) (h : P1_ σ y) : P1_ σ' y' := by
  obtain ⟨⟨a1, a2⟩, a3⟩ := h
  unfold P1_ px_
  rw [pp_ext h2, ee_ext h1 h2]
  refine ⟨⟨by rw [hi 366 (by omega) (by omega)]; exact a1, fun j hj => ?_⟩, fun f t hf ht => by unfold eb_; rw [hj]; exact a3 f t hf ht⟩
  rw [hi 367 (by omega) (by omega), hi 368 (by omega) (by omega), hi 369 (by omega) (by omega), show gp_ y' (pc_ (pp_ y) j) = gp_ y (pc_ (pp_ y) j) by unfold gp_ rl_; rw [h1, h2]]
  exact a2 j hj
theorem P2_eq {σ σ' : js_S} {y y' : js_Y} (hi : ∀ a, 372 ≤ a → a ≤ 377 → σ'.1 a = σ.1 a) (h1 : y'.1 = y.1) (h2 : y'.2.1 = y.2.1) (h : P2_ σ y) : P2_ σ' y' := by
  unfold P2_
  rw [pp_ext h2, rk_ext h1 h2, hi 372 (by omega) (by omega), hi 377 (by omega) (by omega)]
  exact h
theorem gn_ext {y y' : js_Y} (h1 : y'.1 = y.1) (h2 : y'.2.1 = y.2.1) : gn_ y' = gn_ y := by
  funext x
  unfold gn_
  rw [pp_ext h2, fp2_ext h1 h2]
theorem P3_eq {σ σ' : js_S} {y y' : js_Y} (hi : σ'.1 378 = σ.1 378) (h1 : y'.1 = y.1) (h2 : y'.2.1 = y.2.1) (h : P3_ σ y) : P3_ σ' y' := by
  unfold P3_
  rw [gn_ext h1 h2, hi]
  exact h
theorem P4_eq {σ σ' : js_S} {y y' : js_Y} (hi : ∀ a, a = 381 ∨ a = 382 → σ'.1 a = σ.1 a) (h1 : y'.1 = y.1) (h2 : y'.2.1 = y.2.1) (h : P4_ σ y) : P4_ σ' y' := by
  unfold P4_
  rw [es_ext h1 h2, pp_ext h2, rk_ext h1 h2, hi 381 (by omega), hi 382 (by omega)]
  exact h
theorem ch_ce2 {σ σ' : js_S} {y y' : js_Y} (h : ce2_ σ σ') (h1 : y'.1 = y.1) (h2 : y'.2.1 = y.2.1) (hc : ch_ σ y) : ch_ σ' y' := by
  obtain ⟨a, b, c⟩ := h
  obtain ⟨c1, c2, c3, c4⟩ := hc
  refine ⟨fun q => P1_eq (fun a q1 q2 => (b a (by omega) (by omega)).1) (b 371 (by omega) (by omega)).2 h1 h2 (c1 (by rw [← a 9 (by omega)]; exact q)), fun q => P2_eq (fun a q1 q2 => (b a (by omega) (by omega)).1) h1 h2 (c2 (by rw [← a 11 (by omega)]; exact q)), fun q => P3_eq (b 378 (by omega) (by omega)).1 h1 h2 (c3 (by rw [← a 13 (by omega)]; exact q)), fun q => P4_eq (fun a q1 => (b a (by omega) (by omega)).1) h1 h2 (c4 (by rw [← a 15 (by omega)]; exact q))⟩
theorem ch_cz {σ : js_S} {y : js_Y} (h : cz_ σ) : ch_ σ y := ⟨fun q => absurd h.1 q, fun q => absurd h.2.1 q, fun q => absurd h.2.2.1 q, fun q => absurd h.2.2.2 q⟩
/-- without rules the arities matter nothing -/
theorem ch_nil {σ : js_S} {y y' : js_Y} (h1 : y.2.1 = []) (h2 : y'.2.1 = []) (hc : ch_ σ y) : ch_ σ y' := by
  have e1 := pp_nil h1
  have e2 := pp_nil h2
  have eg : gn_ y' = gn_ y := by
    funext x
    unfold gn_
    rw [e1, e2]
    exact propext ⟨fun ⟨j, hj, _⟩ => by simp at hj, fun ⟨j, hj, _⟩ => by simp at hj⟩
  obtain ⟨c1, c2, c3, c4⟩ := hc
  refine ⟨fun q => ?_, fun q => ?_, fun q => ?_, fun q => ?_⟩
  · have := c1 q
    unfold P1_ px_ at this ⊢
    rw [e1] at this
    rw [e2]
    refine ⟨⟨this.1.1, fun j hj => by simp at hj⟩, fun f t hf ht => ?_⟩
    rw [this.2 f t hf ht, List.length_nil, decide_eq_false (Nat.not_lt_zero f), Bool.false_and, Bool.false_and]
  · have := c2 q
    unfold P2_ at this ⊢
    rw [e1] at this
    rw [e2]
    exact ⟨this.1, fun j hj => by simp at hj⟩
  · have := c3 q
    unfold P3_ at this ⊢
    rw [eg]
    exact this
  · have := c4 q
    unfold P4_ at this ⊢
    rw [es_nil e1, e1] at this
    rw [es_nil e2, e2]
    exact this
