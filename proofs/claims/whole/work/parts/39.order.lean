/-! the order of terms -/
def cl_ : List Int32 → List Int32 → Prop
  | s :: t, r :: u => s < r ∨ (s = r ∧ cl_ t u)
  | _, _ => False
theorem cp_cl : ∀ {t u : List Int32}, t.length = u.length → (cp_ t u < 0 ↔ cl_ t u)
  | [], [], _ => by simp [cp_, cl_]
  | [], r :: u, h => by simp at h
  | s :: t, [], h => by simp at h
  | s :: t, r :: u, h => by
    rw [cp_cons]
    show _ ↔ s < r ∨ (s = r ∧ cl_ t u)
    by_cases e : s = r
    · subst e
      rw [if_pos rfl, cp_cl (by simpa using h)]
      exact ⟨fun q => Or.inr ⟨rfl, q⟩, fun q => q.elim (fun w => absurd w (Int32.lt_irrefl)) (fun w => w.2)⟩
    · rw [if_neg e]
      by_cases c : r ≤ s
      · rw [if_pos c]
        exact ⟨fun q => absurd q (by decide), fun q => q.elim (fun w => absurd w (Int32.not_lt.mpr c)) (fun w => absurd w.1 e)⟩
      · rw [if_neg c]
        exact ⟨fun _ => Or.inl (Int32.not_le.mp c), fun _ => by decide⟩
theorem cl_ir : ∀ {t : List Int32}, ¬ cl_ t t
  | [], h => h
  | s :: t, h => h.elim (fun w => Int32.lt_irrefl w) (fun w => cl_ir w.2)
theorem cl_tr : ∀ {t u w : List Int32}, cl_ t u → cl_ u w → cl_ t w
  | s :: t, r :: u, q :: w, h1, h2 => by
    rcases h1 with h1 | ⟨e1, h1⟩
    · rcases h2 with h2 | ⟨e2, h2⟩
      · exact Or.inl (Int32.lt_trans h1 h2)
      · exact Or.inl (e2 ▸ h1)
    · rcases h2 with h2 | ⟨e2, h2⟩
      · exact Or.inl (e1 ▸ h2)
      · exact Or.inr ⟨e1.trans e2, cl_tr h1 h2⟩
  | [], _, _, h1, _ => absurd h1 (by simp [cl_])
  | _ :: _, [], _, h1, _ => absurd h1 (by simp [cl_])
  | _ :: _, _ :: _, [], _, h2 => absurd h2 (by simp [cl_])
theorem cl_tri : ∀ {t u : List Int32}, t.length = u.length → t = u ∨ cl_ t u ∨ cl_ u t
  | [], [], _ => Or.inl rfl
  | [], r :: u, h => by simp at h
  | s :: t, [], h => by simp at h
  | s :: t, r :: u, h => by
    rcases Int32.lt_or_le s r with c | c
    · exact Or.inr (Or.inl (Or.inl c))
    · by_cases e : s = r
      · subst e
        rcases cl_tri (t := t) (u := u) (by simpa using h) with q | q | q
        · exact Or.inl (by rw [q])
        · exact Or.inr (Or.inl (Or.inr ⟨rfl, q⟩))
        · exact Or.inr (Or.inr (Or.inr ⟨rfl, q⟩))
      · exact Or.inr (Or.inr (Or.inl (Int32.lt_of_le_of_ne c (fun q => e q.symm))))
/-- t stands before u -/
def tl_ (t u : List Int32) : Prop := t.length < u.length ∨ (t.length = u.length ∧ cl_ t u)
theorem cmp_tl {t u : List Int32} : cmp_ t u < 0 ↔ tl_ t u := by
  unfold cmp_ tl_
  by_cases h : t.length = u.length
  · rw [if_pos h, cp_cl h]
    exact ⟨fun q => Or.inr ⟨h, q⟩, fun q => q.elim (fun w => by omega) (fun w => w.2)⟩
  · rw [if_neg h]
    by_cases c : u.length ≤ t.length
    · rw [if_pos c]
      exact ⟨fun q => absurd q (by decide), fun q => q.elim (fun w => by omega) (fun w => absurd w.1 h)⟩
    · rw [if_neg c]
      exact ⟨fun _ => Or.inl (by omega), fun _ => by decide⟩
theorem tl_ir {t : List Int32} : ¬ tl_ t t := fun h => h.elim (fun w => by omega) (fun w => cl_ir w.2)
theorem tl_tr {t u w : List Int32} (h1 : tl_ t u) (h2 : tl_ u w) : tl_ t w := by
  rcases h1 with h1 | ⟨e1, h1⟩
  · rcases h2 with h2 | ⟨e2, h2⟩
    · exact Or.inl (by omega)
    · exact Or.inl (by omega)
  · rcases h2 with h2 | ⟨e2, h2⟩
    · exact Or.inl (by omega)
    · exact Or.inr ⟨by omega, cl_tr h1 h2⟩
theorem tl_tri (t u : List Int32) : t = u ∨ tl_ t u ∨ tl_ u t := by
  rcases Nat.lt_trichotomy t.length u.length with h | h | h
  · exact Or.inr (Or.inl (Or.inl h))
  · rcases cl_tri h with q | q | q
    · exact Or.inl q
    · exact Or.inr (Or.inl (Or.inr ⟨h, q⟩))
    · exact Or.inr (Or.inr (Or.inr ⟨h.symm, q⟩))
  · exact Or.inr (Or.inr (Or.inl h))
theorem tl_ne {t u : List Int32} (h : tl_ t u) : t ≠ u := fun e => tl_ir (e ▸ h)
theorem tl_as {t u : List Int32} (h : tl_ t u) : ¬ tl_ u t := fun q => tl_ir (tl_tr h q)
/-! lists of terms with a mark -/
abbrev js_F : Type := List (List Int32 × Bool)
def so_ : js_F → Prop
  | [] => True
  | p :: F => (∀ q, q ∈ F → tl_ p.1 q.1) ∧ so_ F
def ii_ (u : List Int32) : js_F → js_F
  | [] => [(u, false)]
  | p :: F => if cmp_ u p.1 = 0 then p :: F else if cmp_ u p.1 < 0 then (u, false) :: p :: F else p :: ii_ u F
def mk_ : js_F → Option (List Int32 × js_F)
  | [] => none
  | p :: F => if p.2 = false then some (p.1, (p.1, true) :: F) else (mk_ F).map fun q => (q.1, p :: q.2)
theorem ii_take (u : List Int32) : ∀ (n : Nat) (F : js_F), (ii_ u (F.take n)).take n = (ii_ u F).take n
  | 0, F => by simp
  | n + 1, [] => rfl
  | n + 1, p :: F => by
    rw [List.take_succ_cons]
    unfold ii_
    by_cases c1 : cmp_ u p.1 = 0
    · rw [if_pos c1, if_pos c1, List.take_succ_cons, List.take_succ_cons, List.take_take, Nat.min_self]
    · rw [if_neg c1, if_neg c1]
      by_cases c2 : cmp_ u p.1 < 0
      · rw [if_pos c2, if_pos c2, List.take_succ_cons, List.take_succ_cons]
        have : (p :: F.take n).take n = (p :: F).take n := by
          rw [← List.take_succ_cons, List.take_take, Nat.min_eq_left (by omega)]
        rw [this]
      · rw [if_neg c2, if_neg c2, List.take_succ_cons, List.take_succ_cons, ii_take u n F]
theorem ii_mem {u : List Int32} : ∀ {F : js_F} {q : List Int32 × Bool}, q ∈ ii_ u F → q = (u, false) ∨ q ∈ F
  | [], q, h => by
    unfold ii_ at h
    exact Or.inl (List.mem_singleton.mp h)
  | p :: F, q, h => by
    unfold ii_ at h
    by_cases c1 : cmp_ u p.1 = 0
    · rw [if_pos c1] at h; exact Or.inr h
    · rw [if_neg c1] at h
      by_cases c2 : cmp_ u p.1 < 0
      · rw [if_pos c2] at h
        exact (List.mem_cons.mp h)
      · rw [if_neg c2] at h
        rcases List.mem_cons.mp h with e | e
        · exact Or.inr (by rw [e]; exact List.mem_cons_self)
        · exact (ii_mem e).elim Or.inl (fun w => Or.inr (List.mem_cons_of_mem p w))
theorem ii_so {u : List Int32} : ∀ {F : js_F}, so_ F → so_ (ii_ u F)
  | [], _ => ⟨fun q h => (by cases h), trivial⟩
  | p :: F, h => by
    unfold ii_
    by_cases c1 : cmp_ u p.1 = 0
    · rw [if_pos c1]; exact h
    · rw [if_neg c1]
      by_cases c2 : cmp_ u p.1 < 0
      · rw [if_pos c2]
        refine ⟨fun q hq => ?_, h⟩
        have hup := cmp_tl.mp c2
        rcases List.mem_cons.mp hq with e | e
        · rw [e]; exact hup
        · exact tl_tr hup (h.1 q e)
      · rw [if_neg c2]
        refine ⟨fun q hq => ?_, ii_so h.2⟩
        rcases ii_mem hq with e | e
        · rw [e]
          rcases tl_tri u p.1 with w | w | w
          · exact absurd (cmp_eq.mpr w) c1
          · exact absurd (cmp_tl.mpr w) c2
          · exact w
        · exact h.1 q e
/-- a term that is known is not put in again -/
theorem ii_in {u : List Int32} : ∀ {F : js_F}, so_ F → (∃ b, (u, b) ∈ F) → ii_ u F = F
  | [], _, ⟨b, h⟩ => by cases h
  | p :: F, hs, ⟨b, h⟩ => by
    unfold ii_
    by_cases c1 : cmp_ u p.1 = 0
    · rw [if_pos c1]
    · have hF : (u, b) ∈ F := by
        rcases List.mem_cons.mp h with e | e
        · exact absurd (cmp_eq.mpr (by rw [← e])) c1
        · exact e
      have hpu := hs.1 _ hF
      rw [if_neg c1, if_neg (fun c => tl_as hpu (cmp_tl.mp c)), ii_in hs.2 ⟨b, hF⟩]
theorem ii_perm {u : List Int32} : ∀ {F : js_F}, (∀ b, (u, b) ∉ F) → List.Perm (ii_ u F) ((u, false) :: F)
  | [], _ => List.Perm.refl _
  | p :: F, h => by
    unfold ii_
    have c1 : ¬ cmp_ u p.1 = 0 := fun c => h p.2 (by rw [cmp_eq.mp c]; exact List.mem_cons_self)
    rw [if_neg c1]
    by_cases c2 : cmp_ u p.1 < 0
    · rw [if_pos c2]
    · rw [if_neg c2]
      exact List.Perm.trans (List.Perm.cons p (ii_perm (fun b hb => h b (List.mem_cons_of_mem p hb)))) (List.Perm.swap _ _ _)
/-- how many are marked -/
def ct_ (F : js_F) : Nat := F.countP fun p => p.2
theorem ct_cons {p : List Int32 × Bool} {F : js_F} : ct_ (p :: F) = ct_ F + if p.2 = true then 1 else 0 := List.countP_cons
theorem mk_s : ∀ {F : js_F} {t : List Int32} {F' : js_F}, mk_ F = some (t, F') → ∃ A B, F = A ++ (t, false) :: B ∧ F' = A ++ (t, true) :: B ∧ (∀ q, q ∈ A → q.2 = true) ∧ A.length ≤ ct_ F
  | [], t, F', h => by cases h
  | p :: F, t, F', h => by
    unfold mk_ at h
    by_cases c : p.2 = false
    · rw [if_pos c] at h
      cases h
      refine ⟨[], F, ?_, rfl, fun q hq => (by cases hq), Nat.zero_le _⟩
      show p :: F = (p.1, false) :: F
      rw [← c]
    · rw [if_neg c] at h
      have ct : p.2 = true := by simpa using c
      cases hm : mk_ F with
      | none => rw [hm] at h; cases h
      | some q =>
        rw [hm] at h
        cases h
        obtain ⟨A, B, e1, e2, e3, e4⟩ := mk_s (t := q.1) (F' := q.2) hm
        refine ⟨p :: A, B, by rw [e1]; rfl, by rw [e2]; rfl, fun r hr => ?_, ?_⟩
        · rcases List.mem_cons.mp hr with w | w
          · rw [w]; exact ct
          · exact e3 r w
        · rw [ct_cons, if_pos ct, List.length_cons]
          omega
theorem mk_n : ∀ {F : js_F}, mk_ F = none → ∀ q, q ∈ F → q.2 = true
  | [], _, q, hq => by cases hq
  | p :: F, h, q, hq => by
    unfold mk_ at h
    by_cases c : p.2 = false
    · rw [if_pos c] at h; cases h
    · rw [if_neg c] at h
      have ct : p.2 = true := by simpa using c
      have hm : mk_ F = none := by
        cases hm : mk_ F with
        | none => rfl
        | some q => rw [hm] at h; cases h
      rcases List.mem_cons.mp hq with w | w
      · rw [w]; exact ct
      · exact mk_n hm q w
/-- the first unmarked one is among the first n, if fewer than n are marked -/
theorem mk_take : ∀ (n : Nat) (F : js_F), ct_ F < n → mk_ (F.take n) = (mk_ F).map fun q => (q.1, q.2.take n)
  | 0, F, h => by omega
  | n + 1, [], h => rfl
  | n + 1, p :: F, h => by
    rw [List.take_succ_cons]
    unfold mk_
    by_cases c : p.2 = false
    · rw [if_pos c, if_pos c]
      rfl
    · have ct : p.2 = true := by simpa using c
      rw [ct_cons, if_pos ct] at h
      rw [if_neg c, if_neg c, mk_take n F (by omega)]
      cases mk_ F with
      | none => rfl
      | some q => rfl
