/-! reading and emptying a graph of pairs -/
theorem x4_has {σ : js_S} {p o f t : Nat} (h : go_ σ p o) (hf : f < 240) (ht : t < 240) : fX4_has 5000 p (nI f) (nI t) σ = some (bi_ (eb_ σ o f t), σ) := by
  unfold fX4_has eb_
  rw [x4_covers hf ht, bd_s, if_neg (by decide), n_cell ht, h.1, h.2, n_ib (by omega), if_pos (by simp; omega), n_cl (by omega), (d_64 ht).2.1, (d_64 ht).2.2, jb_shr (by omega)]
  cases jb_ (σ.2.1 o (4 * f + t / 64)) (t % 64) <;> rfl
theorem x4_emptyLoop {p o : Nat} : ∀ (d j k : Nat) (σ : js_S), j + d = 960 → d < k → go_ σ p o → ∃ σ', fX4_empty_2 5000 k p (nI j) σ = some ((), σ') ∧ σ'.1 = σ.1 ∧ σ'.2.2 = σ.2.2 ∧ (∀ a, a ≠ o → σ'.2.1 a = σ.2.1 a) ∧ (∀ b, b < j → σ'.2.1 o b = σ.2.1 o b) ∧ ∀ b, j ≤ b → b < 960 → σ'.2.1 o b = 0 := by
  intro d
  induction d with
  | zero =>
    intro j k σ hj hk h
    obtain ⟨k, rfl⟩ : ∃ j, k = j + 1 := ⟨k - 1, by omega⟩
    refine ⟨σ, ?_, rfl, rfl, fun _ _ => rfl, fun _ _ => rfl, fun b h1 h2 => by omega⟩
    rw [sX4_empty_2]
    unfold fX4_empty_2b
    rw [h.1, h.2, n_of, if_pos ((n_le (by omega) (by omega)).mpr (by omega))]
  | succ d ih =>
    intro j k σ hj hk h
    obtain ⟨k, rfl⟩ : ∃ j, k = j + 1 := ⟨k - 1, by omega⟩
    have h1 : go_ (uJ_ σ o j 0) p o := h
    obtain ⟨σ', r1, e1, e2, e3, e4, e5⟩ := ih (j + 1) k (uJ_ σ o j 0) (by omega) (by omega) h1
    refine ⟨σ', ?_, e1, e2, fun a ha => ?_, fun b hb => ?_, fun b h2 h3 => ?_⟩
    · rw [sX4_empty_2]
      unfold fX4_empty_2b
      rw [h.1, h.2, n_of, if_neg (fun z => by have := (n_le (by omega) (by omega)).mp z; omega), n_ib (by omega), if_pos (by simp; omega), n_cl (by omega), lt_s_, show nI j + 1 = nI (j + 1) from n_add j 1, r1]
    · rw [e3 a ha]
      funext b
      show (if a = o ∧ b = j then _ else _) = _
      rw [if_neg (fun z => ha z.1)]
    · rw [e4 b (by omega)]
      show (if o = o ∧ b = j then _ else _) = _
      rw [if_neg (by omega)]
    · by_cases c : b = j
      · rw [e4 b (by omega)]
        show (if o = o ∧ b = j then _ else _) = _
        rw [if_pos ⟨rfl, c⟩]
      · exact e5 b (by omega) h3
theorem x4_empty {σ : js_S} {p o : Nat} (h : go_ σ p o) : ∃ σ', fX4_empty 5000 p σ = some ((), σ') ∧ σ'.1 = σ.1 ∧ σ'.2.2 = σ.2.2 ∧ (∀ a, a ≠ o → σ'.2.1 a = σ.2.1 a) ∧ ∀ f t, f < 240 → t < 256 → eb_ σ' o f t = false := by
  obtain ⟨σ', r1, e1, e2, e3, -, e5⟩ := x4_emptyLoop 960 0 5000 σ (by omega) (by omega) h
  refine ⟨σ', r1, e1, e2, e3, fun f t hf ht => ?_⟩
  unfold eb_
  rw [e5 _ (by omega) (by omega), jb_0]
