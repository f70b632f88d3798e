/-! the start, and all of it -/
theorem R0_len : ∀ o, o < 391 → (R0L.getD o []).length ≤ bw2_ o := by decide +kernel
theorem R0_wf : ∀ o, o < 391 → ∀ j, j < bw2_ o → kd_ o < 13 → fk_ (kd_ o) j ≠ 30 → (0 < R0_ o j ∧ R0_ o j ≤ 419 ∧ kd_ (R0_ o j) = fk_ (kd_ o) j) := by decide +kernel
theorem R0_wa : ∀ o, o < 391 → ∀ j, j < bw2_ o → kd_ o = 23 → (0 < R0_ o j ∧ R0_ o j ≤ 419 ∧ kd_ (R0_ o j) = 9) := by decide +kernel
theorem kd_hi : ∀ o, o < 420 → 391 ≤ o → ¬ kd_ o < 13 ∧ ¬ kd_ o = 23 := by decide +kernel
theorem R0_294 : ∀ j, j < 31 → R0_ 294 j = 302 + 2 * j := by decide +kernel
theorem bw_294 : bw2_ 294 = 31 := by decide +kernel
theorem getD_out {l : List Nat} {j : Nat} (h : l.length ≤ j) : l.getD j 0 = 0 := by
  rw [List.getD_eq_getElem?_getD, List.getElem?_eq_none h]
  rfl
def y0_ : js_Y := (a0_, [], fun _ => [122])
theorem start_ : ∃ σ1 σ2 : js_S, fX11_initc 1 1 (zz_ js_z 1) = some (389, σ1) ∧ fX12_initc 390 390 (zz_ σ1 390) = some (419, σ2) ∧ wf_ 419 σ2.2.2 ∧ iv_ σ2 y0_ none [] ∧ ch_ σ2 y0_ := by
  obtain ⟨q, hq, hc⟩ := Option.map_eq_some_iff.mp st_ck
  unfold st_all at hq
  obtain ⟨r1, σ1, e1, hq⟩ := bd_some hq
  obtain ⟨r2, σ2, e2, hq⟩ := bd_some hq
  cases hq
  unfold ck_ at hc
  simp only [Bool.and_eq_true, decide_eq_true_eq, List.all_eq_true, List.mem_range] at hc
  obtain ⟨c1, c2, c3, c4, c5, c6, c7, c8, c9, c10⟩ := hc
  subst c1 c2
  have I0 : IJ_ (zz_ js_z 1) := IJ_zz ⟨fun _ _ _ => rfl, fun _ => rfl⟩
  have I1 : IJ_ σ1 := pvX11_initc I0 _ _ e1
  have I2 : IJ_ σ2 := pvX12_initc (IJ_zz I1) _ _ e2
  have hr : ∀ o j, o < 391 → σ2.2.2 o j = R0_ o j := by
    intro o j ho
    by_cases c : j < bw2_ o
    · exact c3 o ho j c
    · rw [I2.1 o j (by omega)]
      exact (getD_out (by have := R0_len o ho; omega)).symm
  have h5 : ∀ j, j = 2 ∨ j = 9 ∨ j = 11 ∨ j = 13 ∨ j = 15 → σ2.1 1 j = 0 := fun j hj => c5 j (by simp; omega)
  have h8 : ∀ j, j = 6 ∨ j = 8 ∨ j = 15 → σ2.1 390 j = 0 := fun j hj => c8 j (by simp; omega)
  refine ⟨σ1, σ2, e1, e2, ⟨fun k o j ho hk hj hf => ?_, fun o j ho hj => ?_⟩, ⟨⟨?_, ?_, ?_, ?_, ?_, ?_, ?_⟩, ⟨?_, ?_, ?_, ?_, ?_, ?_, I2.2⟩, ?_⟩, ch_cz ⟨h5 9 (by omega), h5 11 (by omega), h5 13 (by omega), h5 15 (by omega)⟩⟩
  · obtain ⟨o1, o2, o3⟩ := ho
    have ho : o < 391 := by
      rcases Nat.lt_or_ge o 391 with z | z
      · exact z
      · exact absurd (by rw [o3]; exact hk) (kd_hi o (by omega) z).1
    have hb : j < bw2_ o := by unfold bw2_; rw [o3, if_pos hk]; exact hj
    have := R0_wf o ho j hb (by rw [o3]; exact hk) (by rw [o3]; exact hf)
    rw [hr o j ho]
    rw [o3] at this
    exact this
  · obtain ⟨o1, o2, o3⟩ := ho
    have ho : o < 391 := by
      rcases Nat.lt_or_ge o 391 with z | z
      · exact z
      · exact absurd o3 (kd_hi o (by omega) z).2
    have hb : j < bw2_ o := by unfold bw2_; rw [o3, if_neg (by decide), if_pos rfl]; exact hj
    rw [hr o j ho]
    exact R0_wa o ho j hb o3
  · exact fun o j ho _ => hr o j (by omega)
  · refine ⟨fun j hj => ⟨j, hj, by rw [hr 294 j (by omega), R0_294 j hj]⟩, fun j k hj hk e => ?_⟩
    rw [hr 294 j (by omega), hr 294 k (by omega), R0_294 j hj, R0_294 k hk] at e
    omega
  · refine ⟨fun k hk => c4 k hk, ?_, fun i hi => absurd hi (Nat.not_lt_zero i), fun i hi => ⟨?_, fun k hk _ => ?_⟩⟩
    · rw [c6]; rfl
    · rw [show 2 + 32 + 2 * i = 34 + 2 * i by omega, (c9 i hi).1]; rfl
    · have hk : k < 1 := hk
      rw [show k = 0 by omega, show 2 + 32 + 2 * i + 1 = 35 + 2 * i by omega, (c9 i hi).2.1]; rfl
  · rw [h5 2 (by omega)]; rfl
  · exact fun z hz => by cases hz
  · rw [c7]; rfl
  · exact fun k hk => absurd hk (Nat.not_lt_zero k)
  · exact fun j => hr 390 j (by omega)
  · refine ⟨fun f hf => c10 f hf, by rw [h8 6 (by omega)]; rfl, fun i hi => absurd hi (Nat.not_lt_zero i), fun i hi => ⟨by rw [(c9 i hi).2.2.1]; rfl, fun k hk => ?_⟩⟩
    have hk : k < 1 := hk
    rw [show k = 0 by omega, Nat.add_zero, (c9 i hi).2.2.2]; rfl
  · rw [h8 8 (by omega)]; rfl
  · exact fun z hz => by cases hz
  · rw [h8 15 (by omega)]; rfl
  · exact fun k hk => absurd hk (Nat.not_lt_zero k)
  · refine ⟨⟨fun f hf => ?_, Nat.zero_le _, fun i hi => absurd hi (Nat.not_lt_zero i), fun i hi => gt_z _⟩, fun z hz => (by cases hz), Nat.zero_le _⟩
    show 1 ≤ a0_ f ∧ a0_ f ≤ 3
    unfold a0_
    split <;> omega
theorem pure_all : ∃ σ1 σ2 : js_S, fX11_initc 1 1 (zz_ js_z 1) = some (389, σ1) ∧ fX12_initc 390 390 (zz_ σ1 390) = some (419, σ2) ∧ wf_ 419 σ2.2.2 ∧ ∀ L, L ≤ 2048 → ∀ xs : Nat → Int32, ∃ σ0, fL_18 5000 L xs 5000 0 σ2 = some (1, σ0) := by
  obtain ⟨σ1, σ2, e1, e2, hw, h, hc⟩ := start_
  exact ⟨σ1, σ2, e1, e2, hw, fun L hL xs => law_loop hL 513 0 5000 σ2 y0_ none [] (by omega) (by omega) (by omega) h hc⟩
