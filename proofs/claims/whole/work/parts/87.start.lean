/-! the start: no reference beyond an object's fields, and nothing known -/
def bw2_ (o : Nat) : Nat := if kd_ o < 13 then nf_ (kd_ o) else if kd_ o = 23 then ln_ o else 0
def IJ_ (σ : js_S) : Prop := (∀ o j, bw2_ o ≤ j → σ.2.2 o j = 0) ∧ ∀ k, σ.1 412 k = 0
def pw_ (x : Option (Nat × js_S)) : Prop := ∀ r σ', x = some (r, σ') → IJ_ σ'
theorem pw_none : pw_ none := fun r σ' h => by cases h
theorem pw_some {r : Nat} {σ : js_S} (h : IJ_ σ) : pw_ (some (r, σ)) := fun r' σ' e => by cases e; exact h
theorem pw_ite {c : Prop} {d : Decidable c} {a b : Option (Nat × js_S)} (h1 : c → pw_ a) (h2 : ¬ c → pw_ b) : pw_ (if c then a else b) := by
  by_cases q : c
  · rw [if_pos q]; exact h1 q
  · rw [if_neg q]; exact h2 q
theorem pw_lt2 {x : js_S} {f : js_S → Option (Nat × js_S)} (h1 : IJ_ x) (h : ∀ σ, IJ_ σ → pw_ (f σ)) : pw_ (lt_ x f) := h x h1
theorem pw_bd {x : Option (Nat × js_S)} {f : Nat → js_S → Option (Nat × js_S)} (h : pw_ x) (h2 : ∀ r σ, IJ_ σ → pw_ (f r σ)) : pw_ (bd_ x f) := by
  intro r σ' e
  obtain ⟨r1, σ1, e1, e2⟩ := bd_some e
  exact h2 r1 σ1 (h r1 σ1 e1) r σ' e2
theorem IJ_zz {σ : js_S} {o : Nat} (h : IJ_ σ) : IJ_ (zz_ σ o) := by
  refine ⟨fun a j hj => ?_, fun k => ?_⟩
  · show (if a = o then 0 else σ.2.2 a j) = 0
    split
    · rfl
    · exact h.1 a j hj
  · show (if 412 = o then (0 : Int32) else σ.1 412 k) = 0
    split
    · rfl
    · exact h.2 k
theorem obB_kd {n k o : Nat} (h : obB_ n k o = true) : kd_ o = k := (obB_ob h).2.2
theorem IJ_uR {σ : js_S} {n k o j x : Nat} (g : obB_ n k o = true) (hk : k < 13) (hj : j < nf_ k) (h : IJ_ σ) : IJ_ (uR_ σ o j x) := by
  refine ⟨fun a b hb => ?_, h.2⟩
  show (if a = o ∧ b = j then x else σ.2.2 a b) = 0
  rw [if_neg (fun z => ?_)]
  · exact h.1 a b hb
  · obtain ⟨rfl, rfl⟩ := z
    unfold bw2_ at hb
    rw [obB_kd g, if_pos hk] at hb
    omega
theorem IJ_uA {σ : js_S} {n o x : Nat} {i : Int32} (g : obB_ n 23 o = true) (gi : ib_ i (ln_ o) = true) (h : IJ_ σ) : IJ_ (uR_ σ o (Int32.toNatClampNeg i) x) := by
  refine ⟨fun a b hb => ?_, h.2⟩
  show (if a = o ∧ b = Int32.toNatClampNeg i then x else σ.2.2 a b) = 0
  rw [if_neg (fun z => ?_)]
  · exact h.1 a b hb
  · obtain ⟨rfl, rfl⟩ := z
    unfold bw2_ at hb
    rw [obB_kd g, if_neg (by decide), if_pos rfl] at hb
    unfold ib_ at gi
    simp only [Bool.and_eq_true, decide_eq_true_eq] at gi
    omega
theorem kd_412 : kd_ 412 = 22 := by decide +kernel
theorem IJ_uI {σ : js_S} {n k o j : Nat} {x : Int32} (g : obB_ n k o = true) (hk : k ≠ 22) (h : IJ_ σ) : IJ_ (uI_ σ o j x) := by
  refine ⟨h.1, fun q => ?_⟩
  rw [uI_ne (fun z => hk ?_)]
  · exact h.2 q
  · rw [← obB_kd g, ← z.1, kd_412]
theorem pvX9_initc {x0 : Nat} {nn : Nat} {σ : js_S} (h : IJ_ σ) : pw_ (fX9_initc x0 nn σ) := by
  unfold fX9_initc
  repeat' first
    | (with_reducible refine pw_ite (fun _ => ?_) (fun _ => ?_))
    | (with_reducible exact pw_none)
    | (with_reducible exact pw_some (by assumption))
    | (with_reducible refine pw_lt2 ?_ (fun _ _ => ?_))
    | (with_reducible refine pw_bd ?_ (fun _ _ _ => ?_))
    | (with_reducible exact IJ_zz (by assumption))
    | (with_reducible exact IJ_uA (by assumption) (by assumption) (by assumption))
    | (with_reducible exact IJ_uR (by assumption) (by decide) (by decide) (by assumption))
    | (with_reducible exact IJ_uI (by assumption) (by decide) (by assumption))
theorem pvX8_initc {x0 : Nat} {nn : Nat} {σ : js_S} (h : IJ_ σ) : pw_ (fX8_initc x0 nn σ) := by
  unfold fX8_initc
  repeat' first
    | (with_reducible refine pw_ite (fun _ => ?_) (fun _ => ?_))
    | (with_reducible exact pw_none)
    | (with_reducible exact pw_some (by assumption))
    | (with_reducible refine pw_lt2 ?_ (fun _ _ => ?_))
    | (with_reducible refine pw_bd ?_ (fun _ _ _ => ?_))
    | (with_reducible exact IJ_zz (by assumption))
    | (with_reducible exact IJ_uA (by assumption) (by assumption) (by assumption))
    | (with_reducible exact IJ_uR (by assumption) (by decide) (by decide) (by assumption))
    | (with_reducible exact IJ_uI (by assumption) (by decide) (by assumption))
theorem pvX4_initc {x0 : Nat} {nn : Nat} {σ : js_S} (h : IJ_ σ) : pw_ (fX4_initc x0 nn σ) := by
  unfold fX4_initc
  repeat' first
    | (with_reducible refine pw_ite (fun _ => ?_) (fun _ => ?_))
    | (with_reducible exact pw_none)
    | (with_reducible exact pw_some (by assumption))
    | (with_reducible refine pw_lt2 ?_ (fun _ _ => ?_))
    | (with_reducible refine pw_bd ?_ (fun _ _ _ => ?_))
    | (with_reducible exact IJ_zz (by assumption))
    | (with_reducible exact IJ_uA (by assumption) (by assumption) (by assumption))
    | (with_reducible exact IJ_uR (by assumption) (by decide) (by decide) (by assumption))
    | (with_reducible exact IJ_uI (by assumption) (by decide) (by assumption))
theorem pvX10_initc {x0 : Nat} {x1 : Int32} {nn : Nat} {σ : js_S} (h : IJ_ σ) : pw_ (fX10_initc x0 x1 nn σ) := by
  unfold fX10_initc
  repeat' first
    | (with_reducible refine pw_ite (fun _ => ?_) (fun _ => ?_))
    | (with_reducible exact pw_none)
    | (with_reducible exact pw_some (by assumption))
    | (with_reducible refine pw_lt2 ?_ (fun _ _ => ?_))
    | (with_reducible refine pw_bd ?_ (fun _ _ _ => ?_))
    | (with_reducible exact IJ_zz (by assumption))
    | (with_reducible exact IJ_uA (by assumption) (by assumption) (by assumption))
    | (with_reducible exact IJ_uR (by assumption) (by decide) (by decide) (by assumption))
    | (with_reducible exact IJ_uI (by assumption) (by decide) (by assumption))
theorem pvX6_initc_94 : ∀ {m : Nat} {x0 : Nat} {x1 : Int32} {nn : Nat} {σ : js_S}, IJ_ σ → pw_ (fX6_initc_94 m x0 x1 nn σ) := by
  intro m
  induction m with
  | zero =>
    intro x0 x1 nn σ h
    exact pw_none
  | succ m ih =>
    intro x0 x1 nn σ h
    show pw_ (fX6_initc_94b (fX6_initc_94 m) x0 x1 nn σ)
    unfold fX6_initc_94b
    repeat' first
      | (with_reducible refine pw_ite (fun _ => ?_) (fun _ => ?_))
      | (with_reducible exact pw_none)
      | (with_reducible exact pw_some (by assumption))
      | (with_reducible refine pw_lt2 ?_ (fun _ _ => ?_))
      | (with_reducible refine pw_bd ?_ (fun _ _ _ => ?_))
      | (with_reducible exact IJ_zz (by assumption))
      | (with_reducible exact IJ_uA (by assumption) (by assumption) (by assumption))
      | (with_reducible exact IJ_uR (by assumption) (by decide) (by decide) (by assumption))
      | (with_reducible exact IJ_uI (by assumption) (by decide) (by assumption))
      | (with_reducible exact pvX9_initc (by assumption))
      | (with_reducible exact ih (by assumption))
theorem pvX6_initc_54 : ∀ {m : Nat} {x0 : Nat} {x1 : Int32} {nn : Nat} {σ : js_S}, IJ_ σ → pw_ (fX6_initc_54 m x0 x1 nn σ) := by
  intro m
  induction m with
  | zero =>
    intro x0 x1 nn σ h
    exact pw_none
  | succ m ih =>
    intro x0 x1 nn σ h
    show pw_ (fX6_initc_54b (fX6_initc_54 m) x0 x1 nn σ)
    unfold fX6_initc_54b
    repeat' first
      | (with_reducible refine pw_ite (fun _ => ?_) (fun _ => ?_))
      | (with_reducible exact pw_none)
      | (with_reducible exact pw_some (by assumption))
      | (with_reducible refine pw_lt2 ?_ (fun _ _ => ?_))
      | (with_reducible refine pw_bd ?_ (fun _ _ _ => ?_))
      | (with_reducible exact IJ_zz (by assumption))
      | (with_reducible exact IJ_uA (by assumption) (by assumption) (by assumption))
      | (with_reducible exact IJ_uR (by assumption) (by decide) (by decide) (by assumption))
      | (with_reducible exact IJ_uI (by assumption) (by decide) (by assumption))
      | (with_reducible exact pvX9_initc (by assumption))
      | (with_reducible exact pvX6_initc_94 (by assumption))
      | (with_reducible exact ih (by assumption))
theorem pvX6_initc {x0 : Nat} {nn : Nat} {σ : js_S} (h : IJ_ σ) : pw_ (fX6_initc x0 nn σ) := by
  unfold fX6_initc
  repeat' first
    | (with_reducible refine pw_ite (fun _ => ?_) (fun _ => ?_))
    | (with_reducible exact pw_none)
    | (with_reducible exact pw_some (by assumption))
    | (with_reducible refine pw_lt2 ?_ (fun _ _ => ?_))
    | (with_reducible refine pw_bd ?_ (fun _ _ _ => ?_))
    | (with_reducible exact IJ_zz (by assumption))
    | (with_reducible exact IJ_uA (by assumption) (by assumption) (by assumption))
    | (with_reducible exact IJ_uR (by assumption) (by decide) (by decide) (by assumption))
    | (with_reducible exact IJ_uI (by assumption) (by decide) (by assumption))
    | (with_reducible exact pvX9_initc (by assumption))
    | (with_reducible exact pvX8_initc (by assumption))
    | (with_reducible exact pvX6_initc_54 (by assumption))
theorem pvX7_initc_22 : ∀ {m : Nat} {x0 : Nat} {x1 : Int32} {nn : Nat} {σ : js_S}, IJ_ σ → pw_ (fX7_initc_22 m x0 x1 nn σ) := by
  intro m
  induction m with
  | zero =>
    intro x0 x1 nn σ h
    exact pw_none
  | succ m ih =>
    intro x0 x1 nn σ h
    show pw_ (fX7_initc_22b (fX7_initc_22 m) x0 x1 nn σ)
    unfold fX7_initc_22b
    repeat' first
      | (with_reducible refine pw_ite (fun _ => ?_) (fun _ => ?_))
      | (with_reducible exact pw_none)
      | (with_reducible exact pw_some (by assumption))
      | (with_reducible refine pw_lt2 ?_ (fun _ _ => ?_))
      | (with_reducible refine pw_bd ?_ (fun _ _ _ => ?_))
      | (with_reducible exact IJ_zz (by assumption))
      | (with_reducible exact IJ_uA (by assumption) (by assumption) (by assumption))
      | (with_reducible exact IJ_uR (by assumption) (by decide) (by decide) (by assumption))
      | (with_reducible exact IJ_uI (by assumption) (by decide) (by assumption))
      | (with_reducible exact pvX9_initc (by assumption))
      | (with_reducible exact ih (by assumption))
theorem pvX7_initc {x0 : Nat} {nn : Nat} {σ : js_S} (h : IJ_ σ) : pw_ (fX7_initc x0 nn σ) := by
  unfold fX7_initc
  repeat' first
    | (with_reducible refine pw_ite (fun _ => ?_) (fun _ => ?_))
    | (with_reducible exact pw_none)
    | (with_reducible exact pw_some (by assumption))
    | (with_reducible refine pw_lt2 ?_ (fun _ _ => ?_))
    | (with_reducible refine pw_bd ?_ (fun _ _ _ => ?_))
    | (with_reducible exact IJ_zz (by assumption))
    | (with_reducible exact IJ_uA (by assumption) (by assumption) (by assumption))
    | (with_reducible exact IJ_uR (by assumption) (by decide) (by decide) (by assumption))
    | (with_reducible exact IJ_uI (by assumption) (by decide) (by assumption))
    | (with_reducible exact pvX9_initc (by assumption))
    | (with_reducible exact pvX7_initc_22 (by assumption))
theorem pvX3_initc_56 : ∀ {m : Nat} {x0 : Nat} {x1 : Int32} {nn : Nat} {σ : js_S}, IJ_ σ → pw_ (fX3_initc_56 m x0 x1 nn σ) := by
  intro m
  induction m with
  | zero =>
    intro x0 x1 nn σ h
    exact pw_none
  | succ m ih =>
    intro x0 x1 nn σ h
    show pw_ (fX3_initc_56b (fX3_initc_56 m) x0 x1 nn σ)
    unfold fX3_initc_56b
    repeat' first
      | (with_reducible refine pw_ite (fun _ => ?_) (fun _ => ?_))
      | (with_reducible exact pw_none)
      | (with_reducible exact pw_some (by assumption))
      | (with_reducible refine pw_lt2 ?_ (fun _ _ => ?_))
      | (with_reducible refine pw_bd ?_ (fun _ _ _ => ?_))
      | (with_reducible exact IJ_zz (by assumption))
      | (with_reducible exact IJ_uA (by assumption) (by assumption) (by assumption))
      | (with_reducible exact IJ_uR (by assumption) (by decide) (by decide) (by assumption))
      | (with_reducible exact IJ_uI (by assumption) (by decide) (by assumption))
      | (with_reducible exact pvX9_initc (by assumption))
      | (with_reducible exact ih (by assumption))
theorem pvX3_initc {x0 : Nat} {nn : Nat} {σ : js_S} (h : IJ_ σ) : pw_ (fX3_initc x0 nn σ) := by
  unfold fX3_initc
  repeat' first
    | (with_reducible refine pw_ite (fun _ => ?_) (fun _ => ?_))
    | (with_reducible exact pw_none)
    | (with_reducible exact pw_some (by assumption))
    | (with_reducible refine pw_lt2 ?_ (fun _ _ => ?_))
    | (with_reducible refine pw_bd ?_ (fun _ _ _ => ?_))
    | (with_reducible exact IJ_zz (by assumption))
    | (with_reducible exact IJ_uA (by assumption) (by assumption) (by assumption))
    | (with_reducible exact IJ_uR (by assumption) (by decide) (by decide) (by assumption))
    | (with_reducible exact IJ_uI (by assumption) (by decide) (by assumption))
    | (with_reducible exact pvX9_initc (by assumption))
    | (with_reducible exact pvX3_initc_56 (by assumption))
theorem pvX5_initc {x0 : Nat} {nn : Nat} {σ : js_S} (h : IJ_ σ) : pw_ (fX5_initc x0 nn σ) := by
  unfold fX5_initc
  repeat' first
    | (with_reducible refine pw_ite (fun _ => ?_) (fun _ => ?_))
    | (with_reducible exact pw_none)
    | (with_reducible exact pw_some (by assumption))
    | (with_reducible refine pw_lt2 ?_ (fun _ _ => ?_))
    | (with_reducible refine pw_bd ?_ (fun _ _ _ => ?_))
    | (with_reducible exact IJ_zz (by assumption))
    | (with_reducible exact IJ_uA (by assumption) (by assumption) (by assumption))
    | (with_reducible exact IJ_uR (by assumption) (by decide) (by decide) (by assumption))
    | (with_reducible exact IJ_uI (by assumption) (by decide) (by assumption))
    | (with_reducible exact pvX4_initc (by assumption))
theorem pvX1_initc {x0 : Nat} {nn : Nat} {σ : js_S} (h : IJ_ σ) : pw_ (fX1_initc x0 nn σ) := by
  unfold fX1_initc
  repeat' first
    | (with_reducible refine pw_ite (fun _ => ?_) (fun _ => ?_))
    | (with_reducible exact pw_none)
    | (with_reducible exact pw_some (by assumption))
    | (with_reducible refine pw_lt2 ?_ (fun _ _ => ?_))
    | (with_reducible refine pw_bd ?_ (fun _ _ _ => ?_))
    | (with_reducible exact IJ_zz (by assumption))
    | (with_reducible exact IJ_uA (by assumption) (by assumption) (by assumption))
    | (with_reducible exact IJ_uR (by assumption) (by decide) (by decide) (by assumption))
    | (with_reducible exact IJ_uI (by assumption) (by decide) (by assumption))
    | (with_reducible exact pvX4_initc (by assumption))
theorem pvX0_initc {x0 : Nat} {nn : Nat} {σ : js_S} (h : IJ_ σ) : pw_ (fX0_initc x0 nn σ) := by
  unfold fX0_initc
  repeat' first
    | (with_reducible refine pw_ite (fun _ => ?_) (fun _ => ?_))
    | (with_reducible exact pw_none)
    | (with_reducible exact pw_some (by assumption))
    | (with_reducible refine pw_lt2 ?_ (fun _ _ => ?_))
    | (with_reducible refine pw_bd ?_ (fun _ _ _ => ?_))
    | (with_reducible exact IJ_zz (by assumption))
    | (with_reducible exact IJ_uA (by assumption) (by assumption) (by assumption))
    | (with_reducible exact IJ_uR (by assumption) (by decide) (by decide) (by assumption))
    | (with_reducible exact IJ_uI (by assumption) (by decide) (by assumption))
theorem pvX2_initc {x0 : Nat} {nn : Nat} {σ : js_S} (h : IJ_ σ) : pw_ (fX2_initc x0 nn σ) := by
  unfold fX2_initc
  repeat' first
    | (with_reducible refine pw_ite (fun _ => ?_) (fun _ => ?_))
    | (with_reducible exact pw_none)
    | (with_reducible exact pw_some (by assumption))
    | (with_reducible refine pw_lt2 ?_ (fun _ _ => ?_))
    | (with_reducible refine pw_bd ?_ (fun _ _ _ => ?_))
    | (with_reducible exact IJ_zz (by assumption))
    | (with_reducible exact IJ_uA (by assumption) (by assumption) (by assumption))
    | (with_reducible exact IJ_uR (by assumption) (by decide) (by decide) (by assumption))
    | (with_reducible exact IJ_uI (by assumption) (by decide) (by assumption))
    | (with_reducible exact pvX1_initc (by assumption))
theorem pvX11_initc {x0 : Nat} {nn : Nat} {σ : js_S} (h : IJ_ σ) : pw_ (fX11_initc x0 nn σ) := by
  unfold fX11_initc
  repeat' first
    | (with_reducible refine pw_ite (fun _ => ?_) (fun _ => ?_))
    | (with_reducible exact pw_none)
    | (with_reducible exact pw_some (by assumption))
    | (with_reducible refine pw_lt2 ?_ (fun _ _ => ?_))
    | (with_reducible refine pw_bd ?_ (fun _ _ _ => ?_))
    | (with_reducible exact IJ_zz (by assumption))
    | (with_reducible exact IJ_uA (by assumption) (by assumption) (by assumption))
    | (with_reducible exact IJ_uR (by assumption) (by decide) (by decide) (by assumption))
    | (with_reducible exact IJ_uI (by assumption) (by decide) (by assumption))
    | (with_reducible exact pvX6_initc (by assumption))
    | (with_reducible exact pvX10_initc (by assumption))
    | (with_reducible exact pvX7_initc (by assumption))
    | (with_reducible exact pvX3_initc (by assumption))
    | (with_reducible exact pvX9_initc (by assumption))
    | (with_reducible exact pvX5_initc (by assumption))
    | (with_reducible exact pvX1_initc (by assumption))
    | (with_reducible exact pvX0_initc (by assumption))
    | (with_reducible exact pvX2_initc (by assumption))
theorem pvX12_setToZc {x0 : Nat} {x1 : Int32} {nn : Nat} {σ : js_S} (h : IJ_ σ) : pw_ (fX12_setToZc x0 x1 nn σ) := by
  unfold fX12_setToZc
  repeat' first
    | (with_reducible refine pw_ite (fun _ => ?_) (fun _ => ?_))
    | (with_reducible exact pw_none)
    | (with_reducible exact pw_some (by assumption))
    | (with_reducible refine pw_lt2 ?_ (fun _ _ => ?_))
    | (with_reducible refine pw_bd ?_ (fun _ _ _ => ?_))
    | (with_reducible exact IJ_zz (by assumption))
    | (with_reducible exact IJ_uA (by assumption) (by assumption) (by assumption))
    | (with_reducible exact IJ_uR (by assumption) (by decide) (by decide) (by assumption))
    | (with_reducible exact IJ_uI (by assumption) (by decide) (by assumption))
theorem pvX12_initc_267 : ∀ {m : Nat} {x0 : Nat} {x1 : Int32} {nn : Nat} {σ : js_S}, IJ_ σ → pw_ (fX12_initc_267 m x0 x1 nn σ) := by
  intro m
  induction m with
  | zero =>
    intro x0 x1 nn σ h
    exact pw_none
  | succ m ih =>
    intro x0 x1 nn σ h
    show pw_ (fX12_initc_267b (fX12_initc_267 m) x0 x1 nn σ)
    unfold fX12_initc_267b
    repeat' first
      | (with_reducible refine pw_ite (fun _ => ?_) (fun _ => ?_))
      | (with_reducible exact pw_none)
      | (with_reducible exact pw_some (by assumption))
      | (with_reducible refine pw_lt2 ?_ (fun _ _ => ?_))
      | (with_reducible refine pw_bd ?_ (fun _ _ _ => ?_))
      | (with_reducible exact IJ_zz (by assumption))
      | (with_reducible exact IJ_uA (by assumption) (by assumption) (by assumption))
      | (with_reducible exact IJ_uR (by assumption) (by decide) (by decide) (by assumption))
      | (with_reducible exact IJ_uI (by assumption) (by decide) (by assumption))
      | (with_reducible exact pvX12_setToZc (by assumption))
      | (with_reducible exact ih (by assumption))
theorem pvX12_initc {x0 : Nat} {nn : Nat} {σ : js_S} (h : IJ_ σ) : pw_ (fX12_initc x0 nn σ) := by
  unfold fX12_initc
  repeat' first
    | (with_reducible refine pw_ite (fun _ => ?_) (fun _ => ?_))
    | (with_reducible exact pw_none)
    | (with_reducible exact pw_some (by assumption))
    | (with_reducible refine pw_lt2 ?_ (fun _ _ => ?_))
    | (with_reducible refine pw_bd ?_ (fun _ _ _ => ?_))
    | (with_reducible exact IJ_zz (by assumption))
    | (with_reducible exact IJ_uA (by assumption) (by assumption) (by assumption))
    | (with_reducible exact IJ_uR (by assumption) (by decide) (by decide) (by assumption))
    | (with_reducible exact IJ_uI (by assumption) (by decide) (by assumption))
    | (with_reducible exact pvX12_initc_267 (by assumption))
    | (with_reducible exact pvX12_setToZc (by assumption))
