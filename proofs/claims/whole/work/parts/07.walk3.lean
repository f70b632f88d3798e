variable {p : Program} {l : Launch} {e : Env} {s : State} {m : MethodId} {args : Array Value} {below : List Frame} {meth : Method} {c : Code} {D : va_G} {B nn fu : Nat} {g : js_G}
set_option maxHeartbeats 4000000 in
set_option maxRecDepth 20000 in
theorem kX12_isIn {x0 : Int32} {x1 : Int32} {x2 : Int32} {σ σ0 : js_S} {r0 : Int32} (h : fX12_isIn fu x0 x1 x2 σ = some (r0, σ0)) : js_M l D B g nn yX12_isIn cX12_isIn 3 (some .boolean) 0 [.int x0, .int x1, .int x2] σ (js_QI D B g nn r0 σ0) := by
  refine js_enter (by decide) (Nat.le_of_ble_eq_true rfl) ?_
  intro p e s m args below meth c C hr hk ls hl hT
  have hl : lv_has ls 3 [(0, .int x0), (1, .int x1), (2, .int x2)] := hl
  obtain ⟨hx, hb, hml, hown, ht, hK, hNw⟩ := id C
  obtain ⟨H, eH⟩ : ∃ H, H = s.heap := ⟨_, rfl⟩
  obtain ⟨locs, eL⟩ : ∃ z : List Loc, z = [] := ⟨_, rfl⟩
  rw [← eH, ← eL]
  rw [← eH, ← eL] at hT
  clear eH eL
  unfold fX12_isIn at h
  refine lv_iload_n hx hb dX12_isIn_0 rfl (lv_at hl 0 rfl) ?_
  refine lv_iload_n hx hb dX12_isIn_1 rfl (lv_at hl 1 rfl) ?_
  refine lv_icmp_lt (tgt := 14) hx hb dX12_isIn_2 (by decide) (fun c1 => ?_) (fun c1 => ?_)
  · rw [if_pos c1] at h
    refine lv_iconst (v := 0) hx hb dX12_isIn_14 (by decide) ?_
    obtain ⟨rfl, rfl⟩ := js_rt h
    exact js_zret C hT hr hk rfl dX12_isIn_15
  · rw [if_neg c1] at h
    refine lv_iload_n hx hb dX12_isIn_5 rfl (lv_at hl 0 rfl) ?_
    refine lv_iload_n hx hb dX12_isIn_6 rfl (lv_at hl 2 rfl) ?_
    refine lv_icmp_gt (tgt := 14) hx hb dX12_isIn_7 (by decide) (fun c2 => ?_) (fun c2 => ?_)
    · rw [if_pos c2] at h
      refine lv_iconst (v := 0) hx hb dX12_isIn_14 (by decide) ?_
      obtain ⟨rfl, rfl⟩ := js_rt h
      exact js_zret C hT hr hk rfl dX12_isIn_15
    · rw [if_neg c2] at h
      refine lv_iconst (v := 1) hx hb dX12_isIn_10 (by decide) ?_
      refine lv_goto (tgt := 15) hx hb dX12_isIn_11 (by decide) ?_
      obtain ⟨rfl, rfl⟩ := js_rt h
      exact js_zret C hT hr hk rfl dX12_isIn_15
set_option maxHeartbeats 4000000 in
set_option maxRecDepth 20000 in
theorem kX12_isFunction {x0 : Int32} {σ σ0 : js_S} {r0 : Int32} (h : fX12_isFunction fu x0 σ = some (r0, σ0)) : js_M l D B g nn yX12_isFunction cX12_isFunction 1 (some .boolean) 1 [.int x0] σ (js_QI D B g nn r0 σ0) := by
  refine js_enter (by decide) (Nat.le_of_ble_eq_true rfl) ?_
  intro p e s m args below meth c C hr hk ls hl hT
  have hl : lv_has ls 1 [(0, .int x0)] := hl
  obtain ⟨hx, hb, hml, hown, ht, hK, hNw⟩ := id C
  obtain ⟨H, eH⟩ : ∃ H, H = s.heap := ⟨_, rfl⟩
  obtain ⟨locs, eL⟩ : ∃ z : List Loc, z = [] := ⟨_, rfl⟩
  rw [← eH, ← eL]
  rw [← eH, ← eL] at hT
  clear eH eL
  unfold fX12_isFunction at h
  refine lv_iload_n hx hb dX12_isFunction_0 rfl (lv_at hl 0 rfl) ?_
  refine lv_bipush (v := 102) hx hb dX12_isFunction_1 (by decide) ?_
  refine lv_bipush (v := 104) hx hb dX12_isFunction_3 (by decide) ?_
  obtain ⟨r1, σ1, hc1, h⟩ := bd_some h
  refine js_backI hT (js_runS C hT mfX12_isIn lk_X12_105 (kX12_isIn  hc1) ⟨Nat.le_of_ble_eq_true rfl, Nat.le_of_ble_eq_true rfl⟩ rfl hl.1 rfl (Nat.le_of_ble_eq_true rfl) ⟨Nat.zero_le _, Nat.zero_le _⟩ dX12_isFunction_5) (fun H locs hT => ?_)
  obtain ⟨g2, h⟩ := gd_some _ h
  obtain ⟨rfl, rfl⟩ := js_rt h
  exact js_zret C hT hr hk g2 dX12_isFunction_8
set_option maxHeartbeats 4000000 in
set_option maxRecDepth 20000 in
theorem wX12_isVariable_18 (C : js_C D g p m c cX12_isVariable 1 s args RX12) (hr : meth.sig.returnType = (some .boolean)) (hk : meth.locks = false) : ∀  (σ : js_S) (r0 : Int32) (σ0 : js_S), fX12_isVariable_18 fu  σ = some (r0, σ0) → js_at p l e 0 s m args below meth c D B g nn 18 1 [] [] σ (js_QI D B g nn r0 σ0) := by
  obtain ⟨hx, hb, hml, hown, ht, hK, hNw⟩ := id C
  intro  σ r0 σ0 h H locs hT ls hl
  unfold fX12_isVariable_18 at h
  refine lv_iconst (v := 1) hx hb dX12_isVariable_18 (by decide) ?_
  refine lv_goto (tgt := 23) hx hb dX12_isVariable_19 (by decide) ?_
  obtain ⟨rfl, rfl⟩ := js_rt h
  exact js_zret C hT hr hk rfl dX12_isVariable_23
set_option maxHeartbeats 4000000 in
set_option maxRecDepth 20000 in
theorem kX12_isVariable {x0 : Int32} {σ σ0 : js_S} {r0 : Int32} (h : fX12_isVariable fu x0 σ = some (r0, σ0)) : js_M l D B g nn yX12_isVariable cX12_isVariable 1 (some .boolean) 0 [.int x0] σ (js_QI D B g nn r0 σ0) := by
  refine js_enter (by decide) (Nat.le_of_ble_eq_true rfl) ?_
  intro p e s m args below meth c C hr hk ls hl hT
  have hl : lv_has ls 1 [(0, .int x0)] := hl
  obtain ⟨hx, hb, hml, hown, ht, hK, hNw⟩ := id C
  obtain ⟨H, eH⟩ : ∃ H, H = s.heap := ⟨_, rfl⟩
  obtain ⟨locs, eL⟩ : ∃ z : List Loc, z = [] := ⟨_, rfl⟩
  rw [← eH, ← eL]
  rw [← eH, ← eL] at hT
  clear eH eL
  unfold fX12_isVariable at h
  refine lv_iload_n hx hb dX12_isVariable_0 rfl (lv_at hl 0 rfl) ?_
  refine lv_bipush (v := 120) hx hb dX12_isVariable_1 (by decide) ?_
  refine lv_icmp_eq (tgt := 18) hx hb dX12_isVariable_3 (by decide) (fun c1 => ?_) (fun c1 => ?_)
  · rw [if_pos c1] at h
    exact wX12_isVariable_18 C hr hk  _ _ _ h  H locs hT ls (lv_sub hl [] rfl)
  · rw [if_neg c1] at h
    refine lv_iload_n hx hb dX12_isVariable_6 rfl (lv_at hl 0 rfl) ?_
    refine lv_bipush (v := 121) hx hb dX12_isVariable_7 (by decide) ?_
    refine lv_icmp_eq (tgt := 18) hx hb dX12_isVariable_9 (by decide) (fun c2 => ?_) (fun c2 => ?_)
    · rw [if_pos c2] at h
      exact wX12_isVariable_18 C hr hk  _ _ _ h  H locs hT ls (lv_sub hl [] rfl)
    · rw [if_neg c2] at h
      refine lv_iload_n hx hb dX12_isVariable_12 rfl (lv_at hl 0 rfl) ?_
      refine lv_bipush (v := 119) hx hb dX12_isVariable_13 (by decide) ?_
      refine lv_icmp_ne (tgt := 22) hx hb dX12_isVariable_15 (by decide) (fun c3 => ?_) (fun c3 => ?_)
      · rw [if_neg c3] at h
        refine lv_iconst (v := 0) hx hb dX12_isVariable_22 (by decide) ?_
        obtain ⟨rfl, rfl⟩ := js_rt h
        exact js_zret C hT hr hk rfl dX12_isVariable_23
      · rw [if_pos c3] at h
        exact wX12_isVariable_18 C hr hk  _ _ _ h  H locs hT ls (lv_sub hl [] rfl)
set_option maxHeartbeats 4000000 in
set_option maxRecDepth 20000 in
theorem wX12_isValidRule_124 (C : js_C D g p m c cX12_isValidRule 3 s args RX12) (hr : meth.sig.returnType = (some .boolean)) (hk : meth.locks = false) (rc80 : Nat → Int32 → Int32 → js_S → Option (Int32 × js_S)) (hrc80 : ∀ (x0 : Nat) (x1 : Int32) (x2 : Int32) (σ : js_S) (r0 : Int32) (σ0 : js_S), rc80 x0 x1 x2 σ = some (r0, σ0) → ob_ nn 12 x0 → js_at p l e 2 s m args below meth c D B g nn 80 3 [(0, .ref (B + x0)), (1, .int x1), (2, .int x2)] [] σ (js_QI D B g nn r0 σ0)) : ∀ (x0 : Nat) (x2 : Int32) (y0 : Int32) (y1 : Int32) (σ : js_S) (r0 : Int32) (σ0 : js_S), fX12_isValidRule_124 fu rc80 x0 x2 y0 y1 σ = some (r0, σ0) → ob_ nn 12 x0 → js_at p l e 2 s m args below meth c D B g nn 124 3 [(0, .ref (B + x0)), (2, .int x2)] [.int y0, .int y1] σ (js_QI D B g nn r0 σ0) := by
  obtain ⟨hx, hb, hml, hown, ht, hK, hNw⟩ := id C
  intro x0 x2 y0 y1 σ r0 σ0 h t0 H locs hT ls hl
  unfold fX12_isValidRule_124 at h
  refine lv_iand hx hb dX12_isValidRule_124 ?_
  refine lv_istore_n (lv' := [(1, .int (y1 &&& y0)), (0, .ref (B + x0)), (2, .int x2)]) hx hb dX12_isValidRule_125 rfl hl (by decide) rfl (fun ls hl => ?_)
  refine lv_iinc (v := x2 + 1) (lv' := [(2, .int (x2 + 1)), (1, .int (y1 &&& y0)), (0, .ref (B + x0))]) hx hb dX12_isValidRule_126 hl (k := 2) rfl rfl (by decide) rfl (fun ls hl => ?_)
  refine lv_goto (tgt := 80) hx hb dX12_isValidRule_129 (by decide) ?_
  exact hrc80 _ _ _ _ _ _ h t0 H locs hT ls (lv_sub hl [2, 1, 0] rfl)
set_option maxHeartbeats 4000000 in
set_option maxRecDepth 20000 in
theorem wX12_isValidRule_119 (C : js_C D g p m c cX12_isValidRule 3 s args RX12) (hr : meth.sig.returnType = (some .boolean)) (hk : meth.locks = false) (rc80 : Nat → Int32 → Int32 → js_S → Option (Int32 × js_S)) (hrc80 : ∀ (x0 : Nat) (x1 : Int32) (x2 : Int32) (σ : js_S) (r0 : Int32) (σ0 : js_S), rc80 x0 x1 x2 σ = some (r0, σ0) → ob_ nn 12 x0 → js_at p l e 2 s m args below meth c D B g nn 80 3 [(0, .ref (B + x0)), (1, .int x1), (2, .int x2)] [] σ (js_QI D B g nn r0 σ0)) : ∀ (x0 : Nat) (x2 : Int32) (y0 : Int32) (σ : js_S) (r0 : Int32) (σ0 : js_S), fX12_isValidRule_119 fu rc80 x0 x2 y0 σ = some (r0, σ0) → ob_ nn 12 x0 → js_at p l e 2 s m args below meth c D B g nn 119 3 [(0, .ref (B + x0)), (2, .int x2)] [.int y0] σ (js_QI D B g nn r0 σ0) := by
  obtain ⟨hx, hb, hml, hown, ht, hK, hNw⟩ := id C
  intro x0 x2 y0 σ r0 σ0 h t0 H locs hT ls hl
  unfold fX12_isValidRule_119 at h
  refine lv_iconst (v := 1) hx hb dX12_isValidRule_119 (by decide) ?_
  refine lv_goto (tgt := 124) hx hb dX12_isValidRule_120 (by decide) ?_
  exact wX12_isValidRule_124 C hr hk rc80 hrc80 _ _ _ _ _ _ _ h t0 H locs hT ls (lv_sub hl [0, 1] rfl)
set_option maxHeartbeats 4000000 in
set_option maxRecDepth 20000 in
theorem wX12_isValidRule_80b (C : js_C D g p m c cX12_isValidRule 3 s args RX12) (hr : meth.sig.returnType = (some .boolean)) (hk : meth.locks = false) (rc80 : Nat → Int32 → Int32 → js_S → Option (Int32 × js_S)) (hrc80 : ∀ (x0 : Nat) (x1 : Int32) (x2 : Int32) (σ : js_S) (r0 : Int32) (σ0 : js_S), rc80 x0 x1 x2 σ = some (r0, σ0) → ob_ nn 12 x0 → js_at p l e 2 s m args below meth c D B g nn 80 3 [(0, .ref (B + x0)), (1, .int x1), (2, .int x2)] [] σ (js_QI D B g nn r0 σ0)) : ∀ (x0 : Nat) (x1 : Int32) (x2 : Int32) (σ : js_S) (r0 : Int32) (σ0 : js_S), fX12_isValidRule_80b fu rc80 x0 x1 x2 σ = some (r0, σ0) → ob_ nn 12 x0 → js_at p l e 2 s m args below meth c D B g nn 80 3 [(0, .ref (B + x0)), (1, .int x1), (2, .int x2)] [] σ (js_QI D B g nn r0 σ0) := by
  obtain ⟨hx, hb, hml, hown, ht, hK, hNw⟩ := id C
  intro x0 x1 x2 σ r0 σ0 h t0 H locs hT ls hl
  unfold fX12_isValidRule_80b at h
  refine lv_iload_n hx hb dX12_isValidRule_80 rfl (lv_at hl 2 rfl) ?_
  refine lv_aload_n hx hb dX12_isValidRule_81 rfl (lv_at hl 0 rfl) ?_
  refine js_gR C hT cfX12 t0 13 (by decide) (q := 20) rfl (by decide) lk_X12_40 dX12_isValidRule_82 (fun t1a => ?_)
  refine lv_iconst (v := 0) hx hb dX12_isValidRule_85 (by decide) ?_
  obtain ⟨g2, h⟩ := gd_some _ h
  refine js_iald C hT t1a g2 dX12_isValidRule_86 ?_
  refine lv_icmp_gt (tgt := 132) hx hb dX12_isValidRule_87 (by decide) (fun c3 => ?_) (fun c3 => ?_)
  · rw [if_pos c3] at h
    refine lv_iload_n hx hb dX12_isValidRule_132 rfl (lv_at hl 1 rfl) ?_
    obtain ⟨g4, h⟩ := gd_some _ h
    obtain ⟨rfl, rfl⟩ := js_rt h
    exact js_zret C hT hr hk g4 dX12_isValidRule_133
  · rw [if_neg c3] at h
    refine lv_iload_n hx hb dX12_isValidRule_90 rfl (lv_at hl 1 rfl) ?_
    refine lv_aload_n hx hb dX12_isValidRule_91 rfl (lv_at hl 0 rfl) ?_
    refine js_gR C hT cfX12 t0 13 (by decide) (q := 20) rfl (by decide) lk_X12_40 dX12_isValidRule_92 (fun t5a => ?_)
    refine lv_iload_n hx hb dX12_isValidRule_95 rfl (lv_at hl 2 rfl) ?_
    obtain ⟨g6, h⟩ := gd_some _ h
    refine js_iald C hT t5a g6 dX12_isValidRule_96 ?_
    obtain ⟨r7, σ7, hc7, h⟩ := bd_some h
    refine js_backI hT (js_runS C hT mfX12_isVariable lk_X12_128 (kX12_isVariable  hc7) ⟨Nat.le_of_ble_eq_true rfl, Nat.le_of_ble_eq_true rfl⟩ rfl hl.1 rfl (Nat.le_of_ble_eq_true rfl) ⟨Nat.zero_le _, Nat.zero_le _⟩ dX12_isValidRule_97) (fun H locs hT => ?_)
    refine lv_if_eq (tgt := 119) hx hb dX12_isValidRule_100 (by decide) (fun c8 => ?_) (fun c8 => ?_)
    · rw [if_pos c8] at h
      exact wX12_isValidRule_119 C hr hk rc80 hrc80 _ _ _ _ _ _ h t0 H locs hT ls (lv_sub hl [0, 2] rfl)
    · rw [if_neg c8] at h
      refine lv_aload_n hx hb dX12_isValidRule_103 rfl (lv_at hl 0 rfl) ?_
      refine js_gR C hT cfX12 t0 14 (by decide) (q := 20) rfl (by decide) lk_X12_43 dX12_isValidRule_104 (fun t9a => ?_)
      refine lv_aload_n hx hb dX12_isValidRule_107 rfl (lv_at hl 0 rfl) ?_
      refine js_gR C hT cfX12 t0 13 (by decide) (q := 20) rfl (by decide) lk_X12_40 dX12_isValidRule_108 (fun t10a => ?_)
      refine lv_iload_n hx hb dX12_isValidRule_111 rfl (lv_at hl 2 rfl) ?_
      obtain ⟨g11, h⟩ := gd_some _ h
      refine js_iald C hT t10a g11 dX12_isValidRule_112 ?_
      obtain ⟨r12, σ12, hc12, h⟩ := bd_some h
      refine js_backI hT (js_runS C hT mfX12_hasSymbol lk_X12_165 (kX12_hasSymbol t9a hc12) ⟨Nat.le_of_ble_eq_true rfl, Nat.le_of_ble_eq_true rfl⟩ rfl hl.1 rfl (Nat.le_of_ble_eq_true rfl) ⟨Nat.zero_le _, Nat.zero_le _⟩ dX12_isValidRule_113) (fun H locs hT => ?_)
      refine lv_if_eq (tgt := 123) hx hb dX12_isValidRule_116 (by decide) (fun c13 => ?_) (fun c13 => ?_)
      · rw [if_pos c13] at h
        refine lv_iconst (v := 0) hx hb dX12_isValidRule_123 (by decide) ?_
        exact wX12_isValidRule_124 C hr hk rc80 hrc80 _ _ _ _ _ _ _ h t0 H locs hT ls (lv_sub hl [0, 2] rfl)
      · rw [if_neg c13] at h
        exact wX12_isValidRule_119 C hr hk rc80 hrc80 _ _ _ _ _ _ h t0 H locs hT ls (lv_sub hl [0, 2] rfl)
set_option maxHeartbeats 4000000 in
set_option maxRecDepth 20000 in
theorem wX12_isValidRule_80 (C : js_C D g p m c cX12_isValidRule 3 s args RX12) (hr : meth.sig.returnType = (some .boolean)) (hk : meth.locks = false) : ∀ (k : Nat), ∀ (x0 : Nat) (x1 : Int32) (x2 : Int32) (σ : js_S) (r0 : Int32) (σ0 : js_S), fX12_isValidRule_80 fu k x0 x1 x2 σ = some (r0, σ0) → ob_ nn 12 x0 → js_at p l e 2 s m args below meth c D B g nn 80 3 [(0, .ref (B + x0)), (1, .int x1), (2, .int x2)] [] σ (js_QI D B g nn r0 σ0) := by
  intro k
  induction k with
  | zero =>
    intro x0 x1 x2 σ r0 σ0 h
    cases h
  | succ k ih =>
    intro x0 x1 x2 σ r0 σ0 h
    exact wX12_isValidRule_80b C hr hk (fX12_isValidRule_80 fu k) ih x0 x1 x2 σ r0 σ0 h
set_option maxHeartbeats 4000000 in
set_option maxRecDepth 20000 in
theorem wX12_isValidRule_70 (C : js_C D g p m c cX12_isValidRule 3 s args RX12) (hr : meth.sig.returnType = (some .boolean)) (hk : meth.locks = false) (rc42 : Nat → Int32 → Int32 → js_S → Option (Int32 × js_S)) (hrc42 : ∀ (x0 : Nat) (x1 : Int32) (x2 : Int32) (σ : js_S) (r0 : Int32) (σ0 : js_S), rc42 x0 x1 x2 σ = some (r0, σ0) → ob_ nn 12 x0 → js_at p l e 2 s m args below meth c D B g nn 42 3 [(0, .ref (B + x0)), (1, .int x1), (2, .int x2)] [] σ (js_QI D B g nn r0 σ0)) : ∀ (x0 : Nat) (x2 : Int32) (y0 : Int32) (y1 : Int32) (σ : js_S) (r0 : Int32) (σ0 : js_S), fX12_isValidRule_70 fu rc42 x0 x2 y0 y1 σ = some (r0, σ0) → ob_ nn 12 x0 → js_at p l e 2 s m args below meth c D B g nn 70 3 [(0, .ref (B + x0)), (2, .int x2)] [.int y0, .int y1] σ (js_QI D B g nn r0 σ0) := by
  obtain ⟨hx, hb, hml, hown, ht, hK, hNw⟩ := id C
  intro x0 x2 y0 y1 σ r0 σ0 h t0 H locs hT ls hl
  unfold fX12_isValidRule_70 at h
  refine lv_iand hx hb dX12_isValidRule_70 ?_
  refine lv_istore_n (lv' := [(1, .int (y1 &&& y0)), (0, .ref (B + x0)), (2, .int x2)]) hx hb dX12_isValidRule_71 rfl hl (by decide) rfl (fun ls hl => ?_)
  refine lv_iinc (v := x2 + 1) (lv' := [(2, .int (x2 + 1)), (1, .int (y1 &&& y0)), (0, .ref (B + x0))]) hx hb dX12_isValidRule_72 hl (k := 2) rfl rfl (by decide) rfl (fun ls hl => ?_)
  refine lv_goto (tgt := 42) hx hb dX12_isValidRule_75 (by decide) ?_
  exact hrc42 _ _ _ _ _ _ h t0 H locs hT ls (lv_sub hl [2, 1, 0] rfl)
set_option maxHeartbeats 4000000 in
set_option maxRecDepth 20000 in
theorem wX12_isValidRule_42b (C : js_C D g p m c cX12_isValidRule 3 s args RX12) (hr : meth.sig.returnType = (some .boolean)) (hk : meth.locks = false) (rc42 : Nat → Int32 → Int32 → js_S → Option (Int32 × js_S)) (hrc42 : ∀ (x0 : Nat) (x1 : Int32) (x2 : Int32) (σ : js_S) (r0 : Int32) (σ0 : js_S), rc42 x0 x1 x2 σ = some (r0, σ0) → ob_ nn 12 x0 → js_at p l e 2 s m args below meth c D B g nn 42 3 [(0, .ref (B + x0)), (1, .int x1), (2, .int x2)] [] σ (js_QI D B g nn r0 σ0)) : ∀ (x0 : Nat) (x1 : Int32) (x2 : Int32) (σ : js_S) (r0 : Int32) (σ0 : js_S), fX12_isValidRule_42b fu rc42 x0 x1 x2 σ = some (r0, σ0) → ob_ nn 12 x0 → js_at p l e 2 s m args below meth c D B g nn 42 3 [(0, .ref (B + x0)), (1, .int x1), (2, .int x2)] [] σ (js_QI D B g nn r0 σ0) := by
  obtain ⟨hx, hb, hml, hown, ht, hK, hNw⟩ := id C
  intro x0 x1 x2 σ r0 σ0 h t0 H locs hT ls hl
  unfold fX12_isValidRule_42b at h
  refine lv_iload_n hx hb dX12_isValidRule_42 rfl (lv_at hl 2 rfl) ?_
  refine lv_aload_n hx hb dX12_isValidRule_43 rfl (lv_at hl 0 rfl) ?_
  refine js_gR C hT cfX12 t0 14 (by decide) (q := 20) rfl (by decide) lk_X12_43 dX12_isValidRule_44 (fun t1a => ?_)
  refine lv_iconst (v := 0) hx hb dX12_isValidRule_47 (by decide) ?_
  obtain ⟨g2, h⟩ := gd_some _ h
  refine js_iald C hT t1a g2 dX12_isValidRule_48 ?_
  refine lv_icmp_gt (tgt := 78) hx hb dX12_isValidRule_49 (by decide) (fun c3 => ?_) (fun c3 => ?_)
  · rw [if_pos c3] at h
    refine lv_iconst (v := 1) hx hb dX12_isValidRule_78 (by decide) ?_
    refine lv_istore_n (lv' := [(2, .int 1), (0, .ref (B + x0)), (1, .int x1)]) hx hb dX12_isValidRule_79 rfl hl (by decide) rfl (fun ls hl => ?_)
    exact wX12_isValidRule_80 C hr hk _ _ _ _ _ _ _ h t0 H locs hT ls (lv_sub hl [1, 2, 0] rfl)
  · rw [if_neg c3] at h
    refine lv_iload_n hx hb dX12_isValidRule_52 rfl (lv_at hl 1 rfl) ?_
    refine lv_aload_n hx hb dX12_isValidRule_53 rfl (lv_at hl 0 rfl) ?_
    refine js_gR C hT cfX12 t0 14 (by decide) (q := 20) rfl (by decide) lk_X12_43 dX12_isValidRule_54 (fun t4a => ?_)
    refine lv_iload_n hx hb dX12_isValidRule_57 rfl (lv_at hl 2 rfl) ?_
    obtain ⟨g5, h⟩ := gd_some _ h
    refine js_iald C hT t4a g5 dX12_isValidRule_58 ?_
    obtain ⟨r6, σ6, hc6, h⟩ := bd_some h
    refine js_backI hT (js_runS C hT mfX12_isFunction lk_X12_109 (kX12_isFunction  hc6) ⟨Nat.le_of_ble_eq_true rfl, Nat.le_of_ble_eq_true rfl⟩ rfl hl.1 rfl (Nat.le_of_ble_eq_true rfl) ⟨Nat.zero_le _, Nat.zero_le _⟩ dX12_isValidRule_59) (fun H locs hT => ?_)
    refine lv_if_ne (tgt := 69) hx hb dX12_isValidRule_62 (by decide) (fun c7 => ?_) (fun c7 => ?_)
    · rw [if_neg c7] at h
      refine lv_iconst (v := 0) hx hb dX12_isValidRule_69 (by decide) ?_
      exact wX12_isValidRule_70 C hr hk rc42 hrc42 _ _ _ _ _ _ _ h t0 H locs hT ls (lv_sub hl [0, 2] rfl)
    · rw [if_pos c7] at h
      refine lv_iconst (v := 1) hx hb dX12_isValidRule_65 (by decide) ?_
      refine lv_goto (tgt := 70) hx hb dX12_isValidRule_66 (by decide) ?_
      exact wX12_isValidRule_70 C hr hk rc42 hrc42 _ _ _ _ _ _ _ h t0 H locs hT ls (lv_sub hl [0, 2] rfl)
set_option maxHeartbeats 4000000 in
set_option maxRecDepth 20000 in
theorem wX12_isValidRule_42 (C : js_C D g p m c cX12_isValidRule 3 s args RX12) (hr : meth.sig.returnType = (some .boolean)) (hk : meth.locks = false) : ∀ (k : Nat), ∀ (x0 : Nat) (x1 : Int32) (x2 : Int32) (σ : js_S) (r0 : Int32) (σ0 : js_S), fX12_isValidRule_42 fu k x0 x1 x2 σ = some (r0, σ0) → ob_ nn 12 x0 → js_at p l e 2 s m args below meth c D B g nn 42 3 [(0, .ref (B + x0)), (1, .int x1), (2, .int x2)] [] σ (js_QI D B g nn r0 σ0) := by
  intro k
  induction k with
  | zero =>
    intro x0 x1 x2 σ r0 σ0 h
    cases h
  | succ k ih =>
    intro x0 x1 x2 σ r0 σ0 h
    exact wX12_isValidRule_42b C hr hk (fX12_isValidRule_42 fu k) ih x0 x1 x2 σ r0 σ0 h
set_option maxHeartbeats 4000000 in
set_option maxRecDepth 20000 in
theorem wX12_isValidRule_39 (C : js_C D g p m c cX12_isValidRule 3 s args RX12) (hr : meth.sig.returnType = (some .boolean)) (hk : meth.locks = false) : ∀ (x0 : Nat) (y0 : Int32) (σ : js_S) (r0 : Int32) (σ0 : js_S), fX12_isValidRule_39 fu x0 y0 σ = some (r0, σ0) → ob_ nn 12 x0 → js_at p l e 2 s m args below meth c D B g nn 39 3 [(0, .ref (B + x0))] [.int y0] σ (js_QI D B g nn r0 σ0) := by
  obtain ⟨hx, hb, hml, hown, ht, hK, hNw⟩ := id C
  intro x0 y0 σ r0 σ0 h t0 H locs hT ls hl
  unfold fX12_isValidRule_39 at h
  refine lv_istore_n (lv' := [(1, .int y0), (0, .ref (B + x0))]) hx hb dX12_isValidRule_39 rfl hl (by decide) rfl (fun ls hl => ?_)
  refine lv_iconst (v := 2) hx hb dX12_isValidRule_40 (by decide) ?_
  refine lv_istore_n (lv' := [(2, .int 2), (1, .int y0), (0, .ref (B + x0))]) hx hb dX12_isValidRule_41 rfl hl (by decide) rfl (fun ls hl => ?_)
  exact wX12_isValidRule_42 C hr hk _ _ _ _ _ _ _ h t0 H locs hT ls (lv_sub hl [2, 1, 0] rfl)
set_option maxHeartbeats 4000000 in
set_option maxRecDepth 20000 in
theorem wX12_isValidRule_38 (C : js_C D g p m c cX12_isValidRule 3 s args RX12) (hr : meth.sig.returnType = (some .boolean)) (hk : meth.locks = false) : ∀ (x0 : Nat) (σ : js_S) (r0 : Int32) (σ0 : js_S), fX12_isValidRule_38 fu x0 σ = some (r0, σ0) → ob_ nn 12 x0 → js_at p l e 2 s m args below meth c D B g nn 38 3 [(0, .ref (B + x0))] [] σ (js_QI D B g nn r0 σ0) := by
  obtain ⟨hx, hb, hml, hown, ht, hK, hNw⟩ := id C
  intro x0 σ r0 σ0 h t0 H locs hT ls hl
  unfold fX12_isValidRule_38 at h
  refine lv_iconst (v := 0) hx hb dX12_isValidRule_38 (by decide) ?_
  exact wX12_isValidRule_39 C hr hk _ _ _ _ _ h t0 H locs hT ls (lv_sub hl [0] rfl)
set_option maxHeartbeats 4000000 in
set_option maxRecDepth 20000 in
theorem kX12_isValidRule {x0 : Nat} {σ σ0 : js_S} {r0 : Int32} (t0 : ob_ nn 12 x0) (h : fX12_isValidRule fu x0 σ = some (r0, σ0)) : js_M l D B g nn yX12_isValidRule cX12_isValidRule 3 (some .boolean) 2 [.ref (B + x0)] σ (js_QI D B g nn r0 σ0) := by
  refine js_enter (by decide) (Nat.le_of_ble_eq_true rfl) ?_
  intro p e s m args below meth c C hr hk ls hl hT
  have hl : lv_has ls 3 [(0, .ref (B + x0))] := hl
  obtain ⟨hx, hb, hml, hown, ht, hK, hNw⟩ := id C
  obtain ⟨H, eH⟩ : ∃ H, H = s.heap := ⟨_, rfl⟩
  obtain ⟨locs, eL⟩ : ∃ z : List Loc, z = [] := ⟨_, rfl⟩
  rw [← eH, ← eL]
  rw [← eH, ← eL] at hT
  clear eH eL
  unfold fX12_isValidRule at h
  refine lv_aload_n hx hb dX12_isValidRule_0 rfl (lv_at hl 0 rfl) ?_
  refine js_gR C hT cfX12 t0 14 (by decide) (q := 20) rfl (by decide) lk_X12_43 dX12_isValidRule_1 (fun t1a => ?_)
  refine lv_iconst (v := 1) hx hb dX12_isValidRule_4 (by decide) ?_
  obtain ⟨g2, h⟩ := gd_some _ h
  refine js_iald C hT t1a g2 dX12_isValidRule_5 ?_
  obtain ⟨r3, σ3, hc3, h⟩ := bd_some h
  refine js_backI hT (js_runS C hT mfX12_isFunction lk_X12_109 (kX12_isFunction  hc3) ⟨Nat.le_of_ble_eq_true rfl, Nat.le_of_ble_eq_true rfl⟩ rfl hl.1 rfl (Nat.le_of_ble_eq_true rfl) ⟨Nat.zero_le _, Nat.zero_le _⟩ dX12_isValidRule_6) (fun H locs hT => ?_)
  refine lv_if_eq (tgt := 38) hx hb dX12_isValidRule_9 (by decide) (fun c4 => ?_) (fun c4 => ?_)
  · rw [if_pos c4] at h
    exact wX12_isValidRule_38 C hr hk _ _ _ _ h t0 H locs hT ls (lv_sub hl [0] rfl)
  · rw [if_neg c4] at h
    refine lv_aload_n hx hb dX12_isValidRule_12 rfl (lv_at hl 0 rfl) ?_
    refine js_gR C hT cfX12 t0 14 (by decide) (q := 20) rfl (by decide) lk_X12_43 dX12_isValidRule_13 (fun t5a => ?_)
    refine lv_iconst (v := 0) hx hb dX12_isValidRule_16 (by decide) ?_
    obtain ⟨g6, h⟩ := gd_some _ h
    refine js_iald C hT t5a g6 dX12_isValidRule_17 ?_
    refine lv_bipush (v := 40) hx hb dX12_isValidRule_18 (by decide) ?_
    refine lv_icmp_gt (tgt := 38) hx hb dX12_isValidRule_20 (by decide) (fun c7 => ?_) (fun c7 => ?_)
    · rw [if_pos c7] at h
      exact wX12_isValidRule_38 C hr hk _ _ _ _ h t0 H locs hT ls (lv_sub hl [0] rfl)
    · rw [if_neg c7] at h
      refine lv_aload_n hx hb dX12_isValidRule_23 rfl (lv_at hl 0 rfl) ?_
      refine js_gR C hT cfX12 t0 13 (by decide) (q := 20) rfl (by decide) lk_X12_40 dX12_isValidRule_24 (fun t8a => ?_)
      refine lv_iconst (v := 0) hx hb dX12_isValidRule_27 (by decide) ?_
      obtain ⟨g9, h⟩ := gd_some _ h
      refine js_iald C hT t8a g9 dX12_isValidRule_28 ?_
      refine lv_bipush (v := 40) hx hb dX12_isValidRule_29 (by decide) ?_
      refine lv_icmp_gt (tgt := 38) hx hb dX12_isValidRule_31 (by decide) (fun c10 => ?_) (fun c10 => ?_)
      · rw [if_pos c10] at h
        exact wX12_isValidRule_38 C hr hk _ _ _ _ h t0 H locs hT ls (lv_sub hl [0] rfl)
      · rw [if_neg c10] at h
        refine lv_iconst (v := 1) hx hb dX12_isValidRule_34 (by decide) ?_
        refine lv_goto (tgt := 39) hx hb dX12_isValidRule_35 (by decide) ?_
        exact wX12_isValidRule_39 C hr hk _ _ _ _ _ h t0 H locs hT ls (lv_sub hl [0] rfl)
set_option maxHeartbeats 4000000 in
set_option maxRecDepth 20000 in
theorem kX12_left {x0 : Int32} {σ σ0 : js_S} {r0 : Int32} (h : fX12_left fu x0 σ = some (r0, σ0)) : js_M l D B g nn yX12_left cX12_left 1 (some .int) 0 [.int x0] σ (js_QI D B g nn r0 σ0) := by
  refine js_enter (by decide) (Nat.le_of_ble_eq_true rfl) ?_
  intro p e s m args below meth c C hr hk ls hl hT
  have hl : lv_has ls 1 [(0, .int x0)] := hl
  obtain ⟨hx, hb, hml, hown, ht, hK, hNw⟩ := id C
  obtain ⟨H, eH⟩ : ∃ H, H = s.heap := ⟨_, rfl⟩
  obtain ⟨locs, eL⟩ : ∃ z : List Loc, z = [] := ⟨_, rfl⟩
  rw [← eH, ← eL]
  rw [← eH, ← eL] at hT
  clear eH eL
  unfold fX12_left at h
  refine lv_iconst (v := 2) hx hb dX12_left_0 (by decide) ?_
  refine lv_iload_n hx hb dX12_left_1 rfl (lv_at hl 0 rfl) ?_
  refine lv_imul hx hb dX12_left_2 ?_
  refine lv_bipush (v := 96) hx hb dX12_left_3 (by decide) ?_
  refine lv_imul hx hb dX12_left_5 ?_
  obtain ⟨rfl, rfl⟩ := js_rt h
  exact js_iret C hT hr hk dX12_left_6
set_option maxHeartbeats 4000000 in
set_option maxRecDepth 20000 in
theorem kX12_arityOf {x0 : Nat} {x1 : Int32} {σ σ0 : js_S} {r0 : Int32} (t0 : ob_ nn 12 x0) (h : fX12_arityOf fu x0 x1 σ = some (r0, σ0)) : js_M l D B g nn yX12_arityOf cX12_arityOf 2 (some .int) 2 [.ref (B + x0), .int x1] σ (js_QI D B g nn r0 σ0) := by
  refine js_enter (by decide) (Nat.le_of_ble_eq_true rfl) ?_
  intro p e s m args below meth c C hr hk ls hl hT
  have hl : lv_has ls 2 [(0, .ref (B + x0)), (1, .int x1)] := hl
  obtain ⟨hx, hb, hml, hown, ht, hK, hNw⟩ := id C
  obtain ⟨H, eH⟩ : ∃ H, H = s.heap := ⟨_, rfl⟩
  obtain ⟨locs, eL⟩ : ∃ z : List Loc, z = [] := ⟨_, rfl⟩
  rw [← eH, ← eL]
  rw [← eH, ← eL] at hT
  clear eH eL
  unfold fX12_arityOf at h
  refine lv_iload_n hx hb dX12_arityOf_0 rfl (lv_at hl 1 rfl) ?_
  obtain ⟨r1, σ1, hc1, h⟩ := bd_some h
  refine js_backI hT (js_runS C hT mfX12_isFunction lk_X12_109 (kX12_isFunction  hc1) ⟨Nat.le_of_ble_eq_true rfl, Nat.le_of_ble_eq_true rfl⟩ rfl hl.1 rfl (Nat.le_of_ble_eq_true rfl) ⟨Nat.zero_le _, Nat.zero_le _⟩ dX12_arityOf_1) (fun H locs hT => ?_)
  refine lv_if_eq (tgt := 19) hx hb dX12_arityOf_4 (by decide) (fun c2 => ?_) (fun c2 => ?_)
  · rw [if_pos c2] at h
    refine lv_iload_n hx hb dX12_arityOf_19 rfl (lv_at hl 1 rfl) ?_
    refine lv_bipush (v := 115) hx hb dX12_arityOf_20 (by decide) ?_
    refine lv_icmp_ne (tgt := 29) hx hb dX12_arityOf_22 (by decide) (fun c3 => ?_) (fun c3 => ?_)
    · rw [if_neg c3] at h
      refine lv_iload_n hx hb dX12_arityOf_29 rfl (lv_at hl 1 rfl) ?_
      refine lv_bipush (v := 99) hx hb dX12_arityOf_30 (by decide) ?_
      refine lv_icmp_ne (tgt := 39) hx hb dX12_arityOf_32 (by decide) (fun c4 => ?_) (fun c4 => ?_)
      · rw [if_neg c4] at h
        refine lv_iconst (v := 0) hx hb dX12_arityOf_39 (by decide) ?_
        obtain ⟨rfl, rfl⟩ := js_rt h
        exact js_iret C hT hr hk dX12_arityOf_40
      · rw [if_pos c4] at h
        refine lv_iconst (v := 2) hx hb dX12_arityOf_35 (by decide) ?_
        refine lv_goto (tgt := 40) hx hb dX12_arityOf_36 (by decide) ?_
        obtain ⟨rfl, rfl⟩ := js_rt h
        exact js_iret C hT hr hk dX12_arityOf_40
    · rw [if_pos c3] at h
      refine lv_iconst (v := 1) hx hb dX12_arityOf_25 (by decide) ?_
      refine lv_goto (tgt := 40) hx hb dX12_arityOf_26 (by decide) ?_
      obtain ⟨rfl, rfl⟩ := js_rt h
      exact js_iret C hT hr hk dX12_arityOf_40
  · rw [if_neg c2] at h
    refine lv_aload_n hx hb dX12_arityOf_7 rfl (lv_at hl 0 rfl) ?_
    refine js_gR C hT cfX12 t0 0 (by decide) (q := 20) rfl (by decide) lk_X12_9 dX12_arityOf_8 (fun t5a => ?_)
    refine lv_iload_n hx hb dX12_arityOf_11 rfl (lv_at hl 1 rfl) ?_
    refine lv_bipush (v := 102) hx hb dX12_arityOf_12 (by decide) ?_
    refine lv_isub hx hb dX12_arityOf_14 ?_
    obtain ⟨g6, h⟩ := gd_some _ h
    refine js_iald C hT t5a g6 dX12_arityOf_15 ?_
    refine lv_goto (tgt := 40) hx hb dX12_arityOf_16 (by decide) ?_
    obtain ⟨rfl, rfl⟩ := js_rt h
    exact js_iret C hT hr hk dX12_arityOf_40
set_option maxHeartbeats 4000000 in
set_option maxRecDepth 20000 in
theorem wX12_parsesTerm_130 (C : js_C D g p m c cX12_parsesTerm 4 s args RX12) (hr : meth.sig.returnType = (some .boolean)) (hk : meth.locks = false) (rp : Nat → js_S → Option (Int32 × js_S)) {qq : Nat} (hq : 2 ≤ qq) (hrp : ∀ (a0 : Nat) (σ : js_S) (r0 : Int32) (σ0 : js_S), ob_ nn 12 a0 → rp a0 σ = some (r0, σ0) → js_M l D B g nn yX12_parsesTerm cX12_parsesTerm 4 (some .boolean) qq [.ref (B + a0)] σ (js_QI D B g nn r0 σ0)) : ∀  (σ : js_S) (r0 : Int32) (σ0 : js_S), fX12_parsesTerm_130 fu rp  σ = some (r0, σ0) → js_at p l e (qq + 1) s m args below meth c D B g nn 130 4 [] [] σ (js_QI D B g nn r0 σ0) := by
  obtain ⟨hx, hb, hml, hown, ht, hK, hNw⟩ := id C
  intro  σ r0 σ0 h H locs hT ls hl
  unfold fX12_parsesTerm_130 at h
  refine lv_iconst (v := 1) hx hb dX12_parsesTerm_130 (by decide) ?_
  refine lv_goto (tgt := 135) hx hb dX12_parsesTerm_131 (by decide) ?_
  obtain ⟨rfl, rfl⟩ := js_rt h
  exact js_zret C hT hr hk rfl dX12_parsesTerm_135
set_option maxHeartbeats 4000000 in
set_option maxRecDepth 20000 in
theorem wX12_parsesTerm_96 (C : js_C D g p m c cX12_parsesTerm 4 s args RX12) (hr : meth.sig.returnType = (some .boolean)) (hk : meth.locks = false) (rp : Nat → js_S → Option (Int32 × js_S)) {qq : Nat} (hq : 2 ≤ qq) (hrp : ∀ (a0 : Nat) (σ : js_S) (r0 : Int32) (σ0 : js_S), ob_ nn 12 a0 → rp a0 σ = some (r0, σ0) → js_M l D B g nn yX12_parsesTerm cX12_parsesTerm 4 (some .boolean) qq [.ref (B + a0)] σ (js_QI D B g nn r0 σ0)) (rc79 : Nat → Int32 → Int32 → js_S → Option (Int32 × js_S)) (hrc79 : ∀ (x0 : Nat) (x2 : Int32) (x3 : Int32) (σ : js_S) (r0 : Int32) (σ0 : js_S), rc79 x0 x2 x3 σ = some (r0, σ0) → ob_ nn 12 x0 → js_at p l e (qq + 1) s m args below meth c D B g nn 79 4 [(0, .ref (B + x0)), (2, .int x2), (3, .int x3)] [] σ (js_QI D B g nn r0 σ0)) : ∀ (x0 : Nat) (x2 : Int32) (x3 : Int32) (y0 : Int32) (y1 : Nat) (σ : js_S) (r0 : Int32) (σ0 : js_S), fX12_parsesTerm_96 fu rp rc79 x0 x2 x3 y0 y1 σ = some (r0, σ0) → ob_ nn 12 x0 → ob_ nn 12 y1 → js_at p l e (qq + 1) s m args below meth c D B g nn 96 4 [(0, .ref (B + x0)), (2, .int x2), (3, .int x3)] [.int y0, .ref (B + y1)] σ (js_QI D B g nn r0 σ0) := by
  obtain ⟨hx, hb, hml, hown, ht, hK, hNw⟩ := id C
  intro x0 x2 x3 y0 y1 σ r0 σ0 h t0 u1 H locs hT ls hl
  unfold fX12_parsesTerm_96 at h
  obtain ⟨r1, σ1, hc1, h⟩ := bd_some h
  refine js_backI hT (js_runV C hT cfX12 u1 rfl mfX12_accepts lk_X12_158 (kX12_accepts u1 hc1) ⟨by simp only [js_rm]; omega, by simp only [js_rm]; omega⟩ rfl hl.1 rfl (Nat.le_of_ble_eq_true rfl) ⟨Nat.zero_le _, Nat.zero_le _⟩ dX12_parsesTerm_96) (fun H locs hT => ?_)
  refine lv_if_eq (tgt := 109) hx hb dX12_parsesTerm_99 (by decide) (fun c2 => ?_) (fun c2 => ?_)
  · rw [if_pos c2] at h
    refine lv_iconst (v := 0) hx hb dX12_parsesTerm_109 (by decide) ?_
    obtain ⟨rfl, rfl⟩ := js_rt h
    exact js_zret C hT hr hk rfl dX12_parsesTerm_110
  · rw [if_neg c2] at h
    refine lv_aload_n hx hb dX12_parsesTerm_102 rfl (lv_at hl 0 rfl) ?_
    obtain ⟨r3, σ3, hc3, h⟩ := bd_some h
    refine js_backI hT (js_runV C hT cfX12 t0 rfl mfX12_parsesTerm lk_X12_161 (hrp _ _ _ _ t0 hc3) ⟨by simp only [js_rm]; omega, by simp only [js_rm]; omega⟩ rfl hl.1 rfl (Nat.le_of_ble_eq_true rfl) ⟨Nat.zero_le _, Nat.zero_le _⟩ dX12_parsesTerm_103) (fun H locs hT => ?_)
    refine lv_if_ne (tgt := 111) hx hb dX12_parsesTerm_106 (by decide) (fun c4 => ?_) (fun c4 => ?_)
    · rw [if_neg c4] at h
      refine lv_iinc (v := x3 + 1) (lv' := [(3, .int (x3 + 1)), (0, .ref (B + x0)), (2, .int x2)]) hx hb dX12_parsesTerm_111 hl (k := 2) rfl rfl (by decide) rfl (fun ls hl => ?_)
      refine lv_goto (tgt := 79) hx hb dX12_parsesTerm_114 (by decide) ?_
      exact hrc79 _ _ _ _ _ _ h t0 H locs hT ls (lv_sub hl [1, 2, 0] rfl)
    · rw [if_pos c4] at h
      refine lv_iconst (v := 0) hx hb dX12_parsesTerm_109 (by decide) ?_
      obtain ⟨rfl, rfl⟩ := js_rt h
      exact js_zret C hT hr hk rfl dX12_parsesTerm_110
set_option maxHeartbeats 4000000 in
set_option maxRecDepth 20000 in
theorem wX12_parsesTerm_79b (C : js_C D g p m c cX12_parsesTerm 4 s args RX12) (hr : meth.sig.returnType = (some .boolean)) (hk : meth.locks = false) (rp : Nat → js_S → Option (Int32 × js_S)) {qq : Nat} (hq : 2 ≤ qq) (hrp : ∀ (a0 : Nat) (σ : js_S) (r0 : Int32) (σ0 : js_S), ob_ nn 12 a0 → rp a0 σ = some (r0, σ0) → js_M l D B g nn yX12_parsesTerm cX12_parsesTerm 4 (some .boolean) qq [.ref (B + a0)] σ (js_QI D B g nn r0 σ0)) (rc79 : Nat → Int32 → Int32 → js_S → Option (Int32 × js_S)) (hrc79 : ∀ (x0 : Nat) (x2 : Int32) (x3 : Int32) (σ : js_S) (r0 : Int32) (σ0 : js_S), rc79 x0 x2 x3 σ = some (r0, σ0) → ob_ nn 12 x0 → js_at p l e (qq + 1) s m args below meth c D B g nn 79 4 [(0, .ref (B + x0)), (2, .int x2), (3, .int x3)] [] σ (js_QI D B g nn r0 σ0)) : ∀ (x0 : Nat) (x2 : Int32) (x3 : Int32) (σ : js_S) (r0 : Int32) (σ0 : js_S), fX12_parsesTerm_79b fu rp rc79 x0 x2 x3 σ = some (r0, σ0) → ob_ nn 12 x0 → js_at p l e (qq + 1) s m args below meth c D B g nn 79 4 [(0, .ref (B + x0)), (2, .int x2), (3, .int x3)] [] σ (js_QI D B g nn r0 σ0) := by
  obtain ⟨hx, hb, hml, hown, ht, hK, hNw⟩ := id C
  intro x0 x2 x3 σ r0 σ0 h t0 H locs hT ls hl
  unfold fX12_parsesTerm_79b at h
  refine lv_iload_n hx hb dX12_parsesTerm_79 rfl (lv_at hl 2 rfl) ?_
  refine lv_iload_n hx hb dX12_parsesTerm_80 rfl (lv_at hl 1 rfl) ?_
  refine lv_icmp_ge (tgt := 117) hx hb dX12_parsesTerm_81 (by decide) (fun c1 => ?_) (fun c1 => ?_)
  · rw [if_pos c1] at h
    refine lv_iload_n hx hb dX12_parsesTerm_117 rfl (lv_at hl 1 rfl) ?_
    refine lv_if_eq (tgt := 130) hx hb dX12_parsesTerm_118 (by decide) (fun c2 => ?_) (fun c2 => ?_)
    · rw [if_pos c2] at h
      exact wX12_parsesTerm_130 C hr hk rp hq hrp  _ _ _ h  H locs hT ls (lv_sub hl [] rfl)
    · rw [if_neg c2] at h
      refine lv_aload_n hx hb dX12_parsesTerm_121 rfl (lv_at hl 0 rfl) ?_
      refine lv_bipush (v := 41) hx hb dX12_parsesTerm_122 (by decide) ?_
      obtain ⟨r3, σ3, hc3, h⟩ := bd_some h
      refine js_backI hT (js_runV C hT cfX12 t0 rfl mfX12_accepts lk_X12_158 (kX12_accepts t0 hc3) ⟨by simp only [js_rm]; omega, by simp only [js_rm]; omega⟩ rfl hl.1 rfl (Nat.le_of_ble_eq_true rfl) ⟨Nat.zero_le _, Nat.zero_le _⟩ dX12_parsesTerm_124) (fun H locs hT => ?_)
      refine lv_if_eq (tgt := 134) hx hb dX12_parsesTerm_127 (by decide) (fun c4 => ?_) (fun c4 => ?_)
      · rw [if_pos c4] at h
        refine lv_iconst (v := 0) hx hb dX12_parsesTerm_134 (by decide) ?_
        obtain ⟨rfl, rfl⟩ := js_rt h
        exact js_zret C hT hr hk rfl dX12_parsesTerm_135
      · rw [if_neg c4] at h
        exact wX12_parsesTerm_130 C hr hk rp hq hrp  _ _ _ h  H locs hT ls (lv_sub hl [] rfl)
  · rw [if_neg c1] at h
    refine lv_aload_n hx hb dX12_parsesTerm_84 rfl (lv_at hl 0 rfl) ?_
    refine lv_iload_n hx hb dX12_parsesTerm_85 rfl (lv_at hl 2 rfl) ?_
    refine lv_if_ne (tgt := 94) hx hb dX12_parsesTerm_86 (by decide) (fun c5 => ?_) (fun c5 => ?_)
    · rw [if_neg c5] at h
      refine lv_bipush (v := 44) hx hb dX12_parsesTerm_94 (by decide) ?_
      exact wX12_parsesTerm_96 C hr hk rp hq hrp rc79 hrc79 _ _ _ _ _ _ _ _ h t0 t0 H locs hT ls (lv_sub hl [0, 1, 2] rfl)
    · rw [if_pos c5] at h
      refine lv_bipush (v := 40) hx hb dX12_parsesTerm_89 (by decide) ?_
      refine lv_goto (tgt := 96) hx hb dX12_parsesTerm_91 (by decide) ?_
      exact wX12_parsesTerm_96 C hr hk rp hq hrp rc79 hrc79 _ _ _ _ _ _ _ _ h t0 t0 H locs hT ls (lv_sub hl [0, 1, 2] rfl)
set_option maxHeartbeats 4000000 in
set_option maxRecDepth 20000 in
theorem wX12_parsesTerm_79 (C : js_C D g p m c cX12_parsesTerm 4 s args RX12) (hr : meth.sig.returnType = (some .boolean)) (hk : meth.locks = false) (rp : Nat → js_S → Option (Int32 × js_S)) {qq : Nat} (hq : 2 ≤ qq) (hrp : ∀ (a0 : Nat) (σ : js_S) (r0 : Int32) (σ0 : js_S), ob_ nn 12 a0 → rp a0 σ = some (r0, σ0) → js_M l D B g nn yX12_parsesTerm cX12_parsesTerm 4 (some .boolean) qq [.ref (B + a0)] σ (js_QI D B g nn r0 σ0)) : ∀ (k : Nat), ∀ (x0 : Nat) (x2 : Int32) (x3 : Int32) (σ : js_S) (r0 : Int32) (σ0 : js_S), fX12_parsesTerm_79 fu rp k x0 x2 x3 σ = some (r0, σ0) → ob_ nn 12 x0 → js_at p l e (qq + 1) s m args below meth c D B g nn 79 4 [(0, .ref (B + x0)), (2, .int x2), (3, .int x3)] [] σ (js_QI D B g nn r0 σ0) := by
  intro k
  induction k with
  | zero =>
    intro x0 x2 x3 σ r0 σ0 h
    cases h
  | succ k ih =>
    intro x0 x2 x3 σ r0 σ0 h
    exact wX12_parsesTerm_79b C hr hk rp hq hrp (fX12_parsesTerm_79 fu rp k) ih x0 x2 x3 σ r0 σ0 h
set_option maxHeartbeats 4000000 in
set_option maxRecDepth 20000 in
theorem wX12_parsesTerm_39 (C : js_C D g p m c cX12_parsesTerm 4 s args RX12) (hr : meth.sig.returnType = (some .boolean)) (hk : meth.locks = false) (rp : Nat → js_S → Option (Int32 × js_S)) {qq : Nat} (hq : 2 ≤ qq) (hrp : ∀ (a0 : Nat) (σ : js_S) (r0 : Int32) (σ0 : js_S), ob_ nn 12 a0 → rp a0 σ = some (r0, σ0) → js_M l D B g nn yX12_parsesTerm cX12_parsesTerm 4 (some .boolean) qq [.ref (B + a0)] σ (js_QI D B g nn r0 σ0)) : ∀ (x0 : Nat) (x1 : Int32) (σ : js_S) (r0 : Int32) (σ0 : js_S), fX12_parsesTerm_39 fu rp x0 x1 σ = some (r0, σ0) → ob_ nn 12 x0 → js_at p l e (qq + 1) s m args below meth c D B g nn 39 4 [(0, .ref (B + x0)), (1, .int x1)] [] σ (js_QI D B g nn r0 σ0) := by
  obtain ⟨hx, hb, hml, hown, ht, hK, hNw⟩ := id C
  intro x0 x1 σ r0 σ0 h t0 H locs hT ls hl
  unfold fX12_parsesTerm_39 at h
  refine lv_aload_n hx hb dX12_parsesTerm_39 rfl (lv_at hl 0 rfl) ?_
  refine lv_dup hx hb dX12_parsesTerm_40 rfl ?_
  refine js_gI C hT cfX12 t0 16 (by decide) rfl lk_X12_148 dX12_parsesTerm_41 ?_
  refine lv_iconst (v := 1) hx hb dX12_parsesTerm_44 (by decide) ?_
  refine lv_iadd hx hb dX12_parsesTerm_45 ?_
  obtain ⟨σ1, e1, h⟩ := lt_some h
  refine js_pI C hT cfX12 t0 16 (by decide) rfl rfl rfl rfl lk_X12_148 dX12_parsesTerm_46 (fun H locs hT => ?_)
  rw [e1] at hT
  refine lv_aload_n hx hb dX12_parsesTerm_49 rfl (lv_at hl 0 rfl) ?_
  refine js_gR C hT cfX12 t0 13 (by decide) (q := 20) rfl (by decide) lk_X12_40 dX12_parsesTerm_50 (fun t2a => ?_)
  refine lv_iconst (v := 0) hx hb dX12_parsesTerm_53 (by decide) ?_
  refine lv_dup2_11 hx hb dX12_parsesTerm_54 rfl rfl ?_
  obtain ⟨g3, h⟩ := gd_some _ h
  refine js_iald C hT t2a g3 dX12_parsesTerm_55 ?_
  refine lv_iconst (v := 1) hx hb dX12_parsesTerm_56 (by decide) ?_
  refine lv_iadd hx hb dX12_parsesTerm_57 ?_
  obtain ⟨g4, h⟩ := gd_some _ h
  obtain ⟨σ4, e4, h⟩ := lt_some h
  refine js_iast C hT t2a g4 dX12_parsesTerm_58 (fun H locs hT => ?_)
  rw [e4] at hT
  refine lv_aload_n hx hb dX12_parsesTerm_59 rfl (lv_at hl 0 rfl) ?_
  refine js_gR C hT cfX12 t0 13 (by decide) (q := 20) rfl (by decide) lk_X12_40 dX12_parsesTerm_60 (fun t5a => ?_)
  refine lv_aload_n hx hb dX12_parsesTerm_63 rfl (lv_at hl 0 rfl) ?_
  refine js_gR C hT cfX12 t0 13 (by decide) (q := 20) rfl (by decide) lk_X12_40 dX12_parsesTerm_64 (fun t6a => ?_)
  refine lv_iconst (v := 0) hx hb dX12_parsesTerm_67 (by decide) ?_
  obtain ⟨g7, h⟩ := gd_some _ h
  refine js_iald C hT t6a g7 dX12_parsesTerm_68 ?_
  refine lv_iload_n hx hb dX12_parsesTerm_69 rfl (lv_at hl 1 rfl) ?_
  obtain ⟨g8, h⟩ := gd_some _ h
  obtain ⟨σ8, e8, h⟩ := lt_some h
  refine js_iast C hT t5a g8 dX12_parsesTerm_70 (fun H locs hT => ?_)
  rw [e8] at hT
  refine lv_aload_n hx hb dX12_parsesTerm_71 rfl (lv_at hl 0 rfl) ?_
  refine lv_iload_n hx hb dX12_parsesTerm_72 rfl (lv_at hl 1 rfl) ?_
  obtain ⟨r9, σ9, hc9, h⟩ := bd_some h
  refine js_backI hT (js_runV C hT cfX12 t0 rfl mfX12_arityOf lk_X12_113 (kX12_arityOf t0 hc9) ⟨by simp only [js_rm]; omega, by simp only [js_rm]; omega⟩ rfl hl.1 rfl (Nat.le_of_ble_eq_true rfl) ⟨Nat.zero_le _, Nat.zero_le _⟩ dX12_parsesTerm_73) (fun H locs hT => ?_)
  refine lv_istore_n (lv' := [(2, .int r9), (0, .ref (B + x0)), (1, .int x1)]) hx hb dX12_parsesTerm_76 rfl hl (by decide) rfl (fun ls hl => ?_)
  refine lv_iconst (v := 0) hx hb dX12_parsesTerm_77 (by decide) ?_
  refine lv_istore_n (lv' := [(3, .int 0), (2, .int r9), (0, .ref (B + x0)), (1, .int x1)]) hx hb dX12_parsesTerm_78 rfl hl (by decide) rfl (fun ls hl => ?_)
  exact wX12_parsesTerm_79 C hr hk rp hq hrp _ _ _ _ _ _ _ h t0 H locs hT ls (lv_sub hl [2, 1, 0] rfl)
set_option maxHeartbeats 4000000 in
set_option maxRecDepth 20000 in
theorem kX12_parsesTerm_e (rp : Nat → js_S → Option (Int32 × js_S)) {qq : Nat} (hq : 2 ≤ qq) (hrp : ∀ (a0 : Nat) (σ : js_S) (r0 : Int32) (σ0 : js_S), ob_ nn 12 a0 → rp a0 σ = some (r0, σ0) → js_M l D B g nn yX12_parsesTerm cX12_parsesTerm 4 (some .boolean) qq [.ref (B + a0)] σ (js_QI D B g nn r0 σ0)) {x0 : Nat} {σ σ0 : js_S} {r0 : Int32} (t0 : ob_ nn 12 x0) (h : fX12_parsesTerm_e fu rp x0 σ = some (r0, σ0)) : js_M l D B g nn yX12_parsesTerm cX12_parsesTerm 4 (some .boolean) (qq + 1) [.ref (B + x0)] σ (js_QI D B g nn r0 σ0) := by
  refine js_enter (by decide) (Nat.le_of_ble_eq_true rfl) ?_
  intro p e s m args below meth c C hr hk ls hl hT
  have hl : lv_has ls 4 [(0, .ref (B + x0))] := hl
  obtain ⟨hx, hb, hml, hown, ht, hK, hNw⟩ := id C
  obtain ⟨H, eH⟩ : ∃ H, H = s.heap := ⟨_, rfl⟩
  obtain ⟨locs, eL⟩ : ∃ z : List Loc, z = [] := ⟨_, rfl⟩
  rw [← eH, ← eL]
  rw [← eH, ← eL] at hT
  clear eH eL
  unfold fX12_parsesTerm_e at h
  refine lv_aload_n hx hb dX12_parsesTerm_0 rfl (lv_at hl 0 rfl) ?_
  obtain ⟨r1, σ1, hc1, h⟩ := bd_some h
  refine js_backI hT (js_runV C hT cfX12 t0 rfl mfX12_next lk_X12_154 (kX12_next t0 hc1) ⟨by simp only [js_rm]; omega, by simp only [js_rm]; omega⟩ rfl hl.1 rfl (Nat.le_of_ble_eq_true rfl) ⟨Nat.zero_le _, Nat.zero_le _⟩ dX12_parsesTerm_1) (fun H locs hT => ?_)
  refine lv_istore_n (lv' := [(1, .int r1), (0, .ref (B + x0))]) hx hb dX12_parsesTerm_4 rfl hl (by decide) rfl (fun ls hl => ?_)
  refine lv_iload_n hx hb dX12_parsesTerm_5 rfl (lv_at hl 0 rfl) ?_
  obtain ⟨r2, σ2, hc2, h⟩ := bd_some h
  refine js_backI hT (js_runS C hT mfX12_isFunction lk_X12_109 (kX12_isFunction  hc2) ⟨by simp only [js_rm]; omega, by simp only [js_rm]; omega⟩ rfl hl.1 rfl (Nat.le_of_ble_eq_true rfl) ⟨Nat.zero_le _, Nat.zero_le _⟩ dX12_parsesTerm_6) (fun H locs hT => ?_)
  refine lv_if_ne (tgt := 39) hx hb dX12_parsesTerm_9 (by decide) (fun c3 => ?_) (fun c3 => ?_)
  · rw [if_neg c3] at h
    exact wX12_parsesTerm_39 C hr hk rp hq hrp _ _ _ _ _ h t0 H locs hT ls (lv_sub hl [1, 0] rfl)
  · rw [if_pos c3] at h
    refine lv_iload_n hx hb dX12_parsesTerm_12 rfl (lv_at hl 0 rfl) ?_
    obtain ⟨r4, σ4, hc4, h⟩ := bd_some h
    refine js_backI hT (js_runS C hT mfX12_isVariable lk_X12_128 (kX12_isVariable  hc4) ⟨by simp only [js_rm]; omega, by simp only [js_rm]; omega⟩ rfl hl.1 rfl (Nat.le_of_ble_eq_true rfl) ⟨Nat.zero_le _, Nat.zero_le _⟩ dX12_parsesTerm_13) (fun H locs hT => ?_)
    refine lv_if_ne (tgt := 39) hx hb dX12_parsesTerm_16 (by decide) (fun c5 => ?_) (fun c5 => ?_)
    · rw [if_neg c5] at h
      exact wX12_parsesTerm_39 C hr hk rp hq hrp _ _ _ _ _ h t0 H locs hT ls (lv_sub hl [1, 0] rfl)
    · rw [if_pos c5] at h
      refine lv_iload_n hx hb dX12_parsesTerm_19 rfl (lv_at hl 0 rfl) ?_
      refine lv_bipush (v := 122) hx hb dX12_parsesTerm_20 (by decide) ?_
      refine lv_icmp_eq (tgt := 39) hx hb dX12_parsesTerm_22 (by decide) (fun c6 => ?_) (fun c6 => ?_)
      · rw [if_pos c6] at h
        exact wX12_parsesTerm_39 C hr hk rp hq hrp _ _ _ _ _ h t0 H locs hT ls (lv_sub hl [1, 0] rfl)
      · rw [if_neg c6] at h
        refine lv_iload_n hx hb dX12_parsesTerm_25 rfl (lv_at hl 0 rfl) ?_
        refine lv_bipush (v := 115) hx hb dX12_parsesTerm_26 (by decide) ?_
        refine lv_icmp_eq (tgt := 39) hx hb dX12_parsesTerm_28 (by decide) (fun c7 => ?_) (fun c7 => ?_)
        · rw [if_pos c7] at h
          exact wX12_parsesTerm_39 C hr hk rp hq hrp _ _ _ _ _ h t0 H locs hT ls (lv_sub hl [1, 0] rfl)
        · rw [if_neg c7] at h
          refine lv_iload_n hx hb dX12_parsesTerm_31 rfl (lv_at hl 0 rfl) ?_
          refine lv_bipush (v := 99) hx hb dX12_parsesTerm_32 (by decide) ?_
          refine lv_icmp_eq (tgt := 39) hx hb dX12_parsesTerm_34 (by decide) (fun c8 => ?_) (fun c8 => ?_)
          · rw [if_pos c8] at h
            exact wX12_parsesTerm_39 C hr hk rp hq hrp _ _ _ _ _ h t0 H locs hT ls (lv_sub hl [1, 0] rfl)
          · rw [if_neg c8] at h
            refine lv_iconst (v := 0) hx hb dX12_parsesTerm_37 (by decide) ?_
            obtain ⟨rfl, rfl⟩ := js_rt h
            exact js_zret C hT hr hk rfl dX12_parsesTerm_38
set_option maxHeartbeats 4000000 in
set_option maxRecDepth 20000 in
theorem kX12_parsesTerm_d : ∀ d : Nat, ∀ (x0 : Nat) (σ : js_S) (r0 : Int32) (σ0 : js_S), ob_ nn 12 x0 → fX12_parsesTerm fu d x0 σ = some (r0, σ0) → js_M l D B g nn yX12_parsesTerm cX12_parsesTerm 4 (some .boolean) (2 + d) [.ref (B + x0)] σ (js_QI D B g nn r0 σ0) := by
  intro d
  induction d with
  | zero =>
    intro x0 σ r0 σ0 t0 h
    cases h
  | succ d ih =>
    intro x0 σ r0 σ0 t0 h
    exact kX12_parsesTerm_e (fX12_parsesTerm fu d) (qq := 2 + d) (by omega) (fun a0 σ r0 σ0 t0 h => ih a0 σ r0 σ0 t0 h) t0 h
set_option maxHeartbeats 4000000 in
set_option maxRecDepth 20000 in
theorem kX12_parsesTerm {x0 : Nat} {σ σ0 : js_S} {r0 : Int32} (t0 : ob_ nn 12 x0) (h : fX12_parsesTerm fu 60 x0 σ = some (r0, σ0)) : js_M l D B g nn yX12_parsesTerm cX12_parsesTerm 4 (some .boolean) 62 [.ref (B + x0)] σ (js_QI D B g nn r0 σ0) := kX12_parsesTerm_d 60 x0 σ r0 σ0 t0 h
set_option maxHeartbeats 4000000 in
set_option maxRecDepth 20000 in
theorem kX12_right {x0 : Int32} {σ σ0 : js_S} {r0 : Int32} (h : fX12_right fu x0 σ = some (r0, σ0)) : js_M l D B g nn yX12_right cX12_right 1 (some .int) 0 [.int x0] σ (js_QI D B g nn r0 σ0) := by
  refine js_enter (by decide) (Nat.le_of_ble_eq_true rfl) ?_
  intro p e s m args below meth c C hr hk ls hl hT
  have hl : lv_has ls 1 [(0, .int x0)] := hl
  obtain ⟨hx, hb, hml, hown, ht, hK, hNw⟩ := id C
  obtain ⟨H, eH⟩ : ∃ H, H = s.heap := ⟨_, rfl⟩
  obtain ⟨locs, eL⟩ : ∃ z : List Loc, z = [] := ⟨_, rfl⟩
  rw [← eH, ← eL]
  rw [← eH, ← eL] at hT
  clear eH eL
  unfold fX12_right at h
  refine lv_iconst (v := 2) hx hb dX12_right_0 (by decide) ?_
  refine lv_iload_n hx hb dX12_right_1 rfl (lv_at hl 0 rfl) ?_
  refine lv_imul hx hb dX12_right_2 ?_
  refine lv_iconst (v := 1) hx hb dX12_right_3 (by decide) ?_
  refine lv_iadd hx hb dX12_right_4 ?_
  refine lv_bipush (v := 96) hx hb dX12_right_5 (by decide) ?_
  refine lv_imul hx hb dX12_right_7 ?_
  obtain ⟨rfl, rfl⟩ := js_rt h
  exact js_iret C hT hr hk dX12_right_8
set_option maxHeartbeats 4000000 in
set_option maxRecDepth 20000 in
theorem wX12_addRule_96 (C : js_C D g p m c cX12_addRule 2 s args RX12) (hr : meth.sig.returnType = (some .int)) (hk : meth.locks = false) : ∀ (x0 : Nat) (x1 : Int32) (σ : js_S) (r0 : Int32) (σ0 : js_S), fX12_addRule_96 fu x0 x1 σ = some (r0, σ0) → ob_ nn 12 x0 → js_at p l e 63 s m args below meth c D B g nn 96 2 [(0, .ref (B + x0)), (1, .int x1)] [] σ (js_QI D B g nn r0 σ0) := by
  obtain ⟨hx, hb, hml, hown, ht, hK, hNw⟩ := id C
  intro x0 x1 σ r0 σ0 h t0 H locs hT ls hl
  unfold fX12_addRule_96 at h
  refine lv_aload_n hx hb dX12_addRule_96 rfl (lv_at hl 0 rfl) ?_
  refine lv_iconst (v := 0) hx hb dX12_addRule_97 (by decide) ?_
  obtain ⟨σ1, e1, h⟩ := lt_some h
  refine js_pI C hT cfX12 t0 15 (by decide) rfl rfl rfl rfl lk_X12_151 dX12_addRule_98 (fun H locs hT => ?_)
  rw [e1] at hT
  refine lv_iload_n hx hb dX12_addRule_101 rfl (lv_at hl 1 rfl) ?_
  refine lv_if_ne (tgt := 113) hx hb dX12_addRule_102 (by decide) (fun c2 => ?_) (fun c2 => ?_)
  · rw [if_neg c2] at h
    refine lv_aload_n hx hb dX12_addRule_113 rfl (lv_at hl 0 rfl) ?_
    obtain ⟨r3, σ3, hc3, h⟩ := bd_some h
    refine js_backI hT (js_runV C hT cfX12 t0 rfl mfX12_isValidRule lk_X12_173 (kX12_isValidRule t0 hc3) ⟨Nat.le_of_ble_eq_true rfl, Nat.le_of_ble_eq_true rfl⟩ rfl hl.1 rfl (Nat.le_of_ble_eq_true rfl) ⟨Nat.zero_le _, Nat.zero_le _⟩ dX12_addRule_114) (fun H locs hT => ?_)
    refine lv_if_ne (tgt := 123) hx hb dX12_addRule_117 (by decide) (fun c4 => ?_) (fun c4 => ?_)
    · rw [if_neg c4] at h
      refine lv_aload_n hx hb dX12_addRule_123 rfl (lv_at hl 0 rfl) ?_
      refine js_gR C hT cfX12 t0 14 (by decide) (q := 20) rfl (by decide) lk_X12_43 dX12_addRule_124 (fun t5a => ?_)
      refine lv_iconst (v := 0) hx hb dX12_addRule_127 (by decide) ?_
      refine lv_aload_n hx hb dX12_addRule_128 rfl (lv_at hl 0 rfl) ?_
      refine js_gR C hT cfX12 t0 2 (by decide) (q := 20) rfl (by decide) lk_X12_16 dX12_addRule_129 (fun t6a => ?_)
      refine lv_aload_n hx hb dX12_addRule_132 rfl (lv_at hl 0 rfl) ?_
      refine js_gI C hT cfX12 t0 6 (by decide) rfl lk_X12_121 dX12_addRule_133 ?_
      obtain ⟨r7, σ7, hc7, h⟩ := bd_some h
      refine js_backI hT (js_runS C hT mfX12_left lk_X12_125 (kX12_left  hc7) ⟨Nat.le_of_ble_eq_true rfl, Nat.le_of_ble_eq_true rfl⟩ rfl hl.1 rfl (Nat.le_of_ble_eq_true rfl) ⟨Nat.zero_le _, Nat.zero_le _⟩ dX12_addRule_136) (fun H locs hT => ?_)
      refine lv_bipush (v := 96) hx hb dX12_addRule_139 (by decide) ?_
      obtain ⟨z8, σ8, hc8, h⟩ := bd_some h
      refine js_backV hT (js_runS C hT mfX12_copy lk_X12_169 (kX12_copy t5a t6a hc8) ⟨Nat.le_of_ble_eq_true rfl, Nat.le_of_ble_eq_true rfl⟩ rfl hl.1 rfl (Nat.le_of_ble_eq_true rfl) ⟨Nat.zero_le _, Nat.zero_le _⟩ dX12_addRule_141) (fun H locs hT => ?_)
      refine lv_aload_n hx hb dX12_addRule_144 rfl (lv_at hl 0 rfl) ?_
      refine js_gR C hT cfX12 t0 13 (by decide) (q := 20) rfl (by decide) lk_X12_40 dX12_addRule_145 (fun t9a => ?_)
      refine lv_iconst (v := 0) hx hb dX12_addRule_148 (by decide) ?_
      refine lv_aload_n hx hb dX12_addRule_149 rfl (lv_at hl 0 rfl) ?_
      refine js_gR C hT cfX12 t0 2 (by decide) (q := 20) rfl (by decide) lk_X12_16 dX12_addRule_150 (fun t10a => ?_)
      refine lv_aload_n hx hb dX12_addRule_153 rfl (lv_at hl 0 rfl) ?_
      refine js_gI C hT cfX12 t0 6 (by decide) rfl lk_X12_121 dX12_addRule_154 ?_
      obtain ⟨r11, σ11, hc11, h⟩ := bd_some h
      refine js_backI hT (js_runS C hT mfX12_right lk_X12_145 (kX12_right  hc11) ⟨Nat.le_of_ble_eq_true rfl, Nat.le_of_ble_eq_true rfl⟩ rfl hl.1 rfl (Nat.le_of_ble_eq_true rfl) ⟨Nat.zero_le _, Nat.zero_le _⟩ dX12_addRule_157) (fun H locs hT => ?_)
      refine lv_bipush (v := 96) hx hb dX12_addRule_160 (by decide) ?_
      obtain ⟨z12, σ12, hc12, h⟩ := bd_some h
      refine js_backV hT (js_runS C hT mfX12_copy lk_X12_169 (kX12_copy t9a t10a hc12) ⟨Nat.le_of_ble_eq_true rfl, Nat.le_of_ble_eq_true rfl⟩ rfl hl.1 rfl (Nat.le_of_ble_eq_true rfl) ⟨Nat.zero_le _, Nat.zero_le _⟩ dX12_addRule_162) (fun H locs hT => ?_)
      refine lv_aload_n hx hb dX12_addRule_165 rfl (lv_at hl 0 rfl) ?_
      refine lv_dup hx hb dX12_addRule_166 rfl ?_
      refine js_gI C hT cfX12 t0 6 (by decide) rfl lk_X12_121 dX12_addRule_167 ?_
      refine lv_iconst (v := 1) hx hb dX12_addRule_170 (by decide) ?_
      refine lv_iadd hx hb dX12_addRule_171 ?_
      obtain ⟨σ13, e13, h⟩ := lt_some h
      refine js_pI C hT cfX12 t0 6 (by decide) rfl rfl rfl rfl lk_X12_121 dX12_addRule_172 (fun H locs hT => ?_)
      rw [e13] at hT
      refine lv_aload_n hx hb dX12_addRule_175 rfl (lv_at hl 0 rfl) ?_
      refine js_gI C hT cfX12 t0 6 (by decide) rfl lk_X12_121 dX12_addRule_176 ?_
      refine lv_iconst (v := 1) hx hb dX12_addRule_179 (by decide) ?_
      refine lv_isub hx hb dX12_addRule_180 ?_
      obtain ⟨rfl, rfl⟩ := js_rt h
      exact js_iret C hT hr hk dX12_addRule_181
    · rw [if_pos c4] at h
      refine lv_bipush (v := (-6)) hx hb dX12_addRule_120 (by decide) ?_
      obtain ⟨rfl, rfl⟩ := js_rt h
      exact js_iret C hT hr hk dX12_addRule_122
  · rw [if_pos c2] at h
    refine lv_bipush (v := (-100)) hx hb dX12_addRule_105 (by decide) ?_
    refine lv_aload_n hx hb dX12_addRule_107 rfl (lv_at hl 0 rfl) ?_
    refine js_gI C hT cfX12 t0 16 (by decide) rfl lk_X12_148 dX12_addRule_108 ?_
    refine lv_isub hx hb dX12_addRule_111 ?_
    obtain ⟨rfl, rfl⟩ := js_rt h
    exact js_iret C hT hr hk dX12_addRule_112
set_option maxHeartbeats 4000000 in
set_option maxRecDepth 20000 in
theorem wX12_addRule_95 (C : js_C D g p m c cX12_addRule 2 s args RX12) (hr : meth.sig.returnType = (some .int)) (hk : meth.locks = false) : ∀ (x0 : Nat) (y0 : Int32) (σ : js_S) (r0 : Int32) (σ0 : js_S), fX12_addRule_95 fu x0 y0 σ = some (r0, σ0) → ob_ nn 12 x0 → js_at p l e 63 s m args below meth c D B g nn 95 2 [(0, .ref (B + x0))] [.int y0] σ (js_QI D B g nn r0 σ0) := by
  obtain ⟨hx, hb, hml, hown, ht, hK, hNw⟩ := id C
  intro x0 y0 σ r0 σ0 h t0 H locs hT ls hl
  unfold fX12_addRule_95 at h
  refine lv_istore_n (lv' := [(1, .int y0), (0, .ref (B + x0))]) hx hb dX12_addRule_95 rfl hl (by decide) rfl (fun ls hl => ?_)
  exact wX12_addRule_96 C hr hk _ _ _ _ _ h t0 H locs hT ls (lv_sub hl [1, 0] rfl)
set_option maxHeartbeats 4000000 in
set_option maxRecDepth 20000 in
theorem wX12_addRule_94 (C : js_C D g p m c cX12_addRule 2 s args RX12) (hr : meth.sig.returnType = (some .int)) (hk : meth.locks = false) : ∀ (x0 : Nat) (σ : js_S) (r0 : Int32) (σ0 : js_S), fX12_addRule_94 fu x0 σ = some (r0, σ0) → ob_ nn 12 x0 → js_at p l e 63 s m args below meth c D B g nn 94 2 [(0, .ref (B + x0))] [] σ (js_QI D B g nn r0 σ0) := by
  obtain ⟨hx, hb, hml, hown, ht, hK, hNw⟩ := id C
  intro x0 σ r0 σ0 h t0 H locs hT ls hl
  unfold fX12_addRule_94 at h
  refine lv_iconst (v := 0) hx hb dX12_addRule_94 (by decide) ?_
  exact wX12_addRule_95 C hr hk _ _ _ _ _ h t0 H locs hT ls (lv_sub hl [0] rfl)
set_option maxHeartbeats 4000000 in
set_option maxRecDepth 20000 in
theorem wX12_addRule_45 (C : js_C D g p m c cX12_addRule 2 s args RX12) (hr : meth.sig.returnType = (some .int)) (hk : meth.locks = false) : ∀ (x0 : Nat) (y0 : Int32) (σ : js_S) (r0 : Int32) (σ0 : js_S), fX12_addRule_45 fu x0 y0 σ = some (r0, σ0) → ob_ nn 12 x0 → js_at p l e 63 s m args below meth c D B g nn 45 2 [(0, .ref (B + x0))] [.int y0] σ (js_QI D B g nn r0 σ0) := by
  obtain ⟨hx, hb, hml, hown, ht, hK, hNw⟩ := id C
  intro x0 y0 σ r0 σ0 h t0 H locs hT ls hl
  unfold fX12_addRule_45 at h
  refine lv_istore_n (lv' := [(1, .int y0), (0, .ref (B + x0))]) hx hb dX12_addRule_45 rfl hl (by decide) rfl (fun ls hl => ?_)
  refine lv_iload_n hx hb dX12_addRule_46 rfl (lv_at hl 0 rfl) ?_
  refine lv_if_eq (tgt := 96) hx hb dX12_addRule_47 (by decide) (fun c1 => ?_) (fun c1 => ?_)
  · rw [if_pos c1] at h
    exact wX12_addRule_96 C hr hk _ _ _ _ _ h t0 H locs hT ls (lv_sub hl [1, 0] rfl)
  · rw [if_neg c1] at h
    refine lv_aload_n hx hb dX12_addRule_50 rfl (lv_at hl 1 rfl) ?_
    refine js_gR C hT cfX12 t0 13 (by decide) (q := 20) rfl (by decide) lk_X12_40 dX12_addRule_51 (fun t2a => ?_)
    refine lv_iconst (v := 0) hx hb dX12_addRule_54 (by decide) ?_
    refine lv_aload_n hx hb dX12_addRule_55 rfl (lv_at hl 1 rfl) ?_
    refine js_gR C hT cfX12 t0 14 (by decide) (q := 20) rfl (by decide) lk_X12_43 dX12_addRule_56 (fun t3a => ?_)
    refine lv_iconst (v := 0) hx hb dX12_addRule_59 (by decide) ?_
    refine lv_bipush (v := 96) hx hb dX12_addRule_60 (by decide) ?_
    obtain ⟨z4, σ4, hc4, h⟩ := bd_some h
    refine js_backV hT (js_runS C hT mfX12_copy lk_X12_169 (kX12_copy t2a t3a hc4) ⟨Nat.le_of_ble_eq_true rfl, Nat.le_of_ble_eq_true rfl⟩ rfl hl.1 rfl (Nat.le_of_ble_eq_true rfl) ⟨Nat.zero_le _, Nat.zero_le _⟩ dX12_addRule_62) (fun H locs hT => ?_)
    refine lv_aload_n hx hb dX12_addRule_65 rfl (lv_at hl 1 rfl) ?_
    refine js_gR C hT cfX12 t0 13 (by decide) (q := 20) rfl (by decide) lk_X12_40 dX12_addRule_66 (fun t5a => ?_)
    refine lv_iconst (v := 0) hx hb dX12_addRule_69 (by decide) ?_
    refine lv_iconst (v := 0) hx hb dX12_addRule_70 (by decide) ?_
    obtain ⟨g6, h⟩ := gd_some _ h
    obtain ⟨σ6, e6, h⟩ := lt_some h
    refine js_iast C hT t5a g6 dX12_addRule_71 (fun H locs hT => ?_)
    rw [e6] at hT
    refine lv_aload_n hx hb dX12_addRule_72 rfl (lv_at hl 1 rfl) ?_
    obtain ⟨r7, σ7, hc7, h⟩ := bd_some h
    refine js_backI hT (js_runV C hT cfX12 t0 rfl mfX12_parsesTerm lk_X12_161 (kX12_parsesTerm t0 hc7) ⟨Nat.le_of_ble_eq_true rfl, Nat.le_of_ble_eq_true rfl⟩ rfl hl.1 rfl (Nat.le_of_ble_eq_true rfl) ⟨Nat.zero_le _, Nat.zero_le _⟩ dX12_addRule_73) (fun H locs hT => ?_)
    refine lv_if_eq (tgt := 94) hx hb dX12_addRule_76 (by decide) (fun c8 => ?_) (fun c8 => ?_)
    · rw [if_pos c8] at h
      exact wX12_addRule_94 C hr hk _ _ _ _ h t0 H locs hT ls (lv_sub hl [1] rfl)
    · rw [if_neg c8] at h
      refine lv_aload_n hx hb dX12_addRule_79 rfl (lv_at hl 1 rfl) ?_
      refine js_gI C hT cfX12 t0 16 (by decide) rfl lk_X12_148 dX12_addRule_80 ?_
      refine lv_aload_n hx hb dX12_addRule_83 rfl (lv_at hl 1 rfl) ?_
      refine js_gI C hT cfX12 t0 15 (by decide) rfl lk_X12_151 dX12_addRule_84 ?_
      refine lv_icmp_ne (tgt := 94) hx hb dX12_addRule_87 (by decide) (fun c9 => ?_) (fun c9 => ?_)
      · rw [if_neg c9] at h
        exact wX12_addRule_94 C hr hk _ _ _ _ h t0 H locs hT ls (lv_sub hl [1] rfl)
      · rw [if_pos c9] at h
        refine lv_iconst (v := 1) hx hb dX12_addRule_90 (by decide) ?_
        refine lv_goto (tgt := 95) hx hb dX12_addRule_91 (by decide) ?_
        exact wX12_addRule_95 C hr hk _ _ _ _ _ h t0 H locs hT ls (lv_sub hl [1] rfl)
set_option maxHeartbeats 4000000 in
set_option maxRecDepth 20000 in
theorem wX12_addRule_44 (C : js_C D g p m c cX12_addRule 2 s args RX12) (hr : meth.sig.returnType = (some .int)) (hk : meth.locks = false) : ∀ (x0 : Nat) (σ : js_S) (r0 : Int32) (σ0 : js_S), fX12_addRule_44 fu x0 σ = some (r0, σ0) → ob_ nn 12 x0 → js_at p l e 63 s m args below meth c D B g nn 44 2 [(0, .ref (B + x0))] [] σ (js_QI D B g nn r0 σ0) := by
  obtain ⟨hx, hb, hml, hown, ht, hK, hNw⟩ := id C
  intro x0 σ r0 σ0 h t0 H locs hT ls hl
  unfold fX12_addRule_44 at h
  refine lv_iconst (v := 0) hx hb dX12_addRule_44 (by decide) ?_
  exact wX12_addRule_45 C hr hk _ _ _ _ _ h t0 H locs hT ls (lv_sub hl [0] rfl)
set_option maxHeartbeats 4000000 in
set_option maxRecDepth 20000 in
theorem kX12_addRule {x0 : Nat} {σ σ0 : js_S} {r0 : Int32} (t0 : ob_ nn 12 x0) (h : fX12_addRule fu x0 σ = some (r0, σ0)) : js_M l D B g nn yX12_addRule cX12_addRule 2 (some .int) 63 [.ref (B + x0)] σ (js_QI D B g nn r0 σ0) := by
  refine js_enter (by decide) (Nat.le_of_ble_eq_true rfl) ?_
  intro p e s m args below meth c C hr hk ls hl hT
  have hl : lv_has ls 2 [(0, .ref (B + x0))] := hl
  obtain ⟨hx, hb, hml, hown, ht, hK, hNw⟩ := id C
  obtain ⟨H, eH⟩ : ∃ H, H = s.heap := ⟨_, rfl⟩
  obtain ⟨locs, eL⟩ : ∃ z : List Loc, z = [] := ⟨_, rfl⟩
  rw [← eH, ← eL]
  rw [← eH, ← eL] at hT
  clear eH eL
  unfold fX12_addRule at h
  refine lv_aload_n hx hb dX12_addRule_0 rfl (lv_at hl 0 rfl) ?_
  refine js_gI C hT cfX12 t0 6 (by decide) rfl lk_X12_121 dX12_addRule_1 ?_
  refine lv_bipush (v := 6) hx hb dX12_addRule_4 (by decide) ?_
  refine lv_icmp_ne (tgt := 12) hx hb dX12_addRule_6 (by decide) (fun c1 => ?_) (fun c1 => ?_)
  · rw [if_neg c1] at h
    refine lv_aload_n hx hb dX12_addRule_12 rfl (lv_at hl 0 rfl) ?_
    refine lv_iconst (v := 0) hx hb dX12_addRule_13 (by decide) ?_
    obtain ⟨σ2, e2, h⟩ := lt_some h
    refine js_pI C hT cfX12 t0 16 (by decide) rfl rfl rfl rfl lk_X12_148 dX12_addRule_14 (fun H locs hT => ?_)
    rw [e2] at hT
    refine lv_aload_n hx hb dX12_addRule_17 rfl (lv_at hl 0 rfl) ?_
    refine js_gR C hT cfX12 t0 13 (by decide) (q := 20) rfl (by decide) lk_X12_40 dX12_addRule_18 (fun t3a => ?_)
    refine lv_iconst (v := 0) hx hb dX12_addRule_21 (by decide) ?_
    refine lv_iconst (v := 0) hx hb dX12_addRule_22 (by decide) ?_
    obtain ⟨g4, h⟩ := gd_some _ h
    obtain ⟨σ4, e4, h⟩ := lt_some h
    refine js_iast C hT t3a g4 dX12_addRule_23 (fun H locs hT => ?_)
    rw [e4] at hT
    refine lv_aload_n hx hb dX12_addRule_24 rfl (lv_at hl 0 rfl) ?_
    obtain ⟨r5, σ5, hc5, h⟩ := bd_some h
    refine js_backI hT (js_runV C hT cfX12 t0 rfl mfX12_parsesTerm lk_X12_161 (kX12_parsesTerm t0 hc5) ⟨Nat.le_of_ble_eq_true rfl, Nat.le_of_ble_eq_true rfl⟩ rfl hl.1 rfl (Nat.le_of_ble_eq_true rfl) ⟨Nat.zero_le _, Nat.zero_le _⟩ dX12_addRule_25) (fun H locs hT => ?_)
    refine lv_if_eq (tgt := 44) hx hb dX12_addRule_28 (by decide) (fun c6 => ?_) (fun c6 => ?_)
    · rw [if_pos c6] at h
      exact wX12_addRule_44 C hr hk _ _ _ _ h t0 H locs hT ls (lv_sub hl [0] rfl)
    · rw [if_neg c6] at h
      refine lv_aload_n hx hb dX12_addRule_31 rfl (lv_at hl 0 rfl) ?_
      refine lv_bipush (v := 62) hx hb dX12_addRule_32 (by decide) ?_
      obtain ⟨r7, σ7, hc7, h⟩ := bd_some h
      refine js_backI hT (js_runV C hT cfX12 t0 rfl mfX12_accepts lk_X12_158 (kX12_accepts t0 hc7) ⟨Nat.le_of_ble_eq_true rfl, Nat.le_of_ble_eq_true rfl⟩ rfl hl.1 rfl (Nat.le_of_ble_eq_true rfl) ⟨Nat.zero_le _, Nat.zero_le _⟩ dX12_addRule_34) (fun H locs hT => ?_)
      refine lv_if_eq (tgt := 44) hx hb dX12_addRule_37 (by decide) (fun c8 => ?_) (fun c8 => ?_)
      · rw [if_pos c8] at h
        exact wX12_addRule_44 C hr hk _ _ _ _ h t0 H locs hT ls (lv_sub hl [0] rfl)
      · rw [if_neg c8] at h
        refine lv_iconst (v := 1) hx hb dX12_addRule_40 (by decide) ?_
        refine lv_goto (tgt := 45) hx hb dX12_addRule_41 (by decide) ?_
        exact wX12_addRule_45 C hr hk _ _ _ _ _ h t0 H locs hT ls (lv_sub hl [0] rfl)
  · rw [if_pos c1] at h
    refine lv_bipush (v := (-4)) hx hb dX12_addRule_9 (by decide) ?_
    obtain ⟨rfl, rfl⟩ := js_rt h
    exact js_iret C hT hr hk dX12_addRule_11
set_option maxHeartbeats 4000000 in
set_option maxRecDepth 20000 in
theorem kX12_appendCharacter {x0 : Nat} {x1 : Int32} {σ σ0 : js_S} {r0 : Int32} (t0 : ob_ nn 12 x0) (h : fX12_appendCharacter fu x0 x1 σ = some (r0, σ0)) : js_M l D B g nn yX12_appendCharacter cX12_appendCharacter 2 (some .int) 1 [.ref (B + x0), .int x1] σ (js_QI D B g nn r0 σ0) := by
  refine js_enter (by decide) (Nat.le_of_ble_eq_true rfl) ?_
  intro p e s m args below meth c C hr hk ls hl hT
  have hl : lv_has ls 2 [(0, .ref (B + x0)), (1, .int x1)] := hl
  obtain ⟨hx, hb, hml, hown, ht, hK, hNw⟩ := id C
  obtain ⟨H, eH⟩ : ∃ H, H = s.heap := ⟨_, rfl⟩
  obtain ⟨locs, eL⟩ : ∃ z : List Loc, z = [] := ⟨_, rfl⟩
  rw [← eH, ← eL]
  rw [← eH, ← eL] at hT
  clear eH eL
  unfold fX12_appendCharacter at h
  refine lv_iload_n hx hb dX12_appendCharacter_0 rfl (lv_at hl 1 rfl) ?_
  refine lv_bipush (v := 32) hx hb dX12_appendCharacter_1 (by decide) ?_
  refine lv_bipush (v := 126) hx hb dX12_appendCharacter_3 (by decide) ?_
  obtain ⟨r1, σ1, hc1, h⟩ := bd_some h
  refine js_backI hT (js_runS C hT mfX12_isIn lk_X12_105 (kX12_isIn  hc1) ⟨Nat.le_of_ble_eq_true rfl, Nat.le_of_ble_eq_true rfl⟩ rfl hl.1 rfl (Nat.le_of_ble_eq_true rfl) ⟨Nat.zero_le _, Nat.zero_le _⟩ dX12_appendCharacter_5) (fun H locs hT => ?_)
  refine lv_if_ne (tgt := 14) hx hb dX12_appendCharacter_8 (by decide) (fun c2 => ?_) (fun c2 => ?_)
  · rw [if_neg c2] at h
    refine lv_aload_n hx hb dX12_appendCharacter_14 rfl (lv_at hl 0 rfl) ?_
    refine js_gI C hT cfX12 t0 15 (by decide) rfl lk_X12_151 dX12_appendCharacter_15 ?_
    refine lv_bipush (v := 80) hx hb dX12_appendCharacter_18 (by decide) ?_
    refine lv_icmp_ne (tgt := 26) hx hb dX12_appendCharacter_20 (by decide) (fun c3 => ?_) (fun c3 => ?_)
    · rw [if_neg c3] at h
      refine lv_aload_n hx hb dX12_appendCharacter_26 rfl (lv_at hl 0 rfl) ?_
      refine js_gR C hT cfX12 t0 12 (by decide) (q := 20) rfl (by decide) lk_X12_37 dX12_appendCharacter_27 (fun t4a => ?_)
      refine lv_aload_n hx hb dX12_appendCharacter_30 rfl (lv_at hl 0 rfl) ?_
      refine js_gI C hT cfX12 t0 15 (by decide) rfl lk_X12_151 dX12_appendCharacter_31 ?_
      refine lv_iload_n hx hb dX12_appendCharacter_34 rfl (lv_at hl 1 rfl) ?_
      obtain ⟨g5, h⟩ := gd_some _ h
      obtain ⟨σ5, e5, h⟩ := lt_some h
      refine js_iast C hT t4a g5 dX12_appendCharacter_35 (fun H locs hT => ?_)
      rw [e5] at hT
      refine lv_aload_n hx hb dX12_appendCharacter_36 rfl (lv_at hl 0 rfl) ?_
      refine lv_dup hx hb dX12_appendCharacter_37 rfl ?_
      refine js_gI C hT cfX12 t0 15 (by decide) rfl lk_X12_151 dX12_appendCharacter_38 ?_
      refine lv_iconst (v := 1) hx hb dX12_appendCharacter_41 (by decide) ?_
      refine lv_iadd hx hb dX12_appendCharacter_42 ?_
      obtain ⟨σ6, e6, h⟩ := lt_some h
      refine js_pI C hT cfX12 t0 15 (by decide) rfl rfl rfl rfl lk_X12_151 dX12_appendCharacter_43 (fun H locs hT => ?_)
      rw [e6] at hT
      refine lv_aload_n hx hb dX12_appendCharacter_46 rfl (lv_at hl 0 rfl) ?_
      refine js_gI C hT cfX12 t0 15 (by decide) rfl lk_X12_151 dX12_appendCharacter_47 ?_
      obtain ⟨rfl, rfl⟩ := js_rt h
      exact js_iret C hT hr hk dX12_appendCharacter_50
    · rw [if_pos c3] at h
      refine lv_bipush (v := (-4)) hx hb dX12_appendCharacter_23 (by decide) ?_
      obtain ⟨rfl, rfl⟩ := js_rt h
      exact js_iret C hT hr hk dX12_appendCharacter_25
  · rw [if_pos c2] at h
    refine lv_bipush (v := (-2)) hx hb dX12_appendCharacter_11 (by decide) ?_
    obtain ⟨rfl, rfl⟩ := js_rt h
    exact js_iret C hT hr hk dX12_appendCharacter_13
set_option maxHeartbeats 4000000 in
set_option maxRecDepth 20000 in
theorem wX12_end_5b (C : js_C D g p m c cX12_end 5 s args RX12) (hr : meth.sig.returnType = (some .int)) (hk : meth.locks = false) (rc5 : Nat → Nat → Int32 → Int32 → js_S → Option (Int32 × js_S)) (hrc5 : ∀ (x0 : Nat) (x1 : Nat) (x3 : Int32) (x4 : Int32) (σ : js_S) (r0 : Int32) (σ0 : js_S), rc5 x0 x1 x3 x4 σ = some (r0, σ0) → ob_ nn 12 x0 → ob_ nn 20 x1 → js_at p l e 3 s m args below meth c D B g nn 5 5 [(0, .ref (B + x0)), (1, .ref (B + x1)), (3, .int x3), (4, .int x4)] [] σ (js_QI D B g nn r0 σ0)) : ∀ (x0 : Nat) (x1 : Nat) (x3 : Int32) (x4 : Int32) (σ : js_S) (r0 : Int32) (σ0 : js_S), fX12_end_5b fu rc5 x0 x1 x3 x4 σ = some (r0, σ0) → ob_ nn 12 x0 → ob_ nn 20 x1 → js_at p l e 3 s m args below meth c D B g nn 5 5 [(0, .ref (B + x0)), (1, .ref (B + x1)), (3, .int x3), (4, .int x4)] [] σ (js_QI D B g nn r0 σ0) := by
  obtain ⟨hx, hb, hml, hown, ht, hK, hNw⟩ := id C
  intro x0 x1 x3 x4 σ r0 σ0 h t0 t1 H locs hT ls hl
  unfold fX12_end_5b at h
  refine lv_iload_n hx hb dX12_end_5 rfl (lv_at hl 2 rfl) ?_
  refine lv_if_le (tgt := 28) hx hb dX12_end_6 (by decide) (fun c1 => ?_) (fun c1 => ?_)
  · rw [if_pos c1] at h
    refine lv_iload hx hb dX12_end_28 (lv_at hl 3 rfl) ?_
    obtain ⟨rfl, rfl⟩ := js_rt h
    exact js_iret C hT hr hk dX12_end_30
  · rw [if_neg c1] at h
    refine lv_iload_n hx hb dX12_end_9 rfl (lv_at hl 2 rfl) ?_
    refine lv_aload_n hx hb dX12_end_10 rfl (lv_at hl 0 rfl) ?_
    refine lv_aload_n hx hb dX12_end_11 rfl (lv_at hl 1 rfl) ?_
    refine lv_iload hx hb dX12_end_12 (lv_at hl 3 rfl) ?_
    obtain ⟨g2, h⟩ := gd_some _ h
    refine js_iald C hT t1 g2 dX12_end_14 ?_
    obtain ⟨r3, σ3, hc3, h⟩ := bd_some h
    refine js_backI hT (js_runV C hT cfX12 t0 rfl mfX12_arityOf lk_X12_113 (kX12_arityOf t0 hc3) ⟨Nat.le_of_ble_eq_true rfl, Nat.le_of_ble_eq_true rfl⟩ rfl hl.1 rfl (Nat.le_of_ble_eq_true rfl) ⟨Nat.zero_le _, Nat.zero_le _⟩ dX12_end_15) (fun H locs hT => ?_)
    refine lv_iconst (v := 1) hx hb dX12_end_18 (by decide) ?_
    refine lv_isub hx hb dX12_end_19 ?_
    refine lv_iadd hx hb dX12_end_20 ?_
    refine lv_istore_n (lv' := [(3, .int (x3 + (r3 - 1))), (0, .ref (B + x0)), (1, .ref (B + x1)), (4, .int x4)]) hx hb dX12_end_21 rfl hl (by decide) rfl (fun ls hl => ?_)
    refine lv_iinc (v := x4 + 1) (lv' := [(4, .int (x4 + 1)), (3, .int (x3 + (r3 - 1))), (0, .ref (B + x0)), (1, .ref (B + x1))]) hx hb dX12_end_22 hl (k := 3) rfl rfl (by decide) rfl (fun ls hl => ?_)
    refine lv_goto (tgt := 5) hx hb dX12_end_25 (by decide) ?_
    exact hrc5 _ _ _ _ _ _ _ h t0 t1 H locs hT ls (lv_sub hl [2, 3, 1, 0] rfl)
set_option maxHeartbeats 4000000 in
set_option maxRecDepth 20000 in
theorem wX12_end_5 (C : js_C D g p m c cX12_end 5 s args RX12) (hr : meth.sig.returnType = (some .int)) (hk : meth.locks = false) : ∀ (k : Nat), ∀ (x0 : Nat) (x1 : Nat) (x3 : Int32) (x4 : Int32) (σ : js_S) (r0 : Int32) (σ0 : js_S), fX12_end_5 fu k x0 x1 x3 x4 σ = some (r0, σ0) → ob_ nn 12 x0 → ob_ nn 20 x1 → js_at p l e 3 s m args below meth c D B g nn 5 5 [(0, .ref (B + x0)), (1, .ref (B + x1)), (3, .int x3), (4, .int x4)] [] σ (js_QI D B g nn r0 σ0) := by
  intro k
  induction k with
  | zero =>
    intro x0 x1 x3 x4 σ r0 σ0 h
    cases h
  | succ k ih =>
    intro x0 x1 x3 x4 σ r0 σ0 h
    exact wX12_end_5b C hr hk (fX12_end_5 fu k) ih x0 x1 x3 x4 σ r0 σ0 h
set_option maxHeartbeats 4000000 in
set_option maxRecDepth 20000 in
theorem kX12_end {x0 : Nat} {x1 : Nat} {x2 : Int32} {σ σ0 : js_S} {r0 : Int32} (t0 : ob_ nn 12 x0) (t1 : ob_ nn 20 x1) (h : fX12_end fu x0 x1 x2 σ = some (r0, σ0)) : js_M l D B g nn yX12_end cX12_end 5 (some .int) 3 [.ref (B + x0), .ref (B + x1), .int x2] σ (js_QI D B g nn r0 σ0) := by
  refine js_enter (by decide) (Nat.le_of_ble_eq_true rfl) ?_
  intro p e s m args below meth c C hr hk ls hl hT
  have hl : lv_has ls 5 [(0, .ref (B + x0)), (1, .ref (B + x1)), (2, .int x2)] := hl
  obtain ⟨hx, hb, hml, hown, ht, hK, hNw⟩ := id C
  obtain ⟨H, eH⟩ : ∃ H, H = s.heap := ⟨_, rfl⟩
  obtain ⟨locs, eL⟩ : ∃ z : List Loc, z = [] := ⟨_, rfl⟩
  rw [← eH, ← eL]
  rw [← eH, ← eL] at hT
  clear eH eL
  unfold fX12_end at h
  refine lv_iconst (v := 1) hx hb dX12_end_0 (by decide) ?_
  refine lv_istore_n (lv' := [(3, .int 1), (0, .ref (B + x0)), (1, .ref (B + x1)), (2, .int x2)]) hx hb dX12_end_1 rfl hl (by decide) rfl (fun ls hl => ?_)
  refine lv_iload_n hx hb dX12_end_2 rfl (lv_at hl 3 rfl) ?_
  refine lv_istore (lv' := [(4, .int x2), (3, .int 1), (0, .ref (B + x0)), (1, .ref (B + x1)), (2, .int x2)]) hx hb dX12_end_3 hl (by decide) rfl (fun ls hl => ?_)
  exact wX12_end_5 C hr hk _ _ _ _ _ _ _ _ h t0 t1 H locs hT ls (lv_sub hl [2, 3, 1, 0] rfl)
set_option maxHeartbeats 4000000 in
set_option maxRecDepth 20000 in
theorem wX12_argument_8b (C : js_C D g p m c cX12_argument 6 s args RX12) (hr : meth.sig.returnType = (some .int)) (hk : meth.locks = false) (rc8 : Nat → Nat → Int32 → Int32 → Int32 → js_S → Option (Int32 × js_S)) (hrc8 : ∀ (x0 : Nat) (x1 : Nat) (x3 : Int32) (x4 : Int32) (x5 : Int32) (σ : js_S) (r0 : Int32) (σ0 : js_S), rc8 x0 x1 x3 x4 x5 σ = some (r0, σ0) → ob_ nn 12 x0 → ob_ nn 20 x1 → js_at p l e 4 s m args below meth c D B g nn 8 6 [(0, .ref (B + x0)), (1, .ref (B + x1)), (3, .int x3), (4, .int x4), (5, .int x5)] [] σ (js_QI D B g nn r0 σ0)) : ∀ (x0 : Nat) (x1 : Nat) (x3 : Int32) (x4 : Int32) (x5 : Int32) (σ : js_S) (r0 : Int32) (σ0 : js_S), fX12_argument_8b fu rc8 x0 x1 x3 x4 x5 σ = some (r0, σ0) → ob_ nn 12 x0 → ob_ nn 20 x1 → js_at p l e 4 s m args below meth c D B g nn 8 6 [(0, .ref (B + x0)), (1, .ref (B + x1)), (3, .int x3), (4, .int x4), (5, .int x5)] [] σ (js_QI D B g nn r0 σ0) := by
  obtain ⟨hx, hb, hml, hown, ht, hK, hNw⟩ := id C
  intro x0 x1 x3 x4 x5 σ r0 σ0 h t0 t1 H locs hT ls hl
  unfold fX12_argument_8b at h
  refine lv_iload hx hb dX12_argument_8 (lv_at hl 4 rfl) ?_
  refine lv_iload_n hx hb dX12_argument_10 rfl (lv_at hl 2 rfl) ?_
  refine lv_icmp_ge (tgt := 29) hx hb dX12_argument_11 (by decide) (fun c1 => ?_) (fun c1 => ?_)
  · rw [if_pos c1] at h
    refine lv_iload hx hb dX12_argument_29 (lv_at hl 3 rfl) ?_
    obtain ⟨rfl, rfl⟩ := js_rt h
    exact js_iret C hT hr hk dX12_argument_31
  · rw [if_neg c1] at h
    refine lv_aload_n hx hb dX12_argument_14 rfl (lv_at hl 0 rfl) ?_
    refine lv_aload_n hx hb dX12_argument_15 rfl (lv_at hl 1 rfl) ?_
    refine lv_iload hx hb dX12_argument_16 (lv_at hl 3 rfl) ?_
    obtain ⟨r2, σ2, hc2, h⟩ := bd_some h
    refine js_backI hT (js_runV C hT cfX12 t0 rfl mfX12_end lk_X12_117 (kX12_end t0 t1 hc2) ⟨Nat.le_of_ble_eq_true rfl, Nat.le_of_ble_eq_true rfl⟩ rfl hl.1 rfl (Nat.le_of_ble_eq_true rfl) ⟨Nat.zero_le _, Nat.zero_le _⟩ dX12_argument_18) (fun H locs hT => ?_)
    refine lv_istore (lv' := [(4, .int r2), (0, .ref (B + x0)), (1, .ref (B + x1)), (3, .int x3), (5, .int x5)]) hx hb dX12_argument_21 hl (by decide) rfl (fun ls hl => ?_)
    refine lv_iinc (v := x5 + 1) (lv' := [(5, .int (x5 + 1)), (4, .int r2), (0, .ref (B + x0)), (1, .ref (B + x1)), (3, .int x3)]) hx hb dX12_argument_23 hl (k := 4) rfl rfl (by decide) rfl (fun ls hl => ?_)
    refine lv_goto (tgt := 8) hx hb dX12_argument_26 (by decide) ?_
    exact hrc8 _ _ _ _ _ _ _ _ h t0 t1 H locs hT ls (lv_sub hl [2, 3, 4, 1, 0] rfl)
set_option maxHeartbeats 4000000 in
set_option maxRecDepth 20000 in
theorem wX12_argument_8 (C : js_C D g p m c cX12_argument 6 s args RX12) (hr : meth.sig.returnType = (some .int)) (hk : meth.locks = false) : ∀ (k : Nat), ∀ (x0 : Nat) (x1 : Nat) (x3 : Int32) (x4 : Int32) (x5 : Int32) (σ : js_S) (r0 : Int32) (σ0 : js_S), fX12_argument_8 fu k x0 x1 x3 x4 x5 σ = some (r0, σ0) → ob_ nn 12 x0 → ob_ nn 20 x1 → js_at p l e 4 s m args below meth c D B g nn 8 6 [(0, .ref (B + x0)), (1, .ref (B + x1)), (3, .int x3), (4, .int x4), (5, .int x5)] [] σ (js_QI D B g nn r0 σ0) := by
  intro k
  induction k with
  | zero =>
    intro x0 x1 x3 x4 x5 σ r0 σ0 h
    cases h
  | succ k ih =>
    intro x0 x1 x3 x4 x5 σ r0 σ0 h
    exact wX12_argument_8b C hr hk (fX12_argument_8 fu k) ih x0 x1 x3 x4 x5 σ r0 σ0 h
set_option maxHeartbeats 4000000 in
set_option maxRecDepth 20000 in
theorem kX12_argument {x0 : Nat} {x1 : Nat} {x2 : Int32} {x3 : Int32} {σ σ0 : js_S} {r0 : Int32} (t0 : ob_ nn 12 x0) (t1 : ob_ nn 20 x1) (h : fX12_argument fu x0 x1 x2 x3 σ = some (r0, σ0)) : js_M l D B g nn yX12_argument cX12_argument 6 (some .int) 4 [.ref (B + x0), .ref (B + x1), .int x2, .int x3] σ (js_QI D B g nn r0 σ0) := by
  refine js_enter (by decide) (Nat.le_of_ble_eq_true rfl) ?_
  intro p e s m args below meth c C hr hk ls hl hT
  have hl : lv_has ls 6 [(0, .ref (B + x0)), (1, .ref (B + x1)), (2, .int x2), (3, .int x3)] := hl
  obtain ⟨hx, hb, hml, hown, ht, hK, hNw⟩ := id C
  obtain ⟨H, eH⟩ : ∃ H, H = s.heap := ⟨_, rfl⟩
  obtain ⟨locs, eL⟩ : ∃ z : List Loc, z = [] := ⟨_, rfl⟩
  rw [← eH, ← eL]
  rw [← eH, ← eL] at hT
  clear eH eL
  unfold fX12_argument at h
  refine lv_iload_n hx hb dX12_argument_0 rfl (lv_at hl 2 rfl) ?_
  refine lv_iconst (v := 1) hx hb dX12_argument_1 (by decide) ?_
  refine lv_iadd hx hb dX12_argument_2 ?_
  refine lv_istore (lv' := [(4, .int (x2 + 1)), (0, .ref (B + x0)), (1, .ref (B + x1)), (2, .int x2), (3, .int x3)]) hx hb dX12_argument_3 hl (by decide) rfl (fun ls hl => ?_)
  refine lv_iconst (v := 0) hx hb dX12_argument_5 (by decide) ?_
  refine lv_istore (lv' := [(5, .int 0), (4, .int (x2 + 1)), (0, .ref (B + x0)), (1, .ref (B + x1)), (2, .int x2), (3, .int x3)]) hx hb dX12_argument_6 hl (by decide) rfl (fun ls hl => ?_)
  exact wX12_argument_8 C hr hk _ _ _ _ _ _ _ _ _ h t0 t1 H locs hT ls (lv_sub hl [2, 3, 5, 1, 0] rfl)
set_option maxHeartbeats 4000000 in
set_option maxRecDepth 20000 in
theorem kX12_isCompatible_e (rp : Nat → Int32 → Int32 → js_S → Option (Int32 × js_S)) {qq : Nat} (hq : 4 ≤ qq) (hrp : ∀ (a0 : Nat) (a1 : Int32) (a2 : Int32) (σ : js_S) (r0 : Int32) (σ0 : js_S), ob_ nn 12 a0 → rp a0 a1 a2 σ = some (r0, σ0) → js_M l D B g nn yX12_areArgumentsCompatible cX12_areArgumentsCompatible 5 (some .boolean) qq [.ref (B + a0), .int a1, .int a2] σ (js_QI D B g nn r0 σ0)) {x0 : Nat} {x1 : Int32} {x2 : Int32} {σ σ0 : js_S} {r0 : Int32} (t0 : ob_ nn 12 x0) (h : fX12_isCompatible_e fu rp x0 x1 x2 σ = some (r0, σ0)) : js_M l D B g nn yX12_isCompatible cX12_isCompatible 5 (some .boolean) (qq + 1) [.ref (B + x0), .int x1, .int x2] σ (js_QI D B g nn r0 σ0) := by
  refine js_enter (by decide) (Nat.le_of_ble_eq_true rfl) ?_
  intro p e s m args below meth c C hr hk ls hl hT
  have hl : lv_has ls 5 [(0, .ref (B + x0)), (1, .int x1), (2, .int x2)] := hl
  obtain ⟨hx, hb, hml, hown, ht, hK, hNw⟩ := id C
  obtain ⟨H, eH⟩ : ∃ H, H = s.heap := ⟨_, rfl⟩
  obtain ⟨locs, eL⟩ : ∃ z : List Loc, z = [] := ⟨_, rfl⟩
  rw [← eH, ← eL]
  rw [← eH, ← eL] at hT
  clear eH eL
  unfold fX12_isCompatible_e at h
  refine lv_aload_n hx hb dX12_isCompatible_0 rfl (lv_at hl 0 rfl) ?_
  refine js_gR C hT cfX12 t0 2 (by decide) (q := 20) rfl (by decide) lk_X12_16 dX12_isCompatible_1 (fun t1a => ?_)
  refine lv_iload_n hx hb dX12_isCompatible_4 rfl (lv_at hl 1 rfl) ?_
  obtain ⟨g2, h⟩ := gd_some _ h
  refine js_iald C hT t1a g2 dX12_isCompatible_5 ?_
  refine lv_istore_n (lv' := [(3, .int (σ.1 (σ.2.2 x0 2) (Int32.toNatClampNeg x1))), (0, .ref (B + x0)), (1, .int x1), (2, .int x2)]) hx hb dX12_isCompatible_6 rfl hl (by decide) rfl (fun ls hl => ?_)
  refine lv_aload_n hx hb dX12_isCompatible_7 rfl (lv_at hl 1 rfl) ?_
  refine js_gR C hT cfX12 t0 2 (by decide) (q := 20) rfl (by decide) lk_X12_16 dX12_isCompatible_8 (fun t3a => ?_)
  refine lv_iload_n hx hb dX12_isCompatible_11 rfl (lv_at hl 3 rfl) ?_
  obtain ⟨g4, h⟩ := gd_some _ h
  refine js_iald C hT t3a g4 dX12_isCompatible_12 ?_
  refine lv_istore (lv' := [(4, .int (σ.1 (σ.2.2 x0 2) (Int32.toNatClampNeg x2))), (3, .int (σ.1 (σ.2.2 x0 2) (Int32.toNatClampNeg x1))), (0, .ref (B + x0)), (1, .int x1), (2, .int x2)]) hx hb dX12_isCompatible_13 hl (by decide) rfl (fun ls hl => ?_)
  refine lv_iload_n hx hb dX12_isCompatible_15 rfl (lv_at hl 1 rfl) ?_
  obtain ⟨r5, σ5, hc5, h⟩ := bd_some h
  refine js_backI hT (js_runS C hT mfX12_isVariable lk_X12_128 (kX12_isVariable  hc5) ⟨by simp only [js_rm]; omega, by simp only [js_rm]; omega⟩ rfl hl.1 rfl (Nat.le_of_ble_eq_true rfl) ⟨Nat.zero_le _, Nat.zero_le _⟩ dX12_isCompatible_16) (fun H locs hT => ?_)
  refine lv_if_ne (tgt := 37) hx hb dX12_isCompatible_19 (by decide) (fun c6 => ?_) (fun c6 => ?_)
  · rw [if_neg c6] at h
    refine lv_iconst (v := 1) hx hb dX12_isCompatible_37 (by decide) ?_
    obtain ⟨rfl, rfl⟩ := js_rt h
    exact js_zret C hT hr hk rfl dX12_isCompatible_38
  · rw [if_pos c6] at h
    refine lv_iload hx hb dX12_isCompatible_22 (lv_at hl 0 rfl) ?_
    obtain ⟨r7, σ7, hc7, h⟩ := bd_some h
    refine js_backI hT (js_runS C hT mfX12_isVariable lk_X12_128 (kX12_isVariable  hc7) ⟨by simp only [js_rm]; omega, by simp only [js_rm]; omega⟩ rfl hl.1 rfl (Nat.le_of_ble_eq_true rfl) ⟨Nat.zero_le _, Nat.zero_le _⟩ dX12_isCompatible_24) (fun H locs hT => ?_)
    refine lv_if_ne (tgt := 37) hx hb dX12_isCompatible_27 (by decide) (fun c8 => ?_) (fun c8 => ?_)
    · rw [if_neg c8] at h
      refine lv_iconst (v := 1) hx hb dX12_isCompatible_37 (by decide) ?_
      obtain ⟨rfl, rfl⟩ := js_rt h
      exact js_zret C hT hr hk rfl dX12_isCompatible_38
    · rw [if_pos c8] at h
      refine lv_iload_n hx hb dX12_isCompatible_30 rfl (lv_at hl 1 rfl) ?_
      obtain ⟨r9, σ9, hc9, h⟩ := bd_some h
      refine js_backI hT (js_runS C hT mfX12_isFunction lk_X12_109 (kX12_isFunction  hc9) ⟨by simp only [js_rm]; omega, by simp only [js_rm]; omega⟩ rfl hl.1 rfl (Nat.le_of_ble_eq_true rfl) ⟨Nat.zero_le _, Nat.zero_le _⟩ dX12_isCompatible_31) (fun H locs hT => ?_)
      refine lv_if_eq (tgt := 39) hx hb dX12_isCompatible_34 (by decide) (fun c10 => ?_) (fun c10 => ?_)
      · rw [if_pos c10] at h
        refine lv_iload_n hx hb dX12_isCompatible_39 rfl (lv_at hl 1 rfl) ?_
        refine lv_iload hx hb dX12_isCompatible_40 (lv_at hl 0 rfl) ?_
        refine lv_icmp_ne (tgt := 58) hx hb dX12_isCompatible_42 (by decide) (fun c11 => ?_) (fun c11 => ?_)
        · rw [if_neg c11] at h
          refine lv_iconst (v := 0) hx hb dX12_isCompatible_58 (by decide) ?_
          obtain ⟨rfl, rfl⟩ := js_rt h
          exact js_zret C hT hr hk rfl dX12_isCompatible_59
        · rw [if_pos c11] at h
          refine lv_aload_n hx hb dX12_isCompatible_45 rfl (lv_at hl 2 rfl) ?_
          refine lv_iload_n hx hb dX12_isCompatible_46 rfl (lv_at hl 3 rfl) ?_
          refine lv_iload_n hx hb dX12_isCompatible_47 rfl (lv_at hl 4 rfl) ?_
          obtain ⟨r12, σ12, hc12, h⟩ := bd_some h
          refine js_backI hT (js_runV C hT cfX12 t0 rfl mfX12_areArgumentsCompatible lk_X12_197 (hrp _ _ _ _ _ _ t0 hc12) ⟨by simp only [js_rm]; omega, by simp only [js_rm]; omega⟩ rfl hl.1 rfl (Nat.le_of_ble_eq_true rfl) ⟨Nat.zero_le _, Nat.zero_le _⟩ dX12_isCompatible_48) (fun H locs hT => ?_)
          refine lv_if_eq (tgt := 58) hx hb dX12_isCompatible_51 (by decide) (fun c13 => ?_) (fun c13 => ?_)
          · rw [if_pos c13] at h
            refine lv_iconst (v := 0) hx hb dX12_isCompatible_58 (by decide) ?_
            obtain ⟨rfl, rfl⟩ := js_rt h
            exact js_zret C hT hr hk rfl dX12_isCompatible_59
          · rw [if_neg c13] at h
            refine lv_iconst (v := 1) hx hb dX12_isCompatible_54 (by decide) ?_
            refine lv_goto (tgt := 59) hx hb dX12_isCompatible_55 (by decide) ?_
            obtain ⟨rfl, rfl⟩ := js_rt h
            exact js_zret C hT hr hk rfl dX12_isCompatible_59
      · rw [if_neg c10] at h
        refine lv_iconst (v := 1) hx hb dX12_isCompatible_37 (by decide) ?_
        obtain ⟨rfl, rfl⟩ := js_rt h
        exact js_zret C hT hr hk rfl dX12_isCompatible_38
set_option maxHeartbeats 4000000 in
set_option maxRecDepth 20000 in
theorem wX12_areArgumentsCompatible_5b (C : js_C D g p m c cX12_areArgumentsCompatible 5 s args RX12) (hr : meth.sig.returnType = (some .boolean)) (hk : meth.locks = false) (rp : Nat → Int32 → Int32 → js_S → Option (Int32 × js_S)) {qq : Nat} (hq : 4 ≤ qq) (hrp : ∀ (a0 : Nat) (a1 : Int32) (a2 : Int32) (σ : js_S) (r0 : Int32) (σ0 : js_S), ob_ nn 12 a0 → rp a0 a1 a2 σ = some (r0, σ0) → js_M l D B g nn yX12_isCompatible cX12_isCompatible 5 (some .boolean) qq [.ref (B + a0), .int a1, .int a2] σ (js_QI D B g nn r0 σ0)) (rc5 : Nat → Int32 → Int32 → Int32 → Int32 → js_S → Option (Int32 × js_S)) (hrc5 : ∀ (x0 : Nat) (x1 : Int32) (x2 : Int32) (x3 : Int32) (x4 : Int32) (σ : js_S) (r0 : Int32) (σ0 : js_S), rc5 x0 x1 x2 x3 x4 σ = some (r0, σ0) → ob_ nn 12 x0 → js_at p l e (qq + 1) s m args below meth c D B g nn 5 5 [(0, .ref (B + x0)), (1, .int x1), (2, .int x2), (3, .int x3), (4, .int x4)] [] σ (js_QI D B g nn r0 σ0)) : ∀ (x0 : Nat) (x1 : Int32) (x2 : Int32) (x3 : Int32) (x4 : Int32) (σ : js_S) (r0 : Int32) (σ0 : js_S), fX12_areArgumentsCompatible_5b fu rp rc5 x0 x1 x2 x3 x4 σ = some (r0, σ0) → ob_ nn 12 x0 → js_at p l e (qq + 1) s m args below meth c D B g nn 5 5 [(0, .ref (B + x0)), (1, .int x1), (2, .int x2), (3, .int x3), (4, .int x4)] [] σ (js_QI D B g nn r0 σ0) := by
  obtain ⟨hx, hb, hml, hown, ht, hK, hNw⟩ := id C
  intro x0 x1 x2 x3 x4 σ r0 σ0 h t0 H locs hT ls hl
  unfold fX12_areArgumentsCompatible_5b at h
  refine lv_iload hx hb dX12_areArgumentsCompatible_5 (lv_at hl 4 rfl) ?_
  refine lv_aload_n hx hb dX12_areArgumentsCompatible_7 rfl (lv_at hl 0 rfl) ?_
  refine lv_aload_n hx hb dX12_areArgumentsCompatible_8 rfl (lv_at hl 0 rfl) ?_
  refine js_gR C hT cfX12 t0 2 (by decide) (q := 20) rfl (by decide) lk_X12_16 dX12_areArgumentsCompatible_9 (fun t1a => ?_)
  refine lv_iload_n hx hb dX12_areArgumentsCompatible_12 rfl (lv_at hl 1 rfl) ?_
  obtain ⟨g2, h⟩ := gd_some _ h
  refine js_iald C hT t1a g2 dX12_areArgumentsCompatible_13 ?_
  obtain ⟨r3, σ3, hc3, h⟩ := bd_some h
  refine js_backI hT (js_runV C hT cfX12 t0 rfl mfX12_arityOf lk_X12_113 (kX12_arityOf t0 hc3) ⟨by simp only [js_rm]; omega, by simp only [js_rm]; omega⟩ rfl hl.1 rfl (Nat.le_of_ble_eq_true rfl) ⟨Nat.zero_le _, Nat.zero_le _⟩ dX12_areArgumentsCompatible_14) (fun H locs hT => ?_)
  refine lv_icmp_ge (tgt := 57) hx hb dX12_areArgumentsCompatible_17 (by decide) (fun c4 => ?_) (fun c4 => ?_)
  · rw [if_pos c4] at h
    refine lv_iload_n hx hb dX12_areArgumentsCompatible_57 rfl (lv_at hl 3 rfl) ?_
    obtain ⟨g5, h⟩ := gd_some _ h
    obtain ⟨rfl, rfl⟩ := js_rt h
    exact js_zret C hT hr hk g5 dX12_areArgumentsCompatible_58
  · rw [if_neg c4] at h
    refine lv_iload_n hx hb dX12_areArgumentsCompatible_20 rfl (lv_at hl 3 rfl) ?_
    refine lv_if_eq (tgt := 57) hx hb dX12_areArgumentsCompatible_21 (by decide) (fun c6 => ?_) (fun c6 => ?_)
    · rw [if_pos c6] at h
      refine lv_iload_n hx hb dX12_areArgumentsCompatible_57 rfl (lv_at hl 3 rfl) ?_
      obtain ⟨g7, h⟩ := gd_some _ h
      obtain ⟨rfl, rfl⟩ := js_rt h
      exact js_zret C hT hr hk g7 dX12_areArgumentsCompatible_58
    · rw [if_neg c6] at h
      refine lv_aload_n hx hb dX12_areArgumentsCompatible_24 rfl (lv_at hl 0 rfl) ?_
      refine lv_aload_n hx hb dX12_areArgumentsCompatible_25 rfl (lv_at hl 0 rfl) ?_
      refine lv_aload_n hx hb dX12_areArgumentsCompatible_26 rfl (lv_at hl 0 rfl) ?_
      refine js_gR C hT cfX12 t0 2 (by decide) (q := 20) rfl (by decide) lk_X12_16 dX12_areArgumentsCompatible_27 (fun t8a => ?_)
      refine lv_iload_n hx hb dX12_areArgumentsCompatible_30 rfl (lv_at hl 1 rfl) ?_
      refine lv_iload hx hb dX12_areArgumentsCompatible_31 (lv_at hl 4 rfl) ?_
      obtain ⟨r9, σ9, hc9, h⟩ := bd_some h
      refine js_backI hT (js_runV C hT cfX12 t0 rfl mfX12_argument lk_X12_201 (kX12_argument t0 t8a hc9) ⟨by simp only [js_rm]; omega, by simp only [js_rm]; omega⟩ rfl hl.1 rfl (Nat.le_of_ble_eq_true rfl) ⟨Nat.zero_le _, Nat.zero_le _⟩ dX12_areArgumentsCompatible_33) (fun H locs hT => ?_)
      refine lv_aload_n hx hb dX12_areArgumentsCompatible_36 rfl (lv_at hl 0 rfl) ?_
      refine lv_aload_n hx hb dX12_areArgumentsCompatible_37 rfl (lv_at hl 0 rfl) ?_
      refine js_gR C hT cfX12 t0 2 (by decide) (q := 20) rfl (by decide) lk_X12_16 dX12_areArgumentsCompatible_38 (fun t10a => ?_)
      refine lv_iload_n hx hb dX12_areArgumentsCompatible_41 rfl (lv_at hl 2 rfl) ?_
      refine lv_iload hx hb dX12_areArgumentsCompatible_42 (lv_at hl 4 rfl) ?_
      obtain ⟨r11, σ11, hc11, h⟩ := bd_some h
      refine js_backI hT (js_runV C hT cfX12 t0 rfl mfX12_argument lk_X12_201 (kX12_argument t0 t10a hc11) ⟨by simp only [js_rm]; omega, by simp only [js_rm]; omega⟩ rfl hl.1 rfl (Nat.le_of_ble_eq_true rfl) ⟨Nat.zero_le _, Nat.zero_le _⟩ dX12_areArgumentsCompatible_44) (fun H locs hT => ?_)
      obtain ⟨r12, σ12, hc12, h⟩ := bd_some h
      refine js_backI hT (js_runV C hT cfX12 t0 rfl mfX12_isCompatible lk_X12_205 (hrp _ _ _ _ _ _ t0 hc12) ⟨by simp only [js_rm]; omega, by simp only [js_rm]; omega⟩ rfl hl.1 rfl (Nat.le_of_ble_eq_true rfl) ⟨Nat.zero_le _, Nat.zero_le _⟩ dX12_areArgumentsCompatible_47) (fun H locs hT => ?_)
      refine lv_istore_n (lv' := [(3, .int r12), (0, .ref (B + x0)), (1, .int x1), (2, .int x2), (4, .int x4)]) hx hb dX12_areArgumentsCompatible_50 rfl hl (by decide) rfl (fun ls hl => ?_)
      refine lv_iinc (v := x4 + 1) (lv' := [(4, .int (x4 + 1)), (3, .int r12), (0, .ref (B + x0)), (1, .int x1), (2, .int x2)]) hx hb dX12_areArgumentsCompatible_51 hl (k := 4) rfl rfl (by decide) rfl (fun ls hl => ?_)
      refine lv_goto (tgt := 5) hx hb dX12_areArgumentsCompatible_54 (by decide) ?_
      exact hrc5 _ _ _ _ _ _ _ _ h t0 H locs hT ls (lv_sub hl [2, 3, 4, 1, 0] rfl)
set_option maxHeartbeats 4000000 in
set_option maxRecDepth 20000 in
theorem wX12_areArgumentsCompatible_5 (C : js_C D g p m c cX12_areArgumentsCompatible 5 s args RX12) (hr : meth.sig.returnType = (some .boolean)) (hk : meth.locks = false) (rp : Nat → Int32 → Int32 → js_S → Option (Int32 × js_S)) {qq : Nat} (hq : 4 ≤ qq) (hrp : ∀ (a0 : Nat) (a1 : Int32) (a2 : Int32) (σ : js_S) (r0 : Int32) (σ0 : js_S), ob_ nn 12 a0 → rp a0 a1 a2 σ = some (r0, σ0) → js_M l D B g nn yX12_isCompatible cX12_isCompatible 5 (some .boolean) qq [.ref (B + a0), .int a1, .int a2] σ (js_QI D B g nn r0 σ0)) : ∀ (k : Nat), ∀ (x0 : Nat) (x1 : Int32) (x2 : Int32) (x3 : Int32) (x4 : Int32) (σ : js_S) (r0 : Int32) (σ0 : js_S), fX12_areArgumentsCompatible_5 fu rp k x0 x1 x2 x3 x4 σ = some (r0, σ0) → ob_ nn 12 x0 → js_at p l e (qq + 1) s m args below meth c D B g nn 5 5 [(0, .ref (B + x0)), (1, .int x1), (2, .int x2), (3, .int x3), (4, .int x4)] [] σ (js_QI D B g nn r0 σ0) := by
  intro k
  induction k with
  | zero =>
    intro x0 x1 x2 x3 x4 σ r0 σ0 h
    cases h
  | succ k ih =>
    intro x0 x1 x2 x3 x4 σ r0 σ0 h
    exact wX12_areArgumentsCompatible_5b C hr hk rp hq hrp (fX12_areArgumentsCompatible_5 fu rp k) ih x0 x1 x2 x3 x4 σ r0 σ0 h
set_option maxHeartbeats 4000000 in
set_option maxRecDepth 20000 in
theorem kX12_areArgumentsCompatible_e (rp : Nat → Int32 → Int32 → js_S → Option (Int32 × js_S)) {qq : Nat} (hq : 4 ≤ qq) (hrp : ∀ (a0 : Nat) (a1 : Int32) (a2 : Int32) (σ : js_S) (r0 : Int32) (σ0 : js_S), ob_ nn 12 a0 → rp a0 a1 a2 σ = some (r0, σ0) → js_M l D B g nn yX12_isCompatible cX12_isCompatible 5 (some .boolean) qq [.ref (B + a0), .int a1, .int a2] σ (js_QI D B g nn r0 σ0)) {x0 : Nat} {x1 : Int32} {x2 : Int32} {σ σ0 : js_S} {r0 : Int32} (t0 : ob_ nn 12 x0) (h : fX12_areArgumentsCompatible_e fu rp x0 x1 x2 σ = some (r0, σ0)) : js_M l D B g nn yX12_areArgumentsCompatible cX12_areArgumentsCompatible 5 (some .boolean) (qq + 1) [.ref (B + x0), .int x1, .int x2] σ (js_QI D B g nn r0 σ0) := by
  refine js_enter (by decide) (Nat.le_of_ble_eq_true rfl) ?_
  intro p e s m args below meth c C hr hk ls hl hT
  have hl : lv_has ls 5 [(0, .ref (B + x0)), (1, .int x1), (2, .int x2)] := hl
  obtain ⟨hx, hb, hml, hown, ht, hK, hNw⟩ := id C
  obtain ⟨H, eH⟩ : ∃ H, H = s.heap := ⟨_, rfl⟩
  obtain ⟨locs, eL⟩ : ∃ z : List Loc, z = [] := ⟨_, rfl⟩
  rw [← eH, ← eL]
  rw [← eH, ← eL] at hT
  clear eH eL
  unfold fX12_areArgumentsCompatible_e at h
  refine lv_iconst (v := 1) hx hb dX12_areArgumentsCompatible_0 (by decide) ?_
  refine lv_istore_n (lv' := [(3, .int 1), (0, .ref (B + x0)), (1, .int x1), (2, .int x2)]) hx hb dX12_areArgumentsCompatible_1 rfl hl (by decide) rfl (fun ls hl => ?_)
  refine lv_iconst (v := 0) hx hb dX12_areArgumentsCompatible_2 (by decide) ?_
  refine lv_istore (lv' := [(4, .int 0), (3, .int 1), (0, .ref (B + x0)), (1, .int x1), (2, .int x2)]) hx hb dX12_areArgumentsCompatible_3 hl (by decide) rfl (fun ls hl => ?_)
  exact wX12_areArgumentsCompatible_5 C hr hk rp hq hrp _ _ _ _ _ _ _ _ _ h t0 H locs hT ls (lv_sub hl [2, 3, 4, 1, 0] rfl)
set_option maxHeartbeats 4000000 in
set_option maxRecDepth 20000 in
theorem kX12_isCompatible_d : ∀ (d x0 : Nat) (x1 x2 : Int32) (σ : js_S) (r0 : Int32) (σ0 : js_S), ob_ nn 12 x0 → fX12_isCompatible fu d x0 x1 x2 σ = some (r0, σ0) → js_M l D B g nn yX12_isCompatible cX12_isCompatible 5 (some .boolean) (4 + 2 * d) [.ref (B + x0), .int x1, .int x2] σ (js_QI D B g nn r0 σ0) := by
  intro d
  induction d with
  | zero =>
    intro x0 x1 x2 σ r0 σ0 t0 h
    cases h
  | succ d ih =>
    intro x0 x1 x2 σ r0 σ0 t0 h
    have h1 : ∀ (x0 : Nat) (x1 x2 : Int32) (σ : js_S) (r0 : Int32) (σ0 : js_S), ob_ nn 12 x0 → fX12_areArgumentsCompatible_e fu (fX12_isCompatible fu d) x0 x1 x2 σ = some (r0, σ0) → js_M l D B g nn yX12_areArgumentsCompatible cX12_areArgumentsCompatible 5 (some .boolean) (4 + 2 * d + 1) [.ref (B + x0), .int x1, .int x2] σ (js_QI D B g nn r0 σ0) := fun x0 x1 x2 σ r0 σ0 t0 h => kX12_areArgumentsCompatible_e (fX12_isCompatible fu d) (qq := 4 + 2 * d) (by omega) ih t0 h
    exact kX12_isCompatible_e (fun a0 a1 a2 σ => fX12_areArgumentsCompatible_e fu (fX12_isCompatible fu d) a0 a1 a2 σ) (qq := 4 + 2 * d + 1) (by omega) h1 t0 h
set_option maxHeartbeats 4000000 in
set_option maxRecDepth 20000 in
theorem kX12_areArgumentsCompatible {x0 : Nat} {x1 x2 : Int32} {σ σ0 : js_S} {r0 : Int32} (t0 : ob_ nn 12 x0) (h : fX12_areArgumentsCompatible fu 60 x0 x1 x2 σ = some (r0, σ0)) : js_M l D B g nn yX12_areArgumentsCompatible cX12_areArgumentsCompatible 5 (some .boolean) 125 [.ref (B + x0), .int x1, .int x2] σ (js_QI D B g nn r0 σ0) := kX12_areArgumentsCompatible_e (fX12_isCompatible fu 60) (qq := 124) (by omega) (kX12_isCompatible_d 60) t0 h
set_option maxHeartbeats 4000000 in
set_option maxRecDepth 20000 in
theorem wX12_areEqual_38 (C : js_C D g p m c cX12_areEqual 7 s args RX12) (hr : meth.sig.returnType = (some .boolean)) (hk : meth.locks = false) (rc6 : Nat → Int32 → Nat → Int32 → Int32 → Int32 → Int32 → js_S → Option (Int32 × js_S)) (hrc6 : ∀ (x0 : Nat) (x1 : Int32) (x2 : Nat) (x3 : Int32) (x4 : Int32) (x5 : Int32) (x6 : Int32) (σ : js_S) (r0 : Int32) (σ0 : js_S), rc6 x0 x1 x2 x3 x4 x5 x6 σ = some (r0, σ0) → ob_ nn 20 x0 → ob_ nn 20 x2 → js_at p l e 0 s m args below meth c D B g nn 6 7 [(0, .ref (B + x0)), (1, .int x1), (2, .ref (B + x2)), (3, .int x3), (4, .int x4), (5, .int x5), (6, .int x6)] [] σ (js_QI D B g nn r0 σ0)) : ∀ (x0 : Nat) (x1 : Int32) (x2 : Nat) (x3 : Int32) (x4 : Int32) (x6 : Int32) (y0 : Int32) (σ : js_S) (r0 : Int32) (σ0 : js_S), fX12_areEqual_38 fu rc6 x0 x1 x2 x3 x4 x6 y0 σ = some (r0, σ0) → ob_ nn 20 x0 → ob_ nn 20 x2 → js_at p l e 0 s m args below meth c D B g nn 38 7 [(0, .ref (B + x0)), (1, .int x1), (2, .ref (B + x2)), (3, .int x3), (4, .int x4), (6, .int x6)] [.int y0] σ (js_QI D B g nn r0 σ0) := by
  obtain ⟨hx, hb, hml, hown, ht, hK, hNw⟩ := id C
  intro x0 x1 x2 x3 x4 x6 y0 σ r0 σ0 h t0 t2 H locs hT ls hl
  unfold fX12_areEqual_38 at h
  refine lv_istore (lv' := [(5, .int y0), (0, .ref (B + x0)), (1, .int x1), (2, .ref (B + x2)), (3, .int x3), (4, .int x4), (6, .int x6)]) hx hb dX12_areEqual_38 hl (by decide) rfl (fun ls hl => ?_)
  refine lv_iinc (v := x6 + 1) (lv' := [(6, .int (x6 + 1)), (5, .int y0), (0, .ref (B + x0)), (1, .int x1), (2, .ref (B + x2)), (3, .int x3), (4, .int x4)]) hx hb dX12_areEqual_40 hl (k := 6) rfl rfl (by decide) rfl (fun ls hl => ?_)
  refine lv_goto (tgt := 6) hx hb dX12_areEqual_43 (by decide) ?_
  exact hrc6 _ _ _ _ _ _ _ _ _ _ h t0 t2 H locs hT ls (lv_sub hl [2, 3, 4, 5, 6, 1, 0] rfl)
set_option maxHeartbeats 4000000 in
set_option maxRecDepth 20000 in
theorem wX12_areEqual_6b (C : js_C D g p m c cX12_areEqual 7 s args RX12) (hr : meth.sig.returnType = (some .boolean)) (hk : meth.locks = false) (rc6 : Nat → Int32 → Nat → Int32 → Int32 → Int32 → Int32 → js_S → Option (Int32 × js_S)) (hrc6 : ∀ (x0 : Nat) (x1 : Int32) (x2 : Nat) (x3 : Int32) (x4 : Int32) (x5 : Int32) (x6 : Int32) (σ : js_S) (r0 : Int32) (σ0 : js_S), rc6 x0 x1 x2 x3 x4 x5 x6 σ = some (r0, σ0) → ob_ nn 20 x0 → ob_ nn 20 x2 → js_at p l e 0 s m args below meth c D B g nn 6 7 [(0, .ref (B + x0)), (1, .int x1), (2, .ref (B + x2)), (3, .int x3), (4, .int x4), (5, .int x5), (6, .int x6)] [] σ (js_QI D B g nn r0 σ0)) : ∀ (x0 : Nat) (x1 : Int32) (x2 : Nat) (x3 : Int32) (x4 : Int32) (x5 : Int32) (x6 : Int32) (σ : js_S) (r0 : Int32) (σ0 : js_S), fX12_areEqual_6b fu rc6 x0 x1 x2 x3 x4 x5 x6 σ = some (r0, σ0) → ob_ nn 20 x0 → ob_ nn 20 x2 → js_at p l e 0 s m args below meth c D B g nn 6 7 [(0, .ref (B + x0)), (1, .int x1), (2, .ref (B + x2)), (3, .int x3), (4, .int x4), (5, .int x5), (6, .int x6)] [] σ (js_QI D B g nn r0 σ0) := by
  obtain ⟨hx, hb, hml, hown, ht, hK, hNw⟩ := id C
  intro x0 x1 x2 x3 x4 x5 x6 σ r0 σ0 h t0 t2 H locs hT ls hl
  unfold fX12_areEqual_6b at h
  refine lv_iload hx hb dX12_areEqual_6 (lv_at hl 6 rfl) ?_
  refine lv_iload hx hb dX12_areEqual_8 (lv_at hl 4 rfl) ?_
  refine lv_icmp_ge (tgt := 46) hx hb dX12_areEqual_10 (by decide) (fun c1 => ?_) (fun c1 => ?_)
  · rw [if_pos c1] at h
    refine lv_iload hx hb dX12_areEqual_46 (lv_at hl 5 rfl) ?_
    obtain ⟨g2, h⟩ := gd_some _ h
    obtain ⟨rfl, rfl⟩ := js_rt h
    exact js_zret C hT hr hk g2 dX12_areEqual_48
  · rw [if_neg c1] at h
    refine lv_iload hx hb dX12_areEqual_13 (lv_at hl 5 rfl) ?_
    refine lv_if_eq (tgt := 46) hx hb dX12_areEqual_15 (by decide) (fun c3 => ?_) (fun c3 => ?_)
    · rw [if_pos c3] at h
      refine lv_iload hx hb dX12_areEqual_46 (lv_at hl 5 rfl) ?_
      obtain ⟨g4, h⟩ := gd_some _ h
      obtain ⟨rfl, rfl⟩ := js_rt h
      exact js_zret C hT hr hk g4 dX12_areEqual_48
    · rw [if_neg c3] at h
      refine lv_aload_n hx hb dX12_areEqual_18 rfl (lv_at hl 0 rfl) ?_
      refine lv_iload_n hx hb dX12_areEqual_19 rfl (lv_at hl 1 rfl) ?_
      refine lv_iload hx hb dX12_areEqual_20 (lv_at hl 6 rfl) ?_
      refine lv_iadd hx hb dX12_areEqual_22 ?_
      obtain ⟨g5, h⟩ := gd_some _ h
      refine js_iald C hT t0 g5 dX12_areEqual_23 ?_
      refine lv_aload_n hx hb dX12_areEqual_24 rfl (lv_at hl 2 rfl) ?_
      refine lv_iload_n hx hb dX12_areEqual_25 rfl (lv_at hl 3 rfl) ?_
      refine lv_iload hx hb dX12_areEqual_26 (lv_at hl 6 rfl) ?_
      refine lv_iadd hx hb dX12_areEqual_28 ?_
      obtain ⟨g6, h⟩ := gd_some _ h
      refine js_iald C hT t2 g6 dX12_areEqual_29 ?_
      refine lv_icmp_ne (tgt := 37) hx hb dX12_areEqual_30 (by decide) (fun c7 => ?_) (fun c7 => ?_)
      · rw [if_neg c7] at h
        refine lv_iconst (v := 0) hx hb dX12_areEqual_37 (by decide) ?_
        exact wX12_areEqual_38 C hr hk rc6 hrc6 _ _ _ _ _ _ _ _ _ _ h t0 t2 H locs hT ls (lv_sub hl [0, 1, 2, 3, 4, 6] rfl)
      · rw [if_pos c7] at h
        refine lv_iconst (v := 1) hx hb dX12_areEqual_33 (by decide) ?_
        refine lv_goto (tgt := 38) hx hb dX12_areEqual_34 (by decide) ?_
        exact wX12_areEqual_38 C hr hk rc6 hrc6 _ _ _ _ _ _ _ _ _ _ h t0 t2 H locs hT ls (lv_sub hl [0, 1, 2, 3, 4, 6] rfl)
set_option maxHeartbeats 4000000 in
set_option maxRecDepth 20000 in
theorem wX12_areEqual_6 (C : js_C D g p m c cX12_areEqual 7 s args RX12) (hr : meth.sig.returnType = (some .boolean)) (hk : meth.locks = false) : ∀ (k : Nat), ∀ (x0 : Nat) (x1 : Int32) (x2 : Nat) (x3 : Int32) (x4 : Int32) (x5 : Int32) (x6 : Int32) (σ : js_S) (r0 : Int32) (σ0 : js_S), fX12_areEqual_6 fu k x0 x1 x2 x3 x4 x5 x6 σ = some (r0, σ0) → ob_ nn 20 x0 → ob_ nn 20 x2 → js_at p l e 0 s m args below meth c D B g nn 6 7 [(0, .ref (B + x0)), (1, .int x1), (2, .ref (B + x2)), (3, .int x3), (4, .int x4), (5, .int x5), (6, .int x6)] [] σ (js_QI D B g nn r0 σ0) := by
  intro k
  induction k with
  | zero =>
    intro x0 x1 x2 x3 x4 x5 x6 σ r0 σ0 h
    cases h
  | succ k ih =>
    intro x0 x1 x2 x3 x4 x5 x6 σ r0 σ0 h
    exact wX12_areEqual_6b C hr hk (fX12_areEqual_6 fu k) ih x0 x1 x2 x3 x4 x5 x6 σ r0 σ0 h
set_option maxHeartbeats 4000000 in
set_option maxRecDepth 20000 in
theorem kX12_areEqual {x0 : Nat} {x1 : Int32} {x2 : Nat} {x3 : Int32} {x4 : Int32} {σ σ0 : js_S} {r0 : Int32} (t0 : ob_ nn 20 x0) (t2 : ob_ nn 20 x2) (h : fX12_areEqual fu x0 x1 x2 x3 x4 σ = some (r0, σ0)) : js_M l D B g nn yX12_areEqual cX12_areEqual 7 (some .boolean) 0 [.ref (B + x0), .int x1, .ref (B + x2), .int x3, .int x4] σ (js_QI D B g nn r0 σ0) := by
  refine js_enter (by decide) (Nat.le_of_ble_eq_true rfl) ?_
  intro p e s m args below meth c C hr hk ls hl hT
  have hl : lv_has ls 7 [(0, .ref (B + x0)), (1, .int x1), (2, .ref (B + x2)), (3, .int x3), (4, .int x4)] := hl
  obtain ⟨hx, hb, hml, hown, ht, hK, hNw⟩ := id C
  obtain ⟨H, eH⟩ : ∃ H, H = s.heap := ⟨_, rfl⟩
  obtain ⟨locs, eL⟩ : ∃ z : List Loc, z = [] := ⟨_, rfl⟩
  rw [← eH, ← eL]
  rw [← eH, ← eL] at hT
  clear eH eL
  unfold fX12_areEqual at h
  refine lv_iconst (v := 1) hx hb dX12_areEqual_0 (by decide) ?_
  refine lv_istore (lv' := [(5, .int 1), (0, .ref (B + x0)), (1, .int x1), (2, .ref (B + x2)), (3, .int x3), (4, .int x4)]) hx hb dX12_areEqual_1 hl (by decide) rfl (fun ls hl => ?_)
  refine lv_iconst (v := 0) hx hb dX12_areEqual_3 (by decide) ?_
  refine lv_istore (lv' := [(6, .int 0), (5, .int 1), (0, .ref (B + x0)), (1, .int x1), (2, .ref (B + x2)), (3, .int x3), (4, .int x4)]) hx hb dX12_areEqual_4 hl (by decide) rfl (fun ls hl => ?_)
  exact wX12_areEqual_6 C hr hk _ _ _ _ _ _ _ _ _ _ _ h t0 t2 H locs hT ls (lv_sub hl [2, 3, 4, 5, 6, 1, 0] rfl)
set_option maxHeartbeats 4000000 in
set_option maxRecDepth 20000 in
theorem kX12_arity {x0 : Nat} {x1 : Int32} {σ σ0 : js_S} {r0 : Int32} (t0 : ob_ nn 12 x0) (h : fX12_arity fu x0 x1 σ = some (r0, σ0)) : js_M l D B g nn yX12_arity cX12_arity 2 (some .int) 1 [.ref (B + x0), .int x1] σ (js_QI D B g nn r0 σ0) := by
  refine js_enter (by decide) (Nat.le_of_ble_eq_true rfl) ?_
  intro p e s m args below meth c C hr hk ls hl hT
  have hl : lv_has ls 2 [(0, .ref (B + x0)), (1, .int x1)] := hl
  obtain ⟨hx, hb, hml, hown, ht, hK, hNw⟩ := id C
  obtain ⟨H, eH⟩ : ∃ H, H = s.heap := ⟨_, rfl⟩
  obtain ⟨locs, eL⟩ : ∃ z : List Loc, z = [] := ⟨_, rfl⟩
  rw [← eH, ← eL]
  rw [← eH, ← eL] at hT
  clear eH eL
  unfold fX12_arity at h
  refine lv_iload_n hx hb dX12_arity_0 rfl (lv_at hl 1 rfl) ?_
  refine lv_iconst (v := 0) hx hb dX12_arity_1 (by decide) ?_
  refine lv_iconst (v := 2) hx hb dX12_arity_2 (by decide) ?_
  obtain ⟨r1, σ1, hc1, h⟩ := bd_some h
  refine js_backI hT (js_runS C hT mfX12_isIn lk_X12_105 (kX12_isIn  hc1) ⟨Nat.le_of_ble_eq_true rfl, Nat.le_of_ble_eq_true rfl⟩ rfl hl.1 rfl (Nat.le_of_ble_eq_true rfl) ⟨Nat.zero_le _, Nat.zero_le _⟩ dX12_arity_3) (fun H locs hT => ?_)
  refine lv_if_eq (tgt := 18) hx hb dX12_arity_6 (by decide) (fun c2 => ?_) (fun c2 => ?_)
  · rw [if_pos c2] at h
    refine lv_iconst (v := (-1)) hx hb dX12_arity_18 (by decide) ?_
    obtain ⟨rfl, rfl⟩ := js_rt h
    exact js_iret C hT hr hk dX12_arity_19
  · rw [if_neg c2] at h
    refine lv_aload_n hx hb dX12_arity_9 rfl (lv_at hl 0 rfl) ?_
    refine js_gR C hT cfX12 t0 0 (by decide) (q := 20) rfl (by decide) lk_X12_9 dX12_arity_10 (fun t3a => ?_)
    refine lv_iload_n hx hb dX12_arity_13 rfl (lv_at hl 1 rfl) ?_
    obtain ⟨g4, h⟩ := gd_some _ h
    refine js_iald C hT t3a g4 dX12_arity_14 ?_
    refine lv_goto (tgt := 19) hx hb dX12_arity_15 (by decide) ?_
    obtain ⟨rfl, rfl⟩ := js_rt h
    exact js_iret C hT hr hk dX12_arity_19
set_option maxHeartbeats 4000000 in
set_option maxRecDepth 20000 in
theorem kX12_clearText {x0 : Nat} {σ σ0 : js_S} {r0 : Int32} (t0 : ob_ nn 12 x0) (h : fX12_clearText fu x0 σ = some (r0, σ0)) : js_M l D B g nn yX12_clearText cX12_clearText 2 (some .int) 0 [.ref (B + x0)] σ (js_QI D B g nn r0 σ0) := by
  refine js_enter (by decide) (Nat.le_of_ble_eq_true rfl) ?_
  intro p e s m args below meth c C hr hk ls hl hT
  have hl : lv_has ls 2 [(0, .ref (B + x0))] := hl
  obtain ⟨hx, hb, hml, hown, ht, hK, hNw⟩ := id C
  obtain ⟨H, eH⟩ : ∃ H, H = s.heap := ⟨_, rfl⟩
  obtain ⟨locs, eL⟩ : ∃ z : List Loc, z = [] := ⟨_, rfl⟩
  rw [← eH, ← eL]
  rw [← eH, ← eL] at hT
  clear eH eL
  unfold fX12_clearText at h
  refine lv_aload_n hx hb dX12_clearText_0 rfl (lv_at hl 0 rfl) ?_
  refine js_gI C hT cfX12 t0 15 (by decide) rfl lk_X12_151 dX12_clearText_1 ?_
  refine lv_istore_n (lv' := [(1, .int (σ.1 x0 15)), (0, .ref (B + x0))]) hx hb dX12_clearText_4 rfl hl (by decide) rfl (fun ls hl => ?_)
  refine lv_aload_n hx hb dX12_clearText_5 rfl (lv_at hl 1 rfl) ?_
  refine lv_iconst (v := 0) hx hb dX12_clearText_6 (by decide) ?_
  obtain ⟨σ1, e1, h⟩ := lt_some h
  refine js_pI C hT cfX12 t0 15 (by decide) rfl rfl rfl rfl lk_X12_151 dX12_clearText_7 (fun H locs hT => ?_)
  rw [e1] at hT
  refine lv_iload_n hx hb dX12_clearText_10 rfl (lv_at hl 0 rfl) ?_
  obtain ⟨rfl, rfl⟩ := js_rt h
  exact js_iret C hT hr hk dX12_clearText_11
set_option maxHeartbeats 4000000 in
set_option maxRecDepth 20000 in
theorem wX12_decode_4b (C : js_C D g p m c cX12_decode 4 s args RX12) (hr : meth.sig.returnType = none) (hk : meth.locks = false) (rc4 : Nat → Int32 → Int32 → js_S → Option (Unit × js_S)) (hrc4 : ∀ (x1 : Nat) (x2 : Int32) (x3 : Int32) (σ : js_S) (r0 : Unit) (σ0 : js_S), rc4 x1 x2 x3 σ = some (r0, σ0) → ob_ nn 20 x1 → js_at p l e 0 s m args below meth c D B g nn 4 4 [(1, .ref (B + x1)), (2, .int x2), (3, .int x3)] [] σ (js_QV D B g nn σ0)) : ∀ (x1 : Nat) (x2 : Int32) (x3 : Int32) (σ : js_S) (r0 : Unit) (σ0 : js_S), fX12_decode_4b fu rc4 x1 x2 x3 σ = some (r0, σ0) → ob_ nn 20 x1 → js_at p l e 0 s m args below meth c D B g nn 4 4 [(1, .ref (B + x1)), (2, .int x2), (3, .int x3)] [] σ (js_QV D B g nn σ0) := by
  obtain ⟨hx, hb, hml, hown, ht, hK, hNw⟩ := id C
  intro x1 x2 x3 σ r0 σ0 h t1 H locs hT ls hl
  unfold fX12_decode_4b at h
  refine lv_iload_n hx hb dX12_decode_4 rfl (lv_at hl 2 rfl) ?_
  refine lv_bipush (v := 9) hx hb dX12_decode_5 (by decide) ?_
  refine lv_icmp_ge (tgt := 26) hx hb dX12_decode_7 (by decide) (fun c1 => ?_) (fun c1 => ?_)
  · rw [if_pos c1] at h
    obtain ⟨rfl, rfl⟩ := js_rt h
    exact js_vret C hT hr hk dX12_decode_26
  · rw [if_neg c1] at h
    refine lv_aload_n hx hb dX12_decode_10 rfl (lv_at hl 0 rfl) ?_
    refine lv_iload_n hx hb dX12_decode_11 rfl (lv_at hl 2 rfl) ?_
    refine lv_iload_n hx hb dX12_decode_12 rfl (lv_at hl 1 rfl) ?_
    refine lv_iconst (v := 3) hx hb dX12_decode_13 (by decide) ?_
    refine lv_irem hx hb dX12_decode_14 (by decide) ?_
    obtain ⟨g2, h⟩ := gd_some _ h
    obtain ⟨σ2, e2, h⟩ := lt_some h
    refine js_iast C hT t1 g2 dX12_decode_15 (fun H locs hT => ?_)
    rw [e2] at hT
    refine lv_iload_n hx hb dX12_decode_16 rfl (lv_at hl 1 rfl) ?_
    refine lv_iconst (v := 3) hx hb dX12_decode_17 (by decide) ?_
    refine lv_idiv hx hb dX12_decode_18 (by decide) ?_
    refine lv_istore_n (lv' := [(2, .int (x2 / 3)), (1, .ref (B + x1)), (3, .int x3)]) hx hb dX12_decode_19 rfl hl (by decide) rfl (fun ls hl => ?_)
    refine lv_iinc (v := x3 + 1) (lv' := [(3, .int (x3 + 1)), (2, .int (x2 / 3)), (1, .ref (B + x1))]) hx hb dX12_decode_20 hl (k := 2) rfl rfl (by decide) rfl (fun ls hl => ?_)
    refine lv_goto (tgt := 4) hx hb dX12_decode_23 (by decide) ?_
    exact hrc4 _ _ _ _ _ _ h t1 H locs hT ls (lv_sub hl [2, 1, 0] rfl)
set_option maxHeartbeats 4000000 in
set_option maxRecDepth 20000 in
theorem wX12_decode_4 (C : js_C D g p m c cX12_decode 4 s args RX12) (hr : meth.sig.returnType = none) (hk : meth.locks = false) : ∀ (k : Nat), ∀ (x1 : Nat) (x2 : Int32) (x3 : Int32) (σ : js_S) (r0 : Unit) (σ0 : js_S), fX12_decode_4 fu k x1 x2 x3 σ = some (r0, σ0) → ob_ nn 20 x1 → js_at p l e 0 s m args below meth c D B g nn 4 4 [(1, .ref (B + x1)), (2, .int x2), (3, .int x3)] [] σ (js_QV D B g nn σ0) := by
  intro k
  induction k with
  | zero =>
    intro x1 x2 x3 σ r0 σ0 h
    cases h
  | succ k ih =>
    intro x1 x2 x3 σ r0 σ0 h
    exact wX12_decode_4b C hr hk (fX12_decode_4 fu k) ih x1 x2 x3 σ r0 σ0 h
set_option maxHeartbeats 4000000 in
set_option maxRecDepth 20000 in
theorem kX12_decode {x0 : Int32} {x1 : Nat} {σ σ0 : js_S} {r0 : Unit} (t1 : ob_ nn 20 x1) (h : fX12_decode fu x0 x1 σ = some (r0, σ0)) : js_M l D B g nn yX12_decode cX12_decode 4 none 0 [.int x0, .ref (B + x1)] σ (js_QV D B g nn σ0) := by
  refine js_enter (by decide) (Nat.le_of_ble_eq_true rfl) ?_
  intro p e s m args below meth c C hr hk ls hl hT
  have hl : lv_has ls 4 [(0, .int x0), (1, .ref (B + x1))] := hl
  obtain ⟨hx, hb, hml, hown, ht, hK, hNw⟩ := id C
  obtain ⟨H, eH⟩ : ∃ H, H = s.heap := ⟨_, rfl⟩
  obtain ⟨locs, eL⟩ : ∃ z : List Loc, z = [] := ⟨_, rfl⟩
  rw [← eH, ← eL]
  rw [← eH, ← eL] at hT
  clear eH eL
  unfold fX12_decode at h
  refine lv_iload_n hx hb dX12_decode_0 rfl (lv_at hl 0 rfl) ?_
  refine lv_istore_n (lv' := [(2, .int x0), (0, .int x0), (1, .ref (B + x1))]) hx hb dX12_decode_1 rfl hl (by decide) rfl (fun ls hl => ?_)
  refine lv_iconst (v := 0) hx hb dX12_decode_2 (by decide) ?_
  refine lv_istore_n (lv' := [(3, .int 0), (2, .int x0), (0, .int x0), (1, .ref (B + x1))]) hx hb dX12_decode_3 rfl hl (by decide) rfl (fun ls hl => ?_)
  exact wX12_decode_4 C hr hk _ _ _ _ _ _ _ h t1 H locs hT ls (lv_sub hl [3, 1, 0] rfl)
set_option maxHeartbeats 4000000 in
set_option maxRecDepth 20000 in
theorem wX12_encode_5b (C : js_C D g p m c cX12_encode 4 s args RX12) (hr : meth.sig.returnType = (some .int)) (hk : meth.locks = false) (rc5 : Nat → Int32 → Int32 → js_S → Option (Int32 × js_S)) (hrc5 : ∀ (x1 : Nat) (x2 : Int32) (x3 : Int32) (σ : js_S) (r0 : Int32) (σ0 : js_S), rc5 x1 x2 x3 σ = some (r0, σ0) → ob_ nn 20 x1 → js_at p l e 0 s m args below meth c D B g nn 5 4 [(1, .ref (B + x1)), (2, .int x2), (3, .int x3)] [] σ (js_QI D B g nn r0 σ0)) : ∀ (x1 : Nat) (x2 : Int32) (x3 : Int32) (σ : js_S) (r0 : Int32) (σ0 : js_S), fX12_encode_5b fu rc5 x1 x2 x3 σ = some (r0, σ0) → ob_ nn 20 x1 → js_at p l e 0 s m args below meth c D B g nn 5 4 [(1, .ref (B + x1)), (2, .int x2), (3, .int x3)] [] σ (js_QI D B g nn r0 σ0) := by
  obtain ⟨hx, hb, hml, hown, ht, hK, hNw⟩ := id C
  intro x1 x2 x3 σ r0 σ0 h t1 H locs hT ls hl
  unfold fX12_encode_5b at h
  refine lv_iload_n hx hb dX12_encode_5 rfl (lv_at hl 2 rfl) ?_
  refine lv_if_lt (tgt := 23) hx hb dX12_encode_6 (by decide) (fun c1 => ?_) (fun c1 => ?_)
  · rw [if_pos c1] at h
    refine lv_iload_n hx hb dX12_encode_23 rfl (lv_at hl 1 rfl) ?_
    obtain ⟨rfl, rfl⟩ := js_rt h
    exact js_iret C hT hr hk dX12_encode_24
  · rw [if_neg c1] at h
    refine lv_iconst (v := 3) hx hb dX12_encode_9 (by decide) ?_
    refine lv_iload_n hx hb dX12_encode_10 rfl (lv_at hl 1 rfl) ?_
    refine lv_imul hx hb dX12_encode_11 ?_
    refine lv_aload_n hx hb dX12_encode_12 rfl (lv_at hl 0 rfl) ?_
    refine lv_iload_n hx hb dX12_encode_13 rfl (lv_at hl 2 rfl) ?_
    obtain ⟨g2, h⟩ := gd_some _ h
    refine js_iald C hT t1 g2 dX12_encode_14 ?_
    refine lv_iadd hx hb dX12_encode_15 ?_
    refine lv_istore_n (lv' := [(2, .int ((3 * x2) + (σ.1 x1 (Int32.toNatClampNeg x3)))), (1, .ref (B + x1)), (3, .int x3)]) hx hb dX12_encode_16 rfl hl (by decide) rfl (fun ls hl => ?_)
    refine lv_iinc (v := x3 + (-1)) (lv' := [(3, .int (x3 + (-1))), (2, .int ((3 * x2) + (σ.1 x1 (Int32.toNatClampNeg x3)))), (1, .ref (B + x1))]) hx hb dX12_encode_17 hl (k := 2) rfl rfl (by decide) rfl (fun ls hl => ?_)
    refine lv_goto (tgt := 5) hx hb dX12_encode_20 (by decide) ?_
    exact hrc5 _ _ _ _ _ _ h t1 H locs hT ls (lv_sub hl [2, 1, 0] rfl)
set_option maxHeartbeats 4000000 in
set_option maxRecDepth 20000 in
theorem wX12_encode_5 (C : js_C D g p m c cX12_encode 4 s args RX12) (hr : meth.sig.returnType = (some .int)) (hk : meth.locks = false) : ∀ (k : Nat), ∀ (x1 : Nat) (x2 : Int32) (x3 : Int32) (σ : js_S) (r0 : Int32) (σ0 : js_S), fX12_encode_5 fu k x1 x2 x3 σ = some (r0, σ0) → ob_ nn 20 x1 → js_at p l e 0 s m args below meth c D B g nn 5 4 [(1, .ref (B + x1)), (2, .int x2), (3, .int x3)] [] σ (js_QI D B g nn r0 σ0) := by
  intro k
  induction k with
  | zero =>
    intro x1 x2 x3 σ r0 σ0 h
    cases h
  | succ k ih =>
    intro x1 x2 x3 σ r0 σ0 h
    exact wX12_encode_5b C hr hk (fX12_encode_5 fu k) ih x1 x2 x3 σ r0 σ0 h
set_option maxHeartbeats 4000000 in
set_option maxRecDepth 20000 in
theorem kX12_encode {x0 : Int32} {x1 : Nat} {σ σ0 : js_S} {r0 : Int32} (t1 : ob_ nn 20 x1) (h : fX12_encode fu x0 x1 σ = some (r0, σ0)) : js_M l D B g nn yX12_encode cX12_encode 4 (some .int) 0 [.int x0, .ref (B + x1)] σ (js_QI D B g nn r0 σ0) := by
  refine js_enter (by decide) (Nat.le_of_ble_eq_true rfl) ?_
  intro p e s m args below meth c C hr hk ls hl hT
  have hl : lv_has ls 4 [(0, .int x0), (1, .ref (B + x1))] := hl
  obtain ⟨hx, hb, hml, hown, ht, hK, hNw⟩ := id C
  obtain ⟨H, eH⟩ : ∃ H, H = s.heap := ⟨_, rfl⟩
  obtain ⟨locs, eL⟩ : ∃ z : List Loc, z = [] := ⟨_, rfl⟩
  rw [← eH, ← eL]
  rw [← eH, ← eL] at hT
  clear eH eL
  unfold fX12_encode at h
  refine lv_iload_n hx hb dX12_encode_0 rfl (lv_at hl 0 rfl) ?_
  refine lv_istore_n (lv' := [(2, .int x0), (0, .int x0), (1, .ref (B + x1))]) hx hb dX12_encode_1 rfl hl (by decide) rfl (fun ls hl => ?_)
  refine lv_bipush (v := 8) hx hb dX12_encode_2 (by decide) ?_
  refine lv_istore_n (lv' := [(3, .int 8), (2, .int x0), (0, .int x0), (1, .ref (B + x1))]) hx hb dX12_encode_4 rfl hl (by decide) rfl (fun ls hl => ?_)
  exact wX12_encode_5 C hr hk _ _ _ _ _ _ _ h t1 H locs hT ls (lv_sub hl [3, 1, 0] rfl)
set_option maxHeartbeats 4000000 in
set_option maxRecDepth 20000 in
theorem kX12_functions {x0 : Int32} {σ σ0 : js_S} {r0 : Int32} (h : fX12_functions fu x0 σ = some (r0, σ0)) : js_M l D B g nn yX12_functions cX12_functions 1 (some .int) 0 [.int x0] σ (js_QI D B g nn r0 σ0) := by
  refine js_enter (by decide) (Nat.le_of_ble_eq_true rfl) ?_
  intro p e s m args below meth c C hr hk ls hl hT
  have hl : lv_has ls 1 [(0, .int x0)] := hl
  obtain ⟨hx, hb, hml, hown, ht, hK, hNw⟩ := id C
  obtain ⟨H, eH⟩ : ∃ H, H = s.heap := ⟨_, rfl⟩
  obtain ⟨locs, eL⟩ : ∃ z : List Loc, z = [] := ⟨_, rfl⟩
  rw [← eH, ← eL]
  rw [← eH, ← eL] at hT
  clear eH eL
  unfold fX12_functions at h
  refine lv_iload_n hx hb dX12_functions_0 rfl (lv_at hl 0 rfl) ?_
  refine lv_sipush (v := 19683) hx hb dX12_functions_1 (by decide) ?_
  refine lv_idiv hx hb dX12_functions_4 (by decide) ?_
  obtain ⟨rfl, rfl⟩ := js_rt h
  exact js_iret C hT hr hk dX12_functions_5
set_option maxHeartbeats 4000000 in
set_option maxRecDepth 20000 in
theorem wX12_compose_112 (C : js_C D g p m c cX12_compose 9 s args RX12) (hr : meth.sig.returnType = (some .int)) (hk : meth.locks = false) (rc36 : Nat → Int32 → Int32 → Int32 → js_S → Option (Int32 × js_S)) (hrc36 : ∀ (x0 : Nat) (x1 : Int32) (x2 : Int32) (x3 : Int32) (σ : js_S) (r0 : Int32) (σ0 : js_S), rc36 x0 x1 x2 x3 σ = some (r0, σ0) → ob_ nn 12 x0 → js_at p l e 1 s m args below meth c D B g nn 36 9 [(0, .ref (B + x0)), (1, .int x1), (2, .int x2), (3, .int x3)] [] σ (js_QI D B g nn r0 σ0)) (rc44 : Nat → Int32 → Int32 → Int32 → Int32 → js_S → Option (Int32 × js_S)) (hrc44 : ∀ (x0 : Nat) (x1 : Int32) (x2 : Int32) (x3 : Int32) (x4 : Int32) (σ : js_S) (r0 : Int32) (σ0 : js_S), rc44 x0 x1 x2 x3 x4 σ = some (r0, σ0) → ob_ nn 12 x0 → js_at p l e 1 s m args below meth c D B g nn 44 9 [(0, .ref (B + x0)), (1, .int x1), (2, .int x2), (3, .int x3), (4, .int x4)] [] σ (js_QI D B g nn r0 σ0)) (rc56 : Nat → Int32 → Int32 → Int32 → Int32 → Int32 → Int32 → js_S → Option (Int32 × js_S)) (hrc56 : ∀ (x0 : Nat) (x1 : Int32) (x2 : Int32) (x3 : Int32) (x4 : Int32) (x5 : Int32) (x6 : Int32) (σ : js_S) (r0 : Int32) (σ0 : js_S), rc56 x0 x1 x2 x3 x4 x5 x6 σ = some (r0, σ0) → ob_ nn 12 x0 → js_at p l e 1 s m args below meth c D B g nn 56 9 [(0, .ref (B + x0)), (1, .int x1), (2, .int x2), (3, .int x3), (4, .int x4), (5, .int x5), (6, .int x6)] [] σ (js_QI D B g nn r0 σ0)) : ∀ (x0 : Nat) (x1 : Int32) (x2 : Int32) (x3 : Int32) (x4 : Int32) (x6 : Int32) (y0 : Int32) (y1 : Int32) (σ : js_S) (r0 : Int32) (σ0 : js_S), fX12_compose_112 fu rc36 rc44 rc56 x0 x1 x2 x3 x4 x6 y0 y1 σ = some (r0, σ0) → ob_ nn 12 x0 → js_at p l e 1 s m args below meth c D B g nn 112 9 [(0, .ref (B + x0)), (1, .int x1), (2, .int x2), (3, .int x3), (4, .int x4), (6, .int x6)] [.int y0, .int y1] σ (js_QI D B g nn r0 σ0) := by
  obtain ⟨hx, hb, hml, hown, ht, hK, hNw⟩ := id C
  intro x0 x1 x2 x3 x4 x6 y0 y1 σ r0 σ0 h t0 H locs hT ls hl
  unfold fX12_compose_112 at h
  refine va_mmax hx hb (hml.trans hl.1.symm) hown (ht _ lk_X12_240) (ht _ js_mmax1) (ht _ js_mth) (ht _ js_mmax2) (Nat.le_of_ble_eq_true rfl) (Nat.le_of_ble_eq_true rfl) (Nat.zero_le _) (Nat.zero_le _) dX12_compose_112 ?_
  refine lv_istore (lv' := [(5, .int (if y1 < y0 then y0 else y1)), (0, .ref (B + x0)), (1, .int x1), (2, .int x2), (3, .int x3), (4, .int x4), (6, .int x6)]) hx hb dX12_compose_115 hl (by decide) rfl (fun ls hl => ?_)
  refine lv_iinc (v := x6 + 1) (lv' := [(6, .int (x6 + 1)), (5, .int (if y1 < y0 then y0 else y1)), (0, .ref (B + x0)), (1, .int x1), (2, .int x2), (3, .int x3), (4, .int x4)]) hx hb dX12_compose_117 hl (k := 6) rfl rfl (by decide) rfl (fun ls hl => ?_)
  refine lv_goto (tgt := 56) hx hb dX12_compose_120 (by decide) ?_
  exact hrc56 _ _ _ _ _ _ _ _ _ _ h t0 H locs hT ls (lv_sub hl [2, 3, 4, 5, 6, 1, 0] rfl)
set_option maxHeartbeats 4000000 in
set_option maxRecDepth 20000 in
theorem wX12_compose_101 (C : js_C D g p m c cX12_compose 9 s args RX12) (hr : meth.sig.returnType = (some .int)) (hk : meth.locks = false) (rc36 : Nat → Int32 → Int32 → Int32 → js_S → Option (Int32 × js_S)) (hrc36 : ∀ (x0 : Nat) (x1 : Int32) (x2 : Int32) (x3 : Int32) (σ : js_S) (r0 : Int32) (σ0 : js_S), rc36 x0 x1 x2 x3 σ = some (r0, σ0) → ob_ nn 12 x0 → js_at p l e 1 s m args below meth c D B g nn 36 9 [(0, .ref (B + x0)), (1, .int x1), (2, .int x2), (3, .int x3)] [] σ (js_QI D B g nn r0 σ0)) (rc44 : Nat → Int32 → Int32 → Int32 → Int32 → js_S → Option (Int32 × js_S)) (hrc44 : ∀ (x0 : Nat) (x1 : Int32) (x2 : Int32) (x3 : Int32) (x4 : Int32) (σ : js_S) (r0 : Int32) (σ0 : js_S), rc44 x0 x1 x2 x3 x4 σ = some (r0, σ0) → ob_ nn 12 x0 → js_at p l e 1 s m args below meth c D B g nn 44 9 [(0, .ref (B + x0)), (1, .int x1), (2, .int x2), (3, .int x3), (4, .int x4)] [] σ (js_QI D B g nn r0 σ0)) (rc56 : Nat → Int32 → Int32 → Int32 → Int32 → Int32 → Int32 → js_S → Option (Int32 × js_S)) (hrc56 : ∀ (x0 : Nat) (x1 : Int32) (x2 : Int32) (x3 : Int32) (x4 : Int32) (x5 : Int32) (x6 : Int32) (σ : js_S) (r0 : Int32) (σ0 : js_S), rc56 x0 x1 x2 x3 x4 x5 x6 σ = some (r0, σ0) → ob_ nn 12 x0 → js_at p l e 1 s m args below meth c D B g nn 56 9 [(0, .ref (B + x0)), (1, .int x1), (2, .int x2), (3, .int x3), (4, .int x4), (5, .int x5), (6, .int x6)] [] σ (js_QI D B g nn r0 σ0)) : ∀ (x0 : Nat) (x1 : Int32) (x2 : Int32) (x3 : Int32) (x4 : Int32) (x6 : Int32) (y0 : Int32) (σ : js_S) (r0 : Int32) (σ0 : js_S), fX12_compose_101 fu rc36 rc44 rc56 x0 x1 x2 x3 x4 x6 y0 σ = some (r0, σ0) → ob_ nn 12 x0 → js_at p l e 1 s m args below meth c D B g nn 101 9 [(0, .ref (B + x0)), (1, .int x1), (2, .int x2), (3, .int x3), (4, .int x4), (6, .int x6)] [.int y0] σ (js_QI D B g nn r0 σ0) := by
  obtain ⟨hx, hb, hml, hown, ht, hK, hNw⟩ := id C
  intro x0 x1 x2 x3 x4 x6 y0 σ r0 σ0 h t0 H locs hT ls hl
  unfold fX12_compose_101 at h
  refine lv_iconst (v := 0) hx hb dX12_compose_101 (by decide) ?_
  refine lv_goto (tgt := 112) hx hb dX12_compose_102 (by decide) ?_
  exact wX12_compose_112 C hr hk rc36 hrc36 rc44 hrc44 rc56 hrc56 _ _ _ _ _ _ _ _ _ _ _ h t0 H locs hT ls (lv_sub hl [0, 1, 2, 3, 4, 5] rfl)
set_option maxHeartbeats 4000000 in
set_option maxRecDepth 20000 in
theorem wX12_compose_56b (C : js_C D g p m c cX12_compose 9 s args RX12) (hr : meth.sig.returnType = (some .int)) (hk : meth.locks = false) (rc36 : Nat → Int32 → Int32 → Int32 → js_S → Option (Int32 × js_S)) (hrc36 : ∀ (x0 : Nat) (x1 : Int32) (x2 : Int32) (x3 : Int32) (σ : js_S) (r0 : Int32) (σ0 : js_S), rc36 x0 x1 x2 x3 σ = some (r0, σ0) → ob_ nn 12 x0 → js_at p l e 1 s m args below meth c D B g nn 36 9 [(0, .ref (B + x0)), (1, .int x1), (2, .int x2), (3, .int x3)] [] σ (js_QI D B g nn r0 σ0)) (rc44 : Nat → Int32 → Int32 → Int32 → Int32 → js_S → Option (Int32 × js_S)) (hrc44 : ∀ (x0 : Nat) (x1 : Int32) (x2 : Int32) (x3 : Int32) (x4 : Int32) (σ : js_S) (r0 : Int32) (σ0 : js_S), rc44 x0 x1 x2 x3 x4 σ = some (r0, σ0) → ob_ nn 12 x0 → js_at p l e 1 s m args below meth c D B g nn 44 9 [(0, .ref (B + x0)), (1, .int x1), (2, .int x2), (3, .int x3), (4, .int x4)] [] σ (js_QI D B g nn r0 σ0)) (rc56 : Nat → Int32 → Int32 → Int32 → Int32 → Int32 → Int32 → js_S → Option (Int32 × js_S)) (hrc56 : ∀ (x0 : Nat) (x1 : Int32) (x2 : Int32) (x3 : Int32) (x4 : Int32) (x5 : Int32) (x6 : Int32) (σ : js_S) (r0 : Int32) (σ0 : js_S), rc56 x0 x1 x2 x3 x4 x5 x6 σ = some (r0, σ0) → ob_ nn 12 x0 → js_at p l e 1 s m args below meth c D B g nn 56 9 [(0, .ref (B + x0)), (1, .int x1), (2, .int x2), (3, .int x3), (4, .int x4), (5, .int x5), (6, .int x6)] [] σ (js_QI D B g nn r0 σ0)) : ∀ (x0 : Nat) (x1 : Int32) (x2 : Int32) (x3 : Int32) (x4 : Int32) (x5 : Int32) (x6 : Int32) (σ : js_S) (r0 : Int32) (σ0 : js_S), fX12_compose_56b fu rc36 rc44 rc56 x0 x1 x2 x3 x4 x5 x6 σ = some (r0, σ0) → ob_ nn 12 x0 → js_at p l e 1 s m args below meth c D B g nn 56 9 [(0, .ref (B + x0)), (1, .int x1), (2, .int x2), (3, .int x3), (4, .int x4), (5, .int x5), (6, .int x6)] [] σ (js_QI D B g nn r0 σ0) := by
  obtain ⟨hx, hb, hml, hown, ht, hK, hNw⟩ := id C
  intro x0 x1 x2 x3 x4 x5 x6 σ r0 σ0 h t0 H locs hT ls hl
  unfold fX12_compose_56b at h
  refine lv_iload hx hb dX12_compose_56 (lv_at hl 6 rfl) ?_
  refine lv_iconst (v := 3) hx hb dX12_compose_58 (by decide) ?_
  refine lv_icmp_ge (tgt := 123) hx hb dX12_compose_59 (by decide) (fun c1 => ?_) (fun c1 => ?_)
  · rw [if_pos c1] at h
    refine lv_aload_n hx hb dX12_compose_123 rfl (lv_at hl 0 rfl) ?_
    refine js_gR C hT cfX12 t0 30 (by decide) (q := 20) rfl (by decide) lk_X12_79 dX12_compose_124 (fun t2a => ?_)
    refine lv_iconst (v := 3) hx hb dX12_compose_127 (by decide) ?_
    refine lv_iload_n hx hb dX12_compose_128 rfl (lv_at hl 3 rfl) ?_
    refine lv_imul hx hb dX12_compose_129 ?_
    refine lv_iload hx hb dX12_compose_130 (lv_at hl 4 rfl) ?_
    refine lv_iadd hx hb dX12_compose_132 ?_
    refine lv_iload hx hb dX12_compose_133 (lv_at hl 5 rfl) ?_
    obtain ⟨g3, h⟩ := gd_some _ h
    obtain ⟨σ3, e3, h⟩ := lt_some h
    refine js_iast C hT t2a g3 dX12_compose_135 (fun H locs hT => ?_)
    rw [e3] at hT
    refine lv_iinc (v := x4 + 1) (lv' := [(4, .int (x4 + 1)), (0, .ref (B + x0)), (1, .int x1), (2, .int x2), (3, .int x3), (5, .int x5), (6, .int x6)]) hx hb dX12_compose_136 hl (k := 4) rfl rfl (by decide) rfl (fun ls hl => ?_)
    refine lv_goto (tgt := 44) hx hb dX12_compose_139 (by decide) ?_
    exact hrc44 _ _ _ _ _ _ _ _ h t0 H locs hT ls (lv_sub hl [1, 2, 3, 4, 0] rfl)
  · rw [if_neg c1] at h
    refine lv_aload_n hx hb dX12_compose_62 rfl (lv_at hl 0 rfl) ?_
    refine js_gR C hT cfX12 t0 26 (by decide) (q := 20) rfl (by decide) lk_X12_69 dX12_compose_63 (fun t4a => ?_)
    refine lv_iconst (v := 3) hx hb dX12_compose_66 (by decide) ?_
    refine lv_iload_n hx hb dX12_compose_67 rfl (lv_at hl 3 rfl) ?_
    refine lv_imul hx hb dX12_compose_68 ?_
    refine lv_iload hx hb dX12_compose_69 (lv_at hl 6 rfl) ?_
    refine lv_iadd hx hb dX12_compose_71 ?_
    obtain ⟨g5, h⟩ := gd_some _ h
    refine js_iald C hT t4a g5 dX12_compose_72 ?_
    refine lv_istore (lv' := [(7, .int (σ.1 (σ.2.2 x0 26) (Int32.toNatClampNeg ((3 * x3) + x6)))), (0, .ref (B + x0)), (1, .int x1), (2, .int x2), (3, .int x3), (4, .int x4), (5, .int x5), (6, .int x6)]) hx hb dX12_compose_73 hl (by decide) rfl (fun ls hl => ?_)
    refine lv_aload_n hx hb dX12_compose_75 rfl (lv_at hl 1 rfl) ?_
    refine js_gR C hT cfX12 t0 27 (by decide) (q := 20) rfl (by decide) lk_X12_72 dX12_compose_76 (fun t6a => ?_)
    refine lv_iconst (v := 3) hx hb dX12_compose_79 (by decide) ?_
    refine lv_iload hx hb dX12_compose_80 (lv_at hl 7 rfl) ?_
    refine lv_imul hx hb dX12_compose_82 ?_
    refine lv_iload hx hb dX12_compose_83 (lv_at hl 5 rfl) ?_
    refine lv_iadd hx hb dX12_compose_85 ?_
    obtain ⟨g7, h⟩ := gd_some _ h
    refine js_iald C hT t6a g7 dX12_compose_86 ?_
    refine lv_istore (lv' := [(8, .int (σ.1 (σ.2.2 x0 27) (Int32.toNatClampNeg ((3 * x6) + x4)))), (7, .int (σ.1 (σ.2.2 x0 26) (Int32.toNatClampNeg ((3 * x3) + x6)))), (0, .ref (B + x0)), (1, .int x1), (2, .int x2), (3, .int x3), (4, .int x4), (5, .int x5), (6, .int x6)]) hx hb dX12_compose_87 hl (by decide) rfl (fun ls hl => ?_)
    refine lv_iload hx hb dX12_compose_89 (lv_at hl 7 rfl) ?_
    refine lv_iload hx hb dX12_compose_91 (lv_at hl 1 rfl) ?_
    refine lv_if_eq (tgt := 101) hx hb dX12_compose_93 (by decide) (fun c8 => ?_) (fun c8 => ?_)
    · rw [if_pos c8] at h
      exact wX12_compose_101 C hr hk rc36 hrc36 rc44 hrc44 rc56 hrc56 _ _ _ _ _ _ _ _ _ _ h t0 H locs hT ls (lv_sub hl [2, 3, 4, 5, 6, 8] rfl)
    · rw [if_neg c8] at h
      refine lv_iload hx hb dX12_compose_96 (lv_at hl 0 rfl) ?_
      refine lv_if_ne (tgt := 105) hx hb dX12_compose_98 (by decide) (fun c9 => ?_) (fun c9 => ?_)
      · rw [if_neg c9] at h
        refine lv_iload hx hb dX12_compose_105 (lv_at hl 1 rfl) ?_
        refine lv_iload hx hb dX12_compose_107 (lv_at hl 0 rfl) ?_
        refine va_mmax hx hb (hml.trans hl.1.symm) hown (ht _ lk_X12_240) (ht _ js_mmax1) (ht _ js_mth) (ht _ js_mmax2) (Nat.le_of_ble_eq_true rfl) (Nat.le_of_ble_eq_true rfl) (Nat.zero_le _) (Nat.zero_le _) dX12_compose_109 ?_
        exact wX12_compose_112 C hr hk rc36 hrc36 rc44 hrc44 rc56 hrc56 _ _ _ _ _ _ _ _ _ _ _ h t0 H locs hT ls (lv_sub hl [2, 3, 4, 5, 6, 8] rfl)
      · rw [if_pos c9] at h
        exact wX12_compose_101 C hr hk rc36 hrc36 rc44 hrc44 rc56 hrc56 _ _ _ _ _ _ _ _ _ _ h t0 H locs hT ls (lv_sub hl [2, 3, 4, 5, 6, 8] rfl)
set_option maxHeartbeats 4000000 in
set_option maxRecDepth 20000 in
theorem wX12_compose_56 (C : js_C D g p m c cX12_compose 9 s args RX12) (hr : meth.sig.returnType = (some .int)) (hk : meth.locks = false) (rc36 : Nat → Int32 → Int32 → Int32 → js_S → Option (Int32 × js_S)) (hrc36 : ∀ (x0 : Nat) (x1 : Int32) (x2 : Int32) (x3 : Int32) (σ : js_S) (r0 : Int32) (σ0 : js_S), rc36 x0 x1 x2 x3 σ = some (r0, σ0) → ob_ nn 12 x0 → js_at p l e 1 s m args below meth c D B g nn 36 9 [(0, .ref (B + x0)), (1, .int x1), (2, .int x2), (3, .int x3)] [] σ (js_QI D B g nn r0 σ0)) (rc44 : Nat → Int32 → Int32 → Int32 → Int32 → js_S → Option (Int32 × js_S)) (hrc44 : ∀ (x0 : Nat) (x1 : Int32) (x2 : Int32) (x3 : Int32) (x4 : Int32) (σ : js_S) (r0 : Int32) (σ0 : js_S), rc44 x0 x1 x2 x3 x4 σ = some (r0, σ0) → ob_ nn 12 x0 → js_at p l e 1 s m args below meth c D B g nn 44 9 [(0, .ref (B + x0)), (1, .int x1), (2, .int x2), (3, .int x3), (4, .int x4)] [] σ (js_QI D B g nn r0 σ0)) : ∀ (k : Nat), ∀ (x0 : Nat) (x1 : Int32) (x2 : Int32) (x3 : Int32) (x4 : Int32) (x5 : Int32) (x6 : Int32) (σ : js_S) (r0 : Int32) (σ0 : js_S), fX12_compose_56 fu rc36 rc44 k x0 x1 x2 x3 x4 x5 x6 σ = some (r0, σ0) → ob_ nn 12 x0 → js_at p l e 1 s m args below meth c D B g nn 56 9 [(0, .ref (B + x0)), (1, .int x1), (2, .int x2), (3, .int x3), (4, .int x4), (5, .int x5), (6, .int x6)] [] σ (js_QI D B g nn r0 σ0) := by
  intro k
  induction k with
  | zero =>
    intro x0 x1 x2 x3 x4 x5 x6 σ r0 σ0 h
    cases h
  | succ k ih =>
    intro x0 x1 x2 x3 x4 x5 x6 σ r0 σ0 h
    exact wX12_compose_56b C hr hk rc36 hrc36 rc44 hrc44 (fX12_compose_56 fu rc36 rc44 k) ih x0 x1 x2 x3 x4 x5 x6 σ r0 σ0 h
set_option maxHeartbeats 4000000 in
set_option maxRecDepth 20000 in
theorem wX12_compose_44b (C : js_C D g p m c cX12_compose 9 s args RX12) (hr : meth.sig.returnType = (some .int)) (hk : meth.locks = false) (rc36 : Nat → Int32 → Int32 → Int32 → js_S → Option (Int32 × js_S)) (hrc36 : ∀ (x0 : Nat) (x1 : Int32) (x2 : Int32) (x3 : Int32) (σ : js_S) (r0 : Int32) (σ0 : js_S), rc36 x0 x1 x2 x3 σ = some (r0, σ0) → ob_ nn 12 x0 → js_at p l e 1 s m args below meth c D B g nn 36 9 [(0, .ref (B + x0)), (1, .int x1), (2, .int x2), (3, .int x3)] [] σ (js_QI D B g nn r0 σ0)) (rc44 : Nat → Int32 → Int32 → Int32 → Int32 → js_S → Option (Int32 × js_S)) (hrc44 : ∀ (x0 : Nat) (x1 : Int32) (x2 : Int32) (x3 : Int32) (x4 : Int32) (σ : js_S) (r0 : Int32) (σ0 : js_S), rc44 x0 x1 x2 x3 x4 σ = some (r0, σ0) → ob_ nn 12 x0 → js_at p l e 1 s m args below meth c D B g nn 44 9 [(0, .ref (B + x0)), (1, .int x1), (2, .int x2), (3, .int x3), (4, .int x4)] [] σ (js_QI D B g nn r0 σ0)) : ∀ (x0 : Nat) (x1 : Int32) (x2 : Int32) (x3 : Int32) (x4 : Int32) (σ : js_S) (r0 : Int32) (σ0 : js_S), fX12_compose_44b fu rc36 rc44 x0 x1 x2 x3 x4 σ = some (r0, σ0) → ob_ nn 12 x0 → js_at p l e 1 s m args below meth c D B g nn 44 9 [(0, .ref (B + x0)), (1, .int x1), (2, .int x2), (3, .int x3), (4, .int x4)] [] σ (js_QI D B g nn r0 σ0) := by
  obtain ⟨hx, hb, hml, hown, ht, hK, hNw⟩ := id C
  intro x0 x1 x2 x3 x4 σ r0 σ0 h t0 H locs hT ls hl
  unfold fX12_compose_44b at h
  refine lv_iload hx hb dX12_compose_44 (lv_at hl 4 rfl) ?_
  refine lv_iconst (v := 3) hx hb dX12_compose_46 (by decide) ?_
  refine lv_icmp_ge (tgt := 142) hx hb dX12_compose_47 (by decide) (fun c1 => ?_) (fun c1 => ?_)
  · rw [if_pos c1] at h
    refine lv_iinc (v := x3 + 1) (lv' := [(3, .int (x3 + 1)), (0, .ref (B + x0)), (1, .int x1), (2, .int x2), (4, .int x4)]) hx hb dX12_compose_142 hl (k := 3) rfl rfl (by decide) rfl (fun ls hl => ?_)
    refine lv_goto (tgt := 36) hx hb dX12_compose_145 (by decide) ?_
    exact hrc36 _ _ _ _ _ _ _ h t0 H locs hT ls (lv_sub hl [1, 2, 3, 0] rfl)
  · rw [if_neg c1] at h
    refine lv_iconst (v := 0) hx hb dX12_compose_50 (by decide) ?_
    refine lv_istore (lv' := [(5, .int 0), (0, .ref (B + x0)), (1, .int x1), (2, .int x2), (3, .int x3), (4, .int x4)]) hx hb dX12_compose_51 hl (by decide) rfl (fun ls hl => ?_)
    refine lv_iconst (v := 0) hx hb dX12_compose_53 (by decide) ?_
    refine lv_istore (lv' := [(6, .int 0), (5, .int 0), (0, .ref (B + x0)), (1, .int x1), (2, .int x2), (3, .int x3), (4, .int x4)]) hx hb dX12_compose_54 hl (by decide) rfl (fun ls hl => ?_)
    exact wX12_compose_56 C hr hk rc36 hrc36 rc44 hrc44 _ _ _ _ _ _ _ _ _ _ _ h t0 H locs hT ls (lv_sub hl [2, 3, 4, 5, 6, 1, 0] rfl)
set_option maxHeartbeats 4000000 in
set_option maxRecDepth 20000 in
theorem wX12_compose_44 (C : js_C D g p m c cX12_compose 9 s args RX12) (hr : meth.sig.returnType = (some .int)) (hk : meth.locks = false) (rc36 : Nat → Int32 → Int32 → Int32 → js_S → Option (Int32 × js_S)) (hrc36 : ∀ (x0 : Nat) (x1 : Int32) (x2 : Int32) (x3 : Int32) (σ : js_S) (r0 : Int32) (σ0 : js_S), rc36 x0 x1 x2 x3 σ = some (r0, σ0) → ob_ nn 12 x0 → js_at p l e 1 s m args below meth c D B g nn 36 9 [(0, .ref (B + x0)), (1, .int x1), (2, .int x2), (3, .int x3)] [] σ (js_QI D B g nn r0 σ0)) : ∀ (k : Nat), ∀ (x0 : Nat) (x1 : Int32) (x2 : Int32) (x3 : Int32) (x4 : Int32) (σ : js_S) (r0 : Int32) (σ0 : js_S), fX12_compose_44 fu rc36 k x0 x1 x2 x3 x4 σ = some (r0, σ0) → ob_ nn 12 x0 → js_at p l e 1 s m args below meth c D B g nn 44 9 [(0, .ref (B + x0)), (1, .int x1), (2, .int x2), (3, .int x3), (4, .int x4)] [] σ (js_QI D B g nn r0 σ0) := by
  intro k
  induction k with
  | zero =>
    intro x0 x1 x2 x3 x4 σ r0 σ0 h
    cases h
  | succ k ih =>
    intro x0 x1 x2 x3 x4 σ r0 σ0 h
    exact wX12_compose_44b C hr hk rc36 hrc36 (fX12_compose_44 fu rc36 k) ih x0 x1 x2 x3 x4 σ r0 σ0 h
set_option maxHeartbeats 4000000 in
set_option maxRecDepth 20000 in
theorem wX12_compose_36b (C : js_C D g p m c cX12_compose 9 s args RX12) (hr : meth.sig.returnType = (some .int)) (hk : meth.locks = false) (rc36 : Nat → Int32 → Int32 → Int32 → js_S → Option (Int32 × js_S)) (hrc36 : ∀ (x0 : Nat) (x1 : Int32) (x2 : Int32) (x3 : Int32) (σ : js_S) (r0 : Int32) (σ0 : js_S), rc36 x0 x1 x2 x3 σ = some (r0, σ0) → ob_ nn 12 x0 → js_at p l e 1 s m args below meth c D B g nn 36 9 [(0, .ref (B + x0)), (1, .int x1), (2, .int x2), (3, .int x3)] [] σ (js_QI D B g nn r0 σ0)) : ∀ (x0 : Nat) (x1 : Int32) (x2 : Int32) (x3 : Int32) (σ : js_S) (r0 : Int32) (σ0 : js_S), fX12_compose_36b fu rc36 x0 x1 x2 x3 σ = some (r0, σ0) → ob_ nn 12 x0 → js_at p l e 1 s m args below meth c D B g nn 36 9 [(0, .ref (B + x0)), (1, .int x1), (2, .int x2), (3, .int x3)] [] σ (js_QI D B g nn r0 σ0) := by
  obtain ⟨hx, hb, hml, hown, ht, hK, hNw⟩ := id C
  intro x0 x1 x2 x3 σ r0 σ0 h t0 H locs hT ls hl
  unfold fX12_compose_36b at h
  refine lv_iload_n hx hb dX12_compose_36 rfl (lv_at hl 3 rfl) ?_
  refine lv_iconst (v := 3) hx hb dX12_compose_37 (by decide) ?_
  refine lv_icmp_ge (tgt := 148) hx hb dX12_compose_38 (by decide) (fun c1 => ?_) (fun c1 => ?_)
  · rw [if_pos c1] at h
    refine lv_iload_n hx hb dX12_compose_148 rfl (lv_at hl 1 rfl) ?_
    obtain ⟨r2, σ2, hc2, h⟩ := bd_some h
    refine js_backI hT (js_runS C hT mfX12_functions lk_X12_233 (kX12_functions  hc2) ⟨Nat.le_of_ble_eq_true rfl, Nat.le_of_ble_eq_true rfl⟩ rfl hl.1 rfl (Nat.le_of_ble_eq_true rfl) ⟨Nat.zero_le _, Nat.zero_le _⟩ dX12_compose_149) (fun H locs hT => ?_)
    refine lv_iconst (v := 3) hx hb dX12_compose_152 (by decide) ?_
    refine lv_idiv hx hb dX12_compose_153 (by decide) ?_
    refine lv_iconst (v := 3) hx hb dX12_compose_154 (by decide) ?_
    refine lv_imul hx hb dX12_compose_155 ?_
    refine lv_iload_n hx hb dX12_compose_156 rfl (lv_at hl 2 rfl) ?_
    obtain ⟨r3, σ3, hc3, h⟩ := bd_some h
    refine js_backI hT (js_runS C hT mfX12_functions lk_X12_233 (kX12_functions  hc3) ⟨Nat.le_of_ble_eq_true rfl, Nat.le_of_ble_eq_true rfl⟩ rfl hl.1 rfl (Nat.le_of_ble_eq_true rfl) ⟨Nat.zero_le _, Nat.zero_le _⟩ dX12_compose_157) (fun H locs hT => ?_)
    refine lv_iconst (v := 3) hx hb dX12_compose_160 (by decide) ?_
    refine lv_irem hx hb dX12_compose_161 (by decide) ?_
    refine lv_iadd hx hb dX12_compose_162 ?_
    refine lv_aload_n hx hb dX12_compose_163 rfl (lv_at hl 0 rfl) ?_
    refine js_gR C hT cfX12 t0 30 (by decide) (q := 20) rfl (by decide) lk_X12_79 dX12_compose_164 (fun t4a => ?_)
    obtain ⟨r5, σ5, hc5, h⟩ := bd_some h
    refine js_backI hT (js_runS C hT mfX12_encode lk_X12_246 (kX12_encode t4a hc5) ⟨Nat.le_of_ble_eq_true rfl, Nat.le_of_ble_eq_true rfl⟩ rfl hl.1 rfl (Nat.le_of_ble_eq_true rfl) ⟨Nat.zero_le _, Nat.zero_le _⟩ dX12_compose_167) (fun H locs hT => ?_)
    obtain ⟨rfl, rfl⟩ := js_rt h
    exact js_iret C hT hr hk dX12_compose_170
  · rw [if_neg c1] at h
    refine lv_iconst (v := 0) hx hb dX12_compose_41 (by decide) ?_
    refine lv_istore (lv' := [(4, .int 0), (0, .ref (B + x0)), (1, .int x1), (2, .int x2), (3, .int x3)]) hx hb dX12_compose_42 hl (by decide) rfl (fun ls hl => ?_)
    exact wX12_compose_44 C hr hk rc36 hrc36 _ _ _ _ _ _ _ _ _ h t0 H locs hT ls (lv_sub hl [1, 2, 3, 4, 0] rfl)
set_option maxHeartbeats 4000000 in
set_option maxRecDepth 20000 in
theorem wX12_compose_36 (C : js_C D g p m c cX12_compose 9 s args RX12) (hr : meth.sig.returnType = (some .int)) (hk : meth.locks = false) : ∀ (k : Nat), ∀ (x0 : Nat) (x1 : Int32) (x2 : Int32) (x3 : Int32) (σ : js_S) (r0 : Int32) (σ0 : js_S), fX12_compose_36 fu k x0 x1 x2 x3 σ = some (r0, σ0) → ob_ nn 12 x0 → js_at p l e 1 s m args below meth c D B g nn 36 9 [(0, .ref (B + x0)), (1, .int x1), (2, .int x2), (3, .int x3)] [] σ (js_QI D B g nn r0 σ0) := by
  intro k
  induction k with
  | zero =>
    intro x0 x1 x2 x3 σ r0 σ0 h
    cases h
  | succ k ih =>
    intro x0 x1 x2 x3 σ r0 σ0 h
    exact wX12_compose_36b C hr hk (fX12_compose_36 fu k) ih x0 x1 x2 x3 σ r0 σ0 h
set_option maxHeartbeats 4000000 in
set_option maxRecDepth 20000 in
theorem kX12_compose {x0 : Nat} {x1 : Int32} {x2 : Int32} {σ σ0 : js_S} {r0 : Int32} (t0 : ob_ nn 12 x0) (h : fX12_compose fu x0 x1 x2 σ = some (r0, σ0)) : js_M l D B g nn yX12_compose cX12_compose 9 (some .int) 1 [.ref (B + x0), .int x1, .int x2] σ (js_QI D B g nn r0 σ0) := by
  refine js_enter (by decide) (Nat.le_of_ble_eq_true rfl) ?_
  intro p e s m args below meth c C hr hk ls hl hT
  have hl : lv_has ls 9 [(0, .ref (B + x0)), (1, .int x1), (2, .int x2)] := hl
  obtain ⟨hx, hb, hml, hown, ht, hK, hNw⟩ := id C
  obtain ⟨H, eH⟩ : ∃ H, H = s.heap := ⟨_, rfl⟩
  obtain ⟨locs, eL⟩ : ∃ z : List Loc, z = [] := ⟨_, rfl⟩
  rw [← eH, ← eL]
  rw [← eH, ← eL] at hT
  clear eH eL
  unfold fX12_compose at h
  refine lv_iload_n hx hb dX12_compose_0 rfl (lv_at hl 1 rfl) ?_
  obtain ⟨r1, σ1, hc1, h⟩ := bd_some h
  refine js_backI hT (js_runS C hT mfX12_functions lk_X12_233 (kX12_functions  hc1) ⟨Nat.le_of_ble_eq_true rfl, Nat.le_of_ble_eq_true rfl⟩ rfl hl.1 rfl (Nat.le_of_ble_eq_true rfl) ⟨Nat.zero_le _, Nat.zero_le _⟩ dX12_compose_1) (fun H locs hT => ?_)
  refine lv_iconst (v := 3) hx hb dX12_compose_4 (by decide) ?_
  refine lv_irem hx hb dX12_compose_5 (by decide) ?_
  refine lv_iload_n hx hb dX12_compose_6 rfl (lv_at hl 2 rfl) ?_
  obtain ⟨r2, σ2, hc2, h⟩ := bd_some h
  refine js_backI hT (js_runS C hT mfX12_functions lk_X12_233 (kX12_functions  hc2) ⟨Nat.le_of_ble_eq_true rfl, Nat.le_of_ble_eq_true rfl⟩ rfl hl.1 rfl (Nat.le_of_ble_eq_true rfl) ⟨Nat.zero_le _, Nat.zero_le _⟩ dX12_compose_7) (fun H locs hT => ?_)
  refine lv_iconst (v := 3) hx hb dX12_compose_10 (by decide) ?_
  refine lv_idiv hx hb dX12_compose_11 (by decide) ?_
  refine lv_icmp_eq (tgt := 18) hx hb dX12_compose_12 (by decide) (fun c3 => ?_) (fun c3 => ?_)
  · rw [if_pos c3] at h
    refine lv_iload_n hx hb dX12_compose_18 rfl (lv_at hl 1 rfl) ?_
    refine lv_aload_n hx hb dX12_compose_19 rfl (lv_at hl 0 rfl) ?_
    refine js_gR C hT cfX12 t0 26 (by decide) (q := 20) rfl (by decide) lk_X12_69 dX12_compose_20 (fun t4a => ?_)
    obtain ⟨z5, σ5, hc5, h⟩ := bd_some h
    refine js_backV hT (js_runS C hT mfX12_decode lk_X12_236 (kX12_decode t4a hc5) ⟨Nat.le_of_ble_eq_true rfl, Nat.le_of_ble_eq_true rfl⟩ rfl hl.1 rfl (Nat.le_of_ble_eq_true rfl) ⟨Nat.zero_le _, Nat.zero_le _⟩ dX12_compose_23) (fun H locs hT => ?_)
    refine lv_iload_n hx hb dX12_compose_26 rfl (lv_at hl 2 rfl) ?_
    refine lv_aload_n hx hb dX12_compose_27 rfl (lv_at hl 0 rfl) ?_
    refine js_gR C hT cfX12 t0 27 (by decide) (q := 20) rfl (by decide) lk_X12_72 dX12_compose_28 (fun t6a => ?_)
    obtain ⟨z7, σ7, hc7, h⟩ := bd_some h
    refine js_backV hT (js_runS C hT mfX12_decode lk_X12_236 (kX12_decode t6a hc7) ⟨Nat.le_of_ble_eq_true rfl, Nat.le_of_ble_eq_true rfl⟩ rfl hl.1 rfl (Nat.le_of_ble_eq_true rfl) ⟨Nat.zero_le _, Nat.zero_le _⟩ dX12_compose_31) (fun H locs hT => ?_)
    refine lv_iconst (v := 0) hx hb dX12_compose_34 (by decide) ?_
    refine lv_istore_n (lv' := [(3, .int 0), (0, .ref (B + x0)), (1, .int x1), (2, .int x2)]) hx hb dX12_compose_35 rfl hl (by decide) rfl (fun ls hl => ?_)
    exact wX12_compose_36 C hr hk _ _ _ _ _ _ _ _ h t0 H locs hT ls (lv_sub hl [1, 2, 3, 0] rfl)
  · rw [if_neg c3] at h
    refine lv_bipush (v := (-5)) hx hb dX12_compose_15 (by decide) ?_
    obtain ⟨rfl, rfl⟩ := js_rt h
    exact js_iret C hT hr hk dX12_compose_17
set_option maxHeartbeats 4000000 in
set_option maxRecDepth 20000 in
theorem wX12_findPairs_63 (C : js_C D g p m c cX12_findPairs 4 s args RX12) (hr : meth.sig.returnType = (some .int)) (hk : meth.locks = false) (rc4 : Nat → Int32 → Int32 → js_S → Option (Int32 × js_S)) (hrc4 : ∀ (x0 : Nat) (x1 : Int32) (x2 : Int32) (σ : js_S) (r0 : Int32) (σ0 : js_S), rc4 x0 x1 x2 σ = some (r0, σ0) → ob_ nn 12 x0 → js_at p l e 2 s m args below meth c D B g nn 4 4 [(0, .ref (B + x0)), (1, .int x1), (2, .int x2)] [] σ (js_QI D B g nn r0 σ0)) (rc14 : Nat → Int32 → Int32 → Int32 → js_S → Option (Int32 × js_S)) (hrc14 : ∀ (x0 : Nat) (x1 : Int32) (x2 : Int32) (x3 : Int32) (σ : js_S) (r0 : Int32) (σ0 : js_S), rc14 x0 x1 x2 x3 σ = some (r0, σ0) → ob_ nn 12 x0 → js_at p l e 2 s m args below meth c D B g nn 14 4 [(0, .ref (B + x0)), (1, .int x1), (2, .int x2), (3, .int x3)] [] σ (js_QI D B g nn r0 σ0)) : ∀ (x0 : Nat) (x1 : Int32) (x2 : Int32) (x3 : Int32) (σ : js_S) (r0 : Int32) (σ0 : js_S), fX12_findPairs_63 fu rc4 rc14 x0 x1 x2 x3 σ = some (r0, σ0) → ob_ nn 12 x0 → js_at p l e 2 s m args below meth c D B g nn 63 4 [(0, .ref (B + x0)), (1, .int x1), (2, .int x2), (3, .int x3)] [] σ (js_QI D B g nn r0 σ0) := by
  obtain ⟨hx, hb, hml, hown, ht, hK, hNw⟩ := id C
  intro x0 x1 x2 x3 σ r0 σ0 h t0 H locs hT ls hl
  unfold fX12_findPairs_63 at h
  refine lv_iinc (v := x3 + 1) (lv' := [(3, .int (x3 + 1)), (0, .ref (B + x0)), (1, .int x1), (2, .int x2)]) hx hb dX12_findPairs_63 hl (k := 3) rfl rfl (by decide) rfl (fun ls hl => ?_)
  refine lv_goto (tgt := 14) hx hb dX12_findPairs_66 (by decide) ?_
  exact hrc14 _ _ _ _ _ _ _ h t0 H locs hT ls (lv_sub hl [1, 2, 3, 0] rfl)
set_option maxHeartbeats 4000000 in
set_option maxRecDepth 20000 in
theorem wX12_findPairs_14b (C : js_C D g p m c cX12_findPairs 4 s args RX12) (hr : meth.sig.returnType = (some .int)) (hk : meth.locks = false) (rc4 : Nat → Int32 → Int32 → js_S → Option (Int32 × js_S)) (hrc4 : ∀ (x0 : Nat) (x1 : Int32) (x2 : Int32) (σ : js_S) (r0 : Int32) (σ0 : js_S), rc4 x0 x1 x2 σ = some (r0, σ0) → ob_ nn 12 x0 → js_at p l e 2 s m args below meth c D B g nn 4 4 [(0, .ref (B + x0)), (1, .int x1), (2, .int x2)] [] σ (js_QI D B g nn r0 σ0)) (rc14 : Nat → Int32 → Int32 → Int32 → js_S → Option (Int32 × js_S)) (hrc14 : ∀ (x0 : Nat) (x1 : Int32) (x2 : Int32) (x3 : Int32) (σ : js_S) (r0 : Int32) (σ0 : js_S), rc14 x0 x1 x2 x3 σ = some (r0, σ0) → ob_ nn 12 x0 → js_at p l e 2 s m args below meth c D B g nn 14 4 [(0, .ref (B + x0)), (1, .int x1), (2, .int x2), (3, .int x3)] [] σ (js_QI D B g nn r0 σ0)) : ∀ (x0 : Nat) (x1 : Int32) (x2 : Int32) (x3 : Int32) (σ : js_S) (r0 : Int32) (σ0 : js_S), fX12_findPairs_14b fu rc4 rc14 x0 x1 x2 x3 σ = some (r0, σ0) → ob_ nn 12 x0 → js_at p l e 2 s m args below meth c D B g nn 14 4 [(0, .ref (B + x0)), (1, .int x1), (2, .int x2), (3, .int x3)] [] σ (js_QI D B g nn r0 σ0) := by
  obtain ⟨hx, hb, hml, hown, ht, hK, hNw⟩ := id C
  intro x0 x1 x2 x3 σ r0 σ0 h t0 H locs hT ls hl
  unfold fX12_findPairs_14b at h
  refine lv_iload_n hx hb dX12_findPairs_14 rfl (lv_at hl 3 rfl) ?_
  refine lv_aload_n hx hb dX12_findPairs_15 rfl (lv_at hl 0 rfl) ?_
  refine js_gR C hT cfX12 t0 2 (by decide) (q := 20) rfl (by decide) lk_X12_16 dX12_findPairs_16 (fun t1a => ?_)
  refine lv_iload_n hx hb dX12_findPairs_19 rfl (lv_at hl 2 rfl) ?_
  obtain ⟨r2, σ2, hc2, h⟩ := bd_some h
  refine js_backI hT (js_runS C hT mfX12_right lk_X12_145 (kX12_right  hc2) ⟨Nat.le_of_ble_eq_true rfl, Nat.le_of_ble_eq_true rfl⟩ rfl hl.1 rfl (Nat.le_of_ble_eq_true rfl) ⟨Nat.zero_le _, Nat.zero_le _⟩ dX12_findPairs_20) (fun H locs hT => ?_)
  obtain ⟨g3, h⟩ := gd_some _ h
  refine js_iald C hT t1a g3 dX12_findPairs_23 ?_
  refine lv_icmp_ge (tgt := 69) hx hb dX12_findPairs_24 (by decide) (fun c4 => ?_) (fun c4 => ?_)
  · rw [if_pos c4] at h
    refine lv_iinc (v := x2 + 1) (lv' := [(2, .int (x2 + 1)), (0, .ref (B + x0)), (1, .int x1), (3, .int x3)]) hx hb dX12_findPairs_69 hl (k := 2) rfl rfl (by decide) rfl (fun ls hl => ?_)
    refine lv_goto (tgt := 4) hx hb dX12_findPairs_72 (by decide) ?_
    exact hrc4 _ _ _ _ _ _ h t0 H locs hT ls (lv_sub hl [1, 2, 0] rfl)
  · rw [if_neg c4] at h
    refine lv_aload_n hx hb dX12_findPairs_27 rfl (lv_at hl 0 rfl) ?_
    refine js_gR C hT cfX12 t0 2 (by decide) (q := 20) rfl (by decide) lk_X12_16 dX12_findPairs_28 (fun t5a => ?_)
    refine lv_iload_n hx hb dX12_findPairs_31 rfl (lv_at hl 2 rfl) ?_
    obtain ⟨r6, σ6, hc6, h⟩ := bd_some h
    refine js_backI hT (js_runS C hT mfX12_right lk_X12_145 (kX12_right  hc6) ⟨Nat.le_of_ble_eq_true rfl, Nat.le_of_ble_eq_true rfl⟩ rfl hl.1 rfl (Nat.le_of_ble_eq_true rfl) ⟨Nat.zero_le _, Nat.zero_le _⟩ dX12_findPairs_32) (fun H locs hT => ?_)
    refine lv_iconst (v := 1) hx hb dX12_findPairs_35 (by decide) ?_
    refine lv_iadd hx hb dX12_findPairs_36 ?_
    refine lv_iload_n hx hb dX12_findPairs_37 rfl (lv_at hl 3 rfl) ?_
    refine lv_iadd hx hb dX12_findPairs_38 ?_
    obtain ⟨g7, h⟩ := gd_some _ h
    refine js_iald C hT t5a g7 dX12_findPairs_39 ?_
    obtain ⟨r8, σ8, hc8, h⟩ := bd_some h
    refine js_backI hT (js_runS C hT mfX12_isFunction lk_X12_109 (kX12_isFunction  hc8) ⟨Nat.le_of_ble_eq_true rfl, Nat.le_of_ble_eq_true rfl⟩ rfl hl.1 rfl (Nat.le_of_ble_eq_true rfl) ⟨Nat.zero_le _, Nat.zero_le _⟩ dX12_findPairs_40) (fun H locs hT => ?_)
    refine lv_if_eq (tgt := 63) hx hb dX12_findPairs_43 (by decide) (fun c9 => ?_) (fun c9 => ?_)
    · rw [if_pos c9] at h
      exact wX12_findPairs_63 C hr hk rc4 hrc4 rc14 hrc14 _ _ _ _ _ _ _ h t0 H locs hT ls (lv_sub hl [0, 1, 2, 3] rfl)
    · rw [if_neg c9] at h
      refine lv_aload_n hx hb dX12_findPairs_46 rfl (lv_at hl 0 rfl) ?_
      refine js_gR C hT cfX12 t0 17 (by decide) (q := 20) rfl (by decide) lk_X12_46 dX12_findPairs_47 (fun t10a => ?_)
      refine lv_iload_n hx hb dX12_findPairs_50 rfl (lv_at hl 1 rfl) ?_
      refine lv_iload_n hx hb dX12_findPairs_51 rfl (lv_at hl 2 rfl) ?_
      obtain ⟨g11, h⟩ := gd_some _ h
      obtain ⟨σ11, e11, h⟩ := lt_some h
      refine js_iast C hT t10a g11 dX12_findPairs_52 (fun H locs hT => ?_)
      rw [e11] at hT
      refine lv_aload_n hx hb dX12_findPairs_53 rfl (lv_at hl 0 rfl) ?_
      refine js_gR C hT cfX12 t0 18 (by decide) (q := 20) rfl (by decide) lk_X12_49 dX12_findPairs_54 (fun t12a => ?_)
      refine lv_iload_n hx hb dX12_findPairs_57 rfl (lv_at hl 1 rfl) ?_
      refine lv_iload_n hx hb dX12_findPairs_58 rfl (lv_at hl 3 rfl) ?_
      obtain ⟨g13, h⟩ := gd_some _ h
      obtain ⟨σ13, e13, h⟩ := lt_some h
      refine js_iast C hT t12a g13 dX12_findPairs_59 (fun H locs hT => ?_)
      rw [e13] at hT
      refine lv_iinc (v := x1 + 1) (lv' := [(1, .int (x1 + 1)), (0, .ref (B + x0)), (2, .int x2), (3, .int x3)]) hx hb dX12_findPairs_60 hl (k := 1) rfl rfl (by decide) rfl (fun ls hl => ?_)
      exact wX12_findPairs_63 C hr hk rc4 hrc4 rc14 hrc14 _ _ _ _ _ _ _ h t0 H locs hT ls (lv_sub hl [1, 0, 2, 3] rfl)
set_option maxHeartbeats 4000000 in
set_option maxRecDepth 20000 in
theorem wX12_findPairs_14 (C : js_C D g p m c cX12_findPairs 4 s args RX12) (hr : meth.sig.returnType = (some .int)) (hk : meth.locks = false) (rc4 : Nat → Int32 → Int32 → js_S → Option (Int32 × js_S)) (hrc4 : ∀ (x0 : Nat) (x1 : Int32) (x2 : Int32) (σ : js_S) (r0 : Int32) (σ0 : js_S), rc4 x0 x1 x2 σ = some (r0, σ0) → ob_ nn 12 x0 → js_at p l e 2 s m args below meth c D B g nn 4 4 [(0, .ref (B + x0)), (1, .int x1), (2, .int x2)] [] σ (js_QI D B g nn r0 σ0)) : ∀ (k : Nat), ∀ (x0 : Nat) (x1 : Int32) (x2 : Int32) (x3 : Int32) (σ : js_S) (r0 : Int32) (σ0 : js_S), fX12_findPairs_14 fu rc4 k x0 x1 x2 x3 σ = some (r0, σ0) → ob_ nn 12 x0 → js_at p l e 2 s m args below meth c D B g nn 14 4 [(0, .ref (B + x0)), (1, .int x1), (2, .int x2), (3, .int x3)] [] σ (js_QI D B g nn r0 σ0) := by
  intro k
  induction k with
  | zero =>
    intro x0 x1 x2 x3 σ r0 σ0 h
    cases h
  | succ k ih =>
    intro x0 x1 x2 x3 σ r0 σ0 h
    exact wX12_findPairs_14b C hr hk rc4 hrc4 (fX12_findPairs_14 fu rc4 k) ih x0 x1 x2 x3 σ r0 σ0 h
set_option maxHeartbeats 4000000 in
set_option maxRecDepth 20000 in
theorem wX12_findPairs_4b (C : js_C D g p m c cX12_findPairs 4 s args RX12) (hr : meth.sig.returnType = (some .int)) (hk : meth.locks = false) (rc4 : Nat → Int32 → Int32 → js_S → Option (Int32 × js_S)) (hrc4 : ∀ (x0 : Nat) (x1 : Int32) (x2 : Int32) (σ : js_S) (r0 : Int32) (σ0 : js_S), rc4 x0 x1 x2 σ = some (r0, σ0) → ob_ nn 12 x0 → js_at p l e 2 s m args below meth c D B g nn 4 4 [(0, .ref (B + x0)), (1, .int x1), (2, .int x2)] [] σ (js_QI D B g nn r0 σ0)) : ∀ (x0 : Nat) (x1 : Int32) (x2 : Int32) (σ : js_S) (r0 : Int32) (σ0 : js_S), fX12_findPairs_4b fu rc4 x0 x1 x2 σ = some (r0, σ0) → ob_ nn 12 x0 → js_at p l e 2 s m args below meth c D B g nn 4 4 [(0, .ref (B + x0)), (1, .int x1), (2, .int x2)] [] σ (js_QI D B g nn r0 σ0) := by
  obtain ⟨hx, hb, hml, hown, ht, hK, hNw⟩ := id C
  intro x0 x1 x2 σ r0 σ0 h t0 H locs hT ls hl
  unfold fX12_findPairs_4b at h
  refine lv_iload_n hx hb dX12_findPairs_4 rfl (lv_at hl 2 rfl) ?_
  refine lv_aload_n hx hb dX12_findPairs_5 rfl (lv_at hl 0 rfl) ?_
  refine js_gI C hT cfX12 t0 6 (by decide) rfl lk_X12_121 dX12_findPairs_6 ?_
  refine lv_icmp_ge (tgt := 75) hx hb dX12_findPairs_9 (by decide) (fun c1 => ?_) (fun c1 => ?_)
  · rw [if_pos c1] at h
    refine lv_iload_n hx hb dX12_findPairs_75 rfl (lv_at hl 1 rfl) ?_
    obtain ⟨rfl, rfl⟩ := js_rt h
    exact js_iret C hT hr hk dX12_findPairs_76
  · rw [if_neg c1] at h
    refine lv_iconst (v := 0) hx hb dX12_findPairs_12 (by decide) ?_
    refine lv_istore_n (lv' := [(3, .int 0), (0, .ref (B + x0)), (1, .int x1), (2, .int x2)]) hx hb dX12_findPairs_13 rfl hl (by decide) rfl (fun ls hl => ?_)
    exact wX12_findPairs_14 C hr hk rc4 hrc4 _ _ _ _ _ _ _ _ h t0 H locs hT ls (lv_sub hl [1, 2, 3, 0] rfl)
set_option maxHeartbeats 4000000 in
set_option maxRecDepth 20000 in
theorem wX12_findPairs_4 (C : js_C D g p m c cX12_findPairs 4 s args RX12) (hr : meth.sig.returnType = (some .int)) (hk : meth.locks = false) : ∀ (k : Nat), ∀ (x0 : Nat) (x1 : Int32) (x2 : Int32) (σ : js_S) (r0 : Int32) (σ0 : js_S), fX12_findPairs_4 fu k x0 x1 x2 σ = some (r0, σ0) → ob_ nn 12 x0 → js_at p l e 2 s m args below meth c D B g nn 4 4 [(0, .ref (B + x0)), (1, .int x1), (2, .int x2)] [] σ (js_QI D B g nn r0 σ0) := by
  intro k
  induction k with
  | zero =>
    intro x0 x1 x2 σ r0 σ0 h
    cases h
  | succ k ih =>
    intro x0 x1 x2 σ r0 σ0 h
    exact wX12_findPairs_4b C hr hk (fX12_findPairs_4 fu k) ih x0 x1 x2 σ r0 σ0 h
set_option maxHeartbeats 4000000 in
set_option maxRecDepth 20000 in
theorem kX12_findPairs {x0 : Nat} {σ σ0 : js_S} {r0 : Int32} (t0 : ob_ nn 12 x0) (h : fX12_findPairs fu x0 σ = some (r0, σ0)) : js_M l D B g nn yX12_findPairs cX12_findPairs 4 (some .int) 2 [.ref (B + x0)] σ (js_QI D B g nn r0 σ0) := by
  refine js_enter (by decide) (Nat.le_of_ble_eq_true rfl) ?_
  intro p e s m args below meth c C hr hk ls hl hT
  have hl : lv_has ls 4 [(0, .ref (B + x0))] := hl
  obtain ⟨hx, hb, hml, hown, ht, hK, hNw⟩ := id C
  obtain ⟨H, eH⟩ : ∃ H, H = s.heap := ⟨_, rfl⟩
  obtain ⟨locs, eL⟩ : ∃ z : List Loc, z = [] := ⟨_, rfl⟩
  rw [← eH, ← eL]
  rw [← eH, ← eL] at hT
  clear eH eL
  unfold fX12_findPairs at h
  refine lv_iconst (v := 0) hx hb dX12_findPairs_0 (by decide) ?_
  refine lv_istore_n (lv' := [(1, .int 0), (0, .ref (B + x0))]) hx hb dX12_findPairs_1 rfl hl (by decide) rfl (fun ls hl => ?_)
  refine lv_iconst (v := 0) hx hb dX12_findPairs_2 (by decide) ?_
  refine lv_istore_n (lv' := [(2, .int 0), (1, .int 0), (0, .ref (B + x0))]) hx hb dX12_findPairs_3 rfl hl (by decide) rfl (fun ls hl => ?_)
  exact wX12_findPairs_4 C hr hk _ _ _ _ _ _ _ h t0 H locs hT ls (lv_sub hl [2, 1, 0] rfl)
set_option maxHeartbeats 4000000 in
set_option maxRecDepth 20000 in
theorem kX12_source {x0 : Nat} {x1 : Int32} {σ σ0 : js_S} {r0 : Int32} (t0 : ob_ nn 12 x0) (h : fX12_source fu x0 x1 σ = some (r0, σ0)) : js_M l D B g nn yX12_source cX12_source 2 (some .int) 1 [.ref (B + x0), .int x1] σ (js_QI D B g nn r0 σ0) := by
  refine js_enter (by decide) (Nat.le_of_ble_eq_true rfl) ?_
  intro p e s m args below meth c C hr hk ls hl hT
  have hl : lv_has ls 2 [(0, .ref (B + x0)), (1, .int x1)] := hl
  obtain ⟨hx, hb, hml, hown, ht, hK, hNw⟩ := id C
  obtain ⟨H, eH⟩ : ∃ H, H = s.heap := ⟨_, rfl⟩
  obtain ⟨locs, eL⟩ : ∃ z : List Loc, z = [] := ⟨_, rfl⟩
  rw [← eH, ← eL]
  rw [← eH, ← eL] at hT
  clear eH eL
  unfold fX12_source at h
  refine lv_aload_n hx hb dX12_source_0 rfl (lv_at hl 0 rfl) ?_
  refine js_gR C hT cfX12 t0 17 (by decide) (q := 20) rfl (by decide) lk_X12_46 dX12_source_1 (fun t1a => ?_)
  refine lv_iload_n hx hb dX12_source_4 rfl (lv_at hl 1 rfl) ?_
  obtain ⟨g2, h⟩ := gd_some _ h
  refine js_iald C hT t1a g2 dX12_source_5 ?_
  obtain ⟨r3, σ3, hc3, h⟩ := bd_some h
  refine js_backI hT (js_runS C hT mfX12_left lk_X12_125 (kX12_left  hc3) ⟨Nat.le_of_ble_eq_true rfl, Nat.le_of_ble_eq_true rfl⟩ rfl hl.1 rfl (Nat.le_of_ble_eq_true rfl) ⟨Nat.zero_le _, Nat.zero_le _⟩ dX12_source_6) (fun H locs hT => ?_)
  refine lv_iconst (v := 1) hx hb dX12_source_9 (by decide) ?_
  refine lv_iadd hx hb dX12_source_10 ?_
  obtain ⟨rfl, rfl⟩ := js_rt h
  exact js_iret C hT hr hk dX12_source_11
set_option maxHeartbeats 4000000 in
set_option maxRecDepth 20000 in
theorem kX12_target {x0 : Nat} {x1 : Int32} {σ σ0 : js_S} {r0 : Int32} (t0 : ob_ nn 12 x0) (h : fX12_target fu x0 x1 σ = some (r0, σ0)) : js_M l D B g nn yX12_target cX12_target 2 (some .int) 1 [.ref (B + x0), .int x1] σ (js_QI D B g nn r0 σ0) := by
  refine js_enter (by decide) (Nat.le_of_ble_eq_true rfl) ?_
  intro p e s m args below meth c C hr hk ls hl hT
  have hl : lv_has ls 2 [(0, .ref (B + x0)), (1, .int x1)] := hl
  obtain ⟨hx, hb, hml, hown, ht, hK, hNw⟩ := id C
  obtain ⟨H, eH⟩ : ∃ H, H = s.heap := ⟨_, rfl⟩
  obtain ⟨locs, eL⟩ : ∃ z : List Loc, z = [] := ⟨_, rfl⟩
  rw [← eH, ← eL]
  rw [← eH, ← eL] at hT
  clear eH eL
  unfold fX12_target at h
  refine lv_aload_n hx hb dX12_target_0 rfl (lv_at hl 0 rfl) ?_
  refine js_gR C hT cfX12 t0 17 (by decide) (q := 20) rfl (by decide) lk_X12_46 dX12_target_1 (fun t1a => ?_)
  refine lv_iload_n hx hb dX12_target_4 rfl (lv_at hl 1 rfl) ?_
  obtain ⟨g2, h⟩ := gd_some _ h
  refine js_iald C hT t1a g2 dX12_target_5 ?_
  obtain ⟨r3, σ3, hc3, h⟩ := bd_some h
  refine js_backI hT (js_runS C hT mfX12_right lk_X12_145 (kX12_right  hc3) ⟨Nat.le_of_ble_eq_true rfl, Nat.le_of_ble_eq_true rfl⟩ rfl hl.1 rfl (Nat.le_of_ble_eq_true rfl) ⟨Nat.zero_le _, Nat.zero_le _⟩ dX12_target_6) (fun H locs hT => ?_)
  refine lv_iconst (v := 1) hx hb dX12_target_9 (by decide) ?_
  refine lv_iadd hx hb dX12_target_10 ?_
  refine lv_aload_n hx hb dX12_target_11 rfl (lv_at hl 0 rfl) ?_
  refine js_gR C hT cfX12 t0 18 (by decide) (q := 20) rfl (by decide) lk_X12_49 dX12_target_12 (fun t4a => ?_)
  refine lv_iload_n hx hb dX12_target_15 rfl (lv_at hl 1 rfl) ?_
  obtain ⟨g5, h⟩ := gd_some _ h
  refine js_iald C hT t4a g5 dX12_target_16 ?_
  refine lv_iadd hx hb dX12_target_17 ?_
  obtain ⟨rfl, rfl⟩ := js_rt h
  exact js_iret C hT hr hk dX12_target_18
set_option maxHeartbeats 4000000 in
set_option maxRecDepth 20000 in
theorem wX12_relation_121 (C : js_C D g p m c cX12_relation 9 s args RX12) (hr : meth.sig.returnType = (some .int)) (hk : meth.locks = false) (rc63 : Nat → Int32 → Int32 → Int32 → Int32 → Int32 → js_S → Option (Int32 × js_S)) (hrc63 : ∀ (x0 : Nat) (x4 : Int32) (x5 : Int32) (x6 : Int32) (x7 : Int32) (x8 : Int32) (σ : js_S) (r0 : Int32) (σ0 : js_S), rc63 x0 x4 x5 x6 x7 x8 σ = some (r0, σ0) → ob_ nn 12 x0 → js_at p l e 5 s m args below meth c D B g nn 63 9 [(0, .ref (B + x0)), (4, .int x4), (5, .int x5), (6, .int x6), (7, .int x7), (8, .int x8)] [] σ (js_QI D B g nn r0 σ0)) : ∀ (x0 : Nat) (x4 : Int32) (x5 : Int32) (x6 : Int32) (x7 : Int32) (x8 : Int32) (σ : js_S) (r0 : Int32) (σ0 : js_S), fX12_relation_121 fu rc63 x0 x4 x5 x6 x7 x8 σ = some (r0, σ0) → ob_ nn 12 x0 → js_at p l e 5 s m args below meth c D B g nn 121 9 [(0, .ref (B + x0)), (4, .int x4), (5, .int x5), (6, .int x6), (7, .int x7), (8, .int x8)] [] σ (js_QI D B g nn r0 σ0) := by
  obtain ⟨hx, hb, hml, hown, ht, hK, hNw⟩ := id C
  intro x0 x4 x5 x6 x7 x8 σ r0 σ0 h t0 H locs hT ls hl
  unfold fX12_relation_121 at h
  refine lv_iinc (v := x8 + 1) (lv' := [(8, .int (x8 + 1)), (0, .ref (B + x0)), (4, .int x4), (5, .int x5), (6, .int x6), (7, .int x7)]) hx hb dX12_relation_121 hl (k := 5) rfl rfl (by decide) rfl (fun ls hl => ?_)
  refine lv_goto (tgt := 63) hx hb dX12_relation_124 (by decide) ?_
  exact hrc63 _ _ _ _ _ _ _ _ _ h t0 H locs hT ls (lv_sub hl [1, 2, 3, 4, 5, 0] rfl)
set_option maxHeartbeats 4000000 in
set_option maxRecDepth 20000 in
theorem wX12_relation_63b (C : js_C D g p m c cX12_relation 9 s args RX12) (hr : meth.sig.returnType = (some .int)) (hk : meth.locks = false) (rc63 : Nat → Int32 → Int32 → Int32 → Int32 → Int32 → js_S → Option (Int32 × js_S)) (hrc63 : ∀ (x0 : Nat) (x4 : Int32) (x5 : Int32) (x6 : Int32) (x7 : Int32) (x8 : Int32) (σ : js_S) (r0 : Int32) (σ0 : js_S), rc63 x0 x4 x5 x6 x7 x8 σ = some (r0, σ0) → ob_ nn 12 x0 → js_at p l e 5 s m args below meth c D B g nn 63 9 [(0, .ref (B + x0)), (4, .int x4), (5, .int x5), (6, .int x6), (7, .int x7), (8, .int x8)] [] σ (js_QI D B g nn r0 σ0)) : ∀ (x0 : Nat) (x4 : Int32) (x5 : Int32) (x6 : Int32) (x7 : Int32) (x8 : Int32) (σ : js_S) (r0 : Int32) (σ0 : js_S), fX12_relation_63b fu rc63 x0 x4 x5 x6 x7 x8 σ = some (r0, σ0) → ob_ nn 12 x0 → js_at p l e 5 s m args below meth c D B g nn 63 9 [(0, .ref (B + x0)), (4, .int x4), (5, .int x5), (6, .int x6), (7, .int x7), (8, .int x8)] [] σ (js_QI D B g nn r0 σ0) := by
  obtain ⟨hx, hb, hml, hown, ht, hK, hNw⟩ := id C
  intro x0 x4 x5 x6 x7 x8 σ r0 σ0 h t0 H locs hT ls hl
  unfold fX12_relation_63b at h
  refine lv_iload hx hb dX12_relation_63 (lv_at hl 5 rfl) ?_
  refine lv_iload hx hb dX12_relation_65 (lv_at hl 4 rfl) ?_
  refine lv_icmp_ge (tgt := 127) hx hb dX12_relation_67 (by decide) (fun c1 => ?_) (fun c1 => ?_)
  · rw [if_pos c1] at h
    refine lv_iconst (v := 0) hx hb dX12_relation_127 (by decide) ?_
    obtain ⟨rfl, rfl⟩ := js_rt h
    exact js_iret C hT hr hk dX12_relation_128
  · rw [if_neg c1] at h
    refine lv_aload_n hx hb dX12_relation_70 rfl (lv_at hl 0 rfl) ?_
    refine lv_aload_n hx hb dX12_relation_71 rfl (lv_at hl 0 rfl) ?_
    refine js_gR C hT cfX12 t0 2 (by decide) (q := 20) rfl (by decide) lk_X12_16 dX12_relation_72 (fun t2a => ?_)
    refine lv_iload hx hb dX12_relation_75 (lv_at hl 5 rfl) ?_
    obtain ⟨r3, σ3, hc3, h⟩ := bd_some h
    refine js_backI hT (js_runV C hT cfX12 t0 rfl mfX12_end lk_X12_117 (kX12_end t0 t2a hc3) ⟨Nat.le_of_ble_eq_true rfl, Nat.le_of_ble_eq_true rfl⟩ rfl hl.1 rfl (Nat.le_of_ble_eq_true rfl) ⟨Nat.zero_le _, Nat.zero_le _⟩ dX12_relation_77) (fun H locs hT => ?_)
    refine lv_iload hx hb dX12_relation_80 (lv_at hl 5 rfl) ?_
    refine lv_isub hx hb dX12_relation_82 ?_
    refine lv_iload hx hb dX12_relation_83 (lv_at hl 3 rfl) ?_
    refine lv_icmp_ne (tgt := 121) hx hb dX12_relation_85 (by decide) (fun c4 => ?_) (fun c4 => ?_)
    · rw [if_neg c4] at h
      exact wX12_relation_121 C hr hk rc63 hrc63 _ _ _ _ _ _ _ _ _ h t0 H locs hT ls (lv_sub hl [0, 1, 2, 3, 4, 5] rfl)
    · rw [if_pos c4] at h
      refine lv_aload_n hx hb dX12_relation_88 rfl (lv_at hl 0 rfl) ?_
      refine js_gR C hT cfX12 t0 2 (by decide) (q := 20) rfl (by decide) lk_X12_16 dX12_relation_89 (fun t5a => ?_)
      refine lv_iload hx hb dX12_relation_92 (lv_at hl 5 rfl) ?_
      refine lv_aload_n hx hb dX12_relation_94 rfl (lv_at hl 0 rfl) ?_
      refine js_gR C hT cfX12 t0 2 (by decide) (q := 20) rfl (by decide) lk_X12_16 dX12_relation_95 (fun t6a => ?_)
      refine lv_iload hx hb dX12_relation_98 (lv_at hl 2 rfl) ?_
      refine lv_iload hx hb dX12_relation_100 (lv_at hl 3 rfl) ?_
      obtain ⟨r7, σ7, hc7, h⟩ := bd_some h
      refine js_backI hT (js_runS C hT mfX12_areEqual lk_X12_134 (kX12_areEqual t5a t6a hc7) ⟨Nat.le_of_ble_eq_true rfl, Nat.le_of_ble_eq_true rfl⟩ rfl hl.1 rfl (Nat.le_of_ble_eq_true rfl) ⟨Nat.zero_le _, Nat.zero_le _⟩ dX12_relation_102) (fun H locs hT => ?_)
      refine lv_if_eq (tgt := 121) hx hb dX12_relation_105 (by decide) (fun c8 => ?_) (fun c8 => ?_)
      · rw [if_pos c8] at h
        exact wX12_relation_121 C hr hk rc63 hrc63 _ _ _ _ _ _ _ _ _ h t0 H locs hT ls (lv_sub hl [0, 1, 2, 3, 4, 5] rfl)
      · rw [if_neg c8] at h
        refine lv_iload hx hb dX12_relation_108 (lv_at hl 5 rfl) ?_
        refine lv_iload hx hb dX12_relation_110 (lv_at hl 1 rfl) ?_
        refine lv_icmp_ne (tgt := 119) hx hb dX12_relation_112 (by decide) (fun c9 => ?_) (fun c9 => ?_)
        · rw [if_neg c9] at h
          refine lv_iconst (v := 2) hx hb dX12_relation_119 (by decide) ?_
          obtain ⟨rfl, rfl⟩ := js_rt h
          exact js_iret C hT hr hk dX12_relation_120
        · rw [if_pos c9] at h
          refine lv_iconst (v := 1) hx hb dX12_relation_115 (by decide) ?_
          refine lv_goto (tgt := 120) hx hb dX12_relation_116 (by decide) ?_
          obtain ⟨rfl, rfl⟩ := js_rt h
          exact js_iret C hT hr hk dX12_relation_120
set_option maxHeartbeats 4000000 in
set_option maxRecDepth 20000 in
theorem wX12_relation_63 (C : js_C D g p m c cX12_relation 9 s args RX12) (hr : meth.sig.returnType = (some .int)) (hk : meth.locks = false) : ∀ (k : Nat), ∀ (x0 : Nat) (x4 : Int32) (x5 : Int32) (x6 : Int32) (x7 : Int32) (x8 : Int32) (σ : js_S) (r0 : Int32) (σ0 : js_S), fX12_relation_63 fu k x0 x4 x5 x6 x7 x8 σ = some (r0, σ0) → ob_ nn 12 x0 → js_at p l e 5 s m args below meth c D B g nn 63 9 [(0, .ref (B + x0)), (4, .int x4), (5, .int x5), (6, .int x6), (7, .int x7), (8, .int x8)] [] σ (js_QI D B g nn r0 σ0) := by
  intro k
  induction k with
  | zero =>
    intro x0 x4 x5 x6 x7 x8 σ r0 σ0 h
    cases h
  | succ k ih =>
    intro x0 x4 x5 x6 x7 x8 σ r0 σ0 h
    exact wX12_relation_63b C hr hk (fX12_relation_63 fu k) ih x0 x4 x5 x6 x7 x8 σ r0 σ0 h
set_option maxHeartbeats 4000000 in
set_option maxRecDepth 20000 in
theorem kX12_relation {x0 : Nat} {x1 : Int32} {x2 : Int32} {x3 : Int32} {σ σ0 : js_S} {r0 : Int32} (t0 : ob_ nn 12 x0) (h : fX12_relation fu x0 x1 x2 x3 σ = some (r0, σ0)) : js_M l D B g nn yX12_relation cX12_relation 9 (some .int) 5 [.ref (B + x0), .int x1, .int x2, .int x3] σ (js_QI D B g nn r0 σ0) := by
  refine js_enter (by decide) (Nat.le_of_ble_eq_true rfl) ?_
  intro p e s m args below meth c C hr hk ls hl hT
  have hl : lv_has ls 9 [(0, .ref (B + x0)), (1, .int x1), (2, .int x2), (3, .int x3)] := hl
  obtain ⟨hx, hb, hml, hown, ht, hK, hNw⟩ := id C
  obtain ⟨H, eH⟩ : ∃ H, H = s.heap := ⟨_, rfl⟩
  obtain ⟨locs, eL⟩ : ∃ z : List Loc, z = [] := ⟨_, rfl⟩
  rw [← eH, ← eL]
  rw [← eH, ← eL] at hT
  clear eH eL
  unfold fX12_relation at h
  refine lv_aload_n hx hb dX12_relation_0 rfl (lv_at hl 0 rfl) ?_
  refine lv_aload_n hx hb dX12_relation_1 rfl (lv_at hl 0 rfl) ?_
  refine js_gR C hT cfX12 t0 2 (by decide) (q := 20) rfl (by decide) lk_X12_16 dX12_relation_2 (fun t1a => ?_)
  refine lv_aload_n hx hb dX12_relation_5 rfl (lv_at hl 0 rfl) ?_
  refine lv_iload_n hx hb dX12_relation_6 rfl (lv_at hl 1 rfl) ?_
  obtain ⟨r2, σ2, hc2, h⟩ := bd_some h
  refine js_backI hT (js_runV C hT cfX12 t0 rfl mfX12_source lk_X12_179 (kX12_source t0 hc2) ⟨Nat.le_of_ble_eq_true rfl, Nat.le_of_ble_eq_true rfl⟩ rfl hl.1 rfl (Nat.le_of_ble_eq_true rfl) ⟨Nat.zero_le _, Nat.zero_le _⟩ dX12_relation_7) (fun H locs hT => ?_)
  refine lv_iload_n hx hb dX12_relation_10 rfl (lv_at hl 2 rfl) ?_
  obtain ⟨r3, σ3, hc3, h⟩ := bd_some h
  refine js_backI hT (js_runV C hT cfX12 t0 rfl mfX12_argument lk_X12_201 (kX12_argument t0 t1a hc3) ⟨Nat.le_of_ble_eq_true rfl, Nat.le_of_ble_eq_true rfl⟩ rfl hl.1 rfl (Nat.le_of_ble_eq_true rfl) ⟨Nat.zero_le _, Nat.zero_le _⟩ dX12_relation_11) (fun H locs hT => ?_)
  refine lv_istore (lv' := [(4, .int r3), (0, .ref (B + x0)), (1, .int x1), (2, .int x2), (3, .int x3)]) hx hb dX12_relation_14 hl (by decide) rfl (fun ls hl => ?_)
  refine lv_aload_n hx hb dX12_relation_16 rfl (lv_at hl 1 rfl) ?_
  refine lv_aload_n hx hb dX12_relation_17 rfl (lv_at hl 1 rfl) ?_
  refine js_gR C hT cfX12 t0 2 (by decide) (q := 20) rfl (by decide) lk_X12_16 dX12_relation_18 (fun t4a => ?_)
  refine lv_aload_n hx hb dX12_relation_21 rfl (lv_at hl 1 rfl) ?_
  refine lv_iload_n hx hb dX12_relation_22 rfl (lv_at hl 2 rfl) ?_
  obtain ⟨r5, σ5, hc5, h⟩ := bd_some h
  refine js_backI hT (js_runV C hT cfX12 t0 rfl mfX12_target lk_X12_182 (kX12_target t0 hc5) ⟨Nat.le_of_ble_eq_true rfl, Nat.le_of_ble_eq_true rfl⟩ rfl hl.1 rfl (Nat.le_of_ble_eq_true rfl) ⟨Nat.zero_le _, Nat.zero_le _⟩ dX12_relation_23) (fun H locs hT => ?_)
  refine lv_iload_n hx hb dX12_relation_26 rfl (lv_at hl 4 rfl) ?_
  obtain ⟨r6, σ6, hc6, h⟩ := bd_some h
  refine js_backI hT (js_runV C hT cfX12 t0 rfl mfX12_argument lk_X12_201 (kX12_argument t0 t4a hc6) ⟨Nat.le_of_ble_eq_true rfl, Nat.le_of_ble_eq_true rfl⟩ rfl hl.1 rfl (Nat.le_of_ble_eq_true rfl) ⟨Nat.zero_le _, Nat.zero_le _⟩ dX12_relation_27) (fun H locs hT => ?_)
  refine lv_istore (lv' := [(5, .int r6), (4, .int r3), (0, .ref (B + x0)), (1, .int x1), (2, .int x2), (3, .int x3)]) hx hb dX12_relation_30 hl (by decide) rfl (fun ls hl => ?_)
  refine lv_aload_n hx hb dX12_relation_32 rfl (lv_at hl 2 rfl) ?_
  refine lv_aload_n hx hb dX12_relation_33 rfl (lv_at hl 2 rfl) ?_
  refine js_gR C hT cfX12 t0 2 (by decide) (q := 20) rfl (by decide) lk_X12_16 dX12_relation_34 (fun t7a => ?_)
  refine lv_iload hx hb dX12_relation_37 (lv_at hl 0 rfl) ?_
  obtain ⟨r8, σ8, hc8, h⟩ := bd_some h
  refine js_backI hT (js_runV C hT cfX12 t0 rfl mfX12_end lk_X12_117 (kX12_end t0 t7a hc8) ⟨Nat.le_of_ble_eq_true rfl, Nat.le_of_ble_eq_true rfl⟩ rfl hl.1 rfl (Nat.le_of_ble_eq_true rfl) ⟨Nat.zero_le _, Nat.zero_le _⟩ dX12_relation_39) (fun H locs hT => ?_)
  refine lv_iload hx hb dX12_relation_42 (lv_at hl 0 rfl) ?_
  refine lv_isub hx hb dX12_relation_44 ?_
  refine lv_istore (lv' := [(6, .int (r8 - r6)), (5, .int r6), (4, .int r3), (0, .ref (B + x0)), (1, .int x1), (2, .int x2), (3, .int x3)]) hx hb dX12_relation_45 hl (by decide) rfl (fun ls hl => ?_)
  refine lv_aload_n hx hb dX12_relation_47 rfl (lv_at hl 3 rfl) ?_
  refine lv_aload_n hx hb dX12_relation_48 rfl (lv_at hl 3 rfl) ?_
  refine js_gR C hT cfX12 t0 2 (by decide) (q := 20) rfl (by decide) lk_X12_16 dX12_relation_49 (fun t9a => ?_)
  refine lv_iload hx hb dX12_relation_52 (lv_at hl 2 rfl) ?_
  obtain ⟨r10, σ10, hc10, h⟩ := bd_some h
  refine js_backI hT (js_runV C hT cfX12 t0 rfl mfX12_end lk_X12_117 (kX12_end t0 t9a hc10) ⟨Nat.le_of_ble_eq_true rfl, Nat.le_of_ble_eq_true rfl⟩ rfl hl.1 rfl (Nat.le_of_ble_eq_true rfl) ⟨Nat.zero_le _, Nat.zero_le _⟩ dX12_relation_54) (fun H locs hT => ?_)
  refine lv_istore (lv' := [(7, .int r10), (6, .int (r8 - r6)), (5, .int r6), (4, .int r3), (0, .ref (B + x0)), (1, .int x1), (2, .int x2), (3, .int x3)]) hx hb dX12_relation_57 hl (by decide) rfl (fun ls hl => ?_)
  refine lv_iload hx hb dX12_relation_59 (lv_at hl 3 rfl) ?_
  refine lv_istore (lv' := [(8, .int r3), (7, .int r10), (6, .int (r8 - r6)), (5, .int r6), (4, .int r3), (0, .ref (B + x0)), (1, .int x1), (2, .int x2), (3, .int x3)]) hx hb dX12_relation_61 hl (by decide) rfl (fun ls hl => ?_)
  exact wX12_relation_63 C hr hk _ _ _ _ _ _ _ _ _ _ h t0 H locs hT ls (lv_sub hl [5, 4, 3, 2, 1, 0] rfl)
set_option maxHeartbeats 4000000 in
set_option maxRecDepth 20000 in
theorem kX12_sourceOf {x0 : Nat} {x1 : Int32} {σ σ0 : js_S} {r0 : Int32} (t0 : ob_ nn 12 x0) (h : fX12_sourceOf fu x0 x1 σ = some (r0, σ0)) : js_M l D B g nn yX12_sourceOf cX12_sourceOf 2 (some .int) 2 [.ref (B + x0), .int x1] σ (js_QI D B g nn r0 σ0) := by
  refine js_enter (by decide) (Nat.le_of_ble_eq_true rfl) ?_
  intro p e s m args below meth c C hr hk ls hl hT
  have hl : lv_has ls 2 [(0, .ref (B + x0)), (1, .int x1)] := hl
  obtain ⟨hx, hb, hml, hown, ht, hK, hNw⟩ := id C
  obtain ⟨H, eH⟩ : ∃ H, H = s.heap := ⟨_, rfl⟩
  obtain ⟨locs, eL⟩ : ∃ z : List Loc, z = [] := ⟨_, rfl⟩
  rw [← eH, ← eL]
  rw [← eH, ← eL] at hT
  clear eH eL
  unfold fX12_sourceOf at h
  refine lv_aload_n hx hb dX12_sourceOf_0 rfl (lv_at hl 0 rfl) ?_
  refine js_gR C hT cfX12 t0 2 (by decide) (q := 20) rfl (by decide) lk_X12_16 dX12_sourceOf_1 (fun t1a => ?_)
  refine lv_aload_n hx hb dX12_sourceOf_4 rfl (lv_at hl 0 rfl) ?_
  refine lv_iload_n hx hb dX12_sourceOf_5 rfl (lv_at hl 1 rfl) ?_
  obtain ⟨r2, σ2, hc2, h⟩ := bd_some h
  refine js_backI hT (js_runV C hT cfX12 t0 rfl mfX12_source lk_X12_179 (kX12_source t0 hc2) ⟨Nat.le_of_ble_eq_true rfl, Nat.le_of_ble_eq_true rfl⟩ rfl hl.1 rfl (Nat.le_of_ble_eq_true rfl) ⟨Nat.zero_le _, Nat.zero_le _⟩ dX12_sourceOf_6) (fun H locs hT => ?_)
  obtain ⟨g3, h⟩ := gd_some _ h
  refine js_iald C hT t1a g3 dX12_sourceOf_9 ?_
  refine lv_bipush (v := 102) hx hb dX12_sourceOf_10 (by decide) ?_
  refine lv_isub hx hb dX12_sourceOf_12 ?_
  obtain ⟨rfl, rfl⟩ := js_rt h
  exact js_iret C hT hr hk dX12_sourceOf_13
set_option maxHeartbeats 4000000 in
set_option maxRecDepth 20000 in
theorem kX12_targetOf {x0 : Nat} {x1 : Int32} {σ σ0 : js_S} {r0 : Int32} (t0 : ob_ nn 12 x0) (h : fX12_targetOf fu x0 x1 σ = some (r0, σ0)) : js_M l D B g nn yX12_targetOf cX12_targetOf 2 (some .int) 2 [.ref (B + x0), .int x1] σ (js_QI D B g nn r0 σ0) := by
  refine js_enter (by decide) (Nat.le_of_ble_eq_true rfl) ?_
  intro p e s m args below meth c C hr hk ls hl hT
  have hl : lv_has ls 2 [(0, .ref (B + x0)), (1, .int x1)] := hl
  obtain ⟨hx, hb, hml, hown, ht, hK, hNw⟩ := id C
  obtain ⟨H, eH⟩ : ∃ H, H = s.heap := ⟨_, rfl⟩
  obtain ⟨locs, eL⟩ : ∃ z : List Loc, z = [] := ⟨_, rfl⟩
  rw [← eH, ← eL]
  rw [← eH, ← eL] at hT
  clear eH eL
  unfold fX12_targetOf at h
  refine lv_aload_n hx hb dX12_targetOf_0 rfl (lv_at hl 0 rfl) ?_
  refine js_gR C hT cfX12 t0 2 (by decide) (q := 20) rfl (by decide) lk_X12_16 dX12_targetOf_1 (fun t1a => ?_)
  refine lv_aload_n hx hb dX12_targetOf_4 rfl (lv_at hl 0 rfl) ?_
  refine lv_iload_n hx hb dX12_targetOf_5 rfl (lv_at hl 1 rfl) ?_
  obtain ⟨r2, σ2, hc2, h⟩ := bd_some h
  refine js_backI hT (js_runV C hT cfX12 t0 rfl mfX12_target lk_X12_182 (kX12_target t0 hc2) ⟨Nat.le_of_ble_eq_true rfl, Nat.le_of_ble_eq_true rfl⟩ rfl hl.1 rfl (Nat.le_of_ble_eq_true rfl) ⟨Nat.zero_le _, Nat.zero_le _⟩ dX12_targetOf_6) (fun H locs hT => ?_)
  obtain ⟨g3, h⟩ := gd_some _ h
  refine js_iald C hT t1a g3 dX12_targetOf_9 ?_
  refine lv_bipush (v := 102) hx hb dX12_targetOf_10 (by decide) ?_
  refine lv_isub hx hb dX12_targetOf_12 ?_
  obtain ⟨rfl, rfl⟩ := js_rt h
  exact js_iret C hT hr hk dX12_targetOf_13
set_option maxHeartbeats 4000000 in
set_option maxRecDepth 20000 in
theorem wX12_findClosure_207b (C : js_C D g p m c cX12_findClosure 5 s args RX12) (hr : meth.sig.returnType = (some .boolean)) (hk : meth.locks = false) (rc207 : Nat → Int32 → js_S → Option (Int32 × js_S)) (hrc207 : ∀ (x0 : Nat) (x2 : Int32) (σ : js_S) (r0 : Int32) (σ0 : js_S), rc207 x0 x2 σ = some (r0, σ0) → ob_ nn 12 x0 → js_at p l e 6 s m args below meth c D B g nn 207 5 [(0, .ref (B + x0)), (2, .int x2)] [] σ (js_QI D B g nn r0 σ0)) : ∀ (x0 : Nat) (x2 : Int32) (σ : js_S) (r0 : Int32) (σ0 : js_S), fX12_findClosure_207b fu rc207 x0 x2 σ = some (r0, σ0) → ob_ nn 12 x0 → js_at p l e 6 s m args below meth c D B g nn 207 5 [(0, .ref (B + x0)), (2, .int x2)] [] σ (js_QI D B g nn r0 σ0) := by
  obtain ⟨hx, hb, hml, hown, ht, hK, hNw⟩ := id C
  intro x0 x2 σ r0 σ0 h t0 H locs hT ls hl
  unfold fX12_findClosure_207b at h
  refine lv_iload_n hx hb dX12_findClosure_207 rfl (lv_at hl 1 rfl) ?_
  refine lv_aload_n hx hb dX12_findClosure_208 rfl (lv_at hl 0 rfl) ?_
  refine js_gI C hT cfX12 t0 29 (by decide) rfl lk_X12_250 dX12_findClosure_209 ?_
  refine lv_icmp_ge (tgt := 233) hx hb dX12_findClosure_212 (by decide) (fun c1 => ?_) (fun c1 => ?_)
  · rw [if_pos c1] at h
    refine lv_aload_n hx hb dX12_findClosure_233 rfl (lv_at hl 0 rfl) ?_
    refine js_gI C hT cfX12 t0 29 (by decide) rfl lk_X12_250 dX12_findClosure_234 ?_
    refine lv_sipush (v := 400) hx hb dX12_findClosure_237 (by decide) ?_
    refine lv_icmp_gt (tgt := 247) hx hb dX12_findClosure_240 (by decide) (fun c2 => ?_) (fun c2 => ?_)
    · rw [if_pos c2] at h
      refine lv_iconst (v := 0) hx hb dX12_findClosure_247 (by decide) ?_
      obtain ⟨rfl, rfl⟩ := js_rt h
      exact js_zret C hT hr hk rfl dX12_findClosure_248
    · rw [if_neg c2] at h
      refine lv_iconst (v := 1) hx hb dX12_findClosure_243 (by decide) ?_
      refine lv_goto (tgt := 248) hx hb dX12_findClosure_244 (by decide) ?_
      obtain ⟨rfl, rfl⟩ := js_rt h
      exact js_zret C hT hr hk rfl dX12_findClosure_248
  · rw [if_neg c1] at h
    refine lv_aload_n hx hb dX12_findClosure_215 rfl (lv_at hl 0 rfl) ?_
    refine js_gR C hT cfX12 t0 28 (by decide) (q := 22) rfl (by decide) lk_X12_76 dX12_findClosure_216 (fun t3a => ?_)
    refine lv_aload_n hx hb dX12_findClosure_219 rfl (lv_at hl 0 rfl) ?_
    refine js_gR C hT cfX12 t0 25 (by decide) (q := 20) rfl (by decide) lk_X12_66 dX12_findClosure_220 (fun t4a => ?_)
    refine lv_iload_n hx hb dX12_findClosure_223 rfl (lv_at hl 1 rfl) ?_
    obtain ⟨g5, h⟩ := gd_some _ h
    refine js_iald C hT t4a g5 dX12_findClosure_224 ?_
    refine lv_iconst (v := 0) hx hb dX12_findClosure_225 (by decide) ?_
    obtain ⟨g6, h⟩ := gd_some _ h
    obtain ⟨σ6, e6, h⟩ := lt_some h
    refine js_zast C hT t3a g6 dX12_findClosure_226 (fun H locs hT => ?_)
    rw [e6] at hT
    refine lv_iinc (v := x2 + 1) (lv' := [(2, .int (x2 + 1)), (0, .ref (B + x0))]) hx hb dX12_findClosure_227 hl (k := 1) rfl rfl (by decide) rfl (fun ls hl => ?_)
    refine lv_goto (tgt := 207) hx hb dX12_findClosure_230 (by decide) ?_
    exact hrc207 _ _ _ _ _ h t0 H locs hT ls (lv_sub hl [1, 0] rfl)
set_option maxHeartbeats 4000000 in
set_option maxRecDepth 20000 in
theorem wX12_findClosure_207 (C : js_C D g p m c cX12_findClosure 5 s args RX12) (hr : meth.sig.returnType = (some .boolean)) (hk : meth.locks = false) : ∀ (k : Nat), ∀ (x0 : Nat) (x2 : Int32) (σ : js_S) (r0 : Int32) (σ0 : js_S), fX12_findClosure_207 fu k x0 x2 σ = some (r0, σ0) → ob_ nn 12 x0 → js_at p l e 6 s m args below meth c D B g nn 207 5 [(0, .ref (B + x0)), (2, .int x2)] [] σ (js_QI D B g nn r0 σ0) := by
  intro k
  induction k with
  | zero =>
    intro x0 x2 σ r0 σ0 h
    cases h
  | succ k ih =>
    intro x0 x2 σ r0 σ0 h
    exact wX12_findClosure_207b C hr hk (fX12_findClosure_207 fu k) ih x0 x2 σ r0 σ0 h
set_option maxHeartbeats 4000000 in
set_option maxRecDepth 20000 in
theorem wX12_findClosure_205 (C : js_C D g p m c cX12_findClosure 5 s args RX12) (hr : meth.sig.returnType = (some .boolean)) (hk : meth.locks = false) : ∀ (x0 : Nat) (σ : js_S) (r0 : Int32) (σ0 : js_S), fX12_findClosure_205 fu x0 σ = some (r0, σ0) → ob_ nn 12 x0 → js_at p l e 6 s m args below meth c D B g nn 205 5 [(0, .ref (B + x0))] [] σ (js_QI D B g nn r0 σ0) := by
  obtain ⟨hx, hb, hml, hown, ht, hK, hNw⟩ := id C
  intro x0 σ r0 σ0 h t0 H locs hT ls hl
  unfold fX12_findClosure_205 at h
  refine lv_iconst (v := 0) hx hb dX12_findClosure_205 (by decide) ?_
  refine lv_istore_n (lv' := [(2, .int 0), (0, .ref (B + x0))]) hx hb dX12_findClosure_206 rfl hl (by decide) rfl (fun ls hl => ?_)
  exact wX12_findClosure_207 C hr hk _ _ _ _ _ _ h t0 H locs hT ls (lv_sub hl [1, 0] rfl)
set_option maxHeartbeats 4000000 in
set_option maxRecDepth 20000 in
theorem wX12_findClosure_148b (C : js_C D g p m c cX12_findClosure 5 s args RX12) (hr : meth.sig.returnType = (some .boolean)) (hk : meth.locks = false) (rc128 : Nat → Int32 → js_S → Option (Int32 × js_S)) (hrc128 : ∀ (x0 : Nat) (x2 : Int32) (σ : js_S) (r0 : Int32) (σ0 : js_S), rc128 x0 x2 σ = some (r0, σ0) → ob_ nn 12 x0 → js_at p l e 6 s m args below meth c D B g nn 128 5 [(0, .ref (B + x0)), (2, .int x2)] [] σ (js_QI D B g nn r0 σ0)) (rc148 : Nat → Int32 → Int32 → js_S → Option (Int32 × js_S)) (hrc148 : ∀ (x0 : Nat) (x2 : Int32) (x3 : Int32) (σ : js_S) (r0 : Int32) (σ0 : js_S), rc148 x0 x2 x3 σ = some (r0, σ0) → ob_ nn 12 x0 → js_at p l e 6 s m args below meth c D B g nn 148 5 [(0, .ref (B + x0)), (2, .int x2), (3, .int x3)] [] σ (js_QI D B g nn r0 σ0)) : ∀ (x0 : Nat) (x2 : Int32) (x3 : Int32) (σ : js_S) (r0 : Int32) (σ0 : js_S), fX12_findClosure_148b fu rc128 rc148 x0 x2 x3 σ = some (r0, σ0) → ob_ nn 12 x0 → js_at p l e 6 s m args below meth c D B g nn 148 5 [(0, .ref (B + x0)), (2, .int x2), (3, .int x3)] [] σ (js_QI D B g nn r0 σ0) := by
  obtain ⟨hx, hb, hml, hown, ht, hK, hNw⟩ := id C
  intro x0 x2 x3 σ r0 σ0 h t0 H locs hT ls hl
  unfold fX12_findClosure_148b at h
  refine lv_iload_n hx hb dX12_findClosure_148 rfl (lv_at hl 2 rfl) ?_
  refine lv_iload_n hx hb dX12_findClosure_149 rfl (lv_at hl 1 rfl) ?_
  refine lv_icmp_gt (tgt := 199) hx hb dX12_findClosure_150 (by decide) (fun c1 => ?_) (fun c1 => ?_)
  · rw [if_pos c1] at h
    refine lv_iinc (v := x2 + 1) (lv' := [(2, .int (x2 + 1)), (0, .ref (B + x0)), (3, .int x3)]) hx hb dX12_findClosure_199 hl (k := 1) rfl rfl (by decide) rfl (fun ls hl => ?_)
    refine lv_goto (tgt := 128) hx hb dX12_findClosure_202 (by decide) ?_
    exact hrc128 _ _ _ _ _ h t0 H locs hT ls (lv_sub hl [1, 0] rfl)
  · rw [if_neg c1] at h
    refine lv_aload_n hx hb dX12_findClosure_153 rfl (lv_at hl 0 rfl) ?_
    refine lv_aload_n hx hb dX12_findClosure_154 rfl (lv_at hl 0 rfl) ?_
    refine lv_aload_n hx hb dX12_findClosure_155 rfl (lv_at hl 0 rfl) ?_
    refine js_gR C hT cfX12 t0 25 (by decide) (q := 20) rfl (by decide) lk_X12_66 dX12_findClosure_156 (fun t2a => ?_)
    refine lv_iload_n hx hb dX12_findClosure_159 rfl (lv_at hl 1 rfl) ?_
    obtain ⟨g3, h⟩ := gd_some _ h
    refine js_iald C hT t2a g3 dX12_findClosure_160 ?_
    refine lv_aload_n hx hb dX12_findClosure_161 rfl (lv_at hl 0 rfl) ?_
    refine js_gR C hT cfX12 t0 25 (by decide) (q := 20) rfl (by decide) lk_X12_66 dX12_findClosure_162 (fun t4a => ?_)
    refine lv_iload_n hx hb dX12_findClosure_165 rfl (lv_at hl 2 rfl) ?_
    obtain ⟨g5, h⟩ := gd_some _ h
    refine js_iald C hT t4a g5 dX12_findClosure_166 ?_
    obtain ⟨r6, σ6, hc6, h⟩ := bd_some h
    refine js_backI hT (js_runV C hT cfX12 t0 rfl mfX12_compose lk_X12_256 (kX12_compose t0 hc6) ⟨Nat.le_of_ble_eq_true rfl, Nat.le_of_ble_eq_true rfl⟩ rfl hl.1 rfl (Nat.le_of_ble_eq_true rfl) ⟨Nat.zero_le _, Nat.zero_le _⟩ dX12_findClosure_167) (fun H locs hT => ?_)
    obtain ⟨z7, σ7, hc7, h⟩ := bd_some h
    refine js_backV hT (js_runV C hT cfX12 t0 rfl mfX12_addGraph lk_X12_253 (kX12_addGraph t0 hc7) ⟨Nat.le_of_ble_eq_true rfl, Nat.le_of_ble_eq_true rfl⟩ rfl hl.1 rfl (Nat.le_of_ble_eq_true rfl) ⟨Nat.zero_le _, Nat.zero_le _⟩ dX12_findClosure_170) (fun H locs hT => ?_)
    refine lv_aload_n hx hb dX12_findClosure_173 rfl (lv_at hl 0 rfl) ?_
    refine lv_aload_n hx hb dX12_findClosure_174 rfl (lv_at hl 0 rfl) ?_
    refine lv_aload_n hx hb dX12_findClosure_175 rfl (lv_at hl 0 rfl) ?_
    refine js_gR C hT cfX12 t0 25 (by decide) (q := 20) rfl (by decide) lk_X12_66 dX12_findClosure_176 (fun t8a => ?_)
    refine lv_iload_n hx hb dX12_findClosure_179 rfl (lv_at hl 2 rfl) ?_
    obtain ⟨g9, h⟩ := gd_some _ h
    refine js_iald C hT t8a g9 dX12_findClosure_180 ?_
    refine lv_aload_n hx hb dX12_findClosure_181 rfl (lv_at hl 0 rfl) ?_
    refine js_gR C hT cfX12 t0 25 (by decide) (q := 20) rfl (by decide) lk_X12_66 dX12_findClosure_182 (fun t10a => ?_)
    refine lv_iload_n hx hb dX12_findClosure_185 rfl (lv_at hl 1 rfl) ?_
    obtain ⟨g11, h⟩ := gd_some _ h
    refine js_iald C hT t10a g11 dX12_findClosure_186 ?_
    obtain ⟨r12, σ12, hc12, h⟩ := bd_some h
    refine js_backI hT (js_runV C hT cfX12 t0 rfl mfX12_compose lk_X12_256 (kX12_compose t0 hc12) ⟨Nat.le_of_ble_eq_true rfl, Nat.le_of_ble_eq_true rfl⟩ rfl hl.1 rfl (Nat.le_of_ble_eq_true rfl) ⟨Nat.zero_le _, Nat.zero_le _⟩ dX12_findClosure_187) (fun H locs hT => ?_)
    obtain ⟨z13, σ13, hc13, h⟩ := bd_some h
    refine js_backV hT (js_runV C hT cfX12 t0 rfl mfX12_addGraph lk_X12_253 (kX12_addGraph t0 hc13) ⟨Nat.le_of_ble_eq_true rfl, Nat.le_of_ble_eq_true rfl⟩ rfl hl.1 rfl (Nat.le_of_ble_eq_true rfl) ⟨Nat.zero_le _, Nat.zero_le _⟩ dX12_findClosure_190) (fun H locs hT => ?_)
    refine lv_iinc (v := x3 + 1) (lv' := [(3, .int (x3 + 1)), (0, .ref (B + x0)), (2, .int x2)]) hx hb dX12_findClosure_193 hl (k := 2) rfl rfl (by decide) rfl (fun ls hl => ?_)
    refine lv_goto (tgt := 148) hx hb dX12_findClosure_196 (by decide) ?_
    exact hrc148 _ _ _ _ _ _ h t0 H locs hT ls (lv_sub hl [1, 2, 0] rfl)
set_option maxHeartbeats 4000000 in
set_option maxRecDepth 20000 in
theorem wX12_findClosure_148 (C : js_C D g p m c cX12_findClosure 5 s args RX12) (hr : meth.sig.returnType = (some .boolean)) (hk : meth.locks = false) (rc128 : Nat → Int32 → js_S → Option (Int32 × js_S)) (hrc128 : ∀ (x0 : Nat) (x2 : Int32) (σ : js_S) (r0 : Int32) (σ0 : js_S), rc128 x0 x2 σ = some (r0, σ0) → ob_ nn 12 x0 → js_at p l e 6 s m args below meth c D B g nn 128 5 [(0, .ref (B + x0)), (2, .int x2)] [] σ (js_QI D B g nn r0 σ0)) : ∀ (k : Nat), ∀ (x0 : Nat) (x2 : Int32) (x3 : Int32) (σ : js_S) (r0 : Int32) (σ0 : js_S), fX12_findClosure_148 fu rc128 k x0 x2 x3 σ = some (r0, σ0) → ob_ nn 12 x0 → js_at p l e 6 s m args below meth c D B g nn 148 5 [(0, .ref (B + x0)), (2, .int x2), (3, .int x3)] [] σ (js_QI D B g nn r0 σ0) := by
  intro k
  induction k with
  | zero =>
    intro x0 x2 x3 σ r0 σ0 h
    cases h
  | succ k ih =>
    intro x0 x2 x3 σ r0 σ0 h
    exact wX12_findClosure_148b C hr hk rc128 hrc128 (fX12_findClosure_148 fu rc128 k) ih x0 x2 x3 σ r0 σ0 h
set_option maxHeartbeats 4000000 in
set_option maxRecDepth 20000 in
theorem wX12_findClosure_128b (C : js_C D g p m c cX12_findClosure 5 s args RX12) (hr : meth.sig.returnType = (some .boolean)) (hk : meth.locks = false) (rc128 : Nat → Int32 → js_S → Option (Int32 × js_S)) (hrc128 : ∀ (x0 : Nat) (x2 : Int32) (σ : js_S) (r0 : Int32) (σ0 : js_S), rc128 x0 x2 σ = some (r0, σ0) → ob_ nn 12 x0 → js_at p l e 6 s m args below meth c D B g nn 128 5 [(0, .ref (B + x0)), (2, .int x2)] [] σ (js_QI D B g nn r0 σ0)) : ∀ (x0 : Nat) (x2 : Int32) (σ : js_S) (r0 : Int32) (σ0 : js_S), fX12_findClosure_128b fu rc128 x0 x2 σ = some (r0, σ0) → ob_ nn 12 x0 → js_at p l e 6 s m args below meth c D B g nn 128 5 [(0, .ref (B + x0)), (2, .int x2)] [] σ (js_QI D B g nn r0 σ0) := by
  obtain ⟨hx, hb, hml, hown, ht, hK, hNw⟩ := id C
  intro x0 x2 σ r0 σ0 h t0 H locs hT ls hl
  unfold fX12_findClosure_128b at h
  refine lv_iload_n hx hb dX12_findClosure_128 rfl (lv_at hl 1 rfl) ?_
  refine lv_aload_n hx hb dX12_findClosure_129 rfl (lv_at hl 0 rfl) ?_
  refine js_gI C hT cfX12 t0 29 (by decide) rfl lk_X12_250 dX12_findClosure_130 ?_
  refine lv_icmp_ge (tgt := 205) hx hb dX12_findClosure_133 (by decide) (fun c1 => ?_) (fun c1 => ?_)
  · rw [if_pos c1] at h
    exact wX12_findClosure_205 C hr hk _ _ _ _ h t0 H locs hT ls (lv_sub hl [0] rfl)
  · rw [if_neg c1] at h
    refine lv_aload_n hx hb dX12_findClosure_136 rfl (lv_at hl 0 rfl) ?_
    refine js_gI C hT cfX12 t0 29 (by decide) rfl lk_X12_250 dX12_findClosure_137 ?_
    refine lv_sipush (v := 400) hx hb dX12_findClosure_140 (by decide) ?_
    refine lv_icmp_gt (tgt := 205) hx hb dX12_findClosure_143 (by decide) (fun c2 => ?_) (fun c2 => ?_)
    · rw [if_pos c2] at h
      exact wX12_findClosure_205 C hr hk _ _ _ _ h t0 H locs hT ls (lv_sub hl [0] rfl)
    · rw [if_neg c2] at h
      refine lv_iconst (v := 0) hx hb dX12_findClosure_146 (by decide) ?_
      refine lv_istore_n (lv' := [(3, .int 0), (0, .ref (B + x0)), (2, .int x2)]) hx hb dX12_findClosure_147 rfl hl (by decide) rfl (fun ls hl => ?_)
      exact wX12_findClosure_148 C hr hk rc128 hrc128 _ _ _ _ _ _ _ h t0 H locs hT ls (lv_sub hl [1, 2, 0] rfl)
set_option maxHeartbeats 4000000 in
set_option maxRecDepth 20000 in
theorem wX12_findClosure_128 (C : js_C D g p m c cX12_findClosure 5 s args RX12) (hr : meth.sig.returnType = (some .boolean)) (hk : meth.locks = false) : ∀ (k : Nat), ∀ (x0 : Nat) (x2 : Int32) (σ : js_S) (r0 : Int32) (σ0 : js_S), fX12_findClosure_128 fu k x0 x2 σ = some (r0, σ0) → ob_ nn 12 x0 → js_at p l e 6 s m args below meth c D B g nn 128 5 [(0, .ref (B + x0)), (2, .int x2)] [] σ (js_QI D B g nn r0 σ0) := by
  intro k
  induction k with
  | zero =>
    intro x0 x2 σ r0 σ0 h
    cases h
  | succ k ih =>
    intro x0 x2 σ r0 σ0 h
    exact wX12_findClosure_128b C hr hk (fX12_findClosure_128 fu k) ih x0 x2 σ r0 σ0 h
set_option maxHeartbeats 4000000 in
set_option maxRecDepth 20000 in
theorem wX12_findClosure_89 (C : js_C D g p m c cX12_findClosure 5 s args RX12) (hr : meth.sig.returnType = (some .boolean)) (hk : meth.locks = false) (rc12 : Nat → Int32 → Int32 → js_S → Option (Int32 × js_S)) (hrc12 : ∀ (x0 : Nat) (x1 : Int32) (x2 : Int32) (σ : js_S) (r0 : Int32) (σ0 : js_S), rc12 x0 x1 x2 σ = some (r0, σ0) → ob_ nn 12 x0 → js_at p l e 6 s m args below meth c D B g nn 12 5 [(0, .ref (B + x0)), (1, .int x1), (2, .int x2)] [] σ (js_QI D B g nn r0 σ0)) (rc19 : Nat → Int32 → Int32 → Int32 → js_S → Option (Int32 × js_S)) (hrc19 : ∀ (x0 : Nat) (x1 : Int32) (x2 : Int32) (x3 : Int32) (σ : js_S) (r0 : Int32) (σ0 : js_S), rc19 x0 x1 x2 x3 σ = some (r0, σ0) → ob_ nn 12 x0 → js_at p l e 6 s m args below meth c D B g nn 19 5 [(0, .ref (B + x0)), (1, .int x1), (2, .int x2), (3, .int x3)] [] σ (js_QI D B g nn r0 σ0)) : ∀ (x0 : Nat) (x1 : Int32) (x2 : Int32) (x3 : Int32) (y0 : Int32) (y1 : Int32) (y2 : Nat) (σ : js_S) (r0 : Int32) (σ0 : js_S), fX12_findClosure_89 fu rc12 rc19 x0 x1 x2 x3 y0 y1 y2 σ = some (r0, σ0) → ob_ nn 12 x0 → ob_ nn 20 y2 → js_at p l e 6 s m args below meth c D B g nn 89 5 [(0, .ref (B + x0)), (1, .int x1), (2, .int x2), (3, .int x3)] [.int y0, .int y1, .ref (B + y2)] σ (js_QI D B g nn r0 σ0) := by
  obtain ⟨hx, hb, hml, hown, ht, hK, hNw⟩ := id C
  intro x0 x1 x2 x3 y0 y1 y2 σ r0 σ0 h t0 u2 H locs hT ls hl
  unfold fX12_findClosure_89 at h
  obtain ⟨g1, h⟩ := gd_some _ h
  obtain ⟨σ1, e1, h⟩ := lt_some h
  refine js_iast C hT u2 g1 dX12_findClosure_89 (fun H locs hT => ?_)
  rw [e1] at hT
  refine lv_iinc (v := x3 + 1) (lv' := [(3, .int (x3 + 1)), (0, .ref (B + x0)), (1, .int x1), (2, .int x2)]) hx hb dX12_findClosure_90 hl (k := 3) rfl rfl (by decide) rfl (fun ls hl => ?_)
  refine lv_goto (tgt := 19) hx hb dX12_findClosure_93 (by decide) ?_
  exact hrc19 _ _ _ _ _ _ _ h t0 H locs hT ls (lv_sub hl [1, 2, 3, 0] rfl)
set_option maxHeartbeats 4000000 in
set_option maxRecDepth 20000 in
theorem wX12_findClosure_62 (C : js_C D g p m c cX12_findClosure 5 s args RX12) (hr : meth.sig.returnType = (some .boolean)) (hk : meth.locks = false) (rc12 : Nat → Int32 → Int32 → js_S → Option (Int32 × js_S)) (hrc12 : ∀ (x0 : Nat) (x1 : Int32) (x2 : Int32) (σ : js_S) (r0 : Int32) (σ0 : js_S), rc12 x0 x1 x2 σ = some (r0, σ0) → ob_ nn 12 x0 → js_at p l e 6 s m args below meth c D B g nn 12 5 [(0, .ref (B + x0)), (1, .int x1), (2, .int x2)] [] σ (js_QI D B g nn r0 σ0)) (rc19 : Nat → Int32 → Int32 → Int32 → js_S → Option (Int32 × js_S)) (hrc19 : ∀ (x0 : Nat) (x1 : Int32) (x2 : Int32) (x3 : Int32) (σ : js_S) (r0 : Int32) (σ0 : js_S), rc19 x0 x1 x2 x3 σ = some (r0, σ0) → ob_ nn 12 x0 → js_at p l e 6 s m args below meth c D B g nn 19 5 [(0, .ref (B + x0)), (1, .int x1), (2, .int x2), (3, .int x3)] [] σ (js_QI D B g nn r0 σ0)) : ∀ (x0 : Nat) (x1 : Int32) (x2 : Int32) (x3 : Int32) (y0 : Int32) (σ : js_S) (r0 : Int32) (σ0 : js_S), fX12_findClosure_62 fu rc12 rc19 x0 x1 x2 x3 y0 σ = some (r0, σ0) → ob_ nn 12 x0 → js_at p l e 6 s m args below meth c D B g nn 62 5 [(0, .ref (B + x0)), (1, .int x1), (2, .int x2), (3, .int x3)] [.int y0] σ (js_QI D B g nn r0 σ0) := by
  obtain ⟨hx, hb, hml, hown, ht, hK, hNw⟩ := id C
  intro x0 x1 x2 x3 y0 σ r0 σ0 h t0 H locs hT ls hl
  unfold fX12_findClosure_62 at h
  refine lv_istore (lv' := [(4, .int y0), (0, .ref (B + x0)), (1, .int x1), (2, .int x2), (3, .int x3)]) hx hb dX12_findClosure_62 hl (by decide) rfl (fun ls hl => ?_)
  refine lv_aload_n hx hb dX12_findClosure_64 rfl (lv_at hl 1 rfl) ?_
  refine js_gR C hT cfX12 t0 30 (by decide) (q := 20) rfl (by decide) lk_X12_79 dX12_findClosure_65 (fun t1a => ?_)
  refine lv_iload_n hx hb dX12_findClosure_68 rfl (lv_at hl 4 rfl) ?_
  refine lv_iload hx hb dX12_findClosure_69 (lv_at hl 0 rfl) ?_
  refine lv_if_eq (tgt := 88) hx hb dX12_findClosure_71 (by decide) (fun c2 => ?_) (fun c2 => ?_)
  · rw [if_pos c2] at h
    refine lv_iconst (v := 0) hx hb dX12_findClosure_88 (by decide) ?_
    exact wX12_findClosure_89 C hr hk rc12 hrc12 rc19 hrc19 _ _ _ _ _ _ _ _ _ _ h t0 t1a H locs hT ls (lv_sub hl [1, 2, 3, 4] rfl)
  · rw [if_neg c2] at h
    refine lv_aload_n hx hb dX12_findClosure_74 rfl (lv_at hl 1 rfl) ?_
    refine lv_iload_n hx hb dX12_findClosure_75 rfl (lv_at hl 3 rfl) ?_
    refine lv_iload_n hx hb dX12_findClosure_76 rfl (lv_at hl 4 rfl) ?_
    refine lv_iconst (v := 3) hx hb dX12_findClosure_77 (by decide) ?_
    refine lv_idiv hx hb dX12_findClosure_78 (by decide) ?_
    refine lv_iload_n hx hb dX12_findClosure_79 rfl (lv_at hl 4 rfl) ?_
    refine lv_iconst (v := 3) hx hb dX12_findClosure_80 (by decide) ?_
    refine lv_irem hx hb dX12_findClosure_81 (by decide) ?_
    obtain ⟨r3, σ3, hc3, h⟩ := bd_some h
    refine js_backI hT (js_runV C hT cfX12 t0 rfl mfX12_relation lk_X12_229 (kX12_relation t0 hc3) ⟨Nat.le_of_ble_eq_true rfl, Nat.le_of_ble_eq_true rfl⟩ rfl hl.1 rfl (Nat.le_of_ble_eq_true rfl) ⟨Nat.zero_le _, Nat.zero_le _⟩ dX12_findClosure_82) (fun H locs hT => ?_)
    refine lv_goto (tgt := 89) hx hb dX12_findClosure_85 (by decide) ?_
    exact wX12_findClosure_89 C hr hk rc12 hrc12 rc19 hrc19 _ _ _ _ _ _ _ _ _ _ h t0 t1a H locs hT ls (lv_sub hl [1, 2, 3, 4] rfl)
set_option maxHeartbeats 4000000 in
set_option maxRecDepth 20000 in
theorem wX12_findClosure_61 (C : js_C D g p m c cX12_findClosure 5 s args RX12) (hr : meth.sig.returnType = (some .boolean)) (hk : meth.locks = false) (rc12 : Nat → Int32 → Int32 → js_S → Option (Int32 × js_S)) (hrc12 : ∀ (x0 : Nat) (x1 : Int32) (x2 : Int32) (σ : js_S) (r0 : Int32) (σ0 : js_S), rc12 x0 x1 x2 σ = some (r0, σ0) → ob_ nn 12 x0 → js_at p l e 6 s m args below meth c D B g nn 12 5 [(0, .ref (B + x0)), (1, .int x1), (2, .int x2)] [] σ (js_QI D B g nn r0 σ0)) (rc19 : Nat → Int32 → Int32 → Int32 → js_S → Option (Int32 × js_S)) (hrc19 : ∀ (x0 : Nat) (x1 : Int32) (x2 : Int32) (x3 : Int32) (σ : js_S) (r0 : Int32) (σ0 : js_S), rc19 x0 x1 x2 x3 σ = some (r0, σ0) → ob_ nn 12 x0 → js_at p l e 6 s m args below meth c D B g nn 19 5 [(0, .ref (B + x0)), (1, .int x1), (2, .int x2), (3, .int x3)] [] σ (js_QI D B g nn r0 σ0)) : ∀ (x0 : Nat) (x1 : Int32) (x2 : Int32) (x3 : Int32) (σ : js_S) (r0 : Int32) (σ0 : js_S), fX12_findClosure_61 fu rc12 rc19 x0 x1 x2 x3 σ = some (r0, σ0) → ob_ nn 12 x0 → js_at p l e 6 s m args below meth c D B g nn 61 5 [(0, .ref (B + x0)), (1, .int x1), (2, .int x2), (3, .int x3)] [] σ (js_QI D B g nn r0 σ0) := by
  obtain ⟨hx, hb, hml, hown, ht, hK, hNw⟩ := id C
  intro x0 x1 x2 x3 σ r0 σ0 h t0 H locs hT ls hl
  unfold fX12_findClosure_61 at h
  refine lv_iconst (v := 0) hx hb dX12_findClosure_61 (by decide) ?_
  exact wX12_findClosure_62 C hr hk rc12 hrc12 rc19 hrc19 _ _ _ _ _ _ _ _ h t0 H locs hT ls (lv_sub hl [0, 1, 2, 3] rfl)
set_option maxHeartbeats 4000000 in
set_option maxRecDepth 20000 in
theorem wX12_findClosure_19b (C : js_C D g p m c cX12_findClosure 5 s args RX12) (hr : meth.sig.returnType = (some .boolean)) (hk : meth.locks = false) (rc12 : Nat → Int32 → Int32 → js_S → Option (Int32 × js_S)) (hrc12 : ∀ (x0 : Nat) (x1 : Int32) (x2 : Int32) (σ : js_S) (r0 : Int32) (σ0 : js_S), rc12 x0 x1 x2 σ = some (r0, σ0) → ob_ nn 12 x0 → js_at p l e 6 s m args below meth c D B g nn 12 5 [(0, .ref (B + x0)), (1, .int x1), (2, .int x2)] [] σ (js_QI D B g nn r0 σ0)) (rc19 : Nat → Int32 → Int32 → Int32 → js_S → Option (Int32 × js_S)) (hrc19 : ∀ (x0 : Nat) (x1 : Int32) (x2 : Int32) (x3 : Int32) (σ : js_S) (r0 : Int32) (σ0 : js_S), rc19 x0 x1 x2 x3 σ = some (r0, σ0) → ob_ nn 12 x0 → js_at p l e 6 s m args below meth c D B g nn 19 5 [(0, .ref (B + x0)), (1, .int x1), (2, .int x2), (3, .int x3)] [] σ (js_QI D B g nn r0 σ0)) : ∀ (x0 : Nat) (x1 : Int32) (x2 : Int32) (x3 : Int32) (σ : js_S) (r0 : Int32) (σ0 : js_S), fX12_findClosure_19b fu rc12 rc19 x0 x1 x2 x3 σ = some (r0, σ0) → ob_ nn 12 x0 → js_at p l e 6 s m args below meth c D B g nn 19 5 [(0, .ref (B + x0)), (1, .int x1), (2, .int x2), (3, .int x3)] [] σ (js_QI D B g nn r0 σ0) := by
  obtain ⟨hx, hb, hml, hown, ht, hK, hNw⟩ := id C
  intro x0 x1 x2 x3 σ r0 σ0 h t0 H locs hT ls hl
  unfold fX12_findClosure_19b at h
  refine lv_iload_n hx hb dX12_findClosure_19 rfl (lv_at hl 3 rfl) ?_
  refine lv_bipush (v := 9) hx hb dX12_findClosure_20 (by decide) ?_
  refine lv_icmp_ge (tgt := 96) hx hb dX12_findClosure_22 (by decide) (fun c1 => ?_) (fun c1 => ?_)
  · rw [if_pos c1] at h
    refine lv_aload_n hx hb dX12_findClosure_96 rfl (lv_at hl 0 rfl) ?_
    refine lv_iconst (v := 3) hx hb dX12_findClosure_97 (by decide) ?_
    refine lv_aload_n hx hb dX12_findClosure_98 rfl (lv_at hl 0 rfl) ?_
    refine lv_iload_n hx hb dX12_findClosure_99 rfl (lv_at hl 2 rfl) ?_
    obtain ⟨r2, σ2, hc2, h⟩ := bd_some h
    refine js_backI hT (js_runV C hT cfX12 t0 rfl mfX12_sourceOf lk_X12_191 (kX12_sourceOf t0 hc2) ⟨Nat.le_of_ble_eq_true rfl, Nat.le_of_ble_eq_true rfl⟩ rfl hl.1 rfl (Nat.le_of_ble_eq_true rfl) ⟨Nat.zero_le _, Nat.zero_le _⟩ dX12_findClosure_100) (fun H locs hT => ?_)
    refine lv_imul hx hb dX12_findClosure_103 ?_
    refine lv_aload_n hx hb dX12_findClosure_104 rfl (lv_at hl 0 rfl) ?_
    refine lv_iload_n hx hb dX12_findClosure_105 rfl (lv_at hl 2 rfl) ?_
    obtain ⟨r3, σ3, hc3, h⟩ := bd_some h
    refine js_backI hT (js_runV C hT cfX12 t0 rfl mfX12_targetOf lk_X12_194 (kX12_targetOf t0 hc3) ⟨Nat.le_of_ble_eq_true rfl, Nat.le_of_ble_eq_true rfl⟩ rfl hl.1 rfl (Nat.le_of_ble_eq_true rfl) ⟨Nat.zero_le _, Nat.zero_le _⟩ dX12_findClosure_106) (fun H locs hT => ?_)
    refine lv_iadd hx hb dX12_findClosure_109 ?_
    refine lv_aload_n hx hb dX12_findClosure_110 rfl (lv_at hl 0 rfl) ?_
    refine js_gR C hT cfX12 t0 30 (by decide) (q := 20) rfl (by decide) lk_X12_79 dX12_findClosure_111 (fun t4a => ?_)
    obtain ⟨r5, σ5, hc5, h⟩ := bd_some h
    refine js_backI hT (js_runS C hT mfX12_encode lk_X12_246 (kX12_encode t4a hc5) ⟨Nat.le_of_ble_eq_true rfl, Nat.le_of_ble_eq_true rfl⟩ rfl hl.1 rfl (Nat.le_of_ble_eq_true rfl) ⟨Nat.zero_le _, Nat.zero_le _⟩ dX12_findClosure_114) (fun H locs hT => ?_)
    obtain ⟨z6, σ6, hc6, h⟩ := bd_some h
    refine js_backV hT (js_runV C hT cfX12 t0 rfl mfX12_addGraph lk_X12_253 (kX12_addGraph t0 hc6) ⟨Nat.le_of_ble_eq_true rfl, Nat.le_of_ble_eq_true rfl⟩ rfl hl.1 rfl (Nat.le_of_ble_eq_true rfl) ⟨Nat.zero_le _, Nat.zero_le _⟩ dX12_findClosure_117) (fun H locs hT => ?_)
    refine lv_iinc (v := x2 + 1) (lv' := [(2, .int (x2 + 1)), (0, .ref (B + x0)), (1, .int x1), (3, .int x3)]) hx hb dX12_findClosure_120 hl (k := 2) rfl rfl (by decide) rfl (fun ls hl => ?_)
    refine lv_goto (tgt := 12) hx hb dX12_findClosure_123 (by decide) ?_
    exact hrc12 _ _ _ _ _ _ h t0 H locs hT ls (lv_sub hl [1, 2, 0] rfl)
  · rw [if_neg c1] at h
    refine lv_iload_n hx hb dX12_findClosure_25 rfl (lv_at hl 3 rfl) ?_
    refine lv_iconst (v := 3) hx hb dX12_findClosure_26 (by decide) ?_
    refine lv_idiv hx hb dX12_findClosure_27 (by decide) ?_
    refine lv_aload_n hx hb dX12_findClosure_28 rfl (lv_at hl 0 rfl) ?_
    refine js_gR C hT cfX12 t0 0 (by decide) (q := 20) rfl (by decide) lk_X12_9 dX12_findClosure_29 (fun t7a => ?_)
    refine lv_aload_n hx hb dX12_findClosure_32 rfl (lv_at hl 0 rfl) ?_
    refine lv_iload_n hx hb dX12_findClosure_33 rfl (lv_at hl 2 rfl) ?_
    obtain ⟨r8, σ8, hc8, h⟩ := bd_some h
    refine js_backI hT (js_runV C hT cfX12 t0 rfl mfX12_sourceOf lk_X12_191 (kX12_sourceOf t0 hc8) ⟨Nat.le_of_ble_eq_true rfl, Nat.le_of_ble_eq_true rfl⟩ rfl hl.1 rfl (Nat.le_of_ble_eq_true rfl) ⟨Nat.zero_le _, Nat.zero_le _⟩ dX12_findClosure_34) (fun H locs hT => ?_)
    obtain ⟨g9, h⟩ := gd_some _ h
    refine js_iald C hT t7a g9 dX12_findClosure_37 ?_
    refine lv_icmp_ge (tgt := 61) hx hb dX12_findClosure_38 (by decide) (fun c10 => ?_) (fun c10 => ?_)
    · rw [if_pos c10] at h
      exact wX12_findClosure_61 C hr hk rc12 hrc12 rc19 hrc19 _ _ _ _ _ _ _ h t0 H locs hT ls (lv_sub hl [0, 1, 2, 3] rfl)
    · rw [if_neg c10] at h
      refine lv_iload_n hx hb dX12_findClosure_41 rfl (lv_at hl 3 rfl) ?_
      refine lv_iconst (v := 3) hx hb dX12_findClosure_42 (by decide) ?_
      refine lv_irem hx hb dX12_findClosure_43 (by decide) ?_
      refine lv_aload_n hx hb dX12_findClosure_44 rfl (lv_at hl 0 rfl) ?_
      refine js_gR C hT cfX12 t0 0 (by decide) (q := 20) rfl (by decide) lk_X12_9 dX12_findClosure_45 (fun t11a => ?_)
      refine lv_aload_n hx hb dX12_findClosure_48 rfl (lv_at hl 0 rfl) ?_
      refine lv_iload_n hx hb dX12_findClosure_49 rfl (lv_at hl 2 rfl) ?_
      obtain ⟨r12, σ12, hc12, h⟩ := bd_some h
      refine js_backI hT (js_runV C hT cfX12 t0 rfl mfX12_targetOf lk_X12_194 (kX12_targetOf t0 hc12) ⟨Nat.le_of_ble_eq_true rfl, Nat.le_of_ble_eq_true rfl⟩ rfl hl.1 rfl (Nat.le_of_ble_eq_true rfl) ⟨Nat.zero_le _, Nat.zero_le _⟩ dX12_findClosure_50) (fun H locs hT => ?_)
      obtain ⟨g13, h⟩ := gd_some _ h
      refine js_iald C hT t11a g13 dX12_findClosure_53 ?_
      refine lv_icmp_ge (tgt := 61) hx hb dX12_findClosure_54 (by decide) (fun c14 => ?_) (fun c14 => ?_)
      · rw [if_pos c14] at h
        exact wX12_findClosure_61 C hr hk rc12 hrc12 rc19 hrc19 _ _ _ _ _ _ _ h t0 H locs hT ls (lv_sub hl [0, 1, 2, 3] rfl)
      · rw [if_neg c14] at h
        refine lv_iconst (v := 1) hx hb dX12_findClosure_57 (by decide) ?_
        refine lv_goto (tgt := 62) hx hb dX12_findClosure_58 (by decide) ?_
        exact wX12_findClosure_62 C hr hk rc12 hrc12 rc19 hrc19 _ _ _ _ _ _ _ _ h t0 H locs hT ls (lv_sub hl [0, 1, 2, 3] rfl)
set_option maxHeartbeats 4000000 in
set_option maxRecDepth 20000 in
theorem wX12_findClosure_19 (C : js_C D g p m c cX12_findClosure 5 s args RX12) (hr : meth.sig.returnType = (some .boolean)) (hk : meth.locks = false) (rc12 : Nat → Int32 → Int32 → js_S → Option (Int32 × js_S)) (hrc12 : ∀ (x0 : Nat) (x1 : Int32) (x2 : Int32) (σ : js_S) (r0 : Int32) (σ0 : js_S), rc12 x0 x1 x2 σ = some (r0, σ0) → ob_ nn 12 x0 → js_at p l e 6 s m args below meth c D B g nn 12 5 [(0, .ref (B + x0)), (1, .int x1), (2, .int x2)] [] σ (js_QI D B g nn r0 σ0)) : ∀ (k : Nat), ∀ (x0 : Nat) (x1 : Int32) (x2 : Int32) (x3 : Int32) (σ : js_S) (r0 : Int32) (σ0 : js_S), fX12_findClosure_19 fu rc12 k x0 x1 x2 x3 σ = some (r0, σ0) → ob_ nn 12 x0 → js_at p l e 6 s m args below meth c D B g nn 19 5 [(0, .ref (B + x0)), (1, .int x1), (2, .int x2), (3, .int x3)] [] σ (js_QI D B g nn r0 σ0) := by
  intro k
  induction k with
  | zero =>
    intro x0 x1 x2 x3 σ r0 σ0 h
    cases h
  | succ k ih =>
    intro x0 x1 x2 x3 σ r0 σ0 h
    exact wX12_findClosure_19b C hr hk rc12 hrc12 (fX12_findClosure_19 fu rc12 k) ih x0 x1 x2 x3 σ r0 σ0 h
set_option maxHeartbeats 4000000 in
set_option maxRecDepth 20000 in
theorem wX12_findClosure_12b (C : js_C D g p m c cX12_findClosure 5 s args RX12) (hr : meth.sig.returnType = (some .boolean)) (hk : meth.locks = false) (rc12 : Nat → Int32 → Int32 → js_S → Option (Int32 × js_S)) (hrc12 : ∀ (x0 : Nat) (x1 : Int32) (x2 : Int32) (σ : js_S) (r0 : Int32) (σ0 : js_S), rc12 x0 x1 x2 σ = some (r0, σ0) → ob_ nn 12 x0 → js_at p l e 6 s m args below meth c D B g nn 12 5 [(0, .ref (B + x0)), (1, .int x1), (2, .int x2)] [] σ (js_QI D B g nn r0 σ0)) : ∀ (x0 : Nat) (x1 : Int32) (x2 : Int32) (σ : js_S) (r0 : Int32) (σ0 : js_S), fX12_findClosure_12b fu rc12 x0 x1 x2 σ = some (r0, σ0) → ob_ nn 12 x0 → js_at p l e 6 s m args below meth c D B g nn 12 5 [(0, .ref (B + x0)), (1, .int x1), (2, .int x2)] [] σ (js_QI D B g nn r0 σ0) := by
  obtain ⟨hx, hb, hml, hown, ht, hK, hNw⟩ := id C
  intro x0 x1 x2 σ r0 σ0 h t0 H locs hT ls hl
  unfold fX12_findClosure_12b at h
  refine lv_iload_n hx hb dX12_findClosure_12 rfl (lv_at hl 2 rfl) ?_
  refine lv_iload_n hx hb dX12_findClosure_13 rfl (lv_at hl 1 rfl) ?_
  refine lv_icmp_ge (tgt := 126) hx hb dX12_findClosure_14 (by decide) (fun c1 => ?_) (fun c1 => ?_)
  · rw [if_pos c1] at h
    refine lv_iconst (v := 0) hx hb dX12_findClosure_126 (by decide) ?_
    refine lv_istore_n (lv' := [(2, .int 0), (0, .ref (B + x0)), (1, .int x1)]) hx hb dX12_findClosure_127 rfl hl (by decide) rfl (fun ls hl => ?_)
    exact wX12_findClosure_128 C hr hk _ _ _ _ _ _ h t0 H locs hT ls (lv_sub hl [1, 0] rfl)
  · rw [if_neg c1] at h
    refine lv_iconst (v := 0) hx hb dX12_findClosure_17 (by decide) ?_
    refine lv_istore_n (lv' := [(3, .int 0), (0, .ref (B + x0)), (1, .int x1), (2, .int x2)]) hx hb dX12_findClosure_18 rfl hl (by decide) rfl (fun ls hl => ?_)
    exact wX12_findClosure_19 C hr hk rc12 hrc12 _ _ _ _ _ _ _ _ h t0 H locs hT ls (lv_sub hl [1, 2, 3, 0] rfl)
set_option maxHeartbeats 4000000 in
set_option maxRecDepth 20000 in
theorem wX12_findClosure_12 (C : js_C D g p m c cX12_findClosure 5 s args RX12) (hr : meth.sig.returnType = (some .boolean)) (hk : meth.locks = false) : ∀ (k : Nat), ∀ (x0 : Nat) (x1 : Int32) (x2 : Int32) (σ : js_S) (r0 : Int32) (σ0 : js_S), fX12_findClosure_12 fu k x0 x1 x2 σ = some (r0, σ0) → ob_ nn 12 x0 → js_at p l e 6 s m args below meth c D B g nn 12 5 [(0, .ref (B + x0)), (1, .int x1), (2, .int x2)] [] σ (js_QI D B g nn r0 σ0) := by
  intro k
  induction k with
  | zero =>
    intro x0 x1 x2 σ r0 σ0 h
    cases h
  | succ k ih =>
    intro x0 x1 x2 σ r0 σ0 h
    exact wX12_findClosure_12b C hr hk (fX12_findClosure_12 fu k) ih x0 x1 x2 σ r0 σ0 h
set_option maxHeartbeats 4000000 in
set_option maxRecDepth 20000 in
theorem kX12_findClosure {x0 : Nat} {σ σ0 : js_S} {r0 : Int32} (t0 : ob_ nn 12 x0) (h : fX12_findClosure fu x0 σ = some (r0, σ0)) : js_M l D B g nn yX12_findClosure cX12_findClosure 5 (some .boolean) 6 [.ref (B + x0)] σ (js_QI D B g nn r0 σ0) := by
  refine js_enter (by decide) (Nat.le_of_ble_eq_true rfl) ?_
  intro p e s m args below meth c C hr hk ls hl hT
  have hl : lv_has ls 5 [(0, .ref (B + x0))] := hl
  obtain ⟨hx, hb, hml, hown, ht, hK, hNw⟩ := id C
  obtain ⟨H, eH⟩ : ∃ H, H = s.heap := ⟨_, rfl⟩
  obtain ⟨locs, eL⟩ : ∃ z : List Loc, z = [] := ⟨_, rfl⟩
  rw [← eH, ← eL]
  rw [← eH, ← eL] at hT
  clear eH eL
  unfold fX12_findClosure at h
  refine lv_aload_n hx hb dX12_findClosure_0 rfl (lv_at hl 0 rfl) ?_
  obtain ⟨r1, σ1, hc1, h⟩ := bd_some h
  refine js_backI hT (js_runV C hT cfX12 t0 rfl mfX12_findPairs lk_X12_185 (kX12_findPairs t0 hc1) ⟨Nat.le_of_ble_eq_true rfl, Nat.le_of_ble_eq_true rfl⟩ rfl hl.1 rfl (Nat.le_of_ble_eq_true rfl) ⟨Nat.zero_le _, Nat.zero_le _⟩ dX12_findClosure_1) (fun H locs hT => ?_)
  refine lv_istore_n (lv' := [(1, .int r1), (0, .ref (B + x0))]) hx hb dX12_findClosure_4 rfl hl (by decide) rfl (fun ls hl => ?_)
  refine lv_aload_n hx hb dX12_findClosure_5 rfl (lv_at hl 1 rfl) ?_
  refine lv_iconst (v := 0) hx hb dX12_findClosure_6 (by decide) ?_
  obtain ⟨σ2, e2, h⟩ := lt_some h
  refine js_pI C hT cfX12 t0 29 (by decide) rfl rfl rfl rfl lk_X12_250 dX12_findClosure_7 (fun H locs hT => ?_)
  rw [e2] at hT
  refine lv_iconst (v := 0) hx hb dX12_findClosure_10 (by decide) ?_
  refine lv_istore_n (lv' := [(2, .int 0), (1, .int r1), (0, .ref (B + x0))]) hx hb dX12_findClosure_11 rfl hl (by decide) rfl (fun ls hl => ?_)
  exact wX12_findClosure_12 C hr hk _ _ _ _ _ _ _ h t0 H locs hT ls (lv_sub hl [2, 1, 0] rfl)
set_option maxHeartbeats 4000000 in
set_option maxRecDepth 20000 in
theorem kX12_closureSize {x0 : Nat} {σ σ0 : js_S} {r0 : Int32} (t0 : ob_ nn 12 x0) (h : fX12_closureSize fu x0 σ = some (r0, σ0)) : js_M l D B g nn yX12_closureSize cX12_closureSize 1 (some .int) 7 [.ref (B + x0)] σ (js_QI D B g nn r0 σ0) := by
  refine js_enter (by decide) (Nat.le_of_ble_eq_true rfl) ?_
  intro p e s m args below meth c C hr hk ls hl hT
  have hl : lv_has ls 1 [(0, .ref (B + x0))] := hl
  obtain ⟨hx, hb, hml, hown, ht, hK, hNw⟩ := id C
  obtain ⟨H, eH⟩ : ∃ H, H = s.heap := ⟨_, rfl⟩
  obtain ⟨locs, eL⟩ : ∃ z : List Loc, z = [] := ⟨_, rfl⟩
  rw [← eH, ← eL]
  rw [← eH, ← eL] at hT
  clear eH eL
  unfold fX12_closureSize at h
  refine lv_aload_n hx hb dX12_closureSize_0 rfl (lv_at hl 0 rfl) ?_
  obtain ⟨r1, σ1, hc1, h⟩ := bd_some h
  refine js_backI hT (js_runV C hT cfX12 t0 rfl mfX12_findClosure lk_X12_259 (kX12_findClosure t0 hc1) ⟨Nat.le_of_ble_eq_true rfl, Nat.le_of_ble_eq_true rfl⟩ rfl hl.1 rfl (Nat.le_of_ble_eq_true rfl) ⟨Nat.zero_le _, Nat.zero_le _⟩ dX12_closureSize_1) (fun H locs hT => ?_)
  refine lv_if_eq (tgt := 14) hx hb dX12_closureSize_4 (by decide) (fun c2 => ?_) (fun c2 => ?_)
  · rw [if_pos c2] at h
    refine lv_bipush (v := (-8)) hx hb dX12_closureSize_14 (by decide) ?_
    obtain ⟨rfl, rfl⟩ := js_rt h
    exact js_iret C hT hr hk dX12_closureSize_16
  · rw [if_neg c2] at h
    refine lv_aload_n hx hb dX12_closureSize_7 rfl (lv_at hl 0 rfl) ?_
    refine js_gI C hT cfX12 t0 29 (by decide) rfl lk_X12_250 dX12_closureSize_8 ?_
    refine lv_goto (tgt := 16) hx hb dX12_closureSize_11 (by decide) ?_
    obtain ⟨rfl, rfl⟩ := js_rt h
    exact js_iret C hT hr hk dX12_closureSize_16
set_option maxHeartbeats 4000000 in
set_option maxRecDepth 20000 in
theorem wX12_compare_20b (C : js_C D g p m c cX12_compare 5 s args RX12) (hr : meth.sig.returnType = (some .int)) (hk : meth.locks = false) (rc20 : Nat → Int32 → Nat → Int32 → Int32 → js_S → Option (Int32 × js_S)) (hrc20 : ∀ (x0 : Nat) (x1 : Int32) (x2 : Nat) (x3 : Int32) (x4 : Int32) (σ : js_S) (r0 : Int32) (σ0 : js_S), rc20 x0 x1 x2 x3 x4 σ = some (r0, σ0) → ob_ nn 20 x0 → ob_ nn 20 x2 → js_at p l e 0 s m args below meth c D B g nn 20 5 [(0, .ref (B + x0)), (1, .int x1), (2, .ref (B + x2)), (3, .int x3), (4, .int x4)] [] σ (js_QI D B g nn r0 σ0)) : ∀ (x0 : Nat) (x1 : Int32) (x2 : Nat) (x3 : Int32) (x4 : Int32) (σ : js_S) (r0 : Int32) (σ0 : js_S), fX12_compare_20b fu rc20 x0 x1 x2 x3 x4 σ = some (r0, σ0) → ob_ nn 20 x0 → ob_ nn 20 x2 → js_at p l e 0 s m args below meth c D B g nn 20 5 [(0, .ref (B + x0)), (1, .int x1), (2, .ref (B + x2)), (3, .int x3), (4, .int x4)] [] σ (js_QI D B g nn r0 σ0) := by
  obtain ⟨hx, hb, hml, hown, ht, hK, hNw⟩ := id C
  intro x0 x1 x2 x3 x4 σ r0 σ0 h t0 t2 H locs hT ls hl
  unfold fX12_compare_20b at h
  refine lv_iload hx hb dX12_compare_20 (lv_at hl 4 rfl) ?_
  refine lv_aload_n hx hb dX12_compare_22 rfl (lv_at hl 0 rfl) ?_
  refine lv_iload_n hx hb dX12_compare_23 rfl (lv_at hl 1 rfl) ?_
  obtain ⟨g1, h⟩ := gd_some _ h
  refine js_iald C hT t0 g1 dX12_compare_24 ?_
  refine lv_icmp_gt (tgt := 63) hx hb dX12_compare_25 (by decide) (fun c2 => ?_) (fun c2 => ?_)
  · rw [if_pos c2] at h
    refine lv_iconst (v := 0) hx hb dX12_compare_63 (by decide) ?_
    obtain ⟨rfl, rfl⟩ := js_rt h
    exact js_iret C hT hr hk dX12_compare_64
  · rw [if_neg c2] at h
    refine lv_aload_n hx hb dX12_compare_28 rfl (lv_at hl 0 rfl) ?_
    refine lv_iload_n hx hb dX12_compare_29 rfl (lv_at hl 1 rfl) ?_
    refine lv_iload hx hb dX12_compare_30 (lv_at hl 4 rfl) ?_
    refine lv_iadd hx hb dX12_compare_32 ?_
    obtain ⟨g3, h⟩ := gd_some _ h
    refine js_iald C hT t0 g3 dX12_compare_33 ?_
    refine lv_aload_n hx hb dX12_compare_34 rfl (lv_at hl 2 rfl) ?_
    refine lv_iload_n hx hb dX12_compare_35 rfl (lv_at hl 3 rfl) ?_
    refine lv_iload hx hb dX12_compare_36 (lv_at hl 4 rfl) ?_
    refine lv_iadd hx hb dX12_compare_38 ?_
    obtain ⟨g4, h⟩ := gd_some _ h
    refine js_iald C hT t2 g4 dX12_compare_39 ?_
    refine lv_icmp_eq (tgt := 57) hx hb dX12_compare_40 (by decide) (fun c5 => ?_) (fun c5 => ?_)
    · rw [if_pos c5] at h
      refine lv_iinc (v := x4 + 1) (lv' := [(4, .int (x4 + 1)), (0, .ref (B + x0)), (1, .int x1), (2, .ref (B + x2)), (3, .int x3)]) hx hb dX12_compare_57 hl (k := 4) rfl rfl (by decide) rfl (fun ls hl => ?_)
      refine lv_goto (tgt := 20) hx hb dX12_compare_60 (by decide) ?_
      exact hrc20 _ _ _ _ _ _ _ _ h t0 t2 H locs hT ls (lv_sub hl [1, 2, 3, 4, 0] rfl)
    · rw [if_neg c5] at h
      refine lv_aload_n hx hb dX12_compare_43 rfl (lv_at hl 0 rfl) ?_
      refine lv_iload_n hx hb dX12_compare_44 rfl (lv_at hl 1 rfl) ?_
      refine lv_iload hx hb dX12_compare_45 (lv_at hl 4 rfl) ?_
      refine lv_iadd hx hb dX12_compare_47 ?_
      obtain ⟨g6, h⟩ := gd_some _ h
      refine js_iald C hT t0 g6 dX12_compare_48 ?_
      refine lv_aload_n hx hb dX12_compare_49 rfl (lv_at hl 2 rfl) ?_
      refine lv_iload_n hx hb dX12_compare_50 rfl (lv_at hl 3 rfl) ?_
      refine lv_iload hx hb dX12_compare_51 (lv_at hl 4 rfl) ?_
      refine lv_iadd hx hb dX12_compare_53 ?_
      obtain ⟨g7, h⟩ := gd_some _ h
      refine js_iald C hT t2 g7 dX12_compare_54 ?_
      refine lv_isub hx hb dX12_compare_55 ?_
      obtain ⟨rfl, rfl⟩ := js_rt h
      exact js_iret C hT hr hk dX12_compare_56
set_option maxHeartbeats 4000000 in
set_option maxRecDepth 20000 in
theorem wX12_compare_20 (C : js_C D g p m c cX12_compare 5 s args RX12) (hr : meth.sig.returnType = (some .int)) (hk : meth.locks = false) : ∀ (k : Nat), ∀ (x0 : Nat) (x1 : Int32) (x2 : Nat) (x3 : Int32) (x4 : Int32) (σ : js_S) (r0 : Int32) (σ0 : js_S), fX12_compare_20 fu k x0 x1 x2 x3 x4 σ = some (r0, σ0) → ob_ nn 20 x0 → ob_ nn 20 x2 → js_at p l e 0 s m args below meth c D B g nn 20 5 [(0, .ref (B + x0)), (1, .int x1), (2, .ref (B + x2)), (3, .int x3), (4, .int x4)] [] σ (js_QI D B g nn r0 σ0) := by
  intro k
  induction k with
  | zero =>
    intro x0 x1 x2 x3 x4 σ r0 σ0 h
    cases h
  | succ k ih =>
    intro x0 x1 x2 x3 x4 σ r0 σ0 h
    exact wX12_compare_20b C hr hk (fX12_compare_20 fu k) ih x0 x1 x2 x3 x4 σ r0 σ0 h
set_option maxHeartbeats 4000000 in
set_option maxRecDepth 20000 in
theorem kX12_compare {x0 : Nat} {x1 : Int32} {x2 : Nat} {x3 : Int32} {σ σ0 : js_S} {r0 : Int32} (t0 : ob_ nn 20 x0) (t2 : ob_ nn 20 x2) (h : fX12_compare fu x0 x1 x2 x3 σ = some (r0, σ0)) : js_M l D B g nn yX12_compare cX12_compare 5 (some .int) 0 [.ref (B + x0), .int x1, .ref (B + x2), .int x3] σ (js_QI D B g nn r0 σ0) := by
  refine js_enter (by decide) (Nat.le_of_ble_eq_true rfl) ?_
  intro p e s m args below meth c C hr hk ls hl hT
  have hl : lv_has ls 5 [(0, .ref (B + x0)), (1, .int x1), (2, .ref (B + x2)), (3, .int x3)] := hl
  obtain ⟨hx, hb, hml, hown, ht, hK, hNw⟩ := id C
  obtain ⟨H, eH⟩ : ∃ H, H = s.heap := ⟨_, rfl⟩
  obtain ⟨locs, eL⟩ : ∃ z : List Loc, z = [] := ⟨_, rfl⟩
  rw [← eH, ← eL]
  rw [← eH, ← eL] at hT
  clear eH eL
  unfold fX12_compare at h
  refine lv_aload_n hx hb dX12_compare_0 rfl (lv_at hl 0 rfl) ?_
  refine lv_iload_n hx hb dX12_compare_1 rfl (lv_at hl 1 rfl) ?_
  obtain ⟨g1, h⟩ := gd_some _ h
  refine js_iald C hT t0 g1 dX12_compare_2 ?_
  refine lv_aload_n hx hb dX12_compare_3 rfl (lv_at hl 2 rfl) ?_
  refine lv_iload_n hx hb dX12_compare_4 rfl (lv_at hl 3 rfl) ?_
  obtain ⟨g2, h⟩ := gd_some _ h
  refine js_iald C hT t2 g2 dX12_compare_5 ?_
  refine lv_icmp_eq (tgt := 17) hx hb dX12_compare_6 (by decide) (fun c3 => ?_) (fun c3 => ?_)
  · rw [if_pos c3] at h
    refine lv_iconst (v := 1) hx hb dX12_compare_17 (by decide) ?_
    refine lv_istore (lv' := [(4, .int 1), (0, .ref (B + x0)), (1, .int x1), (2, .ref (B + x2)), (3, .int x3)]) hx hb dX12_compare_18 hl (by decide) rfl (fun ls hl => ?_)
    exact wX12_compare_20 C hr hk _ _ _ _ _ _ _ _ _ h t0 t2 H locs hT ls (lv_sub hl [1, 2, 3, 4, 0] rfl)
  · rw [if_neg c3] at h
    refine lv_aload_n hx hb dX12_compare_9 rfl (lv_at hl 0 rfl) ?_
    refine lv_iload_n hx hb dX12_compare_10 rfl (lv_at hl 1 rfl) ?_
    obtain ⟨g4, h⟩ := gd_some _ h
    refine js_iald C hT t0 g4 dX12_compare_11 ?_
    refine lv_aload_n hx hb dX12_compare_12 rfl (lv_at hl 2 rfl) ?_
    refine lv_iload_n hx hb dX12_compare_13 rfl (lv_at hl 3 rfl) ?_
    obtain ⟨g5, h⟩ := gd_some _ h
    refine js_iald C hT t2 g5 dX12_compare_14 ?_
    refine lv_isub hx hb dX12_compare_15 ?_
    obtain ⟨rfl, rfl⟩ := js_rt h
    exact js_iret C hT hr hk dX12_compare_16
set_option maxHeartbeats 4000000 in
set_option maxRecDepth 20000 in
theorem kX12_isRegister {x0 : Int32} {σ σ0 : js_S} {r0 : Int32} (h : fX12_isRegister fu x0 σ = some (r0, σ0)) : js_M l D B g nn yX12_isRegister cX12_isRegister 1 (some .boolean) 1 [.int x0] σ (js_QI D B g nn r0 σ0) := by
  refine js_enter (by decide) (Nat.le_of_ble_eq_true rfl) ?_
  intro p e s m args below meth c C hr hk ls hl hT
  have hl : lv_has ls 1 [(0, .int x0)] := hl
  obtain ⟨hx, hb, hml, hown, ht, hK, hNw⟩ := id C
  obtain ⟨H, eH⟩ : ∃ H, H = s.heap := ⟨_, rfl⟩
  obtain ⟨locs, eL⟩ : ∃ z : List Loc, z = [] := ⟨_, rfl⟩
  rw [← eH, ← eL]
  rw [← eH, ← eL] at hT
  clear eH eL
  unfold fX12_isRegister at h
  refine lv_iload_n hx hb dX12_isRegister_0 rfl (lv_at hl 0 rfl) ?_
  refine lv_iconst (v := 0) hx hb dX12_isRegister_1 (by decide) ?_
  refine lv_iconst (v := 3) hx hb dX12_isRegister_2 (by decide) ?_
  obtain ⟨r1, σ1, hc1, h⟩ := bd_some h
  refine js_backI hT (js_runS C hT mfX12_isIn lk_X12_105 (kX12_isIn  hc1) ⟨Nat.le_of_ble_eq_true rfl, Nat.le_of_ble_eq_true rfl⟩ rfl hl.1 rfl (Nat.le_of_ble_eq_true rfl) ⟨Nat.zero_le _, Nat.zero_le _⟩ dX12_isRegister_3) (fun H locs hT => ?_)
  obtain ⟨g2, h⟩ := gd_some _ h
  obtain ⟨rfl, rfl⟩ := js_rt h
  exact js_zret C hT hr hk g2 dX12_isRegister_6
set_option maxHeartbeats 4000000 in
set_option maxRecDepth 20000 in
theorem kX12_compareTerms {x0 : Nat} {x1 : Int32} {x2 : Int32} {σ σ0 : js_S} {r0 : Int32} (t0 : ob_ nn 12 x0) (h : fX12_compareTerms fu x0 x1 x2 σ = some (r0, σ0)) : js_M l D B g nn yX12_compareTerms cX12_compareTerms 4 (some .int) 2 [.ref (B + x0), .int x1, .int x2] σ (js_QI D B g nn r0 σ0) := by
  refine js_enter (by decide) (Nat.le_of_ble_eq_true rfl) ?_
  intro p e s m args below meth c C hr hk ls hl hT
  have hl : lv_has ls 4 [(0, .ref (B + x0)), (1, .int x1), (2, .int x2)] := hl
  obtain ⟨hx, hb, hml, hown, ht, hK, hNw⟩ := id C
  obtain ⟨H, eH⟩ : ∃ H, H = s.heap := ⟨_, rfl⟩
  obtain ⟨locs, eL⟩ : ∃ z : List Loc, z = [] := ⟨_, rfl⟩
  rw [← eH, ← eL]
  rw [← eH, ← eL] at hT
  clear eH eL
  unfold fX12_compareTerms at h
  refine lv_iload_n hx hb dX12_compareTerms_0 rfl (lv_at hl 1 rfl) ?_
  obtain ⟨r1, σ1, hc1, h⟩ := bd_some h
  refine js_backI hT (js_runS C hT mfX12_isRegister lk_X12_274 (kX12_isRegister  hc1) ⟨Nat.le_of_ble_eq_true rfl, Nat.le_of_ble_eq_true rfl⟩ rfl hl.1 rfl (Nat.le_of_ble_eq_true rfl) ⟨Nat.zero_le _, Nat.zero_le _⟩ dX12_compareTerms_1) (fun H locs hT => ?_)
  refine lv_if_eq (tgt := 14) hx hb dX12_compareTerms_4 (by decide) (fun c2 => ?_) (fun c2 => ?_)
  · rw [if_pos c2] at h
    refine lv_iconst (v := (-1)) hx hb dX12_compareTerms_14 (by decide) ?_
    obtain ⟨rfl, rfl⟩ := js_rt h
    exact js_iret C hT hr hk dX12_compareTerms_15
  · rw [if_neg c2] at h
    refine lv_iload_n hx hb dX12_compareTerms_7 rfl (lv_at hl 2 rfl) ?_
    obtain ⟨r3, σ3, hc3, h⟩ := bd_some h
    refine js_backI hT (js_runS C hT mfX12_isRegister lk_X12_274 (kX12_isRegister  hc3) ⟨Nat.le_of_ble_eq_true rfl, Nat.le_of_ble_eq_true rfl⟩ rfl hl.1 rfl (Nat.le_of_ble_eq_true rfl) ⟨Nat.zero_le _, Nat.zero_le _⟩ dX12_compareTerms_8) (fun H locs hT => ?_)
    refine lv_if_ne (tgt := 16) hx hb dX12_compareTerms_11 (by decide) (fun c4 => ?_) (fun c4 => ?_)
    · rw [if_neg c4] at h
      refine lv_aload_n hx hb dX12_compareTerms_16 rfl (lv_at hl 0 rfl) ?_
      refine js_gR C hT cfX12 t0 4 (by decide) (q := 20) rfl (by decide) lk_X12_22 dX12_compareTerms_17 (fun t5a => ?_)
      refine lv_bipush (v := 96) hx hb dX12_compareTerms_20 (by decide) ?_
      refine lv_iload_n hx hb dX12_compareTerms_22 rfl (lv_at hl 1 rfl) ?_
      refine lv_imul hx hb dX12_compareTerms_23 ?_
      refine lv_aload_n hx hb dX12_compareTerms_24 rfl (lv_at hl 0 rfl) ?_
      refine js_gR C hT cfX12 t0 4 (by decide) (q := 20) rfl (by decide) lk_X12_22 dX12_compareTerms_25 (fun t6a => ?_)
      refine lv_bipush (v := 96) hx hb dX12_compareTerms_28 (by decide) ?_
      refine lv_iload_n hx hb dX12_compareTerms_30 rfl (lv_at hl 2 rfl) ?_
      refine lv_imul hx hb dX12_compareTerms_31 ?_
      obtain ⟨r7, σ7, hc7, h⟩ := bd_some h
      refine js_backI hT (js_runS C hT mfX12_compare lk_X12_288 (kX12_compare t5a t6a hc7) ⟨Nat.le_of_ble_eq_true rfl, Nat.le_of_ble_eq_true rfl⟩ rfl hl.1 rfl (Nat.le_of_ble_eq_true rfl) ⟨Nat.zero_le _, Nat.zero_le _⟩ dX12_compareTerms_32) (fun H locs hT => ?_)
      refine lv_istore_n (lv' := [(3, .int r7), (0, .ref (B + x0)), (1, .int x1), (2, .int x2)]) hx hb dX12_compareTerms_35 rfl hl (by decide) rfl (fun ls hl => ?_)
      refine lv_iload_n hx hb dX12_compareTerms_36 rfl (lv_at hl 0 rfl) ?_
      refine lv_if_ge (tgt := 44) hx hb dX12_compareTerms_37 (by decide) (fun c8 => ?_) (fun c8 => ?_)
      · rw [if_pos c8] at h
        refine lv_iload_n hx hb dX12_compareTerms_44 rfl (lv_at hl 0 rfl) ?_
        refine lv_if_ne (tgt := 52) hx hb dX12_compareTerms_45 (by decide) (fun c9 => ?_) (fun c9 => ?_)
        · rw [if_neg c9] at h
          refine lv_iconst (v := 2) hx hb dX12_compareTerms_52 (by decide) ?_
          obtain ⟨rfl, rfl⟩ := js_rt h
          exact js_iret C hT hr hk dX12_compareTerms_53
        · rw [if_pos c9] at h
          refine lv_iconst (v := 1) hx hb dX12_compareTerms_48 (by decide) ?_
          refine lv_goto (tgt := 53) hx hb dX12_compareTerms_49 (by decide) ?_
          obtain ⟨rfl, rfl⟩ := js_rt h
          exact js_iret C hT hr hk dX12_compareTerms_53
      · rw [if_neg c8] at h
        refine lv_iconst (v := 0) hx hb dX12_compareTerms_40 (by decide) ?_
        refine lv_goto (tgt := 53) hx hb dX12_compareTerms_41 (by decide) ?_
        obtain ⟨rfl, rfl⟩ := js_rt h
        exact js_iret C hT hr hk dX12_compareTerms_53
    · rw [if_pos c4] at h
      refine lv_iconst (v := (-1)) hx hb dX12_compareTerms_14 (by decide) ?_
      obtain ⟨rfl, rfl⟩ := js_rt h
      exact js_iret C hT hr hk dX12_compareTerms_15
set_option maxHeartbeats 4000000 in
set_option maxRecDepth 20000 in
theorem kX12_hasBit {x0 : Nat} {x1 : Int32} {x2 : Int32} {σ σ0 : js_S} {r0 : Int32} (t0 : ob_ nn 21 x0) (h : fX12_hasBit fu x0 x1 x2 σ = some (r0, σ0)) : js_M l D B g nn yX12_hasBit cX12_hasBit 3 (some .boolean) 0 [.ref (B + x0), .int x1, .int x2] σ (js_QI D B g nn r0 σ0) := by
  refine js_enter (by decide) (Nat.le_of_ble_eq_true rfl) ?_
  intro p e s m args below meth c C hr hk ls hl hT
  have hl : lv_has ls 3 [(0, .ref (B + x0)), (1, .int x1), (2, .int x2)] := hl
  obtain ⟨hx, hb, hml, hown, ht, hK, hNw⟩ := id C
  obtain ⟨H, eH⟩ : ∃ H, H = s.heap := ⟨_, rfl⟩
  obtain ⟨locs, eL⟩ : ∃ z : List Loc, z = [] := ⟨_, rfl⟩
  rw [← eH, ← eL]
  rw [← eH, ← eL] at hT
  clear eH eL
  unfold fX12_hasBit at h
  refine lv_aload_n hx hb dX12_hasBit_0 rfl (lv_at hl 0 rfl) ?_
  refine lv_iconst (v := 4) hx hb dX12_hasBit_1 (by decide) ?_
  refine lv_iload_n hx hb dX12_hasBit_2 rfl (lv_at hl 1 rfl) ?_
  refine lv_imul hx hb dX12_hasBit_3 ?_
  refine lv_iload_n hx hb dX12_hasBit_4 rfl (lv_at hl 2 rfl) ?_
  refine lv_bipush (v := 64) hx hb dX12_hasBit_5 (by decide) ?_
  refine lv_idiv hx hb dX12_hasBit_7 (by decide) ?_
  refine lv_iadd hx hb dX12_hasBit_8 ?_
  obtain ⟨g1, h⟩ := gd_some _ h
  refine js_lald C hT t0 g1 dX12_hasBit_9 ?_
  refine lv_iload_n hx hb dX12_hasBit_10 rfl (lv_at hl 2 rfl) ?_
  refine lv_lshr hx hb dX12_hasBit_11 rfl ?_
  refine lv_lconst (v := 1) hx hb dX12_hasBit_12 (by decide) ?_
  refine lv_land hx hb dX12_hasBit_13 ?_
  refine lv_lconst (v := 1) hx hb dX12_hasBit_14 (by decide) ?_
  refine W.lcmp hx hb dX12_hasBit_15 ?_
  refine lv_if_ne (tgt := 23) hx hb dX12_hasBit_16 (by decide) (fun c2 => ?_) (fun c2 => ?_)
  · rw [if_neg c2] at h
    refine lv_iconst (v := 0) hx hb dX12_hasBit_23 (by decide) ?_
    obtain ⟨rfl, rfl⟩ := js_rt h
    exact js_zret C hT hr hk rfl dX12_hasBit_24
  · rw [if_pos c2] at h
    refine lv_iconst (v := 1) hx hb dX12_hasBit_19 (by decide) ?_
    refine lv_goto (tgt := 24) hx hb dX12_hasBit_20 (by decide) ?_
    obtain ⟨rfl, rfl⟩ := js_rt h
    exact js_zret C hT hr hk rfl dX12_hasBit_24
set_option maxHeartbeats 4000000 in
set_option maxRecDepth 20000 in
theorem wX12_findComponents_315 (C : js_C D g p m c cX12_findComponents 4 s args RX12) (hr : meth.sig.returnType = none) (hk : meth.locks = false) (rc221 : Nat → Int32 → js_S → Option (Unit × js_S)) (hrc221 : ∀ (x0 : Nat) (x1 : Int32) (σ : js_S) (r0 : Unit) (σ0 : js_S), rc221 x0 x1 σ = some (r0, σ0) → ob_ nn 12 x0 → js_at p l e 1 s m args below meth c D B g nn 221 4 [(0, .ref (B + x0)), (1, .int x1)] [] σ (js_QV D B g nn σ0)) : ∀ (x0 : Nat) (x1 : Int32) (σ : js_S) (r0 : Unit) (σ0 : js_S), fX12_findComponents_315 fu rc221 x0 x1 σ = some (r0, σ0) → ob_ nn 12 x0 → js_at p l e 1 s m args below meth c D B g nn 315 4 [(0, .ref (B + x0)), (1, .int x1)] [] σ (js_QV D B g nn σ0) := by
  obtain ⟨hx, hb, hml, hown, ht, hK, hNw⟩ := id C
  intro x0 x1 σ r0 σ0 h t0 H locs hT ls hl
  unfold fX12_findComponents_315 at h
  refine lv_iinc (v := x1 + 1) (lv' := [(1, .int (x1 + 1)), (0, .ref (B + x0))]) hx hb dX12_findComponents_315 hl (k := 1) rfl rfl (by decide) rfl (fun ls hl => ?_)
  refine lv_goto (tgt := 221) hx hb dX12_findComponents_318 (by decide) ?_
  exact hrc221 _ _ _ _ _ h t0 H locs hT ls (lv_sub hl [1, 0] rfl)
set_option maxHeartbeats 4000000 in
set_option maxRecDepth 20000 in
theorem wX12_findComponents_299 (C : js_C D g p m c cX12_findComponents 4 s args RX12) (hr : meth.sig.returnType = none) (hk : meth.locks = false) (rc221 : Nat → Int32 → js_S → Option (Unit × js_S)) (hrc221 : ∀ (x0 : Nat) (x1 : Int32) (σ : js_S) (r0 : Unit) (σ0 : js_S), rc221 x0 x1 σ = some (r0, σ0) → ob_ nn 12 x0 → js_at p l e 1 s m args below meth c D B g nn 221 4 [(0, .ref (B + x0)), (1, .int x1)] [] σ (js_QV D B g nn σ0)) (rc257 : Nat → Int32 → Int32 → js_S → Option (Unit × js_S)) (hrc257 : ∀ (x0 : Nat) (x1 : Int32) (x2 : Int32) (σ : js_S) (r0 : Unit) (σ0 : js_S), rc257 x0 x1 x2 σ = some (r0, σ0) → ob_ nn 12 x0 → js_at p l e 1 s m args below meth c D B g nn 257 4 [(0, .ref (B + x0)), (1, .int x1), (2, .int x2)] [] σ (js_QV D B g nn σ0)) : ∀ (x0 : Nat) (x1 : Int32) (x2 : Int32) (σ : js_S) (r0 : Unit) (σ0 : js_S), fX12_findComponents_299 fu rc221 rc257 x0 x1 x2 σ = some (r0, σ0) → ob_ nn 12 x0 → js_at p l e 1 s m args below meth c D B g nn 299 4 [(0, .ref (B + x0)), (1, .int x1), (2, .int x2)] [] σ (js_QV D B g nn σ0) := by
  obtain ⟨hx, hb, hml, hown, ht, hK, hNw⟩ := id C
  intro x0 x1 x2 σ r0 σ0 h t0 H locs hT ls hl
  unfold fX12_findComponents_299 at h
  refine lv_iinc (v := x2 + 1) (lv' := [(2, .int (x2 + 1)), (0, .ref (B + x0)), (1, .int x1)]) hx hb dX12_findComponents_299 hl (k := 2) rfl rfl (by decide) rfl (fun ls hl => ?_)
  refine lv_goto (tgt := 257) hx hb dX12_findComponents_302 (by decide) ?_
  exact hrc257 _ _ _ _ _ _ h t0 H locs hT ls (lv_sub hl [1, 2, 0] rfl)
set_option maxHeartbeats 4000000 in
set_option maxRecDepth 20000 in
theorem wX12_findComponents_257b (C : js_C D g p m c cX12_findComponents 4 s args RX12) (hr : meth.sig.returnType = none) (hk : meth.locks = false) (rc221 : Nat → Int32 → js_S → Option (Unit × js_S)) (hrc221 : ∀ (x0 : Nat) (x1 : Int32) (σ : js_S) (r0 : Unit) (σ0 : js_S), rc221 x0 x1 σ = some (r0, σ0) → ob_ nn 12 x0 → js_at p l e 1 s m args below meth c D B g nn 221 4 [(0, .ref (B + x0)), (1, .int x1)] [] σ (js_QV D B g nn σ0)) (rc257 : Nat → Int32 → Int32 → js_S → Option (Unit × js_S)) (hrc257 : ∀ (x0 : Nat) (x1 : Int32) (x2 : Int32) (σ : js_S) (r0 : Unit) (σ0 : js_S), rc257 x0 x1 x2 σ = some (r0, σ0) → ob_ nn 12 x0 → js_at p l e 1 s m args below meth c D B g nn 257 4 [(0, .ref (B + x0)), (1, .int x1), (2, .int x2)] [] σ (js_QV D B g nn σ0)) : ∀ (x0 : Nat) (x1 : Int32) (x2 : Int32) (σ : js_S) (r0 : Unit) (σ0 : js_S), fX12_findComponents_257b fu rc221 rc257 x0 x1 x2 σ = some (r0, σ0) → ob_ nn 12 x0 → js_at p l e 1 s m args below meth c D B g nn 257 4 [(0, .ref (B + x0)), (1, .int x1), (2, .int x2)] [] σ (js_QV D B g nn σ0) := by
  obtain ⟨hx, hb, hml, hown, ht, hK, hNw⟩ := id C
  intro x0 x1 x2 σ r0 σ0 h t0 H locs hT ls hl
  unfold fX12_findComponents_257b at h
  refine lv_iload_n hx hb dX12_findComponents_257 rfl (lv_at hl 2 rfl) ?_
  refine lv_aload_n hx hb dX12_findComponents_258 rfl (lv_at hl 0 rfl) ?_
  refine js_gI C hT cfX12 t0 23 (by decide) rfl lk_X12_211 dX12_findComponents_259 ?_
  refine lv_icmp_ge (tgt := 305) hx hb dX12_findComponents_262 (by decide) (fun c1 => ?_) (fun c1 => ?_)
  · rw [if_pos c1] at h
    refine lv_aload_n hx hb dX12_findComponents_305 rfl (lv_at hl 0 rfl) ?_
    refine lv_dup hx hb dX12_findComponents_306 rfl ?_
    refine js_gI C hT cfX12 t0 24 (by decide) rfl lk_X12_220 dX12_findComponents_307 ?_
    refine lv_iconst (v := 1) hx hb dX12_findComponents_310 (by decide) ?_
    refine lv_iadd hx hb dX12_findComponents_311 ?_
    obtain ⟨σ2, e2, h⟩ := lt_some h
    refine js_pI C hT cfX12 t0 24 (by decide) rfl rfl rfl rfl lk_X12_220 dX12_findComponents_312 (fun H locs hT => ?_)
    rw [e2] at hT
    exact wX12_findComponents_315 C hr hk rc221 hrc221 _ _ _ _ _ h t0 H locs hT ls (lv_sub hl [0, 1] rfl)
  · rw [if_neg c1] at h
    refine lv_aload_n hx hb dX12_findComponents_265 rfl (lv_at hl 0 rfl) ?_
    refine js_gR C hT cfX12 t0 20 (by decide) (q := 21) rfl (by decide) lk_X12_56 dX12_findComponents_266 (fun t3a => ?_)
    refine lv_iload_n hx hb dX12_findComponents_269 rfl (lv_at hl 1 rfl) ?_
    refine lv_iload_n hx hb dX12_findComponents_270 rfl (lv_at hl 2 rfl) ?_
    obtain ⟨r4, σ4, hc4, h⟩ := bd_some h
    refine js_backI hT (js_runS C hT mfX12_hasBit lk_X12_216 (kX12_hasBit t3a hc4) ⟨Nat.le_of_ble_eq_true rfl, Nat.le_of_ble_eq_true rfl⟩ rfl hl.1 rfl (Nat.le_of_ble_eq_true rfl) ⟨Nat.zero_le _, Nat.zero_le _⟩ dX12_findComponents_271) (fun H locs hT => ?_)
    refine lv_if_eq (tgt := 299) hx hb dX12_findComponents_274 (by decide) (fun c5 => ?_) (fun c5 => ?_)
    · rw [if_pos c5] at h
      exact wX12_findComponents_299 C hr hk rc221 hrc221 rc257 hrc257 _ _ _ _ _ _ h t0 H locs hT ls (lv_sub hl [0, 1, 2] rfl)
    · rw [if_neg c5] at h
      refine lv_aload_n hx hb dX12_findComponents_277 rfl (lv_at hl 0 rfl) ?_
      refine js_gR C hT cfX12 t0 20 (by decide) (q := 21) rfl (by decide) lk_X12_56 dX12_findComponents_278 (fun t6a => ?_)
      refine lv_iload_n hx hb dX12_findComponents_281 rfl (lv_at hl 2 rfl) ?_
      refine lv_iload_n hx hb dX12_findComponents_282 rfl (lv_at hl 1 rfl) ?_
      obtain ⟨r7, σ7, hc7, h⟩ := bd_some h
      refine js_backI hT (js_runS C hT mfX12_hasBit lk_X12_216 (kX12_hasBit t6a hc7) ⟨Nat.le_of_ble_eq_true rfl, Nat.le_of_ble_eq_true rfl⟩ rfl hl.1 rfl (Nat.le_of_ble_eq_true rfl) ⟨Nat.zero_le _, Nat.zero_le _⟩ dX12_findComponents_283) (fun H locs hT => ?_)
      refine lv_if_eq (tgt := 299) hx hb dX12_findComponents_286 (by decide) (fun c8 => ?_) (fun c8 => ?_)
      · rw [if_pos c8] at h
        exact wX12_findComponents_299 C hr hk rc221 hrc221 rc257 hrc257 _ _ _ _ _ _ h t0 H locs hT ls (lv_sub hl [0, 1, 2] rfl)
      · rw [if_neg c8] at h
        refine lv_aload_n hx hb dX12_findComponents_289 rfl (lv_at hl 0 rfl) ?_
        refine js_gR C hT cfX12 t0 22 (by decide) (q := 20) rfl (by decide) lk_X12_63 dX12_findComponents_290 (fun t9a => ?_)
        refine lv_iload_n hx hb dX12_findComponents_293 rfl (lv_at hl 2 rfl) ?_
        refine lv_aload_n hx hb dX12_findComponents_294 rfl (lv_at hl 0 rfl) ?_
        refine js_gI C hT cfX12 t0 24 (by decide) rfl lk_X12_220 dX12_findComponents_295 ?_
        obtain ⟨g10, h⟩ := gd_some _ h
        obtain ⟨σ10, e10, h⟩ := lt_some h
        refine js_iast C hT t9a g10 dX12_findComponents_298 (fun H locs hT => ?_)
        rw [e10] at hT
        exact wX12_findComponents_299 C hr hk rc221 hrc221 rc257 hrc257 _ _ _ _ _ _ h t0 H locs hT ls (lv_sub hl [0, 1, 2] rfl)
set_option maxHeartbeats 4000000 in
set_option maxRecDepth 20000 in
theorem wX12_findComponents_257 (C : js_C D g p m c cX12_findComponents 4 s args RX12) (hr : meth.sig.returnType = none) (hk : meth.locks = false) (rc221 : Nat → Int32 → js_S → Option (Unit × js_S)) (hrc221 : ∀ (x0 : Nat) (x1 : Int32) (σ : js_S) (r0 : Unit) (σ0 : js_S), rc221 x0 x1 σ = some (r0, σ0) → ob_ nn 12 x0 → js_at p l e 1 s m args below meth c D B g nn 221 4 [(0, .ref (B + x0)), (1, .int x1)] [] σ (js_QV D B g nn σ0)) : ∀ (k : Nat), ∀ (x0 : Nat) (x1 : Int32) (x2 : Int32) (σ : js_S) (r0 : Unit) (σ0 : js_S), fX12_findComponents_257 fu rc221 k x0 x1 x2 σ = some (r0, σ0) → ob_ nn 12 x0 → js_at p l e 1 s m args below meth c D B g nn 257 4 [(0, .ref (B + x0)), (1, .int x1), (2, .int x2)] [] σ (js_QV D B g nn σ0) := by
  intro k
  induction k with
  | zero =>
    intro x0 x1 x2 σ r0 σ0 h
    cases h
  | succ k ih =>
    intro x0 x1 x2 σ r0 σ0 h
    exact wX12_findComponents_257b C hr hk rc221 hrc221 (fX12_findComponents_257 fu rc221 k) ih x0 x1 x2 σ r0 σ0 h
set_option maxHeartbeats 4000000 in
set_option maxRecDepth 20000 in
theorem wX12_findComponents_221b (C : js_C D g p m c cX12_findComponents 4 s args RX12) (hr : meth.sig.returnType = none) (hk : meth.locks = false) (rc221 : Nat → Int32 → js_S → Option (Unit × js_S)) (hrc221 : ∀ (x0 : Nat) (x1 : Int32) (σ : js_S) (r0 : Unit) (σ0 : js_S), rc221 x0 x1 σ = some (r0, σ0) → ob_ nn 12 x0 → js_at p l e 1 s m args below meth c D B g nn 221 4 [(0, .ref (B + x0)), (1, .int x1)] [] σ (js_QV D B g nn σ0)) : ∀ (x0 : Nat) (x1 : Int32) (σ : js_S) (r0 : Unit) (σ0 : js_S), fX12_findComponents_221b fu rc221 x0 x1 σ = some (r0, σ0) → ob_ nn 12 x0 → js_at p l e 1 s m args below meth c D B g nn 221 4 [(0, .ref (B + x0)), (1, .int x1)] [] σ (js_QV D B g nn σ0) := by
  obtain ⟨hx, hb, hml, hown, ht, hK, hNw⟩ := id C
  intro x0 x1 σ r0 σ0 h t0 H locs hT ls hl
  unfold fX12_findComponents_221b at h
  refine lv_iload_n hx hb dX12_findComponents_221 rfl (lv_at hl 1 rfl) ?_
  refine lv_aload_n hx hb dX12_findComponents_222 rfl (lv_at hl 0 rfl) ?_
  refine js_gI C hT cfX12 t0 23 (by decide) rfl lk_X12_211 dX12_findComponents_223 ?_
  refine lv_icmp_ge (tgt := 321) hx hb dX12_findComponents_226 (by decide) (fun c1 => ?_) (fun c1 => ?_)
  · rw [if_pos c1] at h
    obtain ⟨rfl, rfl⟩ := js_rt h
    exact js_vret C hT hr hk dX12_findComponents_321
  · rw [if_neg c1] at h
    refine lv_aload_n hx hb dX12_findComponents_229 rfl (lv_at hl 0 rfl) ?_
    refine js_gR C hT cfX12 t0 22 (by decide) (q := 20) rfl (by decide) lk_X12_63 dX12_findComponents_230 (fun t2a => ?_)
    refine lv_iload_n hx hb dX12_findComponents_233 rfl (lv_at hl 1 rfl) ?_
    obtain ⟨g3, h⟩ := gd_some _ h
    refine js_iald C hT t2a g3 dX12_findComponents_234 ?_
    refine lv_bipush (v := (-5)) hx hb dX12_findComponents_235 (by decide) ?_
    refine lv_icmp_ne (tgt := 315) hx hb dX12_findComponents_237 (by decide) (fun c4 => ?_) (fun c4 => ?_)
    · rw [if_neg c4] at h
      exact wX12_findComponents_315 C hr hk rc221 hrc221 _ _ _ _ _ h t0 H locs hT ls (lv_sub hl [0, 1] rfl)
    · rw [if_pos c4] at h
      refine lv_aload_n hx hb dX12_findComponents_240 rfl (lv_at hl 0 rfl) ?_
      refine js_gR C hT cfX12 t0 20 (by decide) (q := 21) rfl (by decide) lk_X12_56 dX12_findComponents_241 (fun t5a => ?_)
      refine lv_iload_n hx hb dX12_findComponents_244 rfl (lv_at hl 1 rfl) ?_
      refine lv_iload_n hx hb dX12_findComponents_245 rfl (lv_at hl 1 rfl) ?_
      obtain ⟨r6, σ6, hc6, h⟩ := bd_some h
      refine js_backI hT (js_runS C hT mfX12_hasBit lk_X12_216 (kX12_hasBit t5a hc6) ⟨Nat.le_of_ble_eq_true rfl, Nat.le_of_ble_eq_true rfl⟩ rfl hl.1 rfl (Nat.le_of_ble_eq_true rfl) ⟨Nat.zero_le _, Nat.zero_le _⟩ dX12_findComponents_246) (fun H locs hT => ?_)
      refine lv_if_ne (tgt := 255) hx hb dX12_findComponents_249 (by decide) (fun c7 => ?_) (fun c7 => ?_)
      · rw [if_neg c7] at h
        refine lv_iload_n hx hb dX12_findComponents_255 rfl (lv_at hl 1 rfl) ?_
        refine lv_istore_n (lv' := [(2, .int x1), (0, .ref (B + x0)), (1, .int x1)]) hx hb dX12_findComponents_256 rfl hl (by decide) rfl (fun ls hl => ?_)
        exact wX12_findComponents_257 C hr hk rc221 hrc221 _ _ _ _ _ _ _ h t0 H locs hT ls (lv_sub hl [1, 2, 0] rfl)
      · rw [if_pos c7] at h
        refine lv_goto (tgt := 315) hx hb dX12_findComponents_252 (by decide) ?_
        exact wX12_findComponents_315 C hr hk rc221 hrc221 _ _ _ _ _ h t0 H locs hT ls (lv_sub hl [0, 1] rfl)
set_option maxHeartbeats 4000000 in
set_option maxRecDepth 20000 in
theorem wX12_findComponents_221 (C : js_C D g p m c cX12_findComponents 4 s args RX12) (hr : meth.sig.returnType = none) (hk : meth.locks = false) : ∀ (k : Nat), ∀ (x0 : Nat) (x1 : Int32) (σ : js_S) (r0 : Unit) (σ0 : js_S), fX12_findComponents_221 fu k x0 x1 σ = some (r0, σ0) → ob_ nn 12 x0 → js_at p l e 1 s m args below meth c D B g nn 221 4 [(0, .ref (B + x0)), (1, .int x1)] [] σ (js_QV D B g nn σ0) := by
  intro k
  induction k with
  | zero =>
    intro x0 x1 σ r0 σ0 h
    cases h
  | succ k ih =>
    intro x0 x1 σ r0 σ0 h
    exact wX12_findComponents_221b C hr hk (fX12_findComponents_221 fu k) ih x0 x1 σ r0 σ0 h
set_option maxHeartbeats 4000000 in
set_option maxRecDepth 20000 in
theorem wX12_findComponents_197b (C : js_C D g p m c cX12_findComponents 4 s args RX12) (hr : meth.sig.returnType = none) (hk : meth.locks = false) (rc197 : Nat → Int32 → js_S → Option (Unit × js_S)) (hrc197 : ∀ (x0 : Nat) (x1 : Int32) (σ : js_S) (r0 : Unit) (σ0 : js_S), rc197 x0 x1 σ = some (r0, σ0) → ob_ nn 12 x0 → js_at p l e 1 s m args below meth c D B g nn 197 4 [(0, .ref (B + x0)), (1, .int x1)] [] σ (js_QV D B g nn σ0)) : ∀ (x0 : Nat) (x1 : Int32) (σ : js_S) (r0 : Unit) (σ0 : js_S), fX12_findComponents_197b fu rc197 x0 x1 σ = some (r0, σ0) → ob_ nn 12 x0 → js_at p l e 1 s m args below meth c D B g nn 197 4 [(0, .ref (B + x0)), (1, .int x1)] [] σ (js_QV D B g nn σ0) := by
  obtain ⟨hx, hb, hml, hown, ht, hK, hNw⟩ := id C
  intro x0 x1 σ r0 σ0 h t0 H locs hT ls hl
  unfold fX12_findComponents_197b at h
  refine lv_iload_n hx hb dX12_findComponents_197 rfl (lv_at hl 1 rfl) ?_
  refine lv_aload_n hx hb dX12_findComponents_198 rfl (lv_at hl 0 rfl) ?_
  refine js_gI C hT cfX12 t0 23 (by decide) rfl lk_X12_211 dX12_findComponents_199 ?_
  refine lv_icmp_ge (tgt := 219) hx hb dX12_findComponents_202 (by decide) (fun c1 => ?_) (fun c1 => ?_)
  · rw [if_pos c1] at h
    refine lv_iconst (v := 0) hx hb dX12_findComponents_219 (by decide) ?_
    refine lv_istore_n (lv' := [(1, .int 0), (0, .ref (B + x0))]) hx hb dX12_findComponents_220 rfl hl (by decide) rfl (fun ls hl => ?_)
    exact wX12_findComponents_221 C hr hk _ _ _ _ _ _ h t0 H locs hT ls (lv_sub hl [1, 0] rfl)
  · rw [if_neg c1] at h
    refine lv_aload_n hx hb dX12_findComponents_205 rfl (lv_at hl 0 rfl) ?_
    refine js_gR C hT cfX12 t0 22 (by decide) (q := 20) rfl (by decide) lk_X12_63 dX12_findComponents_206 (fun t2a => ?_)
    refine lv_iload_n hx hb dX12_findComponents_209 rfl (lv_at hl 1 rfl) ?_
    refine lv_bipush (v := (-5)) hx hb dX12_findComponents_210 (by decide) ?_
    obtain ⟨g3, h⟩ := gd_some _ h
    obtain ⟨σ3, e3, h⟩ := lt_some h
    refine js_iast C hT t2a g3 dX12_findComponents_212 (fun H locs hT => ?_)
    rw [e3] at hT
    refine lv_iinc (v := x1 + 1) (lv' := [(1, .int (x1 + 1)), (0, .ref (B + x0))]) hx hb dX12_findComponents_213 hl (k := 1) rfl rfl (by decide) rfl (fun ls hl => ?_)
    refine lv_goto (tgt := 197) hx hb dX12_findComponents_216 (by decide) ?_
    exact hrc197 _ _ _ _ _ h t0 H locs hT ls (lv_sub hl [1, 0] rfl)
set_option maxHeartbeats 4000000 in
set_option maxRecDepth 20000 in
theorem wX12_findComponents_197 (C : js_C D g p m c cX12_findComponents 4 s args RX12) (hr : meth.sig.returnType = none) (hk : meth.locks = false) : ∀ (k : Nat), ∀ (x0 : Nat) (x1 : Int32) (σ : js_S) (r0 : Unit) (σ0 : js_S), fX12_findComponents_197 fu k x0 x1 σ = some (r0, σ0) → ob_ nn 12 x0 → js_at p l e 1 s m args below meth c D B g nn 197 4 [(0, .ref (B + x0)), (1, .int x1)] [] σ (js_QV D B g nn σ0) := by
  intro k
  induction k with
  | zero =>
    intro x0 x1 σ r0 σ0 h
    cases h
  | succ k ih =>
    intro x0 x1 σ r0 σ0 h
    exact wX12_findComponents_197b C hr hk (fX12_findComponents_197 fu k) ih x0 x1 σ r0 σ0 h
set_option maxHeartbeats 4000000 in
set_option maxRecDepth 20000 in
theorem wX12_findComponents_178 (C : js_C D g p m c cX12_findComponents 4 s args RX12) (hr : meth.sig.returnType = none) (hk : meth.locks = false) (rc112 : Nat → Int32 → js_S → Option (Unit × js_S)) (hrc112 : ∀ (x0 : Nat) (x1 : Int32) (σ : js_S) (r0 : Unit) (σ0 : js_S), rc112 x0 x1 σ = some (r0, σ0) → ob_ nn 12 x0 → js_at p l e 1 s m args below meth c D B g nn 112 4 [(0, .ref (B + x0)), (1, .int x1)] [] σ (js_QV D B g nn σ0)) (rc122 : Nat → Int32 → Int32 → js_S → Option (Unit × js_S)) (hrc122 : ∀ (x0 : Nat) (x1 : Int32) (x2 : Int32) (σ : js_S) (r0 : Unit) (σ0 : js_S), rc122 x0 x1 x2 σ = some (r0, σ0) → ob_ nn 12 x0 → js_at p l e 1 s m args below meth c D B g nn 122 4 [(0, .ref (B + x0)), (1, .int x1), (2, .int x2)] [] σ (js_QV D B g nn σ0)) : ∀ (x0 : Nat) (x1 : Int32) (x2 : Int32) (σ : js_S) (r0 : Unit) (σ0 : js_S), fX12_findComponents_178 fu rc112 rc122 x0 x1 x2 σ = some (r0, σ0) → ob_ nn 12 x0 → js_at p l e 1 s m args below meth c D B g nn 178 4 [(0, .ref (B + x0)), (1, .int x1), (2, .int x2)] [] σ (js_QV D B g nn σ0) := by
  obtain ⟨hx, hb, hml, hown, ht, hK, hNw⟩ := id C
  intro x0 x1 x2 σ r0 σ0 h t0 H locs hT ls hl
  unfold fX12_findComponents_178 at h
  refine lv_iinc (v := x2 + 1) (lv' := [(2, .int (x2 + 1)), (0, .ref (B + x0)), (1, .int x1)]) hx hb dX12_findComponents_178 hl (k := 2) rfl rfl (by decide) rfl (fun ls hl => ?_)
  refine lv_goto (tgt := 122) hx hb dX12_findComponents_181 (by decide) ?_
  exact hrc122 _ _ _ _ _ _ h t0 H locs hT ls (lv_sub hl [1, 2, 0] rfl)
set_option maxHeartbeats 4000000 in
set_option maxRecDepth 20000 in
theorem wX12_findComponents_144b (C : js_C D g p m c cX12_findComponents 4 s args RX12) (hr : meth.sig.returnType = none) (hk : meth.locks = false) (rc112 : Nat → Int32 → js_S → Option (Unit × js_S)) (hrc112 : ∀ (x0 : Nat) (x1 : Int32) (σ : js_S) (r0 : Unit) (σ0 : js_S), rc112 x0 x1 σ = some (r0, σ0) → ob_ nn 12 x0 → js_at p l e 1 s m args below meth c D B g nn 112 4 [(0, .ref (B + x0)), (1, .int x1)] [] σ (js_QV D B g nn σ0)) (rc122 : Nat → Int32 → Int32 → js_S → Option (Unit × js_S)) (hrc122 : ∀ (x0 : Nat) (x1 : Int32) (x2 : Int32) (σ : js_S) (r0 : Unit) (σ0 : js_S), rc122 x0 x1 x2 σ = some (r0, σ0) → ob_ nn 12 x0 → js_at p l e 1 s m args below meth c D B g nn 122 4 [(0, .ref (B + x0)), (1, .int x1), (2, .int x2)] [] σ (js_QV D B g nn σ0)) (rc144 : Nat → Int32 → Int32 → Int32 → js_S → Option (Unit × js_S)) (hrc144 : ∀ (x0 : Nat) (x1 : Int32) (x2 : Int32) (x3 : Int32) (σ : js_S) (r0 : Unit) (σ0 : js_S), rc144 x0 x1 x2 x3 σ = some (r0, σ0) → ob_ nn 12 x0 → js_at p l e 1 s m args below meth c D B g nn 144 4 [(0, .ref (B + x0)), (1, .int x1), (2, .int x2), (3, .int x3)] [] σ (js_QV D B g nn σ0)) : ∀ (x0 : Nat) (x1 : Int32) (x2 : Int32) (x3 : Int32) (σ : js_S) (r0 : Unit) (σ0 : js_S), fX12_findComponents_144b fu rc112 rc122 rc144 x0 x1 x2 x3 σ = some (r0, σ0) → ob_ nn 12 x0 → js_at p l e 1 s m args below meth c D B g nn 144 4 [(0, .ref (B + x0)), (1, .int x1), (2, .int x2), (3, .int x3)] [] σ (js_QV D B g nn σ0) := by
  obtain ⟨hx, hb, hml, hown, ht, hK, hNw⟩ := id C
  intro x0 x1 x2 x3 σ r0 σ0 h t0 H locs hT ls hl
  unfold fX12_findComponents_144b at h
  refine lv_iload_n hx hb dX12_findComponents_144 rfl (lv_at hl 3 rfl) ?_
  refine lv_iconst (v := 4) hx hb dX12_findComponents_145 (by decide) ?_
  refine lv_icmp_ge (tgt := 178) hx hb dX12_findComponents_146 (by decide) (fun c1 => ?_) (fun c1 => ?_)
  · rw [if_pos c1] at h
    exact wX12_findComponents_178 C hr hk rc112 hrc112 rc122 hrc122 _ _ _ _ _ _ h t0 H locs hT ls (lv_sub hl [0, 1, 2] rfl)
  · rw [if_neg c1] at h
    refine lv_aload_n hx hb dX12_findComponents_149 rfl (lv_at hl 0 rfl) ?_
    refine js_gR C hT cfX12 t0 20 (by decide) (q := 21) rfl (by decide) lk_X12_56 dX12_findComponents_150 (fun t2a => ?_)
    refine lv_iconst (v := 4) hx hb dX12_findComponents_153 (by decide) ?_
    refine lv_iload_n hx hb dX12_findComponents_154 rfl (lv_at hl 2 rfl) ?_
    refine lv_imul hx hb dX12_findComponents_155 ?_
    refine lv_iload_n hx hb dX12_findComponents_156 rfl (lv_at hl 3 rfl) ?_
    refine lv_iadd hx hb dX12_findComponents_157 ?_
    refine lv_dup2_11 hx hb dX12_findComponents_158 rfl rfl ?_
    obtain ⟨g3, h⟩ := gd_some _ h
    refine js_lald C hT t2a g3 dX12_findComponents_159 ?_
    refine lv_aload_n hx hb dX12_findComponents_160 rfl (lv_at hl 0 rfl) ?_
    refine js_gR C hT cfX12 t0 20 (by decide) (q := 21) rfl (by decide) lk_X12_56 dX12_findComponents_161 (fun t4a => ?_)
    refine lv_iconst (v := 4) hx hb dX12_findComponents_164 (by decide) ?_
    refine lv_iload_n hx hb dX12_findComponents_165 rfl (lv_at hl 1 rfl) ?_
    refine lv_imul hx hb dX12_findComponents_166 ?_
    refine lv_iload_n hx hb dX12_findComponents_167 rfl (lv_at hl 3 rfl) ?_
    refine lv_iadd hx hb dX12_findComponents_168 ?_
    obtain ⟨g5, h⟩ := gd_some _ h
    refine js_lald C hT t4a g5 dX12_findComponents_169 ?_
    refine lv_lor hx hb dX12_findComponents_170 ?_
    obtain ⟨g6, h⟩ := gd_some _ h
    obtain ⟨σ6, e6, h⟩ := lt_some h
    refine js_last C hT t2a g6 dX12_findComponents_171 (fun H locs hT => ?_)
    rw [e6] at hT
    refine lv_iinc (v := x3 + 1) (lv' := [(3, .int (x3 + 1)), (0, .ref (B + x0)), (1, .int x1), (2, .int x2)]) hx hb dX12_findComponents_172 hl (k := 3) rfl rfl (by decide) rfl (fun ls hl => ?_)
    refine lv_goto (tgt := 144) hx hb dX12_findComponents_175 (by decide) ?_
    exact hrc144 _ _ _ _ _ _ _ h t0 H locs hT ls (lv_sub hl [1, 2, 3, 0] rfl)
set_option maxHeartbeats 4000000 in
set_option maxRecDepth 20000 in
theorem wX12_findComponents_144 (C : js_C D g p m c cX12_findComponents 4 s args RX12) (hr : meth.sig.returnType = none) (hk : meth.locks = false) (rc112 : Nat → Int32 → js_S → Option (Unit × js_S)) (hrc112 : ∀ (x0 : Nat) (x1 : Int32) (σ : js_S) (r0 : Unit) (σ0 : js_S), rc112 x0 x1 σ = some (r0, σ0) → ob_ nn 12 x0 → js_at p l e 1 s m args below meth c D B g nn 112 4 [(0, .ref (B + x0)), (1, .int x1)] [] σ (js_QV D B g nn σ0)) (rc122 : Nat → Int32 → Int32 → js_S → Option (Unit × js_S)) (hrc122 : ∀ (x0 : Nat) (x1 : Int32) (x2 : Int32) (σ : js_S) (r0 : Unit) (σ0 : js_S), rc122 x0 x1 x2 σ = some (r0, σ0) → ob_ nn 12 x0 → js_at p l e 1 s m args below meth c D B g nn 122 4 [(0, .ref (B + x0)), (1, .int x1), (2, .int x2)] [] σ (js_QV D B g nn σ0)) : ∀ (k : Nat), ∀ (x0 : Nat) (x1 : Int32) (x2 : Int32) (x3 : Int32) (σ : js_S) (r0 : Unit) (σ0 : js_S), fX12_findComponents_144 fu rc112 rc122 k x0 x1 x2 x3 σ = some (r0, σ0) → ob_ nn 12 x0 → js_at p l e 1 s m args below meth c D B g nn 144 4 [(0, .ref (B + x0)), (1, .int x1), (2, .int x2), (3, .int x3)] [] σ (js_QV D B g nn σ0) := by
  intro k
  induction k with
  | zero =>
    intro x0 x1 x2 x3 σ r0 σ0 h
    cases h
  | succ k ih =>
    intro x0 x1 x2 x3 σ r0 σ0 h
    exact wX12_findComponents_144b C hr hk rc112 hrc112 rc122 hrc122 (fX12_findComponents_144 fu rc112 rc122 k) ih x0 x1 x2 x3 σ r0 σ0 h
set_option maxHeartbeats 4000000 in
set_option maxRecDepth 20000 in
theorem wX12_findComponents_122b (C : js_C D g p m c cX12_findComponents 4 s args RX12) (hr : meth.sig.returnType = none) (hk : meth.locks = false) (rc112 : Nat → Int32 → js_S → Option (Unit × js_S)) (hrc112 : ∀ (x0 : Nat) (x1 : Int32) (σ : js_S) (r0 : Unit) (σ0 : js_S), rc112 x0 x1 σ = some (r0, σ0) → ob_ nn 12 x0 → js_at p l e 1 s m args below meth c D B g nn 112 4 [(0, .ref (B + x0)), (1, .int x1)] [] σ (js_QV D B g nn σ0)) (rc122 : Nat → Int32 → Int32 → js_S → Option (Unit × js_S)) (hrc122 : ∀ (x0 : Nat) (x1 : Int32) (x2 : Int32) (σ : js_S) (r0 : Unit) (σ0 : js_S), rc122 x0 x1 x2 σ = some (r0, σ0) → ob_ nn 12 x0 → js_at p l e 1 s m args below meth c D B g nn 122 4 [(0, .ref (B + x0)), (1, .int x1), (2, .int x2)] [] σ (js_QV D B g nn σ0)) : ∀ (x0 : Nat) (x1 : Int32) (x2 : Int32) (σ : js_S) (r0 : Unit) (σ0 : js_S), fX12_findComponents_122b fu rc112 rc122 x0 x1 x2 σ = some (r0, σ0) → ob_ nn 12 x0 → js_at p l e 1 s m args below meth c D B g nn 122 4 [(0, .ref (B + x0)), (1, .int x1), (2, .int x2)] [] σ (js_QV D B g nn σ0) := by
  obtain ⟨hx, hb, hml, hown, ht, hK, hNw⟩ := id C
  intro x0 x1 x2 σ r0 σ0 h t0 H locs hT ls hl
  unfold fX12_findComponents_122b at h
  refine lv_iload_n hx hb dX12_findComponents_122 rfl (lv_at hl 2 rfl) ?_
  refine lv_aload_n hx hb dX12_findComponents_123 rfl (lv_at hl 0 rfl) ?_
  refine js_gI C hT cfX12 t0 23 (by decide) rfl lk_X12_211 dX12_findComponents_124 ?_
  refine lv_icmp_ge (tgt := 184) hx hb dX12_findComponents_127 (by decide) (fun c1 => ?_) (fun c1 => ?_)
  · rw [if_pos c1] at h
    refine lv_iinc (v := x1 + 1) (lv' := [(1, .int (x1 + 1)), (0, .ref (B + x0)), (2, .int x2)]) hx hb dX12_findComponents_184 hl (k := 1) rfl rfl (by decide) rfl (fun ls hl => ?_)
    refine lv_goto (tgt := 112) hx hb dX12_findComponents_187 (by decide) ?_
    exact hrc112 _ _ _ _ _ h t0 H locs hT ls (lv_sub hl [1, 0] rfl)
  · rw [if_neg c1] at h
    refine lv_aload_n hx hb dX12_findComponents_130 rfl (lv_at hl 0 rfl) ?_
    refine js_gR C hT cfX12 t0 20 (by decide) (q := 21) rfl (by decide) lk_X12_56 dX12_findComponents_131 (fun t2a => ?_)
    refine lv_iload_n hx hb dX12_findComponents_134 rfl (lv_at hl 2 rfl) ?_
    refine lv_iload_n hx hb dX12_findComponents_135 rfl (lv_at hl 1 rfl) ?_
    obtain ⟨r3, σ3, hc3, h⟩ := bd_some h
    refine js_backI hT (js_runS C hT mfX12_hasBit lk_X12_216 (kX12_hasBit t2a hc3) ⟨Nat.le_of_ble_eq_true rfl, Nat.le_of_ble_eq_true rfl⟩ rfl hl.1 rfl (Nat.le_of_ble_eq_true rfl) ⟨Nat.zero_le _, Nat.zero_le _⟩ dX12_findComponents_136) (fun H locs hT => ?_)
    refine lv_if_eq (tgt := 178) hx hb dX12_findComponents_139 (by decide) (fun c4 => ?_) (fun c4 => ?_)
    · rw [if_pos c4] at h
      exact wX12_findComponents_178 C hr hk rc112 hrc112 rc122 hrc122 _ _ _ _ _ _ h t0 H locs hT ls (lv_sub hl [0, 1, 2] rfl)
    · rw [if_neg c4] at h
      refine lv_iconst (v := 0) hx hb dX12_findComponents_142 (by decide) ?_
      refine lv_istore_n (lv' := [(3, .int 0), (0, .ref (B + x0)), (1, .int x1), (2, .int x2)]) hx hb dX12_findComponents_143 rfl hl (by decide) rfl (fun ls hl => ?_)
      exact wX12_findComponents_144 C hr hk rc112 hrc112 rc122 hrc122 _ _ _ _ _ _ _ _ h t0 H locs hT ls (lv_sub hl [1, 2, 3, 0] rfl)
set_option maxHeartbeats 4000000 in
set_option maxRecDepth 20000 in
theorem wX12_findComponents_122 (C : js_C D g p m c cX12_findComponents 4 s args RX12) (hr : meth.sig.returnType = none) (hk : meth.locks = false) (rc112 : Nat → Int32 → js_S → Option (Unit × js_S)) (hrc112 : ∀ (x0 : Nat) (x1 : Int32) (σ : js_S) (r0 : Unit) (σ0 : js_S), rc112 x0 x1 σ = some (r0, σ0) → ob_ nn 12 x0 → js_at p l e 1 s m args below meth c D B g nn 112 4 [(0, .ref (B + x0)), (1, .int x1)] [] σ (js_QV D B g nn σ0)) : ∀ (k : Nat), ∀ (x0 : Nat) (x1 : Int32) (x2 : Int32) (σ : js_S) (r0 : Unit) (σ0 : js_S), fX12_findComponents_122 fu rc112 k x0 x1 x2 σ = some (r0, σ0) → ob_ nn 12 x0 → js_at p l e 1 s m args below meth c D B g nn 122 4 [(0, .ref (B + x0)), (1, .int x1), (2, .int x2)] [] σ (js_QV D B g nn σ0) := by
  intro k
  induction k with
  | zero =>
    intro x0 x1 x2 σ r0 σ0 h
    cases h
  | succ k ih =>
    intro x0 x1 x2 σ r0 σ0 h
    exact wX12_findComponents_122b C hr hk rc112 hrc112 (fX12_findComponents_122 fu rc112 k) ih x0 x1 x2 σ r0 σ0 h
set_option maxHeartbeats 4000000 in
set_option maxRecDepth 20000 in
theorem wX12_findComponents_112b (C : js_C D g p m c cX12_findComponents 4 s args RX12) (hr : meth.sig.returnType = none) (hk : meth.locks = false) (rc112 : Nat → Int32 → js_S → Option (Unit × js_S)) (hrc112 : ∀ (x0 : Nat) (x1 : Int32) (σ : js_S) (r0 : Unit) (σ0 : js_S), rc112 x0 x1 σ = some (r0, σ0) → ob_ nn 12 x0 → js_at p l e 1 s m args below meth c D B g nn 112 4 [(0, .ref (B + x0)), (1, .int x1)] [] σ (js_QV D B g nn σ0)) : ∀ (x0 : Nat) (x1 : Int32) (σ : js_S) (r0 : Unit) (σ0 : js_S), fX12_findComponents_112b fu rc112 x0 x1 σ = some (r0, σ0) → ob_ nn 12 x0 → js_at p l e 1 s m args below meth c D B g nn 112 4 [(0, .ref (B + x0)), (1, .int x1)] [] σ (js_QV D B g nn σ0) := by
  obtain ⟨hx, hb, hml, hown, ht, hK, hNw⟩ := id C
  intro x0 x1 σ r0 σ0 h t0 H locs hT ls hl
  unfold fX12_findComponents_112b at h
  refine lv_iload_n hx hb dX12_findComponents_112 rfl (lv_at hl 1 rfl) ?_
  refine lv_aload_n hx hb dX12_findComponents_113 rfl (lv_at hl 0 rfl) ?_
  refine js_gI C hT cfX12 t0 23 (by decide) rfl lk_X12_211 dX12_findComponents_114 ?_
  refine lv_icmp_ge (tgt := 190) hx hb dX12_findComponents_117 (by decide) (fun c1 => ?_) (fun c1 => ?_)
  · rw [if_pos c1] at h
    refine lv_aload_n hx hb dX12_findComponents_190 rfl (lv_at hl 0 rfl) ?_
    refine lv_iconst (v := 0) hx hb dX12_findComponents_191 (by decide) ?_
    obtain ⟨σ2, e2, h⟩ := lt_some h
    refine js_pI C hT cfX12 t0 24 (by decide) rfl rfl rfl rfl lk_X12_220 dX12_findComponents_192 (fun H locs hT => ?_)
    rw [e2] at hT
    refine lv_iconst (v := 0) hx hb dX12_findComponents_195 (by decide) ?_
    refine lv_istore_n (lv' := [(1, .int 0), (0, .ref (B + x0))]) hx hb dX12_findComponents_196 rfl hl (by decide) rfl (fun ls hl => ?_)
    exact wX12_findComponents_197 C hr hk _ _ _ _ _ _ h t0 H locs hT ls (lv_sub hl [1, 0] rfl)
  · rw [if_neg c1] at h
    refine lv_iconst (v := 0) hx hb dX12_findComponents_120 (by decide) ?_
    refine lv_istore_n (lv' := [(2, .int 0), (0, .ref (B + x0)), (1, .int x1)]) hx hb dX12_findComponents_121 rfl hl (by decide) rfl (fun ls hl => ?_)
    exact wX12_findComponents_122 C hr hk rc112 hrc112 _ _ _ _ _ _ _ h t0 H locs hT ls (lv_sub hl [1, 2, 0] rfl)
set_option maxHeartbeats 4000000 in
set_option maxRecDepth 20000 in
theorem wX12_findComponents_112 (C : js_C D g p m c cX12_findComponents 4 s args RX12) (hr : meth.sig.returnType = none) (hk : meth.locks = false) : ∀ (k : Nat), ∀ (x0 : Nat) (x1 : Int32) (σ : js_S) (r0 : Unit) (σ0 : js_S), fX12_findComponents_112 fu k x0 x1 σ = some (r0, σ0) → ob_ nn 12 x0 → js_at p l e 1 s m args below meth c D B g nn 112 4 [(0, .ref (B + x0)), (1, .int x1)] [] σ (js_QV D B g nn σ0) := by
  intro k
  induction k with
  | zero =>
    intro x0 x1 σ r0 σ0 h
    cases h
  | succ k ih =>
    intro x0 x1 σ r0 σ0 h
    exact wX12_findComponents_112b C hr hk (fX12_findComponents_112 fu k) ih x0 x1 σ r0 σ0 h
set_option maxHeartbeats 4000000 in
set_option maxRecDepth 20000 in
theorem wX12_findComponents_98 (C : js_C D g p m c cX12_findComponents 4 s args RX12) (hr : meth.sig.returnType = none) (hk : meth.locks = false) (rc2 : Nat → Int32 → js_S → Option (Unit × js_S)) (hrc2 : ∀ (x0 : Nat) (x1 : Int32) (σ : js_S) (r0 : Unit) (σ0 : js_S), rc2 x0 x1 σ = some (r0, σ0) → ob_ nn 12 x0 → js_at p l e 1 s m args below meth c D B g nn 2 4 [(0, .ref (B + x0)), (1, .int x1)] [] σ (js_QV D B g nn σ0)) (rc58 : Nat → Int32 → Int32 → js_S → Option (Unit × js_S)) (hrc58 : ∀ (x0 : Nat) (x1 : Int32) (x2 : Int32) (σ : js_S) (r0 : Unit) (σ0 : js_S), rc58 x0 x1 x2 σ = some (r0, σ0) → ob_ nn 12 x0 → js_at p l e 1 s m args below meth c D B g nn 58 4 [(0, .ref (B + x0)), (1, .int x1), (2, .int x2)] [] σ (js_QV D B g nn σ0)) : ∀ (x0 : Nat) (x1 : Int32) (x2 : Int32) (σ : js_S) (r0 : Unit) (σ0 : js_S), fX12_findComponents_98 fu rc2 rc58 x0 x1 x2 σ = some (r0, σ0) → ob_ nn 12 x0 → js_at p l e 1 s m args below meth c D B g nn 98 4 [(0, .ref (B + x0)), (1, .int x1), (2, .int x2)] [] σ (js_QV D B g nn σ0) := by
  obtain ⟨hx, hb, hml, hown, ht, hK, hNw⟩ := id C
  intro x0 x1 x2 σ r0 σ0 h t0 H locs hT ls hl
  unfold fX12_findComponents_98 at h
  refine lv_iinc (v := x2 + 1) (lv' := [(2, .int (x2 + 1)), (0, .ref (B + x0)), (1, .int x1)]) hx hb dX12_findComponents_98 hl (k := 2) rfl rfl (by decide) rfl (fun ls hl => ?_)
  refine lv_goto (tgt := 58) hx hb dX12_findComponents_101 (by decide) ?_
  exact hrc58 _ _ _ _ _ _ h t0 H locs hT ls (lv_sub hl [1, 2, 0] rfl)
set_option maxHeartbeats 4000000 in
set_option maxRecDepth 20000 in
theorem wX12_findComponents_58b (C : js_C D g p m c cX12_findComponents 4 s args RX12) (hr : meth.sig.returnType = none) (hk : meth.locks = false) (rc2 : Nat → Int32 → js_S → Option (Unit × js_S)) (hrc2 : ∀ (x0 : Nat) (x1 : Int32) (σ : js_S) (r0 : Unit) (σ0 : js_S), rc2 x0 x1 σ = some (r0, σ0) → ob_ nn 12 x0 → js_at p l e 1 s m args below meth c D B g nn 2 4 [(0, .ref (B + x0)), (1, .int x1)] [] σ (js_QV D B g nn σ0)) (rc58 : Nat → Int32 → Int32 → js_S → Option (Unit × js_S)) (hrc58 : ∀ (x0 : Nat) (x1 : Int32) (x2 : Int32) (σ : js_S) (r0 : Unit) (σ0 : js_S), rc58 x0 x1 x2 σ = some (r0, σ0) → ob_ nn 12 x0 → js_at p l e 1 s m args below meth c D B g nn 58 4 [(0, .ref (B + x0)), (1, .int x1), (2, .int x2)] [] σ (js_QV D B g nn σ0)) : ∀ (x0 : Nat) (x1 : Int32) (x2 : Int32) (σ : js_S) (r0 : Unit) (σ0 : js_S), fX12_findComponents_58b fu rc2 rc58 x0 x1 x2 σ = some (r0, σ0) → ob_ nn 12 x0 → js_at p l e 1 s m args below meth c D B g nn 58 4 [(0, .ref (B + x0)), (1, .int x1), (2, .int x2)] [] σ (js_QV D B g nn σ0) := by
  obtain ⟨hx, hb, hml, hown, ht, hK, hNw⟩ := id C
  intro x0 x1 x2 σ r0 σ0 h t0 H locs hT ls hl
  unfold fX12_findComponents_58b at h
  refine lv_iload_n hx hb dX12_findComponents_58 rfl (lv_at hl 2 rfl) ?_
  refine lv_aload_n hx hb dX12_findComponents_59 rfl (lv_at hl 0 rfl) ?_
  refine js_gI C hT cfX12 t0 23 (by decide) rfl lk_X12_211 dX12_findComponents_60 ?_
  refine lv_icmp_ge (tgt := 104) hx hb dX12_findComponents_63 (by decide) (fun c1 => ?_) (fun c1 => ?_)
  · rw [if_pos c1] at h
    refine lv_iinc (v := x1 + 1) (lv' := [(1, .int (x1 + 1)), (0, .ref (B + x0)), (2, .int x2)]) hx hb dX12_findComponents_104 hl (k := 1) rfl rfl (by decide) rfl (fun ls hl => ?_)
    refine lv_goto (tgt := 2) hx hb dX12_findComponents_107 (by decide) ?_
    exact hrc2 _ _ _ _ _ h t0 H locs hT ls (lv_sub hl [1, 0] rfl)
  · rw [if_neg c1] at h
    refine lv_aload_n hx hb dX12_findComponents_66 rfl (lv_at hl 0 rfl) ?_
    refine js_gR C hT cfX12 t0 21 (by decide) (q := 22) rfl (by decide) lk_X12_59 dX12_findComponents_67 (fun t2a => ?_)
    refine lv_iload_n hx hb dX12_findComponents_70 rfl (lv_at hl 2 rfl) ?_
    obtain ⟨g3, h⟩ := gd_some _ h
    refine js_zald C hT t2a g3 dX12_findComponents_71 ?_
    refine lv_if_ne (tgt := 98) hx hb dX12_findComponents_72 (by decide) (fun c4 => ?_) (fun c4 => ?_)
    · rw [if_neg c4] at h
      exact wX12_findComponents_98 C hr hk rc2 hrc2 rc58 hrc58 _ _ _ _ _ _ h t0 H locs hT ls (lv_sub hl [0, 1, 2] rfl)
    · rw [if_pos c4] at h
      refine lv_aload_n hx hb dX12_findComponents_75 rfl (lv_at hl 0 rfl) ?_
      refine js_gR C hT cfX12 t0 20 (by decide) (q := 21) rfl (by decide) lk_X12_56 dX12_findComponents_76 (fun t5a => ?_)
      refine lv_iconst (v := 4) hx hb dX12_findComponents_79 (by decide) ?_
      refine lv_iload_n hx hb dX12_findComponents_80 rfl (lv_at hl 1 rfl) ?_
      refine lv_imul hx hb dX12_findComponents_81 ?_
      refine lv_iload_n hx hb dX12_findComponents_82 rfl (lv_at hl 2 rfl) ?_
      refine lv_bipush (v := 64) hx hb dX12_findComponents_83 (by decide) ?_
      refine lv_idiv hx hb dX12_findComponents_85 (by decide) ?_
      refine lv_iadd hx hb dX12_findComponents_86 ?_
      refine lv_dup2_11 hx hb dX12_findComponents_87 rfl rfl ?_
      obtain ⟨g6, h⟩ := gd_some _ h
      refine js_lald C hT t5a g6 dX12_findComponents_88 ?_
      refine lv_lconst (v := 1) hx hb dX12_findComponents_89 (by decide) ?_
      refine lv_iload_n hx hb dX12_findComponents_90 rfl (lv_at hl 2 rfl) ?_
      refine lv_lshl hx hb dX12_findComponents_91 rfl ?_
      refine lv_ldc2 hx hb hown (ht _ lk_X12_214) dX12_findComponents_92 ?_
      refine lv_lxor hx hb dX12_findComponents_95 ?_
      refine lv_land hx hb dX12_findComponents_96 ?_
      obtain ⟨g7, h⟩ := gd_some _ h
      obtain ⟨σ7, e7, h⟩ := lt_some h
      refine js_last C hT t5a g7 dX12_findComponents_97 (fun H locs hT => ?_)
      rw [e7] at hT
      exact wX12_findComponents_98 C hr hk rc2 hrc2 rc58 hrc58 _ _ _ _ _ _ h t0 H locs hT ls (lv_sub hl [0, 1, 2] rfl)
set_option maxHeartbeats 4000000 in
set_option maxRecDepth 20000 in
theorem wX12_findComponents_58 (C : js_C D g p m c cX12_findComponents 4 s args RX12) (hr : meth.sig.returnType = none) (hk : meth.locks = false) (rc2 : Nat → Int32 → js_S → Option (Unit × js_S)) (hrc2 : ∀ (x0 : Nat) (x1 : Int32) (σ : js_S) (r0 : Unit) (σ0 : js_S), rc2 x0 x1 σ = some (r0, σ0) → ob_ nn 12 x0 → js_at p l e 1 s m args below meth c D B g nn 2 4 [(0, .ref (B + x0)), (1, .int x1)] [] σ (js_QV D B g nn σ0)) : ∀ (k : Nat), ∀ (x0 : Nat) (x1 : Int32) (x2 : Int32) (σ : js_S) (r0 : Unit) (σ0 : js_S), fX12_findComponents_58 fu rc2 k x0 x1 x2 σ = some (r0, σ0) → ob_ nn 12 x0 → js_at p l e 1 s m args below meth c D B g nn 58 4 [(0, .ref (B + x0)), (1, .int x1), (2, .int x2)] [] σ (js_QV D B g nn σ0) := by
  intro k
  induction k with
  | zero =>
    intro x0 x1 x2 σ r0 σ0 h
    cases h
  | succ k ih =>
    intro x0 x1 x2 σ r0 σ0 h
    exact wX12_findComponents_58b C hr hk rc2 hrc2 (fX12_findComponents_58 fu rc2 k) ih x0 x1 x2 σ r0 σ0 h
set_option maxHeartbeats 4000000 in
set_option maxRecDepth 20000 in
theorem wX12_findComponents_49 (C : js_C D g p m c cX12_findComponents 4 s args RX12) (hr : meth.sig.returnType = none) (hk : meth.locks = false) (rc2 : Nat → Int32 → js_S → Option (Unit × js_S)) (hrc2 : ∀ (x0 : Nat) (x1 : Int32) (σ : js_S) (r0 : Unit) (σ0 : js_S), rc2 x0 x1 σ = some (r0, σ0) → ob_ nn 12 x0 → js_at p l e 1 s m args below meth c D B g nn 2 4 [(0, .ref (B + x0)), (1, .int x1)] [] σ (js_QV D B g nn σ0)) (rc12 : Nat → Int32 → Int32 → js_S → Option (Unit × js_S)) (hrc12 : ∀ (x0 : Nat) (x1 : Int32) (x2 : Int32) (σ : js_S) (r0 : Unit) (σ0 : js_S), rc12 x0 x1 x2 σ = some (r0, σ0) → ob_ nn 12 x0 → js_at p l e 1 s m args below meth c D B g nn 12 4 [(0, .ref (B + x0)), (1, .int x1), (2, .int x2)] [] σ (js_QV D B g nn σ0)) : ∀ (x0 : Nat) (x1 : Int32) (x2 : Int32) (y0 : Int64) (y1 : Int32) (y2 : Nat) (σ : js_S) (r0 : Unit) (σ0 : js_S), fX12_findComponents_49 fu rc2 rc12 x0 x1 x2 y0 y1 y2 σ = some (r0, σ0) → ob_ nn 12 x0 → ob_ nn 21 y2 → js_at p l e 1 s m args below meth c D B g nn 49 4 [(0, .ref (B + x0)), (1, .int x1), (2, .int x2)] [.long y0, .int y1, .ref (B + y2)] σ (js_QV D B g nn σ0) := by
  obtain ⟨hx, hb, hml, hown, ht, hK, hNw⟩ := id C
  intro x0 x1 x2 y0 y1 y2 σ r0 σ0 h t0 u2 H locs hT ls hl
  unfold fX12_findComponents_49 at h
  obtain ⟨g1, h⟩ := gd_some _ h
  obtain ⟨σ1, e1, h⟩ := lt_some h
  refine js_last C hT u2 g1 dX12_findComponents_49 (fun H locs hT => ?_)
  rw [e1] at hT
  refine lv_iinc (v := x2 + 1) (lv' := [(2, .int (x2 + 1)), (0, .ref (B + x0)), (1, .int x1)]) hx hb dX12_findComponents_50 hl (k := 2) rfl rfl (by decide) rfl (fun ls hl => ?_)
  refine lv_goto (tgt := 12) hx hb dX12_findComponents_53 (by decide) ?_
  exact hrc12 _ _ _ _ _ _ h t0 H locs hT ls (lv_sub hl [1, 2, 0] rfl)
set_option maxHeartbeats 4000000 in
set_option maxRecDepth 20000 in
theorem wX12_findComponents_12b (C : js_C D g p m c cX12_findComponents 4 s args RX12) (hr : meth.sig.returnType = none) (hk : meth.locks = false) (rc2 : Nat → Int32 → js_S → Option (Unit × js_S)) (hrc2 : ∀ (x0 : Nat) (x1 : Int32) (σ : js_S) (r0 : Unit) (σ0 : js_S), rc2 x0 x1 σ = some (r0, σ0) → ob_ nn 12 x0 → js_at p l e 1 s m args below meth c D B g nn 2 4 [(0, .ref (B + x0)), (1, .int x1)] [] σ (js_QV D B g nn σ0)) (rc12 : Nat → Int32 → Int32 → js_S → Option (Unit × js_S)) (hrc12 : ∀ (x0 : Nat) (x1 : Int32) (x2 : Int32) (σ : js_S) (r0 : Unit) (σ0 : js_S), rc12 x0 x1 x2 σ = some (r0, σ0) → ob_ nn 12 x0 → js_at p l e 1 s m args below meth c D B g nn 12 4 [(0, .ref (B + x0)), (1, .int x1), (2, .int x2)] [] σ (js_QV D B g nn σ0)) : ∀ (x0 : Nat) (x1 : Int32) (x2 : Int32) (σ : js_S) (r0 : Unit) (σ0 : js_S), fX12_findComponents_12b fu rc2 rc12 x0 x1 x2 σ = some (r0, σ0) → ob_ nn 12 x0 → js_at p l e 1 s m args below meth c D B g nn 12 4 [(0, .ref (B + x0)), (1, .int x1), (2, .int x2)] [] σ (js_QV D B g nn σ0) := by
  obtain ⟨hx, hb, hml, hown, ht, hK, hNw⟩ := id C
  intro x0 x1 x2 σ r0 σ0 h t0 H locs hT ls hl
  unfold fX12_findComponents_12b at h
  refine lv_iload_n hx hb dX12_findComponents_12 rfl (lv_at hl 2 rfl) ?_
  refine lv_iconst (v := 4) hx hb dX12_findComponents_13 (by decide) ?_
  refine lv_icmp_ge (tgt := 56) hx hb dX12_findComponents_14 (by decide) (fun c1 => ?_) (fun c1 => ?_)
  · rw [if_pos c1] at h
    refine lv_iconst (v := 0) hx hb dX12_findComponents_56 (by decide) ?_
    refine lv_istore_n (lv' := [(2, .int 0), (0, .ref (B + x0)), (1, .int x1)]) hx hb dX12_findComponents_57 rfl hl (by decide) rfl (fun ls hl => ?_)
    exact wX12_findComponents_58 C hr hk rc2 hrc2 _ _ _ _ _ _ _ h t0 H locs hT ls (lv_sub hl [1, 2, 0] rfl)
  · rw [if_neg c1] at h
    refine lv_aload_n hx hb dX12_findComponents_17 rfl (lv_at hl 0 rfl) ?_
    refine js_gR C hT cfX12 t0 20 (by decide) (q := 21) rfl (by decide) lk_X12_56 dX12_findComponents_18 (fun t2a => ?_)
    refine lv_iconst (v := 4) hx hb dX12_findComponents_21 (by decide) ?_
    refine lv_iload_n hx hb dX12_findComponents_22 rfl (lv_at hl 1 rfl) ?_
    refine lv_imul hx hb dX12_findComponents_23 ?_
    refine lv_iload_n hx hb dX12_findComponents_24 rfl (lv_at hl 2 rfl) ?_
    refine lv_iadd hx hb dX12_findComponents_25 ?_
    refine lv_aload_n hx hb dX12_findComponents_26 rfl (lv_at hl 0 rfl) ?_
    refine js_gR C hT cfX12 t0 21 (by decide) (q := 22) rfl (by decide) lk_X12_59 dX12_findComponents_27 (fun t3a => ?_)
    refine lv_iload_n hx hb dX12_findComponents_30 rfl (lv_at hl 1 rfl) ?_
    obtain ⟨g4, h⟩ := gd_some _ h
    refine js_zald C hT t3a g4 dX12_findComponents_31 ?_
    refine lv_if_eq (tgt := 48) hx hb dX12_findComponents_32 (by decide) (fun c5 => ?_) (fun c5 => ?_)
    · rw [if_pos c5] at h
      refine lv_lconst (v := 0) hx hb dX12_findComponents_48 (by decide) ?_
      exact wX12_findComponents_49 C hr hk rc2 hrc2 rc12 hrc12 _ _ _ _ _ _ _ _ _ h t0 t2a H locs hT ls (lv_sub hl [0, 1, 2] rfl)
    · rw [if_neg c5] at h
      refine lv_aload_n hx hb dX12_findComponents_35 rfl (lv_at hl 0 rfl) ?_
      refine js_gR C hT cfX12 t0 19 (by decide) (q := 21) rfl (by decide) lk_X12_52 dX12_findComponents_36 (fun t6a => ?_)
      refine lv_iconst (v := 4) hx hb dX12_findComponents_39 (by decide) ?_
      refine lv_iload_n hx hb dX12_findComponents_40 rfl (lv_at hl 1 rfl) ?_
      refine lv_imul hx hb dX12_findComponents_41 ?_
      refine lv_iload_n hx hb dX12_findComponents_42 rfl (lv_at hl 2 rfl) ?_
      refine lv_iadd hx hb dX12_findComponents_43 ?_
      obtain ⟨g7, h⟩ := gd_some _ h
      refine js_lald C hT t6a g7 dX12_findComponents_44 ?_
      refine lv_goto (tgt := 49) hx hb dX12_findComponents_45 (by decide) ?_
      exact wX12_findComponents_49 C hr hk rc2 hrc2 rc12 hrc12 _ _ _ _ _ _ _ _ _ h t0 t2a H locs hT ls (lv_sub hl [0, 1, 2] rfl)
set_option maxHeartbeats 4000000 in
set_option maxRecDepth 20000 in
theorem wX12_findComponents_12 (C : js_C D g p m c cX12_findComponents 4 s args RX12) (hr : meth.sig.returnType = none) (hk : meth.locks = false) (rc2 : Nat → Int32 → js_S → Option (Unit × js_S)) (hrc2 : ∀ (x0 : Nat) (x1 : Int32) (σ : js_S) (r0 : Unit) (σ0 : js_S), rc2 x0 x1 σ = some (r0, σ0) → ob_ nn 12 x0 → js_at p l e 1 s m args below meth c D B g nn 2 4 [(0, .ref (B + x0)), (1, .int x1)] [] σ (js_QV D B g nn σ0)) : ∀ (k : Nat), ∀ (x0 : Nat) (x1 : Int32) (x2 : Int32) (σ : js_S) (r0 : Unit) (σ0 : js_S), fX12_findComponents_12 fu rc2 k x0 x1 x2 σ = some (r0, σ0) → ob_ nn 12 x0 → js_at p l e 1 s m args below meth c D B g nn 12 4 [(0, .ref (B + x0)), (1, .int x1), (2, .int x2)] [] σ (js_QV D B g nn σ0) := by
  intro k
  induction k with
  | zero =>
    intro x0 x1 x2 σ r0 σ0 h
    cases h
  | succ k ih =>
    intro x0 x1 x2 σ r0 σ0 h
    exact wX12_findComponents_12b C hr hk rc2 hrc2 (fX12_findComponents_12 fu rc2 k) ih x0 x1 x2 σ r0 σ0 h
set_option maxHeartbeats 4000000 in
set_option maxRecDepth 20000 in
theorem wX12_findComponents_2b (C : js_C D g p m c cX12_findComponents 4 s args RX12) (hr : meth.sig.returnType = none) (hk : meth.locks = false) (rc2 : Nat → Int32 → js_S → Option (Unit × js_S)) (hrc2 : ∀ (x0 : Nat) (x1 : Int32) (σ : js_S) (r0 : Unit) (σ0 : js_S), rc2 x0 x1 σ = some (r0, σ0) → ob_ nn 12 x0 → js_at p l e 1 s m args below meth c D B g nn 2 4 [(0, .ref (B + x0)), (1, .int x1)] [] σ (js_QV D B g nn σ0)) : ∀ (x0 : Nat) (x1 : Int32) (σ : js_S) (r0 : Unit) (σ0 : js_S), fX12_findComponents_2b fu rc2 x0 x1 σ = some (r0, σ0) → ob_ nn 12 x0 → js_at p l e 1 s m args below meth c D B g nn 2 4 [(0, .ref (B + x0)), (1, .int x1)] [] σ (js_QV D B g nn σ0) := by
  obtain ⟨hx, hb, hml, hown, ht, hK, hNw⟩ := id C
  intro x0 x1 σ r0 σ0 h t0 H locs hT ls hl
  unfold fX12_findComponents_2b at h
  refine lv_iload_n hx hb dX12_findComponents_2 rfl (lv_at hl 1 rfl) ?_
  refine lv_aload_n hx hb dX12_findComponents_3 rfl (lv_at hl 0 rfl) ?_
  refine js_gI C hT cfX12 t0 23 (by decide) rfl lk_X12_211 dX12_findComponents_4 ?_
  refine lv_icmp_ge (tgt := 110) hx hb dX12_findComponents_7 (by decide) (fun c1 => ?_) (fun c1 => ?_)
  · rw [if_pos c1] at h
    refine lv_iconst (v := 0) hx hb dX12_findComponents_110 (by decide) ?_
    refine lv_istore_n (lv' := [(1, .int 0), (0, .ref (B + x0))]) hx hb dX12_findComponents_111 rfl hl (by decide) rfl (fun ls hl => ?_)
    exact wX12_findComponents_112 C hr hk _ _ _ _ _ _ h t0 H locs hT ls (lv_sub hl [1, 0] rfl)
  · rw [if_neg c1] at h
    refine lv_iconst (v := 0) hx hb dX12_findComponents_10 (by decide) ?_
    refine lv_istore_n (lv' := [(2, .int 0), (0, .ref (B + x0)), (1, .int x1)]) hx hb dX12_findComponents_11 rfl hl (by decide) rfl (fun ls hl => ?_)
    exact wX12_findComponents_12 C hr hk rc2 hrc2 _ _ _ _ _ _ _ h t0 H locs hT ls (lv_sub hl [1, 2, 0] rfl)
set_option maxHeartbeats 4000000 in
set_option maxRecDepth 20000 in
theorem wX12_findComponents_2 (C : js_C D g p m c cX12_findComponents 4 s args RX12) (hr : meth.sig.returnType = none) (hk : meth.locks = false) : ∀ (k : Nat), ∀ (x0 : Nat) (x1 : Int32) (σ : js_S) (r0 : Unit) (σ0 : js_S), fX12_findComponents_2 fu k x0 x1 σ = some (r0, σ0) → ob_ nn 12 x0 → js_at p l e 1 s m args below meth c D B g nn 2 4 [(0, .ref (B + x0)), (1, .int x1)] [] σ (js_QV D B g nn σ0) := by
  intro k
  induction k with
  | zero =>
    intro x0 x1 σ r0 σ0 h
    cases h
  | succ k ih =>
    intro x0 x1 σ r0 σ0 h
    exact wX12_findComponents_2b C hr hk (fX12_findComponents_2 fu k) ih x0 x1 σ r0 σ0 h
set_option maxHeartbeats 4000000 in
set_option maxRecDepth 20000 in
theorem kX12_findComponents {x0 : Nat} {σ σ0 : js_S} {r0 : Unit} (t0 : ob_ nn 12 x0) (h : fX12_findComponents fu x0 σ = some (r0, σ0)) : js_M l D B g nn yX12_findComponents cX12_findComponents 4 none 1 [.ref (B + x0)] σ (js_QV D B g nn σ0) := by
  refine js_enter (by decide) (Nat.le_of_ble_eq_true rfl) ?_
  intro p e s m args below meth c C hr hk ls hl hT
  have hl : lv_has ls 4 [(0, .ref (B + x0))] := hl
  obtain ⟨hx, hb, hml, hown, ht, hK, hNw⟩ := id C
  obtain ⟨H, eH⟩ : ∃ H, H = s.heap := ⟨_, rfl⟩
  obtain ⟨locs, eL⟩ : ∃ z : List Loc, z = [] := ⟨_, rfl⟩
  rw [← eH, ← eL]
  rw [← eH, ← eL] at hT
  clear eH eL
  unfold fX12_findComponents at h
  refine lv_iconst (v := 0) hx hb dX12_findComponents_0 (by decide) ?_
  refine lv_istore_n (lv' := [(1, .int 0), (0, .ref (B + x0))]) hx hb dX12_findComponents_1 rfl hl (by decide) rfl (fun ls hl => ?_)
  exact wX12_findComponents_2 C hr hk _ _ _ _ _ _ h t0 H locs hT ls (lv_sub hl [1, 0] rfl)
set_option maxHeartbeats 4000000 in
set_option maxRecDepth 20000 in
theorem kX12_isEdge {x0 : Nat} {x1 : Int32} {x2 : Int32} {σ σ0 : js_S} {r0 : Int32} (t0 : ob_ nn 12 x0) (h : fX12_isEdge fu x0 x1 x2 σ = some (r0, σ0)) : js_M l D B g nn yX12_isEdge cX12_isEdge 3 (some .boolean) 126 [.ref (B + x0), .int x1, .int x2] σ (js_QI D B g nn r0 σ0) := by
  refine js_enter (by decide) (Nat.le_of_ble_eq_true rfl) ?_
  intro p e s m args below meth c C hr hk ls hl hT
  have hl : lv_has ls 3 [(0, .ref (B + x0)), (1, .int x1), (2, .int x2)] := hl
  obtain ⟨hx, hb, hml, hown, ht, hK, hNw⟩ := id C
  obtain ⟨H, eH⟩ : ∃ H, H = s.heap := ⟨_, rfl⟩
  obtain ⟨locs, eL⟩ : ∃ z : List Loc, z = [] := ⟨_, rfl⟩
  rw [← eH, ← eL]
  rw [← eH, ← eL] at hT
  clear eH eL
  unfold fX12_isEdge at h
  refine lv_aload_n hx hb dX12_isEdge_0 rfl (lv_at hl 0 rfl) ?_
  refine lv_iload_n hx hb dX12_isEdge_1 rfl (lv_at hl 1 rfl) ?_
  obtain ⟨r1, σ1, hc1, h⟩ := bd_some h
  refine js_backI hT (js_runV C hT cfX12 t0 rfl mfX12_targetOf lk_X12_194 (kX12_targetOf t0 hc1) ⟨Nat.le_of_ble_eq_true rfl, Nat.le_of_ble_eq_true rfl⟩ rfl hl.1 rfl (Nat.le_of_ble_eq_true rfl) ⟨Nat.zero_le _, Nat.zero_le _⟩ dX12_isEdge_2) (fun H locs hT => ?_)
  refine lv_aload_n hx hb dX12_isEdge_5 rfl (lv_at hl 0 rfl) ?_
  refine lv_iload_n hx hb dX12_isEdge_6 rfl (lv_at hl 2 rfl) ?_
  obtain ⟨r2, σ2, hc2, h⟩ := bd_some h
  refine js_backI hT (js_runV C hT cfX12 t0 rfl mfX12_sourceOf lk_X12_191 (kX12_sourceOf t0 hc2) ⟨Nat.le_of_ble_eq_true rfl, Nat.le_of_ble_eq_true rfl⟩ rfl hl.1 rfl (Nat.le_of_ble_eq_true rfl) ⟨Nat.zero_le _, Nat.zero_le _⟩ dX12_isEdge_7) (fun H locs hT => ?_)
  refine lv_icmp_ne (tgt := 34) hx hb dX12_isEdge_10 (by decide) (fun c3 => ?_) (fun c3 => ?_)
  · rw [if_neg c3] at h
    refine lv_iconst (v := 0) hx hb dX12_isEdge_34 (by decide) ?_
    obtain ⟨rfl, rfl⟩ := js_rt h
    exact js_zret C hT hr hk rfl dX12_isEdge_35
  · rw [if_pos c3] at h
    refine lv_aload_n hx hb dX12_isEdge_13 rfl (lv_at hl 0 rfl) ?_
    refine lv_aload_n hx hb dX12_isEdge_14 rfl (lv_at hl 0 rfl) ?_
    refine lv_iload_n hx hb dX12_isEdge_15 rfl (lv_at hl 1 rfl) ?_
    obtain ⟨r4, σ4, hc4, h⟩ := bd_some h
    refine js_backI hT (js_runV C hT cfX12 t0 rfl mfX12_target lk_X12_182 (kX12_target t0 hc4) ⟨Nat.le_of_ble_eq_true rfl, Nat.le_of_ble_eq_true rfl⟩ rfl hl.1 rfl (Nat.le_of_ble_eq_true rfl) ⟨Nat.zero_le _, Nat.zero_le _⟩ dX12_isEdge_16) (fun H locs hT => ?_)
    refine lv_aload_n hx hb dX12_isEdge_19 rfl (lv_at hl 0 rfl) ?_
    refine lv_iload_n hx hb dX12_isEdge_20 rfl (lv_at hl 2 rfl) ?_
    obtain ⟨r5, σ5, hc5, h⟩ := bd_some h
    refine js_backI hT (js_runV C hT cfX12 t0 rfl mfX12_source lk_X12_179 (kX12_source t0 hc5) ⟨Nat.le_of_ble_eq_true rfl, Nat.le_of_ble_eq_true rfl⟩ rfl hl.1 rfl (Nat.le_of_ble_eq_true rfl) ⟨Nat.zero_le _, Nat.zero_le _⟩ dX12_isEdge_21) (fun H locs hT => ?_)
    obtain ⟨r6, σ6, hc6, h⟩ := bd_some h
    refine js_backI hT (js_runV C hT cfX12 t0 rfl mfX12_areArgumentsCompatible lk_X12_197 (kX12_areArgumentsCompatible t0 hc6) ⟨Nat.le_of_ble_eq_true rfl, Nat.le_of_ble_eq_true rfl⟩ rfl hl.1 rfl (Nat.le_of_ble_eq_true rfl) ⟨Nat.zero_le _, Nat.zero_le _⟩ dX12_isEdge_24) (fun H locs hT => ?_)
    refine lv_if_eq (tgt := 34) hx hb dX12_isEdge_27 (by decide) (fun c7 => ?_) (fun c7 => ?_)
    · rw [if_pos c7] at h
      refine lv_iconst (v := 0) hx hb dX12_isEdge_34 (by decide) ?_
      obtain ⟨rfl, rfl⟩ := js_rt h
      exact js_zret C hT hr hk rfl dX12_isEdge_35
    · rw [if_neg c7] at h
      refine lv_iconst (v := 1) hx hb dX12_isEdge_30 (by decide) ?_
      refine lv_goto (tgt := 35) hx hb dX12_isEdge_31 (by decide) ?_
      obtain ⟨rfl, rfl⟩ := js_rt h
      exact js_zret C hT hr hk rfl dX12_isEdge_35
set_option maxHeartbeats 4000000 in
set_option maxRecDepth 20000 in
theorem wX12_findGraph_89 (C : js_C D g p m c cX12_findGraph 3 s args RX12) (hr : meth.sig.returnType = none) (hk : meth.locks = false) (rc10 : Nat → Int32 → js_S → Option (Unit × js_S)) (hrc10 : ∀ (x0 : Nat) (x1 : Int32) (σ : js_S) (r0 : Unit) (σ0 : js_S), rc10 x0 x1 σ = some (r0, σ0) → ob_ nn 12 x0 → js_at p l e 127 s m args below meth c D B g nn 10 3 [(0, .ref (B + x0)), (1, .int x1)] [] σ (js_QV D B g nn σ0)) (rc51 : Nat → Int32 → Int32 → js_S → Option (Unit × js_S)) (hrc51 : ∀ (x0 : Nat) (x1 : Int32) (x2 : Int32) (σ : js_S) (r0 : Unit) (σ0 : js_S), rc51 x0 x1 x2 σ = some (r0, σ0) → ob_ nn 12 x0 → js_at p l e 127 s m args below meth c D B g nn 51 3 [(0, .ref (B + x0)), (1, .int x1), (2, .int x2)] [] σ (js_QV D B g nn σ0)) : ∀ (x0 : Nat) (x1 : Int32) (x2 : Int32) (y0 : Int64) (y1 : Int64) (y2 : Int32) (y3 : Nat) (σ : js_S) (r0 : Unit) (σ0 : js_S), fX12_findGraph_89 fu rc10 rc51 x0 x1 x2 y0 y1 y2 y3 σ = some (r0, σ0) → ob_ nn 12 x0 → ob_ nn 21 y3 → js_at p l e 127 s m args below meth c D B g nn 89 3 [(0, .ref (B + x0)), (1, .int x1), (2, .int x2)] [.long y0, .long y1, .int y2, .ref (B + y3)] σ (js_QV D B g nn σ0) := by
  obtain ⟨hx, hb, hml, hown, ht, hK, hNw⟩ := id C
  intro x0 x1 x2 y0 y1 y2 y3 σ r0 σ0 h t0 u3 H locs hT ls hl
  unfold fX12_findGraph_89 at h
  refine lv_lor hx hb dX12_findGraph_89 ?_
  obtain ⟨g1, h⟩ := gd_some _ h
  obtain ⟨σ1, e1, h⟩ := lt_some h
  refine js_last C hT u3 g1 dX12_findGraph_90 (fun H locs hT => ?_)
  rw [e1] at hT
  refine lv_iinc (v := x2 + 1) (lv' := [(2, .int (x2 + 1)), (0, .ref (B + x0)), (1, .int x1)]) hx hb dX12_findGraph_91 hl (k := 2) rfl rfl (by decide) rfl (fun ls hl => ?_)
  refine lv_goto (tgt := 51) hx hb dX12_findGraph_94 (by decide) ?_
  exact hrc51 _ _ _ _ _ _ h t0 H locs hT ls (lv_sub hl [1, 2, 0] rfl)
set_option maxHeartbeats 4000000 in
set_option maxRecDepth 20000 in
theorem wX12_findGraph_51b (C : js_C D g p m c cX12_findGraph 3 s args RX12) (hr : meth.sig.returnType = none) (hk : meth.locks = false) (rc10 : Nat → Int32 → js_S → Option (Unit × js_S)) (hrc10 : ∀ (x0 : Nat) (x1 : Int32) (σ : js_S) (r0 : Unit) (σ0 : js_S), rc10 x0 x1 σ = some (r0, σ0) → ob_ nn 12 x0 → js_at p l e 127 s m args below meth c D B g nn 10 3 [(0, .ref (B + x0)), (1, .int x1)] [] σ (js_QV D B g nn σ0)) (rc51 : Nat → Int32 → Int32 → js_S → Option (Unit × js_S)) (hrc51 : ∀ (x0 : Nat) (x1 : Int32) (x2 : Int32) (σ : js_S) (r0 : Unit) (σ0 : js_S), rc51 x0 x1 x2 σ = some (r0, σ0) → ob_ nn 12 x0 → js_at p l e 127 s m args below meth c D B g nn 51 3 [(0, .ref (B + x0)), (1, .int x1), (2, .int x2)] [] σ (js_QV D B g nn σ0)) : ∀ (x0 : Nat) (x1 : Int32) (x2 : Int32) (σ : js_S) (r0 : Unit) (σ0 : js_S), fX12_findGraph_51b fu rc10 rc51 x0 x1 x2 σ = some (r0, σ0) → ob_ nn 12 x0 → js_at p l e 127 s m args below meth c D B g nn 51 3 [(0, .ref (B + x0)), (1, .int x1), (2, .int x2)] [] σ (js_QV D B g nn σ0) := by
  obtain ⟨hx, hb, hml, hown, ht, hK, hNw⟩ := id C
  intro x0 x1 x2 σ r0 σ0 h t0 H locs hT ls hl
  unfold fX12_findGraph_51b at h
  refine lv_iload_n hx hb dX12_findGraph_51 rfl (lv_at hl 2 rfl) ?_
  refine lv_aload_n hx hb dX12_findGraph_52 rfl (lv_at hl 0 rfl) ?_
  refine js_gI C hT cfX12 t0 23 (by decide) rfl lk_X12_211 dX12_findGraph_53 ?_
  refine lv_icmp_ge (tgt := 97) hx hb dX12_findGraph_56 (by decide) (fun c1 => ?_) (fun c1 => ?_)
  · rw [if_pos c1] at h
    refine lv_iinc (v := x1 + 1) (lv' := [(1, .int (x1 + 1)), (0, .ref (B + x0)), (2, .int x2)]) hx hb dX12_findGraph_97 hl (k := 1) rfl rfl (by decide) rfl (fun ls hl => ?_)
    refine lv_goto (tgt := 10) hx hb dX12_findGraph_100 (by decide) ?_
    exact hrc10 _ _ _ _ _ h t0 H locs hT ls (lv_sub hl [1, 0] rfl)
  · rw [if_neg c1] at h
    refine lv_aload_n hx hb dX12_findGraph_59 rfl (lv_at hl 0 rfl) ?_
    refine js_gR C hT cfX12 t0 19 (by decide) (q := 21) rfl (by decide) lk_X12_52 dX12_findGraph_60 (fun t2a => ?_)
    refine lv_iconst (v := 4) hx hb dX12_findGraph_63 (by decide) ?_
    refine lv_iload_n hx hb dX12_findGraph_64 rfl (lv_at hl 1 rfl) ?_
    refine lv_imul hx hb dX12_findGraph_65 ?_
    refine lv_iload_n hx hb dX12_findGraph_66 rfl (lv_at hl 2 rfl) ?_
    refine lv_bipush (v := 64) hx hb dX12_findGraph_67 (by decide) ?_
    refine lv_idiv hx hb dX12_findGraph_69 (by decide) ?_
    refine lv_iadd hx hb dX12_findGraph_70 ?_
    refine lv_dup2_11 hx hb dX12_findGraph_71 rfl rfl ?_
    obtain ⟨g3, h⟩ := gd_some _ h
    refine js_lald C hT t2a g3 dX12_findGraph_72 ?_
    refine lv_aload_n hx hb dX12_findGraph_73 rfl (lv_at hl 0 rfl) ?_
    refine lv_iload_n hx hb dX12_findGraph_74 rfl (lv_at hl 1 rfl) ?_
    refine lv_iload_n hx hb dX12_findGraph_75 rfl (lv_at hl 2 rfl) ?_
    obtain ⟨r4, σ4, hc4, h⟩ := bd_some h
    refine js_backI hT (js_runV C hT cfX12 t0 rfl mfX12_isEdge lk_X12_208 (kX12_isEdge t0 hc4) ⟨Nat.le_of_ble_eq_true rfl, Nat.le_of_ble_eq_true rfl⟩ rfl hl.1 rfl (Nat.le_of_ble_eq_true rfl) ⟨Nat.zero_le _, Nat.zero_le _⟩ dX12_findGraph_76) (fun H locs hT => ?_)
    refine lv_if_eq (tgt := 88) hx hb dX12_findGraph_79 (by decide) (fun c5 => ?_) (fun c5 => ?_)
    · rw [if_pos c5] at h
      refine lv_lconst (v := 0) hx hb dX12_findGraph_88 (by decide) ?_
      exact wX12_findGraph_89 C hr hk rc10 hrc10 rc51 hrc51 _ _ _ _ _ _ _ _ _ _ h t0 t2a H locs hT ls (lv_sub hl [0, 1, 2] rfl)
    · rw [if_neg c5] at h
      refine lv_lconst (v := 1) hx hb dX12_findGraph_82 (by decide) ?_
      refine lv_iload_n hx hb dX12_findGraph_83 rfl (lv_at hl 2 rfl) ?_
      refine lv_lshl hx hb dX12_findGraph_84 rfl ?_
      refine lv_goto (tgt := 89) hx hb dX12_findGraph_85 (by decide) ?_
      exact wX12_findGraph_89 C hr hk rc10 hrc10 rc51 hrc51 _ _ _ _ _ _ _ _ _ _ h t0 t2a H locs hT ls (lv_sub hl [0, 1, 2] rfl)
set_option maxHeartbeats 4000000 in
set_option maxRecDepth 20000 in
theorem wX12_findGraph_51 (C : js_C D g p m c cX12_findGraph 3 s args RX12) (hr : meth.sig.returnType = none) (hk : meth.locks = false) (rc10 : Nat → Int32 → js_S → Option (Unit × js_S)) (hrc10 : ∀ (x0 : Nat) (x1 : Int32) (σ : js_S) (r0 : Unit) (σ0 : js_S), rc10 x0 x1 σ = some (r0, σ0) → ob_ nn 12 x0 → js_at p l e 127 s m args below meth c D B g nn 10 3 [(0, .ref (B + x0)), (1, .int x1)] [] σ (js_QV D B g nn σ0)) : ∀ (k : Nat), ∀ (x0 : Nat) (x1 : Int32) (x2 : Int32) (σ : js_S) (r0 : Unit) (σ0 : js_S), fX12_findGraph_51 fu rc10 k x0 x1 x2 σ = some (r0, σ0) → ob_ nn 12 x0 → js_at p l e 127 s m args below meth c D B g nn 51 3 [(0, .ref (B + x0)), (1, .int x1), (2, .int x2)] [] σ (js_QV D B g nn σ0) := by
  intro k
  induction k with
  | zero =>
    intro x0 x1 x2 σ r0 σ0 h
    cases h
  | succ k ih =>
    intro x0 x1 x2 σ r0 σ0 h
    exact wX12_findGraph_51b C hr hk rc10 hrc10 (fX12_findGraph_51 fu rc10 k) ih x0 x1 x2 σ r0 σ0 h
set_option maxHeartbeats 4000000 in
set_option maxRecDepth 20000 in
theorem wX12_findGraph_27b (C : js_C D g p m c cX12_findGraph 3 s args RX12) (hr : meth.sig.returnType = none) (hk : meth.locks = false) (rc10 : Nat → Int32 → js_S → Option (Unit × js_S)) (hrc10 : ∀ (x0 : Nat) (x1 : Int32) (σ : js_S) (r0 : Unit) (σ0 : js_S), rc10 x0 x1 σ = some (r0, σ0) → ob_ nn 12 x0 → js_at p l e 127 s m args below meth c D B g nn 10 3 [(0, .ref (B + x0)), (1, .int x1)] [] σ (js_QV D B g nn σ0)) (rc27 : Nat → Int32 → Int32 → js_S → Option (Unit × js_S)) (hrc27 : ∀ (x0 : Nat) (x1 : Int32) (x2 : Int32) (σ : js_S) (r0 : Unit) (σ0 : js_S), rc27 x0 x1 x2 σ = some (r0, σ0) → ob_ nn 12 x0 → js_at p l e 127 s m args below meth c D B g nn 27 3 [(0, .ref (B + x0)), (1, .int x1), (2, .int x2)] [] σ (js_QV D B g nn σ0)) : ∀ (x0 : Nat) (x1 : Int32) (x2 : Int32) (σ : js_S) (r0 : Unit) (σ0 : js_S), fX12_findGraph_27b fu rc10 rc27 x0 x1 x2 σ = some (r0, σ0) → ob_ nn 12 x0 → js_at p l e 127 s m args below meth c D B g nn 27 3 [(0, .ref (B + x0)), (1, .int x1), (2, .int x2)] [] σ (js_QV D B g nn σ0) := by
  obtain ⟨hx, hb, hml, hown, ht, hK, hNw⟩ := id C
  intro x0 x1 x2 σ r0 σ0 h t0 H locs hT ls hl
  unfold fX12_findGraph_27b at h
  refine lv_iload_n hx hb dX12_findGraph_27 rfl (lv_at hl 2 rfl) ?_
  refine lv_iconst (v := 4) hx hb dX12_findGraph_28 (by decide) ?_
  refine lv_icmp_ge (tgt := 49) hx hb dX12_findGraph_29 (by decide) (fun c1 => ?_) (fun c1 => ?_)
  · rw [if_pos c1] at h
    refine lv_iconst (v := 0) hx hb dX12_findGraph_49 (by decide) ?_
    refine lv_istore_n (lv' := [(2, .int 0), (0, .ref (B + x0)), (1, .int x1)]) hx hb dX12_findGraph_50 rfl hl (by decide) rfl (fun ls hl => ?_)
    exact wX12_findGraph_51 C hr hk rc10 hrc10 _ _ _ _ _ _ _ h t0 H locs hT ls (lv_sub hl [1, 2, 0] rfl)
  · rw [if_neg c1] at h
    refine lv_aload_n hx hb dX12_findGraph_32 rfl (lv_at hl 0 rfl) ?_
    refine js_gR C hT cfX12 t0 19 (by decide) (q := 21) rfl (by decide) lk_X12_52 dX12_findGraph_33 (fun t2a => ?_)
    refine lv_iconst (v := 4) hx hb dX12_findGraph_36 (by decide) ?_
    refine lv_iload_n hx hb dX12_findGraph_37 rfl (lv_at hl 1 rfl) ?_
    refine lv_imul hx hb dX12_findGraph_38 ?_
    refine lv_iload_n hx hb dX12_findGraph_39 rfl (lv_at hl 2 rfl) ?_
    refine lv_iadd hx hb dX12_findGraph_40 ?_
    refine lv_lconst (v := 0) hx hb dX12_findGraph_41 (by decide) ?_
    obtain ⟨g3, h⟩ := gd_some _ h
    obtain ⟨σ3, e3, h⟩ := lt_some h
    refine js_last C hT t2a g3 dX12_findGraph_42 (fun H locs hT => ?_)
    rw [e3] at hT
    refine lv_iinc (v := x2 + 1) (lv' := [(2, .int (x2 + 1)), (0, .ref (B + x0)), (1, .int x1)]) hx hb dX12_findGraph_43 hl (k := 2) rfl rfl (by decide) rfl (fun ls hl => ?_)
    refine lv_goto (tgt := 27) hx hb dX12_findGraph_46 (by decide) ?_
    exact hrc27 _ _ _ _ _ _ h t0 H locs hT ls (lv_sub hl [1, 2, 0] rfl)
set_option maxHeartbeats 4000000 in
set_option maxRecDepth 20000 in
theorem wX12_findGraph_27 (C : js_C D g p m c cX12_findGraph 3 s args RX12) (hr : meth.sig.returnType = none) (hk : meth.locks = false) (rc10 : Nat → Int32 → js_S → Option (Unit × js_S)) (hrc10 : ∀ (x0 : Nat) (x1 : Int32) (σ : js_S) (r0 : Unit) (σ0 : js_S), rc10 x0 x1 σ = some (r0, σ0) → ob_ nn 12 x0 → js_at p l e 127 s m args below meth c D B g nn 10 3 [(0, .ref (B + x0)), (1, .int x1)] [] σ (js_QV D B g nn σ0)) : ∀ (k : Nat), ∀ (x0 : Nat) (x1 : Int32) (x2 : Int32) (σ : js_S) (r0 : Unit) (σ0 : js_S), fX12_findGraph_27 fu rc10 k x0 x1 x2 σ = some (r0, σ0) → ob_ nn 12 x0 → js_at p l e 127 s m args below meth c D B g nn 27 3 [(0, .ref (B + x0)), (1, .int x1), (2, .int x2)] [] σ (js_QV D B g nn σ0) := by
  intro k
  induction k with
  | zero =>
    intro x0 x1 x2 σ r0 σ0 h
    cases h
  | succ k ih =>
    intro x0 x1 x2 σ r0 σ0 h
    exact wX12_findGraph_27b C hr hk rc10 hrc10 (fX12_findGraph_27 fu rc10 k) ih x0 x1 x2 σ r0 σ0 h
set_option maxHeartbeats 4000000 in
set_option maxRecDepth 20000 in
theorem wX12_findGraph_10b (C : js_C D g p m c cX12_findGraph 3 s args RX12) (hr : meth.sig.returnType = none) (hk : meth.locks = false) (rc10 : Nat → Int32 → js_S → Option (Unit × js_S)) (hrc10 : ∀ (x0 : Nat) (x1 : Int32) (σ : js_S) (r0 : Unit) (σ0 : js_S), rc10 x0 x1 σ = some (r0, σ0) → ob_ nn 12 x0 → js_at p l e 127 s m args below meth c D B g nn 10 3 [(0, .ref (B + x0)), (1, .int x1)] [] σ (js_QV D B g nn σ0)) : ∀ (x0 : Nat) (x1 : Int32) (σ : js_S) (r0 : Unit) (σ0 : js_S), fX12_findGraph_10b fu rc10 x0 x1 σ = some (r0, σ0) → ob_ nn 12 x0 → js_at p l e 127 s m args below meth c D B g nn 10 3 [(0, .ref (B + x0)), (1, .int x1)] [] σ (js_QV D B g nn σ0) := by
  obtain ⟨hx, hb, hml, hown, ht, hK, hNw⟩ := id C
  intro x0 x1 σ r0 σ0 h t0 H locs hT ls hl
  unfold fX12_findGraph_10b at h
  refine lv_iload_n hx hb dX12_findGraph_10 rfl (lv_at hl 1 rfl) ?_
  refine lv_aload_n hx hb dX12_findGraph_11 rfl (lv_at hl 0 rfl) ?_
  refine js_gI C hT cfX12 t0 23 (by decide) rfl lk_X12_211 dX12_findGraph_12 ?_
  refine lv_icmp_ge (tgt := 103) hx hb dX12_findGraph_15 (by decide) (fun c1 => ?_) (fun c1 => ?_)
  · rw [if_pos c1] at h
    obtain ⟨rfl, rfl⟩ := js_rt h
    exact js_vret C hT hr hk dX12_findGraph_103
  · rw [if_neg c1] at h
    refine lv_aload_n hx hb dX12_findGraph_18 rfl (lv_at hl 0 rfl) ?_
    refine js_gR C hT cfX12 t0 21 (by decide) (q := 22) rfl (by decide) lk_X12_59 dX12_findGraph_19 (fun t2a => ?_)
    refine lv_iload_n hx hb dX12_findGraph_22 rfl (lv_at hl 1 rfl) ?_
    refine lv_iconst (v := 1) hx hb dX12_findGraph_23 (by decide) ?_
    obtain ⟨g3, h⟩ := gd_some _ h
    obtain ⟨σ3, e3, h⟩ := lt_some h
    refine js_zast C hT t2a g3 dX12_findGraph_24 (fun H locs hT => ?_)
    rw [e3] at hT
    refine lv_iconst (v := 0) hx hb dX12_findGraph_25 (by decide) ?_
    refine lv_istore_n (lv' := [(2, .int 0), (0, .ref (B + x0)), (1, .int x1)]) hx hb dX12_findGraph_26 rfl hl (by decide) rfl (fun ls hl => ?_)
    exact wX12_findGraph_27 C hr hk rc10 hrc10 _ _ _ _ _ _ _ h t0 H locs hT ls (lv_sub hl [1, 2, 0] rfl)
set_option maxHeartbeats 4000000 in
set_option maxRecDepth 20000 in
theorem wX12_findGraph_10 (C : js_C D g p m c cX12_findGraph 3 s args RX12) (hr : meth.sig.returnType = none) (hk : meth.locks = false) : ∀ (k : Nat), ∀ (x0 : Nat) (x1 : Int32) (σ : js_S) (r0 : Unit) (σ0 : js_S), fX12_findGraph_10 fu k x0 x1 σ = some (r0, σ0) → ob_ nn 12 x0 → js_at p l e 127 s m args below meth c D B g nn 10 3 [(0, .ref (B + x0)), (1, .int x1)] [] σ (js_QV D B g nn σ0) := by
  intro k
  induction k with
  | zero =>
    intro x0 x1 σ r0 σ0 h
    cases h
  | succ k ih =>
    intro x0 x1 σ r0 σ0 h
    exact wX12_findGraph_10b C hr hk (fX12_findGraph_10 fu k) ih x0 x1 σ r0 σ0 h
set_option maxHeartbeats 4000000 in
set_option maxRecDepth 20000 in
theorem kX12_findGraph {x0 : Nat} {σ σ0 : js_S} {r0 : Unit} (t0 : ob_ nn 12 x0) (h : fX12_findGraph fu x0 σ = some (r0, σ0)) : js_M l D B g nn yX12_findGraph cX12_findGraph 3 none 127 [.ref (B + x0)] σ (js_QV D B g nn σ0) := by
  refine js_enter (by decide) (Nat.le_of_ble_eq_true rfl) ?_
  intro p e s m args below meth c C hr hk ls hl hT
  have hl : lv_has ls 3 [(0, .ref (B + x0))] := hl
  obtain ⟨hx, hb, hml, hown, ht, hK, hNw⟩ := id C
  obtain ⟨H, eH⟩ : ∃ H, H = s.heap := ⟨_, rfl⟩
  obtain ⟨locs, eL⟩ : ∃ z : List Loc, z = [] := ⟨_, rfl⟩
  rw [← eH, ← eL]
  rw [← eH, ← eL] at hT
  clear eH eL
  unfold fX12_findGraph at h
  refine lv_aload_n hx hb dX12_findGraph_0 rfl (lv_at hl 0 rfl) ?_
  refine lv_aload_n hx hb dX12_findGraph_1 rfl (lv_at hl 0 rfl) ?_
  obtain ⟨r1, σ1, hc1, h⟩ := bd_some h
  refine js_backI hT (js_runV C hT cfX12 t0 rfl mfX12_findPairs lk_X12_185 (kX12_findPairs t0 hc1) ⟨Nat.le_of_ble_eq_true rfl, Nat.le_of_ble_eq_true rfl⟩ rfl hl.1 rfl (Nat.le_of_ble_eq_true rfl) ⟨Nat.zero_le _, Nat.zero_le _⟩ dX12_findGraph_2) (fun H locs hT => ?_)
  obtain ⟨σ2, e2, h⟩ := lt_some h
  refine js_pI C hT cfX12 t0 23 (by decide) rfl rfl rfl rfl lk_X12_211 dX12_findGraph_5 (fun H locs hT => ?_)
  rw [e2] at hT
  refine lv_iconst (v := 0) hx hb dX12_findGraph_8 (by decide) ?_
  refine lv_istore_n (lv' := [(1, .int 0), (0, .ref (B + x0))]) hx hb dX12_findGraph_9 rfl hl (by decide) rfl (fun ls hl => ?_)
  exact wX12_findGraph_10 C hr hk _ _ _ _ _ _ h t0 H locs hT ls (lv_sub hl [1, 0] rfl)
set_option maxHeartbeats 4000000 in
set_option maxRecDepth 20000 in
theorem kX12_componentCount {x0 : Nat} {σ σ0 : js_S} {r0 : Int32} (t0 : ob_ nn 12 x0) (h : fX12_componentCount fu x0 σ = some (r0, σ0)) : js_M l D B g nn yX12_componentCount cX12_componentCount 1 (some .int) 128 [.ref (B + x0)] σ (js_QI D B g nn r0 σ0) := by
  refine js_enter (by decide) (Nat.le_of_ble_eq_true rfl) ?_
  intro p e s m args below meth c C hr hk ls hl hT
  have hl : lv_has ls 1 [(0, .ref (B + x0))] := hl
  obtain ⟨hx, hb, hml, hown, ht, hK, hNw⟩ := id C
  obtain ⟨H, eH⟩ : ∃ H, H = s.heap := ⟨_, rfl⟩
  obtain ⟨locs, eL⟩ : ∃ z : List Loc, z = [] := ⟨_, rfl⟩
  rw [← eH, ← eL]
  rw [← eH, ← eL] at hT
  clear eH eL
  unfold fX12_componentCount at h
  refine lv_aload_n hx hb dX12_componentCount_0 rfl (lv_at hl 0 rfl) ?_
  obtain ⟨z1, σ1, hc1, h⟩ := bd_some h
  refine js_backV hT (js_runV C hT cfX12 t0 rfl mfX12_findGraph lk_X12_223 (kX12_findGraph t0 hc1) ⟨Nat.le_of_ble_eq_true rfl, Nat.le_of_ble_eq_true rfl⟩ rfl hl.1 rfl (Nat.le_of_ble_eq_true rfl) ⟨Nat.zero_le _, Nat.zero_le _⟩ dX12_componentCount_1) (fun H locs hT => ?_)
  refine lv_aload_n hx hb dX12_componentCount_4 rfl (lv_at hl 0 rfl) ?_
  obtain ⟨z2, σ2, hc2, h⟩ := bd_some h
  refine js_backV hT (js_runV C hT cfX12 t0 rfl mfX12_findComponents lk_X12_226 (kX12_findComponents t0 hc2) ⟨Nat.le_of_ble_eq_true rfl, Nat.le_of_ble_eq_true rfl⟩ rfl hl.1 rfl (Nat.le_of_ble_eq_true rfl) ⟨Nat.zero_le _, Nat.zero_le _⟩ dX12_componentCount_5) (fun H locs hT => ?_)
  refine lv_aload_n hx hb dX12_componentCount_8 rfl (lv_at hl 0 rfl) ?_
  refine js_gI C hT cfX12 t0 24 (by decide) rfl lk_X12_220 dX12_componentCount_9 ?_
  obtain ⟨rfl, rfl⟩ := js_rt h
  exact js_iret C hT hr hk dX12_componentCount_12
set_option maxHeartbeats 4000000 in
set_option maxRecDepth 20000 in
theorem kX12_isPair {x0 : Nat} {x1 : Int32} {σ σ0 : js_S} {r0 : Int32} (t0 : ob_ nn 12 x0) (h : fX12_isPair fu x0 x1 σ = some (r0, σ0)) : js_M l D B g nn yX12_isPair cX12_isPair 2 (some .boolean) 3 [.ref (B + x0), .int x1] σ (js_QI D B g nn r0 σ0) := by
  refine js_enter (by decide) (Nat.le_of_ble_eq_true rfl) ?_
  intro p e s m args below meth c C hr hk ls hl hT
  have hl : lv_has ls 2 [(0, .ref (B + x0)), (1, .int x1)] := hl
  obtain ⟨hx, hb, hml, hown, ht, hK, hNw⟩ := id C
  obtain ⟨H, eH⟩ : ∃ H, H = s.heap := ⟨_, rfl⟩
  obtain ⟨locs, eL⟩ : ∃ z : List Loc, z = [] := ⟨_, rfl⟩
  rw [← eH, ← eL]
  rw [← eH, ← eL] at hT
  clear eH eL
  unfold fX12_isPair at h
  refine lv_iload_n hx hb dX12_isPair_0 rfl (lv_at hl 1 rfl) ?_
  refine lv_iconst (v := 0) hx hb dX12_isPair_1 (by decide) ?_
  refine lv_aload_n hx hb dX12_isPair_2 rfl (lv_at hl 0 rfl) ?_
  obtain ⟨r1, σ1, hc1, h⟩ := bd_some h
  refine js_backI hT (js_runV C hT cfX12 t0 rfl mfX12_findPairs lk_X12_185 (kX12_findPairs t0 hc1) ⟨Nat.le_of_ble_eq_true rfl, Nat.le_of_ble_eq_true rfl⟩ rfl hl.1 rfl (Nat.le_of_ble_eq_true rfl) ⟨Nat.zero_le _, Nat.zero_le _⟩ dX12_isPair_3) (fun H locs hT => ?_)
  refine lv_iconst (v := 1) hx hb dX12_isPair_6 (by decide) ?_
  refine lv_isub hx hb dX12_isPair_7 ?_
  obtain ⟨r2, σ2, hc2, h⟩ := bd_some h
  refine js_backI hT (js_runS C hT mfX12_isIn lk_X12_105 (kX12_isIn  hc2) ⟨Nat.le_of_ble_eq_true rfl, Nat.le_of_ble_eq_true rfl⟩ rfl hl.1 rfl (Nat.le_of_ble_eq_true rfl) ⟨Nat.zero_le _, Nat.zero_le _⟩ dX12_isPair_8) (fun H locs hT => ?_)
  obtain ⟨g3, h⟩ := gd_some _ h
  obtain ⟨rfl, rfl⟩ := js_rt h
  exact js_zret C hT hr hk g3 dX12_isPair_11
set_option maxHeartbeats 4000000 in
set_option maxRecDepth 20000 in
theorem kX12_componentOf {x0 : Nat} {x1 : Int32} {σ σ0 : js_S} {r0 : Int32} (t0 : ob_ nn 12 x0) (h : fX12_componentOf fu x0 x1 σ = some (r0, σ0)) : js_M l D B g nn yX12_componentOf cX12_componentOf 2 (some .int) 128 [.ref (B + x0), .int x1] σ (js_QI D B g nn r0 σ0) := by
  refine js_enter (by decide) (Nat.le_of_ble_eq_true rfl) ?_
  intro p e s m args below meth c C hr hk ls hl hT
  have hl : lv_has ls 2 [(0, .ref (B + x0)), (1, .int x1)] := hl
  obtain ⟨hx, hb, hml, hown, ht, hK, hNw⟩ := id C
  obtain ⟨H, eH⟩ : ∃ H, H = s.heap := ⟨_, rfl⟩
  obtain ⟨locs, eL⟩ : ∃ z : List Loc, z = [] := ⟨_, rfl⟩
  rw [← eH, ← eL]
  rw [← eH, ← eL] at hT
  clear eH eL
  unfold fX12_componentOf at h
  refine lv_aload_n hx hb dX12_componentOf_0 rfl (lv_at hl 0 rfl) ?_
  refine lv_iload_n hx hb dX12_componentOf_1 rfl (lv_at hl 1 rfl) ?_
  obtain ⟨r1, σ1, hc1, h⟩ := bd_some h
  refine js_backI hT (js_runV C hT cfX12 t0 rfl mfX12_isPair lk_X12_188 (kX12_isPair t0 hc1) ⟨Nat.le_of_ble_eq_true rfl, Nat.le_of_ble_eq_true rfl⟩ rfl hl.1 rfl (Nat.le_of_ble_eq_true rfl) ⟨Nat.zero_le _, Nat.zero_le _⟩ dX12_componentOf_2) (fun H locs hT => ?_)
  refine lv_if_ne (tgt := 10) hx hb dX12_componentOf_5 (by decide) (fun c2 => ?_) (fun c2 => ?_)
  · rw [if_neg c2] at h
    refine lv_aload_n hx hb dX12_componentOf_10 rfl (lv_at hl 0 rfl) ?_
    obtain ⟨z3, σ3, hc3, h⟩ := bd_some h
    refine js_backV hT (js_runV C hT cfX12 t0 rfl mfX12_findGraph lk_X12_223 (kX12_findGraph t0 hc3) ⟨Nat.le_of_ble_eq_true rfl, Nat.le_of_ble_eq_true rfl⟩ rfl hl.1 rfl (Nat.le_of_ble_eq_true rfl) ⟨Nat.zero_le _, Nat.zero_le _⟩ dX12_componentOf_11) (fun H locs hT => ?_)
    refine lv_aload_n hx hb dX12_componentOf_14 rfl (lv_at hl 0 rfl) ?_
    obtain ⟨z4, σ4, hc4, h⟩ := bd_some h
    refine js_backV hT (js_runV C hT cfX12 t0 rfl mfX12_findComponents lk_X12_226 (kX12_findComponents t0 hc4) ⟨Nat.le_of_ble_eq_true rfl, Nat.le_of_ble_eq_true rfl⟩ rfl hl.1 rfl (Nat.le_of_ble_eq_true rfl) ⟨Nat.zero_le _, Nat.zero_le _⟩ dX12_componentOf_15) (fun H locs hT => ?_)
    refine lv_aload_n hx hb dX12_componentOf_18 rfl (lv_at hl 0 rfl) ?_
    refine js_gR C hT cfX12 t0 22 (by decide) (q := 20) rfl (by decide) lk_X12_63 dX12_componentOf_19 (fun t5a => ?_)
    refine lv_iload_n hx hb dX12_componentOf_22 rfl (lv_at hl 1 rfl) ?_
    obtain ⟨g6, h⟩ := gd_some _ h
    refine js_iald C hT t5a g6 dX12_componentOf_23 ?_
    obtain ⟨rfl, rfl⟩ := js_rt h
    exact js_iret C hT hr hk dX12_componentOf_24
  · rw [if_pos c2] at h
    refine lv_iconst (v := (-1)) hx hb dX12_componentOf_8 (by decide) ?_
    obtain ⟨rfl, rfl⟩ := js_rt h
    exact js_iret C hT hr hk dX12_componentOf_9
set_option maxHeartbeats 4000000 in
set_option maxRecDepth 20000 in
theorem kX12_copyTerm {x0 : Nat} {x1 : Int32} {x2 : Int32} {σ σ0 : js_S} {r0 : Int32} (t0 : ob_ nn 12 x0) (h : fX12_copyTerm fu x0 x1 x2 σ = some (r0, σ0)) : js_M l D B g nn yX12_copyTerm cX12_copyTerm 3 (some .int) 2 [.ref (B + x0), .int x1, .int x2] σ (js_QI D B g nn r0 σ0) := by
  refine js_enter (by decide) (Nat.le_of_ble_eq_true rfl) ?_
  intro p e s m args below meth c C hr hk ls hl hT
  have hl : lv_has ls 3 [(0, .ref (B + x0)), (1, .int x1), (2, .int x2)] := hl
  obtain ⟨hx, hb, hml, hown, ht, hK, hNw⟩ := id C
  obtain ⟨H, eH⟩ : ∃ H, H = s.heap := ⟨_, rfl⟩
  obtain ⟨locs, eL⟩ : ∃ z : List Loc, z = [] := ⟨_, rfl⟩
  rw [← eH, ← eL]
  rw [← eH, ← eL] at hT
  clear eH eL
  unfold fX12_copyTerm at h
  refine lv_iload_n hx hb dX12_copyTerm_0 rfl (lv_at hl 1 rfl) ?_
  obtain ⟨r1, σ1, hc1, h⟩ := bd_some h
  refine js_backI hT (js_runS C hT mfX12_isRegister lk_X12_274 (kX12_isRegister  hc1) ⟨Nat.le_of_ble_eq_true rfl, Nat.le_of_ble_eq_true rfl⟩ rfl hl.1 rfl (Nat.le_of_ble_eq_true rfl) ⟨Nat.zero_le _, Nat.zero_le _⟩ dX12_copyTerm_1) (fun H locs hT => ?_)
  refine lv_if_eq (tgt := 14) hx hb dX12_copyTerm_4 (by decide) (fun c2 => ?_) (fun c2 => ?_)
  · rw [if_pos c2] at h
    refine lv_iconst (v := (-1)) hx hb dX12_copyTerm_14 (by decide) ?_
    obtain ⟨rfl, rfl⟩ := js_rt h
    exact js_iret C hT hr hk dX12_copyTerm_15
  · rw [if_neg c2] at h
    refine lv_iload_n hx hb dX12_copyTerm_7 rfl (lv_at hl 2 rfl) ?_
    obtain ⟨r3, σ3, hc3, h⟩ := bd_some h
    refine js_backI hT (js_runS C hT mfX12_isRegister lk_X12_274 (kX12_isRegister  hc3) ⟨Nat.le_of_ble_eq_true rfl, Nat.le_of_ble_eq_true rfl⟩ rfl hl.1 rfl (Nat.le_of_ble_eq_true rfl) ⟨Nat.zero_le _, Nat.zero_le _⟩ dX12_copyTerm_8) (fun H locs hT => ?_)
    refine lv_if_ne (tgt := 16) hx hb dX12_copyTerm_11 (by decide) (fun c4 => ?_) (fun c4 => ?_)
    · rw [if_neg c4] at h
      refine lv_aload_n hx hb dX12_copyTerm_16 rfl (lv_at hl 0 rfl) ?_
      refine js_gR C hT cfX12 t0 4 (by decide) (q := 20) rfl (by decide) lk_X12_22 dX12_copyTerm_17 (fun t5a => ?_)
      refine lv_bipush (v := 96) hx hb dX12_copyTerm_20 (by decide) ?_
      refine lv_iload_n hx hb dX12_copyTerm_22 rfl (lv_at hl 1 rfl) ?_
      refine lv_imul hx hb dX12_copyTerm_23 ?_
      refine lv_aload_n hx hb dX12_copyTerm_24 rfl (lv_at hl 0 rfl) ?_
      refine js_gR C hT cfX12 t0 4 (by decide) (q := 20) rfl (by decide) lk_X12_22 dX12_copyTerm_25 (fun t6a => ?_)
      refine lv_bipush (v := 96) hx hb dX12_copyTerm_28 (by decide) ?_
      refine lv_iload_n hx hb dX12_copyTerm_30 rfl (lv_at hl 2 rfl) ?_
      refine lv_imul hx hb dX12_copyTerm_31 ?_
      refine lv_bipush (v := 96) hx hb dX12_copyTerm_32 (by decide) ?_
      obtain ⟨z7, σ7, hc7, h⟩ := bd_some h
      refine js_backV hT (js_runS C hT mfX12_copy lk_X12_169 (kX12_copy t5a t6a hc7) ⟨Nat.le_of_ble_eq_true rfl, Nat.le_of_ble_eq_true rfl⟩ rfl hl.1 rfl (Nat.le_of_ble_eq_true rfl) ⟨Nat.zero_le _, Nat.zero_le _⟩ dX12_copyTerm_34) (fun H locs hT => ?_)
      refine lv_aload_n hx hb dX12_copyTerm_37 rfl (lv_at hl 0 rfl) ?_
      refine js_gR C hT cfX12 t0 4 (by decide) (q := 20) rfl (by decide) lk_X12_22 dX12_copyTerm_38 (fun t8a => ?_)
      refine lv_bipush (v := 96) hx hb dX12_copyTerm_41 (by decide) ?_
      refine lv_iload_n hx hb dX12_copyTerm_43 rfl (lv_at hl 2 rfl) ?_
      refine lv_imul hx hb dX12_copyTerm_44 ?_
      obtain ⟨g9, h⟩ := gd_some _ h
      refine js_iald C hT t8a g9 dX12_copyTerm_45 ?_
      obtain ⟨rfl, rfl⟩ := js_rt h
      exact js_iret C hT hr hk dX12_copyTerm_46
    · rw [if_pos c4] at h
      refine lv_iconst (v := (-1)) hx hb dX12_copyTerm_14 (by decide) ?_
      obtain ⟨rfl, rfl⟩ := js_rt h
      exact js_iret C hT hr hk dX12_copyTerm_15
set_option maxHeartbeats 4000000 in
set_option maxRecDepth 20000 in
theorem wX12_edgeCount_39 (C : js_C D g p m c cX12_edgeCount 5 s args RX12) (hr : meth.sig.returnType = (some .int)) (hk : meth.locks = false) (rc9 : Nat → Int32 → Int32 → Int32 → js_S → Option (Int32 × js_S)) (hrc9 : ∀ (x0 : Nat) (x1 : Int32) (x2 : Int32) (x3 : Int32) (σ : js_S) (r0 : Int32) (σ0 : js_S), rc9 x0 x1 x2 x3 σ = some (r0, σ0) → ob_ nn 12 x0 → js_at p l e 127 s m args below meth c D B g nn 9 5 [(0, .ref (B + x0)), (1, .int x1), (2, .int x2), (3, .int x3)] [] σ (js_QI D B g nn r0 σ0)) (rc17 : Nat → Int32 → Int32 → Int32 → Int32 → js_S → Option (Int32 × js_S)) (hrc17 : ∀ (x0 : Nat) (x1 : Int32) (x2 : Int32) (x3 : Int32) (x4 : Int32) (σ : js_S) (r0 : Int32) (σ0 : js_S), rc17 x0 x1 x2 x3 x4 σ = some (r0, σ0) → ob_ nn 12 x0 → js_at p l e 127 s m args below meth c D B g nn 17 5 [(0, .ref (B + x0)), (1, .int x1), (2, .int x2), (3, .int x3), (4, .int x4)] [] σ (js_QI D B g nn r0 σ0)) : ∀ (x0 : Nat) (x1 : Int32) (x3 : Int32) (x4 : Int32) (y0 : Int32) (y1 : Int32) (σ : js_S) (r0 : Int32) (σ0 : js_S), fX12_edgeCount_39 fu rc9 rc17 x0 x1 x3 x4 y0 y1 σ = some (r0, σ0) → ob_ nn 12 x0 → js_at p l e 127 s m args below meth c D B g nn 39 5 [(0, .ref (B + x0)), (1, .int x1), (3, .int x3), (4, .int x4)] [.int y0, .int y1] σ (js_QI D B g nn r0 σ0) := by
  obtain ⟨hx, hb, hml, hown, ht, hK, hNw⟩ := id C
  intro x0 x1 x3 x4 y0 y1 σ r0 σ0 h t0 H locs hT ls hl
  unfold fX12_edgeCount_39 at h
  refine lv_iadd hx hb dX12_edgeCount_39 ?_
  refine lv_istore_n (lv' := [(2, .int (y1 + y0)), (0, .ref (B + x0)), (1, .int x1), (3, .int x3), (4, .int x4)]) hx hb dX12_edgeCount_40 rfl hl (by decide) rfl (fun ls hl => ?_)
  refine lv_iinc (v := x4 + 1) (lv' := [(4, .int (x4 + 1)), (2, .int (y1 + y0)), (0, .ref (B + x0)), (1, .int x1), (3, .int x3)]) hx hb dX12_edgeCount_41 hl (k := 4) rfl rfl (by decide) rfl (fun ls hl => ?_)
  refine lv_goto (tgt := 17) hx hb dX12_edgeCount_44 (by decide) ?_
  exact hrc17 _ _ _ _ _ _ _ _ h t0 H locs hT ls (lv_sub hl [2, 3, 1, 4, 0] rfl)
set_option maxHeartbeats 4000000 in
set_option maxRecDepth 20000 in
theorem wX12_edgeCount_17b (C : js_C D g p m c cX12_edgeCount 5 s args RX12) (hr : meth.sig.returnType = (some .int)) (hk : meth.locks = false) (rc9 : Nat → Int32 → Int32 → Int32 → js_S → Option (Int32 × js_S)) (hrc9 : ∀ (x0 : Nat) (x1 : Int32) (x2 : Int32) (x3 : Int32) (σ : js_S) (r0 : Int32) (σ0 : js_S), rc9 x0 x1 x2 x3 σ = some (r0, σ0) → ob_ nn 12 x0 → js_at p l e 127 s m args below meth c D B g nn 9 5 [(0, .ref (B + x0)), (1, .int x1), (2, .int x2), (3, .int x3)] [] σ (js_QI D B g nn r0 σ0)) (rc17 : Nat → Int32 → Int32 → Int32 → Int32 → js_S → Option (Int32 × js_S)) (hrc17 : ∀ (x0 : Nat) (x1 : Int32) (x2 : Int32) (x3 : Int32) (x4 : Int32) (σ : js_S) (r0 : Int32) (σ0 : js_S), rc17 x0 x1 x2 x3 x4 σ = some (r0, σ0) → ob_ nn 12 x0 → js_at p l e 127 s m args below meth c D B g nn 17 5 [(0, .ref (B + x0)), (1, .int x1), (2, .int x2), (3, .int x3), (4, .int x4)] [] σ (js_QI D B g nn r0 σ0)) : ∀ (x0 : Nat) (x1 : Int32) (x2 : Int32) (x3 : Int32) (x4 : Int32) (σ : js_S) (r0 : Int32) (σ0 : js_S), fX12_edgeCount_17b fu rc9 rc17 x0 x1 x2 x3 x4 σ = some (r0, σ0) → ob_ nn 12 x0 → js_at p l e 127 s m args below meth c D B g nn 17 5 [(0, .ref (B + x0)), (1, .int x1), (2, .int x2), (3, .int x3), (4, .int x4)] [] σ (js_QI D B g nn r0 σ0) := by
  obtain ⟨hx, hb, hml, hown, ht, hK, hNw⟩ := id C
  intro x0 x1 x2 x3 x4 σ r0 σ0 h t0 H locs hT ls hl
  unfold fX12_edgeCount_17b at h
  refine lv_iload hx hb dX12_edgeCount_17 (lv_at hl 4 rfl) ?_
  refine lv_iload_n hx hb dX12_edgeCount_19 rfl (lv_at hl 1 rfl) ?_
  refine lv_icmp_ge (tgt := 47) hx hb dX12_edgeCount_20 (by decide) (fun c1 => ?_) (fun c1 => ?_)
  · rw [if_pos c1] at h
    refine lv_iinc (v := x3 + 1) (lv' := [(3, .int (x3 + 1)), (0, .ref (B + x0)), (1, .int x1), (2, .int x2), (4, .int x4)]) hx hb dX12_edgeCount_47 hl (k := 3) rfl rfl (by decide) rfl (fun ls hl => ?_)
    refine lv_goto (tgt := 9) hx hb dX12_edgeCount_50 (by decide) ?_
    exact hrc9 _ _ _ _ _ _ _ h t0 H locs hT ls (lv_sub hl [1, 2, 3, 0] rfl)
  · rw [if_neg c1] at h
    refine lv_iload_n hx hb dX12_edgeCount_23 rfl (lv_at hl 2 rfl) ?_
    refine lv_aload_n hx hb dX12_edgeCount_24 rfl (lv_at hl 0 rfl) ?_
    refine lv_iload_n hx hb dX12_edgeCount_25 rfl (lv_at hl 3 rfl) ?_
    refine lv_iload hx hb dX12_edgeCount_26 (lv_at hl 4 rfl) ?_
    obtain ⟨r2, σ2, hc2, h⟩ := bd_some h
    refine js_backI hT (js_runV C hT cfX12 t0 rfl mfX12_isEdge lk_X12_208 (kX12_isEdge t0 hc2) ⟨Nat.le_of_ble_eq_true rfl, Nat.le_of_ble_eq_true rfl⟩ rfl hl.1 rfl (Nat.le_of_ble_eq_true rfl) ⟨Nat.zero_le _, Nat.zero_le _⟩ dX12_edgeCount_28) (fun H locs hT => ?_)
    refine lv_if_eq (tgt := 38) hx hb dX12_edgeCount_31 (by decide) (fun c3 => ?_) (fun c3 => ?_)
    · rw [if_pos c3] at h
      refine lv_iconst (v := 0) hx hb dX12_edgeCount_38 (by decide) ?_
      exact wX12_edgeCount_39 C hr hk rc9 hrc9 rc17 hrc17 _ _ _ _ _ _ _ _ _ h t0 H locs hT ls (lv_sub hl [0, 1, 3, 4] rfl)
    · rw [if_neg c3] at h
      refine lv_iconst (v := 1) hx hb dX12_edgeCount_34 (by decide) ?_
      refine lv_goto (tgt := 39) hx hb dX12_edgeCount_35 (by decide) ?_
      exact wX12_edgeCount_39 C hr hk rc9 hrc9 rc17 hrc17 _ _ _ _ _ _ _ _ _ h t0 H locs hT ls (lv_sub hl [0, 1, 3, 4] rfl)
set_option maxHeartbeats 4000000 in
set_option maxRecDepth 20000 in
theorem wX12_edgeCount_17 (C : js_C D g p m c cX12_edgeCount 5 s args RX12) (hr : meth.sig.returnType = (some .int)) (hk : meth.locks = false) (rc9 : Nat → Int32 → Int32 → Int32 → js_S → Option (Int32 × js_S)) (hrc9 : ∀ (x0 : Nat) (x1 : Int32) (x2 : Int32) (x3 : Int32) (σ : js_S) (r0 : Int32) (σ0 : js_S), rc9 x0 x1 x2 x3 σ = some (r0, σ0) → ob_ nn 12 x0 → js_at p l e 127 s m args below meth c D B g nn 9 5 [(0, .ref (B + x0)), (1, .int x1), (2, .int x2), (3, .int x3)] [] σ (js_QI D B g nn r0 σ0)) : ∀ (k : Nat), ∀ (x0 : Nat) (x1 : Int32) (x2 : Int32) (x3 : Int32) (x4 : Int32) (σ : js_S) (r0 : Int32) (σ0 : js_S), fX12_edgeCount_17 fu rc9 k x0 x1 x2 x3 x4 σ = some (r0, σ0) → ob_ nn 12 x0 → js_at p l e 127 s m args below meth c D B g nn 17 5 [(0, .ref (B + x0)), (1, .int x1), (2, .int x2), (3, .int x3), (4, .int x4)] [] σ (js_QI D B g nn r0 σ0) := by
  intro k
  induction k with
  | zero =>
    intro x0 x1 x2 x3 x4 σ r0 σ0 h
    cases h
  | succ k ih =>
    intro x0 x1 x2 x3 x4 σ r0 σ0 h
    exact wX12_edgeCount_17b C hr hk rc9 hrc9 (fX12_edgeCount_17 fu rc9 k) ih x0 x1 x2 x3 x4 σ r0 σ0 h
set_option maxHeartbeats 4000000 in
set_option maxRecDepth 20000 in
theorem wX12_edgeCount_9b (C : js_C D g p m c cX12_edgeCount 5 s args RX12) (hr : meth.sig.returnType = (some .int)) (hk : meth.locks = false) (rc9 : Nat → Int32 → Int32 → Int32 → js_S → Option (Int32 × js_S)) (hrc9 : ∀ (x0 : Nat) (x1 : Int32) (x2 : Int32) (x3 : Int32) (σ : js_S) (r0 : Int32) (σ0 : js_S), rc9 x0 x1 x2 x3 σ = some (r0, σ0) → ob_ nn 12 x0 → js_at p l e 127 s m args below meth c D B g nn 9 5 [(0, .ref (B + x0)), (1, .int x1), (2, .int x2), (3, .int x3)] [] σ (js_QI D B g nn r0 σ0)) : ∀ (x0 : Nat) (x1 : Int32) (x2 : Int32) (x3 : Int32) (σ : js_S) (r0 : Int32) (σ0 : js_S), fX12_edgeCount_9b fu rc9 x0 x1 x2 x3 σ = some (r0, σ0) → ob_ nn 12 x0 → js_at p l e 127 s m args below meth c D B g nn 9 5 [(0, .ref (B + x0)), (1, .int x1), (2, .int x2), (3, .int x3)] [] σ (js_QI D B g nn r0 σ0) := by
  obtain ⟨hx, hb, hml, hown, ht, hK, hNw⟩ := id C
  intro x0 x1 x2 x3 σ r0 σ0 h t0 H locs hT ls hl
  unfold fX12_edgeCount_9b at h
  refine lv_iload_n hx hb dX12_edgeCount_9 rfl (lv_at hl 3 rfl) ?_
  refine lv_iload_n hx hb dX12_edgeCount_10 rfl (lv_at hl 1 rfl) ?_
  refine lv_icmp_ge (tgt := 53) hx hb dX12_edgeCount_11 (by decide) (fun c1 => ?_) (fun c1 => ?_)
  · rw [if_pos c1] at h
    refine lv_iload_n hx hb dX12_edgeCount_53 rfl (lv_at hl 2 rfl) ?_
    obtain ⟨rfl, rfl⟩ := js_rt h
    exact js_iret C hT hr hk dX12_edgeCount_54
  · rw [if_neg c1] at h
    refine lv_iconst (v := 0) hx hb dX12_edgeCount_14 (by decide) ?_
    refine lv_istore (lv' := [(4, .int 0), (0, .ref (B + x0)), (1, .int x1), (2, .int x2), (3, .int x3)]) hx hb dX12_edgeCount_15 hl (by decide) rfl (fun ls hl => ?_)
    exact wX12_edgeCount_17 C hr hk rc9 hrc9 _ _ _ _ _ _ _ _ _ h t0 H locs hT ls (lv_sub hl [1, 2, 3, 4, 0] rfl)
set_option maxHeartbeats 4000000 in
set_option maxRecDepth 20000 in
theorem wX12_edgeCount_9 (C : js_C D g p m c cX12_edgeCount 5 s args RX12) (hr : meth.sig.returnType = (some .int)) (hk : meth.locks = false) : ∀ (k : Nat), ∀ (x0 : Nat) (x1 : Int32) (x2 : Int32) (x3 : Int32) (σ : js_S) (r0 : Int32) (σ0 : js_S), fX12_edgeCount_9 fu k x0 x1 x2 x3 σ = some (r0, σ0) → ob_ nn 12 x0 → js_at p l e 127 s m args below meth c D B g nn 9 5 [(0, .ref (B + x0)), (1, .int x1), (2, .int x2), (3, .int x3)] [] σ (js_QI D B g nn r0 σ0) := by
  intro k
  induction k with
  | zero =>
    intro x0 x1 x2 x3 σ r0 σ0 h
    cases h
  | succ k ih =>
    intro x0 x1 x2 x3 σ r0 σ0 h
    exact wX12_edgeCount_9b C hr hk (fX12_edgeCount_9 fu k) ih x0 x1 x2 x3 σ r0 σ0 h
set_option maxHeartbeats 4000000 in
set_option maxRecDepth 20000 in
theorem kX12_edgeCount {x0 : Nat} {σ σ0 : js_S} {r0 : Int32} (t0 : ob_ nn 12 x0) (h : fX12_edgeCount fu x0 σ = some (r0, σ0)) : js_M l D B g nn yX12_edgeCount cX12_edgeCount 5 (some .int) 127 [.ref (B + x0)] σ (js_QI D B g nn r0 σ0) := by
  refine js_enter (by decide) (Nat.le_of_ble_eq_true rfl) ?_
  intro p e s m args below meth c C hr hk ls hl hT
  have hl : lv_has ls 5 [(0, .ref (B + x0))] := hl
  obtain ⟨hx, hb, hml, hown, ht, hK, hNw⟩ := id C
  obtain ⟨H, eH⟩ : ∃ H, H = s.heap := ⟨_, rfl⟩
  obtain ⟨locs, eL⟩ : ∃ z : List Loc, z = [] := ⟨_, rfl⟩
  rw [← eH, ← eL]
  rw [← eH, ← eL] at hT
  clear eH eL
  unfold fX12_edgeCount at h
  refine lv_aload_n hx hb dX12_edgeCount_0 rfl (lv_at hl 0 rfl) ?_
  obtain ⟨r1, σ1, hc1, h⟩ := bd_some h
  refine js_backI hT (js_runV C hT cfX12 t0 rfl mfX12_findPairs lk_X12_185 (kX12_findPairs t0 hc1) ⟨Nat.le_of_ble_eq_true rfl, Nat.le_of_ble_eq_true rfl⟩ rfl hl.1 rfl (Nat.le_of_ble_eq_true rfl) ⟨Nat.zero_le _, Nat.zero_le _⟩ dX12_edgeCount_1) (fun H locs hT => ?_)
  refine lv_istore_n (lv' := [(1, .int r1), (0, .ref (B + x0))]) hx hb dX12_edgeCount_4 rfl hl (by decide) rfl (fun ls hl => ?_)
  refine lv_iconst (v := 0) hx hb dX12_edgeCount_5 (by decide) ?_
  refine lv_istore_n (lv' := [(2, .int 0), (1, .int r1), (0, .ref (B + x0))]) hx hb dX12_edgeCount_6 rfl hl (by decide) rfl (fun ls hl => ?_)
  refine lv_iconst (v := 0) hx hb dX12_edgeCount_7 (by decide) ?_
  refine lv_istore_n (lv' := [(3, .int 0), (2, .int 0), (1, .int r1), (0, .ref (B + x0))]) hx hb dX12_edgeCount_8 rfl hl (by decide) rfl (fun ls hl => ?_)
  exact wX12_edgeCount_9 C hr hk _ _ _ _ _ _ _ _ h t0 H locs hT ls (lv_sub hl [3, 2, 1, 0] rfl)
set_option maxHeartbeats 4000000 in
set_option maxRecDepth 20000 in
theorem wX12_isValid_166 (C : js_C D g p m c cX12_isValid 6 s args RX12) (hr : meth.sig.returnType = (some .boolean)) (hk : meth.locks = false) (rc135 : Nat → Nat → Int32 → Int32 → js_S → Option (Int32 × js_S)) (hrc135 : ∀ (x0 : Nat) (x3 : Nat) (x4 : Int32) (x5 : Int32) (σ : js_S) (r0 : Int32) (σ0 : js_S), rc135 x0 x3 x4 x5 σ = some (r0, σ0) → ob_ nn 12 x0 → ob_ nn 22 x3 → js_at p l e 6 s m args below meth c D B g nn 135 6 [(0, .ref (B + x0)), (3, .ref (B + x3)), (4, .int x4), (5, .int x5)] [] σ (js_QI D B g nn r0 σ0)) : ∀ (x0 : Nat) (x3 : Nat) (x5 : Int32) (y0 : Int32) (y1 : Int32) (σ : js_S) (r0 : Int32) (σ0 : js_S), fX12_isValid_166 fu rc135 x0 x3 x5 y0 y1 σ = some (r0, σ0) → ob_ nn 12 x0 → ob_ nn 22 x3 → js_at p l e 6 s m args below meth c D B g nn 166 6 [(0, .ref (B + x0)), (3, .ref (B + x3)), (5, .int x5)] [.int y0, .int y1] σ (js_QI D B g nn r0 σ0) := by
  obtain ⟨hx, hb, hml, hown, ht, hK, hNw⟩ := id C
  intro x0 x3 x5 y0 y1 σ r0 σ0 h t0 t3 H locs hT ls hl
  unfold fX12_isValid_166 at h
  refine lv_iand hx hb dX12_isValid_166 ?_
  refine lv_istore (lv' := [(4, .int (y1 &&& y0)), (0, .ref (B + x0)), (3, .ref (B + x3)), (5, .int x5)]) hx hb dX12_isValid_167 hl (by decide) rfl (fun ls hl => ?_)
  refine lv_iinc (v := x5 + 1) (lv' := [(5, .int (x5 + 1)), (4, .int (y1 &&& y0)), (0, .ref (B + x0)), (3, .ref (B + x3))]) hx hb dX12_isValid_169 hl (k := 3) rfl rfl (by decide) rfl (fun ls hl => ?_)
  refine lv_goto (tgt := 135) hx hb dX12_isValid_172 (by decide) ?_
  exact hrc135 _ _ _ _ _ _ _ h t0 t3 H locs hT ls (lv_sub hl [2, 3, 1, 0] rfl)
set_option maxHeartbeats 4000000 in
set_option maxRecDepth 20000 in
theorem wX12_isValid_161 (C : js_C D g p m c cX12_isValid 6 s args RX12) (hr : meth.sig.returnType = (some .boolean)) (hk : meth.locks = false) (rc135 : Nat → Nat → Int32 → Int32 → js_S → Option (Int32 × js_S)) (hrc135 : ∀ (x0 : Nat) (x3 : Nat) (x4 : Int32) (x5 : Int32) (σ : js_S) (r0 : Int32) (σ0 : js_S), rc135 x0 x3 x4 x5 σ = some (r0, σ0) → ob_ nn 12 x0 → ob_ nn 22 x3 → js_at p l e 6 s m args below meth c D B g nn 135 6 [(0, .ref (B + x0)), (3, .ref (B + x3)), (4, .int x4), (5, .int x5)] [] σ (js_QI D B g nn r0 σ0)) : ∀ (x0 : Nat) (x3 : Nat) (x5 : Int32) (y0 : Int32) (σ : js_S) (r0 : Int32) (σ0 : js_S), fX12_isValid_161 fu rc135 x0 x3 x5 y0 σ = some (r0, σ0) → ob_ nn 12 x0 → ob_ nn 22 x3 → js_at p l e 6 s m args below meth c D B g nn 161 6 [(0, .ref (B + x0)), (3, .ref (B + x3)), (5, .int x5)] [.int y0] σ (js_QI D B g nn r0 σ0) := by
  obtain ⟨hx, hb, hml, hown, ht, hK, hNw⟩ := id C
  intro x0 x3 x5 y0 σ r0 σ0 h t0 t3 H locs hT ls hl
  unfold fX12_isValid_161 at h
  refine lv_iconst (v := 1) hx hb dX12_isValid_161 (by decide) ?_
  refine lv_goto (tgt := 166) hx hb dX12_isValid_162 (by decide) ?_
  exact wX12_isValid_166 C hr hk rc135 hrc135 _ _ _ _ _ _ _ _ h t0 t3 H locs hT ls (lv_sub hl [0, 1, 2] rfl)
set_option maxHeartbeats 4000000 in
set_option maxRecDepth 20000 in
theorem wX12_isValid_135b (C : js_C D g p m c cX12_isValid 6 s args RX12) (hr : meth.sig.returnType = (some .boolean)) (hk : meth.locks = false) (rc135 : Nat → Nat → Int32 → Int32 → js_S → Option (Int32 × js_S)) (hrc135 : ∀ (x0 : Nat) (x3 : Nat) (x4 : Int32) (x5 : Int32) (σ : js_S) (r0 : Int32) (σ0 : js_S), rc135 x0 x3 x4 x5 σ = some (r0, σ0) → ob_ nn 12 x0 → ob_ nn 22 x3 → js_at p l e 6 s m args below meth c D B g nn 135 6 [(0, .ref (B + x0)), (3, .ref (B + x3)), (4, .int x4), (5, .int x5)] [] σ (js_QI D B g nn r0 σ0)) : ∀ (x0 : Nat) (x3 : Nat) (x4 : Int32) (x5 : Int32) (σ : js_S) (r0 : Int32) (σ0 : js_S), fX12_isValid_135b fu rc135 x0 x3 x4 x5 σ = some (r0, σ0) → ob_ nn 12 x0 → ob_ nn 22 x3 → js_at p l e 6 s m args below meth c D B g nn 135 6 [(0, .ref (B + x0)), (3, .ref (B + x3)), (4, .int x4), (5, .int x5)] [] σ (js_QI D B g nn r0 σ0) := by
  obtain ⟨hx, hb, hml, hown, ht, hK, hNw⟩ := id C
  intro x0 x3 x4 x5 σ r0 σ0 h t0 t3 H locs hT ls hl
  unfold fX12_isValid_135b at h
  refine lv_iload hx hb dX12_isValid_135 (lv_at hl 3 rfl) ?_
  refine lv_iconst (v := 3) hx hb dX12_isValid_137 (by decide) ?_
  refine lv_icmp_ge (tgt := 175) hx hb dX12_isValid_138 (by decide) (fun c1 => ?_) (fun c1 => ?_)
  · rw [if_pos c1] at h
    refine lv_iload hx hb dX12_isValid_175 (lv_at hl 2 rfl) ?_
    obtain ⟨g2, h⟩ := gd_some _ h
    obtain ⟨rfl, rfl⟩ := js_rt h
    exact js_zret C hT hr hk g2 dX12_isValid_177
  · rw [if_neg c1] at h
    refine lv_iload hx hb dX12_isValid_141 (lv_at hl 2 rfl) ?_
    refine lv_aload_n hx hb dX12_isValid_143 rfl (lv_at hl 1 rfl) ?_
    refine lv_iload hx hb dX12_isValid_144 (lv_at hl 3 rfl) ?_
    obtain ⟨g3, h⟩ := gd_some _ h
    refine js_zald C hT t3 g3 dX12_isValid_146 ?_
    refine lv_if_ne (tgt := 161) hx hb dX12_isValid_147 (by decide) (fun c4 => ?_) (fun c4 => ?_)
    · rw [if_neg c4] at h
      exact wX12_isValid_161 C hr hk rc135 hrc135 _ _ _ _ _ _ _ h t0 t3 H locs hT ls (lv_sub hl [0, 1, 3] rfl)
    · rw [if_pos c4] at h
      refine lv_aload_n hx hb dX12_isValid_150 rfl (lv_at hl 0 rfl) ?_
      refine js_gR C hT cfX12 t0 31 (by decide) (q := 20) rfl (by decide) lk_X12_82 dX12_isValid_151 (fun t5a => ?_)
      refine lv_iload hx hb dX12_isValid_154 (lv_at hl 3 rfl) ?_
      obtain ⟨g6, h⟩ := gd_some _ h
      refine js_iald C hT t5a g6 dX12_isValid_156 ?_
      refine lv_iconst (v := 1) hx hb dX12_isValid_157 (by decide) ?_
      refine lv_icmp_ne (tgt := 165) hx hb dX12_isValid_158 (by decide) (fun c7 => ?_) (fun c7 => ?_)
      · rw [if_neg c7] at h
        refine lv_iconst (v := 0) hx hb dX12_isValid_165 (by decide) ?_
        exact wX12_isValid_166 C hr hk rc135 hrc135 _ _ _ _ _ _ _ _ h t0 t3 H locs hT ls (lv_sub hl [0, 1, 3] rfl)
      · rw [if_pos c7] at h
        exact wX12_isValid_161 C hr hk rc135 hrc135 _ _ _ _ _ _ _ h t0 t3 H locs hT ls (lv_sub hl [0, 1, 3] rfl)
set_option maxHeartbeats 4000000 in
set_option maxRecDepth 20000 in
theorem wX12_isValid_135 (C : js_C D g p m c cX12_isValid 6 s args RX12) (hr : meth.sig.returnType = (some .boolean)) (hk : meth.locks = false) : ∀ (k : Nat), ∀ (x0 : Nat) (x3 : Nat) (x4 : Int32) (x5 : Int32) (σ : js_S) (r0 : Int32) (σ0 : js_S), fX12_isValid_135 fu k x0 x3 x4 x5 σ = some (r0, σ0) → ob_ nn 12 x0 → ob_ nn 22 x3 → js_at p l e 6 s m args below meth c D B g nn 135 6 [(0, .ref (B + x0)), (3, .ref (B + x3)), (4, .int x4), (5, .int x5)] [] σ (js_QI D B g nn r0 σ0) := by
  intro k
  induction k with
  | zero =>
    intro x0 x3 x4 x5 σ r0 σ0 h
    cases h
  | succ k ih =>
    intro x0 x3 x4 x5 σ r0 σ0 h
    exact wX12_isValid_135b C hr hk (fX12_isValid_135 fu k) ih x0 x3 x4 x5 σ r0 σ0 h
set_option maxHeartbeats 4000000 in
set_option maxRecDepth 20000 in
theorem wX12_isValid_123 (C : js_C D g p m c cX12_isValid 6 s args RX12) (hr : meth.sig.returnType = (some .boolean)) (hk : meth.locks = false) (rc30 : Nat → Int32 → Int32 → Nat → Int32 → js_S → Option (Int32 × js_S)) (hrc30 : ∀ (x0 : Nat) (x1 : Int32) (x2 : Int32) (x3 : Nat) (x4 : Int32) (σ : js_S) (r0 : Int32) (σ0 : js_S), rc30 x0 x1 x2 x3 x4 σ = some (r0, σ0) → ob_ nn 12 x0 → ob_ nn 22 x3 → js_at p l e 6 s m args below meth c D B g nn 30 6 [(0, .ref (B + x0)), (1, .int x1), (2, .int x2), (3, .ref (B + x3)), (4, .int x4)] [] σ (js_QI D B g nn r0 σ0)) : ∀ (x0 : Nat) (x1 : Int32) (x2 : Int32) (x3 : Nat) (x4 : Int32) (σ : js_S) (r0 : Int32) (σ0 : js_S), fX12_isValid_123 fu rc30 x0 x1 x2 x3 x4 σ = some (r0, σ0) → ob_ nn 12 x0 → ob_ nn 22 x3 → js_at p l e 6 s m args below meth c D B g nn 123 6 [(0, .ref (B + x0)), (1, .int x1), (2, .int x2), (3, .ref (B + x3)), (4, .int x4)] [] σ (js_QI D B g nn r0 σ0) := by
  obtain ⟨hx, hb, hml, hown, ht, hK, hNw⟩ := id C
  intro x0 x1 x2 x3 x4 σ r0 σ0 h t0 t3 H locs hT ls hl
  unfold fX12_isValid_123 at h
  refine lv_iinc (v := x4 + 1) (lv' := [(4, .int (x4 + 1)), (0, .ref (B + x0)), (1, .int x1), (2, .int x2), (3, .ref (B + x3))]) hx hb dX12_isValid_123 hl (k := 4) rfl rfl (by decide) rfl (fun ls hl => ?_)
  refine lv_goto (tgt := 30) hx hb dX12_isValid_126 (by decide) ?_
  exact hrc30 _ _ _ _ _ _ _ _ h t0 t3 H locs hT ls (lv_sub hl [1, 2, 3, 4, 0] rfl)
set_option maxHeartbeats 4000000 in
set_option maxRecDepth 20000 in
theorem wX12_isValid_103 (C : js_C D g p m c cX12_isValid 6 s args RX12) (hr : meth.sig.returnType = (some .boolean)) (hk : meth.locks = false) (rc30 : Nat → Int32 → Int32 → Nat → Int32 → js_S → Option (Int32 × js_S)) (hrc30 : ∀ (x0 : Nat) (x1 : Int32) (x2 : Int32) (x3 : Nat) (x4 : Int32) (σ : js_S) (r0 : Int32) (σ0 : js_S), rc30 x0 x1 x2 x3 x4 σ = some (r0, σ0) → ob_ nn 12 x0 → ob_ nn 22 x3 → js_at p l e 6 s m args below meth c D B g nn 30 6 [(0, .ref (B + x0)), (1, .int x1), (2, .int x2), (3, .ref (B + x3)), (4, .int x4)] [] σ (js_QI D B g nn r0 σ0)) : ∀ (x0 : Nat) (x1 : Int32) (x3 : Nat) (x4 : Int32) (y0 : Int32) (y1 : Int32) (σ : js_S) (r0 : Int32) (σ0 : js_S), fX12_isValid_103 fu rc30 x0 x1 x3 x4 y0 y1 σ = some (r0, σ0) → ob_ nn 12 x0 → ob_ nn 22 x3 → js_at p l e 6 s m args below meth c D B g nn 103 6 [(0, .ref (B + x0)), (1, .int x1), (3, .ref (B + x3)), (4, .int x4)] [.int y0, .int y1] σ (js_QI D B g nn r0 σ0) := by
  obtain ⟨hx, hb, hml, hown, ht, hK, hNw⟩ := id C
  intro x0 x1 x3 x4 y0 y1 σ r0 σ0 h t0 t3 H locs hT ls hl
  unfold fX12_isValid_103 at h
  refine lv_ior hx hb dX12_isValid_103 ?_
  refine lv_istore_n (lv' := [(2, .int (y1 ||| y0)), (0, .ref (B + x0)), (1, .int x1), (3, .ref (B + x3)), (4, .int x4)]) hx hb dX12_isValid_104 rfl hl (by decide) rfl (fun ls hl => ?_)
  refine lv_aload_n hx hb dX12_isValid_105 rfl (lv_at hl 3 rfl) ?_
  refine lv_aload_n hx hb dX12_isValid_106 rfl (lv_at hl 1 rfl) ?_
  refine lv_iload hx hb dX12_isValid_107 (lv_at hl 4 rfl) ?_
  obtain ⟨r1, σ1, hc1, h⟩ := bd_some h
  refine js_backI hT (js_runV C hT cfX12 t0 rfl mfX12_sourceOf lk_X12_191 (kX12_sourceOf t0 hc1) ⟨Nat.le_of_ble_eq_true rfl, Nat.le_of_ble_eq_true rfl⟩ rfl hl.1 rfl (Nat.le_of_ble_eq_true rfl) ⟨Nat.zero_le _, Nat.zero_le _⟩ dX12_isValid_109) (fun H locs hT => ?_)
  refine lv_iconst (v := 1) hx hb dX12_isValid_112 (by decide) ?_
  obtain ⟨g2, h⟩ := gd_some _ h
  obtain ⟨σ2, e2, h⟩ := lt_some h
  refine js_zast C hT t3 g2 dX12_isValid_113 (fun H locs hT => ?_)
  rw [e2] at hT
  refine lv_aload_n hx hb dX12_isValid_114 rfl (lv_at hl 3 rfl) ?_
  refine lv_aload_n hx hb dX12_isValid_115 rfl (lv_at hl 1 rfl) ?_
  refine lv_iload hx hb dX12_isValid_116 (lv_at hl 4 rfl) ?_
  obtain ⟨r3, σ3, hc3, h⟩ := bd_some h
  refine js_backI hT (js_runV C hT cfX12 t0 rfl mfX12_targetOf lk_X12_194 (kX12_targetOf t0 hc3) ⟨Nat.le_of_ble_eq_true rfl, Nat.le_of_ble_eq_true rfl⟩ rfl hl.1 rfl (Nat.le_of_ble_eq_true rfl) ⟨Nat.zero_le _, Nat.zero_le _⟩ dX12_isValid_118) (fun H locs hT => ?_)
  refine lv_iconst (v := 1) hx hb dX12_isValid_121 (by decide) ?_
  obtain ⟨g4, h⟩ := gd_some _ h
  obtain ⟨σ4, e4, h⟩ := lt_some h
  refine js_zast C hT t3 g4 dX12_isValid_122 (fun H locs hT => ?_)
  rw [e4] at hT
  exact wX12_isValid_123 C hr hk rc30 hrc30 _ _ _ _ _ _ _ _ h t0 t3 H locs hT ls (lv_sub hl [1, 2, 0, 3, 4] rfl)
set_option maxHeartbeats 4000000 in
set_option maxRecDepth 20000 in
theorem wX12_isValid_30b (C : js_C D g p m c cX12_isValid 6 s args RX12) (hr : meth.sig.returnType = (some .boolean)) (hk : meth.locks = false) (rc30 : Nat → Int32 → Int32 → Nat → Int32 → js_S → Option (Int32 × js_S)) (hrc30 : ∀ (x0 : Nat) (x1 : Int32) (x2 : Int32) (x3 : Nat) (x4 : Int32) (σ : js_S) (r0 : Int32) (σ0 : js_S), rc30 x0 x1 x2 x3 x4 σ = some (r0, σ0) → ob_ nn 12 x0 → ob_ nn 22 x3 → js_at p l e 6 s m args below meth c D B g nn 30 6 [(0, .ref (B + x0)), (1, .int x1), (2, .int x2), (3, .ref (B + x3)), (4, .int x4)] [] σ (js_QI D B g nn r0 σ0)) : ∀ (x0 : Nat) (x1 : Int32) (x2 : Int32) (x3 : Nat) (x4 : Int32) (σ : js_S) (r0 : Int32) (σ0 : js_S), fX12_isValid_30b fu rc30 x0 x1 x2 x3 x4 σ = some (r0, σ0) → ob_ nn 12 x0 → ob_ nn 22 x3 → js_at p l e 6 s m args below meth c D B g nn 30 6 [(0, .ref (B + x0)), (1, .int x1), (2, .int x2), (3, .ref (B + x3)), (4, .int x4)] [] σ (js_QI D B g nn r0 σ0) := by
  obtain ⟨hx, hb, hml, hown, ht, hK, hNw⟩ := id C
  intro x0 x1 x2 x3 x4 σ r0 σ0 h t0 t3 H locs hT ls hl
  unfold fX12_isValid_30b at h
  refine lv_iload hx hb dX12_isValid_30 (lv_at hl 4 rfl) ?_
  refine lv_aload_n hx hb dX12_isValid_32 rfl (lv_at hl 0 rfl) ?_
  refine js_gI C hT cfX12 t0 23 (by decide) rfl lk_X12_211 dX12_isValid_33 ?_
  refine lv_icmp_ge (tgt := 129) hx hb dX12_isValid_36 (by decide) (fun c1 => ?_) (fun c1 => ?_)
  · rw [if_pos c1] at h
    refine lv_iload_n hx hb dX12_isValid_129 rfl (lv_at hl 2 rfl) ?_
    refine lv_istore (lv' := [(4, .int x2), (0, .ref (B + x0)), (1, .int x1), (2, .int x2), (3, .ref (B + x3))]) hx hb dX12_isValid_130 hl (by decide) rfl (fun ls hl => ?_)
    refine lv_iconst (v := 0) hx hb dX12_isValid_132 (by decide) ?_
    refine lv_istore (lv' := [(5, .int 0), (4, .int x2), (0, .ref (B + x0)), (1, .int x1), (2, .int x2), (3, .ref (B + x3))]) hx hb dX12_isValid_133 hl (by decide) rfl (fun ls hl => ?_)
    exact wX12_isValid_135 C hr hk _ _ _ _ _ _ _ _ h t0 t3 H locs hT ls (lv_sub hl [2, 5, 1, 0] rfl)
  · rw [if_neg c1] at h
    refine lv_aload_n hx hb dX12_isValid_39 rfl (lv_at hl 0 rfl) ?_
    refine js_gR C hT cfX12 t0 22 (by decide) (q := 20) rfl (by decide) lk_X12_63 dX12_isValid_40 (fun t2a => ?_)
    refine lv_iload hx hb dX12_isValid_43 (lv_at hl 4 rfl) ?_
    obtain ⟨g3, h⟩ := gd_some _ h
    refine js_iald C hT t2a g3 dX12_isValid_45 ?_
    refine lv_iload_n hx hb dX12_isValid_46 rfl (lv_at hl 1 rfl) ?_
    refine lv_icmp_ne (tgt := 123) hx hb dX12_isValid_47 (by decide) (fun c4 => ?_) (fun c4 => ?_)
    · rw [if_neg c4] at h
      exact wX12_isValid_123 C hr hk rc30 hrc30 _ _ _ _ _ _ _ _ h t0 t3 H locs hT ls (lv_sub hl [0, 1, 2, 3, 4] rfl)
    · rw [if_pos c4] at h
      refine lv_aload_n hx hb dX12_isValid_50 rfl (lv_at hl 0 rfl) ?_
      refine lv_iload hx hb dX12_isValid_51 (lv_at hl 4 rfl) ?_
      refine lv_aload_n hx hb dX12_isValid_53 rfl (lv_at hl 0 rfl) ?_
      refine js_gR C hT cfX12 t0 31 (by decide) (q := 20) rfl (by decide) lk_X12_82 dX12_isValid_54 (fun t5a => ?_)
      refine lv_aload_n hx hb dX12_isValid_57 rfl (lv_at hl 0 rfl) ?_
      refine lv_iload hx hb dX12_isValid_58 (lv_at hl 4 rfl) ?_
      obtain ⟨r6, σ6, hc6, h⟩ := bd_some h
      refine js_backI hT (js_runV C hT cfX12 t0 rfl mfX12_sourceOf lk_X12_191 (kX12_sourceOf t0 hc6) ⟨Nat.le_of_ble_eq_true rfl, Nat.le_of_ble_eq_true rfl⟩ rfl hl.1 rfl (Nat.le_of_ble_eq_true rfl) ⟨Nat.zero_le _, Nat.zero_le _⟩ dX12_isValid_60) (fun H locs hT => ?_)
      obtain ⟨g7, h⟩ := gd_some _ h
      refine js_iald C hT t5a g7 dX12_isValid_63 ?_
      refine lv_iconst (v := 1) hx hb dX12_isValid_64 (by decide) ?_
      refine lv_isub hx hb dX12_isValid_65 ?_
      refine lv_aload_n hx hb dX12_isValid_66 rfl (lv_at hl 0 rfl) ?_
      refine js_gR C hT cfX12 t0 31 (by decide) (q := 20) rfl (by decide) lk_X12_82 dX12_isValid_67 (fun t8a => ?_)
      refine lv_aload_n hx hb dX12_isValid_70 rfl (lv_at hl 0 rfl) ?_
      refine lv_iload hx hb dX12_isValid_71 (lv_at hl 4 rfl) ?_
      obtain ⟨r9, σ9, hc9, h⟩ := bd_some h
      refine js_backI hT (js_runV C hT cfX12 t0 rfl mfX12_targetOf lk_X12_194 (kX12_targetOf t0 hc9) ⟨Nat.le_of_ble_eq_true rfl, Nat.le_of_ble_eq_true rfl⟩ rfl hl.1 rfl (Nat.le_of_ble_eq_true rfl) ⟨Nat.zero_le _, Nat.zero_le _⟩ dX12_isValid_73) (fun H locs hT => ?_)
      obtain ⟨g10, h⟩ := gd_some _ h
      refine js_iald C hT t8a g10 dX12_isValid_76 ?_
      refine lv_iconst (v := 1) hx hb dX12_isValid_77 (by decide) ?_
      refine lv_isub hx hb dX12_isValid_78 ?_
      obtain ⟨r11, σ11, hc11, h⟩ := bd_some h
      refine js_backI hT (js_runV C hT cfX12 t0 rfl mfX12_relation lk_X12_229 (kX12_relation t0 hc11) ⟨Nat.le_of_ble_eq_true rfl, Nat.le_of_ble_eq_true rfl⟩ rfl hl.1 rfl (Nat.le_of_ble_eq_true rfl) ⟨Nat.zero_le _, Nat.zero_le _⟩ dX12_isValid_79) (fun H locs hT => ?_)
      refine lv_istore (lv' := [(5, .int r11), (0, .ref (B + x0)), (1, .int x1), (2, .int x2), (3, .ref (B + x3)), (4, .int x4)]) hx hb dX12_isValid_82 hl (by decide) rfl (fun ls hl => ?_)
      refine lv_iload hx hb dX12_isValid_84 (lv_at hl 0 rfl) ?_
      refine lv_if_ne (tgt := 91) hx hb dX12_isValid_86 (by decide) (fun c12 => ?_) (fun c12 => ?_)
      · rw [if_neg c12] at h
        refine lv_iload_n hx hb dX12_isValid_91 rfl (lv_at hl 3 rfl) ?_
        refine lv_iload hx hb dX12_isValid_92 (lv_at hl 0 rfl) ?_
        refine lv_iconst (v := 2) hx hb dX12_isValid_94 (by decide) ?_
        refine lv_icmp_ne (tgt := 102) hx hb dX12_isValid_95 (by decide) (fun c13 => ?_) (fun c13 => ?_)
        · rw [if_neg c13] at h
          refine lv_iconst (v := 0) hx hb dX12_isValid_102 (by decide) ?_
          exact wX12_isValid_103 C hr hk rc30 hrc30 _ _ _ _ _ _ _ _ _ h t0 t3 H locs hT ls (lv_sub hl [1, 2, 4, 5] rfl)
        · rw [if_pos c13] at h
          refine lv_iconst (v := 1) hx hb dX12_isValid_98 (by decide) ?_
          refine lv_goto (tgt := 103) hx hb dX12_isValid_99 (by decide) ?_
          exact wX12_isValid_103 C hr hk rc30 hrc30 _ _ _ _ _ _ _ _ _ h t0 t3 H locs hT ls (lv_sub hl [1, 2, 4, 5] rfl)
      · rw [if_pos c12] at h
        refine lv_iconst (v := 0) hx hb dX12_isValid_89 (by decide) ?_
        obtain ⟨rfl, rfl⟩ := js_rt h
        exact js_zret C hT hr hk rfl dX12_isValid_90
set_option maxHeartbeats 4000000 in
set_option maxRecDepth 20000 in
theorem wX12_isValid_30 (C : js_C D g p m c cX12_isValid 6 s args RX12) (hr : meth.sig.returnType = (some .boolean)) (hk : meth.locks = false) : ∀ (k : Nat), ∀ (x0 : Nat) (x1 : Int32) (x2 : Int32) (x3 : Nat) (x4 : Int32) (σ : js_S) (r0 : Int32) (σ0 : js_S), fX12_isValid_30 fu k x0 x1 x2 x3 x4 σ = some (r0, σ0) → ob_ nn 12 x0 → ob_ nn 22 x3 → js_at p l e 6 s m args below meth c D B g nn 30 6 [(0, .ref (B + x0)), (1, .int x1), (2, .int x2), (3, .ref (B + x3)), (4, .int x4)] [] σ (js_QI D B g nn r0 σ0) := by
  intro k
  induction k with
  | zero =>
    intro x0 x1 x2 x3 x4 σ r0 σ0 h
    cases h
  | succ k ih =>
    intro x0 x1 x2 x3 x4 σ r0 σ0 h
    exact wX12_isValid_30b C hr hk (fX12_isValid_30 fu k) ih x0 x1 x2 x3 x4 σ r0 σ0 h
set_option maxHeartbeats 4000000 in
set_option maxRecDepth 20000 in
theorem wX12_isValid_10b (C : js_C D g p m c cX12_isValid 6 s args RX12) (hr : meth.sig.returnType = (some .boolean)) (hk : meth.locks = false) (rc10 : Nat → Int32 → Int32 → Nat → Int32 → js_S → Option (Int32 × js_S)) (hrc10 : ∀ (x0 : Nat) (x1 : Int32) (x2 : Int32) (x3 : Nat) (x4 : Int32) (σ : js_S) (r0 : Int32) (σ0 : js_S), rc10 x0 x1 x2 x3 x4 σ = some (r0, σ0) → ob_ nn 12 x0 → ob_ nn 22 x3 → js_at p l e 6 s m args below meth c D B g nn 10 6 [(0, .ref (B + x0)), (1, .int x1), (2, .int x2), (3, .ref (B + x3)), (4, .int x4)] [] σ (js_QI D B g nn r0 σ0)) : ∀ (x0 : Nat) (x1 : Int32) (x2 : Int32) (x3 : Nat) (x4 : Int32) (σ : js_S) (r0 : Int32) (σ0 : js_S), fX12_isValid_10b fu rc10 x0 x1 x2 x3 x4 σ = some (r0, σ0) → ob_ nn 12 x0 → ob_ nn 22 x3 → js_at p l e 6 s m args below meth c D B g nn 10 6 [(0, .ref (B + x0)), (1, .int x1), (2, .int x2), (3, .ref (B + x3)), (4, .int x4)] [] σ (js_QI D B g nn r0 σ0) := by
  obtain ⟨hx, hb, hml, hown, ht, hK, hNw⟩ := id C
  intro x0 x1 x2 x3 x4 σ r0 σ0 h t0 t3 H locs hT ls hl
  unfold fX12_isValid_10b at h
  refine lv_iload hx hb dX12_isValid_10 (lv_at hl 4 rfl) ?_
  refine lv_iconst (v := 3) hx hb dX12_isValid_12 (by decide) ?_
  refine lv_icmp_ge (tgt := 27) hx hb dX12_isValid_13 (by decide) (fun c1 => ?_) (fun c1 => ?_)
  · rw [if_pos c1] at h
    refine lv_iconst (v := 0) hx hb dX12_isValid_27 (by decide) ?_
    refine lv_istore (lv' := [(4, .int 0), (0, .ref (B + x0)), (1, .int x1), (2, .int x2), (3, .ref (B + x3))]) hx hb dX12_isValid_28 hl (by decide) rfl (fun ls hl => ?_)
    exact wX12_isValid_30 C hr hk _ _ _ _ _ _ _ _ _ h t0 t3 H locs hT ls (lv_sub hl [1, 2, 3, 4, 0] rfl)
  · rw [if_neg c1] at h
    refine lv_aload_n hx hb dX12_isValid_16 rfl (lv_at hl 3 rfl) ?_
    refine lv_iload hx hb dX12_isValid_17 (lv_at hl 4 rfl) ?_
    refine lv_iconst (v := 0) hx hb dX12_isValid_19 (by decide) ?_
    obtain ⟨g2, h⟩ := gd_some _ h
    obtain ⟨σ2, e2, h⟩ := lt_some h
    refine js_zast C hT t3 g2 dX12_isValid_20 (fun H locs hT => ?_)
    rw [e2] at hT
    refine lv_iinc (v := x4 + 1) (lv' := [(4, .int (x4 + 1)), (0, .ref (B + x0)), (1, .int x1), (2, .int x2), (3, .ref (B + x3))]) hx hb dX12_isValid_21 hl (k := 4) rfl rfl (by decide) rfl (fun ls hl => ?_)
    refine lv_goto (tgt := 10) hx hb dX12_isValid_24 (by decide) ?_
    exact hrc10 _ _ _ _ _ _ _ _ h t0 t3 H locs hT ls (lv_sub hl [1, 2, 3, 4, 0] rfl)
set_option maxHeartbeats 4000000 in
set_option maxRecDepth 20000 in
theorem wX12_isValid_10 (C : js_C D g p m c cX12_isValid 6 s args RX12) (hr : meth.sig.returnType = (some .boolean)) (hk : meth.locks = false) : ∀ (k : Nat), ∀ (x0 : Nat) (x1 : Int32) (x2 : Int32) (x3 : Nat) (x4 : Int32) (σ : js_S) (r0 : Int32) (σ0 : js_S), fX12_isValid_10 fu k x0 x1 x2 x3 x4 σ = some (r0, σ0) → ob_ nn 12 x0 → ob_ nn 22 x3 → js_at p l e 6 s m args below meth c D B g nn 10 6 [(0, .ref (B + x0)), (1, .int x1), (2, .int x2), (3, .ref (B + x3)), (4, .int x4)] [] σ (js_QI D B g nn r0 σ0) := by
  intro k
  induction k with
  | zero =>
    intro x0 x1 x2 x3 x4 σ r0 σ0 h
    cases h
  | succ k ih =>
    intro x0 x1 x2 x3 x4 σ r0 σ0 h
    exact wX12_isValid_10b C hr hk (fX12_isValid_10 fu k) ih x0 x1 x2 x3 x4 σ r0 σ0 h
set_option maxHeartbeats 4000000 in
set_option maxRecDepth 20000 in
theorem kX12_isValid {x0 : Nat} {x1 : Int32} {σ σ0 : js_S} {r0 : Int32} (t0 : ob_ nn 12 x0) (h : fX12_isValid fu x0 x1 σ = some (r0, σ0)) : js_M l D B g nn yX12_isValid cX12_isValid 6 (some .boolean) 6 [.ref (B + x0), .int x1] σ (js_QI D B g nn r0 σ0) := by
  refine js_enter (by decide) (Nat.le_of_ble_eq_true rfl) ?_
  intro p e s m args below meth c C hr hk ls hl hT
  have hl : lv_has ls 6 [(0, .ref (B + x0)), (1, .int x1)] := hl
  obtain ⟨hx, hb, hml, hown, ht, hK, hNw⟩ := id C
  obtain ⟨H, eH⟩ : ∃ H, H = s.heap := ⟨_, rfl⟩
  obtain ⟨locs, eL⟩ : ∃ z : List Loc, z = [] := ⟨_, rfl⟩
  rw [← eH, ← eL]
  rw [← eH, ← eL] at hT
  clear eH eL
  unfold fX12_isValid at h
  refine lv_iconst (v := 0) hx hb dX12_isValid_0 (by decide) ?_
  refine lv_istore_n (lv' := [(2, .int 0), (0, .ref (B + x0)), (1, .int x1)]) hx hb dX12_isValid_1 rfl hl (by decide) rfl (fun ls hl => ?_)
  refine lv_aload_n hx hb dX12_isValid_2 rfl (lv_at hl 1 rfl) ?_
  refine js_gR C hT cfX12 t0 32 (by decide) (q := 22) rfl (by decide) lk_X12_85 dX12_isValid_3 (fun t1a => ?_)
  refine lv_astore_n (lv' := [(3, .ref (B + (σ.2.2 x0 32))), (2, .int 0), (0, .ref (B + x0)), (1, .int x1)]) hx hb dX12_isValid_6 rfl hl (by decide) rfl (fun ls hl => ?_)
  refine lv_iconst (v := 0) hx hb dX12_isValid_7 (by decide) ?_
  refine lv_istore (lv' := [(4, .int 0), (3, .ref (B + (σ.2.2 x0 32))), (2, .int 0), (0, .ref (B + x0)), (1, .int x1)]) hx hb dX12_isValid_8 hl (by decide) rfl (fun ls hl => ?_)
  exact wX12_isValid_10 C hr hk _ _ _ _ _ _ _ _ _ h t0 t1a H locs hT ls (lv_sub hl [3, 4, 2, 1, 0] rfl)
set_option maxHeartbeats 4000000 in
set_option maxRecDepth 20000 in
theorem wX12_findProjection_27b (C : js_C D g p m c cX12_findProjection 5 s args RX12) (hr : meth.sig.returnType = (some .int)) (hk : meth.locks = false) (rc2 : Nat → Int32 → Int32 → js_S → Option (Int32 × js_S)) (hrc2 : ∀ (x0 : Nat) (x1 : Int32) (x2 : Int32) (σ : js_S) (r0 : Int32) (σ0 : js_S), rc2 x0 x1 x2 σ = some (r0, σ0) → ob_ nn 12 x0 → js_at p l e 7 s m args below meth c D B g nn 2 5 [(0, .ref (B + x0)), (1, .int x1), (2, .int x2)] [] σ (js_QI D B g nn r0 σ0)) (rc14 : Nat → Int32 → Int32 → Int32 → js_S → Option (Int32 × js_S)) (hrc14 : ∀ (x0 : Nat) (x1 : Int32) (x2 : Int32) (x3 : Int32) (σ : js_S) (r0 : Int32) (σ0 : js_S), rc14 x0 x1 x2 x3 σ = some (r0, σ0) → ob_ nn 12 x0 → js_at p l e 7 s m args below meth c D B g nn 14 5 [(0, .ref (B + x0)), (1, .int x1), (2, .int x2), (3, .int x3)] [] σ (js_QI D B g nn r0 σ0)) (rc27 : Nat → Int32 → Int32 → Int32 → Int32 → js_S → Option (Int32 × js_S)) (hrc27 : ∀ (x0 : Nat) (x1 : Int32) (x2 : Int32) (x3 : Int32) (x4 : Int32) (σ : js_S) (r0 : Int32) (σ0 : js_S), rc27 x0 x1 x2 x3 x4 σ = some (r0, σ0) → ob_ nn 12 x0 → js_at p l e 7 s m args below meth c D B g nn 27 5 [(0, .ref (B + x0)), (1, .int x1), (2, .int x2), (3, .int x3), (4, .int x4)] [] σ (js_QI D B g nn r0 σ0)) : ∀ (x0 : Nat) (x1 : Int32) (x2 : Int32) (x3 : Int32) (x4 : Int32) (σ : js_S) (r0 : Int32) (σ0 : js_S), fX12_findProjection_27b fu rc2 rc14 rc27 x0 x1 x2 x3 x4 σ = some (r0, σ0) → ob_ nn 12 x0 → js_at p l e 7 s m args below meth c D B g nn 27 5 [(0, .ref (B + x0)), (1, .int x1), (2, .int x2), (3, .int x3), (4, .int x4)] [] σ (js_QI D B g nn r0 σ0) := by
  obtain ⟨hx, hb, hml, hown, ht, hK, hNw⟩ := id C
  intro x0 x1 x2 x3 x4 σ r0 σ0 h t0 H locs hT ls hl
  unfold fX12_findProjection_27b at h
  refine lv_iload hx hb dX12_findProjection_27 (lv_at hl 4 rfl) ?_
  refine lv_aload_n hx hb dX12_findProjection_29 rfl (lv_at hl 0 rfl) ?_
  refine js_gR C hT cfX12 t0 0 (by decide) (q := 20) rfl (by decide) lk_X12_9 dX12_findProjection_30 (fun t1a => ?_)
  refine lv_iconst (v := 2) hx hb dX12_findProjection_33 (by decide) ?_
  obtain ⟨g2, h⟩ := gd_some _ h
  refine js_iald C hT t1a g2 dX12_findProjection_34 ?_
  refine lv_icmp_gt (tgt := 87) hx hb dX12_findProjection_35 (by decide) (fun c3 => ?_) (fun c3 => ?_)
  · rw [if_pos c3] at h
    refine lv_iinc (v := x3 + 1) (lv' := [(3, .int (x3 + 1)), (0, .ref (B + x0)), (1, .int x1), (2, .int x2), (4, .int x4)]) hx hb dX12_findProjection_87 hl (k := 3) rfl rfl (by decide) rfl (fun ls hl => ?_)
    refine lv_goto (tgt := 14) hx hb dX12_findProjection_90 (by decide) ?_
    exact hrc14 _ _ _ _ _ _ _ h t0 H locs hT ls (lv_sub hl [1, 2, 3, 0] rfl)
  · rw [if_neg c3] at h
    refine lv_aload_n hx hb dX12_findProjection_38 rfl (lv_at hl 0 rfl) ?_
    refine js_gR C hT cfX12 t0 31 (by decide) (q := 20) rfl (by decide) lk_X12_82 dX12_findProjection_39 (fun t4a => ?_)
    refine lv_iconst (v := 0) hx hb dX12_findProjection_42 (by decide) ?_
    refine lv_iload_n hx hb dX12_findProjection_43 rfl (lv_at hl 2 rfl) ?_
    obtain ⟨g5, h⟩ := gd_some _ h
    obtain ⟨σ5, e5, h⟩ := lt_some h
    refine js_iast C hT t4a g5 dX12_findProjection_44 (fun H locs hT => ?_)
    rw [e5] at hT
    refine lv_aload_n hx hb dX12_findProjection_45 rfl (lv_at hl 0 rfl) ?_
    refine js_gR C hT cfX12 t0 31 (by decide) (q := 20) rfl (by decide) lk_X12_82 dX12_findProjection_46 (fun t6a => ?_)
    refine lv_iconst (v := 1) hx hb dX12_findProjection_49 (by decide) ?_
    refine lv_iload_n hx hb dX12_findProjection_50 rfl (lv_at hl 3 rfl) ?_
    obtain ⟨g7, h⟩ := gd_some _ h
    obtain ⟨σ7, e7, h⟩ := lt_some h
    refine js_iast C hT t6a g7 dX12_findProjection_51 (fun H locs hT => ?_)
    rw [e7] at hT
    refine lv_aload_n hx hb dX12_findProjection_52 rfl (lv_at hl 0 rfl) ?_
    refine js_gR C hT cfX12 t0 31 (by decide) (q := 20) rfl (by decide) lk_X12_82 dX12_findProjection_53 (fun t8a => ?_)
    refine lv_iconst (v := 2) hx hb dX12_findProjection_56 (by decide) ?_
    refine lv_iload hx hb dX12_findProjection_57 (lv_at hl 4 rfl) ?_
    obtain ⟨g9, h⟩ := gd_some _ h
    obtain ⟨σ9, e9, h⟩ := lt_some h
    refine js_iast C hT t8a g9 dX12_findProjection_59 (fun H locs hT => ?_)
    rw [e9] at hT
    refine lv_aload_n hx hb dX12_findProjection_60 rfl (lv_at hl 0 rfl) ?_
    refine lv_iload_n hx hb dX12_findProjection_61 rfl (lv_at hl 1 rfl) ?_
    obtain ⟨r10, σ10, hc10, h⟩ := bd_some h
    refine js_backI hT (js_runV C hT cfX12 t0 rfl mfX12_isValid lk_X12_262 (kX12_isValid t0 hc10) ⟨Nat.le_of_ble_eq_true rfl, Nat.le_of_ble_eq_true rfl⟩ rfl hl.1 rfl (Nat.le_of_ble_eq_true rfl) ⟨Nat.zero_le _, Nat.zero_le _⟩ dX12_findProjection_62) (fun H locs hT => ?_)
    refine lv_if_eq (tgt := 81) hx hb dX12_findProjection_65 (by decide) (fun c11 => ?_) (fun c11 => ?_)
    · rw [if_pos c11] at h
      refine lv_iinc (v := x4 + 1) (lv' := [(4, .int (x4 + 1)), (0, .ref (B + x0)), (1, .int x1), (2, .int x2), (3, .int x3)]) hx hb dX12_findProjection_81 hl (k := 4) rfl rfl (by decide) rfl (fun ls hl => ?_)
      refine lv_goto (tgt := 27) hx hb dX12_findProjection_84 (by decide) ?_
      exact hrc27 _ _ _ _ _ _ _ _ h t0 H locs hT ls (lv_sub hl [1, 2, 3, 4, 0] rfl)
    · rw [if_neg c11] at h
      refine lv_bipush (v := 100) hx hb dX12_findProjection_68 (by decide) ?_
      refine lv_iload_n hx hb dX12_findProjection_70 rfl (lv_at hl 2 rfl) ?_
      refine lv_imul hx hb dX12_findProjection_71 ?_
      refine lv_bipush (v := 10) hx hb dX12_findProjection_72 (by decide) ?_
      refine lv_iload_n hx hb dX12_findProjection_74 rfl (lv_at hl 3 rfl) ?_
      refine lv_imul hx hb dX12_findProjection_75 ?_
      refine lv_iadd hx hb dX12_findProjection_76 ?_
      refine lv_iload hx hb dX12_findProjection_77 (lv_at hl 4 rfl) ?_
      refine lv_iadd hx hb dX12_findProjection_79 ?_
      obtain ⟨rfl, rfl⟩ := js_rt h
      exact js_iret C hT hr hk dX12_findProjection_80
set_option maxHeartbeats 4000000 in
set_option maxRecDepth 20000 in
theorem wX12_findProjection_27 (C : js_C D g p m c cX12_findProjection 5 s args RX12) (hr : meth.sig.returnType = (some .int)) (hk : meth.locks = false) (rc2 : Nat → Int32 → Int32 → js_S → Option (Int32 × js_S)) (hrc2 : ∀ (x0 : Nat) (x1 : Int32) (x2 : Int32) (σ : js_S) (r0 : Int32) (σ0 : js_S), rc2 x0 x1 x2 σ = some (r0, σ0) → ob_ nn 12 x0 → js_at p l e 7 s m args below meth c D B g nn 2 5 [(0, .ref (B + x0)), (1, .int x1), (2, .int x2)] [] σ (js_QI D B g nn r0 σ0)) (rc14 : Nat → Int32 → Int32 → Int32 → js_S → Option (Int32 × js_S)) (hrc14 : ∀ (x0 : Nat) (x1 : Int32) (x2 : Int32) (x3 : Int32) (σ : js_S) (r0 : Int32) (σ0 : js_S), rc14 x0 x1 x2 x3 σ = some (r0, σ0) → ob_ nn 12 x0 → js_at p l e 7 s m args below meth c D B g nn 14 5 [(0, .ref (B + x0)), (1, .int x1), (2, .int x2), (3, .int x3)] [] σ (js_QI D B g nn r0 σ0)) : ∀ (k : Nat), ∀ (x0 : Nat) (x1 : Int32) (x2 : Int32) (x3 : Int32) (x4 : Int32) (σ : js_S) (r0 : Int32) (σ0 : js_S), fX12_findProjection_27 fu rc2 rc14 k x0 x1 x2 x3 x4 σ = some (r0, σ0) → ob_ nn 12 x0 → js_at p l e 7 s m args below meth c D B g nn 27 5 [(0, .ref (B + x0)), (1, .int x1), (2, .int x2), (3, .int x3), (4, .int x4)] [] σ (js_QI D B g nn r0 σ0) := by
  intro k
  induction k with
  | zero =>
    intro x0 x1 x2 x3 x4 σ r0 σ0 h
    cases h
  | succ k ih =>
    intro x0 x1 x2 x3 x4 σ r0 σ0 h
    exact wX12_findProjection_27b C hr hk rc2 hrc2 rc14 hrc14 (fX12_findProjection_27 fu rc2 rc14 k) ih x0 x1 x2 x3 x4 σ r0 σ0 h
set_option maxHeartbeats 4000000 in
set_option maxRecDepth 20000 in
theorem wX12_findProjection_14b (C : js_C D g p m c cX12_findProjection 5 s args RX12) (hr : meth.sig.returnType = (some .int)) (hk : meth.locks = false) (rc2 : Nat → Int32 → Int32 → js_S → Option (Int32 × js_S)) (hrc2 : ∀ (x0 : Nat) (x1 : Int32) (x2 : Int32) (σ : js_S) (r0 : Int32) (σ0 : js_S), rc2 x0 x1 x2 σ = some (r0, σ0) → ob_ nn 12 x0 → js_at p l e 7 s m args below meth c D B g nn 2 5 [(0, .ref (B + x0)), (1, .int x1), (2, .int x2)] [] σ (js_QI D B g nn r0 σ0)) (rc14 : Nat → Int32 → Int32 → Int32 → js_S → Option (Int32 × js_S)) (hrc14 : ∀ (x0 : Nat) (x1 : Int32) (x2 : Int32) (x3 : Int32) (σ : js_S) (r0 : Int32) (σ0 : js_S), rc14 x0 x1 x2 x3 σ = some (r0, σ0) → ob_ nn 12 x0 → js_at p l e 7 s m args below meth c D B g nn 14 5 [(0, .ref (B + x0)), (1, .int x1), (2, .int x2), (3, .int x3)] [] σ (js_QI D B g nn r0 σ0)) : ∀ (x0 : Nat) (x1 : Int32) (x2 : Int32) (x3 : Int32) (σ : js_S) (r0 : Int32) (σ0 : js_S), fX12_findProjection_14b fu rc2 rc14 x0 x1 x2 x3 σ = some (r0, σ0) → ob_ nn 12 x0 → js_at p l e 7 s m args below meth c D B g nn 14 5 [(0, .ref (B + x0)), (1, .int x1), (2, .int x2), (3, .int x3)] [] σ (js_QI D B g nn r0 σ0) := by
  obtain ⟨hx, hb, hml, hown, ht, hK, hNw⟩ := id C
  intro x0 x1 x2 x3 σ r0 σ0 h t0 H locs hT ls hl
  unfold fX12_findProjection_14b at h
  refine lv_iload_n hx hb dX12_findProjection_14 rfl (lv_at hl 3 rfl) ?_
  refine lv_aload_n hx hb dX12_findProjection_15 rfl (lv_at hl 0 rfl) ?_
  refine js_gR C hT cfX12 t0 0 (by decide) (q := 20) rfl (by decide) lk_X12_9 dX12_findProjection_16 (fun t1a => ?_)
  refine lv_iconst (v := 1) hx hb dX12_findProjection_19 (by decide) ?_
  obtain ⟨g2, h⟩ := gd_some _ h
  refine js_iald C hT t1a g2 dX12_findProjection_20 ?_
  refine lv_icmp_gt (tgt := 93) hx hb dX12_findProjection_21 (by decide) (fun c3 => ?_) (fun c3 => ?_)
  · rw [if_pos c3] at h
    refine lv_iinc (v := x2 + 1) (lv' := [(2, .int (x2 + 1)), (0, .ref (B + x0)), (1, .int x1), (3, .int x3)]) hx hb dX12_findProjection_93 hl (k := 2) rfl rfl (by decide) rfl (fun ls hl => ?_)
    refine lv_goto (tgt := 2) hx hb dX12_findProjection_96 (by decide) ?_
    exact hrc2 _ _ _ _ _ _ h t0 H locs hT ls (lv_sub hl [1, 2, 0] rfl)
  · rw [if_neg c3] at h
    refine lv_iconst (v := 1) hx hb dX12_findProjection_24 (by decide) ?_
    refine lv_istore (lv' := [(4, .int 1), (0, .ref (B + x0)), (1, .int x1), (2, .int x2), (3, .int x3)]) hx hb dX12_findProjection_25 hl (by decide) rfl (fun ls hl => ?_)
    exact wX12_findProjection_27 C hr hk rc2 hrc2 rc14 hrc14 _ _ _ _ _ _ _ _ _ h t0 H locs hT ls (lv_sub hl [1, 2, 3, 4, 0] rfl)
set_option maxHeartbeats 4000000 in
set_option maxRecDepth 20000 in
theorem wX12_findProjection_14 (C : js_C D g p m c cX12_findProjection 5 s args RX12) (hr : meth.sig.returnType = (some .int)) (hk : meth.locks = false) (rc2 : Nat → Int32 → Int32 → js_S → Option (Int32 × js_S)) (hrc2 : ∀ (x0 : Nat) (x1 : Int32) (x2 : Int32) (σ : js_S) (r0 : Int32) (σ0 : js_S), rc2 x0 x1 x2 σ = some (r0, σ0) → ob_ nn 12 x0 → js_at p l e 7 s m args below meth c D B g nn 2 5 [(0, .ref (B + x0)), (1, .int x1), (2, .int x2)] [] σ (js_QI D B g nn r0 σ0)) : ∀ (k : Nat), ∀ (x0 : Nat) (x1 : Int32) (x2 : Int32) (x3 : Int32) (σ : js_S) (r0 : Int32) (σ0 : js_S), fX12_findProjection_14 fu rc2 k x0 x1 x2 x3 σ = some (r0, σ0) → ob_ nn 12 x0 → js_at p l e 7 s m args below meth c D B g nn 14 5 [(0, .ref (B + x0)), (1, .int x1), (2, .int x2), (3, .int x3)] [] σ (js_QI D B g nn r0 σ0) := by
  intro k
  induction k with
  | zero =>
    intro x0 x1 x2 x3 σ r0 σ0 h
    cases h
  | succ k ih =>
    intro x0 x1 x2 x3 σ r0 σ0 h
    exact wX12_findProjection_14b C hr hk rc2 hrc2 (fX12_findProjection_14 fu rc2 k) ih x0 x1 x2 x3 σ r0 σ0 h
set_option maxHeartbeats 4000000 in
set_option maxRecDepth 20000 in
theorem wX12_findProjection_2b (C : js_C D g p m c cX12_findProjection 5 s args RX12) (hr : meth.sig.returnType = (some .int)) (hk : meth.locks = false) (rc2 : Nat → Int32 → Int32 → js_S → Option (Int32 × js_S)) (hrc2 : ∀ (x0 : Nat) (x1 : Int32) (x2 : Int32) (σ : js_S) (r0 : Int32) (σ0 : js_S), rc2 x0 x1 x2 σ = some (r0, σ0) → ob_ nn 12 x0 → js_at p l e 7 s m args below meth c D B g nn 2 5 [(0, .ref (B + x0)), (1, .int x1), (2, .int x2)] [] σ (js_QI D B g nn r0 σ0)) : ∀ (x0 : Nat) (x1 : Int32) (x2 : Int32) (σ : js_S) (r0 : Int32) (σ0 : js_S), fX12_findProjection_2b fu rc2 x0 x1 x2 σ = some (r0, σ0) → ob_ nn 12 x0 → js_at p l e 7 s m args below meth c D B g nn 2 5 [(0, .ref (B + x0)), (1, .int x1), (2, .int x2)] [] σ (js_QI D B g nn r0 σ0) := by
  obtain ⟨hx, hb, hml, hown, ht, hK, hNw⟩ := id C
  intro x0 x1 x2 σ r0 σ0 h t0 H locs hT ls hl
  unfold fX12_findProjection_2b at h
  refine lv_iload_n hx hb dX12_findProjection_2 rfl (lv_at hl 2 rfl) ?_
  refine lv_aload_n hx hb dX12_findProjection_3 rfl (lv_at hl 0 rfl) ?_
  refine js_gR C hT cfX12 t0 0 (by decide) (q := 20) rfl (by decide) lk_X12_9 dX12_findProjection_4 (fun t1a => ?_)
  refine lv_iconst (v := 0) hx hb dX12_findProjection_7 (by decide) ?_
  obtain ⟨g2, h⟩ := gd_some _ h
  refine js_iald C hT t1a g2 dX12_findProjection_8 ?_
  refine lv_icmp_gt (tgt := 99) hx hb dX12_findProjection_9 (by decide) (fun c3 => ?_) (fun c3 => ?_)
  · rw [if_pos c3] at h
    refine lv_bipush (v := (-5)) hx hb dX12_findProjection_99 (by decide) ?_
    obtain ⟨rfl, rfl⟩ := js_rt h
    exact js_iret C hT hr hk dX12_findProjection_101
  · rw [if_neg c3] at h
    refine lv_iconst (v := 1) hx hb dX12_findProjection_12 (by decide) ?_
    refine lv_istore_n (lv' := [(3, .int 1), (0, .ref (B + x0)), (1, .int x1), (2, .int x2)]) hx hb dX12_findProjection_13 rfl hl (by decide) rfl (fun ls hl => ?_)
    exact wX12_findProjection_14 C hr hk rc2 hrc2 _ _ _ _ _ _ _ _ h t0 H locs hT ls (lv_sub hl [1, 2, 3, 0] rfl)
set_option maxHeartbeats 4000000 in
set_option maxRecDepth 20000 in
theorem wX12_findProjection_2 (C : js_C D g p m c cX12_findProjection 5 s args RX12) (hr : meth.sig.returnType = (some .int)) (hk : meth.locks = false) : ∀ (k : Nat), ∀ (x0 : Nat) (x1 : Int32) (x2 : Int32) (σ : js_S) (r0 : Int32) (σ0 : js_S), fX12_findProjection_2 fu k x0 x1 x2 σ = some (r0, σ0) → ob_ nn 12 x0 → js_at p l e 7 s m args below meth c D B g nn 2 5 [(0, .ref (B + x0)), (1, .int x1), (2, .int x2)] [] σ (js_QI D B g nn r0 σ0) := by
  intro k
  induction k with
  | zero =>
    intro x0 x1 x2 σ r0 σ0 h
    cases h
  | succ k ih =>
    intro x0 x1 x2 σ r0 σ0 h
    exact wX12_findProjection_2b C hr hk (fX12_findProjection_2 fu k) ih x0 x1 x2 σ r0 σ0 h
set_option maxHeartbeats 4000000 in
set_option maxRecDepth 20000 in
theorem kX12_findProjection {x0 : Nat} {x1 : Int32} {σ σ0 : js_S} {r0 : Int32} (t0 : ob_ nn 12 x0) (h : fX12_findProjection fu x0 x1 σ = some (r0, σ0)) : js_M l D B g nn yX12_findProjection cX12_findProjection 5 (some .int) 7 [.ref (B + x0), .int x1] σ (js_QI D B g nn r0 σ0) := by
  refine js_enter (by decide) (Nat.le_of_ble_eq_true rfl) ?_
  intro p e s m args below meth c C hr hk ls hl hT
  have hl : lv_has ls 5 [(0, .ref (B + x0)), (1, .int x1)] := hl
  obtain ⟨hx, hb, hml, hown, ht, hK, hNw⟩ := id C
  obtain ⟨H, eH⟩ : ∃ H, H = s.heap := ⟨_, rfl⟩
  obtain ⟨locs, eL⟩ : ∃ z : List Loc, z = [] := ⟨_, rfl⟩
  rw [← eH, ← eL]
  rw [← eH, ← eL] at hT
  clear eH eL
  unfold fX12_findProjection at h
  refine lv_iconst (v := 1) hx hb dX12_findProjection_0 (by decide) ?_
  refine lv_istore_n (lv' := [(2, .int 1), (0, .ref (B + x0)), (1, .int x1)]) hx hb dX12_findProjection_1 rfl hl (by decide) rfl (fun ls hl => ?_)
  exact wX12_findProjection_2 C hr hk _ _ _ _ _ _ _ h t0 H locs hT ls (lv_sub hl [1, 2, 0] rfl)
set_option maxHeartbeats 4000000 in
set_option maxRecDepth 20000 in
theorem wX12_eliminate_196 (C : js_C D g p m c cX12_eliminate 5 s args RX12) (hr : meth.sig.returnType = (some .int)) (hk : meth.locks = false) (rc8 : Nat → Int32 → Int32 → js_S → Option (Int32 × js_S)) (hrc8 : ∀ (x0 : Nat) (x1 : Int32) (x2 : Int32) (σ : js_S) (r0 : Int32) (σ0 : js_S), rc8 x0 x1 x2 σ = some (r0, σ0) → ob_ nn 12 x0 → js_at p l e 128 s m args below meth c D B g nn 8 5 [(0, .ref (B + x0)), (1, .int x1), (2, .int x2)] [] σ (js_QI D B g nn r0 σ0)) : ∀ (x0 : Nat) (x2 : Int32) (y0 : Int32) (y1 : Int32) (σ : js_S) (r0 : Int32) (σ0 : js_S), fX12_eliminate_196 fu rc8 x0 x2 y0 y1 σ = some (r0, σ0) → ob_ nn 12 x0 → js_at p l e 128 s m args below meth c D B g nn 196 5 [(0, .ref (B + x0)), (2, .int x2)] [.int y0, .int y1] σ (js_QI D B g nn r0 σ0) := by
  obtain ⟨hx, hb, hml, hown, ht, hK, hNw⟩ := id C
  intro x0 x2 y0 y1 σ r0 σ0 h t0 H locs hT ls hl
  unfold fX12_eliminate_196 at h
  refine lv_iadd hx hb dX12_eliminate_196 ?_
  refine lv_istore_n (lv' := [(1, .int (y1 + y0)), (0, .ref (B + x0)), (2, .int x2)]) hx hb dX12_eliminate_197 rfl hl (by decide) rfl (fun ls hl => ?_)
  refine lv_goto (tgt := 8) hx hb dX12_eliminate_198 (by decide) ?_
  exact hrc8 _ _ _ _ _ _ h t0 H locs hT ls (lv_sub hl [1, 0, 2] rfl)
set_option maxHeartbeats 4000000 in
set_option maxRecDepth 20000 in
theorem wX12_eliminate_178 (C : js_C D g p m c cX12_eliminate 5 s args RX12) (hr : meth.sig.returnType = (some .int)) (hk : meth.locks = false) (rc8 : Nat → Int32 → Int32 → js_S → Option (Int32 × js_S)) (hrc8 : ∀ (x0 : Nat) (x1 : Int32) (x2 : Int32) (σ : js_S) (r0 : Int32) (σ0 : js_S), rc8 x0 x1 x2 σ = some (r0, σ0) → ob_ nn 12 x0 → js_at p l e 128 s m args below meth c D B g nn 8 5 [(0, .ref (B + x0)), (1, .int x1), (2, .int x2)] [] σ (js_QI D B g nn r0 σ0)) (rc149 : Nat → Int32 → Int32 → Int32 → js_S → Option (Int32 × js_S)) (hrc149 : ∀ (x0 : Nat) (x1 : Int32) (x2 : Int32) (x3 : Int32) (σ : js_S) (r0 : Int32) (σ0 : js_S), rc149 x0 x1 x2 x3 σ = some (r0, σ0) → ob_ nn 12 x0 → js_at p l e 128 s m args below meth c D B g nn 149 5 [(0, .ref (B + x0)), (1, .int x1), (2, .int x2), (3, .int x3)] [] σ (js_QI D B g nn r0 σ0)) : ∀ (x0 : Nat) (x1 : Int32) (x2 : Int32) (x3 : Int32) (y0 : Int32) (y1 : Int32) (y2 : Int32) (y3 : Nat) (σ : js_S) (r0 : Int32) (σ0 : js_S), fX12_eliminate_178 fu rc8 rc149 x0 x1 x2 x3 y0 y1 y2 y3 σ = some (r0, σ0) → ob_ nn 12 x0 → ob_ nn 22 y3 → js_at p l e 128 s m args below meth c D B g nn 178 5 [(0, .ref (B + x0)), (1, .int x1), (2, .int x2), (3, .int x3)] [.int y0, .int y1, .int y2, .ref (B + y3)] σ (js_QI D B g nn r0 σ0) := by
  obtain ⟨hx, hb, hml, hown, ht, hK, hNw⟩ := id C
  intro x0 x1 x2 x3 y0 y1 y2 y3 σ r0 σ0 h t0 u3 H locs hT ls hl
  unfold fX12_eliminate_178 at h
  refine lv_iand hx hb dX12_eliminate_178 ?_
  obtain ⟨g1, h⟩ := gd_some _ h
  obtain ⟨σ1, e1, h⟩ := lt_some h
  refine js_zast C hT u3 g1 dX12_eliminate_179 (fun H locs hT => ?_)
  rw [e1] at hT
  refine lv_iinc (v := x3 + 1) (lv' := [(3, .int (x3 + 1)), (0, .ref (B + x0)), (1, .int x1), (2, .int x2)]) hx hb dX12_eliminate_180 hl (k := 3) rfl rfl (by decide) rfl (fun ls hl => ?_)
  refine lv_goto (tgt := 149) hx hb dX12_eliminate_183 (by decide) ?_
  exact hrc149 _ _ _ _ _ _ _ h t0 H locs hT ls (lv_sub hl [1, 2, 3, 0] rfl)
set_option maxHeartbeats 4000000 in
set_option maxRecDepth 20000 in
theorem wX12_eliminate_149b (C : js_C D g p m c cX12_eliminate 5 s args RX12) (hr : meth.sig.returnType = (some .int)) (hk : meth.locks = false) (rc8 : Nat → Int32 → Int32 → js_S → Option (Int32 × js_S)) (hrc8 : ∀ (x0 : Nat) (x1 : Int32) (x2 : Int32) (σ : js_S) (r0 : Int32) (σ0 : js_S), rc8 x0 x1 x2 σ = some (r0, σ0) → ob_ nn 12 x0 → js_at p l e 128 s m args below meth c D B g nn 8 5 [(0, .ref (B + x0)), (1, .int x1), (2, .int x2)] [] σ (js_QI D B g nn r0 σ0)) (rc149 : Nat → Int32 → Int32 → Int32 → js_S → Option (Int32 × js_S)) (hrc149 : ∀ (x0 : Nat) (x1 : Int32) (x2 : Int32) (x3 : Int32) (σ : js_S) (r0 : Int32) (σ0 : js_S), rc149 x0 x1 x2 x3 σ = some (r0, σ0) → ob_ nn 12 x0 → js_at p l e 128 s m args below meth c D B g nn 149 5 [(0, .ref (B + x0)), (1, .int x1), (2, .int x2), (3, .int x3)] [] σ (js_QI D B g nn r0 σ0)) : ∀ (x0 : Nat) (x1 : Int32) (x2 : Int32) (x3 : Int32) (σ : js_S) (r0 : Int32) (σ0 : js_S), fX12_eliminate_149b fu rc8 rc149 x0 x1 x2 x3 σ = some (r0, σ0) → ob_ nn 12 x0 → js_at p l e 128 s m args below meth c D B g nn 149 5 [(0, .ref (B + x0)), (1, .int x1), (2, .int x2), (3, .int x3)] [] σ (js_QI D B g nn r0 σ0) := by
  obtain ⟨hx, hb, hml, hown, ht, hK, hNw⟩ := id C
  intro x0 x1 x2 x3 σ r0 σ0 h t0 H locs hT ls hl
  unfold fX12_eliminate_149b at h
  refine lv_iload_n hx hb dX12_eliminate_149 rfl (lv_at hl 3 rfl) ?_
  refine lv_aload_n hx hb dX12_eliminate_150 rfl (lv_at hl 0 rfl) ?_
  refine js_gI C hT cfX12 t0 23 (by decide) rfl lk_X12_211 dX12_eliminate_151 ?_
  refine lv_icmp_ge (tgt := 186) hx hb dX12_eliminate_154 (by decide) (fun c1 => ?_) (fun c1 => ?_)
  · rw [if_pos c1] at h
    refine lv_iload_n hx hb dX12_eliminate_186 rfl (lv_at hl 1 rfl) ?_
    refine lv_iload_n hx hb dX12_eliminate_187 rfl (lv_at hl 2 rfl) ?_
    refine lv_if_eq (tgt := 195) hx hb dX12_eliminate_188 (by decide) (fun c2 => ?_) (fun c2 => ?_)
    · rw [if_pos c2] at h
      refine lv_iconst (v := 0) hx hb dX12_eliminate_195 (by decide) ?_
      exact wX12_eliminate_196 C hr hk rc8 hrc8 _ _ _ _ _ _ _ h t0 H locs hT ls (lv_sub hl [0, 2] rfl)
    · rw [if_neg c2] at h
      refine lv_iconst (v := 1) hx hb dX12_eliminate_191 (by decide) ?_
      refine lv_goto (tgt := 196) hx hb dX12_eliminate_192 (by decide) ?_
      exact wX12_eliminate_196 C hr hk rc8 hrc8 _ _ _ _ _ _ _ h t0 H locs hT ls (lv_sub hl [0, 2] rfl)
  · rw [if_neg c1] at h
    refine lv_aload_n hx hb dX12_eliminate_157 rfl (lv_at hl 0 rfl) ?_
    refine js_gR C hT cfX12 t0 21 (by decide) (q := 22) rfl (by decide) lk_X12_59 dX12_eliminate_158 (fun t3a => ?_)
    refine lv_iload_n hx hb dX12_eliminate_161 rfl (lv_at hl 3 rfl) ?_
    refine lv_dup2_11 hx hb dX12_eliminate_162 rfl rfl ?_
    obtain ⟨g4, h⟩ := gd_some _ h
    refine js_zald C hT t3a g4 dX12_eliminate_163 ?_
    refine lv_aload_n hx hb dX12_eliminate_164 rfl (lv_at hl 0 rfl) ?_
    refine js_gR C hT cfX12 t0 33 (by decide) (q := 22) rfl (by decide) lk_X12_88 dX12_eliminate_165 (fun t5a => ?_)
    refine lv_iload_n hx hb dX12_eliminate_168 rfl (lv_at hl 3 rfl) ?_
    obtain ⟨g6, h⟩ := gd_some _ h
    refine js_zald C hT t5a g6 dX12_eliminate_169 ?_
    refine lv_if_ne (tgt := 177) hx hb dX12_eliminate_170 (by decide) (fun c7 => ?_) (fun c7 => ?_)
    · rw [if_neg c7] at h
      refine lv_iconst (v := 0) hx hb dX12_eliminate_177 (by decide) ?_
      exact wX12_eliminate_178 C hr hk rc8 hrc8 rc149 hrc149 _ _ _ _ _ _ _ _ _ _ _ h t0 t3a H locs hT ls (lv_sub hl [0, 1, 2, 3] rfl)
    · rw [if_pos c7] at h
      refine lv_iconst (v := 1) hx hb dX12_eliminate_173 (by decide) ?_
      refine lv_goto (tgt := 178) hx hb dX12_eliminate_174 (by decide) ?_
      exact wX12_eliminate_178 C hr hk rc8 hrc8 rc149 hrc149 _ _ _ _ _ _ _ _ _ _ _ h t0 t3a H locs hT ls (lv_sub hl [0, 1, 2, 3] rfl)
set_option maxHeartbeats 4000000 in
set_option maxRecDepth 20000 in
theorem wX12_eliminate_149 (C : js_C D g p m c cX12_eliminate 5 s args RX12) (hr : meth.sig.returnType = (some .int)) (hk : meth.locks = false) (rc8 : Nat → Int32 → Int32 → js_S → Option (Int32 × js_S)) (hrc8 : ∀ (x0 : Nat) (x1 : Int32) (x2 : Int32) (σ : js_S) (r0 : Int32) (σ0 : js_S), rc8 x0 x1 x2 σ = some (r0, σ0) → ob_ nn 12 x0 → js_at p l e 128 s m args below meth c D B g nn 8 5 [(0, .ref (B + x0)), (1, .int x1), (2, .int x2)] [] σ (js_QI D B g nn r0 σ0)) : ∀ (k : Nat), ∀ (x0 : Nat) (x1 : Int32) (x2 : Int32) (x3 : Int32) (σ : js_S) (r0 : Int32) (σ0 : js_S), fX12_eliminate_149 fu rc8 k x0 x1 x2 x3 σ = some (r0, σ0) → ob_ nn 12 x0 → js_at p l e 128 s m args below meth c D B g nn 149 5 [(0, .ref (B + x0)), (1, .int x1), (2, .int x2), (3, .int x3)] [] σ (js_QI D B g nn r0 σ0) := by
  intro k
  induction k with
  | zero =>
    intro x0 x1 x2 x3 σ r0 σ0 h
    cases h
  | succ k ih =>
    intro x0 x1 x2 x3 σ r0 σ0 h
    exact wX12_eliminate_149b C hr hk rc8 hrc8 (fX12_eliminate_149 fu rc8 k) ih x0 x1 x2 x3 σ r0 σ0 h
set_option maxHeartbeats 4000000 in
set_option maxRecDepth 20000 in
theorem wX12_eliminate_141 (C : js_C D g p m c cX12_eliminate 5 s args RX12) (hr : meth.sig.returnType = (some .int)) (hk : meth.locks = false) (rc8 : Nat → Int32 → Int32 → js_S → Option (Int32 × js_S)) (hrc8 : ∀ (x0 : Nat) (x1 : Int32) (x2 : Int32) (σ : js_S) (r0 : Int32) (σ0 : js_S), rc8 x0 x1 x2 σ = some (r0, σ0) → ob_ nn 12 x0 → js_at p l e 128 s m args below meth c D B g nn 8 5 [(0, .ref (B + x0)), (1, .int x1), (2, .int x2)] [] σ (js_QI D B g nn r0 σ0)) (rc43 : Nat → Int32 → Int32 → Int32 → js_S → Option (Int32 × js_S)) (hrc43 : ∀ (x0 : Nat) (x1 : Int32) (x2 : Int32) (x3 : Int32) (σ : js_S) (r0 : Int32) (σ0 : js_S), rc43 x0 x1 x2 x3 σ = some (r0, σ0) → ob_ nn 12 x0 → js_at p l e 128 s m args below meth c D B g nn 43 5 [(0, .ref (B + x0)), (1, .int x1), (2, .int x2), (3, .int x3)] [] σ (js_QI D B g nn r0 σ0)) : ∀ (x0 : Nat) (x1 : Int32) (x2 : Int32) (x3 : Int32) (σ : js_S) (r0 : Int32) (σ0 : js_S), fX12_eliminate_141 fu rc8 rc43 x0 x1 x2 x3 σ = some (r0, σ0) → ob_ nn 12 x0 → js_at p l e 128 s m args below meth c D B g nn 141 5 [(0, .ref (B + x0)), (1, .int x1), (2, .int x2), (3, .int x3)] [] σ (js_QI D B g nn r0 σ0) := by
  obtain ⟨hx, hb, hml, hown, ht, hK, hNw⟩ := id C
  intro x0 x1 x2 x3 σ r0 σ0 h t0 H locs hT ls hl
  unfold fX12_eliminate_141 at h
  refine lv_iinc (v := x3 + 1) (lv' := [(3, .int (x3 + 1)), (0, .ref (B + x0)), (1, .int x1), (2, .int x2)]) hx hb dX12_eliminate_141 hl (k := 3) rfl rfl (by decide) rfl (fun ls hl => ?_)
  refine lv_goto (tgt := 43) hx hb dX12_eliminate_144 (by decide) ?_
  exact hrc43 _ _ _ _ _ _ _ h t0 H locs hT ls (lv_sub hl [1, 2, 3, 0] rfl)
set_option maxHeartbeats 4000000 in
set_option maxRecDepth 20000 in
theorem wX12_eliminate_133 (C : js_C D g p m c cX12_eliminate 5 s args RX12) (hr : meth.sig.returnType = (some .int)) (hk : meth.locks = false) (rc8 : Nat → Int32 → Int32 → js_S → Option (Int32 × js_S)) (hrc8 : ∀ (x0 : Nat) (x1 : Int32) (x2 : Int32) (σ : js_S) (r0 : Int32) (σ0 : js_S), rc8 x0 x1 x2 σ = some (r0, σ0) → ob_ nn 12 x0 → js_at p l e 128 s m args below meth c D B g nn 8 5 [(0, .ref (B + x0)), (1, .int x1), (2, .int x2)] [] σ (js_QI D B g nn r0 σ0)) (rc43 : Nat → Int32 → Int32 → Int32 → js_S → Option (Int32 × js_S)) (hrc43 : ∀ (x0 : Nat) (x1 : Int32) (x2 : Int32) (x3 : Int32) (σ : js_S) (r0 : Int32) (σ0 : js_S), rc43 x0 x1 x2 x3 σ = some (r0, σ0) → ob_ nn 12 x0 → js_at p l e 128 s m args below meth c D B g nn 43 5 [(0, .ref (B + x0)), (1, .int x1), (2, .int x2), (3, .int x3)] [] σ (js_QI D B g nn r0 σ0)) (rc64 : Nat → Int32 → Int32 → Int32 → Int32 → js_S → Option (Int32 × js_S)) (hrc64 : ∀ (x0 : Nat) (x1 : Int32) (x2 : Int32) (x3 : Int32) (x4 : Int32) (σ : js_S) (r0 : Int32) (σ0 : js_S), rc64 x0 x1 x2 x3 x4 σ = some (r0, σ0) → ob_ nn 12 x0 → js_at p l e 128 s m args below meth c D B g nn 64 5 [(0, .ref (B + x0)), (1, .int x1), (2, .int x2), (3, .int x3), (4, .int x4)] [] σ (js_QI D B g nn r0 σ0)) : ∀ (x0 : Nat) (x1 : Int32) (x2 : Int32) (x3 : Int32) (x4 : Int32) (y0 : Int32) (y1 : Int32) (y2 : Int32) (y3 : Nat) (σ : js_S) (r0 : Int32) (σ0 : js_S), fX12_eliminate_133 fu rc8 rc43 rc64 x0 x1 x2 x3 x4 y0 y1 y2 y3 σ = some (r0, σ0) → ob_ nn 12 x0 → ob_ nn 22 y3 → js_at p l e 128 s m args below meth c D B g nn 133 5 [(0, .ref (B + x0)), (1, .int x1), (2, .int x2), (3, .int x3), (4, .int x4)] [.int y0, .int y1, .int y2, .ref (B + y3)] σ (js_QI D B g nn r0 σ0) := by
  obtain ⟨hx, hb, hml, hown, ht, hK, hNw⟩ := id C
  intro x0 x1 x2 x3 x4 y0 y1 y2 y3 σ r0 σ0 h t0 u3 H locs hT ls hl
  unfold fX12_eliminate_133 at h
  refine lv_ior hx hb dX12_eliminate_133 ?_
  obtain ⟨g1, h⟩ := gd_some _ h
  obtain ⟨σ1, e1, h⟩ := lt_some h
  refine js_zast C hT u3 g1 dX12_eliminate_134 (fun H locs hT => ?_)
  rw [e1] at hT
  refine lv_iinc (v := x4 + 1) (lv' := [(4, .int (x4 + 1)), (0, .ref (B + x0)), (1, .int x1), (2, .int x2), (3, .int x3)]) hx hb dX12_eliminate_135 hl (k := 4) rfl rfl (by decide) rfl (fun ls hl => ?_)
  refine lv_goto (tgt := 64) hx hb dX12_eliminate_138 (by decide) ?_
  exact hrc64 _ _ _ _ _ _ _ _ h t0 H locs hT ls (lv_sub hl [1, 2, 3, 4, 0] rfl)
set_option maxHeartbeats 4000000 in
set_option maxRecDepth 20000 in
theorem wX12_eliminate_132 (C : js_C D g p m c cX12_eliminate 5 s args RX12) (hr : meth.sig.returnType = (some .int)) (hk : meth.locks = false) (rc8 : Nat → Int32 → Int32 → js_S → Option (Int32 × js_S)) (hrc8 : ∀ (x0 : Nat) (x1 : Int32) (x2 : Int32) (σ : js_S) (r0 : Int32) (σ0 : js_S), rc8 x0 x1 x2 σ = some (r0, σ0) → ob_ nn 12 x0 → js_at p l e 128 s m args below meth c D B g nn 8 5 [(0, .ref (B + x0)), (1, .int x1), (2, .int x2)] [] σ (js_QI D B g nn r0 σ0)) (rc43 : Nat → Int32 → Int32 → Int32 → js_S → Option (Int32 × js_S)) (hrc43 : ∀ (x0 : Nat) (x1 : Int32) (x2 : Int32) (x3 : Int32) (σ : js_S) (r0 : Int32) (σ0 : js_S), rc43 x0 x1 x2 x3 σ = some (r0, σ0) → ob_ nn 12 x0 → js_at p l e 128 s m args below meth c D B g nn 43 5 [(0, .ref (B + x0)), (1, .int x1), (2, .int x2), (3, .int x3)] [] σ (js_QI D B g nn r0 σ0)) (rc64 : Nat → Int32 → Int32 → Int32 → Int32 → js_S → Option (Int32 × js_S)) (hrc64 : ∀ (x0 : Nat) (x1 : Int32) (x2 : Int32) (x3 : Int32) (x4 : Int32) (σ : js_S) (r0 : Int32) (σ0 : js_S), rc64 x0 x1 x2 x3 x4 σ = some (r0, σ0) → ob_ nn 12 x0 → js_at p l e 128 s m args below meth c D B g nn 64 5 [(0, .ref (B + x0)), (1, .int x1), (2, .int x2), (3, .int x3), (4, .int x4)] [] σ (js_QI D B g nn r0 σ0)) : ∀ (x0 : Nat) (x1 : Int32) (x2 : Int32) (x3 : Int32) (x4 : Int32) (y0 : Int32) (y1 : Int32) (y2 : Nat) (σ : js_S) (r0 : Int32) (σ0 : js_S), fX12_eliminate_132 fu rc8 rc43 rc64 x0 x1 x2 x3 x4 y0 y1 y2 σ = some (r0, σ0) → ob_ nn 12 x0 → ob_ nn 22 y2 → js_at p l e 128 s m args below meth c D B g nn 132 5 [(0, .ref (B + x0)), (1, .int x1), (2, .int x2), (3, .int x3), (4, .int x4)] [.int y0, .int y1, .ref (B + y2)] σ (js_QI D B g nn r0 σ0) := by
  obtain ⟨hx, hb, hml, hown, ht, hK, hNw⟩ := id C
  intro x0 x1 x2 x3 x4 y0 y1 y2 σ r0 σ0 h t0 u2 H locs hT ls hl
  unfold fX12_eliminate_132 at h
  refine lv_iconst (v := 0) hx hb dX12_eliminate_132 (by decide) ?_
  exact wX12_eliminate_133 C hr hk rc8 hrc8 rc43 hrc43 rc64 hrc64 _ _ _ _ _ _ _ _ _ _ _ _ h t0 u2 H locs hT ls (lv_sub hl [0, 1, 2, 3, 4] rfl)
set_option maxHeartbeats 4000000 in
set_option maxRecDepth 20000 in
theorem wX12_eliminate_64b (C : js_C D g p m c cX12_eliminate 5 s args RX12) (hr : meth.sig.returnType = (some .int)) (hk : meth.locks = false) (rc8 : Nat → Int32 → Int32 → js_S → Option (Int32 × js_S)) (hrc8 : ∀ (x0 : Nat) (x1 : Int32) (x2 : Int32) (σ : js_S) (r0 : Int32) (σ0 : js_S), rc8 x0 x1 x2 σ = some (r0, σ0) → ob_ nn 12 x0 → js_at p l e 128 s m args below meth c D B g nn 8 5 [(0, .ref (B + x0)), (1, .int x1), (2, .int x2)] [] σ (js_QI D B g nn r0 σ0)) (rc43 : Nat → Int32 → Int32 → Int32 → js_S → Option (Int32 × js_S)) (hrc43 : ∀ (x0 : Nat) (x1 : Int32) (x2 : Int32) (x3 : Int32) (σ : js_S) (r0 : Int32) (σ0 : js_S), rc43 x0 x1 x2 x3 σ = some (r0, σ0) → ob_ nn 12 x0 → js_at p l e 128 s m args below meth c D B g nn 43 5 [(0, .ref (B + x0)), (1, .int x1), (2, .int x2), (3, .int x3)] [] σ (js_QI D B g nn r0 σ0)) (rc64 : Nat → Int32 → Int32 → Int32 → Int32 → js_S → Option (Int32 × js_S)) (hrc64 : ∀ (x0 : Nat) (x1 : Int32) (x2 : Int32) (x3 : Int32) (x4 : Int32) (σ : js_S) (r0 : Int32) (σ0 : js_S), rc64 x0 x1 x2 x3 x4 σ = some (r0, σ0) → ob_ nn 12 x0 → js_at p l e 128 s m args below meth c D B g nn 64 5 [(0, .ref (B + x0)), (1, .int x1), (2, .int x2), (3, .int x3), (4, .int x4)] [] σ (js_QI D B g nn r0 σ0)) : ∀ (x0 : Nat) (x1 : Int32) (x2 : Int32) (x3 : Int32) (x4 : Int32) (σ : js_S) (r0 : Int32) (σ0 : js_S), fX12_eliminate_64b fu rc8 rc43 rc64 x0 x1 x2 x3 x4 σ = some (r0, σ0) → ob_ nn 12 x0 → js_at p l e 128 s m args below meth c D B g nn 64 5 [(0, .ref (B + x0)), (1, .int x1), (2, .int x2), (3, .int x3), (4, .int x4)] [] σ (js_QI D B g nn r0 σ0) := by
  obtain ⟨hx, hb, hml, hown, ht, hK, hNw⟩ := id C
  intro x0 x1 x2 x3 x4 σ r0 σ0 h t0 H locs hT ls hl
  unfold fX12_eliminate_64b at h
  refine lv_iload hx hb dX12_eliminate_64 (lv_at hl 4 rfl) ?_
  refine lv_aload_n hx hb dX12_eliminate_66 rfl (lv_at hl 0 rfl) ?_
  refine js_gI C hT cfX12 t0 23 (by decide) rfl lk_X12_211 dX12_eliminate_67 ?_
  refine lv_icmp_ge (tgt := 141) hx hb dX12_eliminate_70 (by decide) (fun c1 => ?_) (fun c1 => ?_)
  · rw [if_pos c1] at h
    exact wX12_eliminate_141 C hr hk rc8 hrc8 rc43 hrc43 _ _ _ _ _ _ _ h t0 H locs hT ls (lv_sub hl [0, 1, 2, 3] rfl)
  · rw [if_neg c1] at h
    refine lv_aload_n hx hb dX12_eliminate_73 rfl (lv_at hl 0 rfl) ?_
    refine js_gR C hT cfX12 t0 33 (by decide) (q := 22) rfl (by decide) lk_X12_88 dX12_eliminate_74 (fun t2a => ?_)
    refine lv_iload hx hb dX12_eliminate_77 (lv_at hl 4 rfl) ?_
    refine lv_dup2_11 hx hb dX12_eliminate_79 rfl rfl ?_
    obtain ⟨g3, h⟩ := gd_some _ h
    refine js_zald C hT t2a g3 dX12_eliminate_80 ?_
    refine lv_aload_n hx hb dX12_eliminate_81 rfl (lv_at hl 0 rfl) ?_
    refine js_gR C hT cfX12 t0 22 (by decide) (q := 20) rfl (by decide) lk_X12_63 dX12_eliminate_82 (fun t4a => ?_)
    refine lv_iload hx hb dX12_eliminate_85 (lv_at hl 4 rfl) ?_
    obtain ⟨g5, h⟩ := gd_some _ h
    refine js_iald C hT t4a g5 dX12_eliminate_87 ?_
    refine lv_iload_n hx hb dX12_eliminate_88 rfl (lv_at hl 3 rfl) ?_
    refine lv_icmp_ne (tgt := 132) hx hb dX12_eliminate_89 (by decide) (fun c6 => ?_) (fun c6 => ?_)
    · rw [if_neg c6] at h
      exact wX12_eliminate_132 C hr hk rc8 hrc8 rc43 hrc43 rc64 hrc64 _ _ _ _ _ _ _ _ _ _ _ h t0 t2a H locs hT ls (lv_sub hl [0, 1, 2, 3, 4] rfl)
    · rw [if_pos c6] at h
      refine lv_aload_n hx hb dX12_eliminate_92 rfl (lv_at hl 0 rfl) ?_
      refine lv_iload hx hb dX12_eliminate_93 (lv_at hl 4 rfl) ?_
      refine lv_aload_n hx hb dX12_eliminate_95 rfl (lv_at hl 0 rfl) ?_
      refine js_gR C hT cfX12 t0 31 (by decide) (q := 20) rfl (by decide) lk_X12_82 dX12_eliminate_96 (fun t7a => ?_)
      refine lv_aload_n hx hb dX12_eliminate_99 rfl (lv_at hl 0 rfl) ?_
      refine lv_iload hx hb dX12_eliminate_100 (lv_at hl 4 rfl) ?_
      obtain ⟨r8, σ8, hc8, h⟩ := bd_some h
      refine js_backI hT (js_runV C hT cfX12 t0 rfl mfX12_sourceOf lk_X12_191 (kX12_sourceOf t0 hc8) ⟨Nat.le_of_ble_eq_true rfl, Nat.le_of_ble_eq_true rfl⟩ rfl hl.1 rfl (Nat.le_of_ble_eq_true rfl) ⟨Nat.zero_le _, Nat.zero_le _⟩ dX12_eliminate_102) (fun H locs hT => ?_)
      obtain ⟨g9, h⟩ := gd_some _ h
      refine js_iald C hT t7a g9 dX12_eliminate_105 ?_
      refine lv_iconst (v := 1) hx hb dX12_eliminate_106 (by decide) ?_
      refine lv_isub hx hb dX12_eliminate_107 ?_
      refine lv_aload_n hx hb dX12_eliminate_108 rfl (lv_at hl 0 rfl) ?_
      refine js_gR C hT cfX12 t0 31 (by decide) (q := 20) rfl (by decide) lk_X12_82 dX12_eliminate_109 (fun t10a => ?_)
      refine lv_aload_n hx hb dX12_eliminate_112 rfl (lv_at hl 0 rfl) ?_
      refine lv_iload hx hb dX12_eliminate_113 (lv_at hl 4 rfl) ?_
      obtain ⟨r11, σ11, hc11, h⟩ := bd_some h
      refine js_backI hT (js_runV C hT cfX12 t0 rfl mfX12_targetOf lk_X12_194 (kX12_targetOf t0 hc11) ⟨Nat.le_of_ble_eq_true rfl, Nat.le_of_ble_eq_true rfl⟩ rfl hl.1 rfl (Nat.le_of_ble_eq_true rfl) ⟨Nat.zero_le _, Nat.zero_le _⟩ dX12_eliminate_115) (fun H locs hT => ?_)
      obtain ⟨g12, h⟩ := gd_some _ h
      refine js_iald C hT t10a g12 dX12_eliminate_118 ?_
      refine lv_iconst (v := 1) hx hb dX12_eliminate_119 (by decide) ?_
      refine lv_isub hx hb dX12_eliminate_120 ?_
      obtain ⟨r13, σ13, hc13, h⟩ := bd_some h
      refine js_backI hT (js_runV C hT cfX12 t0 rfl mfX12_relation lk_X12_229 (kX12_relation t0 hc13) ⟨Nat.le_of_ble_eq_true rfl, Nat.le_of_ble_eq_true rfl⟩ rfl hl.1 rfl (Nat.le_of_ble_eq_true rfl) ⟨Nat.zero_le _, Nat.zero_le _⟩ dX12_eliminate_121) (fun H locs hT => ?_)
      refine lv_iconst (v := 2) hx hb dX12_eliminate_124 (by decide) ?_
      refine lv_icmp_ne (tgt := 132) hx hb dX12_eliminate_125 (by decide) (fun c14 => ?_) (fun c14 => ?_)
      · rw [if_neg c14] at h
        exact wX12_eliminate_132 C hr hk rc8 hrc8 rc43 hrc43 rc64 hrc64 _ _ _ _ _ _ _ _ _ _ _ h t0 t2a H locs hT ls (lv_sub hl [0, 1, 2, 3, 4] rfl)
      · rw [if_pos c14] at h
        refine lv_iconst (v := 1) hx hb dX12_eliminate_128 (by decide) ?_
        refine lv_goto (tgt := 133) hx hb dX12_eliminate_129 (by decide) ?_
        exact wX12_eliminate_133 C hr hk rc8 hrc8 rc43 hrc43 rc64 hrc64 _ _ _ _ _ _ _ _ _ _ _ _ h t0 t2a H locs hT ls (lv_sub hl [0, 1, 2, 3, 4] rfl)
set_option maxHeartbeats 4000000 in
set_option maxRecDepth 20000 in
theorem wX12_eliminate_64 (C : js_C D g p m c cX12_eliminate 5 s args RX12) (hr : meth.sig.returnType = (some .int)) (hk : meth.locks = false) (rc8 : Nat → Int32 → Int32 → js_S → Option (Int32 × js_S)) (hrc8 : ∀ (x0 : Nat) (x1 : Int32) (x2 : Int32) (σ : js_S) (r0 : Int32) (σ0 : js_S), rc8 x0 x1 x2 σ = some (r0, σ0) → ob_ nn 12 x0 → js_at p l e 128 s m args below meth c D B g nn 8 5 [(0, .ref (B + x0)), (1, .int x1), (2, .int x2)] [] σ (js_QI D B g nn r0 σ0)) (rc43 : Nat → Int32 → Int32 → Int32 → js_S → Option (Int32 × js_S)) (hrc43 : ∀ (x0 : Nat) (x1 : Int32) (x2 : Int32) (x3 : Int32) (σ : js_S) (r0 : Int32) (σ0 : js_S), rc43 x0 x1 x2 x3 σ = some (r0, σ0) → ob_ nn 12 x0 → js_at p l e 128 s m args below meth c D B g nn 43 5 [(0, .ref (B + x0)), (1, .int x1), (2, .int x2), (3, .int x3)] [] σ (js_QI D B g nn r0 σ0)) : ∀ (k : Nat), ∀ (x0 : Nat) (x1 : Int32) (x2 : Int32) (x3 : Int32) (x4 : Int32) (σ : js_S) (r0 : Int32) (σ0 : js_S), fX12_eliminate_64 fu rc8 rc43 k x0 x1 x2 x3 x4 σ = some (r0, σ0) → ob_ nn 12 x0 → js_at p l e 128 s m args below meth c D B g nn 64 5 [(0, .ref (B + x0)), (1, .int x1), (2, .int x2), (3, .int x3), (4, .int x4)] [] σ (js_QI D B g nn r0 σ0) := by
  intro k
  induction k with
  | zero =>
    intro x0 x1 x2 x3 x4 σ r0 σ0 h
    cases h
  | succ k ih =>
    intro x0 x1 x2 x3 x4 σ r0 σ0 h
    exact wX12_eliminate_64b C hr hk rc8 hrc8 rc43 hrc43 (fX12_eliminate_64 fu rc8 rc43 k) ih x0 x1 x2 x3 x4 σ r0 σ0 h
set_option maxHeartbeats 4000000 in
set_option maxRecDepth 20000 in
theorem wX12_eliminate_43b (C : js_C D g p m c cX12_eliminate 5 s args RX12) (hr : meth.sig.returnType = (some .int)) (hk : meth.locks = false) (rc8 : Nat → Int32 → Int32 → js_S → Option (Int32 × js_S)) (hrc8 : ∀ (x0 : Nat) (x1 : Int32) (x2 : Int32) (σ : js_S) (r0 : Int32) (σ0 : js_S), rc8 x0 x1 x2 σ = some (r0, σ0) → ob_ nn 12 x0 → js_at p l e 128 s m args below meth c D B g nn 8 5 [(0, .ref (B + x0)), (1, .int x1), (2, .int x2)] [] σ (js_QI D B g nn r0 σ0)) (rc43 : Nat → Int32 → Int32 → Int32 → js_S → Option (Int32 × js_S)) (hrc43 : ∀ (x0 : Nat) (x1 : Int32) (x2 : Int32) (x3 : Int32) (σ : js_S) (r0 : Int32) (σ0 : js_S), rc43 x0 x1 x2 x3 σ = some (r0, σ0) → ob_ nn 12 x0 → js_at p l e 128 s m args below meth c D B g nn 43 5 [(0, .ref (B + x0)), (1, .int x1), (2, .int x2), (3, .int x3)] [] σ (js_QI D B g nn r0 σ0)) : ∀ (x0 : Nat) (x1 : Int32) (x2 : Int32) (x3 : Int32) (σ : js_S) (r0 : Int32) (σ0 : js_S), fX12_eliminate_43b fu rc8 rc43 x0 x1 x2 x3 σ = some (r0, σ0) → ob_ nn 12 x0 → js_at p l e 128 s m args below meth c D B g nn 43 5 [(0, .ref (B + x0)), (1, .int x1), (2, .int x2), (3, .int x3)] [] σ (js_QI D B g nn r0 σ0) := by
  obtain ⟨hx, hb, hml, hown, ht, hK, hNw⟩ := id C
  intro x0 x1 x2 x3 σ r0 σ0 h t0 H locs hT ls hl
  unfold fX12_eliminate_43b at h
  refine lv_iload_n hx hb dX12_eliminate_43 rfl (lv_at hl 3 rfl) ?_
  refine lv_aload_n hx hb dX12_eliminate_44 rfl (lv_at hl 0 rfl) ?_
  refine js_gI C hT cfX12 t0 24 (by decide) rfl lk_X12_220 dX12_eliminate_45 ?_
  refine lv_icmp_ge (tgt := 147) hx hb dX12_eliminate_48 (by decide) (fun c1 => ?_) (fun c1 => ?_)
  · rw [if_pos c1] at h
    refine lv_iconst (v := 0) hx hb dX12_eliminate_147 (by decide) ?_
    refine lv_istore_n (lv' := [(3, .int 0), (0, .ref (B + x0)), (1, .int x1), (2, .int x2)]) hx hb dX12_eliminate_148 rfl hl (by decide) rfl (fun ls hl => ?_)
    exact wX12_eliminate_149 C hr hk rc8 hrc8 _ _ _ _ _ _ _ _ h t0 H locs hT ls (lv_sub hl [1, 2, 3, 0] rfl)
  · rw [if_neg c1] at h
    refine lv_aload_n hx hb dX12_eliminate_51 rfl (lv_at hl 0 rfl) ?_
    refine lv_iload_n hx hb dX12_eliminate_52 rfl (lv_at hl 3 rfl) ?_
    obtain ⟨r2, σ2, hc2, h⟩ := bd_some h
    refine js_backI hT (js_runV C hT cfX12 t0 rfl mfX12_findProjection lk_X12_265 (kX12_findProjection t0 hc2) ⟨Nat.le_of_ble_eq_true rfl, Nat.le_of_ble_eq_true rfl⟩ rfl hl.1 rfl (Nat.le_of_ble_eq_true rfl) ⟨Nat.zero_le _, Nat.zero_le _⟩ dX12_eliminate_53) (fun H locs hT => ?_)
    refine lv_if_lt (tgt := 141) hx hb dX12_eliminate_56 (by decide) (fun c3 => ?_) (fun c3 => ?_)
    · rw [if_pos c3] at h
      exact wX12_eliminate_141 C hr hk rc8 hrc8 rc43 hrc43 _ _ _ _ _ _ _ h t0 H locs hT ls (lv_sub hl [0, 1, 2, 3] rfl)
    · rw [if_neg c3] at h
      refine lv_iconst (v := 1) hx hb dX12_eliminate_59 (by decide) ?_
      refine lv_istore_n (lv' := [(2, .int 1), (0, .ref (B + x0)), (1, .int x1), (3, .int x3)]) hx hb dX12_eliminate_60 rfl hl (by decide) rfl (fun ls hl => ?_)
      refine lv_iconst (v := 0) hx hb dX12_eliminate_61 (by decide) ?_
      refine lv_istore (lv' := [(4, .int 0), (2, .int 1), (0, .ref (B + x0)), (1, .int x1), (3, .int x3)]) hx hb dX12_eliminate_62 hl (by decide) rfl (fun ls hl => ?_)
      exact wX12_eliminate_64 C hr hk rc8 hrc8 rc43 hrc43 _ _ _ _ _ _ _ _ _ h t0 H locs hT ls (lv_sub hl [2, 3, 1, 4, 0] rfl)
set_option maxHeartbeats 4000000 in
set_option maxRecDepth 20000 in
theorem wX12_eliminate_43 (C : js_C D g p m c cX12_eliminate 5 s args RX12) (hr : meth.sig.returnType = (some .int)) (hk : meth.locks = false) (rc8 : Nat → Int32 → Int32 → js_S → Option (Int32 × js_S)) (hrc8 : ∀ (x0 : Nat) (x1 : Int32) (x2 : Int32) (σ : js_S) (r0 : Int32) (σ0 : js_S), rc8 x0 x1 x2 σ = some (r0, σ0) → ob_ nn 12 x0 → js_at p l e 128 s m args below meth c D B g nn 8 5 [(0, .ref (B + x0)), (1, .int x1), (2, .int x2)] [] σ (js_QI D B g nn r0 σ0)) : ∀ (k : Nat), ∀ (x0 : Nat) (x1 : Int32) (x2 : Int32) (x3 : Int32) (σ : js_S) (r0 : Int32) (σ0 : js_S), fX12_eliminate_43 fu rc8 k x0 x1 x2 x3 σ = some (r0, σ0) → ob_ nn 12 x0 → js_at p l e 128 s m args below meth c D B g nn 43 5 [(0, .ref (B + x0)), (1, .int x1), (2, .int x2), (3, .int x3)] [] σ (js_QI D B g nn r0 σ0) := by
  intro k
  induction k with
  | zero =>
    intro x0 x1 x2 x3 σ r0 σ0 h
    cases h
  | succ k ih =>
    intro x0 x1 x2 x3 σ r0 σ0 h
    exact wX12_eliminate_43b C hr hk rc8 hrc8 (fX12_eliminate_43 fu rc8 k) ih x0 x1 x2 x3 σ r0 σ0 h
set_option maxHeartbeats 4000000 in
set_option maxRecDepth 20000 in
theorem wX12_eliminate_20b (C : js_C D g p m c cX12_eliminate 5 s args RX12) (hr : meth.sig.returnType = (some .int)) (hk : meth.locks = false) (rc8 : Nat → Int32 → Int32 → js_S → Option (Int32 × js_S)) (hrc8 : ∀ (x0 : Nat) (x1 : Int32) (x2 : Int32) (σ : js_S) (r0 : Int32) (σ0 : js_S), rc8 x0 x1 x2 σ = some (r0, σ0) → ob_ nn 12 x0 → js_at p l e 128 s m args below meth c D B g nn 8 5 [(0, .ref (B + x0)), (1, .int x1), (2, .int x2)] [] σ (js_QI D B g nn r0 σ0)) (rc20 : Nat → Int32 → Int32 → Int32 → js_S → Option (Int32 × js_S)) (hrc20 : ∀ (x0 : Nat) (x1 : Int32) (x2 : Int32) (x3 : Int32) (σ : js_S) (r0 : Int32) (σ0 : js_S), rc20 x0 x1 x2 x3 σ = some (r0, σ0) → ob_ nn 12 x0 → js_at p l e 128 s m args below meth c D B g nn 20 5 [(0, .ref (B + x0)), (1, .int x1), (2, .int x2), (3, .int x3)] [] σ (js_QI D B g nn r0 σ0)) : ∀ (x0 : Nat) (x1 : Int32) (x2 : Int32) (x3 : Int32) (σ : js_S) (r0 : Int32) (σ0 : js_S), fX12_eliminate_20b fu rc8 rc20 x0 x1 x2 x3 σ = some (r0, σ0) → ob_ nn 12 x0 → js_at p l e 128 s m args below meth c D B g nn 20 5 [(0, .ref (B + x0)), (1, .int x1), (2, .int x2), (3, .int x3)] [] σ (js_QI D B g nn r0 σ0) := by
  obtain ⟨hx, hb, hml, hown, ht, hK, hNw⟩ := id C
  intro x0 x1 x2 x3 σ r0 σ0 h t0 H locs hT ls hl
  unfold fX12_eliminate_20b at h
  refine lv_iload_n hx hb dX12_eliminate_20 rfl (lv_at hl 3 rfl) ?_
  refine lv_aload_n hx hb dX12_eliminate_21 rfl (lv_at hl 0 rfl) ?_
  refine js_gI C hT cfX12 t0 23 (by decide) rfl lk_X12_211 dX12_eliminate_22 ?_
  refine lv_icmp_ge (tgt := 41) hx hb dX12_eliminate_25 (by decide) (fun c1 => ?_) (fun c1 => ?_)
  · rw [if_pos c1] at h
    refine lv_iconst (v := 0) hx hb dX12_eliminate_41 (by decide) ?_
    refine lv_istore_n (lv' := [(3, .int 0), (0, .ref (B + x0)), (1, .int x1), (2, .int x2)]) hx hb dX12_eliminate_42 rfl hl (by decide) rfl (fun ls hl => ?_)
    exact wX12_eliminate_43 C hr hk rc8 hrc8 _ _ _ _ _ _ _ _ h t0 H locs hT ls (lv_sub hl [1, 2, 3, 0] rfl)
  · rw [if_neg c1] at h
    refine lv_aload_n hx hb dX12_eliminate_28 rfl (lv_at hl 0 rfl) ?_
    refine js_gR C hT cfX12 t0 33 (by decide) (q := 22) rfl (by decide) lk_X12_88 dX12_eliminate_29 (fun t2a => ?_)
    refine lv_iload_n hx hb dX12_eliminate_32 rfl (lv_at hl 3 rfl) ?_
    refine lv_iconst (v := 0) hx hb dX12_eliminate_33 (by decide) ?_
    obtain ⟨g3, h⟩ := gd_some _ h
    obtain ⟨σ3, e3, h⟩ := lt_some h
    refine js_zast C hT t2a g3 dX12_eliminate_34 (fun H locs hT => ?_)
    rw [e3] at hT
    refine lv_iinc (v := x3 + 1) (lv' := [(3, .int (x3 + 1)), (0, .ref (B + x0)), (1, .int x1), (2, .int x2)]) hx hb dX12_eliminate_35 hl (k := 3) rfl rfl (by decide) rfl (fun ls hl => ?_)
    refine lv_goto (tgt := 20) hx hb dX12_eliminate_38 (by decide) ?_
    exact hrc20 _ _ _ _ _ _ _ h t0 H locs hT ls (lv_sub hl [1, 2, 3, 0] rfl)
set_option maxHeartbeats 4000000 in
set_option maxRecDepth 20000 in
theorem wX12_eliminate_20 (C : js_C D g p m c cX12_eliminate 5 s args RX12) (hr : meth.sig.returnType = (some .int)) (hk : meth.locks = false) (rc8 : Nat → Int32 → Int32 → js_S → Option (Int32 × js_S)) (hrc8 : ∀ (x0 : Nat) (x1 : Int32) (x2 : Int32) (σ : js_S) (r0 : Int32) (σ0 : js_S), rc8 x0 x1 x2 σ = some (r0, σ0) → ob_ nn 12 x0 → js_at p l e 128 s m args below meth c D B g nn 8 5 [(0, .ref (B + x0)), (1, .int x1), (2, .int x2)] [] σ (js_QI D B g nn r0 σ0)) : ∀ (k : Nat), ∀ (x0 : Nat) (x1 : Int32) (x2 : Int32) (x3 : Int32) (σ : js_S) (r0 : Int32) (σ0 : js_S), fX12_eliminate_20 fu rc8 k x0 x1 x2 x3 σ = some (r0, σ0) → ob_ nn 12 x0 → js_at p l e 128 s m args below meth c D B g nn 20 5 [(0, .ref (B + x0)), (1, .int x1), (2, .int x2), (3, .int x3)] [] σ (js_QI D B g nn r0 σ0) := by
  intro k
  induction k with
  | zero =>
    intro x0 x1 x2 x3 σ r0 σ0 h
    cases h
  | succ k ih =>
    intro x0 x1 x2 x3 σ r0 σ0 h
    exact wX12_eliminate_20b C hr hk rc8 hrc8 (fX12_eliminate_20 fu rc8 k) ih x0 x1 x2 x3 σ r0 σ0 h
set_option maxHeartbeats 4000000 in
set_option maxRecDepth 20000 in
theorem wX12_eliminate_8b (C : js_C D g p m c cX12_eliminate 5 s args RX12) (hr : meth.sig.returnType = (some .int)) (hk : meth.locks = false) (rc8 : Nat → Int32 → Int32 → js_S → Option (Int32 × js_S)) (hrc8 : ∀ (x0 : Nat) (x1 : Int32) (x2 : Int32) (σ : js_S) (r0 : Int32) (σ0 : js_S), rc8 x0 x1 x2 σ = some (r0, σ0) → ob_ nn 12 x0 → js_at p l e 128 s m args below meth c D B g nn 8 5 [(0, .ref (B + x0)), (1, .int x1), (2, .int x2)] [] σ (js_QI D B g nn r0 σ0)) : ∀ (x0 : Nat) (x1 : Int32) (x2 : Int32) (σ : js_S) (r0 : Int32) (σ0 : js_S), fX12_eliminate_8b fu rc8 x0 x1 x2 σ = some (r0, σ0) → ob_ nn 12 x0 → js_at p l e 128 s m args below meth c D B g nn 8 5 [(0, .ref (B + x0)), (1, .int x1), (2, .int x2)] [] σ (js_QI D B g nn r0 σ0) := by
  obtain ⟨hx, hb, hml, hown, ht, hK, hNw⟩ := id C
  intro x0 x1 x2 σ r0 σ0 h t0 H locs hT ls hl
  unfold fX12_eliminate_8b at h
  refine lv_iload_n hx hb dX12_eliminate_8 rfl (lv_at hl 2 rfl) ?_
  refine lv_if_eq (tgt := 201) hx hb dX12_eliminate_9 (by decide) (fun c1 => ?_) (fun c1 => ?_)
  · rw [if_pos c1] at h
    refine lv_iload_n hx hb dX12_eliminate_201 rfl (lv_at hl 1 rfl) ?_
    obtain ⟨rfl, rfl⟩ := js_rt h
    exact js_iret C hT hr hk dX12_eliminate_202
  · rw [if_neg c1] at h
    refine lv_aload_n hx hb dX12_eliminate_12 rfl (lv_at hl 0 rfl) ?_
    obtain ⟨z2, σ2, hc2, h⟩ := bd_some h
    refine js_backV hT (js_runV C hT cfX12 t0 rfl mfX12_findComponents lk_X12_226 (kX12_findComponents t0 hc2) ⟨Nat.le_of_ble_eq_true rfl, Nat.le_of_ble_eq_true rfl⟩ rfl hl.1 rfl (Nat.le_of_ble_eq_true rfl) ⟨Nat.zero_le _, Nat.zero_le _⟩ dX12_eliminate_13) (fun H locs hT => ?_)
    refine lv_iconst (v := 0) hx hb dX12_eliminate_16 (by decide) ?_
    refine lv_istore_n (lv' := [(2, .int 0), (0, .ref (B + x0)), (1, .int x1)]) hx hb dX12_eliminate_17 rfl hl (by decide) rfl (fun ls hl => ?_)
    refine lv_iconst (v := 0) hx hb dX12_eliminate_18 (by decide) ?_
    refine lv_istore_n (lv' := [(3, .int 0), (2, .int 0), (0, .ref (B + x0)), (1, .int x1)]) hx hb dX12_eliminate_19 rfl hl (by decide) rfl (fun ls hl => ?_)
    exact wX12_eliminate_20 C hr hk rc8 hrc8 _ _ _ _ _ _ _ _ h t0 H locs hT ls (lv_sub hl [2, 3, 1, 0] rfl)
set_option maxHeartbeats 4000000 in
set_option maxRecDepth 20000 in
theorem wX12_eliminate_8 (C : js_C D g p m c cX12_eliminate 5 s args RX12) (hr : meth.sig.returnType = (some .int)) (hk : meth.locks = false) : ∀ (k : Nat), ∀ (x0 : Nat) (x1 : Int32) (x2 : Int32) (σ : js_S) (r0 : Int32) (σ0 : js_S), fX12_eliminate_8 fu k x0 x1 x2 σ = some (r0, σ0) → ob_ nn 12 x0 → js_at p l e 128 s m args below meth c D B g nn 8 5 [(0, .ref (B + x0)), (1, .int x1), (2, .int x2)] [] σ (js_QI D B g nn r0 σ0) := by
  intro k
  induction k with
  | zero =>
    intro x0 x1 x2 σ r0 σ0 h
    cases h
  | succ k ih =>
    intro x0 x1 x2 σ r0 σ0 h
    exact wX12_eliminate_8b C hr hk (fX12_eliminate_8 fu k) ih x0 x1 x2 σ r0 σ0 h
set_option maxHeartbeats 4000000 in
set_option maxRecDepth 20000 in
theorem kX12_eliminate {x0 : Nat} {σ σ0 : js_S} {r0 : Int32} (t0 : ob_ nn 12 x0) (h : fX12_eliminate fu x0 σ = some (r0, σ0)) : js_M l D B g nn yX12_eliminate cX12_eliminate 5 (some .int) 128 [.ref (B + x0)] σ (js_QI D B g nn r0 σ0) := by
  refine js_enter (by decide) (Nat.le_of_ble_eq_true rfl) ?_
  intro p e s m args below meth c C hr hk ls hl hT
  have hl : lv_has ls 5 [(0, .ref (B + x0))] := hl
  obtain ⟨hx, hb, hml, hown, ht, hK, hNw⟩ := id C
  obtain ⟨H, eH⟩ : ∃ H, H = s.heap := ⟨_, rfl⟩
  obtain ⟨locs, eL⟩ : ∃ z : List Loc, z = [] := ⟨_, rfl⟩
  rw [← eH, ← eL]
  rw [← eH, ← eL] at hT
  clear eH eL
  unfold fX12_eliminate at h
  refine lv_aload_n hx hb dX12_eliminate_0 rfl (lv_at hl 0 rfl) ?_
  obtain ⟨z1, σ1, hc1, h⟩ := bd_some h
  refine js_backV hT (js_runV C hT cfX12 t0 rfl mfX12_findGraph lk_X12_223 (kX12_findGraph t0 hc1) ⟨Nat.le_of_ble_eq_true rfl, Nat.le_of_ble_eq_true rfl⟩ rfl hl.1 rfl (Nat.le_of_ble_eq_true rfl) ⟨Nat.zero_le _, Nat.zero_le _⟩ dX12_eliminate_1) (fun H locs hT => ?_)
  refine lv_iconst (v := 0) hx hb dX12_eliminate_4 (by decide) ?_
  refine lv_istore_n (lv' := [(1, .int 0), (0, .ref (B + x0))]) hx hb dX12_eliminate_5 rfl hl (by decide) rfl (fun ls hl => ?_)
  refine lv_iconst (v := 1) hx hb dX12_eliminate_6 (by decide) ?_
  refine lv_istore_n (lv' := [(2, .int 1), (1, .int 0), (0, .ref (B + x0))]) hx hb dX12_eliminate_7 rfl hl (by decide) rfl (fun ls hl => ?_)
  exact wX12_eliminate_8 C hr hk _ _ _ _ _ _ _ h t0 H locs hT ls (lv_sub hl [2, 1, 0] rfl)
set_option maxHeartbeats 4000000 in
set_option maxRecDepth 20000 in
theorem kX12_eliminationRounds {x0 : Nat} {σ σ0 : js_S} {r0 : Int32} (t0 : ob_ nn 12 x0) (h : fX12_eliminationRounds fu x0 σ = some (r0, σ0)) : js_M l D B g nn yX12_eliminationRounds cX12_eliminationRounds 1 (some .int) 129 [.ref (B + x0)] σ (js_QI D B g nn r0 σ0) := by
  refine js_enter (by decide) (Nat.le_of_ble_eq_true rfl) ?_
  intro p e s m args below meth c C hr hk ls hl hT
  have hl : lv_has ls 1 [(0, .ref (B + x0))] := hl
  obtain ⟨hx, hb, hml, hown, ht, hK, hNw⟩ := id C
  obtain ⟨H, eH⟩ : ∃ H, H = s.heap := ⟨_, rfl⟩
  obtain ⟨locs, eL⟩ : ∃ z : List Loc, z = [] := ⟨_, rfl⟩
  rw [← eH, ← eL]
  rw [← eH, ← eL] at hT
  clear eH eL
  unfold fX12_eliminationRounds at h
  refine lv_aload_n hx hb dX12_eliminationRounds_0 rfl (lv_at hl 0 rfl) ?_
  obtain ⟨r1, σ1, hc1, h⟩ := bd_some h
  refine js_backI hT (js_runV C hT cfX12 t0 rfl mfX12_eliminate lk_X12_268 (kX12_eliminate t0 hc1) ⟨Nat.le_of_ble_eq_true rfl, Nat.le_of_ble_eq_true rfl⟩ rfl hl.1 rfl (Nat.le_of_ble_eq_true rfl) ⟨Nat.zero_le _, Nat.zero_le _⟩ dX12_eliminationRounds_1) (fun H locs hT => ?_)
  obtain ⟨rfl, rfl⟩ := js_rt h
  exact js_iret C hT hr hk dX12_eliminationRounds_4
set_option maxHeartbeats 4000000 in
set_option maxRecDepth 20000 in
theorem wX12_isMet_40 (C : js_C D g p m c cX12_isMet 3 s args RX12) (hr : meth.sig.returnType = (some .boolean)) (hk : meth.locks = false) (rc4 : Nat → Int32 → Int32 → js_S → Option (Int32 × js_S)) (hrc4 : ∀ (x0 : Nat) (x1 : Int32) (x2 : Int32) (σ : js_S) (r0 : Int32) (σ0 : js_S), rc4 x0 x1 x2 σ = some (r0, σ0) → ob_ nn 12 x0 → js_at p l e 1 s m args below meth c D B g nn 4 3 [(0, .ref (B + x0)), (1, .int x1), (2, .int x2)] [] σ (js_QI D B g nn r0 σ0)) : ∀ (x0 : Nat) (x2 : Int32) (y0 : Int32) (σ : js_S) (r0 : Int32) (σ0 : js_S), fX12_isMet_40 fu rc4 x0 x2 y0 σ = some (r0, σ0) → ob_ nn 12 x0 → js_at p l e 1 s m args below meth c D B g nn 40 3 [(0, .ref (B + x0)), (2, .int x2)] [.int y0] σ (js_QI D B g nn r0 σ0) := by
  obtain ⟨hx, hb, hml, hown, ht, hK, hNw⟩ := id C
  intro x0 x2 y0 σ r0 σ0 h t0 H locs hT ls hl
  unfold fX12_isMet_40 at h
  refine lv_istore_n (lv' := [(1, .int y0), (0, .ref (B + x0)), (2, .int x2)]) hx hb dX12_isMet_40 rfl hl (by decide) rfl (fun ls hl => ?_)
  refine lv_iinc (v := x2 + 1) (lv' := [(2, .int (x2 + 1)), (1, .int y0), (0, .ref (B + x0))]) hx hb dX12_isMet_41 hl (k := 2) rfl rfl (by decide) rfl (fun ls hl => ?_)
  refine lv_goto (tgt := 4) hx hb dX12_isMet_44 (by decide) ?_
  exact hrc4 _ _ _ _ _ _ h t0 H locs hT ls (lv_sub hl [2, 1, 0] rfl)
set_option maxHeartbeats 4000000 in
set_option maxRecDepth 20000 in
theorem wX12_isMet_4b (C : js_C D g p m c cX12_isMet 3 s args RX12) (hr : meth.sig.returnType = (some .boolean)) (hk : meth.locks = false) (rc4 : Nat → Int32 → Int32 → js_S → Option (Int32 × js_S)) (hrc4 : ∀ (x0 : Nat) (x1 : Int32) (x2 : Int32) (σ : js_S) (r0 : Int32) (σ0 : js_S), rc4 x0 x1 x2 σ = some (r0, σ0) → ob_ nn 12 x0 → js_at p l e 1 s m args below meth c D B g nn 4 3 [(0, .ref (B + x0)), (1, .int x1), (2, .int x2)] [] σ (js_QI D B g nn r0 σ0)) : ∀ (x0 : Nat) (x1 : Int32) (x2 : Int32) (σ : js_S) (r0 : Int32) (σ0 : js_S), fX12_isMet_4b fu rc4 x0 x1 x2 σ = some (r0, σ0) → ob_ nn 12 x0 → js_at p l e 1 s m args below meth c D B g nn 4 3 [(0, .ref (B + x0)), (1, .int x1), (2, .int x2)] [] σ (js_QI D B g nn r0 σ0) := by
  obtain ⟨hx, hb, hml, hown, ht, hK, hNw⟩ := id C
  intro x0 x1 x2 σ r0 σ0 h t0 H locs hT ls hl
  unfold fX12_isMet_4b at h
  refine lv_iload_n hx hb dX12_isMet_4 rfl (lv_at hl 2 rfl) ?_
  refine lv_aload_n hx hb dX12_isMet_5 rfl (lv_at hl 0 rfl) ?_
  refine js_gI C hT cfX12 t0 38 (by decide) rfl lk_X12_307 dX12_isMet_6 ?_
  refine lv_icmp_ge (tgt := 47) hx hb dX12_isMet_9 (by decide) (fun c1 => ?_) (fun c1 => ?_)
  · rw [if_pos c1] at h
    refine lv_iload_n hx hb dX12_isMet_47 rfl (lv_at hl 1 rfl) ?_
    obtain ⟨g2, h⟩ := gd_some _ h
    obtain ⟨rfl, rfl⟩ := js_rt h
    exact js_zret C hT hr hk g2 dX12_isMet_48
  · rw [if_neg c1] at h
    refine lv_iload_n hx hb dX12_isMet_12 rfl (lv_at hl 1 rfl) ?_
    refine lv_if_ne (tgt := 47) hx hb dX12_isMet_13 (by decide) (fun c3 => ?_) (fun c3 => ?_)
    · rw [if_neg c3] at h
      refine lv_iload_n hx hb dX12_isMet_47 rfl (lv_at hl 1 rfl) ?_
      obtain ⟨g4, h⟩ := gd_some _ h
      obtain ⟨rfl, rfl⟩ := js_rt h
      exact js_zret C hT hr hk g4 dX12_isMet_48
    · rw [if_pos c3] at h
      refine lv_aload_n hx hb dX12_isMet_16 rfl (lv_at hl 0 rfl) ?_
      refine js_gR C hT cfX12 t0 36 (by decide) (q := 20) rfl (by decide) lk_X12_95 dX12_isMet_17 (fun t5a => ?_)
      refine lv_bipush (v := 96) hx hb dX12_isMet_20 (by decide) ?_
      refine lv_iload_n hx hb dX12_isMet_22 rfl (lv_at hl 2 rfl) ?_
      refine lv_imul hx hb dX12_isMet_23 ?_
      refine lv_aload_n hx hb dX12_isMet_24 rfl (lv_at hl 0 rfl) ?_
      refine js_gR C hT cfX12 t0 11 (by decide) (q := 20) rfl (by decide) lk_X12_34 dX12_isMet_25 (fun t6a => ?_)
      refine lv_iconst (v := 0) hx hb dX12_isMet_28 (by decide) ?_
      obtain ⟨r7, σ7, hc7, h⟩ := bd_some h
      refine js_backI hT (js_runS C hT mfX12_compare lk_X12_288 (kX12_compare t5a t6a hc7) ⟨Nat.le_of_ble_eq_true rfl, Nat.le_of_ble_eq_true rfl⟩ rfl hl.1 rfl (Nat.le_of_ble_eq_true rfl) ⟨Nat.zero_le _, Nat.zero_le _⟩ dX12_isMet_29) (fun H locs hT => ?_)
      refine lv_if_ne (tgt := 39) hx hb dX12_isMet_32 (by decide) (fun c8 => ?_) (fun c8 => ?_)
      · rw [if_neg c8] at h
        refine lv_iconst (v := 0) hx hb dX12_isMet_39 (by decide) ?_
        exact wX12_isMet_40 C hr hk rc4 hrc4 _ _ _ _ _ _ h t0 H locs hT ls (lv_sub hl [0, 2] rfl)
      · rw [if_pos c8] at h
        refine lv_iconst (v := 1) hx hb dX12_isMet_35 (by decide) ?_
        refine lv_goto (tgt := 40) hx hb dX12_isMet_36 (by decide) ?_
        exact wX12_isMet_40 C hr hk rc4 hrc4 _ _ _ _ _ _ h t0 H locs hT ls (lv_sub hl [0, 2] rfl)
set_option maxHeartbeats 4000000 in
set_option maxRecDepth 20000 in
theorem wX12_isMet_4 (C : js_C D g p m c cX12_isMet 3 s args RX12) (hr : meth.sig.returnType = (some .boolean)) (hk : meth.locks = false) : ∀ (k : Nat), ∀ (x0 : Nat) (x1 : Int32) (x2 : Int32) (σ : js_S) (r0 : Int32) (σ0 : js_S), fX12_isMet_4 fu k x0 x1 x2 σ = some (r0, σ0) → ob_ nn 12 x0 → js_at p l e 1 s m args below meth c D B g nn 4 3 [(0, .ref (B + x0)), (1, .int x1), (2, .int x2)] [] σ (js_QI D B g nn r0 σ0) := by
  intro k
  induction k with
  | zero =>
    intro x0 x1 x2 σ r0 σ0 h
    cases h
  | succ k ih =>
    intro x0 x1 x2 σ r0 σ0 h
    exact wX12_isMet_4b C hr hk (fX12_isMet_4 fu k) ih x0 x1 x2 σ r0 σ0 h
set_option maxHeartbeats 4000000 in
set_option maxRecDepth 20000 in
theorem kX12_isMet {x0 : Nat} {σ σ0 : js_S} {r0 : Int32} (t0 : ob_ nn 12 x0) (h : fX12_isMet fu x0 σ = some (r0, σ0)) : js_M l D B g nn yX12_isMet cX12_isMet 3 (some .boolean) 1 [.ref (B + x0)] σ (js_QI D B g nn r0 σ0) := by
  refine js_enter (by decide) (Nat.le_of_ble_eq_true rfl) ?_
  intro p e s m args below meth c C hr hk ls hl hT
  have hl : lv_has ls 3 [(0, .ref (B + x0))] := hl
  obtain ⟨hx, hb, hml, hown, ht, hK, hNw⟩ := id C
  obtain ⟨H, eH⟩ : ∃ H, H = s.heap := ⟨_, rfl⟩
  obtain ⟨locs, eL⟩ : ∃ z : List Loc, z = [] := ⟨_, rfl⟩
  rw [← eH, ← eL]
  rw [← eH, ← eL] at hT
  clear eH eL
  unfold fX12_isMet at h
  refine lv_iconst (v := 0) hx hb dX12_isMet_0 (by decide) ?_
  refine lv_istore_n (lv' := [(1, .int 0), (0, .ref (B + x0))]) hx hb dX12_isMet_1 rfl hl (by decide) rfl (fun ls hl => ?_)
  refine lv_iconst (v := 0) hx hb dX12_isMet_2 (by decide) ?_
  refine lv_istore_n (lv' := [(2, .int 0), (1, .int 0), (0, .ref (B + x0))]) hx hb dX12_isMet_3 rfl hl (by decide) rfl (fun ls hl => ?_)
  exact wX12_isMet_4 C hr hk _ _ _ _ _ _ _ h t0 H locs hT ls (lv_sub hl [2, 1, 0] rfl)
set_option maxHeartbeats 4000000 in
set_option maxRecDepth 20000 in
theorem wX12_lowestUnexpanded_50 (C : js_C D g p m c cX12_lowestUnexpanded 3 s args RX12) (hr : meth.sig.returnType = (some .int)) (hk : meth.locks = false) (rc5 : Nat → Int32 → Int32 → js_S → Option (Int32 × js_S)) (hrc5 : ∀ (x0 : Nat) (x1 : Int32) (x2 : Int32) (σ : js_S) (r0 : Int32) (σ0 : js_S), rc5 x0 x1 x2 σ = some (r0, σ0) → ob_ nn 12 x0 → js_at p l e 1 s m args below meth c D B g nn 5 3 [(0, .ref (B + x0)), (1, .int x1), (2, .int x2)] [] σ (js_QI D B g nn r0 σ0)) : ∀ (x0 : Nat) (x1 : Int32) (x2 : Int32) (σ : js_S) (r0 : Int32) (σ0 : js_S), fX12_lowestUnexpanded_50 fu rc5 x0 x1 x2 σ = some (r0, σ0) → ob_ nn 12 x0 → js_at p l e 1 s m args below meth c D B g nn 50 3 [(0, .ref (B + x0)), (1, .int x1), (2, .int x2)] [] σ (js_QI D B g nn r0 σ0) := by
  obtain ⟨hx, hb, hml, hown, ht, hK, hNw⟩ := id C
  intro x0 x1 x2 σ r0 σ0 h t0 H locs hT ls hl
  unfold fX12_lowestUnexpanded_50 at h
  refine lv_iinc (v := x2 + 1) (lv' := [(2, .int (x2 + 1)), (0, .ref (B + x0)), (1, .int x1)]) hx hb dX12_lowestUnexpanded_50 hl (k := 2) rfl rfl (by decide) rfl (fun ls hl => ?_)
  refine lv_goto (tgt := 5) hx hb dX12_lowestUnexpanded_53 (by decide) ?_
  exact hrc5 _ _ _ _ _ _ h t0 H locs hT ls (lv_sub hl [1, 2, 0] rfl)
set_option maxHeartbeats 4000000 in
set_option maxRecDepth 20000 in
theorem wX12_lowestUnexpanded_48 (C : js_C D g p m c cX12_lowestUnexpanded 3 s args RX12) (hr : meth.sig.returnType = (some .int)) (hk : meth.locks = false) (rc5 : Nat → Int32 → Int32 → js_S → Option (Int32 × js_S)) (hrc5 : ∀ (x0 : Nat) (x1 : Int32) (x2 : Int32) (σ : js_S) (r0 : Int32) (σ0 : js_S), rc5 x0 x1 x2 σ = some (r0, σ0) → ob_ nn 12 x0 → js_at p l e 1 s m args below meth c D B g nn 5 3 [(0, .ref (B + x0)), (1, .int x1), (2, .int x2)] [] σ (js_QI D B g nn r0 σ0)) : ∀ (x0 : Nat) (x2 : Int32) (σ : js_S) (r0 : Int32) (σ0 : js_S), fX12_lowestUnexpanded_48 fu rc5 x0 x2 σ = some (r0, σ0) → ob_ nn 12 x0 → js_at p l e 1 s m args below meth c D B g nn 48 3 [(0, .ref (B + x0)), (2, .int x2)] [] σ (js_QI D B g nn r0 σ0) := by
  obtain ⟨hx, hb, hml, hown, ht, hK, hNw⟩ := id C
  intro x0 x2 σ r0 σ0 h t0 H locs hT ls hl
  unfold fX12_lowestUnexpanded_48 at h
  refine lv_iload_n hx hb dX12_lowestUnexpanded_48 rfl (lv_at hl 1 rfl) ?_
  refine lv_istore_n (lv' := [(1, .int x2), (0, .ref (B + x0)), (2, .int x2)]) hx hb dX12_lowestUnexpanded_49 rfl hl (by decide) rfl (fun ls hl => ?_)
  exact wX12_lowestUnexpanded_50 C hr hk rc5 hrc5 _ _ _ _ _ _ h t0 H locs hT ls (lv_sub hl [1, 0, 2] rfl)
set_option maxHeartbeats 4000000 in
set_option maxRecDepth 20000 in
theorem wX12_lowestUnexpanded_5b (C : js_C D g p m c cX12_lowestUnexpanded 3 s args RX12) (hr : meth.sig.returnType = (some .int)) (hk : meth.locks = false) (rc5 : Nat → Int32 → Int32 → js_S → Option (Int32 × js_S)) (hrc5 : ∀ (x0 : Nat) (x1 : Int32) (x2 : Int32) (σ : js_S) (r0 : Int32) (σ0 : js_S), rc5 x0 x1 x2 σ = some (r0, σ0) → ob_ nn 12 x0 → js_at p l e 1 s m args below meth c D B g nn 5 3 [(0, .ref (B + x0)), (1, .int x1), (2, .int x2)] [] σ (js_QI D B g nn r0 σ0)) : ∀ (x0 : Nat) (x1 : Int32) (x2 : Int32) (σ : js_S) (r0 : Int32) (σ0 : js_S), fX12_lowestUnexpanded_5b fu rc5 x0 x1 x2 σ = some (r0, σ0) → ob_ nn 12 x0 → js_at p l e 1 s m args below meth c D B g nn 5 3 [(0, .ref (B + x0)), (1, .int x1), (2, .int x2)] [] σ (js_QI D B g nn r0 σ0) := by
  obtain ⟨hx, hb, hml, hown, ht, hK, hNw⟩ := id C
  intro x0 x1 x2 σ r0 σ0 h t0 H locs hT ls hl
  unfold fX12_lowestUnexpanded_5b at h
  refine lv_iload_n hx hb dX12_lowestUnexpanded_5 rfl (lv_at hl 2 rfl) ?_
  refine lv_aload_n hx hb dX12_lowestUnexpanded_6 rfl (lv_at hl 0 rfl) ?_
  refine js_gI C hT cfX12 t0 38 (by decide) rfl lk_X12_307 dX12_lowestUnexpanded_7 ?_
  refine lv_icmp_ge (tgt := 56) hx hb dX12_lowestUnexpanded_10 (by decide) (fun c1 => ?_) (fun c1 => ?_)
  · rw [if_pos c1] at h
    refine lv_iload_n hx hb dX12_lowestUnexpanded_56 rfl (lv_at hl 1 rfl) ?_
    obtain ⟨rfl, rfl⟩ := js_rt h
    exact js_iret C hT hr hk dX12_lowestUnexpanded_57
  · rw [if_neg c1] at h
    refine lv_aload_n hx hb dX12_lowestUnexpanded_13 rfl (lv_at hl 0 rfl) ?_
    refine js_gR C hT cfX12 t0 37 (by decide) (q := 22) rfl (by decide) lk_X12_98 dX12_lowestUnexpanded_14 (fun t2a => ?_)
    refine lv_iload_n hx hb dX12_lowestUnexpanded_17 rfl (lv_at hl 2 rfl) ?_
    obtain ⟨g3, h⟩ := gd_some _ h
    refine js_zald C hT t2a g3 dX12_lowestUnexpanded_18 ?_
    refine lv_if_ne (tgt := 50) hx hb dX12_lowestUnexpanded_19 (by decide) (fun c4 => ?_) (fun c4 => ?_)
    · rw [if_neg c4] at h
      exact wX12_lowestUnexpanded_50 C hr hk rc5 hrc5 _ _ _ _ _ _ h t0 H locs hT ls (lv_sub hl [0, 1, 2] rfl)
    · rw [if_pos c4] at h
      refine lv_iload_n hx hb dX12_lowestUnexpanded_22 rfl (lv_at hl 1 rfl) ?_
      refine lv_if_lt (tgt := 48) hx hb dX12_lowestUnexpanded_23 (by decide) (fun c5 => ?_) (fun c5 => ?_)
      · rw [if_pos c5] at h
        exact wX12_lowestUnexpanded_48 C hr hk rc5 hrc5 _ _ _ _ _ h t0 H locs hT ls (lv_sub hl [0, 2] rfl)
      · rw [if_neg c5] at h
        refine lv_aload_n hx hb dX12_lowestUnexpanded_26 rfl (lv_at hl 0 rfl) ?_
        refine js_gR C hT cfX12 t0 36 (by decide) (q := 20) rfl (by decide) lk_X12_95 dX12_lowestUnexpanded_27 (fun t6a => ?_)
        refine lv_bipush (v := 96) hx hb dX12_lowestUnexpanded_30 (by decide) ?_
        refine lv_iload_n hx hb dX12_lowestUnexpanded_32 rfl (lv_at hl 2 rfl) ?_
        refine lv_imul hx hb dX12_lowestUnexpanded_33 ?_
        refine lv_aload_n hx hb dX12_lowestUnexpanded_34 rfl (lv_at hl 0 rfl) ?_
        refine js_gR C hT cfX12 t0 36 (by decide) (q := 20) rfl (by decide) lk_X12_95 dX12_lowestUnexpanded_35 (fun t7a => ?_)
        refine lv_bipush (v := 96) hx hb dX12_lowestUnexpanded_38 (by decide) ?_
        refine lv_iload_n hx hb dX12_lowestUnexpanded_40 rfl (lv_at hl 1 rfl) ?_
        refine lv_imul hx hb dX12_lowestUnexpanded_41 ?_
        obtain ⟨r8, σ8, hc8, h⟩ := bd_some h
        refine js_backI hT (js_runS C hT mfX12_compare lk_X12_288 (kX12_compare t6a t7a hc8) ⟨Nat.le_of_ble_eq_true rfl, Nat.le_of_ble_eq_true rfl⟩ rfl hl.1 rfl (Nat.le_of_ble_eq_true rfl) ⟨Nat.zero_le _, Nat.zero_le _⟩ dX12_lowestUnexpanded_42) (fun H locs hT => ?_)
        refine lv_if_ge (tgt := 50) hx hb dX12_lowestUnexpanded_45 (by decide) (fun c9 => ?_) (fun c9 => ?_)
        · rw [if_pos c9] at h
          exact wX12_lowestUnexpanded_50 C hr hk rc5 hrc5 _ _ _ _ _ _ h t0 H locs hT ls (lv_sub hl [0, 1, 2] rfl)
        · rw [if_neg c9] at h
          exact wX12_lowestUnexpanded_48 C hr hk rc5 hrc5 _ _ _ _ _ h t0 H locs hT ls (lv_sub hl [0, 2] rfl)
set_option maxHeartbeats 4000000 in
set_option maxRecDepth 20000 in
theorem wX12_lowestUnexpanded_5 (C : js_C D g p m c cX12_lowestUnexpanded 3 s args RX12) (hr : meth.sig.returnType = (some .int)) (hk : meth.locks = false) : ∀ (k : Nat), ∀ (x0 : Nat) (x1 : Int32) (x2 : Int32) (σ : js_S) (r0 : Int32) (σ0 : js_S), fX12_lowestUnexpanded_5 fu k x0 x1 x2 σ = some (r0, σ0) → ob_ nn 12 x0 → js_at p l e 1 s m args below meth c D B g nn 5 3 [(0, .ref (B + x0)), (1, .int x1), (2, .int x2)] [] σ (js_QI D B g nn r0 σ0) := by
  intro k
  induction k with
  | zero =>
    intro x0 x1 x2 σ r0 σ0 h
    cases h
  | succ k ih =>
    intro x0 x1 x2 σ r0 σ0 h
    exact wX12_lowestUnexpanded_5b C hr hk (fX12_lowestUnexpanded_5 fu k) ih x0 x1 x2 σ r0 σ0 h
set_option maxHeartbeats 4000000 in
set_option maxRecDepth 20000 in
theorem kX12_lowestUnexpanded {x0 : Nat} {σ σ0 : js_S} {r0 : Int32} (t0 : ob_ nn 12 x0) (h : fX12_lowestUnexpanded fu x0 σ = some (r0, σ0)) : js_M l D B g nn yX12_lowestUnexpanded cX12_lowestUnexpanded 3 (some .int) 1 [.ref (B + x0)] σ (js_QI D B g nn r0 σ0) := by
  refine js_enter (by decide) (Nat.le_of_ble_eq_true rfl) ?_
  intro p e s m args below meth c C hr hk ls hl hT
  have hl : lv_has ls 3 [(0, .ref (B + x0))] := hl
  obtain ⟨hx, hb, hml, hown, ht, hK, hNw⟩ := id C
  obtain ⟨H, eH⟩ : ∃ H, H = s.heap := ⟨_, rfl⟩
  obtain ⟨locs, eL⟩ : ∃ z : List Loc, z = [] := ⟨_, rfl⟩
  rw [← eH, ← eL]
  rw [← eH, ← eL] at hT
  clear eH eL
  unfold fX12_lowestUnexpanded at h
  refine lv_bipush (v := (-5)) hx hb dX12_lowestUnexpanded_0 (by decide) ?_
  refine lv_istore_n (lv' := [(1, .int (-5)), (0, .ref (B + x0))]) hx hb dX12_lowestUnexpanded_2 rfl hl (by decide) rfl (fun ls hl => ?_)
  refine lv_iconst (v := 0) hx hb dX12_lowestUnexpanded_3 (by decide) ?_
  refine lv_istore_n (lv' := [(2, .int 0), (1, .int (-5)), (0, .ref (B + x0))]) hx hb dX12_lowestUnexpanded_4 rfl hl (by decide) rfl (fun ls hl => ?_)
  exact wX12_lowestUnexpanded_5 C hr hk _ _ _ _ _ _ _ h t0 H locs hT ls (lv_sub hl [2, 1, 0] rfl)
set_option maxHeartbeats 4000000 in
set_option maxRecDepth 20000 in
theorem kX12_meet {x0 : Nat} {x1 : Nat} {x2 : Int32} {σ σ0 : js_S} {r0 : Unit} (t0 : ob_ nn 12 x0) (t1 : ob_ nn 20 x1) (h : fX12_meet fu x0 x1 x2 σ = some (r0, σ0)) : js_M l D B g nn yX12_meet cX12_meet 3 none 1 [.ref (B + x0), .ref (B + x1), .int x2] σ (js_QV D B g nn σ0) := by
  refine js_enter (by decide) (Nat.le_of_ble_eq_true rfl) ?_
  intro p e s m args below meth c C hr hk ls hl hT
  have hl : lv_has ls 3 [(0, .ref (B + x0)), (1, .ref (B + x1)), (2, .int x2)] := hl
  obtain ⟨hx, hb, hml, hown, ht, hK, hNw⟩ := id C
  obtain ⟨H, eH⟩ : ∃ H, H = s.heap := ⟨_, rfl⟩
  obtain ⟨locs, eL⟩ : ∃ z : List Loc, z = [] := ⟨_, rfl⟩
  rw [← eH, ← eL]
  rw [← eH, ← eL] at hT
  clear eH eL
  unfold fX12_meet at h
  refine lv_aload_n hx hb dX12_meet_0 rfl (lv_at hl 1 rfl) ?_
  refine lv_iload_n hx hb dX12_meet_1 rfl (lv_at hl 2 rfl) ?_
  refine lv_aload_n hx hb dX12_meet_2 rfl (lv_at hl 0 rfl) ?_
  refine js_gR C hT cfX12 t0 36 (by decide) (q := 20) rfl (by decide) lk_X12_95 dX12_meet_3 (fun t1a => ?_)
  refine lv_bipush (v := 96) hx hb dX12_meet_6 (by decide) ?_
  refine lv_aload_n hx hb dX12_meet_8 rfl (lv_at hl 0 rfl) ?_
  refine js_gI C hT cfX12 t0 38 (by decide) rfl lk_X12_307 dX12_meet_9 ?_
  refine lv_imul hx hb dX12_meet_12 ?_
  refine lv_bipush (v := 96) hx hb dX12_meet_13 (by decide) ?_
  obtain ⟨z2, σ2, hc2, h⟩ := bd_some h
  refine js_backV hT (js_runS C hT mfX12_copy lk_X12_169 (kX12_copy t1 t1a hc2) ⟨Nat.le_of_ble_eq_true rfl, Nat.le_of_ble_eq_true rfl⟩ rfl hl.1 rfl (Nat.le_of_ble_eq_true rfl) ⟨Nat.zero_le _, Nat.zero_le _⟩ dX12_meet_15) (fun H locs hT => ?_)
  refine lv_aload_n hx hb dX12_meet_18 rfl (lv_at hl 0 rfl) ?_
  refine js_gR C hT cfX12 t0 37 (by decide) (q := 22) rfl (by decide) lk_X12_98 dX12_meet_19 (fun t3a => ?_)
  refine lv_aload_n hx hb dX12_meet_22 rfl (lv_at hl 0 rfl) ?_
  refine js_gI C hT cfX12 t0 38 (by decide) rfl lk_X12_307 dX12_meet_23 ?_
  refine lv_iconst (v := 0) hx hb dX12_meet_26 (by decide) ?_
  obtain ⟨g4, h⟩ := gd_some _ h
  obtain ⟨σ4, e4, h⟩ := lt_some h
  refine js_zast C hT t3a g4 dX12_meet_27 (fun H locs hT => ?_)
  rw [e4] at hT
  refine lv_aload_n hx hb dX12_meet_28 rfl (lv_at hl 0 rfl) ?_
  refine lv_dup hx hb dX12_meet_29 rfl ?_
  refine js_gI C hT cfX12 t0 38 (by decide) rfl lk_X12_307 dX12_meet_30 ?_
  refine lv_iconst (v := 1) hx hb dX12_meet_33 (by decide) ?_
  refine lv_iadd hx hb dX12_meet_34 ?_
  obtain ⟨σ5, e5, h⟩ := lt_some h
  refine js_pI C hT cfX12 t0 38 (by decide) rfl rfl rfl rfl lk_X12_307 dX12_meet_35 (fun H locs hT => ?_)
  rw [e5] at hT
  obtain ⟨rfl, rfl⟩ := js_rt h
  exact js_vret C hT hr hk dX12_meet_38
set_option maxHeartbeats 4000000 in
set_option maxRecDepth 20000 in
theorem kX12_variable {x0 : Int32} {σ σ0 : js_S} {r0 : Int32} (h : fX12_variable fu x0 σ = some (r0, σ0)) : js_M l D B g nn yX12_variable cX12_variable 1 (some .int) 0 [.int x0] σ (js_QI D B g nn r0 σ0) := by
  refine js_enter (by decide) (Nat.le_of_ble_eq_true rfl) ?_
  intro p e s m args below meth c C hr hk ls hl hT
  have hl : lv_has ls 1 [(0, .int x0)] := hl
  obtain ⟨hx, hb, hml, hown, ht, hK, hNw⟩ := id C
  obtain ⟨H, eH⟩ : ∃ H, H = s.heap := ⟨_, rfl⟩
  obtain ⟨locs, eL⟩ : ∃ z : List Loc, z = [] := ⟨_, rfl⟩
  rw [← eH, ← eL]
  rw [← eH, ← eL] at hT
  clear eH eL
  unfold fX12_variable at h
  refine lv_iload_n hx hb dX12_variable_0 rfl (lv_at hl 0 rfl) ?_
  refine lv_bipush (v := 120) hx hb dX12_variable_1 (by decide) ?_
  refine lv_icmp_ne (tgt := 10) hx hb dX12_variable_3 (by decide) (fun c1 => ?_) (fun c1 => ?_)
  · rw [if_neg c1] at h
    refine lv_iload_n hx hb dX12_variable_10 rfl (lv_at hl 0 rfl) ?_
    refine lv_bipush (v := 121) hx hb dX12_variable_11 (by decide) ?_
    refine lv_icmp_ne (tgt := 20) hx hb dX12_variable_13 (by decide) (fun c2 => ?_) (fun c2 => ?_)
    · rw [if_neg c2] at h
      refine lv_iconst (v := 2) hx hb dX12_variable_20 (by decide) ?_
      obtain ⟨rfl, rfl⟩ := js_rt h
      exact js_iret C hT hr hk dX12_variable_21
    · rw [if_pos c2] at h
      refine lv_iconst (v := 1) hx hb dX12_variable_16 (by decide) ?_
      refine lv_goto (tgt := 21) hx hb dX12_variable_17 (by decide) ?_
      obtain ⟨rfl, rfl⟩ := js_rt h
      exact js_iret C hT hr hk dX12_variable_21
  · rw [if_pos c1] at h
    refine lv_iconst (v := 0) hx hb dX12_variable_6 (by decide) ?_
    refine lv_goto (tgt := 21) hx hb dX12_variable_7 (by decide) ?_
    obtain ⟨rfl, rfl⟩ := js_rt h
    exact js_iret C hT hr hk dX12_variable_21
