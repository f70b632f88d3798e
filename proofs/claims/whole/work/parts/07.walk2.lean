variable {p : Program} {l : Launch} {e : Env} {s : State} {m : MethodId} {args : Array Value} {below : List Frame} {meth : Method} {c : Code} {D : va_G} {B nn fu : Nat} {g : js_G}
set_option maxHeartbeats 4000000 in
set_option maxRecDepth 20000 in
theorem wX5_connectPairs_75 (C : js_C D g p m c cX5_connectPairs 5 s args RX5) (hr : meth.sig.returnType = none) (hk : meth.locks = false) (rc9 : Nat → Nat → Int32 → js_S → Option (Unit × js_S)) (hrc9 : ∀ (x0 : Nat) (x1 : Nat) (x2 : Int32) (σ : js_S) (r0 : Unit) (σ0 : js_S), rc9 x0 x1 x2 σ = some (r0, σ0) → ob_ nn 5 x0 → ob_ nn 6 x1 → js_at p l e 3 s m args below meth c D B g nn 9 5 [(0, .ref (B + x0)), (1, .ref (B + x1)), (2, .int x2)] [] σ (js_QV D B g nn σ0)) (rc30 : Nat → Nat → Int32 → Nat → Int32 → js_S → Option (Unit × js_S)) (hrc30 : ∀ (x0 : Nat) (x1 : Nat) (x2 : Int32) (x3 : Nat) (x4 : Int32) (σ : js_S) (r0 : Unit) (σ0 : js_S), rc30 x0 x1 x2 x3 x4 σ = some (r0, σ0) → ob_ nn 5 x0 → ob_ nn 6 x1 → ob_ nn 9 x3 → js_at p l e 3 s m args below meth c D B g nn 30 5 [(0, .ref (B + x0)), (1, .ref (B + x1)), (2, .int x2), (3, .ref (B + x3)), (4, .int x4)] [] σ (js_QV D B g nn σ0)) : ∀ (x0 : Nat) (x1 : Nat) (x2 : Int32) (x3 : Nat) (x4 : Int32) (σ : js_S) (r0 : Unit) (σ0 : js_S), fX5_connectPairs_75 fu rc9 rc30 x0 x1 x2 x3 x4 σ = some (r0, σ0) → ob_ nn 5 x0 → ob_ nn 6 x1 → ob_ nn 9 x3 → js_at p l e 3 s m args below meth c D B g nn 75 5 [(0, .ref (B + x0)), (1, .ref (B + x1)), (2, .int x2), (3, .ref (B + x3)), (4, .int x4)] [] σ (js_QV D B g nn σ0) := by
  obtain ⟨hx, hb, hml, hown, ht, hK, hNw⟩ := id C
  intro x0 x1 x2 x3 x4 σ r0 σ0 h t0 t1 t3 H locs hT ls hl
  unfold fX5_connectPairs_75 at h
  refine lv_iinc (v := x4 + 1) (lv' := [(4, .int (x4 + 1)), (0, .ref (B + x0)), (1, .ref (B + x1)), (2, .int x2), (3, .ref (B + x3))]) hx hb dX5_connectPairs_75 hl (k := 4) rfl rfl (by decide) rfl (fun ls hl => ?_)
  refine lv_goto (tgt := 30) hx hb dX5_connectPairs_78 (by decide) ?_
  exact hrc30 _ _ _ _ _ _ _ _ h t0 t1 t3 H locs hT ls (lv_sub hl [1, 2, 3, 4, 0] rfl)
set_option maxHeartbeats 4000000 in
set_option maxRecDepth 20000 in
theorem wX5_connectPairs_30b (C : js_C D g p m c cX5_connectPairs 5 s args RX5) (hr : meth.sig.returnType = none) (hk : meth.locks = false) (rc9 : Nat → Nat → Int32 → js_S → Option (Unit × js_S)) (hrc9 : ∀ (x0 : Nat) (x1 : Nat) (x2 : Int32) (σ : js_S) (r0 : Unit) (σ0 : js_S), rc9 x0 x1 x2 σ = some (r0, σ0) → ob_ nn 5 x0 → ob_ nn 6 x1 → js_at p l e 3 s m args below meth c D B g nn 9 5 [(0, .ref (B + x0)), (1, .ref (B + x1)), (2, .int x2)] [] σ (js_QV D B g nn σ0)) (rc30 : Nat → Nat → Int32 → Nat → Int32 → js_S → Option (Unit × js_S)) (hrc30 : ∀ (x0 : Nat) (x1 : Nat) (x2 : Int32) (x3 : Nat) (x4 : Int32) (σ : js_S) (r0 : Unit) (σ0 : js_S), rc30 x0 x1 x2 x3 x4 σ = some (r0, σ0) → ob_ nn 5 x0 → ob_ nn 6 x1 → ob_ nn 9 x3 → js_at p l e 3 s m args below meth c D B g nn 30 5 [(0, .ref (B + x0)), (1, .ref (B + x1)), (2, .int x2), (3, .ref (B + x3)), (4, .int x4)] [] σ (js_QV D B g nn σ0)) : ∀ (x0 : Nat) (x1 : Nat) (x2 : Int32) (x3 : Nat) (x4 : Int32) (σ : js_S) (r0 : Unit) (σ0 : js_S), fX5_connectPairs_30b fu rc9 rc30 x0 x1 x2 x3 x4 σ = some (r0, σ0) → ob_ nn 5 x0 → ob_ nn 6 x1 → ob_ nn 9 x3 → js_at p l e 3 s m args below meth c D B g nn 30 5 [(0, .ref (B + x0)), (1, .ref (B + x1)), (2, .int x2), (3, .ref (B + x3)), (4, .int x4)] [] σ (js_QV D B g nn σ0) := by
  obtain ⟨hx, hb, hml, hown, ht, hK, hNw⟩ := id C
  intro x0 x1 x2 x3 x4 σ r0 σ0 h t0 t1 t3 H locs hT ls hl
  unfold fX5_connectPairs_30b at h
  refine lv_iload hx hb dX5_connectPairs_30 (lv_at hl 4 rfl) ?_
  refine lv_aload_n hx hb dX5_connectPairs_32 rfl (lv_at hl 0 rfl) ?_
  refine js_gI C hT cfX5 t0 4 (by decide) rfl lk_X5_28 dX5_connectPairs_33 ?_
  refine lv_icmp_ge (tgt := 81) hx hb dX5_connectPairs_36 (by decide) (fun c1 => ?_) (fun c1 => ?_)
  · rw [if_pos c1] at h
    refine lv_iinc (v := x2 + 1) (lv' := [(2, .int (x2 + 1)), (0, .ref (B + x0)), (1, .ref (B + x1)), (3, .ref (B + x3)), (4, .int x4)]) hx hb dX5_connectPairs_81 hl (k := 2) rfl rfl (by decide) rfl (fun ls hl => ?_)
    refine lv_goto (tgt := 9) hx hb dX5_connectPairs_84 (by decide) ?_
    exact hrc9 _ _ _ _ _ _ h t0 t1 H locs hT ls (lv_sub hl [1, 2, 0] rfl)
  · rw [if_neg c1] at h
    refine lv_aload_n hx hb dX5_connectPairs_39 rfl (lv_at hl 1 rfl) ?_
    refine js_gRN C hT cfX6 t1 0 (by decide) (q := 8) rfl (by decide) lk_X5_54 dX5_connectPairs_40 (fun t2a => ?_)
    refine lv_aload_n hx hb dX5_connectPairs_43 rfl (lv_at hl 3 rfl) ?_
    refine lv_aload_n hx hb dX5_connectPairs_44 rfl (lv_at hl 0 rfl) ?_
    refine lv_iload_n hx hb dX5_connectPairs_45 rfl (lv_at hl 2 rfl) ?_
    obtain ⟨r3, σ3, hc3, h⟩ := bd_some h
    refine js_backI hT (js_runV C hT cfX5 t0 rfl mfX5_position lk_X5_107 (kX5_position t0 hc3) ⟨Nat.le_of_ble_eq_true rfl, Nat.le_of_ble_eq_true rfl⟩ rfl hl.1 rfl (Nat.le_of_ble_eq_true rfl) ⟨Nat.zero_le _, Nat.zero_le _⟩ dX5_connectPairs_46) (fun H locs hT => ?_)
    refine lv_aload_n hx hb dX5_connectPairs_49 rfl (lv_at hl 1 rfl) ?_
    refine lv_aload_n hx hb dX5_connectPairs_50 rfl (lv_at hl 0 rfl) ?_
    refine lv_iload hx hb dX5_connectPairs_51 (lv_at hl 4 rfl) ?_
    obtain ⟨r4, σ4, hc4, h⟩ := bd_some h
    refine js_backI hT (js_runV C hT cfX5 t0 rfl mfX5_rule lk_X5_104 (kX5_rule t0 hc4) ⟨Nat.le_of_ble_eq_true rfl, Nat.le_of_ble_eq_true rfl⟩ rfl hl.1 rfl (Nat.le_of_ble_eq_true rfl) ⟨Nat.zero_le _, Nat.zero_le _⟩ dX5_connectPairs_53) (fun H locs hT => ?_)
    obtain ⟨r5, σ5, hc5, h⟩ := bd_some h
    refine js_backR hT (js_runV C hT cfX6 t1 rfl mfX6_left lk_X5_58 (kX6_left t1 hc5) ⟨Nat.le_of_ble_eq_true rfl, Nat.le_of_ble_eq_true rfl⟩ rfl hl.1 rfl (Nat.le_of_ble_eq_true rfl) ⟨Nat.zero_le _, Nat.zero_le _⟩ dX5_connectPairs_56) (fun H locs hT t5a => ?_)
    obtain ⟨r6, σ6, hc6, h⟩ := bd_some h
    refine js_backI hT (js_runS C hT mfX5_leadsTo lk_X5_110 (kX5_leadsTo t2a t3 t5a hc6) ⟨Nat.le_of_ble_eq_true rfl, Nat.le_of_ble_eq_true rfl⟩ rfl hl.1 rfl (Nat.le_of_ble_eq_true rfl) ⟨Nat.zero_le _, Nat.zero_le _⟩ dX5_connectPairs_59) (fun H locs hT => ?_)
    refine lv_if_eq (tgt := 75) hx hb dX5_connectPairs_62 (by decide) (fun c7 => ?_) (fun c7 => ?_)
    · rw [if_pos c7] at h
      exact wX5_connectPairs_75 C hr hk rc9 hrc9 rc30 hrc30 _ _ _ _ _ _ _ _ h t0 t1 t3 H locs hT ls (lv_sub hl [0, 1, 2, 3, 4] rfl)
    · rw [if_neg c7] at h
      refine lv_aload_n hx hb dX5_connectPairs_65 rfl (lv_at hl 0 rfl) ?_
      refine js_gR C hT cfX5 t0 3 (by decide) (q := 4) rfl (by decide) lk_X5_24 dX5_connectPairs_66 (fun t8a => ?_)
      refine lv_iload_n hx hb dX5_connectPairs_69 rfl (lv_at hl 2 rfl) ?_
      refine lv_iload hx hb dX5_connectPairs_70 (lv_at hl 4 rfl) ?_
      obtain ⟨z9, σ9, hc9, h⟩ := bd_some h
      refine js_backV hT (js_runV C hT cfX4 t8a rfl mfX4_connect lk_X5_114 (kX4_connect t8a hc9) ⟨Nat.le_of_ble_eq_true rfl, Nat.le_of_ble_eq_true rfl⟩ rfl hl.1 rfl (Nat.le_of_ble_eq_true rfl) ⟨Nat.zero_le _, Nat.zero_le _⟩ dX5_connectPairs_72) (fun H locs hT => ?_)
      exact wX5_connectPairs_75 C hr hk rc9 hrc9 rc30 hrc30 _ _ _ _ _ _ _ _ h t0 t1 t3 H locs hT ls (lv_sub hl [0, 1, 2, 3, 4] rfl)
set_option maxHeartbeats 4000000 in
set_option maxRecDepth 20000 in
theorem wX5_connectPairs_30 (C : js_C D g p m c cX5_connectPairs 5 s args RX5) (hr : meth.sig.returnType = none) (hk : meth.locks = false) (rc9 : Nat → Nat → Int32 → js_S → Option (Unit × js_S)) (hrc9 : ∀ (x0 : Nat) (x1 : Nat) (x2 : Int32) (σ : js_S) (r0 : Unit) (σ0 : js_S), rc9 x0 x1 x2 σ = some (r0, σ0) → ob_ nn 5 x0 → ob_ nn 6 x1 → js_at p l e 3 s m args below meth c D B g nn 9 5 [(0, .ref (B + x0)), (1, .ref (B + x1)), (2, .int x2)] [] σ (js_QV D B g nn σ0)) : ∀ (k : Nat), ∀ (x0 : Nat) (x1 : Nat) (x2 : Int32) (x3 : Nat) (x4 : Int32) (σ : js_S) (r0 : Unit) (σ0 : js_S), fX5_connectPairs_30 fu rc9 k x0 x1 x2 x3 x4 σ = some (r0, σ0) → ob_ nn 5 x0 → ob_ nn 6 x1 → ob_ nn 9 x3 → js_at p l e 3 s m args below meth c D B g nn 30 5 [(0, .ref (B + x0)), (1, .ref (B + x1)), (2, .int x2), (3, .ref (B + x3)), (4, .int x4)] [] σ (js_QV D B g nn σ0) := by
  intro k
  induction k with
  | zero =>
    intro x0 x1 x2 x3 x4 σ r0 σ0 h
    cases h
  | succ k ih =>
    intro x0 x1 x2 x3 x4 σ r0 σ0 h
    exact wX5_connectPairs_30b C hr hk rc9 hrc9 (fX5_connectPairs_30 fu rc9 k) ih x0 x1 x2 x3 x4 σ r0 σ0 h
set_option maxHeartbeats 4000000 in
set_option maxRecDepth 20000 in
theorem wX5_connectPairs_9b (C : js_C D g p m c cX5_connectPairs 5 s args RX5) (hr : meth.sig.returnType = none) (hk : meth.locks = false) (rc9 : Nat → Nat → Int32 → js_S → Option (Unit × js_S)) (hrc9 : ∀ (x0 : Nat) (x1 : Nat) (x2 : Int32) (σ : js_S) (r0 : Unit) (σ0 : js_S), rc9 x0 x1 x2 σ = some (r0, σ0) → ob_ nn 5 x0 → ob_ nn 6 x1 → js_at p l e 3 s m args below meth c D B g nn 9 5 [(0, .ref (B + x0)), (1, .ref (B + x1)), (2, .int x2)] [] σ (js_QV D B g nn σ0)) : ∀ (x0 : Nat) (x1 : Nat) (x2 : Int32) (σ : js_S) (r0 : Unit) (σ0 : js_S), fX5_connectPairs_9b fu rc9 x0 x1 x2 σ = some (r0, σ0) → ob_ nn 5 x0 → ob_ nn 6 x1 → js_at p l e 3 s m args below meth c D B g nn 9 5 [(0, .ref (B + x0)), (1, .ref (B + x1)), (2, .int x2)] [] σ (js_QV D B g nn σ0) := by
  obtain ⟨hx, hb, hml, hown, ht, hK, hNw⟩ := id C
  intro x0 x1 x2 σ r0 σ0 h t0 t1 H locs hT ls hl
  unfold fX5_connectPairs_9b at h
  refine lv_iload_n hx hb dX5_connectPairs_9 rfl (lv_at hl 2 rfl) ?_
  refine lv_aload_n hx hb dX5_connectPairs_10 rfl (lv_at hl 0 rfl) ?_
  refine js_gI C hT cfX5 t0 4 (by decide) rfl lk_X5_28 dX5_connectPairs_11 ?_
  refine lv_icmp_ge (tgt := 87) hx hb dX5_connectPairs_14 (by decide) (fun c1 => ?_) (fun c1 => ?_)
  · rw [if_pos c1] at h
    obtain ⟨rfl, rfl⟩ := js_rt h
    exact js_vret C hT hr hk dX5_connectPairs_87
  · rw [if_neg c1] at h
    refine lv_aload_n hx hb dX5_connectPairs_17 rfl (lv_at hl 1 rfl) ?_
    refine lv_aload_n hx hb dX5_connectPairs_18 rfl (lv_at hl 0 rfl) ?_
    refine lv_iload_n hx hb dX5_connectPairs_19 rfl (lv_at hl 2 rfl) ?_
    obtain ⟨r2, σ2, hc2, h⟩ := bd_some h
    refine js_backI hT (js_runV C hT cfX5 t0 rfl mfX5_rule lk_X5_104 (kX5_rule t0 hc2) ⟨Nat.le_of_ble_eq_true rfl, Nat.le_of_ble_eq_true rfl⟩ rfl hl.1 rfl (Nat.le_of_ble_eq_true rfl) ⟨Nat.zero_le _, Nat.zero_le _⟩ dX5_connectPairs_20) (fun H locs hT => ?_)
    obtain ⟨r3, σ3, hc3, h⟩ := bd_some h
    refine js_backR hT (js_runV C hT cfX6 t1 rfl mfX6_right lk_X5_37 (kX6_right t1 hc3) ⟨Nat.le_of_ble_eq_true rfl, Nat.le_of_ble_eq_true rfl⟩ rfl hl.1 rfl (Nat.le_of_ble_eq_true rfl) ⟨Nat.zero_le _, Nat.zero_le _⟩ dX5_connectPairs_23) (fun H locs hT t3a => ?_)
    refine lv_astore_n (lv' := [(3, .ref (B + r3)), (0, .ref (B + x0)), (1, .ref (B + x1)), (2, .int x2)]) hx hb dX5_connectPairs_26 rfl hl (by decide) rfl (fun ls hl => ?_)
    refine lv_iconst (v := 0) hx hb dX5_connectPairs_27 (by decide) ?_
    refine lv_istore (lv' := [(4, .int 0), (3, .ref (B + r3)), (0, .ref (B + x0)), (1, .ref (B + x1)), (2, .int x2)]) hx hb dX5_connectPairs_28 hl (by decide) rfl (fun ls hl => ?_)
    exact wX5_connectPairs_30 C hr hk rc9 hrc9 _ _ _ _ _ _ _ _ _ h t0 t1 t3a H locs hT ls (lv_sub hl [2, 3, 4, 1, 0] rfl)
set_option maxHeartbeats 4000000 in
set_option maxRecDepth 20000 in
theorem wX5_connectPairs_9 (C : js_C D g p m c cX5_connectPairs 5 s args RX5) (hr : meth.sig.returnType = none) (hk : meth.locks = false) : ∀ (k : Nat), ∀ (x0 : Nat) (x1 : Nat) (x2 : Int32) (σ : js_S) (r0 : Unit) (σ0 : js_S), fX5_connectPairs_9 fu k x0 x1 x2 σ = some (r0, σ0) → ob_ nn 5 x0 → ob_ nn 6 x1 → js_at p l e 3 s m args below meth c D B g nn 9 5 [(0, .ref (B + x0)), (1, .ref (B + x1)), (2, .int x2)] [] σ (js_QV D B g nn σ0) := by
  intro k
  induction k with
  | zero =>
    intro x0 x1 x2 σ r0 σ0 h
    cases h
  | succ k ih =>
    intro x0 x1 x2 σ r0 σ0 h
    exact wX5_connectPairs_9b C hr hk (fX5_connectPairs_9 fu k) ih x0 x1 x2 σ r0 σ0 h
set_option maxHeartbeats 4000000 in
set_option maxRecDepth 20000 in
theorem kX5_connectPairs {x0 : Nat} {x1 : Nat} {σ σ0 : js_S} {r0 : Unit} (t0 : ob_ nn 5 x0) (t1 : ob_ nn 6 x1) (h : fX5_connectPairs fu x0 x1 σ = some (r0, σ0)) : js_M l D B g nn yX5_connectPairs cX5_connectPairs 5 none 3 [.ref (B + x0), .ref (B + x1)] σ (js_QV D B g nn σ0) := by
  refine js_enter (by decide) (Nat.le_of_ble_eq_true rfl) ?_
  intro p e s m args below meth c C hr hk ls hl hT
  have hl : lv_has ls 5 [(0, .ref (B + x0)), (1, .ref (B + x1))] := hl
  obtain ⟨hx, hb, hml, hown, ht, hK, hNw⟩ := id C
  obtain ⟨H, eH⟩ : ∃ H, H = s.heap := ⟨_, rfl⟩
  obtain ⟨locs, eL⟩ : ∃ z : List Loc, z = [] := ⟨_, rfl⟩
  rw [← eH, ← eL]
  rw [← eH, ← eL] at hT
  clear eH eL
  unfold fX5_connectPairs at h
  refine lv_aload_n hx hb dX5_connectPairs_0 rfl (lv_at hl 0 rfl) ?_
  refine js_gR C hT cfX5 t0 3 (by decide) (q := 4) rfl (by decide) lk_X5_24 dX5_connectPairs_1 (fun t1a => ?_)
  obtain ⟨z2, σ2, hc2, h⟩ := bd_some h
  refine js_backV hT (js_runV C hT cfX4 t1a rfl mfX4_empty lk_X5_101 (kX4_empty t1a hc2) ⟨Nat.le_of_ble_eq_true rfl, Nat.le_of_ble_eq_true rfl⟩ rfl hl.1 rfl (Nat.le_of_ble_eq_true rfl) ⟨Nat.zero_le _, Nat.zero_le _⟩ dX5_connectPairs_4) (fun H locs hT => ?_)
  refine lv_iconst (v := 0) hx hb dX5_connectPairs_7 (by decide) ?_
  refine lv_istore_n (lv' := [(2, .int 0), (0, .ref (B + x0)), (1, .ref (B + x1))]) hx hb dX5_connectPairs_8 rfl hl (by decide) rfl (fun ls hl => ?_)
  exact wX5_connectPairs_9 C hr hk _ _ _ _ _ _ _ h t0 t1 H locs hT ls (lv_sub hl [1, 2, 0] rfl)
set_option maxHeartbeats 4000000 in
set_option maxRecDepth 20000 in
theorem wX5_relationBetween_11b (C : js_C D g p m c cX5_relationBetween 7 s args RX5) (hr : meth.sig.returnType = (some .int)) (hk : meth.locks = false) (rc11 : Nat → Nat → Int32 → Nat → Int32 → Int32 → Int32 → js_S → Option (Int32 × js_S)) (hrc11 : ∀ (x0 : Nat) (x1 : Nat) (x2 : Int32) (x3 : Nat) (x4 : Int32) (x5 : Int32) (x6 : Int32) (σ : js_S) (r0 : Int32) (σ0 : js_S), rc11 x0 x1 x2 x3 x4 x5 x6 σ = some (r0, σ0) → ob_ nn 8 x0 → ob_ nn 9 x1 → ob_ nn 9 x3 → js_at p l e 2 s m args below meth c D B g nn 11 7 [(0, .ref (B + x0)), (1, .ref (B + x1)), (2, .int x2), (3, .ref (B + x3)), (4, .int x4), (5, .int x5), (6, .int x6)] [] σ (js_QI D B g nn r0 σ0)) : ∀ (x0 : Nat) (x1 : Nat) (x2 : Int32) (x3 : Nat) (x4 : Int32) (x5 : Int32) (x6 : Int32) (σ : js_S) (r0 : Int32) (σ0 : js_S), fX5_relationBetween_11b fu rc11 x0 x1 x2 x3 x4 x5 x6 σ = some (r0, σ0) → ob_ nn 8 x0 → ob_ nn 9 x1 → ob_ nn 9 x3 → js_at p l e 2 s m args below meth c D B g nn 11 7 [(0, .ref (B + x0)), (1, .ref (B + x1)), (2, .int x2), (3, .ref (B + x3)), (4, .int x4), (5, .int x5), (6, .int x6)] [] σ (js_QI D B g nn r0 σ0) := by
  obtain ⟨hx, hb, hml, hown, ht, hK, hNw⟩ := id C
  intro x0 x1 x2 x3 x4 x5 x6 σ r0 σ0 h t0 t1 t3 H locs hT ls hl
  unfold fX5_relationBetween_11b at h
  refine lv_iload hx hb dX5_relationBetween_11 (lv_at hl 6 rfl) ?_
  refine lv_iload hx hb dX5_relationBetween_13 (lv_at hl 5 rfl) ?_
  refine lv_icmp_ge (tgt := 49) hx hb dX5_relationBetween_15 (by decide) (fun c1 => ?_) (fun c1 => ?_)
  · rw [if_pos c1] at h
    refine lv_iconst (v := 0) hx hb dX5_relationBetween_49 (by decide) ?_
    obtain ⟨rfl, rfl⟩ := js_rt h
    exact js_iret C hT hr hk dX5_relationBetween_50
  · rw [if_neg c1] at h
    refine lv_aload_n hx hb dX5_relationBetween_18 rfl (lv_at hl 0 rfl) ?_
    refine lv_aload_n hx hb dX5_relationBetween_19 rfl (lv_at hl 1 rfl) ?_
    refine lv_iload hx hb dX5_relationBetween_20 (lv_at hl 6 rfl) ?_
    refine lv_aload_n hx hb dX5_relationBetween_22 rfl (lv_at hl 3 rfl) ?_
    refine lv_iload hx hb dX5_relationBetween_23 (lv_at hl 4 rfl) ?_
    obtain ⟨r2, σ2, hc2, h⟩ := bd_some h
    refine js_backI hT (js_runV C hT cfX8 t0 rfl mfX8_sameSubterms lk_X5_97 (kX8_sameSubterms t0 t1 t3 hc2) ⟨Nat.le_of_ble_eq_true rfl, Nat.le_of_ble_eq_true rfl⟩ rfl hl.1 rfl (Nat.le_of_ble_eq_true rfl) ⟨Nat.zero_le _, Nat.zero_le _⟩ dX5_relationBetween_25) (fun H locs hT => ?_)
    refine lv_if_eq (tgt := 43) hx hb dX5_relationBetween_28 (by decide) (fun c3 => ?_) (fun c3 => ?_)
    · rw [if_pos c3] at h
      refine lv_iinc (v := x6 + 1) (lv' := [(6, .int (x6 + 1)), (0, .ref (B + x0)), (1, .ref (B + x1)), (2, .int x2), (3, .ref (B + x3)), (4, .int x4), (5, .int x5)]) hx hb dX5_relationBetween_43 hl (k := 6) rfl rfl (by decide) rfl (fun ls hl => ?_)
      refine lv_goto (tgt := 11) hx hb dX5_relationBetween_46 (by decide) ?_
      exact hrc11 _ _ _ _ _ _ _ _ _ _ h t0 t1 t3 H locs hT ls (lv_sub hl [1, 2, 3, 4, 5, 6, 0] rfl)
    · rw [if_neg c3] at h
      refine lv_iload hx hb dX5_relationBetween_31 (lv_at hl 6 rfl) ?_
      refine lv_iload_n hx hb dX5_relationBetween_33 rfl (lv_at hl 2 rfl) ?_
      refine lv_icmp_ne (tgt := 41) hx hb dX5_relationBetween_34 (by decide) (fun c4 => ?_) (fun c4 => ?_)
      · rw [if_neg c4] at h
        refine lv_iconst (v := 2) hx hb dX5_relationBetween_41 (by decide) ?_
        obtain ⟨rfl, rfl⟩ := js_rt h
        exact js_iret C hT hr hk dX5_relationBetween_42
      · rw [if_pos c4] at h
        refine lv_iconst (v := 1) hx hb dX5_relationBetween_37 (by decide) ?_
        refine lv_goto (tgt := 42) hx hb dX5_relationBetween_38 (by decide) ?_
        obtain ⟨rfl, rfl⟩ := js_rt h
        exact js_iret C hT hr hk dX5_relationBetween_42
set_option maxHeartbeats 4000000 in
set_option maxRecDepth 20000 in
theorem wX5_relationBetween_11 (C : js_C D g p m c cX5_relationBetween 7 s args RX5) (hr : meth.sig.returnType = (some .int)) (hk : meth.locks = false) : ∀ (k : Nat), ∀ (x0 : Nat) (x1 : Nat) (x2 : Int32) (x3 : Nat) (x4 : Int32) (x5 : Int32) (x6 : Int32) (σ : js_S) (r0 : Int32) (σ0 : js_S), fX5_relationBetween_11 fu k x0 x1 x2 x3 x4 x5 x6 σ = some (r0, σ0) → ob_ nn 8 x0 → ob_ nn 9 x1 → ob_ nn 9 x3 → js_at p l e 2 s m args below meth c D B g nn 11 7 [(0, .ref (B + x0)), (1, .ref (B + x1)), (2, .int x2), (3, .ref (B + x3)), (4, .int x4), (5, .int x5), (6, .int x6)] [] σ (js_QI D B g nn r0 σ0) := by
  intro k
  induction k with
  | zero =>
    intro x0 x1 x2 x3 x4 x5 x6 σ r0 σ0 h
    cases h
  | succ k ih =>
    intro x0 x1 x2 x3 x4 x5 x6 σ r0 σ0 h
    exact wX5_relationBetween_11b C hr hk (fX5_relationBetween_11 fu k) ih x0 x1 x2 x3 x4 x5 x6 σ r0 σ0 h
set_option maxHeartbeats 4000000 in
set_option maxRecDepth 20000 in
theorem kX5_relationBetween {x0 : Nat} {x1 : Nat} {x2 : Int32} {x3 : Nat} {x4 : Int32} {σ σ0 : js_S} {r0 : Int32} (t0 : ob_ nn 8 x0) (t1 : ob_ nn 9 x1) (t3 : ob_ nn 9 x3) (h : fX5_relationBetween fu x0 x1 x2 x3 x4 σ = some (r0, σ0)) : js_M l D B g nn yX5_relationBetween cX5_relationBetween 7 (some .int) 2 [.ref (B + x0), .ref (B + x1), .int x2, .ref (B + x3), .int x4] σ (js_QI D B g nn r0 σ0) := by
  refine js_enter (by decide) (Nat.le_of_ble_eq_true rfl) ?_
  intro p e s m args below meth c C hr hk ls hl hT
  have hl : lv_has ls 7 [(0, .ref (B + x0)), (1, .ref (B + x1)), (2, .int x2), (3, .ref (B + x3)), (4, .int x4)] := hl
  obtain ⟨hx, hb, hml, hown, ht, hK, hNw⟩ := id C
  obtain ⟨H, eH⟩ : ∃ H, H = s.heap := ⟨_, rfl⟩
  obtain ⟨locs, eL⟩ : ∃ z : List Loc, z = [] := ⟨_, rfl⟩
  rw [← eH, ← eL]
  rw [← eH, ← eL] at hT
  clear eH eL
  unfold fX5_relationBetween at h
  refine lv_aload_n hx hb dX5_relationBetween_0 rfl (lv_at hl 0 rfl) ?_
  refine lv_aload_n hx hb dX5_relationBetween_1 rfl (lv_at hl 1 rfl) ?_
  refine lv_iload_n hx hb dX5_relationBetween_2 rfl (lv_at hl 2 rfl) ?_
  obtain ⟨r1, σ1, hc1, h⟩ := bd_some h
  refine js_backI hT (js_runV C hT cfX8 t0 rfl mfX8_endOf lk_X5_93 (kX8_endOf t0 t1 hc1) ⟨Nat.le_of_ble_eq_true rfl, Nat.le_of_ble_eq_true rfl⟩ rfl hl.1 rfl (Nat.le_of_ble_eq_true rfl) ⟨Nat.zero_le _, Nat.zero_le _⟩ dX5_relationBetween_3) (fun H locs hT => ?_)
  refine lv_istore (lv' := [(5, .int r1), (0, .ref (B + x0)), (1, .ref (B + x1)), (2, .int x2), (3, .ref (B + x3)), (4, .int x4)]) hx hb dX5_relationBetween_6 hl (by decide) rfl (fun ls hl => ?_)
  refine lv_iload_n hx hb dX5_relationBetween_8 rfl (lv_at hl 3 rfl) ?_
  refine lv_istore (lv' := [(6, .int x2), (5, .int r1), (0, .ref (B + x0)), (1, .ref (B + x1)), (2, .int x2), (3, .ref (B + x3)), (4, .int x4)]) hx hb dX5_relationBetween_9 hl (by decide) rfl (fun ls hl => ?_)
  exact wX5_relationBetween_11 C hr hk _ _ _ _ _ _ _ _ _ _ _ h t0 t1 t3 H locs hT ls (lv_sub hl [2, 3, 4, 5, 6, 1, 0] rfl)
set_option maxHeartbeats 4000000 in
set_option maxRecDepth 20000 in
theorem wX8_argumentOf_8b (C : js_C D g p m c cX8_argumentOf 6 s args RX8) (hr : meth.sig.returnType = (some .int)) (hk : meth.locks = false) (rc8 : Nat → Nat → Int32 → Int32 → Int32 → js_S → Option (Int32 × js_S)) (hrc8 : ∀ (x0 : Nat) (x1 : Nat) (x3 : Int32) (x4 : Int32) (x5 : Int32) (σ : js_S) (r0 : Int32) (σ0 : js_S), rc8 x0 x1 x3 x4 x5 σ = some (r0, σ0) → ob_ nn 8 x0 → ob_ nn 9 x1 → js_at p l e 2 s m args below meth c D B g nn 8 6 [(0, .ref (B + x0)), (1, .ref (B + x1)), (3, .int x3), (4, .int x4), (5, .int x5)] [] σ (js_QI D B g nn r0 σ0)) : ∀ (x0 : Nat) (x1 : Nat) (x3 : Int32) (x4 : Int32) (x5 : Int32) (σ : js_S) (r0 : Int32) (σ0 : js_S), fX8_argumentOf_8b fu rc8 x0 x1 x3 x4 x5 σ = some (r0, σ0) → ob_ nn 8 x0 → ob_ nn 9 x1 → js_at p l e 2 s m args below meth c D B g nn 8 6 [(0, .ref (B + x0)), (1, .ref (B + x1)), (3, .int x3), (4, .int x4), (5, .int x5)] [] σ (js_QI D B g nn r0 σ0) := by
  obtain ⟨hx, hb, hml, hown, ht, hK, hNw⟩ := id C
  intro x0 x1 x3 x4 x5 σ r0 σ0 h t0 t1 H locs hT ls hl
  unfold fX8_argumentOf_8b at h
  refine lv_iload hx hb dX8_argumentOf_8 (lv_at hl 4 rfl) ?_
  refine lv_iload_n hx hb dX8_argumentOf_10 rfl (lv_at hl 2 rfl) ?_
  refine lv_icmp_ge (tgt := 29) hx hb dX8_argumentOf_11 (by decide) (fun c1 => ?_) (fun c1 => ?_)
  · rw [if_pos c1] at h
    refine lv_iload hx hb dX8_argumentOf_29 (lv_at hl 3 rfl) ?_
    obtain ⟨rfl, rfl⟩ := js_rt h
    exact js_iret C hT hr hk dX8_argumentOf_31
  · rw [if_neg c1] at h
    refine lv_aload_n hx hb dX8_argumentOf_14 rfl (lv_at hl 0 rfl) ?_
    refine lv_aload_n hx hb dX8_argumentOf_15 rfl (lv_at hl 1 rfl) ?_
    refine lv_iload hx hb dX8_argumentOf_16 (lv_at hl 3 rfl) ?_
    obtain ⟨r2, σ2, hc2, h⟩ := bd_some h
    refine js_backI hT (js_runV C hT cfX8 t0 rfl mfX8_endOf lk_X8_34 (kX8_endOf t0 t1 hc2) ⟨Nat.le_of_ble_eq_true rfl, Nat.le_of_ble_eq_true rfl⟩ rfl hl.1 rfl (Nat.le_of_ble_eq_true rfl) ⟨Nat.zero_le _, Nat.zero_le _⟩ dX8_argumentOf_18) (fun H locs hT => ?_)
    refine lv_istore (lv' := [(4, .int r2), (0, .ref (B + x0)), (1, .ref (B + x1)), (3, .int x3), (5, .int x5)]) hx hb dX8_argumentOf_21 hl (by decide) rfl (fun ls hl => ?_)
    refine lv_iinc (v := x5 + 1) (lv' := [(5, .int (x5 + 1)), (4, .int r2), (0, .ref (B + x0)), (1, .ref (B + x1)), (3, .int x3)]) hx hb dX8_argumentOf_23 hl (k := 4) rfl rfl (by decide) rfl (fun ls hl => ?_)
    refine lv_goto (tgt := 8) hx hb dX8_argumentOf_26 (by decide) ?_
    exact hrc8 _ _ _ _ _ _ _ _ h t0 t1 H locs hT ls (lv_sub hl [2, 3, 4, 1, 0] rfl)
set_option maxHeartbeats 4000000 in
set_option maxRecDepth 20000 in
theorem wX8_argumentOf_8 (C : js_C D g p m c cX8_argumentOf 6 s args RX8) (hr : meth.sig.returnType = (some .int)) (hk : meth.locks = false) : ∀ (k : Nat), ∀ (x0 : Nat) (x1 : Nat) (x3 : Int32) (x4 : Int32) (x5 : Int32) (σ : js_S) (r0 : Int32) (σ0 : js_S), fX8_argumentOf_8 fu k x0 x1 x3 x4 x5 σ = some (r0, σ0) → ob_ nn 8 x0 → ob_ nn 9 x1 → js_at p l e 2 s m args below meth c D B g nn 8 6 [(0, .ref (B + x0)), (1, .ref (B + x1)), (3, .int x3), (4, .int x4), (5, .int x5)] [] σ (js_QI D B g nn r0 σ0) := by
  intro k
  induction k with
  | zero =>
    intro x0 x1 x3 x4 x5 σ r0 σ0 h
    cases h
  | succ k ih =>
    intro x0 x1 x3 x4 x5 σ r0 σ0 h
    exact wX8_argumentOf_8b C hr hk (fX8_argumentOf_8 fu k) ih x0 x1 x3 x4 x5 σ r0 σ0 h
set_option maxHeartbeats 4000000 in
set_option maxRecDepth 20000 in
theorem kX8_argumentOf {x0 : Nat} {x1 : Nat} {x2 : Int32} {x3 : Int32} {σ σ0 : js_S} {r0 : Int32} (t0 : ob_ nn 8 x0) (t1 : ob_ nn 9 x1) (h : fX8_argumentOf fu x0 x1 x2 x3 σ = some (r0, σ0)) : js_M l D B g nn yX8_argumentOf cX8_argumentOf 6 (some .int) 2 [.ref (B + x0), .ref (B + x1), .int x2, .int x3] σ (js_QI D B g nn r0 σ0) := by
  refine js_enter (by decide) (Nat.le_of_ble_eq_true rfl) ?_
  intro p e s m args below meth c C hr hk ls hl hT
  have hl : lv_has ls 6 [(0, .ref (B + x0)), (1, .ref (B + x1)), (2, .int x2), (3, .int x3)] := hl
  obtain ⟨hx, hb, hml, hown, ht, hK, hNw⟩ := id C
  obtain ⟨H, eH⟩ : ∃ H, H = s.heap := ⟨_, rfl⟩
  obtain ⟨locs, eL⟩ : ∃ z : List Loc, z = [] := ⟨_, rfl⟩
  rw [← eH, ← eL]
  rw [← eH, ← eL] at hT
  clear eH eL
  unfold fX8_argumentOf at h
  refine lv_iload_n hx hb dX8_argumentOf_0 rfl (lv_at hl 2 rfl) ?_
  refine lv_iconst (v := 1) hx hb dX8_argumentOf_1 (by decide) ?_
  refine lv_iadd hx hb dX8_argumentOf_2 ?_
  refine lv_istore (lv' := [(4, .int (x2 + 1)), (0, .ref (B + x0)), (1, .ref (B + x1)), (2, .int x2), (3, .int x3)]) hx hb dX8_argumentOf_3 hl (by decide) rfl (fun ls hl => ?_)
  refine lv_iconst (v := 0) hx hb dX8_argumentOf_5 (by decide) ?_
  refine lv_istore (lv' := [(5, .int 0), (4, .int (x2 + 1)), (0, .ref (B + x0)), (1, .ref (B + x1)), (2, .int x2), (3, .int x3)]) hx hb dX8_argumentOf_6 hl (by decide) rfl (fun ls hl => ?_)
  exact wX8_argumentOf_8 C hr hk _ _ _ _ _ _ _ _ _ h t0 t1 H locs hT ls (lv_sub hl [2, 3, 5, 1, 0] rfl)
set_option maxHeartbeats 4000000 in
set_option maxRecDepth 20000 in
theorem wX5_sizeChange_56b (C : js_C D g p m c cX5_sizeChange 12 s args RX5) (hr : meth.sig.returnType = (some .int)) (hk : meth.locks = false) (rc32 : Nat → Nat → Nat → Int32 → Int32 → Int32 → Int32 → Int32 → js_S → Option (Int32 × js_S)) (hrc32 : ∀ (x0 : Nat) (x1 : Nat) (x2 : Nat) (x3 : Int32) (x4 : Int32) (x5 : Int32) (x6 : Int32) (x7 : Int32) (σ : js_S) (r0 : Int32) (σ0 : js_S), rc32 x0 x1 x2 x3 x4 x5 x6 x7 σ = some (r0, σ0) → ob_ nn 8 x0 → ob_ nn 9 x1 → ob_ nn 9 x2 → js_at p l e 3 s m args below meth c D B g nn 32 12 [(0, .ref (B + x0)), (1, .ref (B + x1)), (2, .ref (B + x2)), (3, .int x3), (4, .int x4), (5, .int x5), (6, .int x6), (7, .int x7)] [] σ (js_QI D B g nn r0 σ0)) (rc56 : Nat → Nat → Nat → Int32 → Int32 → Int32 → Int32 → Int32 → Int32 → Int32 → js_S → Option (Int32 × js_S)) (hrc56 : ∀ (x0 : Nat) (x1 : Nat) (x2 : Nat) (x3 : Int32) (x4 : Int32) (x5 : Int32) (x6 : Int32) (x7 : Int32) (x8 : Int32) (x9 : Int32) (σ : js_S) (r0 : Int32) (σ0 : js_S), rc56 x0 x1 x2 x3 x4 x5 x6 x7 x8 x9 σ = some (r0, σ0) → ob_ nn 8 x0 → ob_ nn 9 x1 → ob_ nn 9 x2 → js_at p l e 3 s m args below meth c D B g nn 56 12 [(0, .ref (B + x0)), (1, .ref (B + x1)), (2, .ref (B + x2)), (3, .int x3), (4, .int x4), (5, .int x5), (6, .int x6), (7, .int x7), (8, .int x8), (9, .int x9)] [] σ (js_QI D B g nn r0 σ0)) : ∀ (x0 : Nat) (x1 : Nat) (x2 : Nat) (x3 : Int32) (x4 : Int32) (x5 : Int32) (x6 : Int32) (x7 : Int32) (x8 : Int32) (x9 : Int32) (σ : js_S) (r0 : Int32) (σ0 : js_S), fX5_sizeChange_56b fu rc32 rc56 x0 x1 x2 x3 x4 x5 x6 x7 x8 x9 σ = some (r0, σ0) → ob_ nn 8 x0 → ob_ nn 9 x1 → ob_ nn 9 x2 → js_at p l e 3 s m args below meth c D B g nn 56 12 [(0, .ref (B + x0)), (1, .ref (B + x1)), (2, .ref (B + x2)), (3, .int x3), (4, .int x4), (5, .int x5), (6, .int x6), (7, .int x7), (8, .int x8), (9, .int x9)] [] σ (js_QI D B g nn r0 σ0) := by
  obtain ⟨hx, hb, hml, hown, ht, hK, hNw⟩ := id C
  intro x0 x1 x2 x3 x4 x5 x6 x7 x8 x9 σ r0 σ0 h t0 t1 t2 H locs hT ls hl
  unfold fX5_sizeChange_56b at h
  refine lv_iload hx hb dX5_sizeChange_56 (lv_at hl 9 rfl) ?_
  refine lv_aload_n hx hb dX5_sizeChange_58 rfl (lv_at hl 0 rfl) ?_
  refine lv_iload hx hb dX5_sizeChange_59 (lv_at hl 5 rfl) ?_
  obtain ⟨r1, σ1, hc1, h⟩ := bd_some h
  refine js_backI hT (js_runV C hT cfX8 t0 rfl mfX8_ofFunction lk_X5_76 (kX8_ofFunction t0 hc1) ⟨Nat.le_of_ble_eq_true rfl, Nat.le_of_ble_eq_true rfl⟩ rfl hl.1 rfl (Nat.le_of_ble_eq_true rfl) ⟨Nat.zero_le _, Nat.zero_le _⟩ dX5_sizeChange_61) (fun H locs hT => ?_)
  refine lv_icmp_ge (tgt := 108) hx hb dX5_sizeChange_64 (by decide) (fun c2 => ?_) (fun c2 => ?_)
  · rw [if_pos c2] at h
    refine lv_iinc (v := x7 + 1) (lv' := [(7, .int (x7 + 1)), (0, .ref (B + x0)), (1, .ref (B + x1)), (2, .ref (B + x2)), (3, .int x3), (4, .int x4), (5, .int x5), (6, .int x6), (8, .int x8), (9, .int x9)]) hx hb dX5_sizeChange_108 hl (k := 7) rfl rfl (by decide) rfl (fun ls hl => ?_)
    refine lv_goto (tgt := 32) hx hb dX5_sizeChange_111 (by decide) ?_
    exact hrc32 _ _ _ _ _ _ _ _ _ _ _ h t0 t1 t2 H locs hT ls (lv_sub hl [1, 2, 3, 4, 5, 6, 7, 0] rfl)
  · rw [if_neg c2] at h
    refine lv_aload_n hx hb dX5_sizeChange_67 rfl (lv_at hl 0 rfl) ?_
    refine lv_aload_n hx hb dX5_sizeChange_68 rfl (lv_at hl 2 rfl) ?_
    refine lv_iload_n hx hb dX5_sizeChange_69 rfl (lv_at hl 3 rfl) ?_
    refine lv_iload hx hb dX5_sizeChange_70 (lv_at hl 9 rfl) ?_
    obtain ⟨r3, σ3, hc3, h⟩ := bd_some h
    refine js_backI hT (js_runV C hT cfX8 t0 rfl mfX8_argumentOf lk_X5_81 (kX8_argumentOf t0 t2 hc3) ⟨Nat.le_of_ble_eq_true rfl, Nat.le_of_ble_eq_true rfl⟩ rfl hl.1 rfl (Nat.le_of_ble_eq_true rfl) ⟨Nat.zero_le _, Nat.zero_le _⟩ dX5_sizeChange_72) (fun H locs hT => ?_)
    refine lv_istore (lv' := [(10, .int r3), (0, .ref (B + x0)), (1, .ref (B + x1)), (2, .ref (B + x2)), (3, .int x3), (4, .int x4), (5, .int x5), (6, .int x6), (7, .int x7), (8, .int x8), (9, .int x9)]) hx hb dX5_sizeChange_75 hl (by decide) rfl (fun ls hl => ?_)
    refine lv_aload_n hx hb dX5_sizeChange_77 rfl (lv_at hl 1 rfl) ?_
    refine lv_aload_n hx hb dX5_sizeChange_78 rfl (lv_at hl 2 rfl) ?_
    refine lv_iload hx hb dX5_sizeChange_79 (lv_at hl 9 rfl) ?_
    refine lv_aload_n hx hb dX5_sizeChange_81 rfl (lv_at hl 3 rfl) ?_
    refine lv_iload hx hb dX5_sizeChange_82 (lv_at hl 0 rfl) ?_
    obtain ⟨r4, σ4, hc4, h⟩ := bd_some h
    refine js_backI hT (js_runS C hT mfX5_relationBetween lk_X5_85 (kX5_relationBetween t0 t1 t2 hc4) ⟨Nat.le_of_ble_eq_true rfl, Nat.le_of_ble_eq_true rfl⟩ rfl hl.1 rfl (Nat.le_of_ble_eq_true rfl) ⟨Nat.zero_le _, Nat.zero_le _⟩ dX5_sizeChange_84) (fun H locs hT => ?_)
    refine lv_istore (lv' := [(11, .int r4), (10, .int r3), (0, .ref (B + x0)), (1, .ref (B + x1)), (2, .ref (B + x2)), (3, .int x3), (4, .int x4), (5, .int x5), (6, .int x6), (7, .int x7), (8, .int x8), (9, .int x9)]) hx hb dX5_sizeChange_87 hl (by decide) rfl (fun ls hl => ?_)
    refine lv_iload hx hb dX5_sizeChange_89 (lv_at hl 8 rfl) ?_
    refine lv_iload hx hb dX5_sizeChange_91 (lv_at hl 9 rfl) ?_
    refine lv_iload hx hb dX5_sizeChange_93 (lv_at hl 11 rfl) ?_
    refine lv_iload hx hb dX5_sizeChange_95 (lv_at hl 0 rfl) ?_
    obtain ⟨r5, σ5, hc5, h⟩ := bd_some h
    refine js_backI hT (js_runSN C hT mfX11_withRelation lk_X5_89 (kX11_withRelation  hc5) ⟨Nat.le_of_ble_eq_true rfl, Nat.le_of_ble_eq_true rfl⟩ rfl hl.1 rfl (Nat.le_of_ble_eq_true rfl) ⟨Nat.zero_le _, Nat.zero_le _⟩ dX5_sizeChange_97) (fun H locs hT => ?_)
    refine lv_istore (lv' := [(6, .int r5), (11, .int r4), (10, .int r3), (0, .ref (B + x0)), (1, .ref (B + x1)), (2, .ref (B + x2)), (3, .int x3), (4, .int x4), (5, .int x5), (7, .int x7), (8, .int x8), (9, .int x9)]) hx hb dX5_sizeChange_100 hl (by decide) rfl (fun ls hl => ?_)
    refine lv_iinc (v := x9 + 1) (lv' := [(9, .int (x9 + 1)), (6, .int r5), (11, .int r4), (10, .int r3), (0, .ref (B + x0)), (1, .ref (B + x1)), (2, .ref (B + x2)), (3, .int x3), (4, .int x4), (5, .int x5), (7, .int x7), (8, .int x8)]) hx hb dX5_sizeChange_102 hl (k := 11) rfl rfl (by decide) rfl (fun ls hl => ?_)
    refine lv_goto (tgt := 56) hx hb dX5_sizeChange_105 (by decide) ?_
    exact hrc56 _ _ _ _ _ _ _ _ _ _ _ _ _ h t0 t1 t2 H locs hT ls (lv_sub hl [4, 5, 6, 7, 8, 9, 1, 10, 11, 0] rfl)
set_option maxHeartbeats 4000000 in
set_option maxRecDepth 20000 in
theorem wX5_sizeChange_56 (C : js_C D g p m c cX5_sizeChange 12 s args RX5) (hr : meth.sig.returnType = (some .int)) (hk : meth.locks = false) (rc32 : Nat → Nat → Nat → Int32 → Int32 → Int32 → Int32 → Int32 → js_S → Option (Int32 × js_S)) (hrc32 : ∀ (x0 : Nat) (x1 : Nat) (x2 : Nat) (x3 : Int32) (x4 : Int32) (x5 : Int32) (x6 : Int32) (x7 : Int32) (σ : js_S) (r0 : Int32) (σ0 : js_S), rc32 x0 x1 x2 x3 x4 x5 x6 x7 σ = some (r0, σ0) → ob_ nn 8 x0 → ob_ nn 9 x1 → ob_ nn 9 x2 → js_at p l e 3 s m args below meth c D B g nn 32 12 [(0, .ref (B + x0)), (1, .ref (B + x1)), (2, .ref (B + x2)), (3, .int x3), (4, .int x4), (5, .int x5), (6, .int x6), (7, .int x7)] [] σ (js_QI D B g nn r0 σ0)) : ∀ (k : Nat), ∀ (x0 : Nat) (x1 : Nat) (x2 : Nat) (x3 : Int32) (x4 : Int32) (x5 : Int32) (x6 : Int32) (x7 : Int32) (x8 : Int32) (x9 : Int32) (σ : js_S) (r0 : Int32) (σ0 : js_S), fX5_sizeChange_56 fu rc32 k x0 x1 x2 x3 x4 x5 x6 x7 x8 x9 σ = some (r0, σ0) → ob_ nn 8 x0 → ob_ nn 9 x1 → ob_ nn 9 x2 → js_at p l e 3 s m args below meth c D B g nn 56 12 [(0, .ref (B + x0)), (1, .ref (B + x1)), (2, .ref (B + x2)), (3, .int x3), (4, .int x4), (5, .int x5), (6, .int x6), (7, .int x7), (8, .int x8), (9, .int x9)] [] σ (js_QI D B g nn r0 σ0) := by
  intro k
  induction k with
  | zero =>
    intro x0 x1 x2 x3 x4 x5 x6 x7 x8 x9 σ r0 σ0 h
    cases h
  | succ k ih =>
    intro x0 x1 x2 x3 x4 x5 x6 x7 x8 x9 σ r0 σ0 h
    exact wX5_sizeChange_56b C hr hk rc32 hrc32 (fX5_sizeChange_56 fu rc32 k) ih x0 x1 x2 x3 x4 x5 x6 x7 x8 x9 σ r0 σ0 h
set_option maxHeartbeats 4000000 in
set_option maxRecDepth 20000 in
theorem wX5_sizeChange_32b (C : js_C D g p m c cX5_sizeChange 12 s args RX5) (hr : meth.sig.returnType = (some .int)) (hk : meth.locks = false) (rc32 : Nat → Nat → Nat → Int32 → Int32 → Int32 → Int32 → Int32 → js_S → Option (Int32 × js_S)) (hrc32 : ∀ (x0 : Nat) (x1 : Nat) (x2 : Nat) (x3 : Int32) (x4 : Int32) (x5 : Int32) (x6 : Int32) (x7 : Int32) (σ : js_S) (r0 : Int32) (σ0 : js_S), rc32 x0 x1 x2 x3 x4 x5 x6 x7 σ = some (r0, σ0) → ob_ nn 8 x0 → ob_ nn 9 x1 → ob_ nn 9 x2 → js_at p l e 3 s m args below meth c D B g nn 32 12 [(0, .ref (B + x0)), (1, .ref (B + x1)), (2, .ref (B + x2)), (3, .int x3), (4, .int x4), (5, .int x5), (6, .int x6), (7, .int x7)] [] σ (js_QI D B g nn r0 σ0)) : ∀ (x0 : Nat) (x1 : Nat) (x2 : Nat) (x3 : Int32) (x4 : Int32) (x5 : Int32) (x6 : Int32) (x7 : Int32) (σ : js_S) (r0 : Int32) (σ0 : js_S), fX5_sizeChange_32b fu rc32 x0 x1 x2 x3 x4 x5 x6 x7 σ = some (r0, σ0) → ob_ nn 8 x0 → ob_ nn 9 x1 → ob_ nn 9 x2 → js_at p l e 3 s m args below meth c D B g nn 32 12 [(0, .ref (B + x0)), (1, .ref (B + x1)), (2, .ref (B + x2)), (3, .int x3), (4, .int x4), (5, .int x5), (6, .int x6), (7, .int x7)] [] σ (js_QI D B g nn r0 σ0) := by
  obtain ⟨hx, hb, hml, hown, ht, hK, hNw⟩ := id C
  intro x0 x1 x2 x3 x4 x5 x6 x7 σ r0 σ0 h t0 t1 t2 H locs hT ls hl
  unfold fX5_sizeChange_32b at h
  refine lv_iload hx hb dX5_sizeChange_32 (lv_at hl 7 rfl) ?_
  refine lv_aload_n hx hb dX5_sizeChange_34 rfl (lv_at hl 0 rfl) ?_
  refine lv_iload hx hb dX5_sizeChange_35 (lv_at hl 4 rfl) ?_
  obtain ⟨r1, σ1, hc1, h⟩ := bd_some h
  refine js_backI hT (js_runV C hT cfX8 t0 rfl mfX8_ofFunction lk_X5_76 (kX8_ofFunction t0 hc1) ⟨Nat.le_of_ble_eq_true rfl, Nat.le_of_ble_eq_true rfl⟩ rfl hl.1 rfl (Nat.le_of_ble_eq_true rfl) ⟨Nat.zero_le _, Nat.zero_le _⟩ dX5_sizeChange_37) (fun H locs hT => ?_)
  refine lv_icmp_ge (tgt := 114) hx hb dX5_sizeChange_40 (by decide) (fun c2 => ?_) (fun c2 => ?_)
  · rw [if_pos c2] at h
    refine lv_iload hx hb dX5_sizeChange_114 (lv_at hl 6 rfl) ?_
    obtain ⟨rfl, rfl⟩ := js_rt h
    exact js_iret C hT hr hk dX5_sizeChange_116
  · rw [if_neg c2] at h
    refine lv_aload_n hx hb dX5_sizeChange_43 rfl (lv_at hl 0 rfl) ?_
    refine lv_aload_n hx hb dX5_sizeChange_44 rfl (lv_at hl 1 rfl) ?_
    refine lv_iconst (v := 0) hx hb dX5_sizeChange_45 (by decide) ?_
    refine lv_iload hx hb dX5_sizeChange_46 (lv_at hl 7 rfl) ?_
    obtain ⟨r3, σ3, hc3, h⟩ := bd_some h
    refine js_backI hT (js_runV C hT cfX8 t0 rfl mfX8_argumentOf lk_X5_81 (kX8_argumentOf t0 t1 hc3) ⟨Nat.le_of_ble_eq_true rfl, Nat.le_of_ble_eq_true rfl⟩ rfl hl.1 rfl (Nat.le_of_ble_eq_true rfl) ⟨Nat.zero_le _, Nat.zero_le _⟩ dX5_sizeChange_48) (fun H locs hT => ?_)
    refine lv_istore (lv' := [(8, .int r3), (0, .ref (B + x0)), (1, .ref (B + x1)), (2, .ref (B + x2)), (3, .int x3), (4, .int x4), (5, .int x5), (6, .int x6), (7, .int x7)]) hx hb dX5_sizeChange_51 hl (by decide) rfl (fun ls hl => ?_)
    refine lv_iconst (v := 0) hx hb dX5_sizeChange_53 (by decide) ?_
    refine lv_istore (lv' := [(9, .int 0), (8, .int r3), (0, .ref (B + x0)), (1, .ref (B + x1)), (2, .ref (B + x2)), (3, .int x3), (4, .int x4), (5, .int x5), (6, .int x6), (7, .int x7)]) hx hb dX5_sizeChange_54 hl (by decide) rfl (fun ls hl => ?_)
    exact wX5_sizeChange_56 C hr hk rc32 hrc32 _ _ _ _ _ _ _ _ _ _ _ _ _ _ h t0 t1 t2 H locs hT ls (lv_sub hl [2, 3, 4, 5, 6, 7, 8, 9, 1, 0] rfl)
set_option maxHeartbeats 4000000 in
set_option maxRecDepth 20000 in
theorem wX5_sizeChange_32 (C : js_C D g p m c cX5_sizeChange 12 s args RX5) (hr : meth.sig.returnType = (some .int)) (hk : meth.locks = false) : ∀ (k : Nat), ∀ (x0 : Nat) (x1 : Nat) (x2 : Nat) (x3 : Int32) (x4 : Int32) (x5 : Int32) (x6 : Int32) (x7 : Int32) (σ : js_S) (r0 : Int32) (σ0 : js_S), fX5_sizeChange_32 fu k x0 x1 x2 x3 x4 x5 x6 x7 σ = some (r0, σ0) → ob_ nn 8 x0 → ob_ nn 9 x1 → ob_ nn 9 x2 → js_at p l e 3 s m args below meth c D B g nn 32 12 [(0, .ref (B + x0)), (1, .ref (B + x1)), (2, .ref (B + x2)), (3, .int x3), (4, .int x4), (5, .int x5), (6, .int x6), (7, .int x7)] [] σ (js_QI D B g nn r0 σ0) := by
  intro k
  induction k with
  | zero =>
    intro x0 x1 x2 x3 x4 x5 x6 x7 σ r0 σ0 h
    cases h
  | succ k ih =>
    intro x0 x1 x2 x3 x4 x5 x6 x7 σ r0 σ0 h
    exact wX5_sizeChange_32b C hr hk (fX5_sizeChange_32 fu k) ih x0 x1 x2 x3 x4 x5 x6 x7 σ r0 σ0 h
set_option maxHeartbeats 4000000 in
set_option maxRecDepth 20000 in
theorem kX5_sizeChange {x0 : Nat} {x1 : Nat} {x2 : Nat} {x3 : Int32} {σ σ0 : js_S} {r0 : Int32} (t0 : ob_ nn 8 x0) (t1 : ob_ nn 9 x1) (t2 : ob_ nn 9 x2) (h : fX5_sizeChange fu x0 x1 x2 x3 σ = some (r0, σ0)) : js_M l D B g nn yX5_sizeChange cX5_sizeChange 12 (some .int) 3 [.ref (B + x0), .ref (B + x1), .ref (B + x2), .int x3] σ (js_QI D B g nn r0 σ0) := by
  refine js_enter (by decide) (Nat.le_of_ble_eq_true rfl) ?_
  intro p e s m args below meth c C hr hk ls hl hT
  have hl : lv_has ls 12 [(0, .ref (B + x0)), (1, .ref (B + x1)), (2, .ref (B + x2)), (3, .int x3)] := hl
  obtain ⟨hx, hb, hml, hown, ht, hK, hNw⟩ := id C
  obtain ⟨H, eH⟩ : ∃ H, H = s.heap := ⟨_, rfl⟩
  obtain ⟨locs, eL⟩ : ∃ z : List Loc, z = [] := ⟨_, rfl⟩
  rw [← eH, ← eL]
  rw [← eH, ← eL] at hT
  clear eH eL
  unfold fX5_sizeChange at h
  refine lv_aload_n hx hb dX5_sizeChange_0 rfl (lv_at hl 1 rfl) ?_
  refine lv_iconst (v := 0) hx hb dX5_sizeChange_1 (by decide) ?_
  obtain ⟨r1, σ1, hc1, h⟩ := bd_some h
  refine js_backI hT (js_runV C hT cfX9 t1 rfl mfX9_symbolAt lk_X5_46 (kX9_symbolAt t1 hc1) ⟨Nat.le_of_ble_eq_true rfl, Nat.le_of_ble_eq_true rfl⟩ rfl hl.1 rfl (Nat.le_of_ble_eq_true rfl) ⟨Nat.zero_le _, Nat.zero_le _⟩ dX5_sizeChange_2) (fun H locs hT => ?_)
  obtain ⟨r2, σ2, hc2, h⟩ := bd_some h
  refine js_backI hT (js_runSN C hT mfX11_functionOfSymbol lk_X5_69 (kX11_functionOfSymbol  hc2) ⟨Nat.le_of_ble_eq_true rfl, Nat.le_of_ble_eq_true rfl⟩ rfl hl.1 rfl (Nat.le_of_ble_eq_true rfl) ⟨Nat.zero_le _, Nat.zero_le _⟩ dX5_sizeChange_5) (fun H locs hT => ?_)
  refine lv_istore (lv' := [(4, .int r2), (0, .ref (B + x0)), (1, .ref (B + x1)), (2, .ref (B + x2)), (3, .int x3)]) hx hb dX5_sizeChange_8 hl (by decide) rfl (fun ls hl => ?_)
  refine lv_aload_n hx hb dX5_sizeChange_10 rfl (lv_at hl 3 rfl) ?_
  refine lv_iload_n hx hb dX5_sizeChange_11 rfl (lv_at hl 4 rfl) ?_
  obtain ⟨r3, σ3, hc3, h⟩ := bd_some h
  refine js_backI hT (js_runV C hT cfX9 t2 rfl mfX9_symbolAt lk_X5_46 (kX9_symbolAt t2 hc3) ⟨Nat.le_of_ble_eq_true rfl, Nat.le_of_ble_eq_true rfl⟩ rfl hl.1 rfl (Nat.le_of_ble_eq_true rfl) ⟨Nat.zero_le _, Nat.zero_le _⟩ dX5_sizeChange_12) (fun H locs hT => ?_)
  obtain ⟨r4, σ4, hc4, h⟩ := bd_some h
  refine js_backI hT (js_runSN C hT mfX11_functionOfSymbol lk_X5_69 (kX11_functionOfSymbol  hc4) ⟨Nat.le_of_ble_eq_true rfl, Nat.le_of_ble_eq_true rfl⟩ rfl hl.1 rfl (Nat.le_of_ble_eq_true rfl) ⟨Nat.zero_le _, Nat.zero_le _⟩ dX5_sizeChange_15) (fun H locs hT => ?_)
  refine lv_istore (lv' := [(5, .int r4), (4, .int r2), (0, .ref (B + x0)), (1, .ref (B + x1)), (2, .ref (B + x2)), (3, .int x3)]) hx hb dX5_sizeChange_18 hl (by decide) rfl (fun ls hl => ?_)
  refine lv_iload hx hb dX5_sizeChange_20 (lv_at hl 1 rfl) ?_
  refine lv_iload hx hb dX5_sizeChange_22 (lv_at hl 0 rfl) ?_
  obtain ⟨r5, σ5, hc5, h⟩ := bd_some h
  refine js_backI hT (js_runSN C hT mfX11_emptyGraph lk_X5_72 (kX11_emptyGraph  hc5) ⟨Nat.le_of_ble_eq_true rfl, Nat.le_of_ble_eq_true rfl⟩ rfl hl.1 rfl (Nat.le_of_ble_eq_true rfl) ⟨Nat.zero_le _, Nat.zero_le _⟩ dX5_sizeChange_24) (fun H locs hT => ?_)
  refine lv_istore (lv' := [(6, .int r5), (5, .int r4), (4, .int r2), (0, .ref (B + x0)), (1, .ref (B + x1)), (2, .ref (B + x2)), (3, .int x3)]) hx hb dX5_sizeChange_27 hl (by decide) rfl (fun ls hl => ?_)
  refine lv_iconst (v := 0) hx hb dX5_sizeChange_29 (by decide) ?_
  refine lv_istore (lv' := [(7, .int 0), (6, .int r5), (5, .int r4), (4, .int r2), (0, .ref (B + x0)), (1, .ref (B + x1)), (2, .ref (B + x2)), (3, .int x3)]) hx hb dX5_sizeChange_30 hl (by decide) rfl (fun ls hl => ?_)
  exact wX5_sizeChange_32 C hr hk _ _ _ _ _ _ _ _ _ _ _ _ h t0 t1 t2 H locs hT ls (lv_sub hl [4, 5, 6, 7, 3, 2, 1, 0] rfl)
set_option maxHeartbeats 4000000 in
set_option maxRecDepth 20000 in
theorem wX5_rebuild_110 (C : js_C D g p m c cX5_rebuild 5 s args RX5) (hr : meth.sig.returnType = none) (hk : meth.locks = false) (rc7 : Nat → Nat → Int32 → js_S → Option (Unit × js_S)) (hrc7 : ∀ (x0 : Nat) (x1 : Nat) (x2 : Int32) (σ : js_S) (r0 : Unit) (σ0 : js_S), rc7 x0 x1 x2 σ = some (r0, σ0) → ob_ nn 5 x0 → ob_ nn 6 x1 → js_at p l e 4 s m args below meth c D B g nn 7 5 [(0, .ref (B + x0)), (1, .ref (B + x1)), (2, .int x2)] [] σ (js_QV D B g nn σ0)) (rc24 : Nat → Nat → Int32 → Nat → Int32 → js_S → Option (Unit × js_S)) (hrc24 : ∀ (x0 : Nat) (x1 : Nat) (x2 : Int32) (x3 : Nat) (x4 : Int32) (σ : js_S) (r0 : Unit) (σ0 : js_S), rc24 x0 x1 x2 x3 x4 σ = some (r0, σ0) → ob_ nn 5 x0 → ob_ nn 6 x1 → ob_ nn 9 x3 → js_at p l e 4 s m args below meth c D B g nn 24 5 [(0, .ref (B + x0)), (1, .ref (B + x1)), (2, .int x2), (3, .ref (B + x3)), (4, .int x4)] [] σ (js_QV D B g nn σ0)) : ∀ (x0 : Nat) (x1 : Nat) (x2 : Int32) (x3 : Nat) (x4 : Int32) (σ : js_S) (r0 : Unit) (σ0 : js_S), fX5_rebuild_110 fu rc7 rc24 x0 x1 x2 x3 x4 σ = some (r0, σ0) → ob_ nn 5 x0 → ob_ nn 6 x1 → ob_ nn 9 x3 → js_at p l e 4 s m args below meth c D B g nn 110 5 [(0, .ref (B + x0)), (1, .ref (B + x1)), (2, .int x2), (3, .ref (B + x3)), (4, .int x4)] [] σ (js_QV D B g nn σ0) := by
  obtain ⟨hx, hb, hml, hown, ht, hK, hNw⟩ := id C
  intro x0 x1 x2 x3 x4 σ r0 σ0 h t0 t1 t3 H locs hT ls hl
  unfold fX5_rebuild_110 at h
  refine lv_iinc (v := x4 + 1) (lv' := [(4, .int (x4 + 1)), (0, .ref (B + x0)), (1, .ref (B + x1)), (2, .int x2), (3, .ref (B + x3))]) hx hb dX5_rebuild_110 hl (k := 4) rfl rfl (by decide) rfl (fun ls hl => ?_)
  refine lv_goto (tgt := 24) hx hb dX5_rebuild_113 (by decide) ?_
  exact hrc24 _ _ _ _ _ _ _ _ h t0 t1 t3 H locs hT ls (lv_sub hl [1, 2, 3, 4, 0] rfl)
set_option maxHeartbeats 4000000 in
set_option maxRecDepth 20000 in
theorem wX5_rebuild_24b (C : js_C D g p m c cX5_rebuild 5 s args RX5) (hr : meth.sig.returnType = none) (hk : meth.locks = false) (rc7 : Nat → Nat → Int32 → js_S → Option (Unit × js_S)) (hrc7 : ∀ (x0 : Nat) (x1 : Nat) (x2 : Int32) (σ : js_S) (r0 : Unit) (σ0 : js_S), rc7 x0 x1 x2 σ = some (r0, σ0) → ob_ nn 5 x0 → ob_ nn 6 x1 → js_at p l e 4 s m args below meth c D B g nn 7 5 [(0, .ref (B + x0)), (1, .ref (B + x1)), (2, .int x2)] [] σ (js_QV D B g nn σ0)) (rc24 : Nat → Nat → Int32 → Nat → Int32 → js_S → Option (Unit × js_S)) (hrc24 : ∀ (x0 : Nat) (x1 : Nat) (x2 : Int32) (x3 : Nat) (x4 : Int32) (σ : js_S) (r0 : Unit) (σ0 : js_S), rc24 x0 x1 x2 x3 x4 σ = some (r0, σ0) → ob_ nn 5 x0 → ob_ nn 6 x1 → ob_ nn 9 x3 → js_at p l e 4 s m args below meth c D B g nn 24 5 [(0, .ref (B + x0)), (1, .ref (B + x1)), (2, .int x2), (3, .ref (B + x3)), (4, .int x4)] [] σ (js_QV D B g nn σ0)) : ∀ (x0 : Nat) (x1 : Nat) (x2 : Int32) (x3 : Nat) (x4 : Int32) (σ : js_S) (r0 : Unit) (σ0 : js_S), fX5_rebuild_24b fu rc7 rc24 x0 x1 x2 x3 x4 σ = some (r0, σ0) → ob_ nn 5 x0 → ob_ nn 6 x1 → ob_ nn 9 x3 → js_at p l e 4 s m args below meth c D B g nn 24 5 [(0, .ref (B + x0)), (1, .ref (B + x1)), (2, .int x2), (3, .ref (B + x3)), (4, .int x4)] [] σ (js_QV D B g nn σ0) := by
  obtain ⟨hx, hb, hml, hown, ht, hK, hNw⟩ := id C
  intro x0 x1 x2 x3 x4 σ r0 σ0 h t0 t1 t3 H locs hT ls hl
  unfold fX5_rebuild_24b at h
  refine lv_iload hx hb dX5_rebuild_24 (lv_at hl 4 rfl) ?_
  refine lv_aload_n hx hb dX5_rebuild_26 rfl (lv_at hl 3 rfl) ?_
  refine js_gIN C hT cfX9 t3 1 (by decide) rfl lk_X5_41 dX5_rebuild_27 ?_
  refine lv_icmp_ge (tgt := 116) hx hb dX5_rebuild_30 (by decide) (fun c1 => ?_) (fun c1 => ?_)
  · rw [if_pos c1] at h
    refine lv_iinc (v := x2 + 1) (lv' := [(2, .int (x2 + 1)), (0, .ref (B + x0)), (1, .ref (B + x1)), (3, .ref (B + x3)), (4, .int x4)]) hx hb dX5_rebuild_116 hl (k := 2) rfl rfl (by decide) rfl (fun ls hl => ?_)
    refine lv_goto (tgt := 7) hx hb dX5_rebuild_119 (by decide) ?_
    exact hrc7 _ _ _ _ _ _ h t0 t1 H locs hT ls (lv_sub hl [1, 2, 0] rfl)
  · rw [if_neg c1] at h
    refine lv_aload_n hx hb dX5_rebuild_33 rfl (lv_at hl 3 rfl) ?_
    refine lv_iload hx hb dX5_rebuild_34 (lv_at hl 4 rfl) ?_
    obtain ⟨r2, σ2, hc2, h⟩ := bd_some h
    refine js_backI hT (js_runV C hT cfX9 t3 rfl mfX9_symbolAt lk_X5_46 (kX9_symbolAt t3 hc2) ⟨Nat.le_of_ble_eq_true rfl, Nat.le_of_ble_eq_true rfl⟩ rfl hl.1 rfl (Nat.le_of_ble_eq_true rfl) ⟨Nat.zero_le _, Nat.zero_le _⟩ dX5_rebuild_36) (fun H locs hT => ?_)
    obtain ⟨r3, σ3, hc3, h⟩ := bd_some h
    refine js_backI hT (js_runSN C hT mfX11_isFunction lk_X5_50 (kX11_isFunction  hc3) ⟨Nat.le_of_ble_eq_true rfl, Nat.le_of_ble_eq_true rfl⟩ rfl hl.1 rfl (Nat.le_of_ble_eq_true rfl) ⟨Nat.zero_le _, Nat.zero_le _⟩ dX5_rebuild_39) (fun H locs hT => ?_)
    refine lv_if_eq (tgt := 110) hx hb dX5_rebuild_42 (by decide) (fun c4 => ?_) (fun c4 => ?_)
    · rw [if_pos c4] at h
      exact wX5_rebuild_110 C hr hk rc7 hrc7 rc24 hrc24 _ _ _ _ _ _ _ _ h t0 t1 t3 H locs hT ls (lv_sub hl [0, 1, 2, 3, 4] rfl)
    · rw [if_neg c4] at h
      refine lv_aload_n hx hb dX5_rebuild_45 rfl (lv_at hl 0 rfl) ?_
      refine js_gI C hT cfX5 t0 4 (by decide) rfl lk_X5_28 dX5_rebuild_46 ?_
      refine lv_sipush (v := 240) hx hb dX5_rebuild_49 (by decide) ?_
      refine lv_icmp_ge (tgt := 110) hx hb dX5_rebuild_52 (by decide) (fun c5 => ?_) (fun c5 => ?_)
      · rw [if_pos c5] at h
        exact wX5_rebuild_110 C hr hk rc7 hrc7 rc24 hrc24 _ _ _ _ _ _ _ _ h t0 t1 t3 H locs hT ls (lv_sub hl [0, 1, 2, 3, 4] rfl)
      · rw [if_neg c5] at h
        refine lv_aload_n hx hb dX5_rebuild_55 rfl (lv_at hl 0 rfl) ?_
        refine js_gR C hT cfX5 t0 0 (by decide) (q := 20) rfl (by decide) lk_X5_9 dX5_rebuild_56 (fun t6a => ?_)
        refine lv_aload_n hx hb dX5_rebuild_59 rfl (lv_at hl 0 rfl) ?_
        refine js_gI C hT cfX5 t0 4 (by decide) rfl lk_X5_28 dX5_rebuild_60 ?_
        refine lv_iload_n hx hb dX5_rebuild_63 rfl (lv_at hl 2 rfl) ?_
        obtain ⟨g7, h⟩ := gd_some _ h
        obtain ⟨σ7, e7, h⟩ := lt_some h
        refine js_iast C hT t6a g7 dX5_rebuild_64 (fun H locs hT => ?_)
        rw [e7] at hT
        refine lv_aload_n hx hb dX5_rebuild_65 rfl (lv_at hl 0 rfl) ?_
        refine js_gR C hT cfX5 t0 1 (by decide) (q := 20) rfl (by decide) lk_X5_15 dX5_rebuild_66 (fun t8a => ?_)
        refine lv_aload_n hx hb dX5_rebuild_69 rfl (lv_at hl 0 rfl) ?_
        refine js_gI C hT cfX5 t0 4 (by decide) rfl lk_X5_28 dX5_rebuild_70 ?_
        refine lv_iload hx hb dX5_rebuild_73 (lv_at hl 4 rfl) ?_
        obtain ⟨g9, h⟩ := gd_some _ h
        obtain ⟨σ9, e9, h⟩ := lt_some h
        refine js_iast C hT t8a g9 dX5_rebuild_75 (fun H locs hT => ?_)
        rw [e9] at hT
        refine lv_aload_n hx hb dX5_rebuild_76 rfl (lv_at hl 0 rfl) ?_
        refine js_gR C hT cfX5 t0 2 (by decide) (q := 20) rfl (by decide) lk_X5_18 dX5_rebuild_77 (fun t10a => ?_)
        refine lv_aload_n hx hb dX5_rebuild_80 rfl (lv_at hl 0 rfl) ?_
        refine js_gI C hT cfX5 t0 4 (by decide) rfl lk_X5_28 dX5_rebuild_81 ?_
        refine lv_aload_n hx hb dX5_rebuild_84 rfl (lv_at hl 1 rfl) ?_
        refine js_gRN C hT cfX6 t1 0 (by decide) (q := 8) rfl (by decide) lk_X5_54 dX5_rebuild_85 (fun t11a => ?_)
        refine lv_aload_n hx hb dX5_rebuild_88 rfl (lv_at hl 1 rfl) ?_
        refine lv_iload_n hx hb dX5_rebuild_89 rfl (lv_at hl 2 rfl) ?_
        obtain ⟨r12, σ12, hc12, h⟩ := bd_some h
        refine js_backR hT (js_runV C hT cfX6 t1 rfl mfX6_left lk_X5_58 (kX6_left t1 hc12) ⟨Nat.le_of_ble_eq_true rfl, Nat.le_of_ble_eq_true rfl⟩ rfl hl.1 rfl (Nat.le_of_ble_eq_true rfl) ⟨Nat.zero_le _, Nat.zero_le _⟩ dX5_rebuild_90) (fun H locs hT t12a => ?_)
        refine lv_aload_n hx hb dX5_rebuild_93 rfl (lv_at hl 3 rfl) ?_
        refine lv_iload hx hb dX5_rebuild_94 (lv_at hl 4 rfl) ?_
        obtain ⟨r13, σ13, hc13, h⟩ := bd_some h
        refine js_backI hT (js_runS C hT mfX5_sizeChange lk_X5_61 (kX5_sizeChange t11a t12a t3 hc13) ⟨Nat.le_of_ble_eq_true rfl, Nat.le_of_ble_eq_true rfl⟩ rfl hl.1 rfl (Nat.le_of_ble_eq_true rfl) ⟨Nat.zero_le _, Nat.zero_le _⟩ dX5_rebuild_96) (fun H locs hT => ?_)
        obtain ⟨g14, h⟩ := gd_some _ h
        obtain ⟨σ14, e14, h⟩ := lt_some h
        refine js_iast C hT t10a g14 dX5_rebuild_99 (fun H locs hT => ?_)
        rw [e14] at hT
        refine lv_aload_n hx hb dX5_rebuild_100 rfl (lv_at hl 0 rfl) ?_
        refine lv_dup hx hb dX5_rebuild_101 rfl ?_
        refine js_gI C hT cfX5 t0 4 (by decide) rfl lk_X5_28 dX5_rebuild_102 ?_
        refine lv_iconst (v := 1) hx hb dX5_rebuild_105 (by decide) ?_
        refine lv_iadd hx hb dX5_rebuild_106 ?_
        obtain ⟨σ15, e15, h⟩ := lt_some h
        refine js_pI C hT cfX5 t0 4 (by decide) rfl rfl rfl rfl lk_X5_28 dX5_rebuild_107 (fun H locs hT => ?_)
        rw [e15] at hT
        exact wX5_rebuild_110 C hr hk rc7 hrc7 rc24 hrc24 _ _ _ _ _ _ _ _ h t0 t1 t3 H locs hT ls (lv_sub hl [0, 1, 2, 3, 4] rfl)
set_option maxHeartbeats 4000000 in
set_option maxRecDepth 20000 in
theorem wX5_rebuild_24 (C : js_C D g p m c cX5_rebuild 5 s args RX5) (hr : meth.sig.returnType = none) (hk : meth.locks = false) (rc7 : Nat → Nat → Int32 → js_S → Option (Unit × js_S)) (hrc7 : ∀ (x0 : Nat) (x1 : Nat) (x2 : Int32) (σ : js_S) (r0 : Unit) (σ0 : js_S), rc7 x0 x1 x2 σ = some (r0, σ0) → ob_ nn 5 x0 → ob_ nn 6 x1 → js_at p l e 4 s m args below meth c D B g nn 7 5 [(0, .ref (B + x0)), (1, .ref (B + x1)), (2, .int x2)] [] σ (js_QV D B g nn σ0)) : ∀ (k : Nat), ∀ (x0 : Nat) (x1 : Nat) (x2 : Int32) (x3 : Nat) (x4 : Int32) (σ : js_S) (r0 : Unit) (σ0 : js_S), fX5_rebuild_24 fu rc7 k x0 x1 x2 x3 x4 σ = some (r0, σ0) → ob_ nn 5 x0 → ob_ nn 6 x1 → ob_ nn 9 x3 → js_at p l e 4 s m args below meth c D B g nn 24 5 [(0, .ref (B + x0)), (1, .ref (B + x1)), (2, .int x2), (3, .ref (B + x3)), (4, .int x4)] [] σ (js_QV D B g nn σ0) := by
  intro k
  induction k with
  | zero =>
    intro x0 x1 x2 x3 x4 σ r0 σ0 h
    cases h
  | succ k ih =>
    intro x0 x1 x2 x3 x4 σ r0 σ0 h
    exact wX5_rebuild_24b C hr hk rc7 hrc7 (fX5_rebuild_24 fu rc7 k) ih x0 x1 x2 x3 x4 σ r0 σ0 h
set_option maxHeartbeats 4000000 in
set_option maxRecDepth 20000 in
theorem wX5_rebuild_7b (C : js_C D g p m c cX5_rebuild 5 s args RX5) (hr : meth.sig.returnType = none) (hk : meth.locks = false) (rc7 : Nat → Nat → Int32 → js_S → Option (Unit × js_S)) (hrc7 : ∀ (x0 : Nat) (x1 : Nat) (x2 : Int32) (σ : js_S) (r0 : Unit) (σ0 : js_S), rc7 x0 x1 x2 σ = some (r0, σ0) → ob_ nn 5 x0 → ob_ nn 6 x1 → js_at p l e 4 s m args below meth c D B g nn 7 5 [(0, .ref (B + x0)), (1, .ref (B + x1)), (2, .int x2)] [] σ (js_QV D B g nn σ0)) : ∀ (x0 : Nat) (x1 : Nat) (x2 : Int32) (σ : js_S) (r0 : Unit) (σ0 : js_S), fX5_rebuild_7b fu rc7 x0 x1 x2 σ = some (r0, σ0) → ob_ nn 5 x0 → ob_ nn 6 x1 → js_at p l e 4 s m args below meth c D B g nn 7 5 [(0, .ref (B + x0)), (1, .ref (B + x1)), (2, .int x2)] [] σ (js_QV D B g nn σ0) := by
  obtain ⟨hx, hb, hml, hown, ht, hK, hNw⟩ := id C
  intro x0 x1 x2 σ r0 σ0 h t0 t1 H locs hT ls hl
  unfold fX5_rebuild_7b at h
  refine lv_iload_n hx hb dX5_rebuild_7 rfl (lv_at hl 2 rfl) ?_
  refine lv_aload_n hx hb dX5_rebuild_8 rfl (lv_at hl 1 rfl) ?_
  refine js_gIN C hT cfX6 t1 5 (by decide) rfl lk_X5_32 dX5_rebuild_9 ?_
  refine lv_icmp_ge (tgt := 122) hx hb dX5_rebuild_12 (by decide) (fun c1 => ?_) (fun c1 => ?_)
  · rw [if_pos c1] at h
    refine lv_aload_n hx hb dX5_rebuild_122 rfl (lv_at hl 0 rfl) ?_
    refine lv_aload_n hx hb dX5_rebuild_123 rfl (lv_at hl 1 rfl) ?_
    obtain ⟨z2, σ2, hc2, h⟩ := bd_some h
    refine js_backV hT (js_runV C hT cfX5 t0 rfl mfX5_connectPairs lk_X5_65 (kX5_connectPairs t0 t1 hc2) ⟨Nat.le_of_ble_eq_true rfl, Nat.le_of_ble_eq_true rfl⟩ rfl hl.1 rfl (Nat.le_of_ble_eq_true rfl) ⟨Nat.zero_le _, Nat.zero_le _⟩ dX5_rebuild_124) (fun H locs hT => ?_)
    obtain ⟨rfl, rfl⟩ := js_rt h
    exact js_vret C hT hr hk dX5_rebuild_127
  · rw [if_neg c1] at h
    refine lv_aload_n hx hb dX5_rebuild_15 rfl (lv_at hl 1 rfl) ?_
    refine lv_iload_n hx hb dX5_rebuild_16 rfl (lv_at hl 2 rfl) ?_
    obtain ⟨r3, σ3, hc3, h⟩ := bd_some h
    refine js_backR hT (js_runV C hT cfX6 t1 rfl mfX6_right lk_X5_37 (kX6_right t1 hc3) ⟨Nat.le_of_ble_eq_true rfl, Nat.le_of_ble_eq_true rfl⟩ rfl hl.1 rfl (Nat.le_of_ble_eq_true rfl) ⟨Nat.zero_le _, Nat.zero_le _⟩ dX5_rebuild_17) (fun H locs hT t3a => ?_)
    refine lv_astore_n (lv' := [(3, .ref (B + r3)), (0, .ref (B + x0)), (1, .ref (B + x1)), (2, .int x2)]) hx hb dX5_rebuild_20 rfl hl (by decide) rfl (fun ls hl => ?_)
    refine lv_iconst (v := 0) hx hb dX5_rebuild_21 (by decide) ?_
    refine lv_istore (lv' := [(4, .int 0), (3, .ref (B + r3)), (0, .ref (B + x0)), (1, .ref (B + x1)), (2, .int x2)]) hx hb dX5_rebuild_22 hl (by decide) rfl (fun ls hl => ?_)
    exact wX5_rebuild_24 C hr hk rc7 hrc7 _ _ _ _ _ _ _ _ _ h t0 t1 t3a H locs hT ls (lv_sub hl [2, 3, 4, 1, 0] rfl)
set_option maxHeartbeats 4000000 in
set_option maxRecDepth 20000 in
theorem wX5_rebuild_7 (C : js_C D g p m c cX5_rebuild 5 s args RX5) (hr : meth.sig.returnType = none) (hk : meth.locks = false) : ∀ (k : Nat), ∀ (x0 : Nat) (x1 : Nat) (x2 : Int32) (σ : js_S) (r0 : Unit) (σ0 : js_S), fX5_rebuild_7 fu k x0 x1 x2 σ = some (r0, σ0) → ob_ nn 5 x0 → ob_ nn 6 x1 → js_at p l e 4 s m args below meth c D B g nn 7 5 [(0, .ref (B + x0)), (1, .ref (B + x1)), (2, .int x2)] [] σ (js_QV D B g nn σ0) := by
  intro k
  induction k with
  | zero =>
    intro x0 x1 x2 σ r0 σ0 h
    cases h
  | succ k ih =>
    intro x0 x1 x2 σ r0 σ0 h
    exact wX5_rebuild_7b C hr hk (fX5_rebuild_7 fu k) ih x0 x1 x2 σ r0 σ0 h
set_option maxHeartbeats 4000000 in
set_option maxRecDepth 20000 in
theorem kX5_rebuild {x0 : Nat} {x1 : Nat} {σ σ0 : js_S} {r0 : Unit} (t0 : ob_ nn 5 x0) (t1 : ob_ nn 6 x1) (h : fX5_rebuild fu x0 x1 σ = some (r0, σ0)) : js_M l D B g nn yX5_rebuild cX5_rebuild 5 none 4 [.ref (B + x0), .ref (B + x1)] σ (js_QV D B g nn σ0) := by
  refine js_enter (by decide) (Nat.le_of_ble_eq_true rfl) ?_
  intro p e s m args below meth c C hr hk ls hl hT
  have hl : lv_has ls 5 [(0, .ref (B + x0)), (1, .ref (B + x1))] := hl
  obtain ⟨hx, hb, hml, hown, ht, hK, hNw⟩ := id C
  obtain ⟨H, eH⟩ : ∃ H, H = s.heap := ⟨_, rfl⟩
  obtain ⟨locs, eL⟩ : ∃ z : List Loc, z = [] := ⟨_, rfl⟩
  rw [← eH, ← eL]
  rw [← eH, ← eL] at hT
  clear eH eL
  unfold fX5_rebuild at h
  refine lv_aload_n hx hb dX5_rebuild_0 rfl (lv_at hl 0 rfl) ?_
  refine lv_iconst (v := 0) hx hb dX5_rebuild_1 (by decide) ?_
  obtain ⟨σ1, e1, h⟩ := lt_some h
  refine js_pI C hT cfX5 t0 4 (by decide) rfl rfl rfl rfl lk_X5_28 dX5_rebuild_2 (fun H locs hT => ?_)
  rw [e1] at hT
  refine lv_iconst (v := 0) hx hb dX5_rebuild_5 (by decide) ?_
  refine lv_istore_n (lv' := [(2, .int 0), (0, .ref (B + x0)), (1, .ref (B + x1))]) hx hb dX5_rebuild_6 rfl hl (by decide) rfl (fun ls hl => ?_)
  exact wX5_rebuild_7 C hr hk _ _ _ _ _ _ _ h t0 t1 H locs hT ls (lv_sub hl [1, 2, 0] rfl)
set_option maxHeartbeats 4000000 in
set_option maxRecDepth 20000 in
theorem kX8_copyFrom {x0 : Nat} {x1 : Nat} {σ σ0 : js_S} {r0 : Unit} (t0 : ob_ nn 8 x0) (t1 : ob_ nn 8 x1) (h : fX8_copyFrom fu x0 x1 σ = some (r0, σ0)) : js_M l D B g nn yX8_copyFrom cX8_copyFrom 2 none 0 [.ref (B + x0), .ref (B + x1)] σ (js_QV D B g nn σ0) := by
  refine js_enter (by decide) (Nat.le_of_ble_eq_true rfl) ?_
  intro p e s m args below meth c C hr hk ls hl hT
  have hl : lv_has ls 2 [(0, .ref (B + x0)), (1, .ref (B + x1))] := hl
  obtain ⟨hx, hb, hml, hown, ht, hK, hNw⟩ := id C
  obtain ⟨H, eH⟩ : ∃ H, H = s.heap := ⟨_, rfl⟩
  obtain ⟨locs, eL⟩ : ∃ z : List Loc, z = [] := ⟨_, rfl⟩
  rw [← eH, ← eL]
  rw [← eH, ← eL] at hT
  clear eH eL
  unfold fX8_copyFrom at h
  refine lv_aload_n hx hb dX8_copyFrom_0 rfl (lv_at hl 1 rfl) ?_
  refine js_gR C hT cfX8 t1 0 (by decide) (q := 20) rfl (by decide) lk_X8_9 dX8_copyFrom_1 (fun t1a => ?_)
  refine lv_iconst (v := 0) hx hb dX8_copyFrom_4 (by decide) ?_
  refine lv_aload_n hx hb dX8_copyFrom_5 rfl (lv_at hl 0 rfl) ?_
  refine js_gR C hT cfX8 t0 0 (by decide) (q := 20) rfl (by decide) lk_X8_9 dX8_copyFrom_6 (fun t2a => ?_)
  refine lv_iconst (v := 0) hx hb dX8_copyFrom_9 (by decide) ?_
  refine lv_aload_n hx hb dX8_copyFrom_10 rfl (lv_at hl 0 rfl) ?_
  refine js_gR C hT cfX8 t0 0 (by decide) (q := 20) rfl (by decide) lk_X8_9 dX8_copyFrom_11 (fun t3a => ?_)
  refine js_alen C hT t3a (Or.inl rfl) dX8_copyFrom_14 ?_
  obtain ⟨g4, h⟩ := gd_some _ h
  obtain ⟨σ4, e4, h⟩ := lt_some h
  refine js_copyi C hT t1a t2a hl.1 g4 lk_X8_15 js_ac1 js_ac2 js_ac3 (Nat.le_of_ble_eq_true rfl) (Nat.le_of_ble_eq_true rfl) dX8_copyFrom_15 (fun H locs hT => ?_)
  rw [e4] at hT
  obtain ⟨rfl, rfl⟩ := js_rt h
  exact js_vret C hT hr hk dX8_copyFrom_18
set_option maxHeartbeats 4000000 in
set_option maxRecDepth 20000 in
theorem wX6_copyFrom_61b (C : js_C D g p m c cX6_copyFrom 3 s args RX6) (hr : meth.sig.returnType = none) (hk : meth.locks = false) (rc61 : Nat → Nat → Int32 → js_S → Option (Unit × js_S)) (hrc61 : ∀ (x0 : Nat) (x1 : Nat) (x2 : Int32) (σ : js_S) (r0 : Unit) (σ0 : js_S), rc61 x0 x1 x2 σ = some (r0, σ0) → ob_ nn 6 x0 → ob_ nn 6 x1 → js_at p l e 1 s m args below meth c D B g nn 61 3 [(0, .ref (B + x0)), (1, .ref (B + x1)), (2, .int x2)] [] σ (js_QV D B g nn σ0)) : ∀ (x0 : Nat) (x1 : Nat) (x2 : Int32) (σ : js_S) (r0 : Unit) (σ0 : js_S), fX6_copyFrom_61b fu rc61 x0 x1 x2 σ = some (r0, σ0) → ob_ nn 6 x0 → ob_ nn 6 x1 → js_at p l e 1 s m args below meth c D B g nn 61 3 [(0, .ref (B + x0)), (1, .ref (B + x1)), (2, .int x2)] [] σ (js_QV D B g nn σ0) := by
  obtain ⟨hx, hb, hml, hown, ht, hK, hNw⟩ := id C
  intro x0 x1 x2 σ r0 σ0 h t0 t1 H locs hT ls hl
  unfold fX6_copyFrom_61b at h
  refine lv_iload_n hx hb dX6_copyFrom_61 rfl (lv_at hl 2 rfl) ?_
  refine lv_iconst (v := 4) hx hb dX6_copyFrom_62 (by decide) ?_
  refine lv_icmp_ge (tgt := 85) hx hb dX6_copyFrom_63 (by decide) (fun c1 => ?_) (fun c1 => ?_)
  · rw [if_pos c1] at h
    obtain ⟨rfl, rfl⟩ := js_rt h
    exact js_vret C hT hr hk dX6_copyFrom_85
  · rw [if_neg c1] at h
    refine lv_aload_n hx hb dX6_copyFrom_66 rfl (lv_at hl 0 rfl) ?_
    refine lv_iload_n hx hb dX6_copyFrom_67 rfl (lv_at hl 2 rfl) ?_
    obtain ⟨r2, σ2, hc2, h⟩ := bd_some h
    refine js_backR hT (js_runV C hT cfX6 t0 rfl mfX6_register lk_X6_50 (kX6_register t0 hc2) ⟨Nat.le_of_ble_eq_true rfl, Nat.le_of_ble_eq_true rfl⟩ rfl hl.1 rfl (Nat.le_of_ble_eq_true rfl) ⟨Nat.zero_le _, Nat.zero_le _⟩ dX6_copyFrom_68) (fun H locs hT t2a => ?_)
    refine lv_aload_n hx hb dX6_copyFrom_71 rfl (lv_at hl 1 rfl) ?_
    refine lv_iload_n hx hb dX6_copyFrom_72 rfl (lv_at hl 2 rfl) ?_
    obtain ⟨r3, σ3, hc3, h⟩ := bd_some h
    refine js_backR hT (js_runV C hT cfX6 t1 rfl mfX6_register lk_X6_50 (kX6_register t1 hc3) ⟨Nat.le_of_ble_eq_true rfl, Nat.le_of_ble_eq_true rfl⟩ rfl hl.1 rfl (Nat.le_of_ble_eq_true rfl) ⟨Nat.zero_le _, Nat.zero_le _⟩ dX6_copyFrom_73) (fun H locs hT t3a => ?_)
    obtain ⟨z4, σ4, hc4, h⟩ := bd_some h
    refine js_backV hT (js_runV C hT cfX9 t2a rfl mfX9_copyFrom lk_X6_43 (kX9_copyFrom t2a t3a hc4) ⟨Nat.le_of_ble_eq_true rfl, Nat.le_of_ble_eq_true rfl⟩ rfl hl.1 rfl (Nat.le_of_ble_eq_true rfl) ⟨Nat.zero_le _, Nat.zero_le _⟩ dX6_copyFrom_76) (fun H locs hT => ?_)
    refine lv_iinc (v := x2 + 1) (lv' := [(2, .int (x2 + 1)), (0, .ref (B + x0)), (1, .ref (B + x1))]) hx hb dX6_copyFrom_79 hl (k := 2) rfl rfl (by decide) rfl (fun ls hl => ?_)
    refine lv_goto (tgt := 61) hx hb dX6_copyFrom_82 (by decide) ?_
    exact hrc61 _ _ _ _ _ _ h t0 t1 H locs hT ls (lv_sub hl [1, 2, 0] rfl)
set_option maxHeartbeats 4000000 in
set_option maxRecDepth 20000 in
theorem wX6_copyFrom_61 (C : js_C D g p m c cX6_copyFrom 3 s args RX6) (hr : meth.sig.returnType = none) (hk : meth.locks = false) : ∀ (k : Nat), ∀ (x0 : Nat) (x1 : Nat) (x2 : Int32) (σ : js_S) (r0 : Unit) (σ0 : js_S), fX6_copyFrom_61 fu k x0 x1 x2 σ = some (r0, σ0) → ob_ nn 6 x0 → ob_ nn 6 x1 → js_at p l e 1 s m args below meth c D B g nn 61 3 [(0, .ref (B + x0)), (1, .ref (B + x1)), (2, .int x2)] [] σ (js_QV D B g nn σ0) := by
  intro k
  induction k with
  | zero =>
    intro x0 x1 x2 σ r0 σ0 h
    cases h
  | succ k ih =>
    intro x0 x1 x2 σ r0 σ0 h
    exact wX6_copyFrom_61b C hr hk (fX6_copyFrom_61 fu k) ih x0 x1 x2 σ r0 σ0 h
set_option maxHeartbeats 4000000 in
set_option maxRecDepth 20000 in
theorem wX6_copyFrom_21b (C : js_C D g p m c cX6_copyFrom 3 s args RX6) (hr : meth.sig.returnType = none) (hk : meth.locks = false) (rc21 : Nat → Nat → Int32 → js_S → Option (Unit × js_S)) (hrc21 : ∀ (x0 : Nat) (x1 : Nat) (x2 : Int32) (σ : js_S) (r0 : Unit) (σ0 : js_S), rc21 x0 x1 x2 σ = some (r0, σ0) → ob_ nn 6 x0 → ob_ nn 6 x1 → js_at p l e 1 s m args below meth c D B g nn 21 3 [(0, .ref (B + x0)), (1, .ref (B + x1)), (2, .int x2)] [] σ (js_QV D B g nn σ0)) : ∀ (x0 : Nat) (x1 : Nat) (x2 : Int32) (σ : js_S) (r0 : Unit) (σ0 : js_S), fX6_copyFrom_21b fu rc21 x0 x1 x2 σ = some (r0, σ0) → ob_ nn 6 x0 → ob_ nn 6 x1 → js_at p l e 1 s m args below meth c D B g nn 21 3 [(0, .ref (B + x0)), (1, .ref (B + x1)), (2, .int x2)] [] σ (js_QV D B g nn σ0) := by
  obtain ⟨hx, hb, hml, hown, ht, hK, hNw⟩ := id C
  intro x0 x1 x2 σ r0 σ0 h t0 t1 H locs hT ls hl
  unfold fX6_copyFrom_21b at h
  refine lv_iload_n hx hb dX6_copyFrom_21 rfl (lv_at hl 2 rfl) ?_
  refine lv_bipush (v := 6) hx hb dX6_copyFrom_22 (by decide) ?_
  refine lv_icmp_ge (tgt := 59) hx hb dX6_copyFrom_24 (by decide) (fun c1 => ?_) (fun c1 => ?_)
  · rw [if_pos c1] at h
    refine lv_iconst (v := 0) hx hb dX6_copyFrom_59 (by decide) ?_
    refine lv_istore_n (lv' := [(2, .int 0), (0, .ref (B + x0)), (1, .ref (B + x1))]) hx hb dX6_copyFrom_60 rfl hl (by decide) rfl (fun ls hl => ?_)
    exact wX6_copyFrom_61 C hr hk _ _ _ _ _ _ _ h t0 t1 H locs hT ls (lv_sub hl [1, 2, 0] rfl)
  · rw [if_neg c1] at h
    refine lv_aload_n hx hb dX6_copyFrom_27 rfl (lv_at hl 0 rfl) ?_
    refine lv_iload_n hx hb dX6_copyFrom_28 rfl (lv_at hl 2 rfl) ?_
    obtain ⟨r2, σ2, hc2, h⟩ := bd_some h
    refine js_backR hT (js_runV C hT cfX6 t0 rfl mfX6_left lk_X6_39 (kX6_left t0 hc2) ⟨Nat.le_of_ble_eq_true rfl, Nat.le_of_ble_eq_true rfl⟩ rfl hl.1 rfl (Nat.le_of_ble_eq_true rfl) ⟨Nat.zero_le _, Nat.zero_le _⟩ dX6_copyFrom_29) (fun H locs hT t2a => ?_)
    refine lv_aload_n hx hb dX6_copyFrom_32 rfl (lv_at hl 1 rfl) ?_
    refine lv_iload_n hx hb dX6_copyFrom_33 rfl (lv_at hl 2 rfl) ?_
    obtain ⟨r3, σ3, hc3, h⟩ := bd_some h
    refine js_backR hT (js_runV C hT cfX6 t1 rfl mfX6_left lk_X6_39 (kX6_left t1 hc3) ⟨Nat.le_of_ble_eq_true rfl, Nat.le_of_ble_eq_true rfl⟩ rfl hl.1 rfl (Nat.le_of_ble_eq_true rfl) ⟨Nat.zero_le _, Nat.zero_le _⟩ dX6_copyFrom_34) (fun H locs hT t3a => ?_)
    obtain ⟨z4, σ4, hc4, h⟩ := bd_some h
    refine js_backV hT (js_runV C hT cfX9 t2a rfl mfX9_copyFrom lk_X6_43 (kX9_copyFrom t2a t3a hc4) ⟨Nat.le_of_ble_eq_true rfl, Nat.le_of_ble_eq_true rfl⟩ rfl hl.1 rfl (Nat.le_of_ble_eq_true rfl) ⟨Nat.zero_le _, Nat.zero_le _⟩ dX6_copyFrom_37) (fun H locs hT => ?_)
    refine lv_aload_n hx hb dX6_copyFrom_40 rfl (lv_at hl 0 rfl) ?_
    refine lv_iload_n hx hb dX6_copyFrom_41 rfl (lv_at hl 2 rfl) ?_
    obtain ⟨r5, σ5, hc5, h⟩ := bd_some h
    refine js_backR hT (js_runV C hT cfX6 t0 rfl mfX6_right lk_X6_47 (kX6_right t0 hc5) ⟨Nat.le_of_ble_eq_true rfl, Nat.le_of_ble_eq_true rfl⟩ rfl hl.1 rfl (Nat.le_of_ble_eq_true rfl) ⟨Nat.zero_le _, Nat.zero_le _⟩ dX6_copyFrom_42) (fun H locs hT t5a => ?_)
    refine lv_aload_n hx hb dX6_copyFrom_45 rfl (lv_at hl 1 rfl) ?_
    refine lv_iload_n hx hb dX6_copyFrom_46 rfl (lv_at hl 2 rfl) ?_
    obtain ⟨r6, σ6, hc6, h⟩ := bd_some h
    refine js_backR hT (js_runV C hT cfX6 t1 rfl mfX6_right lk_X6_47 (kX6_right t1 hc6) ⟨Nat.le_of_ble_eq_true rfl, Nat.le_of_ble_eq_true rfl⟩ rfl hl.1 rfl (Nat.le_of_ble_eq_true rfl) ⟨Nat.zero_le _, Nat.zero_le _⟩ dX6_copyFrom_47) (fun H locs hT t6a => ?_)
    obtain ⟨z7, σ7, hc7, h⟩ := bd_some h
    refine js_backV hT (js_runV C hT cfX9 t5a rfl mfX9_copyFrom lk_X6_43 (kX9_copyFrom t5a t6a hc7) ⟨Nat.le_of_ble_eq_true rfl, Nat.le_of_ble_eq_true rfl⟩ rfl hl.1 rfl (Nat.le_of_ble_eq_true rfl) ⟨Nat.zero_le _, Nat.zero_le _⟩ dX6_copyFrom_50) (fun H locs hT => ?_)
    refine lv_iinc (v := x2 + 1) (lv' := [(2, .int (x2 + 1)), (0, .ref (B + x0)), (1, .ref (B + x1))]) hx hb dX6_copyFrom_53 hl (k := 2) rfl rfl (by decide) rfl (fun ls hl => ?_)
    refine lv_goto (tgt := 21) hx hb dX6_copyFrom_56 (by decide) ?_
    exact hrc21 _ _ _ _ _ _ h t0 t1 H locs hT ls (lv_sub hl [1, 2, 0] rfl)
set_option maxHeartbeats 4000000 in
set_option maxRecDepth 20000 in
theorem wX6_copyFrom_21 (C : js_C D g p m c cX6_copyFrom 3 s args RX6) (hr : meth.sig.returnType = none) (hk : meth.locks = false) : ∀ (k : Nat), ∀ (x0 : Nat) (x1 : Nat) (x2 : Int32) (σ : js_S) (r0 : Unit) (σ0 : js_S), fX6_copyFrom_21 fu k x0 x1 x2 σ = some (r0, σ0) → ob_ nn 6 x0 → ob_ nn 6 x1 → js_at p l e 1 s m args below meth c D B g nn 21 3 [(0, .ref (B + x0)), (1, .ref (B + x1)), (2, .int x2)] [] σ (js_QV D B g nn σ0) := by
  intro k
  induction k with
  | zero =>
    intro x0 x1 x2 σ r0 σ0 h
    cases h
  | succ k ih =>
    intro x0 x1 x2 σ r0 σ0 h
    exact wX6_copyFrom_21b C hr hk (fX6_copyFrom_21 fu k) ih x0 x1 x2 σ r0 σ0 h
set_option maxHeartbeats 4000000 in
set_option maxRecDepth 20000 in
theorem kX6_copyFrom {x0 : Nat} {x1 : Nat} {σ σ0 : js_S} {r0 : Unit} (t0 : ob_ nn 6 x0) (t1 : ob_ nn 6 x1) (h : fX6_copyFrom fu x0 x1 σ = some (r0, σ0)) : js_M l D B g nn yX6_copyFrom cX6_copyFrom 3 none 1 [.ref (B + x0), .ref (B + x1)] σ (js_QV D B g nn σ0) := by
  refine js_enter (by decide) (Nat.le_of_ble_eq_true rfl) ?_
  intro p e s m args below meth c C hr hk ls hl hT
  have hl : lv_has ls 3 [(0, .ref (B + x0)), (1, .ref (B + x1))] := hl
  obtain ⟨hx, hb, hml, hown, ht, hK, hNw⟩ := id C
  obtain ⟨H, eH⟩ : ∃ H, H = s.heap := ⟨_, rfl⟩
  obtain ⟨locs, eL⟩ : ∃ z : List Loc, z = [] := ⟨_, rfl⟩
  rw [← eH, ← eL]
  rw [← eH, ← eL] at hT
  clear eH eL
  unfold fX6_copyFrom at h
  refine lv_aload_n hx hb dX6_copyFrom_0 rfl (lv_at hl 0 rfl) ?_
  refine js_gR C hT cfX6 t0 0 (by decide) (q := 8) rfl (by decide) lk_X6_12 dX6_copyFrom_1 (fun t1a => ?_)
  refine lv_aload_n hx hb dX6_copyFrom_4 rfl (lv_at hl 1 rfl) ?_
  refine js_gR C hT cfX6 t1 0 (by decide) (q := 8) rfl (by decide) lk_X6_12 dX6_copyFrom_5 (fun t2a => ?_)
  obtain ⟨z3, σ3, hc3, h⟩ := bd_some h
  refine js_backV hT (js_runV C hT cfX8 t1a rfl mfX8_copyFrom lk_X6_60 (kX8_copyFrom t1a t2a hc3) ⟨Nat.le_of_ble_eq_true rfl, Nat.le_of_ble_eq_true rfl⟩ rfl hl.1 rfl (Nat.le_of_ble_eq_true rfl) ⟨Nat.zero_le _, Nat.zero_le _⟩ dX6_copyFrom_8) (fun H locs hT => ?_)
  refine lv_aload_n hx hb dX6_copyFrom_11 rfl (lv_at hl 0 rfl) ?_
  refine lv_aload_n hx hb dX6_copyFrom_12 rfl (lv_at hl 1 rfl) ?_
  refine js_gI C hT cfX6 t1 5 (by decide) rfl lk_X6_35 dX6_copyFrom_13 ?_
  obtain ⟨σ4, e4, h⟩ := lt_some h
  refine js_pI C hT cfX6 t0 5 (by decide) rfl rfl rfl rfl lk_X6_35 dX6_copyFrom_16 (fun H locs hT => ?_)
  rw [e4] at hT
  refine lv_iconst (v := 0) hx hb dX6_copyFrom_19 (by decide) ?_
  refine lv_istore_n (lv' := [(2, .int 0), (0, .ref (B + x0)), (1, .ref (B + x1))]) hx hb dX6_copyFrom_20 rfl hl (by decide) rfl (fun ls hl => ?_)
  exact wX6_copyFrom_21 C hr hk _ _ _ _ _ _ _ h t0 t1 H locs hT ls (lv_sub hl [1, 2, 0] rfl)
set_option maxHeartbeats 4000000 in
set_option maxRecDepth 20000 in
theorem wX6_dropRule_4b (C : js_C D g p m c cX6_dropRule 3 s args RX6) (hr : meth.sig.returnType = none) (hk : meth.locks = false) (rc4 : Nat → Int32 → js_S → Option (Unit × js_S)) (hrc4 : ∀ (x0 : Nat) (x2 : Int32) (σ : js_S) (r0 : Unit) (σ0 : js_S), rc4 x0 x2 σ = some (r0, σ0) → ob_ nn 6 x0 → js_at p l e 1 s m args below meth c D B g nn 4 3 [(0, .ref (B + x0)), (2, .int x2)] [] σ (js_QV D B g nn σ0)) : ∀ (x0 : Nat) (x2 : Int32) (σ : js_S) (r0 : Unit) (σ0 : js_S), fX6_dropRule_4b fu rc4 x0 x2 σ = some (r0, σ0) → ob_ nn 6 x0 → js_at p l e 1 s m args below meth c D B g nn 4 3 [(0, .ref (B + x0)), (2, .int x2)] [] σ (js_QV D B g nn σ0) := by
  obtain ⟨hx, hb, hml, hown, ht, hK, hNw⟩ := id C
  intro x0 x2 σ r0 σ0 h t0 H locs hT ls hl
  unfold fX6_dropRule_4b at h
  refine lv_iload_n hx hb dX6_dropRule_4 rfl (lv_at hl 1 rfl) ?_
  refine lv_aload_n hx hb dX6_dropRule_5 rfl (lv_at hl 0 rfl) ?_
  refine js_gI C hT cfX6 t0 5 (by decide) rfl lk_X6_35 dX6_dropRule_6 ?_
  refine lv_icmp_ge (tgt := 48) hx hb dX6_dropRule_9 (by decide) (fun c1 => ?_) (fun c1 => ?_)
  · rw [if_pos c1] at h
    refine lv_aload_n hx hb dX6_dropRule_48 rfl (lv_at hl 0 rfl) ?_
    refine lv_dup hx hb dX6_dropRule_49 rfl ?_
    refine js_gI C hT cfX6 t0 5 (by decide) rfl lk_X6_35 dX6_dropRule_50 ?_
    refine lv_iconst (v := 1) hx hb dX6_dropRule_53 (by decide) ?_
    refine lv_isub hx hb dX6_dropRule_54 ?_
    obtain ⟨σ2, e2, h⟩ := lt_some h
    refine js_pI C hT cfX6 t0 5 (by decide) rfl rfl rfl rfl lk_X6_35 dX6_dropRule_55 (fun H locs hT => ?_)
    rw [e2] at hT
    obtain ⟨rfl, rfl⟩ := js_rt h
    exact js_vret C hT hr hk dX6_dropRule_58
  · rw [if_neg c1] at h
    refine lv_aload_n hx hb dX6_dropRule_12 rfl (lv_at hl 0 rfl) ?_
    refine lv_iload_n hx hb dX6_dropRule_13 rfl (lv_at hl 1 rfl) ?_
    refine lv_iconst (v := 1) hx hb dX6_dropRule_14 (by decide) ?_
    refine lv_isub hx hb dX6_dropRule_15 ?_
    obtain ⟨r3, σ3, hc3, h⟩ := bd_some h
    refine js_backR hT (js_runV C hT cfX6 t0 rfl mfX6_left lk_X6_39 (kX6_left t0 hc3) ⟨Nat.le_of_ble_eq_true rfl, Nat.le_of_ble_eq_true rfl⟩ rfl hl.1 rfl (Nat.le_of_ble_eq_true rfl) ⟨Nat.zero_le _, Nat.zero_le _⟩ dX6_dropRule_16) (fun H locs hT t3a => ?_)
    refine lv_aload_n hx hb dX6_dropRule_19 rfl (lv_at hl 0 rfl) ?_
    refine lv_iload_n hx hb dX6_dropRule_20 rfl (lv_at hl 1 rfl) ?_
    obtain ⟨r4, σ4, hc4, h⟩ := bd_some h
    refine js_backR hT (js_runV C hT cfX6 t0 rfl mfX6_left lk_X6_39 (kX6_left t0 hc4) ⟨Nat.le_of_ble_eq_true rfl, Nat.le_of_ble_eq_true rfl⟩ rfl hl.1 rfl (Nat.le_of_ble_eq_true rfl) ⟨Nat.zero_le _, Nat.zero_le _⟩ dX6_dropRule_21) (fun H locs hT t4a => ?_)
    obtain ⟨z5, σ5, hc5, h⟩ := bd_some h
    refine js_backV hT (js_runV C hT cfX9 t3a rfl mfX9_copyFrom lk_X6_43 (kX9_copyFrom t3a t4a hc5) ⟨Nat.le_of_ble_eq_true rfl, Nat.le_of_ble_eq_true rfl⟩ rfl hl.1 rfl (Nat.le_of_ble_eq_true rfl) ⟨Nat.zero_le _, Nat.zero_le _⟩ dX6_dropRule_24) (fun H locs hT => ?_)
    refine lv_aload_n hx hb dX6_dropRule_27 rfl (lv_at hl 0 rfl) ?_
    refine lv_iload_n hx hb dX6_dropRule_28 rfl (lv_at hl 1 rfl) ?_
    refine lv_iconst (v := 1) hx hb dX6_dropRule_29 (by decide) ?_
    refine lv_isub hx hb dX6_dropRule_30 ?_
    obtain ⟨r6, σ6, hc6, h⟩ := bd_some h
    refine js_backR hT (js_runV C hT cfX6 t0 rfl mfX6_right lk_X6_47 (kX6_right t0 hc6) ⟨Nat.le_of_ble_eq_true rfl, Nat.le_of_ble_eq_true rfl⟩ rfl hl.1 rfl (Nat.le_of_ble_eq_true rfl) ⟨Nat.zero_le _, Nat.zero_le _⟩ dX6_dropRule_31) (fun H locs hT t6a => ?_)
    refine lv_aload_n hx hb dX6_dropRule_34 rfl (lv_at hl 0 rfl) ?_
    refine lv_iload_n hx hb dX6_dropRule_35 rfl (lv_at hl 1 rfl) ?_
    obtain ⟨r7, σ7, hc7, h⟩ := bd_some h
    refine js_backR hT (js_runV C hT cfX6 t0 rfl mfX6_right lk_X6_47 (kX6_right t0 hc7) ⟨Nat.le_of_ble_eq_true rfl, Nat.le_of_ble_eq_true rfl⟩ rfl hl.1 rfl (Nat.le_of_ble_eq_true rfl) ⟨Nat.zero_le _, Nat.zero_le _⟩ dX6_dropRule_36) (fun H locs hT t7a => ?_)
    obtain ⟨z8, σ8, hc8, h⟩ := bd_some h
    refine js_backV hT (js_runV C hT cfX9 t6a rfl mfX9_copyFrom lk_X6_43 (kX9_copyFrom t6a t7a hc8) ⟨Nat.le_of_ble_eq_true rfl, Nat.le_of_ble_eq_true rfl⟩ rfl hl.1 rfl (Nat.le_of_ble_eq_true rfl) ⟨Nat.zero_le _, Nat.zero_le _⟩ dX6_dropRule_39) (fun H locs hT => ?_)
    refine lv_iinc (v := x2 + 1) (lv' := [(2, .int (x2 + 1)), (0, .ref (B + x0))]) hx hb dX6_dropRule_42 hl (k := 1) rfl rfl (by decide) rfl (fun ls hl => ?_)
    refine lv_goto (tgt := 4) hx hb dX6_dropRule_45 (by decide) ?_
    exact hrc4 _ _ _ _ _ h t0 H locs hT ls (lv_sub hl [1, 0] rfl)
set_option maxHeartbeats 4000000 in
set_option maxRecDepth 20000 in
theorem wX6_dropRule_4 (C : js_C D g p m c cX6_dropRule 3 s args RX6) (hr : meth.sig.returnType = none) (hk : meth.locks = false) : ∀ (k : Nat), ∀ (x0 : Nat) (x2 : Int32) (σ : js_S) (r0 : Unit) (σ0 : js_S), fX6_dropRule_4 fu k x0 x2 σ = some (r0, σ0) → ob_ nn 6 x0 → js_at p l e 1 s m args below meth c D B g nn 4 3 [(0, .ref (B + x0)), (2, .int x2)] [] σ (js_QV D B g nn σ0) := by
  intro k
  induction k with
  | zero =>
    intro x0 x2 σ r0 σ0 h
    cases h
  | succ k ih =>
    intro x0 x2 σ r0 σ0 h
    exact wX6_dropRule_4b C hr hk (fX6_dropRule_4 fu k) ih x0 x2 σ r0 σ0 h
set_option maxHeartbeats 4000000 in
set_option maxRecDepth 20000 in
theorem kX6_dropRule {x0 : Nat} {x1 : Int32} {σ σ0 : js_S} {r0 : Unit} (t0 : ob_ nn 6 x0) (h : fX6_dropRule fu x0 x1 σ = some (r0, σ0)) : js_M l D B g nn yX6_dropRule cX6_dropRule 3 none 1 [.ref (B + x0), .int x1] σ (js_QV D B g nn σ0) := by
  refine js_enter (by decide) (Nat.le_of_ble_eq_true rfl) ?_
  intro p e s m args below meth c C hr hk ls hl hT
  have hl : lv_has ls 3 [(0, .ref (B + x0)), (1, .int x1)] := hl
  obtain ⟨hx, hb, hml, hown, ht, hK, hNw⟩ := id C
  obtain ⟨H, eH⟩ : ∃ H, H = s.heap := ⟨_, rfl⟩
  obtain ⟨locs, eL⟩ : ∃ z : List Loc, z = [] := ⟨_, rfl⟩
  rw [← eH, ← eL]
  rw [← eH, ← eL] at hT
  clear eH eL
  unfold fX6_dropRule at h
  refine lv_iload_n hx hb dX6_dropRule_0 rfl (lv_at hl 1 rfl) ?_
  refine lv_iconst (v := 1) hx hb dX6_dropRule_1 (by decide) ?_
  refine lv_iadd hx hb dX6_dropRule_2 ?_
  refine lv_istore_n (lv' := [(2, .int (x1 + 1)), (0, .ref (B + x0)), (1, .int x1)]) hx hb dX6_dropRule_3 rfl hl (by decide) rfl (fun ls hl => ?_)
  exact wX6_dropRule_4 C hr hk _ _ _ _ _ _ h t0 H locs hT ls (lv_sub hl [1, 0] rfl)
set_option maxHeartbeats 4000000 in
set_option maxRecDepth 20000 in
theorem kX9_becomeZero {x0 : Nat} {σ σ0 : js_S} {r0 : Unit} (t0 : ob_ nn 9 x0) (h : fX9_becomeZero fu x0 σ = some (r0, σ0)) : js_M l D B g nn yX9_becomeZero cX9_becomeZero 1 none 1 [.ref (B + x0)] σ (js_QV D B g nn σ0) := by
  refine js_enter (by decide) (Nat.le_of_ble_eq_true rfl) ?_
  intro p e s m args below meth c C hr hk ls hl hT
  have hl : lv_has ls 1 [(0, .ref (B + x0))] := hl
  obtain ⟨hx, hb, hml, hown, ht, hK, hNw⟩ := id C
  obtain ⟨H, eH⟩ : ∃ H, H = s.heap := ⟨_, rfl⟩
  obtain ⟨locs, eL⟩ : ∃ z : List Loc, z = [] := ⟨_, rfl⟩
  rw [← eH, ← eL]
  rw [← eH, ← eL] at hT
  clear eH eL
  unfold fX9_becomeZero at h
  refine lv_aload_n hx hb dX9_becomeZero_0 rfl (lv_at hl 0 rfl) ?_
  refine lv_iconst (v := 0) hx hb dX9_becomeZero_1 (by decide) ?_
  obtain ⟨σ1, e1, h⟩ := lt_some h
  refine js_pI C hT cfX9 t0 1 (by decide) rfl rfl rfl rfl lk_X9_15 dX9_becomeZero_2 (fun H locs hT => ?_)
  rw [e1] at hT
  refine lv_aload_n hx hb dX9_becomeZero_5 rfl (lv_at hl 0 rfl) ?_
  refine lv_bipush (v := 122) hx hb dX9_becomeZero_6 (by decide) ?_
  obtain ⟨z2, σ2, hc2, h⟩ := bd_some h
  refine js_backV hT (js_runV C hT cfX9 t0 rfl mfX9_append lk_X9_19 (kX9_append t0 hc2) ⟨Nat.le_of_ble_eq_true rfl, Nat.le_of_ble_eq_true rfl⟩ rfl hl.1 rfl (Nat.le_of_ble_eq_true rfl) ⟨Nat.zero_le _, Nat.zero_le _⟩ dX9_becomeZero_8) (fun H locs hT => ?_)
  obtain ⟨rfl, rfl⟩ := js_rt h
  exact js_vret C hT hr hk dX9_becomeZero_11
set_option maxHeartbeats 4000000 in
set_option maxRecDepth 20000 in
theorem wX9_contains_2b (C : js_C D g p m c cX9_contains 3 s args RX9) (hr : meth.sig.returnType = (some .boolean)) (hk : meth.locks = false) (rc2 : Nat → Int32 → Int32 → js_S → Option (Int32 × js_S)) (hrc2 : ∀ (x0 : Nat) (x1 : Int32) (x2 : Int32) (σ : js_S) (r0 : Int32) (σ0 : js_S), rc2 x0 x1 x2 σ = some (r0, σ0) → ob_ nn 9 x0 → js_at p l e 1 s m args below meth c D B g nn 2 3 [(0, .ref (B + x0)), (1, .int x1), (2, .int x2)] [] σ (js_QI D B g nn r0 σ0)) : ∀ (x0 : Nat) (x1 : Int32) (x2 : Int32) (σ : js_S) (r0 : Int32) (σ0 : js_S), fX9_contains_2b fu rc2 x0 x1 x2 σ = some (r0, σ0) → ob_ nn 9 x0 → js_at p l e 1 s m args below meth c D B g nn 2 3 [(0, .ref (B + x0)), (1, .int x1), (2, .int x2)] [] σ (js_QI D B g nn r0 σ0) := by
  obtain ⟨hx, hb, hml, hown, ht, hK, hNw⟩ := id C
  intro x0 x1 x2 σ r0 σ0 h t0 H locs hT ls hl
  unfold fX9_contains_2b at h
  refine lv_iload_n hx hb dX9_contains_2 rfl (lv_at hl 2 rfl) ?_
  refine lv_aload_n hx hb dX9_contains_3 rfl (lv_at hl 0 rfl) ?_
  refine js_gI C hT cfX9 t0 1 (by decide) rfl lk_X9_15 dX9_contains_4 ?_
  refine lv_icmp_ge (tgt := 27) hx hb dX9_contains_7 (by decide) (fun c1 => ?_) (fun c1 => ?_)
  · rw [if_pos c1] at h
    refine lv_iconst (v := 0) hx hb dX9_contains_27 (by decide) ?_
    obtain ⟨rfl, rfl⟩ := js_rt h
    exact js_zret C hT hr hk rfl dX9_contains_28
  · rw [if_neg c1] at h
    refine lv_aload_n hx hb dX9_contains_10 rfl (lv_at hl 0 rfl) ?_
    refine lv_iload_n hx hb dX9_contains_11 rfl (lv_at hl 2 rfl) ?_
    obtain ⟨r2, σ2, hc2, h⟩ := bd_some h
    refine js_backI hT (js_runV C hT cfX9 t0 rfl mfX9_symbolAt lk_X9_23 (kX9_symbolAt t0 hc2) ⟨Nat.le_of_ble_eq_true rfl, Nat.le_of_ble_eq_true rfl⟩ rfl hl.1 rfl (Nat.le_of_ble_eq_true rfl) ⟨Nat.zero_le _, Nat.zero_le _⟩ dX9_contains_12) (fun H locs hT => ?_)
    refine lv_iload_n hx hb dX9_contains_15 rfl (lv_at hl 1 rfl) ?_
    refine lv_icmp_ne (tgt := 21) hx hb dX9_contains_16 (by decide) (fun c3 => ?_) (fun c3 => ?_)
    · rw [if_neg c3] at h
      refine lv_iinc (v := x2 + 1) (lv' := [(2, .int (x2 + 1)), (0, .ref (B + x0)), (1, .int x1)]) hx hb dX9_contains_21 hl (k := 2) rfl rfl (by decide) rfl (fun ls hl => ?_)
      refine lv_goto (tgt := 2) hx hb dX9_contains_24 (by decide) ?_
      exact hrc2 _ _ _ _ _ _ h t0 H locs hT ls (lv_sub hl [1, 2, 0] rfl)
    · rw [if_pos c3] at h
      refine lv_iconst (v := 1) hx hb dX9_contains_19 (by decide) ?_
      obtain ⟨rfl, rfl⟩ := js_rt h
      exact js_zret C hT hr hk rfl dX9_contains_20
set_option maxHeartbeats 4000000 in
set_option maxRecDepth 20000 in
theorem wX9_contains_2 (C : js_C D g p m c cX9_contains 3 s args RX9) (hr : meth.sig.returnType = (some .boolean)) (hk : meth.locks = false) : ∀ (k : Nat), ∀ (x0 : Nat) (x1 : Int32) (x2 : Int32) (σ : js_S) (r0 : Int32) (σ0 : js_S), fX9_contains_2 fu k x0 x1 x2 σ = some (r0, σ0) → ob_ nn 9 x0 → js_at p l e 1 s m args below meth c D B g nn 2 3 [(0, .ref (B + x0)), (1, .int x1), (2, .int x2)] [] σ (js_QI D B g nn r0 σ0) := by
  intro k
  induction k with
  | zero =>
    intro x0 x1 x2 σ r0 σ0 h
    cases h
  | succ k ih =>
    intro x0 x1 x2 σ r0 σ0 h
    exact wX9_contains_2b C hr hk (fX9_contains_2 fu k) ih x0 x1 x2 σ r0 σ0 h
set_option maxHeartbeats 4000000 in
set_option maxRecDepth 20000 in
theorem kX9_contains {x0 : Nat} {x1 : Int32} {σ σ0 : js_S} {r0 : Int32} (t0 : ob_ nn 9 x0) (h : fX9_contains fu x0 x1 σ = some (r0, σ0)) : js_M l D B g nn yX9_contains cX9_contains 3 (some .boolean) 1 [.ref (B + x0), .int x1] σ (js_QI D B g nn r0 σ0) := by
  refine js_enter (by decide) (Nat.le_of_ble_eq_true rfl) ?_
  intro p e s m args below meth c C hr hk ls hl hT
  have hl : lv_has ls 3 [(0, .ref (B + x0)), (1, .int x1)] := hl
  obtain ⟨hx, hb, hml, hown, ht, hK, hNw⟩ := id C
  obtain ⟨H, eH⟩ : ∃ H, H = s.heap := ⟨_, rfl⟩
  obtain ⟨locs, eL⟩ : ∃ z : List Loc, z = [] := ⟨_, rfl⟩
  rw [← eH, ← eL]
  rw [← eH, ← eL] at hT
  clear eH eL
  unfold fX9_contains at h
  refine lv_iconst (v := 0) hx hb dX9_contains_0 (by decide) ?_
  refine lv_istore_n (lv' := [(2, .int 0), (0, .ref (B + x0)), (1, .int x1)]) hx hb dX9_contains_1 rfl hl (by decide) rfl (fun ls hl => ?_)
  exact wX9_contains_2 C hr hk _ _ _ _ _ _ _ h t0 H locs hT ls (lv_sub hl [1, 2, 0] rfl)
set_option maxHeartbeats 4000000 in
set_option maxRecDepth 20000 in
theorem wX6_resetRegistersWith_27 (C : js_C D g p m c cX6_resetRegistersWith 3 s args RX6) (hr : meth.sig.returnType = none) (hk : meth.locks = false) (rc2 : Nat → Int32 → Int32 → js_S → Option (Unit × js_S)) (hrc2 : ∀ (x0 : Nat) (x1 : Int32) (x2 : Int32) (σ : js_S) (r0 : Unit) (σ0 : js_S), rc2 x0 x1 x2 σ = some (r0, σ0) → ob_ nn 6 x0 → js_at p l e 2 s m args below meth c D B g nn 2 3 [(0, .ref (B + x0)), (1, .int x1), (2, .int x2)] [] σ (js_QV D B g nn σ0)) : ∀ (x0 : Nat) (x1 : Int32) (x2 : Int32) (σ : js_S) (r0 : Unit) (σ0 : js_S), fX6_resetRegistersWith_27 fu rc2 x0 x1 x2 σ = some (r0, σ0) → ob_ nn 6 x0 → js_at p l e 2 s m args below meth c D B g nn 27 3 [(0, .ref (B + x0)), (1, .int x1), (2, .int x2)] [] σ (js_QV D B g nn σ0) := by
  obtain ⟨hx, hb, hml, hown, ht, hK, hNw⟩ := id C
  intro x0 x1 x2 σ r0 σ0 h t0 H locs hT ls hl
  unfold fX6_resetRegistersWith_27 at h
  refine lv_iinc (v := x2 + 1) (lv' := [(2, .int (x2 + 1)), (0, .ref (B + x0)), (1, .int x1)]) hx hb dX6_resetRegistersWith_27 hl (k := 2) rfl rfl (by decide) rfl (fun ls hl => ?_)
  refine lv_goto (tgt := 2) hx hb dX6_resetRegistersWith_30 (by decide) ?_
  exact hrc2 _ _ _ _ _ _ h t0 H locs hT ls (lv_sub hl [1, 2, 0] rfl)
set_option maxHeartbeats 4000000 in
set_option maxRecDepth 20000 in
theorem wX6_resetRegistersWith_2b (C : js_C D g p m c cX6_resetRegistersWith 3 s args RX6) (hr : meth.sig.returnType = none) (hk : meth.locks = false) (rc2 : Nat → Int32 → Int32 → js_S → Option (Unit × js_S)) (hrc2 : ∀ (x0 : Nat) (x1 : Int32) (x2 : Int32) (σ : js_S) (r0 : Unit) (σ0 : js_S), rc2 x0 x1 x2 σ = some (r0, σ0) → ob_ nn 6 x0 → js_at p l e 2 s m args below meth c D B g nn 2 3 [(0, .ref (B + x0)), (1, .int x1), (2, .int x2)] [] σ (js_QV D B g nn σ0)) : ∀ (x0 : Nat) (x1 : Int32) (x2 : Int32) (σ : js_S) (r0 : Unit) (σ0 : js_S), fX6_resetRegistersWith_2b fu rc2 x0 x1 x2 σ = some (r0, σ0) → ob_ nn 6 x0 → js_at p l e 2 s m args below meth c D B g nn 2 3 [(0, .ref (B + x0)), (1, .int x1), (2, .int x2)] [] σ (js_QV D B g nn σ0) := by
  obtain ⟨hx, hb, hml, hown, ht, hK, hNw⟩ := id C
  intro x0 x1 x2 σ r0 σ0 h t0 H locs hT ls hl
  unfold fX6_resetRegistersWith_2b at h
  refine lv_iload_n hx hb dX6_resetRegistersWith_2 rfl (lv_at hl 2 rfl) ?_
  refine lv_iconst (v := 4) hx hb dX6_resetRegistersWith_3 (by decide) ?_
  refine lv_icmp_ge (tgt := 33) hx hb dX6_resetRegistersWith_4 (by decide) (fun c1 => ?_) (fun c1 => ?_)
  · rw [if_pos c1] at h
    obtain ⟨rfl, rfl⟩ := js_rt h
    exact js_vret C hT hr hk dX6_resetRegistersWith_33
  · rw [if_neg c1] at h
    refine lv_aload_n hx hb dX6_resetRegistersWith_7 rfl (lv_at hl 0 rfl) ?_
    refine lv_iload_n hx hb dX6_resetRegistersWith_8 rfl (lv_at hl 2 rfl) ?_
    obtain ⟨r2, σ2, hc2, h⟩ := bd_some h
    refine js_backR hT (js_runV C hT cfX6 t0 rfl mfX6_register lk_X6_50 (kX6_register t0 hc2) ⟨Nat.le_of_ble_eq_true rfl, Nat.le_of_ble_eq_true rfl⟩ rfl hl.1 rfl (Nat.le_of_ble_eq_true rfl) ⟨Nat.zero_le _, Nat.zero_le _⟩ dX6_resetRegistersWith_9) (fun H locs hT t2a => ?_)
    refine lv_iload_n hx hb dX6_resetRegistersWith_12 rfl (lv_at hl 1 rfl) ?_
    obtain ⟨r3, σ3, hc3, h⟩ := bd_some h
    refine js_backI hT (js_runV C hT cfX9 t2a rfl mfX9_contains lk_X6_53 (kX9_contains t2a hc3) ⟨Nat.le_of_ble_eq_true rfl, Nat.le_of_ble_eq_true rfl⟩ rfl hl.1 rfl (Nat.le_of_ble_eq_true rfl) ⟨Nat.zero_le _, Nat.zero_le _⟩ dX6_resetRegistersWith_13) (fun H locs hT => ?_)
    refine lv_if_eq (tgt := 27) hx hb dX6_resetRegistersWith_16 (by decide) (fun c4 => ?_) (fun c4 => ?_)
    · rw [if_pos c4] at h
      exact wX6_resetRegistersWith_27 C hr hk rc2 hrc2 _ _ _ _ _ _ h t0 H locs hT ls (lv_sub hl [0, 1, 2] rfl)
    · rw [if_neg c4] at h
      refine lv_aload_n hx hb dX6_resetRegistersWith_19 rfl (lv_at hl 0 rfl) ?_
      refine lv_iload_n hx hb dX6_resetRegistersWith_20 rfl (lv_at hl 2 rfl) ?_
      obtain ⟨r5, σ5, hc5, h⟩ := bd_some h
      refine js_backR hT (js_runV C hT cfX6 t0 rfl mfX6_register lk_X6_50 (kX6_register t0 hc5) ⟨Nat.le_of_ble_eq_true rfl, Nat.le_of_ble_eq_true rfl⟩ rfl hl.1 rfl (Nat.le_of_ble_eq_true rfl) ⟨Nat.zero_le _, Nat.zero_le _⟩ dX6_resetRegistersWith_21) (fun H locs hT t5a => ?_)
      obtain ⟨z6, σ6, hc6, h⟩ := bd_some h
      refine js_backV hT (js_runV C hT cfX9 t5a rfl mfX9_becomeZero lk_X6_57 (kX9_becomeZero t5a hc6) ⟨Nat.le_of_ble_eq_true rfl, Nat.le_of_ble_eq_true rfl⟩ rfl hl.1 rfl (Nat.le_of_ble_eq_true rfl) ⟨Nat.zero_le _, Nat.zero_le _⟩ dX6_resetRegistersWith_24) (fun H locs hT => ?_)
      exact wX6_resetRegistersWith_27 C hr hk rc2 hrc2 _ _ _ _ _ _ h t0 H locs hT ls (lv_sub hl [0, 1, 2] rfl)
set_option maxHeartbeats 4000000 in
set_option maxRecDepth 20000 in
theorem wX6_resetRegistersWith_2 (C : js_C D g p m c cX6_resetRegistersWith 3 s args RX6) (hr : meth.sig.returnType = none) (hk : meth.locks = false) : ∀ (k : Nat), ∀ (x0 : Nat) (x1 : Int32) (x2 : Int32) (σ : js_S) (r0 : Unit) (σ0 : js_S), fX6_resetRegistersWith_2 fu k x0 x1 x2 σ = some (r0, σ0) → ob_ nn 6 x0 → js_at p l e 2 s m args below meth c D B g nn 2 3 [(0, .ref (B + x0)), (1, .int x1), (2, .int x2)] [] σ (js_QV D B g nn σ0) := by
  intro k
  induction k with
  | zero =>
    intro x0 x1 x2 σ r0 σ0 h
    cases h
  | succ k ih =>
    intro x0 x1 x2 σ r0 σ0 h
    exact wX6_resetRegistersWith_2b C hr hk (fX6_resetRegistersWith_2 fu k) ih x0 x1 x2 σ r0 σ0 h
set_option maxHeartbeats 4000000 in
set_option maxRecDepth 20000 in
theorem kX6_resetRegistersWith {x0 : Nat} {x1 : Int32} {σ σ0 : js_S} {r0 : Unit} (t0 : ob_ nn 6 x0) (h : fX6_resetRegistersWith fu x0 x1 σ = some (r0, σ0)) : js_M l D B g nn yX6_resetRegistersWith cX6_resetRegistersWith 3 none 2 [.ref (B + x0), .int x1] σ (js_QV D B g nn σ0) := by
  refine js_enter (by decide) (Nat.le_of_ble_eq_true rfl) ?_
  intro p e s m args below meth c C hr hk ls hl hT
  have hl : lv_has ls 3 [(0, .ref (B + x0)), (1, .int x1)] := hl
  obtain ⟨hx, hb, hml, hown, ht, hK, hNw⟩ := id C
  obtain ⟨H, eH⟩ : ∃ H, H = s.heap := ⟨_, rfl⟩
  obtain ⟨locs, eL⟩ : ∃ z : List Loc, z = [] := ⟨_, rfl⟩
  rw [← eH, ← eL]
  rw [← eH, ← eL] at hT
  clear eH eL
  unfold fX6_resetRegistersWith at h
  refine lv_iconst (v := 0) hx hb dX6_resetRegistersWith_0 (by decide) ?_
  refine lv_istore_n (lv' := [(2, .int 0), (0, .ref (B + x0)), (1, .int x1)]) hx hb dX6_resetRegistersWith_1 rfl hl (by decide) rfl (fun ls hl => ?_)
  exact wX6_resetRegistersWith_2 C hr hk _ _ _ _ _ _ _ h t0 H locs hT ls (lv_sub hl [1, 2, 0] rfl)
set_option maxHeartbeats 4000000 in
set_option maxRecDepth 20000 in
theorem wX7_countRedexes_28 (C : js_C D g p m c cX7_countRedexes 5 s args RX7) (hr : meth.sig.returnType = (some .int)) (hk : meth.locks = false) (rc5 : Nat → Nat → Nat → Int32 → Int32 → js_S → Option (Int32 × js_S)) (hrc5 : ∀ (x0 : Nat) (x1 : Nat) (x2 : Nat) (x3 : Int32) (x4 : Int32) (σ : js_S) (r0 : Int32) (σ0 : js_S), rc5 x0 x1 x2 x3 x4 σ = some (r0, σ0) → ob_ nn 7 x0 → ob_ nn 6 x1 → ob_ nn 9 x2 → js_at p l e 4 s m args below meth c D B g nn 5 5 [(0, .ref (B + x0)), (1, .ref (B + x1)), (2, .ref (B + x2)), (3, .int x3), (4, .int x4)] [] σ (js_QI D B g nn r0 σ0)) : ∀ (x0 : Nat) (x1 : Nat) (x2 : Nat) (x3 : Int32) (x4 : Int32) (σ : js_S) (r0 : Int32) (σ0 : js_S), fX7_countRedexes_28 fu rc5 x0 x1 x2 x3 x4 σ = some (r0, σ0) → ob_ nn 7 x0 → ob_ nn 6 x1 → ob_ nn 9 x2 → js_at p l e 4 s m args below meth c D B g nn 28 5 [(0, .ref (B + x0)), (1, .ref (B + x1)), (2, .ref (B + x2)), (3, .int x3), (4, .int x4)] [] σ (js_QI D B g nn r0 σ0) := by
  obtain ⟨hx, hb, hml, hown, ht, hK, hNw⟩ := id C
  intro x0 x1 x2 x3 x4 σ r0 σ0 h t0 t1 t2 H locs hT ls hl
  unfold fX7_countRedexes_28 at h
  refine lv_iinc (v := x4 + 1) (lv' := [(4, .int (x4 + 1)), (0, .ref (B + x0)), (1, .ref (B + x1)), (2, .ref (B + x2)), (3, .int x3)]) hx hb dX7_countRedexes_28 hl (k := 4) rfl rfl (by decide) rfl (fun ls hl => ?_)
  refine lv_goto (tgt := 5) hx hb dX7_countRedexes_31 (by decide) ?_
  exact hrc5 _ _ _ _ _ _ _ _ h t0 t1 t2 H locs hT ls (lv_sub hl [1, 2, 3, 4, 0] rfl)
set_option maxHeartbeats 4000000 in
set_option maxRecDepth 20000 in
theorem wX7_countRedexes_5b (C : js_C D g p m c cX7_countRedexes 5 s args RX7) (hr : meth.sig.returnType = (some .int)) (hk : meth.locks = false) (rc5 : Nat → Nat → Nat → Int32 → Int32 → js_S → Option (Int32 × js_S)) (hrc5 : ∀ (x0 : Nat) (x1 : Nat) (x2 : Nat) (x3 : Int32) (x4 : Int32) (σ : js_S) (r0 : Int32) (σ0 : js_S), rc5 x0 x1 x2 x3 x4 σ = some (r0, σ0) → ob_ nn 7 x0 → ob_ nn 6 x1 → ob_ nn 9 x2 → js_at p l e 4 s m args below meth c D B g nn 5 5 [(0, .ref (B + x0)), (1, .ref (B + x1)), (2, .ref (B + x2)), (3, .int x3), (4, .int x4)] [] σ (js_QI D B g nn r0 σ0)) : ∀ (x0 : Nat) (x1 : Nat) (x2 : Nat) (x3 : Int32) (x4 : Int32) (σ : js_S) (r0 : Int32) (σ0 : js_S), fX7_countRedexes_5b fu rc5 x0 x1 x2 x3 x4 σ = some (r0, σ0) → ob_ nn 7 x0 → ob_ nn 6 x1 → ob_ nn 9 x2 → js_at p l e 4 s m args below meth c D B g nn 5 5 [(0, .ref (B + x0)), (1, .ref (B + x1)), (2, .ref (B + x2)), (3, .int x3), (4, .int x4)] [] σ (js_QI D B g nn r0 σ0) := by
  obtain ⟨hx, hb, hml, hown, ht, hK, hNw⟩ := id C
  intro x0 x1 x2 x3 x4 σ r0 σ0 h t0 t1 t2 H locs hT ls hl
  unfold fX7_countRedexes_5b at h
  refine lv_iload hx hb dX7_countRedexes_5 (lv_at hl 4 rfl) ?_
  refine lv_aload_n hx hb dX7_countRedexes_7 rfl (lv_at hl 2 rfl) ?_
  refine js_gIN C hT cfX9 t2 1 (by decide) rfl lk_X7_31 dX7_countRedexes_8 ?_
  refine lv_icmp_ge (tgt := 34) hx hb dX7_countRedexes_11 (by decide) (fun c1 => ?_) (fun c1 => ?_)
  · rw [if_pos c1] at h
    refine lv_iload_n hx hb dX7_countRedexes_34 rfl (lv_at hl 3 rfl) ?_
    obtain ⟨rfl, rfl⟩ := js_rt h
    exact js_iret C hT hr hk dX7_countRedexes_35
  · rw [if_neg c1] at h
    refine lv_aload_n hx hb dX7_countRedexes_14 rfl (lv_at hl 0 rfl) ?_
    refine lv_aload_n hx hb dX7_countRedexes_15 rfl (lv_at hl 1 rfl) ?_
    refine lv_aload_n hx hb dX7_countRedexes_16 rfl (lv_at hl 2 rfl) ?_
    refine lv_iload hx hb dX7_countRedexes_17 (lv_at hl 4 rfl) ?_
    obtain ⟨r2, σ2, hc2, h⟩ := bd_some h
    refine js_backI hT (js_runV C hT cfX7 t0 rfl mfX7_lowestRuleAt lk_X7_63 (kX7_lowestRuleAt t0 t1 t2 hc2) ⟨Nat.le_of_ble_eq_true rfl, Nat.le_of_ble_eq_true rfl⟩ rfl hl.1 rfl (Nat.le_of_ble_eq_true rfl) ⟨Nat.zero_le _, Nat.zero_le _⟩ dX7_countRedexes_19) (fun H locs hT => ?_)
    refine lv_if_lt (tgt := 28) hx hb dX7_countRedexes_22 (by decide) (fun c3 => ?_) (fun c3 => ?_)
    · rw [if_pos c3] at h
      exact wX7_countRedexes_28 C hr hk rc5 hrc5 _ _ _ _ _ _ _ _ h t0 t1 t2 H locs hT ls (lv_sub hl [0, 1, 2, 3, 4] rfl)
    · rw [if_neg c3] at h
      refine lv_iinc (v := x3 + 1) (lv' := [(3, .int (x3 + 1)), (0, .ref (B + x0)), (1, .ref (B + x1)), (2, .ref (B + x2)), (4, .int x4)]) hx hb dX7_countRedexes_25 hl (k := 3) rfl rfl (by decide) rfl (fun ls hl => ?_)
      exact wX7_countRedexes_28 C hr hk rc5 hrc5 _ _ _ _ _ _ _ _ h t0 t1 t2 H locs hT ls (lv_sub hl [1, 2, 3, 0, 4] rfl)
set_option maxHeartbeats 4000000 in
set_option maxRecDepth 20000 in
theorem wX7_countRedexes_5 (C : js_C D g p m c cX7_countRedexes 5 s args RX7) (hr : meth.sig.returnType = (some .int)) (hk : meth.locks = false) : ∀ (k : Nat), ∀ (x0 : Nat) (x1 : Nat) (x2 : Nat) (x3 : Int32) (x4 : Int32) (σ : js_S) (r0 : Int32) (σ0 : js_S), fX7_countRedexes_5 fu k x0 x1 x2 x3 x4 σ = some (r0, σ0) → ob_ nn 7 x0 → ob_ nn 6 x1 → ob_ nn 9 x2 → js_at p l e 4 s m args below meth c D B g nn 5 5 [(0, .ref (B + x0)), (1, .ref (B + x1)), (2, .ref (B + x2)), (3, .int x3), (4, .int x4)] [] σ (js_QI D B g nn r0 σ0) := by
  intro k
  induction k with
  | zero =>
    intro x0 x1 x2 x3 x4 σ r0 σ0 h
    cases h
  | succ k ih =>
    intro x0 x1 x2 x3 x4 σ r0 σ0 h
    exact wX7_countRedexes_5b C hr hk (fX7_countRedexes_5 fu k) ih x0 x1 x2 x3 x4 σ r0 σ0 h
set_option maxHeartbeats 4000000 in
set_option maxRecDepth 20000 in
theorem kX7_countRedexes {x0 : Nat} {x1 : Nat} {x2 : Nat} {σ σ0 : js_S} {r0 : Int32} (t0 : ob_ nn 7 x0) (t1 : ob_ nn 6 x1) (t2 : ob_ nn 9 x2) (h : fX7_countRedexes fu x0 x1 x2 σ = some (r0, σ0)) : js_M l D B g nn yX7_countRedexes cX7_countRedexes 5 (some .int) 4 [.ref (B + x0), .ref (B + x1), .ref (B + x2)] σ (js_QI D B g nn r0 σ0) := by
  refine js_enter (by decide) (Nat.le_of_ble_eq_true rfl) ?_
  intro p e s m args below meth c C hr hk ls hl hT
  have hl : lv_has ls 5 [(0, .ref (B + x0)), (1, .ref (B + x1)), (2, .ref (B + x2))] := hl
  obtain ⟨hx, hb, hml, hown, ht, hK, hNw⟩ := id C
  obtain ⟨H, eH⟩ : ∃ H, H = s.heap := ⟨_, rfl⟩
  obtain ⟨locs, eL⟩ : ∃ z : List Loc, z = [] := ⟨_, rfl⟩
  rw [← eH, ← eL]
  rw [← eH, ← eL] at hT
  clear eH eL
  unfold fX7_countRedexes at h
  refine lv_iconst (v := 0) hx hb dX7_countRedexes_0 (by decide) ?_
  refine lv_istore_n (lv' := [(3, .int 0), (0, .ref (B + x0)), (1, .ref (B + x1)), (2, .ref (B + x2))]) hx hb dX7_countRedexes_1 rfl hl (by decide) rfl (fun ls hl => ?_)
  refine lv_iconst (v := 0) hx hb dX7_countRedexes_2 (by decide) ?_
  refine lv_istore (lv' := [(4, .int 0), (3, .int 0), (0, .ref (B + x0)), (1, .ref (B + x1)), (2, .ref (B + x2))]) hx hb dX7_countRedexes_3 hl (by decide) rfl (fun ls hl => ?_)
  exact wX7_countRedexes_5 C hr hk _ _ _ _ _ _ _ _ _ h t0 t1 t2 H locs hT ls (lv_sub hl [2, 3, 4, 1, 0] rfl)
set_option maxHeartbeats 4000000 in
set_option maxRecDepth 20000 in
theorem wX7_findRedex_38 (C : js_C D g p m c cX7_findRedex 6 s args RX7) (hr : meth.sig.returnType = (some .int)) (hk : meth.locks = false) (rc6 : Nat → Nat → Nat → Int32 → Int32 → Int32 → js_S → Option (Int32 × js_S)) (hrc6 : ∀ (x0 : Nat) (x1 : Nat) (x2 : Nat) (x3 : Int32) (x4 : Int32) (x5 : Int32) (σ : js_S) (r0 : Int32) (σ0 : js_S), rc6 x0 x1 x2 x3 x4 x5 σ = some (r0, σ0) → ob_ nn 7 x0 → ob_ nn 6 x1 → ob_ nn 9 x2 → js_at p l e 4 s m args below meth c D B g nn 6 6 [(0, .ref (B + x0)), (1, .ref (B + x1)), (2, .ref (B + x2)), (3, .int x3), (4, .int x4), (5, .int x5)] [] σ (js_QI D B g nn r0 σ0)) : ∀ (x0 : Nat) (x1 : Nat) (x2 : Nat) (x3 : Int32) (x4 : Int32) (x5 : Int32) (σ : js_S) (r0 : Int32) (σ0 : js_S), fX7_findRedex_38 fu rc6 x0 x1 x2 x3 x4 x5 σ = some (r0, σ0) → ob_ nn 7 x0 → ob_ nn 6 x1 → ob_ nn 9 x2 → js_at p l e 4 s m args below meth c D B g nn 38 6 [(0, .ref (B + x0)), (1, .ref (B + x1)), (2, .ref (B + x2)), (3, .int x3), (4, .int x4), (5, .int x5)] [] σ (js_QI D B g nn r0 σ0) := by
  obtain ⟨hx, hb, hml, hown, ht, hK, hNw⟩ := id C
  intro x0 x1 x2 x3 x4 x5 σ r0 σ0 h t0 t1 t2 H locs hT ls hl
  unfold fX7_findRedex_38 at h
  refine lv_iinc (v := x5 + 1) (lv' := [(5, .int (x5 + 1)), (0, .ref (B + x0)), (1, .ref (B + x1)), (2, .ref (B + x2)), (3, .int x3), (4, .int x4)]) hx hb dX7_findRedex_38 hl (k := 5) rfl rfl (by decide) rfl (fun ls hl => ?_)
  refine lv_goto (tgt := 6) hx hb dX7_findRedex_41 (by decide) ?_
  exact hrc6 _ _ _ _ _ _ _ _ _ h t0 t1 t2 H locs hT ls (lv_sub hl [1, 2, 3, 4, 5, 0] rfl)
set_option maxHeartbeats 4000000 in
set_option maxRecDepth 20000 in
theorem wX7_findRedex_6b (C : js_C D g p m c cX7_findRedex 6 s args RX7) (hr : meth.sig.returnType = (some .int)) (hk : meth.locks = false) (rc6 : Nat → Nat → Nat → Int32 → Int32 → Int32 → js_S → Option (Int32 × js_S)) (hrc6 : ∀ (x0 : Nat) (x1 : Nat) (x2 : Nat) (x3 : Int32) (x4 : Int32) (x5 : Int32) (σ : js_S) (r0 : Int32) (σ0 : js_S), rc6 x0 x1 x2 x3 x4 x5 σ = some (r0, σ0) → ob_ nn 7 x0 → ob_ nn 6 x1 → ob_ nn 9 x2 → js_at p l e 4 s m args below meth c D B g nn 6 6 [(0, .ref (B + x0)), (1, .ref (B + x1)), (2, .ref (B + x2)), (3, .int x3), (4, .int x4), (5, .int x5)] [] σ (js_QI D B g nn r0 σ0)) : ∀ (x0 : Nat) (x1 : Nat) (x2 : Nat) (x3 : Int32) (x4 : Int32) (x5 : Int32) (σ : js_S) (r0 : Int32) (σ0 : js_S), fX7_findRedex_6b fu rc6 x0 x1 x2 x3 x4 x5 σ = some (r0, σ0) → ob_ nn 7 x0 → ob_ nn 6 x1 → ob_ nn 9 x2 → js_at p l e 4 s m args below meth c D B g nn 6 6 [(0, .ref (B + x0)), (1, .ref (B + x1)), (2, .ref (B + x2)), (3, .int x3), (4, .int x4), (5, .int x5)] [] σ (js_QI D B g nn r0 σ0) := by
  obtain ⟨hx, hb, hml, hown, ht, hK, hNw⟩ := id C
  intro x0 x1 x2 x3 x4 x5 σ r0 σ0 h t0 t1 t2 H locs hT ls hl
  unfold fX7_findRedex_6b at h
  refine lv_iload hx hb dX7_findRedex_6 (lv_at hl 5 rfl) ?_
  refine lv_aload_n hx hb dX7_findRedex_8 rfl (lv_at hl 2 rfl) ?_
  refine js_gIN C hT cfX9 t2 1 (by decide) rfl lk_X7_31 dX7_findRedex_9 ?_
  refine lv_icmp_ge (tgt := 44) hx hb dX7_findRedex_12 (by decide) (fun c1 => ?_) (fun c1 => ?_)
  · rw [if_pos c1] at h
    refine lv_iconst (v := (-1)) hx hb dX7_findRedex_44 (by decide) ?_
    obtain ⟨rfl, rfl⟩ := js_rt h
    exact js_iret C hT hr hk dX7_findRedex_45
  · rw [if_neg c1] at h
    refine lv_aload_n hx hb dX7_findRedex_15 rfl (lv_at hl 0 rfl) ?_
    refine lv_aload_n hx hb dX7_findRedex_16 rfl (lv_at hl 1 rfl) ?_
    refine lv_aload_n hx hb dX7_findRedex_17 rfl (lv_at hl 2 rfl) ?_
    refine lv_iload hx hb dX7_findRedex_18 (lv_at hl 5 rfl) ?_
    obtain ⟨r2, σ2, hc2, h⟩ := bd_some h
    refine js_backI hT (js_runV C hT cfX7 t0 rfl mfX7_lowestRuleAt lk_X7_63 (kX7_lowestRuleAt t0 t1 t2 hc2) ⟨Nat.le_of_ble_eq_true rfl, Nat.le_of_ble_eq_true rfl⟩ rfl hl.1 rfl (Nat.le_of_ble_eq_true rfl) ⟨Nat.zero_le _, Nat.zero_le _⟩ dX7_findRedex_20) (fun H locs hT => ?_)
    refine lv_if_lt (tgt := 38) hx hb dX7_findRedex_23 (by decide) (fun c3 => ?_) (fun c3 => ?_)
    · rw [if_pos c3] at h
      exact wX7_findRedex_38 C hr hk rc6 hrc6 _ _ _ _ _ _ _ _ _ h t0 t1 t2 H locs hT ls (lv_sub hl [0, 1, 2, 3, 4, 5] rfl)
    · rw [if_neg c3] at h
      refine lv_iload hx hb dX7_findRedex_26 (lv_at hl 4 rfl) ?_
      refine lv_iload_n hx hb dX7_findRedex_28 rfl (lv_at hl 3 rfl) ?_
      refine lv_icmp_ne (tgt := 35) hx hb dX7_findRedex_29 (by decide) (fun c4 => ?_) (fun c4 => ?_)
      · rw [if_neg c4] at h
        refine lv_iinc (v := x4 + 1) (lv' := [(4, .int (x4 + 1)), (0, .ref (B + x0)), (1, .ref (B + x1)), (2, .ref (B + x2)), (3, .int x3), (5, .int x5)]) hx hb dX7_findRedex_35 hl (k := 4) rfl rfl (by decide) rfl (fun ls hl => ?_)
        exact wX7_findRedex_38 C hr hk rc6 hrc6 _ _ _ _ _ _ _ _ _ h t0 t1 t2 H locs hT ls (lv_sub hl [1, 2, 3, 4, 0, 5] rfl)
      · rw [if_pos c4] at h
        refine lv_iload hx hb dX7_findRedex_32 (lv_at hl 5 rfl) ?_
        obtain ⟨rfl, rfl⟩ := js_rt h
        exact js_iret C hT hr hk dX7_findRedex_34
set_option maxHeartbeats 4000000 in
set_option maxRecDepth 20000 in
theorem wX7_findRedex_6 (C : js_C D g p m c cX7_findRedex 6 s args RX7) (hr : meth.sig.returnType = (some .int)) (hk : meth.locks = false) : ∀ (k : Nat), ∀ (x0 : Nat) (x1 : Nat) (x2 : Nat) (x3 : Int32) (x4 : Int32) (x5 : Int32) (σ : js_S) (r0 : Int32) (σ0 : js_S), fX7_findRedex_6 fu k x0 x1 x2 x3 x4 x5 σ = some (r0, σ0) → ob_ nn 7 x0 → ob_ nn 6 x1 → ob_ nn 9 x2 → js_at p l e 4 s m args below meth c D B g nn 6 6 [(0, .ref (B + x0)), (1, .ref (B + x1)), (2, .ref (B + x2)), (3, .int x3), (4, .int x4), (5, .int x5)] [] σ (js_QI D B g nn r0 σ0) := by
  intro k
  induction k with
  | zero =>
    intro x0 x1 x2 x3 x4 x5 σ r0 σ0 h
    cases h
  | succ k ih =>
    intro x0 x1 x2 x3 x4 x5 σ r0 σ0 h
    exact wX7_findRedex_6b C hr hk (fX7_findRedex_6 fu k) ih x0 x1 x2 x3 x4 x5 σ r0 σ0 h
set_option maxHeartbeats 4000000 in
set_option maxRecDepth 20000 in
theorem kX7_findRedex {x0 : Nat} {x1 : Nat} {x2 : Nat} {x3 : Int32} {σ σ0 : js_S} {r0 : Int32} (t0 : ob_ nn 7 x0) (t1 : ob_ nn 6 x1) (t2 : ob_ nn 9 x2) (h : fX7_findRedex fu x0 x1 x2 x3 σ = some (r0, σ0)) : js_M l D B g nn yX7_findRedex cX7_findRedex 6 (some .int) 4 [.ref (B + x0), .ref (B + x1), .ref (B + x2), .int x3] σ (js_QI D B g nn r0 σ0) := by
  refine js_enter (by decide) (Nat.le_of_ble_eq_true rfl) ?_
  intro p e s m args below meth c C hr hk ls hl hT
  have hl : lv_has ls 6 [(0, .ref (B + x0)), (1, .ref (B + x1)), (2, .ref (B + x2)), (3, .int x3)] := hl
  obtain ⟨hx, hb, hml, hown, ht, hK, hNw⟩ := id C
  obtain ⟨H, eH⟩ : ∃ H, H = s.heap := ⟨_, rfl⟩
  obtain ⟨locs, eL⟩ : ∃ z : List Loc, z = [] := ⟨_, rfl⟩
  rw [← eH, ← eL]
  rw [← eH, ← eL] at hT
  clear eH eL
  unfold fX7_findRedex at h
  refine lv_iconst (v := 0) hx hb dX7_findRedex_0 (by decide) ?_
  refine lv_istore (lv' := [(4, .int 0), (0, .ref (B + x0)), (1, .ref (B + x1)), (2, .ref (B + x2)), (3, .int x3)]) hx hb dX7_findRedex_1 hl (by decide) rfl (fun ls hl => ?_)
  refine lv_iconst (v := 0) hx hb dX7_findRedex_3 (by decide) ?_
  refine lv_istore (lv' := [(5, .int 0), (4, .int 0), (0, .ref (B + x0)), (1, .ref (B + x1)), (2, .ref (B + x2)), (3, .int x3)]) hx hb dX7_findRedex_4 hl (by decide) rfl (fun ls hl => ?_)
  exact wX7_findRedex_6 C hr hk _ _ _ _ _ _ _ _ _ _ h t0 t1 t2 H locs hT ls (lv_sub hl [2, 3, 4, 5, 1, 0] rfl)
set_option maxHeartbeats 4000000 in
set_option maxRecDepth 20000 in
theorem wX7_repeatsEarlier_2b (C : js_C D g p m c cX7_repeatsEarlier 3 s args RX7) (hr : meth.sig.returnType = (some .boolean)) (hk : meth.locks = false) (rc2 : Nat → Int32 → Int32 → js_S → Option (Int32 × js_S)) (hrc2 : ∀ (x0 : Nat) (x1 : Int32) (x2 : Int32) (σ : js_S) (r0 : Int32) (σ0 : js_S), rc2 x0 x1 x2 σ = some (r0, σ0) → ob_ nn 7 x0 → js_at p l e 2 s m args below meth c D B g nn 2 3 [(0, .ref (B + x0)), (1, .int x1), (2, .int x2)] [] σ (js_QI D B g nn r0 σ0)) : ∀ (x0 : Nat) (x1 : Int32) (x2 : Int32) (σ : js_S) (r0 : Int32) (σ0 : js_S), fX7_repeatsEarlier_2b fu rc2 x0 x1 x2 σ = some (r0, σ0) → ob_ nn 7 x0 → js_at p l e 2 s m args below meth c D B g nn 2 3 [(0, .ref (B + x0)), (1, .int x1), (2, .int x2)] [] σ (js_QI D B g nn r0 σ0) := by
  obtain ⟨hx, hb, hml, hown, ht, hK, hNw⟩ := id C
  intro x0 x1 x2 σ r0 σ0 h t0 H locs hT ls hl
  unfold fX7_repeatsEarlier_2b at h
  refine lv_iload_n hx hb dX7_repeatsEarlier_2 rfl (lv_at hl 2 rfl) ?_
  refine lv_iload_n hx hb dX7_repeatsEarlier_3 rfl (lv_at hl 1 rfl) ?_
  refine lv_icmp_ge (tgt := 42) hx hb dX7_repeatsEarlier_4 (by decide) (fun c1 => ?_) (fun c1 => ?_)
  · rw [if_pos c1] at h
    refine lv_iconst (v := 0) hx hb dX7_repeatsEarlier_42 (by decide) ?_
    obtain ⟨rfl, rfl⟩ := js_rt h
    exact js_zret C hT hr hk rfl dX7_repeatsEarlier_43
  · rw [if_neg c1] at h
    refine lv_iload_n hx hb dX7_repeatsEarlier_7 rfl (lv_at hl 1 rfl) ?_
    refine lv_aload_n hx hb dX7_repeatsEarlier_8 rfl (lv_at hl 0 rfl) ?_
    refine js_gR C hT cfX7 t0 1 (by decide) (q := 23) rfl (by decide) lk_X7_17 dX7_repeatsEarlier_9 (fun t2a => ?_)
    refine js_alen C hT t2a (Or.inr (Or.inr (Or.inr rfl))) dX7_repeatsEarlier_12 ?_
    refine lv_icmp_ge (tgt := 42) hx hb dX7_repeatsEarlier_13 (by decide) (fun c3 => ?_) (fun c3 => ?_)
    · rw [if_pos c3] at h
      refine lv_iconst (v := 0) hx hb dX7_repeatsEarlier_42 (by decide) ?_
      obtain ⟨rfl, rfl⟩ := js_rt h
      exact js_zret C hT hr hk rfl dX7_repeatsEarlier_43
    · rw [if_neg c3] at h
      refine lv_aload_n hx hb dX7_repeatsEarlier_16 rfl (lv_at hl 0 rfl) ?_
      refine js_gR C hT cfX7 t0 1 (by decide) (q := 23) rfl (by decide) lk_X7_17 dX7_repeatsEarlier_17 (fun t4a => ?_)
      refine lv_iload_n hx hb dX7_repeatsEarlier_20 rfl (lv_at hl 2 rfl) ?_
      obtain ⟨g5, h⟩ := gd_some _ h
      refine js_aald C hT t4a g5 dX7_repeatsEarlier_21 (fun t5a => ?_)
      refine lv_aload_n hx hb dX7_repeatsEarlier_22 rfl (lv_at hl 0 rfl) ?_
      refine js_gR C hT cfX7 t0 1 (by decide) (q := 23) rfl (by decide) lk_X7_17 dX7_repeatsEarlier_23 (fun t6a => ?_)
      refine lv_iload_n hx hb dX7_repeatsEarlier_26 rfl (lv_at hl 1 rfl) ?_
      obtain ⟨g7, h⟩ := gd_some _ h
      refine js_aald C hT t6a g7 dX7_repeatsEarlier_27 (fun t7a => ?_)
      obtain ⟨r8, σ8, hc8, h⟩ := bd_some h
      refine js_backI hT (js_runV C hT cfX9 t5a rfl mfX9_orderAgainst lk_X7_102 (kX9_orderAgainst t5a t7a hc8) ⟨Nat.le_of_ble_eq_true rfl, Nat.le_of_ble_eq_true rfl⟩ rfl hl.1 rfl (Nat.le_of_ble_eq_true rfl) ⟨Nat.zero_le _, Nat.zero_le _⟩ dX7_repeatsEarlier_28) (fun H locs hT => ?_)
      refine lv_if_ne (tgt := 36) hx hb dX7_repeatsEarlier_31 (by decide) (fun c9 => ?_) (fun c9 => ?_)
      · rw [if_neg c9] at h
        refine lv_iinc (v := x2 + 1) (lv' := [(2, .int (x2 + 1)), (0, .ref (B + x0)), (1, .int x1)]) hx hb dX7_repeatsEarlier_36 hl (k := 2) rfl rfl (by decide) rfl (fun ls hl => ?_)
        refine lv_goto (tgt := 2) hx hb dX7_repeatsEarlier_39 (by decide) ?_
        exact hrc2 _ _ _ _ _ _ h t0 H locs hT ls (lv_sub hl [1, 2, 0] rfl)
      · rw [if_pos c9] at h
        refine lv_iconst (v := 1) hx hb dX7_repeatsEarlier_34 (by decide) ?_
        obtain ⟨rfl, rfl⟩ := js_rt h
        exact js_zret C hT hr hk rfl dX7_repeatsEarlier_35
set_option maxHeartbeats 4000000 in
set_option maxRecDepth 20000 in
theorem wX7_repeatsEarlier_2 (C : js_C D g p m c cX7_repeatsEarlier 3 s args RX7) (hr : meth.sig.returnType = (some .boolean)) (hk : meth.locks = false) : ∀ (k : Nat), ∀ (x0 : Nat) (x1 : Int32) (x2 : Int32) (σ : js_S) (r0 : Int32) (σ0 : js_S), fX7_repeatsEarlier_2 fu k x0 x1 x2 σ = some (r0, σ0) → ob_ nn 7 x0 → js_at p l e 2 s m args below meth c D B g nn 2 3 [(0, .ref (B + x0)), (1, .int x1), (2, .int x2)] [] σ (js_QI D B g nn r0 σ0) := by
  intro k
  induction k with
  | zero =>
    intro x0 x1 x2 σ r0 σ0 h
    cases h
  | succ k ih =>
    intro x0 x1 x2 σ r0 σ0 h
    exact wX7_repeatsEarlier_2b C hr hk (fX7_repeatsEarlier_2 fu k) ih x0 x1 x2 σ r0 σ0 h
set_option maxHeartbeats 4000000 in
set_option maxRecDepth 20000 in
theorem kX7_repeatsEarlier {x0 : Nat} {x1 : Int32} {σ σ0 : js_S} {r0 : Int32} (t0 : ob_ nn 7 x0) (h : fX7_repeatsEarlier fu x0 x1 σ = some (r0, σ0)) : js_M l D B g nn yX7_repeatsEarlier cX7_repeatsEarlier 3 (some .boolean) 2 [.ref (B + x0), .int x1] σ (js_QI D B g nn r0 σ0) := by
  refine js_enter (by decide) (Nat.le_of_ble_eq_true rfl) ?_
  intro p e s m args below meth c C hr hk ls hl hT
  have hl : lv_has ls 3 [(0, .ref (B + x0)), (1, .int x1)] := hl
  obtain ⟨hx, hb, hml, hown, ht, hK, hNw⟩ := id C
  obtain ⟨H, eH⟩ : ∃ H, H = s.heap := ⟨_, rfl⟩
  obtain ⟨locs, eL⟩ : ∃ z : List Loc, z = [] := ⟨_, rfl⟩
  rw [← eH, ← eL]
  rw [← eH, ← eL] at hT
  clear eH eL
  unfold fX7_repeatsEarlier at h
  refine lv_iconst (v := 0) hx hb dX7_repeatsEarlier_0 (by decide) ?_
  refine lv_istore_n (lv' := [(2, .int 0), (0, .ref (B + x0)), (1, .int x1)]) hx hb dX7_repeatsEarlier_1 rfl hl (by decide) rfl (fun ls hl => ?_)
  exact wX7_repeatsEarlier_2 C hr hk _ _ _ _ _ _ _ h t0 H locs hT ls (lv_sub hl [1, 2, 0] rfl)
set_option maxHeartbeats 4000000 in
set_option maxRecDepth 20000 in
theorem wX7_stepsOutermost_3b (C : js_C D g p m c cX7_stepsOutermost 7 s args RX7) (hr : meth.sig.returnType = (some .int)) (hk : meth.locks = false) (rc3 : Nat → Nat → Nat → Int32 → Nat → Int32 → js_S → Option (Int32 × js_S)) (hrc3 : ∀ (x0 : Nat) (x1 : Nat) (x2 : Nat) (x3 : Int32) (x4 : Nat) (x5 : Int32) (σ : js_S) (r0 : Int32) (σ0 : js_S), rc3 x0 x1 x2 x3 x4 x5 σ = some (r0, σ0) → ob_ nn 7 x0 → ob_ nn 6 x1 → ob_ nn 9 x2 → ob_ nn 9 x4 → js_at p l e 5 s m args below meth c D B g nn 3 7 [(0, .ref (B + x0)), (1, .ref (B + x1)), (2, .ref (B + x2)), (3, .int x3), (4, .ref (B + x4)), (5, .int x5)] [] σ (js_QI D B g nn r0 σ0)) : ∀ (x0 : Nat) (x1 : Nat) (x2 : Nat) (x3 : Int32) (x4 : Nat) (x5 : Int32) (σ : js_S) (r0 : Int32) (σ0 : js_S), fX7_stepsOutermost_3b fu rc3 x0 x1 x2 x3 x4 x5 σ = some (r0, σ0) → ob_ nn 7 x0 → ob_ nn 6 x1 → ob_ nn 9 x2 → ob_ nn 9 x4 → js_at p l e 5 s m args below meth c D B g nn 3 7 [(0, .ref (B + x0)), (1, .ref (B + x1)), (2, .ref (B + x2)), (3, .int x3), (4, .ref (B + x4)), (5, .int x5)] [] σ (js_QI D B g nn r0 σ0) := by
  obtain ⟨hx, hb, hml, hown, ht, hK, hNw⟩ := id C
  intro x0 x1 x2 x3 x4 x5 σ r0 σ0 h t0 t1 t2 t4 H locs hT ls hl
  unfold fX7_stepsOutermost_3b at h
  refine lv_iload hx hb dX7_stepsOutermost_3 (lv_at hl 5 rfl) ?_
  refine lv_iload_n hx hb dX7_stepsOutermost_5 rfl (lv_at hl 3 rfl) ?_
  refine lv_icmp_ge (tgt := 51) hx hb dX7_stepsOutermost_6 (by decide) (fun c1 => ?_) (fun c1 => ?_)
  · rw [if_pos c1] at h
    refine lv_iload_n hx hb dX7_stepsOutermost_51 rfl (lv_at hl 3 rfl) ?_
    obtain ⟨rfl, rfl⟩ := js_rt h
    exact js_iret C hT hr hk dX7_stepsOutermost_52
  · rw [if_neg c1] at h
    refine lv_aload_n hx hb dX7_stepsOutermost_9 rfl (lv_at hl 0 rfl) ?_
    refine lv_aload_n hx hb dX7_stepsOutermost_10 rfl (lv_at hl 1 rfl) ?_
    refine lv_aload_n hx hb dX7_stepsOutermost_11 rfl (lv_at hl 2 rfl) ?_
    refine lv_iconst (v := 0) hx hb dX7_stepsOutermost_12 (by decide) ?_
    obtain ⟨r2, σ2, hc2, h⟩ := bd_some h
    refine js_backI hT (js_runV C hT cfX7 t0 rfl mfX7_findRedex lk_X7_88 (kX7_findRedex t0 t1 t2 hc2) ⟨Nat.le_of_ble_eq_true rfl, Nat.le_of_ble_eq_true rfl⟩ rfl hl.1 rfl (Nat.le_of_ble_eq_true rfl) ⟨Nat.zero_le _, Nat.zero_le _⟩ dX7_stepsOutermost_13) (fun H locs hT => ?_)
    refine lv_istore (lv' := [(6, .int r2), (0, .ref (B + x0)), (1, .ref (B + x1)), (2, .ref (B + x2)), (3, .int x3), (4, .ref (B + x4)), (5, .int x5)]) hx hb dX7_stepsOutermost_16 hl (by decide) rfl (fun ls hl => ?_)
    refine lv_iload hx hb dX7_stepsOutermost_18 (lv_at hl 0 rfl) ?_
    refine lv_if_lt (tgt := 36) hx hb dX7_stepsOutermost_20 (by decide) (fun c3 => ?_) (fun c3 => ?_)
    · rw [if_pos c3] at h
      refine lv_iload hx hb dX7_stepsOutermost_36 (lv_at hl 6 rfl) ?_
      obtain ⟨rfl, rfl⟩ := js_rt h
      exact js_iret C hT hr hk dX7_stepsOutermost_38
    · rw [if_neg c3] at h
      refine lv_aload_n hx hb dX7_stepsOutermost_23 rfl (lv_at hl 1 rfl) ?_
      refine lv_aload_n hx hb dX7_stepsOutermost_24 rfl (lv_at hl 2 rfl) ?_
      refine lv_aload_n hx hb dX7_stepsOutermost_25 rfl (lv_at hl 3 rfl) ?_
      refine lv_iload hx hb dX7_stepsOutermost_26 (lv_at hl 0 rfl) ?_
      refine lv_aload hx hb dX7_stepsOutermost_28 (lv_at hl 5 rfl) ?_
      obtain ⟨r4, σ4, hc4, h⟩ := bd_some h
      refine js_backI hT (js_runV C hT cfX7 t0 rfl mfX7_step lk_X7_91 (kX7_step t0 t1 t2 t4 hc4) ⟨Nat.le_of_ble_eq_true rfl, Nat.le_of_ble_eq_true rfl⟩ rfl hl.1 rfl (Nat.le_of_ble_eq_true rfl) ⟨Nat.zero_le _, Nat.zero_le _⟩ dX7_stepsOutermost_30) (fun H locs hT => ?_)
      refine lv_if_ge (tgt := 39) hx hb dX7_stepsOutermost_33 (by decide) (fun c5 => ?_) (fun c5 => ?_)
      · rw [if_pos c5] at h
        refine lv_aload_n hx hb dX7_stepsOutermost_39 rfl (lv_at hl 3 rfl) ?_
        refine lv_aload hx hb dX7_stepsOutermost_40 (lv_at hl 5 rfl) ?_
        obtain ⟨z6, σ6, hc6, h⟩ := bd_some h
        refine js_backV hT (js_runV C hT cfX9 t2 rfl mfX9_copyFrom lk_X7_95 (kX9_copyFrom t2 t4 hc6) ⟨Nat.le_of_ble_eq_true rfl, Nat.le_of_ble_eq_true rfl⟩ rfl hl.1 rfl (Nat.le_of_ble_eq_true rfl) ⟨Nat.zero_le _, Nat.zero_le _⟩ dX7_stepsOutermost_42) (fun H locs hT => ?_)
        refine lv_iinc (v := x5 + 1) (lv' := [(5, .int (x5 + 1)), (6, .int r2), (0, .ref (B + x0)), (1, .ref (B + x1)), (2, .ref (B + x2)), (3, .int x3), (4, .ref (B + x4))]) hx hb dX7_stepsOutermost_45 hl (k := 6) rfl rfl (by decide) rfl (fun ls hl => ?_)
        refine lv_goto (tgt := 3) hx hb dX7_stepsOutermost_48 (by decide) ?_
        exact hrc3 _ _ _ _ _ _ _ _ _ h t0 t1 t2 t4 H locs hT ls (lv_sub hl [2, 3, 4, 5, 6, 0] rfl)
      · rw [if_neg c5] at h
        refine lv_iload hx hb dX7_stepsOutermost_36 (lv_at hl 6 rfl) ?_
        obtain ⟨rfl, rfl⟩ := js_rt h
        exact js_iret C hT hr hk dX7_stepsOutermost_38
set_option maxHeartbeats 4000000 in
set_option maxRecDepth 20000 in
theorem wX7_stepsOutermost_3 (C : js_C D g p m c cX7_stepsOutermost 7 s args RX7) (hr : meth.sig.returnType = (some .int)) (hk : meth.locks = false) : ∀ (k : Nat), ∀ (x0 : Nat) (x1 : Nat) (x2 : Nat) (x3 : Int32) (x4 : Nat) (x5 : Int32) (σ : js_S) (r0 : Int32) (σ0 : js_S), fX7_stepsOutermost_3 fu k x0 x1 x2 x3 x4 x5 σ = some (r0, σ0) → ob_ nn 7 x0 → ob_ nn 6 x1 → ob_ nn 9 x2 → ob_ nn 9 x4 → js_at p l e 5 s m args below meth c D B g nn 3 7 [(0, .ref (B + x0)), (1, .ref (B + x1)), (2, .ref (B + x2)), (3, .int x3), (4, .ref (B + x4)), (5, .int x5)] [] σ (js_QI D B g nn r0 σ0) := by
  intro k
  induction k with
  | zero =>
    intro x0 x1 x2 x3 x4 x5 σ r0 σ0 h
    cases h
  | succ k ih =>
    intro x0 x1 x2 x3 x4 x5 σ r0 σ0 h
    exact wX7_stepsOutermost_3b C hr hk (fX7_stepsOutermost_3 fu k) ih x0 x1 x2 x3 x4 x5 σ r0 σ0 h
set_option maxHeartbeats 4000000 in
set_option maxRecDepth 20000 in
theorem kX7_stepsOutermost {x0 : Nat} {x1 : Nat} {x2 : Nat} {x3 : Int32} {x4 : Nat} {σ σ0 : js_S} {r0 : Int32} (t0 : ob_ nn 7 x0) (t1 : ob_ nn 6 x1) (t2 : ob_ nn 9 x2) (t4 : ob_ nn 9 x4) (h : fX7_stepsOutermost fu x0 x1 x2 x3 x4 σ = some (r0, σ0)) : js_M l D B g nn yX7_stepsOutermost cX7_stepsOutermost 7 (some .int) 5 [.ref (B + x0), .ref (B + x1), .ref (B + x2), .int x3, .ref (B + x4)] σ (js_QI D B g nn r0 σ0) := by
  refine js_enter (by decide) (Nat.le_of_ble_eq_true rfl) ?_
  intro p e s m args below meth c C hr hk ls hl hT
  have hl : lv_has ls 7 [(0, .ref (B + x0)), (1, .ref (B + x1)), (2, .ref (B + x2)), (3, .int x3), (4, .ref (B + x4))] := hl
  obtain ⟨hx, hb, hml, hown, ht, hK, hNw⟩ := id C
  obtain ⟨H, eH⟩ : ∃ H, H = s.heap := ⟨_, rfl⟩
  obtain ⟨locs, eL⟩ : ∃ z : List Loc, z = [] := ⟨_, rfl⟩
  rw [← eH, ← eL]
  rw [← eH, ← eL] at hT
  clear eH eL
  unfold fX7_stepsOutermost at h
  refine lv_iconst (v := 0) hx hb dX7_stepsOutermost_0 (by decide) ?_
  refine lv_istore (lv' := [(5, .int 0), (0, .ref (B + x0)), (1, .ref (B + x1)), (2, .ref (B + x2)), (3, .int x3), (4, .ref (B + x4))]) hx hb dX7_stepsOutermost_1 hl (by decide) rfl (fun ls hl => ?_)
  exact wX7_stepsOutermost_3 C hr hk _ _ _ _ _ _ _ _ _ _ h t0 t1 t2 t4 H locs hT ls (lv_sub hl [1, 2, 3, 4, 5, 0] rfl)
set_option maxHeartbeats 4000000 in
set_option maxRecDepth 20000 in
theorem wX7_stepsToRepetition_13b (C : js_C D g p m c cX7_stepsToRepetition 7 s args RX7) (hr : meth.sig.returnType = (some .int)) (hk : meth.locks = false) (rc13 : Nat → Nat → Int32 → Int32 → js_S → Option (Int32 × js_S)) (hrc13 : ∀ (x0 : Nat) (x1 : Nat) (x3 : Int32) (x4 : Int32) (σ : js_S) (r0 : Int32) (σ0 : js_S), rc13 x0 x1 x3 x4 σ = some (r0, σ0) → ob_ nn 7 x0 → ob_ nn 6 x1 → js_at p l e 5 s m args below meth c D B g nn 13 7 [(0, .ref (B + x0)), (1, .ref (B + x1)), (3, .int x3), (4, .int x4)] [] σ (js_QI D B g nn r0 σ0)) : ∀ (x0 : Nat) (x1 : Nat) (x3 : Int32) (x4 : Int32) (σ : js_S) (r0 : Int32) (σ0 : js_S), fX7_stepsToRepetition_13b fu rc13 x0 x1 x3 x4 σ = some (r0, σ0) → ob_ nn 7 x0 → ob_ nn 6 x1 → js_at p l e 5 s m args below meth c D B g nn 13 7 [(0, .ref (B + x0)), (1, .ref (B + x1)), (3, .int x3), (4, .int x4)] [] σ (js_QI D B g nn r0 σ0) := by
  obtain ⟨hx, hb, hml, hown, ht, hK, hNw⟩ := id C
  intro x0 x1 x3 x4 σ r0 σ0 h t0 t1 H locs hT ls hl
  unfold fX7_stepsToRepetition_13b at h
  refine lv_iload hx hb dX7_stepsToRepetition_13 (lv_at hl 3 rfl) ?_
  refine lv_iload_n hx hb dX7_stepsToRepetition_15 rfl (lv_at hl 2 rfl) ?_
  refine lv_icmp_gt (tgt := 95) hx hb dX7_stepsToRepetition_16 (by decide) (fun c1 => ?_) (fun c1 => ?_)
  · rw [if_pos c1] at h
    refine lv_bipush (v := (-5)) hx hb dX7_stepsToRepetition_95 (by decide) ?_
    obtain ⟨rfl, rfl⟩ := js_rt h
    exact js_iret C hT hr hk dX7_stepsToRepetition_97
  · rw [if_neg c1] at h
    refine lv_iload hx hb dX7_stepsToRepetition_19 (lv_at hl 3 rfl) ?_
    refine lv_aload_n hx hb dX7_stepsToRepetition_21 rfl (lv_at hl 0 rfl) ?_
    refine js_gR C hT cfX7 t0 1 (by decide) (q := 23) rfl (by decide) lk_X7_17 dX7_stepsToRepetition_22 (fun t2a => ?_)
    refine js_alen C hT t2a (Or.inr (Or.inr (Or.inr rfl))) dX7_stepsToRepetition_25 ?_
    refine lv_icmp_ge (tgt := 95) hx hb dX7_stepsToRepetition_26 (by decide) (fun c3 => ?_) (fun c3 => ?_)
    · rw [if_pos c3] at h
      refine lv_bipush (v := (-5)) hx hb dX7_stepsToRepetition_95 (by decide) ?_
      obtain ⟨rfl, rfl⟩ := js_rt h
      exact js_iret C hT hr hk dX7_stepsToRepetition_97
    · rw [if_neg c3] at h
      refine lv_aload_n hx hb dX7_stepsToRepetition_29 rfl (lv_at hl 0 rfl) ?_
      refine js_gR C hT cfX7 t0 1 (by decide) (q := 23) rfl (by decide) lk_X7_17 dX7_stepsToRepetition_30 (fun t4a => ?_)
      refine lv_iload hx hb dX7_stepsToRepetition_33 (lv_at hl 3 rfl) ?_
      refine lv_iconst (v := 1) hx hb dX7_stepsToRepetition_35 (by decide) ?_
      refine lv_isub hx hb dX7_stepsToRepetition_36 ?_
      obtain ⟨g5, h⟩ := gd_some _ h
      refine js_aald C hT t4a g5 dX7_stepsToRepetition_37 (fun t5a => ?_)
      refine lv_astore (lv' := [(5, .ref (B + (σ.2.2 (σ.2.2 x0 1) (Int32.toNatClampNeg (x4 - 1))))), (0, .ref (B + x0)), (1, .ref (B + x1)), (3, .int x3), (4, .int x4)]) hx hb dX7_stepsToRepetition_38 hl (by decide) rfl (fun ls hl => ?_)
      refine lv_aload_n hx hb dX7_stepsToRepetition_40 rfl (lv_at hl 1 rfl) ?_
      refine lv_aload_n hx hb dX7_stepsToRepetition_41 rfl (lv_at hl 2 rfl) ?_
      refine lv_aload hx hb dX7_stepsToRepetition_42 (lv_at hl 0 rfl) ?_
      refine lv_iconst (v := 0) hx hb dX7_stepsToRepetition_44 (by decide) ?_
      obtain ⟨r6, σ6, hc6, h⟩ := bd_some h
      refine js_backI hT (js_runV C hT cfX7 t0 rfl mfX7_findRedex lk_X7_88 (kX7_findRedex t0 t1 t5a hc6) ⟨Nat.le_of_ble_eq_true rfl, Nat.le_of_ble_eq_true rfl⟩ rfl hl.1 rfl (Nat.le_of_ble_eq_true rfl) ⟨Nat.zero_le _, Nat.zero_le _⟩ dX7_stepsToRepetition_45) (fun H locs hT => ?_)
      refine lv_istore (lv' := [(6, .int r6), (5, .ref (B + (σ.2.2 (σ.2.2 x0 1) (Int32.toNatClampNeg (x4 - 1))))), (0, .ref (B + x0)), (1, .ref (B + x1)), (3, .int x3), (4, .int x4)]) hx hb dX7_stepsToRepetition_48 hl (by decide) rfl (fun ls hl => ?_)
      refine lv_iload hx hb dX7_stepsToRepetition_50 (lv_at hl 0 rfl) ?_
      refine lv_if_lt (tgt := 74) hx hb dX7_stepsToRepetition_52 (by decide) (fun c7 => ?_) (fun c7 => ?_)
      · rw [if_pos c7] at h
        refine lv_bipush (v := (-5)) hx hb dX7_stepsToRepetition_74 (by decide) ?_
        obtain ⟨rfl, rfl⟩ := js_rt h
        exact js_iret C hT hr hk dX7_stepsToRepetition_76
      · rw [if_neg c7] at h
        refine lv_aload_n hx hb dX7_stepsToRepetition_55 rfl (lv_at hl 2 rfl) ?_
        refine lv_aload_n hx hb dX7_stepsToRepetition_56 rfl (lv_at hl 3 rfl) ?_
        refine lv_aload hx hb dX7_stepsToRepetition_57 (lv_at hl 1 rfl) ?_
        refine lv_iload hx hb dX7_stepsToRepetition_59 (lv_at hl 0 rfl) ?_
        refine lv_aload_n hx hb dX7_stepsToRepetition_61 rfl (lv_at hl 2 rfl) ?_
        refine js_gR C hT cfX7 t0 1 (by decide) (q := 23) rfl (by decide) lk_X7_17 dX7_stepsToRepetition_62 (fun t8a => ?_)
        refine lv_iload hx hb dX7_stepsToRepetition_65 (lv_at hl 5 rfl) ?_
        obtain ⟨g9, h⟩ := gd_some _ h
        refine js_aald C hT t8a g9 dX7_stepsToRepetition_67 (fun t9a => ?_)
        obtain ⟨r10, σ10, hc10, h⟩ := bd_some h
        refine js_backI hT (js_runV C hT cfX7 t0 rfl mfX7_step lk_X7_91 (kX7_step t0 t1 t5a t9a hc10) ⟨Nat.le_of_ble_eq_true rfl, Nat.le_of_ble_eq_true rfl⟩ rfl hl.1 rfl (Nat.le_of_ble_eq_true rfl) ⟨Nat.zero_le _, Nat.zero_le _⟩ dX7_stepsToRepetition_68) (fun H locs hT => ?_)
        refine lv_if_ge (tgt := 77) hx hb dX7_stepsToRepetition_71 (by decide) (fun c11 => ?_) (fun c11 => ?_)
        · rw [if_pos c11] at h
          refine lv_aload_n hx hb dX7_stepsToRepetition_77 rfl (lv_at hl 2 rfl) ?_
          refine lv_iload hx hb dX7_stepsToRepetition_78 (lv_at hl 5 rfl) ?_
          obtain ⟨r12, σ12, hc12, h⟩ := bd_some h
          refine js_backI hT (js_runV C hT cfX7 t0 rfl mfX7_repeatsEarlier lk_X7_99 (kX7_repeatsEarlier t0 hc12) ⟨Nat.le_of_ble_eq_true rfl, Nat.le_of_ble_eq_true rfl⟩ rfl hl.1 rfl (Nat.le_of_ble_eq_true rfl) ⟨Nat.zero_le _, Nat.zero_le _⟩ dX7_stepsToRepetition_80) (fun H locs hT => ?_)
          refine lv_if_eq (tgt := 89) hx hb dX7_stepsToRepetition_83 (by decide) (fun c13 => ?_) (fun c13 => ?_)
          · rw [if_pos c13] at h
            refine lv_iinc (v := x4 + 1) (lv' := [(4, .int (x4 + 1)), (6, .int r6), (5, .ref (B + (σ.2.2 (σ.2.2 x0 1) (Int32.toNatClampNeg (x4 - 1))))), (0, .ref (B + x0)), (1, .ref (B + x1)), (3, .int x3)]) hx hb dX7_stepsToRepetition_89 hl (k := 5) rfl rfl (by decide) rfl (fun ls hl => ?_)
            refine lv_goto (tgt := 13) hx hb dX7_stepsToRepetition_92 (by decide) ?_
            exact hrc13 _ _ _ _ _ _ _ h t0 t1 H locs hT ls (lv_sub hl [3, 4, 5, 0] rfl)
          · rw [if_neg c13] at h
            refine lv_iload hx hb dX7_stepsToRepetition_86 (lv_at hl 5 rfl) ?_
            obtain ⟨rfl, rfl⟩ := js_rt h
            exact js_iret C hT hr hk dX7_stepsToRepetition_88
        · rw [if_neg c11] at h
          refine lv_bipush (v := (-5)) hx hb dX7_stepsToRepetition_74 (by decide) ?_
          obtain ⟨rfl, rfl⟩ := js_rt h
          exact js_iret C hT hr hk dX7_stepsToRepetition_76
set_option maxHeartbeats 4000000 in
set_option maxRecDepth 20000 in
theorem wX7_stepsToRepetition_13 (C : js_C D g p m c cX7_stepsToRepetition 7 s args RX7) (hr : meth.sig.returnType = (some .int)) (hk : meth.locks = false) : ∀ (k : Nat), ∀ (x0 : Nat) (x1 : Nat) (x3 : Int32) (x4 : Int32) (σ : js_S) (r0 : Int32) (σ0 : js_S), fX7_stepsToRepetition_13 fu k x0 x1 x3 x4 σ = some (r0, σ0) → ob_ nn 7 x0 → ob_ nn 6 x1 → js_at p l e 5 s m args below meth c D B g nn 13 7 [(0, .ref (B + x0)), (1, .ref (B + x1)), (3, .int x3), (4, .int x4)] [] σ (js_QI D B g nn r0 σ0) := by
  intro k
  induction k with
  | zero =>
    intro x0 x1 x3 x4 σ r0 σ0 h
    cases h
  | succ k ih =>
    intro x0 x1 x3 x4 σ r0 σ0 h
    exact wX7_stepsToRepetition_13b C hr hk (fX7_stepsToRepetition_13 fu k) ih x0 x1 x3 x4 σ r0 σ0 h
set_option maxHeartbeats 4000000 in
set_option maxRecDepth 20000 in
theorem kX7_stepsToRepetition {x0 : Nat} {x1 : Nat} {x2 : Nat} {x3 : Int32} {σ σ0 : js_S} {r0 : Int32} (t0 : ob_ nn 7 x0) (t1 : ob_ nn 6 x1) (t2 : ob_ nn 9 x2) (h : fX7_stepsToRepetition fu x0 x1 x2 x3 σ = some (r0, σ0)) : js_M l D B g nn yX7_stepsToRepetition cX7_stepsToRepetition 7 (some .int) 5 [.ref (B + x0), .ref (B + x1), .ref (B + x2), .int x3] σ (js_QI D B g nn r0 σ0) := by
  refine js_enter (by decide) (Nat.le_of_ble_eq_true rfl) ?_
  intro p e s m args below meth c C hr hk ls hl hT
  have hl : lv_has ls 7 [(0, .ref (B + x0)), (1, .ref (B + x1)), (2, .ref (B + x2)), (3, .int x3)] := hl
  obtain ⟨hx, hb, hml, hown, ht, hK, hNw⟩ := id C
  obtain ⟨H, eH⟩ : ∃ H, H = s.heap := ⟨_, rfl⟩
  obtain ⟨locs, eL⟩ : ∃ z : List Loc, z = [] := ⟨_, rfl⟩
  rw [← eH, ← eL]
  rw [← eH, ← eL] at hT
  clear eH eL
  unfold fX7_stepsToRepetition at h
  refine lv_aload_n hx hb dX7_stepsToRepetition_0 rfl (lv_at hl 0 rfl) ?_
  refine js_gR C hT cfX7 t0 1 (by decide) (q := 23) rfl (by decide) lk_X7_17 dX7_stepsToRepetition_1 (fun t1a => ?_)
  refine lv_iconst (v := 0) hx hb dX7_stepsToRepetition_4 (by decide) ?_
  obtain ⟨g2, h⟩ := gd_some _ h
  refine js_aald C hT t1a g2 dX7_stepsToRepetition_5 (fun t2a => ?_)
  refine lv_aload_n hx hb dX7_stepsToRepetition_6 rfl (lv_at hl 2 rfl) ?_
  obtain ⟨z3, σ3, hc3, h⟩ := bd_some h
  refine js_backV hT (js_runV C hT cfX9 t2a rfl mfX9_copyFrom lk_X7_95 (kX9_copyFrom t2a t2 hc3) ⟨Nat.le_of_ble_eq_true rfl, Nat.le_of_ble_eq_true rfl⟩ rfl hl.1 rfl (Nat.le_of_ble_eq_true rfl) ⟨Nat.zero_le _, Nat.zero_le _⟩ dX7_stepsToRepetition_7) (fun H locs hT => ?_)
  refine lv_iconst (v := 1) hx hb dX7_stepsToRepetition_10 (by decide) ?_
  refine lv_istore (lv' := [(4, .int 1), (0, .ref (B + x0)), (1, .ref (B + x1)), (2, .ref (B + x2)), (3, .int x3)]) hx hb dX7_stepsToRepetition_11 hl (by decide) rfl (fun ls hl => ?_)
  exact wX7_stepsToRepetition_13 C hr hk _ _ _ _ _ _ _ _ h t0 t1 H locs hT ls (lv_sub hl [1, 2, 4, 0] rfl)
set_option maxHeartbeats 4000000 in
set_option maxRecDepth 20000 in
theorem kX8_change {x0 : Nat} {x1 : Int32} {x2 : Int32} {σ σ0 : js_S} {r0 : Unit} (t0 : ob_ nn 8 x0) (h : fX8_change fu x0 x1 x2 σ = some (r0, σ0)) : js_M l D B g nn yX8_change cX8_change 3 none 0 [.ref (B + x0), .int x1, .int x2] σ (js_QV D B g nn σ0) := by
  refine js_enter (by decide) (Nat.le_of_ble_eq_true rfl) ?_
  intro p e s m args below meth c C hr hk ls hl hT
  have hl : lv_has ls 3 [(0, .ref (B + x0)), (1, .int x1), (2, .int x2)] := hl
  obtain ⟨hx, hb, hml, hown, ht, hK, hNw⟩ := id C
  obtain ⟨H, eH⟩ : ∃ H, H = s.heap := ⟨_, rfl⟩
  obtain ⟨locs, eL⟩ : ∃ z : List Loc, z = [] := ⟨_, rfl⟩
  rw [← eH, ← eL]
  rw [← eH, ← eL] at hT
  clear eH eL
  unfold fX8_change at h
  refine lv_iload_n hx hb dX8_change_0 rfl (lv_at hl 1 rfl) ?_
  refine lv_if_lt (tgt := 19) hx hb dX8_change_1 (by decide) (fun c1 => ?_) (fun c1 => ?_)
  · rw [if_pos c1] at h
    obtain ⟨rfl, rfl⟩ := js_rt h
    exact js_vret C hT hr hk dX8_change_19
  · rw [if_neg c1] at h
    refine lv_iload_n hx hb dX8_change_4 rfl (lv_at hl 1 rfl) ?_
    refine lv_iconst (v := 3) hx hb dX8_change_5 (by decide) ?_
    refine lv_icmp_ge (tgt := 19) hx hb dX8_change_6 (by decide) (fun c2 => ?_) (fun c2 => ?_)
    · rw [if_pos c2] at h
      obtain ⟨rfl, rfl⟩ := js_rt h
      exact js_vret C hT hr hk dX8_change_19
    · rw [if_neg c2] at h
      refine lv_aload_n hx hb dX8_change_9 rfl (lv_at hl 0 rfl) ?_
      refine js_gR C hT cfX8 t0 0 (by decide) (q := 20) rfl (by decide) lk_X8_9 dX8_change_10 (fun t3a => ?_)
      refine lv_bipush (v := 102) hx hb dX8_change_13 (by decide) ?_
      refine lv_iload_n hx hb dX8_change_15 rfl (lv_at hl 1 rfl) ?_
      refine lv_iadd hx hb dX8_change_16 ?_
      refine lv_iload_n hx hb dX8_change_17 rfl (lv_at hl 2 rfl) ?_
      obtain ⟨g4, h⟩ := gd_some _ h
      obtain ⟨σ4, e4, h⟩ := lt_some h
      refine js_iast C hT t3a g4 dX8_change_18 (fun H locs hT => ?_)
      rw [e4] at hT
      obtain ⟨rfl, rfl⟩ := js_rt h
      exact js_vret C hT hr hk dX8_change_19
set_option maxHeartbeats 4000000 in
set_option maxRecDepth 20000 in
theorem kX10_append {x0 : Nat} {x1 : Int32} {σ σ0 : js_S} {r0 : Int32} (t0 : ob_ nn 10 x0) (h : fX10_append fu x0 x1 σ = some (r0, σ0)) : js_M l D B g nn yX10_append cX10_append 2 (some .boolean) 0 [.ref (B + x0), .int x1] σ (js_QI D B g nn r0 σ0) := by
  refine js_enter (by decide) (Nat.le_of_ble_eq_true rfl) ?_
  intro p e s m args below meth c C hr hk ls hl hT
  have hl : lv_has ls 2 [(0, .ref (B + x0)), (1, .int x1)] := hl
  obtain ⟨hx, hb, hml, hown, ht, hK, hNw⟩ := id C
  obtain ⟨H, eH⟩ : ∃ H, H = s.heap := ⟨_, rfl⟩
  obtain ⟨locs, eL⟩ : ∃ z : List Loc, z = [] := ⟨_, rfl⟩
  rw [← eH, ← eL]
  rw [← eH, ← eL] at hT
  clear eH eL
  unfold fX10_append at h
  refine lv_aload_n hx hb dX10_append_0 rfl (lv_at hl 0 rfl) ?_
  refine js_gI C hT cfX10 t0 2 (by decide) rfl lk_X10_24 dX10_append_1 ?_
  refine lv_if_lt (tgt := 19) hx hb dX10_append_4 (by decide) (fun c1 => ?_) (fun c1 => ?_)
  · rw [if_pos c1] at h
    refine lv_iconst (v := 0) hx hb dX10_append_19 (by decide) ?_
    obtain ⟨rfl, rfl⟩ := js_rt h
    exact js_zret C hT hr hk rfl dX10_append_20
  · rw [if_neg c1] at h
    refine lv_aload_n hx hb dX10_append_7 rfl (lv_at hl 0 rfl) ?_
    refine js_gI C hT cfX10 t0 2 (by decide) rfl lk_X10_24 dX10_append_8 ?_
    refine lv_aload_n hx hb dX10_append_11 rfl (lv_at hl 0 rfl) ?_
    refine js_gR C hT cfX10 t0 0 (by decide) (q := 20) rfl (by decide) lk_X10_15 dX10_append_12 (fun t2a => ?_)
    refine js_alen C hT t2a (Or.inl rfl) dX10_append_15 ?_
    refine lv_icmp_lt (tgt := 21) hx hb dX10_append_16 (by decide) (fun c3 => ?_) (fun c3 => ?_)
    · rw [if_pos c3] at h
      refine lv_aload_n hx hb dX10_append_21 rfl (lv_at hl 0 rfl) ?_
      refine js_gR C hT cfX10 t0 0 (by decide) (q := 20) rfl (by decide) lk_X10_15 dX10_append_22 (fun t4a => ?_)
      refine lv_aload_n hx hb dX10_append_25 rfl (lv_at hl 0 rfl) ?_
      refine js_gI C hT cfX10 t0 2 (by decide) rfl lk_X10_24 dX10_append_26 ?_
      refine lv_iload_n hx hb dX10_append_29 rfl (lv_at hl 1 rfl) ?_
      obtain ⟨g5, h⟩ := gd_some _ h
      obtain ⟨σ5, e5, h⟩ := lt_some h
      refine js_iast C hT t4a g5 dX10_append_30 (fun H locs hT => ?_)
      rw [e5] at hT
      refine lv_aload_n hx hb dX10_append_31 rfl (lv_at hl 0 rfl) ?_
      refine lv_dup hx hb dX10_append_32 rfl ?_
      refine js_gI C hT cfX10 t0 2 (by decide) rfl lk_X10_24 dX10_append_33 ?_
      refine lv_iconst (v := 1) hx hb dX10_append_36 (by decide) ?_
      refine lv_iadd hx hb dX10_append_37 ?_
      obtain ⟨σ6, e6, h⟩ := lt_some h
      refine js_pI C hT cfX10 t0 2 (by decide) rfl rfl rfl rfl lk_X10_24 dX10_append_38 (fun H locs hT => ?_)
      rw [e6] at hT
      refine lv_iconst (v := 1) hx hb dX10_append_41 (by decide) ?_
      obtain ⟨rfl, rfl⟩ := js_rt h
      exact js_zret C hT hr hk rfl dX10_append_42
    · rw [if_neg c3] at h
      refine lv_iconst (v := 0) hx hb dX10_append_19 (by decide) ?_
      obtain ⟨rfl, rfl⟩ := js_rt h
      exact js_zret C hT hr hk rfl dX10_append_20
set_option maxHeartbeats 4000000 in
set_option maxRecDepth 20000 in
theorem kX10_character {x0 : Nat} {x1 : Int32} {σ σ0 : js_S} {r0 : Int32} (t0 : ob_ nn 10 x0) (h : fX10_character fu x0 x1 σ = some (r0, σ0)) : js_M l D B g nn yX10_character cX10_character 2 (some .int) 0 [.ref (B + x0), .int x1] σ (js_QI D B g nn r0 σ0) := by
  refine js_enter (by decide) (Nat.le_of_ble_eq_true rfl) ?_
  intro p e s m args below meth c C hr hk ls hl hT
  have hl : lv_has ls 2 [(0, .ref (B + x0)), (1, .int x1)] := hl
  obtain ⟨hx, hb, hml, hown, ht, hK, hNw⟩ := id C
  obtain ⟨H, eH⟩ : ∃ H, H = s.heap := ⟨_, rfl⟩
  obtain ⟨locs, eL⟩ : ∃ z : List Loc, z = [] := ⟨_, rfl⟩
  rw [← eH, ← eL]
  rw [← eH, ← eL] at hT
  clear eH eL
  unfold fX10_character at h
  refine lv_iload_n hx hb dX10_character_0 rfl (lv_at hl 1 rfl) ?_
  refine lv_if_lt (tgt := 30) hx hb dX10_character_1 (by decide) (fun c1 => ?_) (fun c1 => ?_)
  · rw [if_pos c1] at h
    refine lv_iconst (v := 0) hx hb dX10_character_30 (by decide) ?_
    obtain ⟨rfl, rfl⟩ := js_rt h
    exact js_iret C hT hr hk dX10_character_31
  · rw [if_neg c1] at h
    refine lv_iload_n hx hb dX10_character_4 rfl (lv_at hl 1 rfl) ?_
    refine lv_aload_n hx hb dX10_character_5 rfl (lv_at hl 0 rfl) ?_
    refine js_gI C hT cfX10 t0 2 (by decide) rfl lk_X10_24 dX10_character_6 ?_
    refine lv_icmp_ge (tgt := 30) hx hb dX10_character_9 (by decide) (fun c2 => ?_) (fun c2 => ?_)
    · rw [if_pos c2] at h
      refine lv_iconst (v := 0) hx hb dX10_character_30 (by decide) ?_
      obtain ⟨rfl, rfl⟩ := js_rt h
      exact js_iret C hT hr hk dX10_character_31
    · rw [if_neg c2] at h
      refine lv_iload_n hx hb dX10_character_12 rfl (lv_at hl 1 rfl) ?_
      refine lv_aload_n hx hb dX10_character_13 rfl (lv_at hl 0 rfl) ?_
      refine js_gR C hT cfX10 t0 0 (by decide) (q := 20) rfl (by decide) lk_X10_15 dX10_character_14 (fun t3a => ?_)
      refine js_alen C hT t3a (Or.inl rfl) dX10_character_17 ?_
      refine lv_icmp_ge (tgt := 30) hx hb dX10_character_18 (by decide) (fun c4 => ?_) (fun c4 => ?_)
      · rw [if_pos c4] at h
        refine lv_iconst (v := 0) hx hb dX10_character_30 (by decide) ?_
        obtain ⟨rfl, rfl⟩ := js_rt h
        exact js_iret C hT hr hk dX10_character_31
      · rw [if_neg c4] at h
        refine lv_aload_n hx hb dX10_character_21 rfl (lv_at hl 0 rfl) ?_
        refine js_gR C hT cfX10 t0 0 (by decide) (q := 20) rfl (by decide) lk_X10_15 dX10_character_22 (fun t5a => ?_)
        refine lv_iload_n hx hb dX10_character_25 rfl (lv_at hl 1 rfl) ?_
        obtain ⟨g6, h⟩ := gd_some _ h
        refine js_iald C hT t5a g6 dX10_character_26 ?_
        refine lv_goto (tgt := 31) hx hb dX10_character_27 (by decide) ?_
        obtain ⟨rfl, rfl⟩ := js_rt h
        exact js_iret C hT hr hk dX10_character_31
set_option maxHeartbeats 4000000 in
set_option maxRecDepth 20000 in
theorem kX10_empty {x0 : Nat} {σ σ0 : js_S} {r0 : Unit} (t0 : ob_ nn 10 x0) (h : fX10_empty fu x0 σ = some (r0, σ0)) : js_M l D B g nn yX10_empty cX10_empty 1 none 0 [.ref (B + x0)] σ (js_QV D B g nn σ0) := by
  refine js_enter (by decide) (Nat.le_of_ble_eq_true rfl) ?_
  intro p e s m args below meth c C hr hk ls hl hT
  have hl : lv_has ls 1 [(0, .ref (B + x0))] := hl
  obtain ⟨hx, hb, hml, hown, ht, hK, hNw⟩ := id C
  obtain ⟨H, eH⟩ : ∃ H, H = s.heap := ⟨_, rfl⟩
  obtain ⟨locs, eL⟩ : ∃ z : List Loc, z = [] := ⟨_, rfl⟩
  rw [← eH, ← eL]
  rw [← eH, ← eL] at hT
  clear eH eL
  unfold fX10_empty at h
  refine lv_aload_n hx hb dX10_empty_0 rfl (lv_at hl 0 rfl) ?_
  refine lv_iconst (v := 0) hx hb dX10_empty_1 (by decide) ?_
  obtain ⟨σ1, e1, h⟩ := lt_some h
  refine js_pI C hT cfX10 t0 2 (by decide) rfl rfl rfl rfl lk_X10_24 dX10_empty_2 (fun H locs hT => ?_)
  rw [e1] at hT
  obtain ⟨rfl, rfl⟩ := js_rt h
  exact js_vret C hT hr hk dX10_empty_5
set_option maxHeartbeats 4000000 in
set_option maxRecDepth 20000 in
theorem kX10_take {x0 : Nat} {x1 : Int32} {σ σ0 : js_S} {r0 : Int32} (t0 : ob_ nn 10 x0) (h : fX10_take fu x0 x1 σ = some (r0, σ0)) : js_M l D B g nn yX10_take cX10_take 2 (some .boolean) 1 [.ref (B + x0), .int x1] σ (js_QI D B g nn r0 σ0) := by
  refine js_enter (by decide) (Nat.le_of_ble_eq_true rfl) ?_
  intro p e s m args below meth c C hr hk ls hl hT
  have hl : lv_has ls 2 [(0, .ref (B + x0)), (1, .int x1)] := hl
  obtain ⟨hx, hb, hml, hown, ht, hK, hNw⟩ := id C
  obtain ⟨H, eH⟩ : ∃ H, H = s.heap := ⟨_, rfl⟩
  obtain ⟨locs, eL⟩ : ∃ z : List Loc, z = [] := ⟨_, rfl⟩
  rw [← eH, ← eL]
  rw [← eH, ← eL] at hT
  clear eH eL
  unfold fX10_take at h
  refine lv_aload_n hx hb dX10_take_0 rfl (lv_at hl 0 rfl) ?_
  refine lv_aload_n hx hb dX10_take_1 rfl (lv_at hl 0 rfl) ?_
  refine js_gI C hT cfX10 t0 3 (by decide) rfl lk_X10_28 dX10_take_2 ?_
  obtain ⟨r1, σ1, hc1, h⟩ := bd_some h
  refine js_backI hT (js_runV C hT cfX10 t0 rfl mfX10_character lk_X10_39 (kX10_character t0 hc1) ⟨Nat.le_of_ble_eq_true rfl, Nat.le_of_ble_eq_true rfl⟩ rfl hl.1 rfl (Nat.le_of_ble_eq_true rfl) ⟨Nat.zero_le _, Nat.zero_le _⟩ dX10_take_5) (fun H locs hT => ?_)
  refine lv_iload_n hx hb dX10_take_8 rfl (lv_at hl 1 rfl) ?_
  refine lv_icmp_eq (tgt := 14) hx hb dX10_take_9 (by decide) (fun c2 => ?_) (fun c2 => ?_)
  · rw [if_pos c2] at h
    refine lv_aload_n hx hb dX10_take_14 rfl (lv_at hl 0 rfl) ?_
    refine lv_dup hx hb dX10_take_15 rfl ?_
    refine js_gI C hT cfX10 t0 3 (by decide) rfl lk_X10_28 dX10_take_16 ?_
    refine lv_iconst (v := 1) hx hb dX10_take_19 (by decide) ?_
    refine lv_iadd hx hb dX10_take_20 ?_
    obtain ⟨σ3, e3, h⟩ := lt_some h
    refine js_pI C hT cfX10 t0 3 (by decide) rfl rfl rfl rfl lk_X10_28 dX10_take_21 (fun H locs hT => ?_)
    rw [e3] at hT
    refine lv_iconst (v := 1) hx hb dX10_take_24 (by decide) ?_
    obtain ⟨rfl, rfl⟩ := js_rt h
    exact js_zret C hT hr hk rfl dX10_take_25
  · rw [if_neg c2] at h
    refine lv_iconst (v := 0) hx hb dX10_take_12 (by decide) ?_
    obtain ⟨rfl, rfl⟩ := js_rt h
    exact js_zret C hT hr hk rfl dX10_take_13
set_option maxHeartbeats 4000000 in
set_option maxRecDepth 20000 in
theorem wX10_readBehindArgument_12b (C : js_C D g p m c cX10_readBehindArgument 3 s args RX10) (hr : meth.sig.returnType = (some .int)) (hk : meth.locks = false) (rc12 : Nat → Int32 → js_S → Option (Int32 × js_S)) (hrc12 : ∀ (x0 : Nat) (x2 : Int32) (σ : js_S) (r0 : Int32) (σ0 : js_S), rc12 x0 x2 σ = some (r0, σ0) → ob_ nn 10 x0 → js_at p l e 2 s m args below meth c D B g nn 12 3 [(0, .ref (B + x0)), (2, .int x2)] [] σ (js_QI D B g nn r0 σ0)) : ∀ (x0 : Nat) (x2 : Int32) (σ : js_S) (r0 : Int32) (σ0 : js_S), fX10_readBehindArgument_12b fu rc12 x0 x2 σ = some (r0, σ0) → ob_ nn 10 x0 → js_at p l e 2 s m args below meth c D B g nn 12 3 [(0, .ref (B + x0)), (2, .int x2)] [] σ (js_QI D B g nn r0 σ0) := by
  obtain ⟨hx, hb, hml, hown, ht, hK, hNw⟩ := id C
  intro x0 x2 σ r0 σ0 h t0 H locs hT ls hl
  unfold fX10_readBehindArgument_12b at h
  refine lv_iload_n hx hb dX10_readBehindArgument_12 rfl (lv_at hl 1 rfl) ?_
  refine lv_if_lt (tgt := 69) hx hb dX10_readBehindArgument_13 (by decide) (fun c1 => ?_) (fun c1 => ?_)
  · rw [if_pos c1] at h
    refine lv_iconst (v := 0) hx hb dX10_readBehindArgument_69 (by decide) ?_
    obtain ⟨rfl, rfl⟩ := js_rt h
    exact js_iret C hT hr hk dX10_readBehindArgument_70
  · rw [if_neg c1] at h
    refine lv_aload_n hx hb dX10_readBehindArgument_16 rfl (lv_at hl 0 rfl) ?_
    refine js_gR C hT cfX10 t0 1 (by decide) (q := 20) rfl (by decide) lk_X10_21 dX10_readBehindArgument_17 (fun t2a => ?_)
    refine lv_iload_n hx hb dX10_readBehindArgument_20 rfl (lv_at hl 1 rfl) ?_
    refine lv_dup2_11 hx hb dX10_readBehindArgument_21 rfl rfl ?_
    obtain ⟨g3, h⟩ := gd_some _ h
    refine js_iald C hT t2a g3 dX10_readBehindArgument_22 ?_
    refine lv_iconst (v := 1) hx hb dX10_readBehindArgument_23 (by decide) ?_
    refine lv_isub hx hb dX10_readBehindArgument_24 ?_
    obtain ⟨g4, h⟩ := gd_some _ h
    obtain ⟨σ4, e4, h⟩ := lt_some h
    refine js_iast C hT t2a g4 dX10_readBehindArgument_25 (fun H locs hT => ?_)
    rw [e4] at hT
    refine lv_aload_n hx hb dX10_readBehindArgument_26 rfl (lv_at hl 0 rfl) ?_
    refine js_gR C hT cfX10 t0 1 (by decide) (q := 20) rfl (by decide) lk_X10_21 dX10_readBehindArgument_27 (fun t5a => ?_)
    refine lv_iload_n hx hb dX10_readBehindArgument_30 rfl (lv_at hl 1 rfl) ?_
    obtain ⟨g6, h⟩ := gd_some _ h
    refine js_iald C hT t5a g6 dX10_readBehindArgument_31 ?_
    refine lv_if_le (tgt := 52) hx hb dX10_readBehindArgument_32 (by decide) (fun c7 => ?_) (fun c7 => ?_)
    · rw [if_pos c7] at h
      refine lv_aload_n hx hb dX10_readBehindArgument_52 rfl (lv_at hl 0 rfl) ?_
      refine lv_bipush (v := 41) hx hb dX10_readBehindArgument_53 (by decide) ?_
      obtain ⟨r8, σ8, hc8, h⟩ := bd_some h
      refine js_backI hT (js_runV C hT cfX10 t0 rfl mfX10_take lk_X10_35 (kX10_take t0 hc8) ⟨Nat.le_of_ble_eq_true rfl, Nat.le_of_ble_eq_true rfl⟩ rfl hl.1 rfl (Nat.le_of_ble_eq_true rfl) ⟨Nat.zero_le _, Nat.zero_le _⟩ dX10_readBehindArgument_55) (fun H locs hT => ?_)
      refine lv_if_ne (tgt := 63) hx hb dX10_readBehindArgument_58 (by decide) (fun c9 => ?_) (fun c9 => ?_)
      · rw [if_neg c9] at h
        refine lv_iinc (v := x2 + (-1)) (lv' := [(2, .int (x2 + (-1))), (0, .ref (B + x0))]) hx hb dX10_readBehindArgument_63 hl (k := 1) rfl rfl (by decide) rfl (fun ls hl => ?_)
        refine lv_goto (tgt := 12) hx hb dX10_readBehindArgument_66 (by decide) ?_
        exact hrc12 _ _ _ _ _ h t0 H locs hT ls (lv_sub hl [1, 0] rfl)
      · rw [if_pos c9] at h
        refine lv_iconst (v := (-1)) hx hb dX10_readBehindArgument_61 (by decide) ?_
        obtain ⟨rfl, rfl⟩ := js_rt h
        exact js_iret C hT hr hk dX10_readBehindArgument_62
    · rw [if_neg c7] at h
      refine lv_aload_n hx hb dX10_readBehindArgument_35 rfl (lv_at hl 0 rfl) ?_
      refine lv_bipush (v := 44) hx hb dX10_readBehindArgument_36 (by decide) ?_
      obtain ⟨r10, σ10, hc10, h⟩ := bd_some h
      refine js_backI hT (js_runV C hT cfX10 t0 rfl mfX10_take lk_X10_35 (kX10_take t0 hc10) ⟨Nat.le_of_ble_eq_true rfl, Nat.le_of_ble_eq_true rfl⟩ rfl hl.1 rfl (Nat.le_of_ble_eq_true rfl) ⟨Nat.zero_le _, Nat.zero_le _⟩ dX10_readBehindArgument_38) (fun H locs hT => ?_)
      refine lv_if_eq (tgt := 50) hx hb dX10_readBehindArgument_41 (by decide) (fun c11 => ?_) (fun c11 => ?_)
      · rw [if_pos c11] at h
        refine lv_iconst (v := (-1)) hx hb dX10_readBehindArgument_50 (by decide) ?_
        obtain ⟨rfl, rfl⟩ := js_rt h
        exact js_iret C hT hr hk dX10_readBehindArgument_51
      · rw [if_neg c11] at h
        refine lv_iload_n hx hb dX10_readBehindArgument_44 rfl (lv_at hl 1 rfl) ?_
        refine lv_iconst (v := 1) hx hb dX10_readBehindArgument_45 (by decide) ?_
        refine lv_iadd hx hb dX10_readBehindArgument_46 ?_
        refine lv_goto (tgt := 51) hx hb dX10_readBehindArgument_47 (by decide) ?_
        obtain ⟨rfl, rfl⟩ := js_rt h
        exact js_iret C hT hr hk dX10_readBehindArgument_51
set_option maxHeartbeats 4000000 in
set_option maxRecDepth 20000 in
theorem wX10_readBehindArgument_12 (C : js_C D g p m c cX10_readBehindArgument 3 s args RX10) (hr : meth.sig.returnType = (some .int)) (hk : meth.locks = false) : ∀ (k : Nat), ∀ (x0 : Nat) (x2 : Int32) (σ : js_S) (r0 : Int32) (σ0 : js_S), fX10_readBehindArgument_12 fu k x0 x2 σ = some (r0, σ0) → ob_ nn 10 x0 → js_at p l e 2 s m args below meth c D B g nn 12 3 [(0, .ref (B + x0)), (2, .int x2)] [] σ (js_QI D B g nn r0 σ0) := by
  intro k
  induction k with
  | zero =>
    intro x0 x2 σ r0 σ0 h
    cases h
  | succ k ih =>
    intro x0 x2 σ r0 σ0 h
    exact wX10_readBehindArgument_12b C hr hk (fX10_readBehindArgument_12 fu k) ih x0 x2 σ r0 σ0 h
set_option maxHeartbeats 4000000 in
set_option maxRecDepth 20000 in
theorem kX10_readBehindArgument {x0 : Nat} {x1 : Int32} {σ σ0 : js_S} {r0 : Int32} (t0 : ob_ nn 10 x0) (h : fX10_readBehindArgument fu x0 x1 σ = some (r0, σ0)) : js_M l D B g nn yX10_readBehindArgument cX10_readBehindArgument 3 (some .int) 2 [.ref (B + x0), .int x1] σ (js_QI D B g nn r0 σ0) := by
  refine js_enter (by decide) (Nat.le_of_ble_eq_true rfl) ?_
  intro p e s m args below meth c C hr hk ls hl hT
  have hl : lv_has ls 3 [(0, .ref (B + x0)), (1, .int x1)] := hl
  obtain ⟨hx, hb, hml, hown, ht, hK, hNw⟩ := id C
  obtain ⟨H, eH⟩ : ∃ H, H = s.heap := ⟨_, rfl⟩
  obtain ⟨locs, eL⟩ : ∃ z : List Loc, z = [] := ⟨_, rfl⟩
  rw [← eH, ← eL]
  rw [← eH, ← eL] at hT
  clear eH eL
  unfold fX10_readBehindArgument at h
  refine lv_iload_n hx hb dX10_readBehindArgument_0 rfl (lv_at hl 1 rfl) ?_
  refine lv_aload_n hx hb dX10_readBehindArgument_1 rfl (lv_at hl 0 rfl) ?_
  refine js_gR C hT cfX10 t0 1 (by decide) (q := 20) rfl (by decide) lk_X10_21 dX10_readBehindArgument_2 (fun t1a => ?_)
  refine js_alen C hT t1a (Or.inl rfl) dX10_readBehindArgument_5 ?_
  refine va_mmin hx hb (hml.trans hl.1.symm) hown (ht _ lk_X10_63) (ht _ js_mmin1) (ht _ js_mth) (ht _ js_mmin2) (Nat.le_of_ble_eq_true rfl) (Nat.le_of_ble_eq_true rfl) (Nat.zero_le _) (Nat.zero_le _) dX10_readBehindArgument_6 ?_
  refine lv_iconst (v := 1) hx hb dX10_readBehindArgument_9 (by decide) ?_
  refine lv_isub hx hb dX10_readBehindArgument_10 ?_
  refine lv_istore_n (lv' := [(2, .int ((if (Int32.ofNat (ln_ (σ.2.2 x0 1))) < x1 then (Int32.ofNat (ln_ (σ.2.2 x0 1))) else x1) - 1)), (0, .ref (B + x0)), (1, .int x1)]) hx hb dX10_readBehindArgument_11 rfl hl (by decide) rfl (fun ls hl => ?_)
  exact wX10_readBehindArgument_12 C hr hk _ _ _ _ _ _ h t0 H locs hT ls (lv_sub hl [1, 0] rfl)
set_option maxHeartbeats 4000000 in
set_option maxRecDepth 20000 in
theorem wX11_isSymbol_32 (C : js_C D g p m c cX11_isSymbol 1 s args RX11) (hr : meth.sig.returnType = (some .boolean)) (hk : meth.locks = false) : ∀  (σ : js_S) (r0 : Int32) (σ0 : js_S), fX11_isSymbol_32 fu  σ = some (r0, σ0) → js_at p l e 2 s m args below meth c D B g nn 32 1 [] [] σ (js_QI D B g nn r0 σ0) := by
  obtain ⟨hx, hb, hml, hown, ht, hK, hNw⟩ := id C
  intro  σ r0 σ0 h H locs hT ls hl
  unfold fX11_isSymbol_32 at h
  refine lv_iconst (v := 1) hx hb dX11_isSymbol_32 (by decide) ?_
  refine lv_goto (tgt := 37) hx hb dX11_isSymbol_33 (by decide) ?_
  obtain ⟨rfl, rfl⟩ := js_rt h
  exact js_zret C hT hr hk rfl dX11_isSymbol_37
set_option maxHeartbeats 4000000 in
set_option maxRecDepth 20000 in
theorem kX11_isSymbol {x0 : Int32} {σ σ0 : js_S} {r0 : Int32} (h : fX11_isSymbol fu x0 σ = some (r0, σ0)) : js_M l D B g nn yX11_isSymbol cX11_isSymbol 1 (some .boolean) 2 [.int x0] σ (js_QI D B g nn r0 σ0) := by
  refine js_enter (by decide) (Nat.le_of_ble_eq_true rfl) ?_
  intro p e s m args below meth c C hr hk ls hl hT
  have hl : lv_has ls 1 [(0, .int x0)] := hl
  obtain ⟨hx, hb, hml, hown, ht, hK, hNw⟩ := id C
  obtain ⟨H, eH⟩ : ∃ H, H = s.heap := ⟨_, rfl⟩
  obtain ⟨locs, eL⟩ : ∃ z : List Loc, z = [] := ⟨_, rfl⟩
  rw [← eH, ← eL]
  rw [← eH, ← eL] at hT
  clear eH eL
  unfold fX11_isSymbol at h
  refine lv_iload_n hx hb dX11_isSymbol_0 rfl (lv_at hl 0 rfl) ?_
  obtain ⟨r1, σ1, hc1, h⟩ := bd_some h
  refine js_backI hT (js_runS C hT mfX11_isFunction lk_X11_343 (kX11_isFunction  hc1) ⟨Nat.le_of_ble_eq_true rfl, Nat.le_of_ble_eq_true rfl⟩ rfl hl.1 rfl (Nat.le_of_ble_eq_true rfl) ⟨Nat.zero_le _, Nat.zero_le _⟩ dX11_isSymbol_1) (fun H locs hT => ?_)
  refine lv_if_ne (tgt := 32) hx hb dX11_isSymbol_4 (by decide) (fun c2 => ?_) (fun c2 => ?_)
  · rw [if_neg c2] at h
    exact wX11_isSymbol_32 C hr hk  _ _ _ h  H locs hT ls (lv_sub hl [] rfl)
  · rw [if_pos c2] at h
    refine lv_iload_n hx hb dX11_isSymbol_7 rfl (lv_at hl 0 rfl) ?_
    obtain ⟨r3, σ3, hc3, h⟩ := bd_some h
    refine js_backI hT (js_runS C hT mfX11_isVariable lk_X11_346 (kX11_isVariable  hc3) ⟨Nat.le_of_ble_eq_true rfl, Nat.le_of_ble_eq_true rfl⟩ rfl hl.1 rfl (Nat.le_of_ble_eq_true rfl) ⟨Nat.zero_le _, Nat.zero_le _⟩ dX11_isSymbol_8) (fun H locs hT => ?_)
    refine lv_if_ne (tgt := 32) hx hb dX11_isSymbol_11 (by decide) (fun c4 => ?_) (fun c4 => ?_)
    · rw [if_neg c4] at h
      exact wX11_isSymbol_32 C hr hk  _ _ _ h  H locs hT ls (lv_sub hl [] rfl)
    · rw [if_pos c4] at h
      refine lv_iload_n hx hb dX11_isSymbol_14 rfl (lv_at hl 0 rfl) ?_
      refine lv_bipush (v := 122) hx hb dX11_isSymbol_15 (by decide) ?_
      refine lv_icmp_eq (tgt := 32) hx hb dX11_isSymbol_17 (by decide) (fun c5 => ?_) (fun c5 => ?_)
      · rw [if_pos c5] at h
        exact wX11_isSymbol_32 C hr hk  _ _ _ h  H locs hT ls (lv_sub hl [] rfl)
      · rw [if_neg c5] at h
        refine lv_iload_n hx hb dX11_isSymbol_20 rfl (lv_at hl 0 rfl) ?_
        refine lv_bipush (v := 115) hx hb dX11_isSymbol_21 (by decide) ?_
        refine lv_icmp_eq (tgt := 32) hx hb dX11_isSymbol_23 (by decide) (fun c6 => ?_) (fun c6 => ?_)
        · rw [if_pos c6] at h
          exact wX11_isSymbol_32 C hr hk  _ _ _ h  H locs hT ls (lv_sub hl [] rfl)
        · rw [if_neg c6] at h
          refine lv_iload_n hx hb dX11_isSymbol_26 rfl (lv_at hl 0 rfl) ?_
          refine lv_bipush (v := 99) hx hb dX11_isSymbol_27 (by decide) ?_
          refine lv_icmp_ne (tgt := 36) hx hb dX11_isSymbol_29 (by decide) (fun c7 => ?_) (fun c7 => ?_)
          · rw [if_neg c7] at h
            refine lv_iconst (v := 0) hx hb dX11_isSymbol_36 (by decide) ?_
            obtain ⟨rfl, rfl⟩ := js_rt h
            exact js_zret C hT hr hk rfl dX11_isSymbol_37
          · rw [if_pos c7] at h
            exact wX11_isSymbol_32 C hr hk  _ _ _ h  H locs hT ls (lv_sub hl [] rfl)
set_option maxHeartbeats 4000000 in
set_option maxRecDepth 20000 in
theorem wX10_readTerm_121 (C : js_C D g p m c cX10_readTerm 7 s args RX10) (hr : meth.sig.returnType = (some .boolean)) (hk : meth.locks = false) (rc9 : Nat → Nat → Nat → Int32 → Int32 → js_S → Option (Int32 × js_S)) (hrc9 : ∀ (x0 : Nat) (x1 : Nat) (x2 : Nat) (x3 : Int32) (x4 : Int32) (σ : js_S) (r0 : Int32) (σ0 : js_S), rc9 x0 x1 x2 x3 x4 σ = some (r0, σ0) → ob_ nn 10 x0 → ob_ nn 8 x1 → ob_ nn 9 x2 → js_at p l e 3 s m args below meth c D B g nn 9 7 [(0, .ref (B + x0)), (1, .ref (B + x1)), (2, .ref (B + x2)), (3, .int x3), (4, .int x4)] [] σ (js_QI D B g nn r0 σ0)) : ∀ (x0 : Nat) (x1 : Nat) (x2 : Nat) (x3 : Int32) (x4 : Int32) (σ : js_S) (r0 : Int32) (σ0 : js_S), fX10_readTerm_121 fu rc9 x0 x1 x2 x3 x4 σ = some (r0, σ0) → ob_ nn 10 x0 → ob_ nn 8 x1 → ob_ nn 9 x2 → js_at p l e 3 s m args below meth c D B g nn 121 7 [(0, .ref (B + x0)), (1, .ref (B + x1)), (2, .ref (B + x2)), (3, .int x3), (4, .int x4)] [] σ (js_QI D B g nn r0 σ0) := by
  obtain ⟨hx, hb, hml, hown, ht, hK, hNw⟩ := id C
  intro x0 x1 x2 x3 x4 σ r0 σ0 h t0 t1 t2 H locs hT ls hl
  unfold fX10_readTerm_121 at h
  refine lv_iinc (v := x4 + 1) (lv' := [(4, .int (x4 + 1)), (0, .ref (B + x0)), (1, .ref (B + x1)), (2, .ref (B + x2)), (3, .int x3)]) hx hb dX10_readTerm_121 hl (k := 4) rfl rfl (by decide) rfl (fun ls hl => ?_)
  refine lv_goto (tgt := 9) hx hb dX10_readTerm_124 (by decide) ?_
  exact hrc9 _ _ _ _ _ _ _ _ h t0 t1 t2 H locs hT ls (lv_sub hl [1, 2, 3, 4, 0] rfl)
set_option maxHeartbeats 4000000 in
set_option maxRecDepth 20000 in
theorem wX10_readTerm_9b (C : js_C D g p m c cX10_readTerm 7 s args RX10) (hr : meth.sig.returnType = (some .boolean)) (hk : meth.locks = false) (rc9 : Nat → Nat → Nat → Int32 → Int32 → js_S → Option (Int32 × js_S)) (hrc9 : ∀ (x0 : Nat) (x1 : Nat) (x2 : Nat) (x3 : Int32) (x4 : Int32) (σ : js_S) (r0 : Int32) (σ0 : js_S), rc9 x0 x1 x2 x3 x4 σ = some (r0, σ0) → ob_ nn 10 x0 → ob_ nn 8 x1 → ob_ nn 9 x2 → js_at p l e 3 s m args below meth c D B g nn 9 7 [(0, .ref (B + x0)), (1, .ref (B + x1)), (2, .ref (B + x2)), (3, .int x3), (4, .int x4)] [] σ (js_QI D B g nn r0 σ0)) : ∀ (x0 : Nat) (x1 : Nat) (x2 : Nat) (x3 : Int32) (x4 : Int32) (σ : js_S) (r0 : Int32) (σ0 : js_S), fX10_readTerm_9b fu rc9 x0 x1 x2 x3 x4 σ = some (r0, σ0) → ob_ nn 10 x0 → ob_ nn 8 x1 → ob_ nn 9 x2 → js_at p l e 3 s m args below meth c D B g nn 9 7 [(0, .ref (B + x0)), (1, .ref (B + x1)), (2, .ref (B + x2)), (3, .int x3), (4, .int x4)] [] σ (js_QI D B g nn r0 σ0) := by
  obtain ⟨hx, hb, hml, hown, ht, hK, hNw⟩ := id C
  intro x0 x1 x2 x3 x4 σ r0 σ0 h t0 t1 t2 H locs hT ls hl
  unfold fX10_readTerm_9b at h
  refine lv_iload hx hb dX10_readTerm_9 (lv_at hl 4 rfl) ?_
  refine lv_aload_n hx hb dX10_readTerm_11 rfl (lv_at hl 0 rfl) ?_
  refine js_gI C hT cfX10 t0 2 (by decide) rfl lk_X10_24 dX10_readTerm_12 ?_
  refine lv_icmp_gt (tgt := 127) hx hb dX10_readTerm_15 (by decide) (fun c1 => ?_) (fun c1 => ?_)
  · rw [if_pos c1] at h
    refine lv_iconst (v := 0) hx hb dX10_readTerm_127 (by decide) ?_
    obtain ⟨rfl, rfl⟩ := js_rt h
    exact js_zret C hT hr hk rfl dX10_readTerm_128
  · rw [if_neg c1] at h
    refine lv_aload_n hx hb dX10_readTerm_18 rfl (lv_at hl 0 rfl) ?_
    refine lv_aload_n hx hb dX10_readTerm_19 rfl (lv_at hl 0 rfl) ?_
    refine js_gI C hT cfX10 t0 3 (by decide) rfl lk_X10_28 dX10_readTerm_20 ?_
    obtain ⟨r2, σ2, hc2, h⟩ := bd_some h
    refine js_backI hT (js_runV C hT cfX10 t0 rfl mfX10_character lk_X10_39 (kX10_character t0 hc2) ⟨Nat.le_of_ble_eq_true rfl, Nat.le_of_ble_eq_true rfl⟩ rfl hl.1 rfl (Nat.le_of_ble_eq_true rfl) ⟨Nat.zero_le _, Nat.zero_le _⟩ dX10_readTerm_23) (fun H locs hT => ?_)
    refine lv_istore (lv' := [(5, .int r2), (0, .ref (B + x0)), (1, .ref (B + x1)), (2, .ref (B + x2)), (3, .int x3), (4, .int x4)]) hx hb dX10_readTerm_26 hl (by decide) rfl (fun ls hl => ?_)
    refine lv_iload hx hb dX10_readTerm_28 (lv_at hl 0 rfl) ?_
    obtain ⟨r3, σ3, hc3, h⟩ := bd_some h
    refine js_backI hT (js_runSN C hT mfX11_isSymbol lk_X10_48 (kX11_isSymbol  hc3) ⟨Nat.le_of_ble_eq_true rfl, Nat.le_of_ble_eq_true rfl⟩ rfl hl.1 rfl (Nat.le_of_ble_eq_true rfl) ⟨Nat.zero_le _, Nat.zero_le _⟩ dX10_readTerm_30) (fun H locs hT => ?_)
    refine lv_if_ne (tgt := 38) hx hb dX10_readTerm_33 (by decide) (fun c4 => ?_) (fun c4 => ?_)
    · rw [if_neg c4] at h
      refine lv_aload_n hx hb dX10_readTerm_38 rfl (lv_at hl 1 rfl) ?_
      refine lv_dup hx hb dX10_readTerm_39 rfl ?_
      refine js_gI C hT cfX10 t0 3 (by decide) rfl lk_X10_28 dX10_readTerm_40 ?_
      refine lv_iconst (v := 1) hx hb dX10_readTerm_43 (by decide) ?_
      refine lv_iadd hx hb dX10_readTerm_44 ?_
      obtain ⟨σ5, e5, h⟩ := lt_some h
      refine js_pI C hT cfX10 t0 3 (by decide) rfl rfl rfl rfl lk_X10_28 dX10_readTerm_45 (fun H locs hT => ?_)
      rw [e5] at hT
      refine lv_aload_n hx hb dX10_readTerm_48 rfl (lv_at hl 3 rfl) ?_
      refine lv_iload hx hb dX10_readTerm_49 (lv_at hl 0 rfl) ?_
      obtain ⟨z6, σ6, hc6, h⟩ := bd_some h
      refine js_backV hT (js_runV C hT cfX9 t2 rfl mfX9_append lk_X10_51 (kX9_append t2 hc6) ⟨Nat.le_of_ble_eq_true rfl, Nat.le_of_ble_eq_true rfl⟩ rfl hl.1 rfl (Nat.le_of_ble_eq_true rfl) ⟨Nat.zero_le _, Nat.zero_le _⟩ dX10_readTerm_51) (fun H locs hT => ?_)
      refine lv_aload_n hx hb dX10_readTerm_54 rfl (lv_at hl 2 rfl) ?_
      refine lv_iload hx hb dX10_readTerm_55 (lv_at hl 0 rfl) ?_
      obtain ⟨r7, σ7, hc7, h⟩ := bd_some h
      refine js_backI hT (js_runV C hT cfX8 t1 rfl mfX8_ofSymbol lk_X10_55 (kX8_ofSymbol t1 hc7) ⟨Nat.le_of_ble_eq_true rfl, Nat.le_of_ble_eq_true rfl⟩ rfl hl.1 rfl (Nat.le_of_ble_eq_true rfl) ⟨Nat.zero_le _, Nat.zero_le _⟩ dX10_readTerm_57) (fun H locs hT => ?_)
      refine lv_istore (lv' := [(6, .int r7), (5, .int r2), (0, .ref (B + x0)), (1, .ref (B + x1)), (2, .ref (B + x2)), (3, .int x3), (4, .int x4)]) hx hb dX10_readTerm_60 hl (by decide) rfl (fun ls hl => ?_)
      refine lv_iload hx hb dX10_readTerm_62 (lv_at hl 0 rfl) ?_
      refine lv_if_le (tgt := 101) hx hb dX10_readTerm_64 (by decide) (fun c8 => ?_) (fun c8 => ?_)
      · rw [if_pos c8] at h
        refine lv_aload_n hx hb dX10_readTerm_101 rfl (lv_at hl 2 rfl) ?_
        refine lv_iload_n hx hb dX10_readTerm_102 rfl (lv_at hl 5 rfl) ?_
        obtain ⟨r9, σ9, hc9, h⟩ := bd_some h
        refine js_backI hT (js_runV C hT cfX10 t0 rfl mfX10_readBehindArgument lk_X10_60 (kX10_readBehindArgument t0 hc9) ⟨Nat.le_of_ble_eq_true rfl, Nat.le_of_ble_eq_true rfl⟩ rfl hl.1 rfl (Nat.le_of_ble_eq_true rfl) ⟨Nat.zero_le _, Nat.zero_le _⟩ dX10_readTerm_103) (fun H locs hT => ?_)
        refine lv_istore_n (lv' := [(3, .int r9), (6, .int r7), (5, .int r2), (0, .ref (B + x0)), (1, .ref (B + x1)), (2, .ref (B + x2)), (4, .int x4)]) hx hb dX10_readTerm_106 rfl hl (by decide) rfl (fun ls hl => ?_)
        refine lv_iload_n hx hb dX10_readTerm_107 rfl (lv_at hl 0 rfl) ?_
        refine lv_if_gt (tgt := 121) hx hb dX10_readTerm_108 (by decide) (fun c10 => ?_) (fun c10 => ?_)
        · rw [if_pos c10] at h
          exact wX10_readTerm_121 C hr hk rc9 hrc9 _ _ _ _ _ _ _ _ h t0 t1 t2 H locs hT ls (lv_sub hl [3, 4, 5, 0, 6] rfl)
        · rw [if_neg c10] at h
          refine lv_iload_n hx hb dX10_readTerm_111 rfl (lv_at hl 0 rfl) ?_
          refine lv_if_ne (tgt := 119) hx hb dX10_readTerm_112 (by decide) (fun c11 => ?_) (fun c11 => ?_)
          · rw [if_neg c11] at h
            refine lv_iconst (v := 0) hx hb dX10_readTerm_119 (by decide) ?_
            obtain ⟨rfl, rfl⟩ := js_rt h
            exact js_zret C hT hr hk rfl dX10_readTerm_120
          · rw [if_pos c11] at h
            refine lv_iconst (v := 1) hx hb dX10_readTerm_115 (by decide) ?_
            refine lv_goto (tgt := 120) hx hb dX10_readTerm_116 (by decide) ?_
            obtain ⟨rfl, rfl⟩ := js_rt h
            exact js_zret C hT hr hk rfl dX10_readTerm_120
      · rw [if_neg c8] at h
        refine lv_aload_n hx hb dX10_readTerm_67 rfl (lv_at hl 2 rfl) ?_
        refine lv_bipush (v := 40) hx hb dX10_readTerm_68 (by decide) ?_
        obtain ⟨r12, σ12, hc12, h⟩ := bd_some h
        refine js_backI hT (js_runV C hT cfX10 t0 rfl mfX10_take lk_X10_35 (kX10_take t0 hc12) ⟨Nat.le_of_ble_eq_true rfl, Nat.le_of_ble_eq_true rfl⟩ rfl hl.1 rfl (Nat.le_of_ble_eq_true rfl) ⟨Nat.zero_le _, Nat.zero_le _⟩ dX10_readTerm_70) (fun H locs hT => ?_)
        refine lv_if_eq (tgt := 85) hx hb dX10_readTerm_73 (by decide) (fun c13 => ?_) (fun c13 => ?_)
        · rw [if_pos c13] at h
          refine lv_iconst (v := 0) hx hb dX10_readTerm_85 (by decide) ?_
          obtain ⟨rfl, rfl⟩ := js_rt h
          exact js_zret C hT hr hk rfl dX10_readTerm_86
        · rw [if_neg c13] at h
          refine lv_iload_n hx hb dX10_readTerm_76 rfl (lv_at hl 5 rfl) ?_
          refine lv_aload_n hx hb dX10_readTerm_77 rfl (lv_at hl 2 rfl) ?_
          refine js_gR C hT cfX10 t0 1 (by decide) (q := 20) rfl (by decide) lk_X10_21 dX10_readTerm_78 (fun t14a => ?_)
          refine js_alen C hT t14a (Or.inl rfl) dX10_readTerm_81 ?_
          refine lv_icmp_lt (tgt := 87) hx hb dX10_readTerm_82 (by decide) (fun c15 => ?_) (fun c15 => ?_)
          · rw [if_pos c15] at h
            refine lv_aload_n hx hb dX10_readTerm_87 rfl (lv_at hl 2 rfl) ?_
            refine js_gR C hT cfX10 t0 1 (by decide) (q := 20) rfl (by decide) lk_X10_21 dX10_readTerm_88 (fun t16a => ?_)
            refine lv_iload_n hx hb dX10_readTerm_91 rfl (lv_at hl 5 rfl) ?_
            refine lv_iload hx hb dX10_readTerm_92 (lv_at hl 0 rfl) ?_
            obtain ⟨g17, h⟩ := gd_some _ h
            obtain ⟨σ17, e17, h⟩ := lt_some h
            refine js_iast C hT t16a g17 dX10_readTerm_94 (fun H locs hT => ?_)
            rw [e17] at hT
            refine lv_iinc (v := x3 + 1) (lv' := [(3, .int (x3 + 1)), (6, .int r7), (5, .int r2), (0, .ref (B + x0)), (1, .ref (B + x1)), (2, .ref (B + x2)), (4, .int x4)]) hx hb dX10_readTerm_95 hl (k := 5) rfl rfl (by decide) rfl (fun ls hl => ?_)
            refine lv_goto (tgt := 121) hx hb dX10_readTerm_98 (by decide) ?_
            exact wX10_readTerm_121 C hr hk rc9 hrc9 _ _ _ _ _ _ _ _ h t0 t1 t2 H locs hT ls (lv_sub hl [3, 4, 5, 0, 6] rfl)
          · rw [if_neg c15] at h
            refine lv_iconst (v := 0) hx hb dX10_readTerm_85 (by decide) ?_
            obtain ⟨rfl, rfl⟩ := js_rt h
            exact js_zret C hT hr hk rfl dX10_readTerm_86
    · rw [if_pos c4] at h
      refine lv_iconst (v := 0) hx hb dX10_readTerm_36 (by decide) ?_
      obtain ⟨rfl, rfl⟩ := js_rt h
      exact js_zret C hT hr hk rfl dX10_readTerm_37
set_option maxHeartbeats 4000000 in
set_option maxRecDepth 20000 in
theorem wX10_readTerm_9 (C : js_C D g p m c cX10_readTerm 7 s args RX10) (hr : meth.sig.returnType = (some .boolean)) (hk : meth.locks = false) : ∀ (k : Nat), ∀ (x0 : Nat) (x1 : Nat) (x2 : Nat) (x3 : Int32) (x4 : Int32) (σ : js_S) (r0 : Int32) (σ0 : js_S), fX10_readTerm_9 fu k x0 x1 x2 x3 x4 σ = some (r0, σ0) → ob_ nn 10 x0 → ob_ nn 8 x1 → ob_ nn 9 x2 → js_at p l e 3 s m args below meth c D B g nn 9 7 [(0, .ref (B + x0)), (1, .ref (B + x1)), (2, .ref (B + x2)), (3, .int x3), (4, .int x4)] [] σ (js_QI D B g nn r0 σ0) := by
  intro k
  induction k with
  | zero =>
    intro x0 x1 x2 x3 x4 σ r0 σ0 h
    cases h
  | succ k ih =>
    intro x0 x1 x2 x3 x4 σ r0 σ0 h
    exact wX10_readTerm_9b C hr hk (fX10_readTerm_9 fu k) ih x0 x1 x2 x3 x4 σ r0 σ0 h
set_option maxHeartbeats 4000000 in
set_option maxRecDepth 20000 in
theorem kX10_readTerm {x0 : Nat} {x1 : Nat} {x2 : Nat} {σ σ0 : js_S} {r0 : Int32} (t0 : ob_ nn 10 x0) (t1 : ob_ nn 8 x1) (t2 : ob_ nn 9 x2) (h : fX10_readTerm fu x0 x1 x2 σ = some (r0, σ0)) : js_M l D B g nn yX10_readTerm cX10_readTerm 7 (some .boolean) 3 [.ref (B + x0), .ref (B + x1), .ref (B + x2)] σ (js_QI D B g nn r0 σ0) := by
  refine js_enter (by decide) (Nat.le_of_ble_eq_true rfl) ?_
  intro p e s m args below meth c C hr hk ls hl hT
  have hl : lv_has ls 7 [(0, .ref (B + x0)), (1, .ref (B + x1)), (2, .ref (B + x2))] := hl
  obtain ⟨hx, hb, hml, hown, ht, hK, hNw⟩ := id C
  obtain ⟨H, eH⟩ : ∃ H, H = s.heap := ⟨_, rfl⟩
  obtain ⟨locs, eL⟩ : ∃ z : List Loc, z = [] := ⟨_, rfl⟩
  rw [← eH, ← eL]
  rw [← eH, ← eL] at hT
  clear eH eL
  unfold fX10_readTerm at h
  refine lv_iconst (v := 0) hx hb dX10_readTerm_0 (by decide) ?_
  refine lv_istore_n (lv' := [(3, .int 0), (0, .ref (B + x0)), (1, .ref (B + x1)), (2, .ref (B + x2))]) hx hb dX10_readTerm_1 rfl hl (by decide) rfl (fun ls hl => ?_)
  refine lv_aload_n hx hb dX10_readTerm_2 rfl (lv_at hl 3 rfl) ?_
  obtain ⟨z1, σ1, hc1, h⟩ := bd_some h
  refine js_backV hT (js_runV C hT cfX9 t2 rfl mfX9_empty lk_X10_43 (kX9_empty t2 hc1) ⟨Nat.le_of_ble_eq_true rfl, Nat.le_of_ble_eq_true rfl⟩ rfl hl.1 rfl (Nat.le_of_ble_eq_true rfl) ⟨Nat.zero_le _, Nat.zero_le _⟩ dX10_readTerm_3) (fun H locs hT => ?_)
  refine lv_iconst (v := 0) hx hb dX10_readTerm_6 (by decide) ?_
  refine lv_istore (lv' := [(4, .int 0), (3, .int 0), (0, .ref (B + x0)), (1, .ref (B + x1)), (2, .ref (B + x2))]) hx hb dX10_readTerm_7 hl (by decide) rfl (fun ls hl => ?_)
  exact wX10_readTerm_9 C hr hk _ _ _ _ _ _ _ _ _ h t0 t1 t2 H locs hT ls (lv_sub hl [2, 3, 4, 1, 0] rfl)
set_option maxHeartbeats 4000000 in
set_option maxRecDepth 20000 in
theorem kX10_readRule {x0 : Nat} {x1 : Nat} {x2 : Nat} {x3 : Nat} {σ σ0 : js_S} {r0 : Int32} (t0 : ob_ nn 10 x0) (t1 : ob_ nn 8 x1) (t2 : ob_ nn 9 x2) (t3 : ob_ nn 9 x3) (h : fX10_readRule fu x0 x1 x2 x3 σ = some (r0, σ0)) : js_M l D B g nn yX10_readRule cX10_readRule 4 (some .boolean) 4 [.ref (B + x0), .ref (B + x1), .ref (B + x2), .ref (B + x3)] σ (js_QI D B g nn r0 σ0) := by
  refine js_enter (by decide) (Nat.le_of_ble_eq_true rfl) ?_
  intro p e s m args below meth c C hr hk ls hl hT
  have hl : lv_has ls 4 [(0, .ref (B + x0)), (1, .ref (B + x1)), (2, .ref (B + x2)), (3, .ref (B + x3))] := hl
  obtain ⟨hx, hb, hml, hown, ht, hK, hNw⟩ := id C
  obtain ⟨H, eH⟩ : ∃ H, H = s.heap := ⟨_, rfl⟩
  obtain ⟨locs, eL⟩ : ∃ z : List Loc, z = [] := ⟨_, rfl⟩
  rw [← eH, ← eL]
  rw [← eH, ← eL] at hT
  clear eH eL
  unfold fX10_readRule at h
  refine lv_aload_n hx hb dX10_readRule_0 rfl (lv_at hl 0 rfl) ?_
  refine lv_iconst (v := 0) hx hb dX10_readRule_1 (by decide) ?_
  obtain ⟨σ1, e1, h⟩ := lt_some h
  refine js_pI C hT cfX10 t0 3 (by decide) rfl rfl rfl rfl lk_X10_28 dX10_readRule_2 (fun H locs hT => ?_)
  rw [e1] at hT
  refine lv_aload_n hx hb dX10_readRule_5 rfl (lv_at hl 0 rfl) ?_
  refine lv_aload_n hx hb dX10_readRule_6 rfl (lv_at hl 1 rfl) ?_
  refine lv_aload_n hx hb dX10_readRule_7 rfl (lv_at hl 2 rfl) ?_
  obtain ⟨r2, σ2, hc2, h⟩ := bd_some h
  refine js_backI hT (js_runV C hT cfX10 t0 rfl mfX10_readTerm lk_X10_31 (kX10_readTerm t0 t1 t2 hc2) ⟨Nat.le_of_ble_eq_true rfl, Nat.le_of_ble_eq_true rfl⟩ rfl hl.1 rfl (Nat.le_of_ble_eq_true rfl) ⟨Nat.zero_le _, Nat.zero_le _⟩ dX10_readRule_8) (fun H locs hT => ?_)
  refine lv_if_eq (tgt := 47) hx hb dX10_readRule_11 (by decide) (fun c3 => ?_) (fun c3 => ?_)
  · rw [if_pos c3] at h
    refine lv_iconst (v := 0) hx hb dX10_readRule_47 (by decide) ?_
    obtain ⟨rfl, rfl⟩ := js_rt h
    exact js_zret C hT hr hk rfl dX10_readRule_48
  · rw [if_neg c3] at h
    refine lv_aload_n hx hb dX10_readRule_14 rfl (lv_at hl 0 rfl) ?_
    refine lv_bipush (v := 62) hx hb dX10_readRule_15 (by decide) ?_
    obtain ⟨r4, σ4, hc4, h⟩ := bd_some h
    refine js_backI hT (js_runV C hT cfX10 t0 rfl mfX10_take lk_X10_35 (kX10_take t0 hc4) ⟨Nat.le_of_ble_eq_true rfl, Nat.le_of_ble_eq_true rfl⟩ rfl hl.1 rfl (Nat.le_of_ble_eq_true rfl) ⟨Nat.zero_le _, Nat.zero_le _⟩ dX10_readRule_17) (fun H locs hT => ?_)
    refine lv_if_eq (tgt := 47) hx hb dX10_readRule_20 (by decide) (fun c5 => ?_) (fun c5 => ?_)
    · rw [if_pos c5] at h
      refine lv_iconst (v := 0) hx hb dX10_readRule_47 (by decide) ?_
      obtain ⟨rfl, rfl⟩ := js_rt h
      exact js_zret C hT hr hk rfl dX10_readRule_48
    · rw [if_neg c5] at h
      refine lv_aload_n hx hb dX10_readRule_23 rfl (lv_at hl 0 rfl) ?_
      refine lv_aload_n hx hb dX10_readRule_24 rfl (lv_at hl 1 rfl) ?_
      refine lv_aload_n hx hb dX10_readRule_25 rfl (lv_at hl 3 rfl) ?_
      obtain ⟨r6, σ6, hc6, h⟩ := bd_some h
      refine js_backI hT (js_runV C hT cfX10 t0 rfl mfX10_readTerm lk_X10_31 (kX10_readTerm t0 t1 t3 hc6) ⟨Nat.le_of_ble_eq_true rfl, Nat.le_of_ble_eq_true rfl⟩ rfl hl.1 rfl (Nat.le_of_ble_eq_true rfl) ⟨Nat.zero_le _, Nat.zero_le _⟩ dX10_readRule_26) (fun H locs hT => ?_)
      refine lv_if_eq (tgt := 47) hx hb dX10_readRule_29 (by decide) (fun c7 => ?_) (fun c7 => ?_)
      · rw [if_pos c7] at h
        refine lv_iconst (v := 0) hx hb dX10_readRule_47 (by decide) ?_
        obtain ⟨rfl, rfl⟩ := js_rt h
        exact js_zret C hT hr hk rfl dX10_readRule_48
      · rw [if_neg c7] at h
        refine lv_aload_n hx hb dX10_readRule_32 rfl (lv_at hl 0 rfl) ?_
        refine js_gI C hT cfX10 t0 3 (by decide) rfl lk_X10_28 dX10_readRule_33 ?_
        refine lv_aload_n hx hb dX10_readRule_36 rfl (lv_at hl 0 rfl) ?_
        refine js_gI C hT cfX10 t0 2 (by decide) rfl lk_X10_24 dX10_readRule_37 ?_
        refine lv_icmp_ne (tgt := 47) hx hb dX10_readRule_40 (by decide) (fun c8 => ?_) (fun c8 => ?_)
        · rw [if_neg c8] at h
          refine lv_iconst (v := 0) hx hb dX10_readRule_47 (by decide) ?_
          obtain ⟨rfl, rfl⟩ := js_rt h
          exact js_zret C hT hr hk rfl dX10_readRule_48
        · rw [if_pos c8] at h
          refine lv_iconst (v := 1) hx hb dX10_readRule_43 (by decide) ?_
          refine lv_goto (tgt := 48) hx hb dX10_readRule_44 (by decide) ?_
          obtain ⟨rfl, rfl⟩ := js_rt h
          exact js_zret C hT hr hk rfl dX10_readRule_48
set_option maxHeartbeats 4000000 in
set_option maxRecDepth 20000 in
theorem kX10_readWholeTerm {x0 : Nat} {x1 : Nat} {x2 : Nat} {σ σ0 : js_S} {r0 : Int32} (t0 : ob_ nn 10 x0) (t1 : ob_ nn 8 x1) (t2 : ob_ nn 9 x2) (h : fX10_readWholeTerm fu x0 x1 x2 σ = some (r0, σ0)) : js_M l D B g nn yX10_readWholeTerm cX10_readWholeTerm 3 (some .boolean) 4 [.ref (B + x0), .ref (B + x1), .ref (B + x2)] σ (js_QI D B g nn r0 σ0) := by
  refine js_enter (by decide) (Nat.le_of_ble_eq_true rfl) ?_
  intro p e s m args below meth c C hr hk ls hl hT
  have hl : lv_has ls 3 [(0, .ref (B + x0)), (1, .ref (B + x1)), (2, .ref (B + x2))] := hl
  obtain ⟨hx, hb, hml, hown, ht, hK, hNw⟩ := id C
  obtain ⟨H, eH⟩ : ∃ H, H = s.heap := ⟨_, rfl⟩
  obtain ⟨locs, eL⟩ : ∃ z : List Loc, z = [] := ⟨_, rfl⟩
  rw [← eH, ← eL]
  rw [← eH, ← eL] at hT
  clear eH eL
  unfold fX10_readWholeTerm at h
  refine lv_aload_n hx hb dX10_readWholeTerm_0 rfl (lv_at hl 0 rfl) ?_
  refine lv_iconst (v := 0) hx hb dX10_readWholeTerm_1 (by decide) ?_
  obtain ⟨σ1, e1, h⟩ := lt_some h
  refine js_pI C hT cfX10 t0 3 (by decide) rfl rfl rfl rfl lk_X10_28 dX10_readWholeTerm_2 (fun H locs hT => ?_)
  rw [e1] at hT
  refine lv_aload_n hx hb dX10_readWholeTerm_5 rfl (lv_at hl 0 rfl) ?_
  refine lv_aload_n hx hb dX10_readWholeTerm_6 rfl (lv_at hl 1 rfl) ?_
  refine lv_aload_n hx hb dX10_readWholeTerm_7 rfl (lv_at hl 2 rfl) ?_
  obtain ⟨r2, σ2, hc2, h⟩ := bd_some h
  refine js_backI hT (js_runV C hT cfX10 t0 rfl mfX10_readTerm lk_X10_31 (kX10_readTerm t0 t1 t2 hc2) ⟨Nat.le_of_ble_eq_true rfl, Nat.le_of_ble_eq_true rfl⟩ rfl hl.1 rfl (Nat.le_of_ble_eq_true rfl) ⟨Nat.zero_le _, Nat.zero_le _⟩ dX10_readWholeTerm_8) (fun H locs hT => ?_)
  refine lv_if_eq (tgt := 29) hx hb dX10_readWholeTerm_11 (by decide) (fun c3 => ?_) (fun c3 => ?_)
  · rw [if_pos c3] at h
    refine lv_iconst (v := 0) hx hb dX10_readWholeTerm_29 (by decide) ?_
    obtain ⟨rfl, rfl⟩ := js_rt h
    exact js_zret C hT hr hk rfl dX10_readWholeTerm_30
  · rw [if_neg c3] at h
    refine lv_aload_n hx hb dX10_readWholeTerm_14 rfl (lv_at hl 0 rfl) ?_
    refine js_gI C hT cfX10 t0 3 (by decide) rfl lk_X10_28 dX10_readWholeTerm_15 ?_
    refine lv_aload_n hx hb dX10_readWholeTerm_18 rfl (lv_at hl 0 rfl) ?_
    refine js_gI C hT cfX10 t0 2 (by decide) rfl lk_X10_24 dX10_readWholeTerm_19 ?_
    refine lv_icmp_ne (tgt := 29) hx hb dX10_readWholeTerm_22 (by decide) (fun c4 => ?_) (fun c4 => ?_)
    · rw [if_neg c4] at h
      refine lv_iconst (v := 0) hx hb dX10_readWholeTerm_29 (by decide) ?_
      obtain ⟨rfl, rfl⟩ := js_rt h
      exact js_zret C hT hr hk rfl dX10_readWholeTerm_30
    · rw [if_pos c4] at h
      refine lv_iconst (v := 1) hx hb dX10_readWholeTerm_25 (by decide) ?_
      refine lv_goto (tgt := 30) hx hb dX10_readWholeTerm_26 (by decide) ?_
      obtain ⟨rfl, rfl⟩ := js_rt h
      exact js_zret C hT hr hk rfl dX10_readWholeTerm_30
set_option maxHeartbeats 4000000 in
set_option maxRecDepth 20000 in
theorem wX10_writeBehindArgument_12b (C : js_C D g p m c cX10_writeBehindArgument 3 s args RX10) (hr : meth.sig.returnType = (some .int)) (hk : meth.locks = false) (rc12 : Nat → Int32 → js_S → Option (Int32 × js_S)) (hrc12 : ∀ (x0 : Nat) (x2 : Int32) (σ : js_S) (r0 : Int32) (σ0 : js_S), rc12 x0 x2 σ = some (r0, σ0) → ob_ nn 10 x0 → js_at p l e 1 s m args below meth c D B g nn 12 3 [(0, .ref (B + x0)), (2, .int x2)] [] σ (js_QI D B g nn r0 σ0)) : ∀ (x0 : Nat) (x2 : Int32) (σ : js_S) (r0 : Int32) (σ0 : js_S), fX10_writeBehindArgument_12b fu rc12 x0 x2 σ = some (r0, σ0) → ob_ nn 10 x0 → js_at p l e 1 s m args below meth c D B g nn 12 3 [(0, .ref (B + x0)), (2, .int x2)] [] σ (js_QI D B g nn r0 σ0) := by
  obtain ⟨hx, hb, hml, hown, ht, hK, hNw⟩ := id C
  intro x0 x2 σ r0 σ0 h t0 H locs hT ls hl
  unfold fX10_writeBehindArgument_12b at h
  refine lv_iload_n hx hb dX10_writeBehindArgument_12 rfl (lv_at hl 1 rfl) ?_
  refine lv_if_lt (tgt := 59) hx hb dX10_writeBehindArgument_13 (by decide) (fun c1 => ?_) (fun c1 => ?_)
  · rw [if_pos c1] at h
    refine lv_iconst (v := 0) hx hb dX10_writeBehindArgument_59 (by decide) ?_
    obtain ⟨rfl, rfl⟩ := js_rt h
    exact js_iret C hT hr hk dX10_writeBehindArgument_60
  · rw [if_neg c1] at h
    refine lv_aload_n hx hb dX10_writeBehindArgument_16 rfl (lv_at hl 0 rfl) ?_
    refine js_gR C hT cfX10 t0 1 (by decide) (q := 20) rfl (by decide) lk_X10_21 dX10_writeBehindArgument_17 (fun t2a => ?_)
    refine lv_iload_n hx hb dX10_writeBehindArgument_20 rfl (lv_at hl 1 rfl) ?_
    refine lv_dup2_11 hx hb dX10_writeBehindArgument_21 rfl rfl ?_
    obtain ⟨g3, h⟩ := gd_some _ h
    refine js_iald C hT t2a g3 dX10_writeBehindArgument_22 ?_
    refine lv_iconst (v := 1) hx hb dX10_writeBehindArgument_23 (by decide) ?_
    refine lv_isub hx hb dX10_writeBehindArgument_24 ?_
    obtain ⟨g4, h⟩ := gd_some _ h
    obtain ⟨σ4, e4, h⟩ := lt_some h
    refine js_iast C hT t2a g4 dX10_writeBehindArgument_25 (fun H locs hT => ?_)
    rw [e4] at hT
    refine lv_aload_n hx hb dX10_writeBehindArgument_26 rfl (lv_at hl 0 rfl) ?_
    refine js_gR C hT cfX10 t0 1 (by decide) (q := 20) rfl (by decide) lk_X10_21 dX10_writeBehindArgument_27 (fun t5a => ?_)
    refine lv_iload_n hx hb dX10_writeBehindArgument_30 rfl (lv_at hl 1 rfl) ?_
    obtain ⟨g6, h⟩ := gd_some _ h
    refine js_iald C hT t5a g6 dX10_writeBehindArgument_31 ?_
    refine lv_if_le (tgt := 46) hx hb dX10_writeBehindArgument_32 (by decide) (fun c7 => ?_) (fun c7 => ?_)
    · rw [if_pos c7] at h
      refine lv_aload_n hx hb dX10_writeBehindArgument_46 rfl (lv_at hl 0 rfl) ?_
      refine lv_bipush (v := 41) hx hb dX10_writeBehindArgument_47 (by decide) ?_
      obtain ⟨r8, σ8, hc8, h⟩ := bd_some h
      refine js_backI hT (js_runV C hT cfX10 t0 rfl mfX10_append lk_X10_72 (kX10_append t0 hc8) ⟨Nat.le_of_ble_eq_true rfl, Nat.le_of_ble_eq_true rfl⟩ rfl hl.1 rfl (Nat.le_of_ble_eq_true rfl) ⟨Nat.zero_le _, Nat.zero_le _⟩ dX10_writeBehindArgument_49) (fun H locs hT => ?_)
      refine lv_pop hx hb dX10_writeBehindArgument_52 rfl ?_
      refine lv_iinc (v := x2 + (-1)) (lv' := [(2, .int (x2 + (-1))), (0, .ref (B + x0))]) hx hb dX10_writeBehindArgument_53 hl (k := 1) rfl rfl (by decide) rfl (fun ls hl => ?_)
      refine lv_goto (tgt := 12) hx hb dX10_writeBehindArgument_56 (by decide) ?_
      exact hrc12 _ _ _ _ _ h t0 H locs hT ls (lv_sub hl [1, 0] rfl)
    · rw [if_neg c7] at h
      refine lv_aload_n hx hb dX10_writeBehindArgument_35 rfl (lv_at hl 0 rfl) ?_
      refine lv_bipush (v := 44) hx hb dX10_writeBehindArgument_36 (by decide) ?_
      obtain ⟨r9, σ9, hc9, h⟩ := bd_some h
      refine js_backI hT (js_runV C hT cfX10 t0 rfl mfX10_append lk_X10_72 (kX10_append t0 hc9) ⟨Nat.le_of_ble_eq_true rfl, Nat.le_of_ble_eq_true rfl⟩ rfl hl.1 rfl (Nat.le_of_ble_eq_true rfl) ⟨Nat.zero_le _, Nat.zero_le _⟩ dX10_writeBehindArgument_38) (fun H locs hT => ?_)
      refine lv_pop hx hb dX10_writeBehindArgument_41 rfl ?_
      refine lv_iload_n hx hb dX10_writeBehindArgument_42 rfl (lv_at hl 1 rfl) ?_
      refine lv_iconst (v := 1) hx hb dX10_writeBehindArgument_43 (by decide) ?_
      refine lv_iadd hx hb dX10_writeBehindArgument_44 ?_
      obtain ⟨rfl, rfl⟩ := js_rt h
      exact js_iret C hT hr hk dX10_writeBehindArgument_45
set_option maxHeartbeats 4000000 in
set_option maxRecDepth 20000 in
theorem wX10_writeBehindArgument_12 (C : js_C D g p m c cX10_writeBehindArgument 3 s args RX10) (hr : meth.sig.returnType = (some .int)) (hk : meth.locks = false) : ∀ (k : Nat), ∀ (x0 : Nat) (x2 : Int32) (σ : js_S) (r0 : Int32) (σ0 : js_S), fX10_writeBehindArgument_12 fu k x0 x2 σ = some (r0, σ0) → ob_ nn 10 x0 → js_at p l e 1 s m args below meth c D B g nn 12 3 [(0, .ref (B + x0)), (2, .int x2)] [] σ (js_QI D B g nn r0 σ0) := by
  intro k
  induction k with
  | zero =>
    intro x0 x2 σ r0 σ0 h
    cases h
  | succ k ih =>
    intro x0 x2 σ r0 σ0 h
    exact wX10_writeBehindArgument_12b C hr hk (fX10_writeBehindArgument_12 fu k) ih x0 x2 σ r0 σ0 h
set_option maxHeartbeats 4000000 in
set_option maxRecDepth 20000 in
theorem kX10_writeBehindArgument {x0 : Nat} {x1 : Int32} {σ σ0 : js_S} {r0 : Int32} (t0 : ob_ nn 10 x0) (h : fX10_writeBehindArgument fu x0 x1 σ = some (r0, σ0)) : js_M l D B g nn yX10_writeBehindArgument cX10_writeBehindArgument 3 (some .int) 1 [.ref (B + x0), .int x1] σ (js_QI D B g nn r0 σ0) := by
  refine js_enter (by decide) (Nat.le_of_ble_eq_true rfl) ?_
  intro p e s m args below meth c C hr hk ls hl hT
  have hl : lv_has ls 3 [(0, .ref (B + x0)), (1, .int x1)] := hl
  obtain ⟨hx, hb, hml, hown, ht, hK, hNw⟩ := id C
  obtain ⟨H, eH⟩ : ∃ H, H = s.heap := ⟨_, rfl⟩
  obtain ⟨locs, eL⟩ : ∃ z : List Loc, z = [] := ⟨_, rfl⟩
  rw [← eH, ← eL]
  rw [← eH, ← eL] at hT
  clear eH eL
  unfold fX10_writeBehindArgument at h
  refine lv_iload_n hx hb dX10_writeBehindArgument_0 rfl (lv_at hl 1 rfl) ?_
  refine lv_aload_n hx hb dX10_writeBehindArgument_1 rfl (lv_at hl 0 rfl) ?_
  refine js_gR C hT cfX10 t0 1 (by decide) (q := 20) rfl (by decide) lk_X10_21 dX10_writeBehindArgument_2 (fun t1a => ?_)
  refine js_alen C hT t1a (Or.inl rfl) dX10_writeBehindArgument_5 ?_
  refine va_mmin hx hb (hml.trans hl.1.symm) hown (ht _ lk_X10_63) (ht _ js_mmin1) (ht _ js_mth) (ht _ js_mmin2) (Nat.le_of_ble_eq_true rfl) (Nat.le_of_ble_eq_true rfl) (Nat.zero_le _) (Nat.zero_le _) dX10_writeBehindArgument_6 ?_
  refine lv_iconst (v := 1) hx hb dX10_writeBehindArgument_9 (by decide) ?_
  refine lv_isub hx hb dX10_writeBehindArgument_10 ?_
  refine lv_istore_n (lv' := [(2, .int ((if (Int32.ofNat (ln_ (σ.2.2 x0 1))) < x1 then (Int32.ofNat (ln_ (σ.2.2 x0 1))) else x1) - 1)), (0, .ref (B + x0)), (1, .int x1)]) hx hb dX10_writeBehindArgument_11 rfl hl (by decide) rfl (fun ls hl => ?_)
  exact wX10_writeBehindArgument_12 C hr hk _ _ _ _ _ _ h t0 H locs hT ls (lv_sub hl [1, 0] rfl)
set_option maxHeartbeats 4000000 in
set_option maxRecDepth 20000 in
theorem wX10_write_83 (C : js_C D g p m c cX10_write 7 s args RX10) (hr : meth.sig.returnType = none) (hk : meth.locks = false) (rc10 : Nat → Nat → Nat → Int32 → Int32 → js_S → Option (Unit × js_S)) (hrc10 : ∀ (x0 : Nat) (x1 : Nat) (x2 : Nat) (x3 : Int32) (x4 : Int32) (σ : js_S) (r0 : Unit) (σ0 : js_S), rc10 x0 x1 x2 x3 x4 σ = some (r0, σ0) → ob_ nn 10 x0 → ob_ nn 8 x1 → ob_ nn 9 x2 → js_at p l e 2 s m args below meth c D B g nn 10 7 [(0, .ref (B + x0)), (1, .ref (B + x1)), (2, .ref (B + x2)), (3, .int x3), (4, .int x4)] [] σ (js_QV D B g nn σ0)) : ∀ (x0 : Nat) (x1 : Nat) (x2 : Nat) (x3 : Int32) (x4 : Int32) (σ : js_S) (r0 : Unit) (σ0 : js_S), fX10_write_83 fu rc10 x0 x1 x2 x3 x4 σ = some (r0, σ0) → ob_ nn 10 x0 → ob_ nn 8 x1 → ob_ nn 9 x2 → js_at p l e 2 s m args below meth c D B g nn 83 7 [(0, .ref (B + x0)), (1, .ref (B + x1)), (2, .ref (B + x2)), (3, .int x3), (4, .int x4)] [] σ (js_QV D B g nn σ0) := by
  obtain ⟨hx, hb, hml, hown, ht, hK, hNw⟩ := id C
  intro x0 x1 x2 x3 x4 σ r0 σ0 h t0 t1 t2 H locs hT ls hl
  unfold fX10_write_83 at h
  refine lv_iinc (v := x4 + 1) (lv' := [(4, .int (x4 + 1)), (0, .ref (B + x0)), (1, .ref (B + x1)), (2, .ref (B + x2)), (3, .int x3)]) hx hb dX10_write_83 hl (k := 4) rfl rfl (by decide) rfl (fun ls hl => ?_)
  refine lv_goto (tgt := 10) hx hb dX10_write_86 (by decide) ?_
  exact hrc10 _ _ _ _ _ _ _ _ h t0 t1 t2 H locs hT ls (lv_sub hl [1, 2, 3, 4, 0] rfl)
set_option maxHeartbeats 4000000 in
set_option maxRecDepth 20000 in
theorem wX10_write_77 (C : js_C D g p m c cX10_write 7 s args RX10) (hr : meth.sig.returnType = none) (hk : meth.locks = false) (rc10 : Nat → Nat → Nat → Int32 → Int32 → js_S → Option (Unit × js_S)) (hrc10 : ∀ (x0 : Nat) (x1 : Nat) (x2 : Nat) (x3 : Int32) (x4 : Int32) (σ : js_S) (r0 : Unit) (σ0 : js_S), rc10 x0 x1 x2 x3 x4 σ = some (r0, σ0) → ob_ nn 10 x0 → ob_ nn 8 x1 → ob_ nn 9 x2 → js_at p l e 2 s m args below meth c D B g nn 10 7 [(0, .ref (B + x0)), (1, .ref (B + x1)), (2, .ref (B + x2)), (3, .int x3), (4, .int x4)] [] σ (js_QV D B g nn σ0)) : ∀ (x0 : Nat) (x1 : Nat) (x2 : Nat) (x3 : Int32) (x4 : Int32) (σ : js_S) (r0 : Unit) (σ0 : js_S), fX10_write_77 fu rc10 x0 x1 x2 x3 x4 σ = some (r0, σ0) → ob_ nn 10 x0 → ob_ nn 8 x1 → ob_ nn 9 x2 → js_at p l e 2 s m args below meth c D B g nn 77 7 [(0, .ref (B + x0)), (1, .ref (B + x1)), (2, .ref (B + x2)), (3, .int x3), (4, .int x4)] [] σ (js_QV D B g nn σ0) := by
  obtain ⟨hx, hb, hml, hown, ht, hK, hNw⟩ := id C
  intro x0 x1 x2 x3 x4 σ r0 σ0 h t0 t1 t2 H locs hT ls hl
  unfold fX10_write_77 at h
  refine lv_aload_n hx hb dX10_write_77 rfl (lv_at hl 0 rfl) ?_
  refine lv_iload_n hx hb dX10_write_78 rfl (lv_at hl 3 rfl) ?_
  obtain ⟨r1, σ1, hc1, h⟩ := bd_some h
  refine js_backI hT (js_runV C hT cfX10 t0 rfl mfX10_writeBehindArgument lk_X10_74 (kX10_writeBehindArgument t0 hc1) ⟨Nat.le_of_ble_eq_true rfl, Nat.le_of_ble_eq_true rfl⟩ rfl hl.1 rfl (Nat.le_of_ble_eq_true rfl) ⟨Nat.zero_le _, Nat.zero_le _⟩ dX10_write_79) (fun H locs hT => ?_)
  refine lv_istore_n (lv' := [(3, .int r1), (0, .ref (B + x0)), (1, .ref (B + x1)), (2, .ref (B + x2)), (4, .int x4)]) hx hb dX10_write_82 rfl hl (by decide) rfl (fun ls hl => ?_)
  exact wX10_write_83 C hr hk rc10 hrc10 _ _ _ _ _ _ _ _ h t0 t1 t2 H locs hT ls (lv_sub hl [1, 2, 3, 0, 4] rfl)
set_option maxHeartbeats 4000000 in
set_option maxRecDepth 20000 in
theorem wX10_write_10b (C : js_C D g p m c cX10_write 7 s args RX10) (hr : meth.sig.returnType = none) (hk : meth.locks = false) (rc10 : Nat → Nat → Nat → Int32 → Int32 → js_S → Option (Unit × js_S)) (hrc10 : ∀ (x0 : Nat) (x1 : Nat) (x2 : Nat) (x3 : Int32) (x4 : Int32) (σ : js_S) (r0 : Unit) (σ0 : js_S), rc10 x0 x1 x2 x3 x4 σ = some (r0, σ0) → ob_ nn 10 x0 → ob_ nn 8 x1 → ob_ nn 9 x2 → js_at p l e 2 s m args below meth c D B g nn 10 7 [(0, .ref (B + x0)), (1, .ref (B + x1)), (2, .ref (B + x2)), (3, .int x3), (4, .int x4)] [] σ (js_QV D B g nn σ0)) : ∀ (x0 : Nat) (x1 : Nat) (x2 : Nat) (x3 : Int32) (x4 : Int32) (σ : js_S) (r0 : Unit) (σ0 : js_S), fX10_write_10b fu rc10 x0 x1 x2 x3 x4 σ = some (r0, σ0) → ob_ nn 10 x0 → ob_ nn 8 x1 → ob_ nn 9 x2 → js_at p l e 2 s m args below meth c D B g nn 10 7 [(0, .ref (B + x0)), (1, .ref (B + x1)), (2, .ref (B + x2)), (3, .int x3), (4, .int x4)] [] σ (js_QV D B g nn σ0) := by
  obtain ⟨hx, hb, hml, hown, ht, hK, hNw⟩ := id C
  intro x0 x1 x2 x3 x4 σ r0 σ0 h t0 t1 t2 H locs hT ls hl
  unfold fX10_write_10b at h
  refine lv_iload hx hb dX10_write_10 (lv_at hl 4 rfl) ?_
  refine lv_aload_n hx hb dX10_write_12 rfl (lv_at hl 2 rfl) ?_
  refine js_gIN C hT cfX9 t2 1 (by decide) rfl lk_X10_66 dX10_write_13 ?_
  refine lv_icmp_ge (tgt := 89) hx hb dX10_write_16 (by decide) (fun c1 => ?_) (fun c1 => ?_)
  · rw [if_pos c1] at h
    obtain ⟨rfl, rfl⟩ := js_rt h
    exact js_vret C hT hr hk dX10_write_89
  · rw [if_neg c1] at h
    refine lv_aload_n hx hb dX10_write_19 rfl (lv_at hl 2 rfl) ?_
    refine lv_iload hx hb dX10_write_20 (lv_at hl 4 rfl) ?_
    obtain ⟨r2, σ2, hc2, h⟩ := bd_some h
    refine js_backI hT (js_runV C hT cfX9 t2 rfl mfX9_symbolAt lk_X10_69 (kX9_symbolAt t2 hc2) ⟨Nat.le_of_ble_eq_true rfl, Nat.le_of_ble_eq_true rfl⟩ rfl hl.1 rfl (Nat.le_of_ble_eq_true rfl) ⟨Nat.zero_le _, Nat.zero_le _⟩ dX10_write_22) (fun H locs hT => ?_)
    refine lv_istore (lv' := [(5, .int r2), (0, .ref (B + x0)), (1, .ref (B + x1)), (2, .ref (B + x2)), (3, .int x3), (4, .int x4)]) hx hb dX10_write_25 hl (by decide) rfl (fun ls hl => ?_)
    refine lv_aload_n hx hb dX10_write_27 rfl (lv_at hl 2 rfl) ?_
    refine lv_iload hx hb dX10_write_28 (lv_at hl 0 rfl) ?_
    obtain ⟨r3, σ3, hc3, h⟩ := bd_some h
    refine js_backI hT (js_runV C hT cfX8 t1 rfl mfX8_ofSymbol lk_X10_55 (kX8_ofSymbol t1 hc3) ⟨Nat.le_of_ble_eq_true rfl, Nat.le_of_ble_eq_true rfl⟩ rfl hl.1 rfl (Nat.le_of_ble_eq_true rfl) ⟨Nat.zero_le _, Nat.zero_le _⟩ dX10_write_30) (fun H locs hT => ?_)
    refine lv_istore (lv' := [(6, .int r3), (5, .int r2), (0, .ref (B + x0)), (1, .ref (B + x1)), (2, .ref (B + x2)), (3, .int x3), (4, .int x4)]) hx hb dX10_write_33 hl (by decide) rfl (fun ls hl => ?_)
    refine lv_aload_n hx hb dX10_write_35 rfl (lv_at hl 2 rfl) ?_
    refine lv_iload hx hb dX10_write_36 (lv_at hl 1 rfl) ?_
    obtain ⟨r4, σ4, hc4, h⟩ := bd_some h
    refine js_backI hT (js_runV C hT cfX10 t0 rfl mfX10_append lk_X10_72 (kX10_append t0 hc4) ⟨Nat.le_of_ble_eq_true rfl, Nat.le_of_ble_eq_true rfl⟩ rfl hl.1 rfl (Nat.le_of_ble_eq_true rfl) ⟨Nat.zero_le _, Nat.zero_le _⟩ dX10_write_38) (fun H locs hT => ?_)
    refine lv_pop hx hb dX10_write_41 rfl ?_
    refine lv_iload hx hb dX10_write_42 (lv_at hl 0 rfl) ?_
    refine lv_if_le (tgt := 77) hx hb dX10_write_44 (by decide) (fun c5 => ?_) (fun c5 => ?_)
    · rw [if_pos c5] at h
      exact wX10_write_77 C hr hk rc10 hrc10 _ _ _ _ _ _ _ _ h t0 t1 t2 H locs hT ls (lv_sub hl [2, 3, 4, 5, 6] rfl)
    · rw [if_neg c5] at h
      refine lv_iload_n hx hb dX10_write_47 rfl (lv_at hl 5 rfl) ?_
      refine lv_aload_n hx hb dX10_write_48 rfl (lv_at hl 2 rfl) ?_
      refine js_gR C hT cfX10 t0 1 (by decide) (q := 20) rfl (by decide) lk_X10_21 dX10_write_49 (fun t6a => ?_)
      refine js_alen C hT t6a (Or.inl rfl) dX10_write_52 ?_
      refine lv_icmp_ge (tgt := 77) hx hb dX10_write_53 (by decide) (fun c7 => ?_) (fun c7 => ?_)
      · rw [if_pos c7] at h
        exact wX10_write_77 C hr hk rc10 hrc10 _ _ _ _ _ _ _ _ h t0 t1 t2 H locs hT ls (lv_sub hl [2, 3, 4, 5, 6] rfl)
      · rw [if_neg c7] at h
        refine lv_aload_n hx hb dX10_write_56 rfl (lv_at hl 2 rfl) ?_
        refine lv_bipush (v := 40) hx hb dX10_write_57 (by decide) ?_
        obtain ⟨r8, σ8, hc8, h⟩ := bd_some h
        refine js_backI hT (js_runV C hT cfX10 t0 rfl mfX10_append lk_X10_72 (kX10_append t0 hc8) ⟨Nat.le_of_ble_eq_true rfl, Nat.le_of_ble_eq_true rfl⟩ rfl hl.1 rfl (Nat.le_of_ble_eq_true rfl) ⟨Nat.zero_le _, Nat.zero_le _⟩ dX10_write_59) (fun H locs hT => ?_)
        refine lv_pop hx hb dX10_write_62 rfl ?_
        refine lv_aload_n hx hb dX10_write_63 rfl (lv_at hl 2 rfl) ?_
        refine js_gR C hT cfX10 t0 1 (by decide) (q := 20) rfl (by decide) lk_X10_21 dX10_write_64 (fun t9a => ?_)
        refine lv_iload_n hx hb dX10_write_67 rfl (lv_at hl 5 rfl) ?_
        refine lv_iload hx hb dX10_write_68 (lv_at hl 0 rfl) ?_
        obtain ⟨g10, h⟩ := gd_some _ h
        obtain ⟨σ10, e10, h⟩ := lt_some h
        refine js_iast C hT t9a g10 dX10_write_70 (fun H locs hT => ?_)
        rw [e10] at hT
        refine lv_iinc (v := x3 + 1) (lv' := [(3, .int (x3 + 1)), (6, .int r3), (5, .int r2), (0, .ref (B + x0)), (1, .ref (B + x1)), (2, .ref (B + x2)), (4, .int x4)]) hx hb dX10_write_71 hl (k := 5) rfl rfl (by decide) rfl (fun ls hl => ?_)
        refine lv_goto (tgt := 83) hx hb dX10_write_74 (by decide) ?_
        exact wX10_write_83 C hr hk rc10 hrc10 _ _ _ _ _ _ _ _ h t0 t1 t2 H locs hT ls (lv_sub hl [3, 4, 5, 0, 6] rfl)
set_option maxHeartbeats 4000000 in
set_option maxRecDepth 20000 in
theorem wX10_write_10 (C : js_C D g p m c cX10_write 7 s args RX10) (hr : meth.sig.returnType = none) (hk : meth.locks = false) : ∀ (k : Nat), ∀ (x0 : Nat) (x1 : Nat) (x2 : Nat) (x3 : Int32) (x4 : Int32) (σ : js_S) (r0 : Unit) (σ0 : js_S), fX10_write_10 fu k x0 x1 x2 x3 x4 σ = some (r0, σ0) → ob_ nn 10 x0 → ob_ nn 8 x1 → ob_ nn 9 x2 → js_at p l e 2 s m args below meth c D B g nn 10 7 [(0, .ref (B + x0)), (1, .ref (B + x1)), (2, .ref (B + x2)), (3, .int x3), (4, .int x4)] [] σ (js_QV D B g nn σ0) := by
  intro k
  induction k with
  | zero =>
    intro x0 x1 x2 x3 x4 σ r0 σ0 h
    cases h
  | succ k ih =>
    intro x0 x1 x2 x3 x4 σ r0 σ0 h
    exact wX10_write_10b C hr hk (fX10_write_10 fu k) ih x0 x1 x2 x3 x4 σ r0 σ0 h
set_option maxHeartbeats 4000000 in
set_option maxRecDepth 20000 in
theorem kX10_write {x0 : Nat} {x1 : Nat} {x2 : Nat} {σ σ0 : js_S} {r0 : Unit} (t0 : ob_ nn 10 x0) (t1 : ob_ nn 8 x1) (t2 : ob_ nn 9 x2) (h : fX10_write fu x0 x1 x2 σ = some (r0, σ0)) : js_M l D B g nn yX10_write cX10_write 7 none 2 [.ref (B + x0), .ref (B + x1), .ref (B + x2)] σ (js_QV D B g nn σ0) := by
  refine js_enter (by decide) (Nat.le_of_ble_eq_true rfl) ?_
  intro p e s m args below meth c C hr hk ls hl hT
  have hl : lv_has ls 7 [(0, .ref (B + x0)), (1, .ref (B + x1)), (2, .ref (B + x2))] := hl
  obtain ⟨hx, hb, hml, hown, ht, hK, hNw⟩ := id C
  obtain ⟨H, eH⟩ : ∃ H, H = s.heap := ⟨_, rfl⟩
  obtain ⟨locs, eL⟩ : ∃ z : List Loc, z = [] := ⟨_, rfl⟩
  rw [← eH, ← eL]
  rw [← eH, ← eL] at hT
  clear eH eL
  unfold fX10_write at h
  refine lv_iconst (v := 0) hx hb dX10_write_0 (by decide) ?_
  refine lv_istore_n (lv' := [(3, .int 0), (0, .ref (B + x0)), (1, .ref (B + x1)), (2, .ref (B + x2))]) hx hb dX10_write_1 rfl hl (by decide) rfl (fun ls hl => ?_)
  refine lv_aload_n hx hb dX10_write_2 rfl (lv_at hl 1 rfl) ?_
  refine lv_iconst (v := 0) hx hb dX10_write_3 (by decide) ?_
  obtain ⟨σ1, e1, h⟩ := lt_some h
  refine js_pI C hT cfX10 t0 2 (by decide) rfl rfl rfl rfl lk_X10_24 dX10_write_4 (fun H locs hT => ?_)
  rw [e1] at hT
  refine lv_iconst (v := 0) hx hb dX10_write_7 (by decide) ?_
  refine lv_istore (lv' := [(4, .int 0), (3, .int 0), (0, .ref (B + x0)), (1, .ref (B + x1)), (2, .ref (B + x2))]) hx hb dX10_write_8 hl (by decide) rfl (fun ls hl => ?_)
  exact wX10_write_10 C hr hk _ _ _ _ _ _ _ _ _ h t0 t1 t2 H locs hT ls (lv_sub hl [2, 3, 4, 1, 0] rfl)
set_option maxHeartbeats 4000000 in
set_option maxRecDepth 20000 in
theorem wX11_bindsVariables_33 (C : js_C D g p m c cX11_bindsVariables 4 s args RX11) (hr : meth.sig.returnType = (some .boolean)) (hk : meth.locks = false) (rc2 : Nat → Nat → Int32 → js_S → Option (Int32 × js_S)) (hrc2 : ∀ (x0 : Nat) (x1 : Nat) (x2 : Int32) (σ : js_S) (r0 : Int32) (σ0 : js_S), rc2 x0 x1 x2 σ = some (r0, σ0) → ob_ nn 9 x0 → ob_ nn 9 x1 → js_at p l e 2 s m args below meth c D B g nn 2 4 [(0, .ref (B + x0)), (1, .ref (B + x1)), (2, .int x2)] [] σ (js_QI D B g nn r0 σ0)) : ∀ (x0 : Nat) (x1 : Nat) (x2 : Int32) (σ : js_S) (r0 : Int32) (σ0 : js_S), fX11_bindsVariables_33 fu rc2 x0 x1 x2 σ = some (r0, σ0) → ob_ nn 9 x0 → ob_ nn 9 x1 → js_at p l e 2 s m args below meth c D B g nn 33 4 [(0, .ref (B + x0)), (1, .ref (B + x1)), (2, .int x2)] [] σ (js_QI D B g nn r0 σ0) := by
  obtain ⟨hx, hb, hml, hown, ht, hK, hNw⟩ := id C
  intro x0 x1 x2 σ r0 σ0 h t0 t1 H locs hT ls hl
  unfold fX11_bindsVariables_33 at h
  refine lv_iinc (v := x2 + 1) (lv' := [(2, .int (x2 + 1)), (0, .ref (B + x0)), (1, .ref (B + x1))]) hx hb dX11_bindsVariables_33 hl (k := 2) rfl rfl (by decide) rfl (fun ls hl => ?_)
  refine lv_goto (tgt := 2) hx hb dX11_bindsVariables_36 (by decide) ?_
  exact hrc2 _ _ _ _ _ _ h t0 t1 H locs hT ls (lv_sub hl [1, 2, 0] rfl)
set_option maxHeartbeats 4000000 in
set_option maxRecDepth 20000 in
theorem wX11_bindsVariables_2b (C : js_C D g p m c cX11_bindsVariables 4 s args RX11) (hr : meth.sig.returnType = (some .boolean)) (hk : meth.locks = false) (rc2 : Nat → Nat → Int32 → js_S → Option (Int32 × js_S)) (hrc2 : ∀ (x0 : Nat) (x1 : Nat) (x2 : Int32) (σ : js_S) (r0 : Int32) (σ0 : js_S), rc2 x0 x1 x2 σ = some (r0, σ0) → ob_ nn 9 x0 → ob_ nn 9 x1 → js_at p l e 2 s m args below meth c D B g nn 2 4 [(0, .ref (B + x0)), (1, .ref (B + x1)), (2, .int x2)] [] σ (js_QI D B g nn r0 σ0)) : ∀ (x0 : Nat) (x1 : Nat) (x2 : Int32) (σ : js_S) (r0 : Int32) (σ0 : js_S), fX11_bindsVariables_2b fu rc2 x0 x1 x2 σ = some (r0, σ0) → ob_ nn 9 x0 → ob_ nn 9 x1 → js_at p l e 2 s m args below meth c D B g nn 2 4 [(0, .ref (B + x0)), (1, .ref (B + x1)), (2, .int x2)] [] σ (js_QI D B g nn r0 σ0) := by
  obtain ⟨hx, hb, hml, hown, ht, hK, hNw⟩ := id C
  intro x0 x1 x2 σ r0 σ0 h t0 t1 H locs hT ls hl
  unfold fX11_bindsVariables_2b at h
  refine lv_iload_n hx hb dX11_bindsVariables_2 rfl (lv_at hl 2 rfl) ?_
  refine lv_aload_n hx hb dX11_bindsVariables_3 rfl (lv_at hl 1 rfl) ?_
  refine js_gIN C hT cfX9 t1 1 (by decide) rfl lk_X11_138 dX11_bindsVariables_4 ?_
  refine lv_icmp_ge (tgt := 39) hx hb dX11_bindsVariables_7 (by decide) (fun c1 => ?_) (fun c1 => ?_)
  · rw [if_pos c1] at h
    refine lv_iconst (v := 1) hx hb dX11_bindsVariables_39 (by decide) ?_
    obtain ⟨rfl, rfl⟩ := js_rt h
    exact js_zret C hT hr hk rfl dX11_bindsVariables_40
  · rw [if_neg c1] at h
    refine lv_aload_n hx hb dX11_bindsVariables_10 rfl (lv_at hl 1 rfl) ?_
    refine lv_iload_n hx hb dX11_bindsVariables_11 rfl (lv_at hl 2 rfl) ?_
    obtain ⟨r2, σ2, hc2, h⟩ := bd_some h
    refine js_backI hT (js_runV C hT cfX9 t1 rfl mfX9_symbolAt lk_X11_340 (kX9_symbolAt t1 hc2) ⟨Nat.le_of_ble_eq_true rfl, Nat.le_of_ble_eq_true rfl⟩ rfl hl.1 rfl (Nat.le_of_ble_eq_true rfl) ⟨Nat.zero_le _, Nat.zero_le _⟩ dX11_bindsVariables_12) (fun H locs hT => ?_)
    refine lv_istore_n (lv' := [(3, .int r2), (0, .ref (B + x0)), (1, .ref (B + x1)), (2, .int x2)]) hx hb dX11_bindsVariables_15 rfl hl (by decide) rfl (fun ls hl => ?_)
    refine lv_iload_n hx hb dX11_bindsVariables_16 rfl (lv_at hl 0 rfl) ?_
    obtain ⟨r3, σ3, hc3, h⟩ := bd_some h
    refine js_backI hT (js_runS C hT mfX11_isVariable lk_X11_346 (kX11_isVariable  hc3) ⟨Nat.le_of_ble_eq_true rfl, Nat.le_of_ble_eq_true rfl⟩ rfl hl.1 rfl (Nat.le_of_ble_eq_true rfl) ⟨Nat.zero_le _, Nat.zero_le _⟩ dX11_bindsVariables_17) (fun H locs hT => ?_)
    refine lv_if_eq (tgt := 33) hx hb dX11_bindsVariables_20 (by decide) (fun c4 => ?_) (fun c4 => ?_)
    · rw [if_pos c4] at h
      exact wX11_bindsVariables_33 C hr hk rc2 hrc2 _ _ _ _ _ _ h t0 t1 H locs hT ls (lv_sub hl [1, 2, 3] rfl)
    · rw [if_neg c4] at h
      refine lv_aload_n hx hb dX11_bindsVariables_23 rfl (lv_at hl 1 rfl) ?_
      refine lv_iload_n hx hb dX11_bindsVariables_24 rfl (lv_at hl 0 rfl) ?_
      obtain ⟨r5, σ5, hc5, h⟩ := bd_some h
      refine js_backI hT (js_runV C hT cfX9 t0 rfl mfX9_contains lk_X11_349 (kX9_contains t0 hc5) ⟨Nat.le_of_ble_eq_true rfl, Nat.le_of_ble_eq_true rfl⟩ rfl hl.1 rfl (Nat.le_of_ble_eq_true rfl) ⟨Nat.zero_le _, Nat.zero_le _⟩ dX11_bindsVariables_25) (fun H locs hT => ?_)
      refine lv_if_ne (tgt := 33) hx hb dX11_bindsVariables_28 (by decide) (fun c6 => ?_) (fun c6 => ?_)
      · rw [if_neg c6] at h
        exact wX11_bindsVariables_33 C hr hk rc2 hrc2 _ _ _ _ _ _ h t0 t1 H locs hT ls (lv_sub hl [1, 2, 3] rfl)
      · rw [if_pos c6] at h
        refine lv_iconst (v := 0) hx hb dX11_bindsVariables_31 (by decide) ?_
        obtain ⟨rfl, rfl⟩ := js_rt h
        exact js_zret C hT hr hk rfl dX11_bindsVariables_32
set_option maxHeartbeats 4000000 in
set_option maxRecDepth 20000 in
theorem wX11_bindsVariables_2 (C : js_C D g p m c cX11_bindsVariables 4 s args RX11) (hr : meth.sig.returnType = (some .boolean)) (hk : meth.locks = false) : ∀ (k : Nat), ∀ (x0 : Nat) (x1 : Nat) (x2 : Int32) (σ : js_S) (r0 : Int32) (σ0 : js_S), fX11_bindsVariables_2 fu k x0 x1 x2 σ = some (r0, σ0) → ob_ nn 9 x0 → ob_ nn 9 x1 → js_at p l e 2 s m args below meth c D B g nn 2 4 [(0, .ref (B + x0)), (1, .ref (B + x1)), (2, .int x2)] [] σ (js_QI D B g nn r0 σ0) := by
  intro k
  induction k with
  | zero =>
    intro x0 x1 x2 σ r0 σ0 h
    cases h
  | succ k ih =>
    intro x0 x1 x2 σ r0 σ0 h
    exact wX11_bindsVariables_2b C hr hk (fX11_bindsVariables_2 fu k) ih x0 x1 x2 σ r0 σ0 h
set_option maxHeartbeats 4000000 in
set_option maxRecDepth 20000 in
theorem kX11_bindsVariables {x0 : Nat} {x1 : Nat} {σ σ0 : js_S} {r0 : Int32} (t0 : ob_ nn 9 x0) (t1 : ob_ nn 9 x1) (h : fX11_bindsVariables fu x0 x1 σ = some (r0, σ0)) : js_M l D B g nn yX11_bindsVariables cX11_bindsVariables 4 (some .boolean) 2 [.ref (B + x0), .ref (B + x1)] σ (js_QI D B g nn r0 σ0) := by
  refine js_enter (by decide) (Nat.le_of_ble_eq_true rfl) ?_
  intro p e s m args below meth c C hr hk ls hl hT
  have hl : lv_has ls 4 [(0, .ref (B + x0)), (1, .ref (B + x1))] := hl
  obtain ⟨hx, hb, hml, hown, ht, hK, hNw⟩ := id C
  obtain ⟨H, eH⟩ : ∃ H, H = s.heap := ⟨_, rfl⟩
  obtain ⟨locs, eL⟩ : ∃ z : List Loc, z = [] := ⟨_, rfl⟩
  rw [← eH, ← eL]
  rw [← eH, ← eL] at hT
  clear eH eL
  unfold fX11_bindsVariables at h
  refine lv_iconst (v := 0) hx hb dX11_bindsVariables_0 (by decide) ?_
  refine lv_istore_n (lv' := [(2, .int 0), (0, .ref (B + x0)), (1, .ref (B + x1))]) hx hb dX11_bindsVariables_1 rfl hl (by decide) rfl (fun ls hl => ?_)
  exact wX11_bindsVariables_2 C hr hk _ _ _ _ _ _ _ h t0 t1 H locs hT ls (lv_sub hl [1, 2, 0] rfl)
set_option maxHeartbeats 4000000 in
set_option maxRecDepth 20000 in
theorem wX11_isLeftSide_15b (C : js_C D g p m c cX11_isLeftSide 2 s args RX11) (hr : meth.sig.returnType = (some .boolean)) (hk : meth.locks = false) (rc15 : Nat → Int32 → js_S → Option (Int32 × js_S)) (hrc15 : ∀ (x0 : Nat) (x1 : Int32) (σ : js_S) (r0 : Int32) (σ0 : js_S), rc15 x0 x1 σ = some (r0, σ0) → ob_ nn 9 x0 → js_at p l e 2 s m args below meth c D B g nn 15 2 [(0, .ref (B + x0)), (1, .int x1)] [] σ (js_QI D B g nn r0 σ0)) : ∀ (x0 : Nat) (x1 : Int32) (σ : js_S) (r0 : Int32) (σ0 : js_S), fX11_isLeftSide_15b fu rc15 x0 x1 σ = some (r0, σ0) → ob_ nn 9 x0 → js_at p l e 2 s m args below meth c D B g nn 15 2 [(0, .ref (B + x0)), (1, .int x1)] [] σ (js_QI D B g nn r0 σ0) := by
  obtain ⟨hx, hb, hml, hown, ht, hK, hNw⟩ := id C
  intro x0 x1 σ r0 σ0 h t0 H locs hT ls hl
  unfold fX11_isLeftSide_15b at h
  refine lv_iload_n hx hb dX11_isLeftSide_15 rfl (lv_at hl 1 rfl) ?_
  refine lv_aload_n hx hb dX11_isLeftSide_16 rfl (lv_at hl 0 rfl) ?_
  refine js_gIN C hT cfX9 t0 1 (by decide) rfl lk_X11_138 dX11_isLeftSide_17 ?_
  refine lv_icmp_ge (tgt := 42) hx hb dX11_isLeftSide_20 (by decide) (fun c1 => ?_) (fun c1 => ?_)
  · rw [if_pos c1] at h
    refine lv_iconst (v := 1) hx hb dX11_isLeftSide_42 (by decide) ?_
    obtain ⟨rfl, rfl⟩ := js_rt h
    exact js_zret C hT hr hk rfl dX11_isLeftSide_43
  · rw [if_neg c1] at h
    refine lv_aload_n hx hb dX11_isLeftSide_23 rfl (lv_at hl 0 rfl) ?_
    refine lv_iload_n hx hb dX11_isLeftSide_24 rfl (lv_at hl 1 rfl) ?_
    obtain ⟨r2, σ2, hc2, h⟩ := bd_some h
    refine js_backI hT (js_runV C hT cfX9 t0 rfl mfX9_symbolAt lk_X11_340 (kX9_symbolAt t0 hc2) ⟨Nat.le_of_ble_eq_true rfl, Nat.le_of_ble_eq_true rfl⟩ rfl hl.1 rfl (Nat.le_of_ble_eq_true rfl) ⟨Nat.zero_le _, Nat.zero_le _⟩ dX11_isLeftSide_25) (fun H locs hT => ?_)
    obtain ⟨r3, σ3, hc3, h⟩ := bd_some h
    refine js_backI hT (js_runS C hT mfX11_isFunction lk_X11_343 (kX11_isFunction  hc3) ⟨Nat.le_of_ble_eq_true rfl, Nat.le_of_ble_eq_true rfl⟩ rfl hl.1 rfl (Nat.le_of_ble_eq_true rfl) ⟨Nat.zero_le _, Nat.zero_le _⟩ dX11_isLeftSide_28) (fun H locs hT => ?_)
    refine lv_if_eq (tgt := 36) hx hb dX11_isLeftSide_31 (by decide) (fun c4 => ?_) (fun c4 => ?_)
    · rw [if_pos c4] at h
      refine lv_iinc (v := x1 + 1) (lv' := [(1, .int (x1 + 1)), (0, .ref (B + x0))]) hx hb dX11_isLeftSide_36 hl (k := 1) rfl rfl (by decide) rfl (fun ls hl => ?_)
      refine lv_goto (tgt := 15) hx hb dX11_isLeftSide_39 (by decide) ?_
      exact hrc15 _ _ _ _ _ h t0 H locs hT ls (lv_sub hl [1, 0] rfl)
    · rw [if_neg c4] at h
      refine lv_iconst (v := 0) hx hb dX11_isLeftSide_34 (by decide) ?_
      obtain ⟨rfl, rfl⟩ := js_rt h
      exact js_zret C hT hr hk rfl dX11_isLeftSide_35
set_option maxHeartbeats 4000000 in
set_option maxRecDepth 20000 in
theorem wX11_isLeftSide_15 (C : js_C D g p m c cX11_isLeftSide 2 s args RX11) (hr : meth.sig.returnType = (some .boolean)) (hk : meth.locks = false) : ∀ (k : Nat), ∀ (x0 : Nat) (x1 : Int32) (σ : js_S) (r0 : Int32) (σ0 : js_S), fX11_isLeftSide_15 fu k x0 x1 σ = some (r0, σ0) → ob_ nn 9 x0 → js_at p l e 2 s m args below meth c D B g nn 15 2 [(0, .ref (B + x0)), (1, .int x1)] [] σ (js_QI D B g nn r0 σ0) := by
  intro k
  induction k with
  | zero =>
    intro x0 x1 σ r0 σ0 h
    cases h
  | succ k ih =>
    intro x0 x1 σ r0 σ0 h
    exact wX11_isLeftSide_15b C hr hk (fX11_isLeftSide_15 fu k) ih x0 x1 σ r0 σ0 h
set_option maxHeartbeats 4000000 in
set_option maxRecDepth 20000 in
theorem kX11_isLeftSide {x0 : Nat} {σ σ0 : js_S} {r0 : Int32} (t0 : ob_ nn 9 x0) (h : fX11_isLeftSide fu x0 σ = some (r0, σ0)) : js_M l D B g nn yX11_isLeftSide cX11_isLeftSide 2 (some .boolean) 2 [.ref (B + x0)] σ (js_QI D B g nn r0 σ0) := by
  refine js_enter (by decide) (Nat.le_of_ble_eq_true rfl) ?_
  intro p e s m args below meth c C hr hk ls hl hT
  have hl : lv_has ls 2 [(0, .ref (B + x0))] := hl
  obtain ⟨hx, hb, hml, hown, ht, hK, hNw⟩ := id C
  obtain ⟨H, eH⟩ : ∃ H, H = s.heap := ⟨_, rfl⟩
  obtain ⟨locs, eL⟩ : ∃ z : List Loc, z = [] := ⟨_, rfl⟩
  rw [← eH, ← eL]
  rw [← eH, ← eL] at hT
  clear eH eL
  unfold fX11_isLeftSide at h
  refine lv_aload_n hx hb dX11_isLeftSide_0 rfl (lv_at hl 0 rfl) ?_
  refine lv_iconst (v := 0) hx hb dX11_isLeftSide_1 (by decide) ?_
  obtain ⟨r1, σ1, hc1, h⟩ := bd_some h
  refine js_backI hT (js_runV C hT cfX9 t0 rfl mfX9_symbolAt lk_X11_340 (kX9_symbolAt t0 hc1) ⟨Nat.le_of_ble_eq_true rfl, Nat.le_of_ble_eq_true rfl⟩ rfl hl.1 rfl (Nat.le_of_ble_eq_true rfl) ⟨Nat.zero_le _, Nat.zero_le _⟩ dX11_isLeftSide_2) (fun H locs hT => ?_)
  obtain ⟨r2, σ2, hc2, h⟩ := bd_some h
  refine js_backI hT (js_runS C hT mfX11_isFunction lk_X11_343 (kX11_isFunction  hc2) ⟨Nat.le_of_ble_eq_true rfl, Nat.le_of_ble_eq_true rfl⟩ rfl hl.1 rfl (Nat.le_of_ble_eq_true rfl) ⟨Nat.zero_le _, Nat.zero_le _⟩ dX11_isLeftSide_5) (fun H locs hT => ?_)
  refine lv_if_ne (tgt := 13) hx hb dX11_isLeftSide_8 (by decide) (fun c3 => ?_) (fun c3 => ?_)
  · rw [if_neg c3] at h
    refine lv_iconst (v := 1) hx hb dX11_isLeftSide_13 (by decide) ?_
    refine lv_istore_n (lv' := [(1, .int 1), (0, .ref (B + x0))]) hx hb dX11_isLeftSide_14 rfl hl (by decide) rfl (fun ls hl => ?_)
    exact wX11_isLeftSide_15 C hr hk _ _ _ _ _ _ h t0 H locs hT ls (lv_sub hl [1, 0] rfl)
  · rw [if_pos c3] at h
    refine lv_iconst (v := 0) hx hb dX11_isLeftSide_11 (by decide) ?_
    obtain ⟨rfl, rfl⟩ := js_rt h
    exact js_zret C hT hr hk rfl dX11_isLeftSide_12
set_option maxHeartbeats 4000000 in
set_option maxRecDepth 20000 in
theorem kX11_isRule {x0 : Nat} {x1 : Nat} {σ σ0 : js_S} {r0 : Int32} (t0 : ob_ nn 9 x0) (t1 : ob_ nn 9 x1) (h : fX11_isRule fu x0 x1 σ = some (r0, σ0)) : js_M l D B g nn yX11_isRule cX11_isRule 2 (some .boolean) 3 [.ref (B + x0), .ref (B + x1)] σ (js_QI D B g nn r0 σ0) := by
  refine js_enter (by decide) (Nat.le_of_ble_eq_true rfl) ?_
  intro p e s m args below meth c C hr hk ls hl hT
  have hl : lv_has ls 2 [(0, .ref (B + x0)), (1, .ref (B + x1))] := hl
  obtain ⟨hx, hb, hml, hown, ht, hK, hNw⟩ := id C
  obtain ⟨H, eH⟩ : ∃ H, H = s.heap := ⟨_, rfl⟩
  obtain ⟨locs, eL⟩ : ∃ z : List Loc, z = [] := ⟨_, rfl⟩
  rw [← eH, ← eL]
  rw [← eH, ← eL] at hT
  clear eH eL
  unfold fX11_isRule at h
  refine lv_aload_n hx hb dX11_isRule_0 rfl (lv_at hl 0 rfl) ?_
  refine js_gIN C hT cfX9 t0 1 (by decide) rfl lk_X11_138 dX11_isRule_1 ?_
  refine lv_bipush (v := 40) hx hb dX11_isRule_4 (by decide) ?_
  refine lv_icmp_gt (tgt := 37) hx hb dX11_isRule_6 (by decide) (fun c1 => ?_) (fun c1 => ?_)
  · rw [if_pos c1] at h
    refine lv_iconst (v := 0) hx hb dX11_isRule_37 (by decide) ?_
    obtain ⟨rfl, rfl⟩ := js_rt h
    exact js_zret C hT hr hk rfl dX11_isRule_38
  · rw [if_neg c1] at h
    refine lv_aload_n hx hb dX11_isRule_9 rfl (lv_at hl 1 rfl) ?_
    refine js_gIN C hT cfX9 t1 1 (by decide) rfl lk_X11_138 dX11_isRule_10 ?_
    refine lv_bipush (v := 40) hx hb dX11_isRule_13 (by decide) ?_
    refine lv_icmp_gt (tgt := 37) hx hb dX11_isRule_15 (by decide) (fun c2 => ?_) (fun c2 => ?_)
    · rw [if_pos c2] at h
      refine lv_iconst (v := 0) hx hb dX11_isRule_37 (by decide) ?_
      obtain ⟨rfl, rfl⟩ := js_rt h
      exact js_zret C hT hr hk rfl dX11_isRule_38
    · rw [if_neg c2] at h
      refine lv_aload_n hx hb dX11_isRule_18 rfl (lv_at hl 0 rfl) ?_
      obtain ⟨r3, σ3, hc3, h⟩ := bd_some h
      refine js_backI hT (js_runS C hT mfX11_isLeftSide lk_X11_333 (kX11_isLeftSide t0 hc3) ⟨Nat.le_of_ble_eq_true rfl, Nat.le_of_ble_eq_true rfl⟩ rfl hl.1 rfl (Nat.le_of_ble_eq_true rfl) ⟨Nat.zero_le _, Nat.zero_le _⟩ dX11_isRule_19) (fun H locs hT => ?_)
      refine lv_if_eq (tgt := 37) hx hb dX11_isRule_22 (by decide) (fun c4 => ?_) (fun c4 => ?_)
      · rw [if_pos c4] at h
        refine lv_iconst (v := 0) hx hb dX11_isRule_37 (by decide) ?_
        obtain ⟨rfl, rfl⟩ := js_rt h
        exact js_zret C hT hr hk rfl dX11_isRule_38
      · rw [if_neg c4] at h
        refine lv_aload_n hx hb dX11_isRule_25 rfl (lv_at hl 0 rfl) ?_
        refine lv_aload_n hx hb dX11_isRule_26 rfl (lv_at hl 1 rfl) ?_
        obtain ⟨r5, σ5, hc5, h⟩ := bd_some h
        refine js_backI hT (js_runS C hT mfX11_bindsVariables lk_X11_337 (kX11_bindsVariables t0 t1 hc5) ⟨Nat.le_of_ble_eq_true rfl, Nat.le_of_ble_eq_true rfl⟩ rfl hl.1 rfl (Nat.le_of_ble_eq_true rfl) ⟨Nat.zero_le _, Nat.zero_le _⟩ dX11_isRule_27) (fun H locs hT => ?_)
        refine lv_if_eq (tgt := 37) hx hb dX11_isRule_30 (by decide) (fun c6 => ?_) (fun c6 => ?_)
        · rw [if_pos c6] at h
          refine lv_iconst (v := 0) hx hb dX11_isRule_37 (by decide) ?_
          obtain ⟨rfl, rfl⟩ := js_rt h
          exact js_zret C hT hr hk rfl dX11_isRule_38
        · rw [if_neg c6] at h
          refine lv_iconst (v := 1) hx hb dX11_isRule_33 (by decide) ?_
          refine lv_goto (tgt := 38) hx hb dX11_isRule_34 (by decide) ?_
          obtain ⟨rfl, rfl⟩ := js_rt h
          exact js_zret C hT hr hk rfl dX11_isRule_38
set_option maxHeartbeats 4000000 in
set_option maxRecDepth 20000 in
theorem kX11_rulesChanged {x0 : Nat} {σ σ0 : js_S} {r0 : Unit} (t0 : ob_ nn 11 x0) (h : fX11_rulesChanged fu x0 σ = some (r0, σ0)) : js_M l D B g nn yX11_rulesChanged cX11_rulesChanged 1 none 0 [.ref (B + x0)] σ (js_QV D B g nn σ0) := by
  refine js_enter (by decide) (Nat.le_of_ble_eq_true rfl) ?_
  intro p e s m args below meth c C hr hk ls hl hT
  have hl : lv_has ls 1 [(0, .ref (B + x0))] := hl
  obtain ⟨hx, hb, hml, hown, ht, hK, hNw⟩ := id C
  obtain ⟨H, eH⟩ : ∃ H, H = s.heap := ⟨_, rfl⟩
  obtain ⟨locs, eL⟩ : ∃ z : List Loc, z = [] := ⟨_, rfl⟩
  rw [← eH, ← eL]
  rw [← eH, ← eL] at hT
  clear eH eL
  unfold fX11_rulesChanged at h
  refine lv_aload_n hx hb dX11_rulesChanged_0 rfl (lv_at hl 0 rfl) ?_
  refine lv_iconst (v := 0) hx hb dX11_rulesChanged_1 (by decide) ?_
  obtain ⟨σ1, e1, h⟩ := lt_some h
  refine js_pI C hT cfX11 t0 9 (by decide) rfl rfl rfl rfl lk_X11_308 dX11_rulesChanged_2 (fun H locs hT => ?_)
  rw [e1] at hT
  refine lv_aload_n hx hb dX11_rulesChanged_5 rfl (lv_at hl 0 rfl) ?_
  refine lv_iconst (v := 0) hx hb dX11_rulesChanged_6 (by decide) ?_
  obtain ⟨σ2, e2, h⟩ := lt_some h
  refine js_pI C hT cfX11 t0 11 (by decide) rfl rfl rfl rfl lk_X11_311 dX11_rulesChanged_7 (fun H locs hT => ?_)
  rw [e2] at hT
  refine lv_aload_n hx hb dX11_rulesChanged_10 rfl (lv_at hl 0 rfl) ?_
  refine lv_iconst (v := 0) hx hb dX11_rulesChanged_11 (by decide) ?_
  obtain ⟨σ3, e3, h⟩ := lt_some h
  refine js_pI C hT cfX11 t0 13 (by decide) rfl rfl rfl rfl lk_X11_314 dX11_rulesChanged_12 (fun H locs hT => ?_)
  rw [e3] at hT
  refine lv_aload_n hx hb dX11_rulesChanged_15 rfl (lv_at hl 0 rfl) ?_
  refine lv_iconst (v := 0) hx hb dX11_rulesChanged_16 (by decide) ?_
  obtain ⟨σ4, e4, h⟩ := lt_some h
  refine js_pI C hT cfX11 t0 15 (by decide) rfl rfl rfl rfl lk_X11_317 dX11_rulesChanged_17 (fun H locs hT => ?_)
  rw [e4] at hT
  obtain ⟨rfl, rfl⟩ := js_rt h
  exact js_vret C hT hr hk dX11_rulesChanged_20
set_option maxHeartbeats 4000000 in
set_option maxRecDepth 20000 in
theorem kX11_addRule {x0 : Nat} {σ σ0 : js_S} {r0 : Int32} (t0 : ob_ nn 11 x0) (h : fX11_addRule fu x0 σ = some (r0, σ0)) : js_M l D B g nn yX11_addRule cX11_addRule 5 (some .int) 5 [.ref (B + x0)] σ (js_QI D B g nn r0 σ0) := by
  refine js_enter (by decide) (Nat.le_of_ble_eq_true rfl) ?_
  intro p e s m args below meth c C hr hk ls hl hT
  have hl : lv_has ls 5 [(0, .ref (B + x0))] := hl
  obtain ⟨hx, hb, hml, hown, ht, hK, hNw⟩ := id C
  obtain ⟨H, eH⟩ : ∃ H, H = s.heap := ⟨_, rfl⟩
  obtain ⟨locs, eL⟩ : ∃ z : List Loc, z = [] := ⟨_, rfl⟩
  rw [← eH, ← eL]
  rw [← eH, ← eL] at hT
  clear eH eL
  unfold fX11_addRule at h
  refine lv_aload_n hx hb dX11_addRule_0 rfl (lv_at hl 0 rfl) ?_
  refine js_gR C hT cfX11 t0 0 (by decide) (q := 6) rfl (by decide) lk_X11_12 dX11_addRule_1 (fun t1a => ?_)
  refine js_gIN C hT cfX6 t1a 5 (by decide) rfl lk_X11_84 dX11_addRule_4 ?_
  refine lv_bipush (v := 6) hx hb dX11_addRule_7 (by decide) ?_
  refine lv_icmp_lt (tgt := 15) hx hb dX11_addRule_9 (by decide) (fun c2 => ?_) (fun c2 => ?_)
  · rw [if_pos c2] at h
    refine lv_aload_n hx hb dX11_addRule_15 rfl (lv_at hl 0 rfl) ?_
    refine js_gR C hT cfX11 t0 0 (by decide) (q := 6) rfl (by decide) lk_X11_12 dX11_addRule_16 (fun t3a => ?_)
    refine lv_aload_n hx hb dX11_addRule_19 rfl (lv_at hl 0 rfl) ?_
    refine js_gR C hT cfX11 t0 0 (by decide) (q := 6) rfl (by decide) lk_X11_12 dX11_addRule_20 (fun t4a => ?_)
    refine js_gIN C hT cfX6 t4a 5 (by decide) rfl lk_X11_84 dX11_addRule_23 ?_
    obtain ⟨r5, σ5, hc5, h⟩ := bd_some h
    refine js_backR hT (js_runV C hT cfX6 t3a rfl mfX6_left lk_X11_108 (kX6_left t3a hc5) ⟨Nat.le_of_ble_eq_true rfl, Nat.le_of_ble_eq_true rfl⟩ rfl hl.1 rfl (Nat.le_of_ble_eq_true rfl) ⟨Nat.zero_le _, Nat.zero_le _⟩ dX11_addRule_26) (fun H locs hT t5a => ?_)
    refine lv_astore_n (lv' := [(1, .ref (B + r5)), (0, .ref (B + x0))]) hx hb dX11_addRule_29 rfl hl (by decide) rfl (fun ls hl => ?_)
    refine lv_aload_n hx hb dX11_addRule_30 rfl (lv_at hl 1 rfl) ?_
    refine js_gR C hT cfX11 t0 0 (by decide) (q := 6) rfl (by decide) lk_X11_12 dX11_addRule_31 (fun t6a => ?_)
    refine lv_aload_n hx hb dX11_addRule_34 rfl (lv_at hl 1 rfl) ?_
    refine js_gR C hT cfX11 t0 0 (by decide) (q := 6) rfl (by decide) lk_X11_12 dX11_addRule_35 (fun t7a => ?_)
    refine js_gIN C hT cfX6 t7a 5 (by decide) rfl lk_X11_84 dX11_addRule_38 ?_
    obtain ⟨r8, σ8, hc8, h⟩ := bd_some h
    refine js_backR hT (js_runV C hT cfX6 t6a rfl mfX6_right lk_X11_112 (kX6_right t6a hc8) ⟨Nat.le_of_ble_eq_true rfl, Nat.le_of_ble_eq_true rfl⟩ rfl hl.1 rfl (Nat.le_of_ble_eq_true rfl) ⟨Nat.zero_le _, Nat.zero_le _⟩ dX11_addRule_41) (fun H locs hT t8a => ?_)
    refine lv_astore_n (lv' := [(2, .ref (B + r8)), (1, .ref (B + r5)), (0, .ref (B + x0))]) hx hb dX11_addRule_44 rfl hl (by decide) rfl (fun ls hl => ?_)
    refine lv_aload_n hx hb dX11_addRule_45 rfl (lv_at hl 2 rfl) ?_
    refine js_gR C hT cfX11 t0 3 (by decide) (q := 10) rfl (by decide) lk_X11_24 dX11_addRule_46 (fun t9a => ?_)
    refine lv_aload_n hx hb dX11_addRule_49 rfl (lv_at hl 2 rfl) ?_
    refine js_gR C hT cfX11 t0 0 (by decide) (q := 6) rfl (by decide) lk_X11_12 dX11_addRule_50 (fun t10a => ?_)
    refine js_gRN C hT cfX6 t10a 0 (by decide) (q := 8) rfl (by decide) lk_X11_88 dX11_addRule_53 (fun t11a => ?_)
    refine lv_aload_n hx hb dX11_addRule_56 rfl (lv_at hl 1 rfl) ?_
    refine lv_aload_n hx hb dX11_addRule_57 rfl (lv_at hl 0 rfl) ?_
    obtain ⟨r12, σ12, hc12, h⟩ := bd_some h
    refine js_backI hT (js_runV C hT cfX10 t9a rfl mfX10_readRule lk_X11_115 (kX10_readRule t9a t11a t5a t8a hc12) ⟨Nat.le_of_ble_eq_true rfl, Nat.le_of_ble_eq_true rfl⟩ rfl hl.1 rfl (Nat.le_of_ble_eq_true rfl) ⟨Nat.zero_le _, Nat.zero_le _⟩ dX11_addRule_58) (fun H locs hT => ?_)
    refine lv_istore_n (lv' := [(3, .int r12), (2, .ref (B + r8)), (1, .ref (B + r5)), (0, .ref (B + x0))]) hx hb dX11_addRule_61 rfl hl (by decide) rfl (fun ls hl => ?_)
    refine lv_aload_n hx hb dX11_addRule_62 rfl (lv_at hl 3 rfl) ?_
    refine js_gR C hT cfX11 t0 3 (by decide) (q := 10) rfl (by decide) lk_X11_24 dX11_addRule_63 (fun t13a => ?_)
    refine js_gIN C hT cfX10 t13a 3 (by decide) rfl lk_X11_119 dX11_addRule_66 ?_
    refine lv_istore (lv' := [(4, .int (σ12.1 (σ12.2.2 x0 3) 3)), (3, .int r12), (2, .ref (B + r8)), (1, .ref (B + r5)), (0, .ref (B + x0))]) hx hb dX11_addRule_69 hl (by decide) rfl (fun ls hl => ?_)
    refine lv_aload_n hx hb dX11_addRule_71 rfl (lv_at hl 4 rfl) ?_
    refine js_gR C hT cfX11 t0 3 (by decide) (q := 10) rfl (by decide) lk_X11_24 dX11_addRule_72 (fun t14a => ?_)
    obtain ⟨z15, σ15, hc15, h⟩ := bd_some h
    refine js_backV hT (js_runV C hT cfX10 t14a rfl mfX10_empty lk_X11_122 (kX10_empty t14a hc15) ⟨Nat.le_of_ble_eq_true rfl, Nat.le_of_ble_eq_true rfl⟩ rfl hl.1 rfl (Nat.le_of_ble_eq_true rfl) ⟨Nat.zero_le _, Nat.zero_le _⟩ dX11_addRule_75) (fun H locs hT => ?_)
    refine lv_iload_n hx hb dX11_addRule_78 rfl (lv_at hl 1 rfl) ?_
    refine lv_if_ne (tgt := 88) hx hb dX11_addRule_79 (by decide) (fun c16 => ?_) (fun c16 => ?_)
    · rw [if_neg c16] at h
      refine lv_aload_n hx hb dX11_addRule_88 rfl (lv_at hl 3 rfl) ?_
      refine lv_aload_n hx hb dX11_addRule_89 rfl (lv_at hl 2 rfl) ?_
      obtain ⟨r17, σ17, hc17, h⟩ := bd_some h
      refine js_backI hT (js_runS C hT mfX11_isRule lk_X11_125 (kX11_isRule t5a t8a hc17) ⟨Nat.le_of_ble_eq_true rfl, Nat.le_of_ble_eq_true rfl⟩ rfl hl.1 rfl (Nat.le_of_ble_eq_true rfl) ⟨Nat.zero_le _, Nat.zero_le _⟩ dX11_addRule_90) (fun H locs hT => ?_)
      refine lv_if_ne (tgt := 99) hx hb dX11_addRule_93 (by decide) (fun c18 => ?_) (fun c18 => ?_)
      · rw [if_neg c18] at h
        refine lv_aload_n hx hb dX11_addRule_99 rfl (lv_at hl 4 rfl) ?_
        refine js_gR C hT cfX11 t0 0 (by decide) (q := 6) rfl (by decide) lk_X11_12 dX11_addRule_100 (fun t19a => ?_)
        refine lv_dup hx hb dX11_addRule_103 rfl ?_
        refine js_gIN C hT cfX6 t19a 5 (by decide) rfl lk_X11_84 dX11_addRule_104 ?_
        refine lv_iconst (v := 1) hx hb dX11_addRule_107 (by decide) ?_
        refine lv_iadd hx hb dX11_addRule_108 ?_
        obtain ⟨σ20, e20, h⟩ := lt_some h
        refine js_pIN C hT cfX6 t19a 5 (by decide) rfl rfl rfl rfl lk_X11_84 dX11_addRule_109 (fun H locs hT => ?_)
        rw [e20] at hT
        refine lv_aload_n hx hb dX11_addRule_112 rfl (lv_at hl 4 rfl) ?_
        obtain ⟨z21, σ21, hc21, h⟩ := bd_some h
        refine js_backV hT (js_runV C hT cfX11 t0 rfl mfX11_rulesChanged lk_X11_129 (kX11_rulesChanged t0 hc21) ⟨Nat.le_of_ble_eq_true rfl, Nat.le_of_ble_eq_true rfl⟩ rfl hl.1 rfl (Nat.le_of_ble_eq_true rfl) ⟨Nat.zero_le _, Nat.zero_le _⟩ dX11_addRule_113) (fun H locs hT => ?_)
        refine lv_aload_n hx hb dX11_addRule_116 rfl (lv_at hl 4 rfl) ?_
        refine js_gR C hT cfX11 t0 0 (by decide) (q := 6) rfl (by decide) lk_X11_12 dX11_addRule_117 (fun t22a => ?_)
        refine js_gIN C hT cfX6 t22a 5 (by decide) rfl lk_X11_84 dX11_addRule_120 ?_
        refine lv_iconst (v := 1) hx hb dX11_addRule_123 (by decide) ?_
        refine lv_isub hx hb dX11_addRule_124 ?_
        obtain ⟨rfl, rfl⟩ := js_rt h
        exact js_iret C hT hr hk dX11_addRule_125
      · rw [if_pos c18] at h
        refine lv_bipush (v := (-6)) hx hb dX11_addRule_96 (by decide) ?_
        obtain ⟨rfl, rfl⟩ := js_rt h
        exact js_iret C hT hr hk dX11_addRule_98
    · rw [if_pos c16] at h
      refine lv_bipush (v := (-100)) hx hb dX11_addRule_82 (by decide) ?_
      refine lv_iload hx hb dX11_addRule_84 (lv_at hl 0 rfl) ?_
      refine lv_isub hx hb dX11_addRule_86 ?_
      obtain ⟨rfl, rfl⟩ := js_rt h
      exact js_iret C hT hr hk dX11_addRule_87
  · rw [if_neg c2] at h
    refine lv_bipush (v := (-4)) hx hb dX11_addRule_12 (by decide) ?_
    obtain ⟨rfl, rfl⟩ := js_rt h
    exact js_iret C hT hr hk dX11_addRule_14
set_option maxHeartbeats 4000000 in
set_option maxRecDepth 20000 in
theorem kX11_appendCharacter {x0 : Nat} {x1 : Int32} {σ σ0 : js_S} {r0 : Int32} (t0 : ob_ nn 11 x0) (h : fX11_appendCharacter fu x0 x1 σ = some (r0, σ0)) : js_M l D B g nn yX11_appendCharacter cX11_appendCharacter 2 (some .int) 1 [.ref (B + x0), .int x1] σ (js_QI D B g nn r0 σ0) := by
  refine js_enter (by decide) (Nat.le_of_ble_eq_true rfl) ?_
  intro p e s m args below meth c C hr hk ls hl hT
  have hl : lv_has ls 2 [(0, .ref (B + x0)), (1, .int x1)] := hl
  obtain ⟨hx, hb, hml, hown, ht, hK, hNw⟩ := id C
  obtain ⟨H, eH⟩ : ∃ H, H = s.heap := ⟨_, rfl⟩
  obtain ⟨locs, eL⟩ : ∃ z : List Loc, z = [] := ⟨_, rfl⟩
  rw [← eH, ← eL]
  rw [← eH, ← eL] at hT
  clear eH eL
  unfold fX11_appendCharacter at h
  refine lv_iload_n hx hb dX11_appendCharacter_0 rfl (lv_at hl 1 rfl) ?_
  refine lv_bipush (v := 32) hx hb dX11_appendCharacter_1 (by decide) ?_
  refine lv_icmp_lt (tgt := 12) hx hb dX11_appendCharacter_3 (by decide) (fun c1 => ?_) (fun c1 => ?_)
  · rw [if_pos c1] at h
    refine lv_bipush (v := (-2)) hx hb dX11_appendCharacter_12 (by decide) ?_
    obtain ⟨rfl, rfl⟩ := js_rt h
    exact js_iret C hT hr hk dX11_appendCharacter_14
  · rw [if_neg c1] at h
    refine lv_iload_n hx hb dX11_appendCharacter_6 rfl (lv_at hl 1 rfl) ?_
    refine lv_bipush (v := 126) hx hb dX11_appendCharacter_7 (by decide) ?_
    refine lv_icmp_le (tgt := 15) hx hb dX11_appendCharacter_9 (by decide) (fun c2 => ?_) (fun c2 => ?_)
    · rw [if_pos c2] at h
      refine lv_aload_n hx hb dX11_appendCharacter_15 rfl (lv_at hl 0 rfl) ?_
      refine js_gR C hT cfX11 t0 3 (by decide) (q := 10) rfl (by decide) lk_X11_24 dX11_appendCharacter_16 (fun t3a => ?_)
      refine lv_iload_n hx hb dX11_appendCharacter_19 rfl (lv_at hl 1 rfl) ?_
      obtain ⟨r4, σ4, hc4, h⟩ := bd_some h
      refine js_backI hT (js_runV C hT cfX10 t3a rfl mfX10_append lk_X11_295 (kX10_append t3a hc4) ⟨Nat.le_of_ble_eq_true rfl, Nat.le_of_ble_eq_true rfl⟩ rfl hl.1 rfl (Nat.le_of_ble_eq_true rfl) ⟨Nat.zero_le _, Nat.zero_le _⟩ dX11_appendCharacter_20) (fun H locs hT => ?_)
      refine lv_if_eq (tgt := 36) hx hb dX11_appendCharacter_23 (by decide) (fun c5 => ?_) (fun c5 => ?_)
      · rw [if_pos c5] at h
        refine lv_bipush (v := (-4)) hx hb dX11_appendCharacter_36 (by decide) ?_
        obtain ⟨rfl, rfl⟩ := js_rt h
        exact js_iret C hT hr hk dX11_appendCharacter_38
      · rw [if_neg c5] at h
        refine lv_aload_n hx hb dX11_appendCharacter_26 rfl (lv_at hl 0 rfl) ?_
        refine js_gR C hT cfX11 t0 3 (by decide) (q := 10) rfl (by decide) lk_X11_24 dX11_appendCharacter_27 (fun t6a => ?_)
        refine js_gIN C hT cfX10 t6a 2 (by decide) rfl lk_X11_244 dX11_appendCharacter_30 ?_
        refine lv_goto (tgt := 38) hx hb dX11_appendCharacter_33 (by decide) ?_
        obtain ⟨rfl, rfl⟩ := js_rt h
        exact js_iret C hT hr hk dX11_appendCharacter_38
    · rw [if_neg c2] at h
      refine lv_bipush (v := (-2)) hx hb dX11_appendCharacter_12 (by decide) ?_
      obtain ⟨rfl, rfl⟩ := js_rt h
      exact js_iret C hT hr hk dX11_appendCharacter_14
set_option maxHeartbeats 4000000 in
set_option maxRecDepth 20000 in
theorem kX11_arity {x0 : Nat} {x1 : Int32} {σ σ0 : js_S} {r0 : Int32} (t0 : ob_ nn 11 x0) (h : fX11_arity fu x0 x1 σ = some (r0, σ0)) : js_M l D B g nn yX11_arity cX11_arity 2 (some .int) 1 [.ref (B + x0), .int x1] σ (js_QI D B g nn r0 σ0) := by
  refine js_enter (by decide) (Nat.le_of_ble_eq_true rfl) ?_
  intro p e s m args below meth c C hr hk ls hl hT
  have hl : lv_has ls 2 [(0, .ref (B + x0)), (1, .int x1)] := hl
  obtain ⟨hx, hb, hml, hown, ht, hK, hNw⟩ := id C
  obtain ⟨H, eH⟩ : ∃ H, H = s.heap := ⟨_, rfl⟩
  obtain ⟨locs, eL⟩ : ∃ z : List Loc, z = [] := ⟨_, rfl⟩
  rw [← eH, ← eL]
  rw [← eH, ← eL] at hT
  clear eH eL
  unfold fX11_arity at h
  refine lv_iload_n hx hb dX11_arity_0 rfl (lv_at hl 1 rfl) ?_
  obtain ⟨r1, σ1, hc1, h⟩ := bd_some h
  refine js_backI hT (js_runS C hT mfX11_isFunctionNumber lk_X11_80 (kX11_isFunctionNumber  hc1) ⟨Nat.le_of_ble_eq_true rfl, Nat.le_of_ble_eq_true rfl⟩ rfl hl.1 rfl (Nat.le_of_ble_eq_true rfl) ⟨Nat.zero_le _, Nat.zero_le _⟩ dX11_arity_1) (fun H locs hT => ?_)
  refine lv_if_eq (tgt := 21) hx hb dX11_arity_4 (by decide) (fun c2 => ?_) (fun c2 => ?_)
  · rw [if_pos c2] at h
    refine lv_iconst (v := (-1)) hx hb dX11_arity_21 (by decide) ?_
    obtain ⟨rfl, rfl⟩ := js_rt h
    exact js_iret C hT hr hk dX11_arity_22
  · rw [if_neg c2] at h
    refine lv_aload_n hx hb dX11_arity_7 rfl (lv_at hl 0 rfl) ?_
    refine js_gR C hT cfX11 t0 0 (by decide) (q := 6) rfl (by decide) lk_X11_12 dX11_arity_8 (fun t3a => ?_)
    refine js_gRN C hT cfX6 t3a 0 (by decide) (q := 8) rfl (by decide) lk_X11_88 dX11_arity_11 (fun t4a => ?_)
    refine lv_iload_n hx hb dX11_arity_14 rfl (lv_at hl 1 rfl) ?_
    obtain ⟨r5, σ5, hc5, h⟩ := bd_some h
    refine js_backI hT (js_runV C hT cfX8 t4a rfl mfX8_ofFunction lk_X11_92 (kX8_ofFunction t4a hc5) ⟨Nat.le_of_ble_eq_true rfl, Nat.le_of_ble_eq_true rfl⟩ rfl hl.1 rfl (Nat.le_of_ble_eq_true rfl) ⟨Nat.zero_le _, Nat.zero_le _⟩ dX11_arity_15) (fun H locs hT => ?_)
    refine lv_goto (tgt := 22) hx hb dX11_arity_18 (by decide) ?_
    obtain ⟨rfl, rfl⟩ := js_rt h
    exact js_iret C hT hr hk dX11_arity_22
set_option maxHeartbeats 4000000 in
set_option maxRecDepth 20000 in
theorem kX11_clearText {x0 : Nat} {σ σ0 : js_S} {r0 : Int32} (t0 : ob_ nn 11 x0) (h : fX11_clearText fu x0 σ = some (r0, σ0)) : js_M l D B g nn yX11_clearText cX11_clearText 2 (some .int) 1 [.ref (B + x0)] σ (js_QI D B g nn r0 σ0) := by
  refine js_enter (by decide) (Nat.le_of_ble_eq_true rfl) ?_
  intro p e s m args below meth c C hr hk ls hl hT
  have hl : lv_has ls 2 [(0, .ref (B + x0))] := hl
  obtain ⟨hx, hb, hml, hown, ht, hK, hNw⟩ := id C
  obtain ⟨H, eH⟩ : ∃ H, H = s.heap := ⟨_, rfl⟩
  obtain ⟨locs, eL⟩ : ∃ z : List Loc, z = [] := ⟨_, rfl⟩
  rw [← eH, ← eL]
  rw [← eH, ← eL] at hT
  clear eH eL
  unfold fX11_clearText at h
  refine lv_aload_n hx hb dX11_clearText_0 rfl (lv_at hl 0 rfl) ?_
  refine js_gR C hT cfX11 t0 3 (by decide) (q := 10) rfl (by decide) lk_X11_24 dX11_clearText_1 (fun t1a => ?_)
  refine js_gIN C hT cfX10 t1a 2 (by decide) rfl lk_X11_244 dX11_clearText_4 ?_
  refine lv_istore_n (lv' := [(1, .int (σ.1 (σ.2.2 x0 3) 2)), (0, .ref (B + x0))]) hx hb dX11_clearText_7 rfl hl (by decide) rfl (fun ls hl => ?_)
  refine lv_aload_n hx hb dX11_clearText_8 rfl (lv_at hl 1 rfl) ?_
  refine js_gR C hT cfX11 t0 3 (by decide) (q := 10) rfl (by decide) lk_X11_24 dX11_clearText_9 (fun t2a => ?_)
  obtain ⟨z3, σ3, hc3, h⟩ := bd_some h
  refine js_backV hT (js_runV C hT cfX10 t2a rfl mfX10_empty lk_X11_122 (kX10_empty t2a hc3) ⟨Nat.le_of_ble_eq_true rfl, Nat.le_of_ble_eq_true rfl⟩ rfl hl.1 rfl (Nat.le_of_ble_eq_true rfl) ⟨Nat.zero_le _, Nat.zero_le _⟩ dX11_clearText_12) (fun H locs hT => ?_)
  refine lv_iload_n hx hb dX11_clearText_15 rfl (lv_at hl 0 rfl) ?_
  obtain ⟨rfl, rfl⟩ := js_rt h
  exact js_iret C hT hr hk dX11_clearText_16
set_option maxHeartbeats 4000000 in
set_option maxRecDepth 20000 in
theorem kX11_currentPairs {x0 : Nat} {σ σ0 : js_S} {r0 : Nat} (t0 : ob_ nn 11 x0) (h : fX11_currentPairs fu x0 σ = some (r0, σ0)) : js_M l D B g nn yX11_currentPairs cX11_currentPairs 1 (some (.object "DependencyPairAnalyzer$PairTable")) 5 [.ref (B + x0)] σ (js_QR D B g nn 5 r0 σ0) := by
  refine js_enter (by decide) (Nat.le_of_ble_eq_true rfl) ?_
  intro p e s m args below meth c C hr hk ls hl hT
  have hl : lv_has ls 1 [(0, .ref (B + x0))] := hl
  obtain ⟨hx, hb, hml, hown, ht, hK, hNw⟩ := id C
  obtain ⟨H, eH⟩ : ∃ H, H = s.heap := ⟨_, rfl⟩
  obtain ⟨locs, eL⟩ : ∃ z : List Loc, z = [] := ⟨_, rfl⟩
  rw [← eH, ← eL]
  rw [← eH, ← eL] at hT
  clear eH eL
  unfold fX11_currentPairs at h
  refine lv_aload_n hx hb dX11_currentPairs_0 rfl (lv_at hl 0 rfl) ?_
  refine js_gI C hT cfX11 t0 9 (by decide) rfl lk_X11_308 dX11_currentPairs_1 ?_
  refine lv_if_ne (tgt := 23) hx hb dX11_currentPairs_4 (by decide) (fun c1 => ?_) (fun c1 => ?_)
  · rw [if_neg c1] at h
    refine lv_aload_n hx hb dX11_currentPairs_23 rfl (lv_at hl 0 rfl) ?_
    refine js_gR C hT cfX11 t0 8 (by decide) (q := 5) rfl (by decide) lk_X11_55 dX11_currentPairs_24 (fun t2a => ?_)
    obtain ⟨rfl, rfl⟩ := js_rt h
    exact js_aret C hT t2a hr hk dX11_currentPairs_27
  · rw [if_pos c1] at h
    refine lv_aload_n hx hb dX11_currentPairs_7 rfl (lv_at hl 0 rfl) ?_
    refine js_gR C hT cfX11 t0 8 (by decide) (q := 5) rfl (by decide) lk_X11_55 dX11_currentPairs_8 (fun t3a => ?_)
    refine lv_aload_n hx hb dX11_currentPairs_11 rfl (lv_at hl 0 rfl) ?_
    refine js_gR C hT cfX11 t0 0 (by decide) (q := 6) rfl (by decide) lk_X11_12 dX11_currentPairs_12 (fun t4a => ?_)
    obtain ⟨z5, σ5, hc5, h⟩ := bd_some h
    refine js_backV hT (js_runV C hT cfX5 t3a rfl mfX5_rebuild lk_X11_320 (kX5_rebuild t3a t4a hc5) ⟨Nat.le_of_ble_eq_true rfl, Nat.le_of_ble_eq_true rfl⟩ rfl hl.1 rfl (Nat.le_of_ble_eq_true rfl) ⟨Nat.zero_le _, Nat.zero_le _⟩ dX11_currentPairs_15) (fun H locs hT => ?_)
    refine lv_aload_n hx hb dX11_currentPairs_18 rfl (lv_at hl 0 rfl) ?_
    refine lv_iconst (v := 1) hx hb dX11_currentPairs_19 (by decide) ?_
    obtain ⟨σ6, e6, h⟩ := lt_some h
    refine js_pI C hT cfX11 t0 9 (by decide) rfl rfl rfl rfl lk_X11_308 dX11_currentPairs_20 (fun H locs hT => ?_)
    rw [e6] at hT
    refine lv_aload_n hx hb dX11_currentPairs_23 rfl (lv_at hl 0 rfl) ?_
    refine js_gR C hT cfX11 t0 8 (by decide) (q := 5) rfl (by decide) lk_X11_55 dX11_currentPairs_24 (fun t7a => ?_)
    obtain ⟨rfl, rfl⟩ := js_rt h
    exact js_aret C hT t7a hr hk dX11_currentPairs_27
set_option maxHeartbeats 4000000 in
set_option maxRecDepth 20000 in
theorem kX11_currentClosure {x0 : Nat} {σ σ0 : js_S} {r0 : Nat} (t0 : ob_ nn 11 x0) (h : fX11_currentClosure fu x0 σ = some (r0, σ0)) : js_M l D B g nn yX11_currentClosure cX11_currentClosure 1 (some (.object "DependencyPairAnalyzer$Closure")) 6 [.ref (B + x0)] σ (js_QR D B g nn 0 r0 σ0) := by
  refine js_enter (by decide) (Nat.le_of_ble_eq_true rfl) ?_
  intro p e s m args below meth c C hr hk ls hl hT
  have hl : lv_has ls 1 [(0, .ref (B + x0))] := hl
  obtain ⟨hx, hb, hml, hown, ht, hK, hNw⟩ := id C
  obtain ⟨H, eH⟩ : ∃ H, H = s.heap := ⟨_, rfl⟩
  obtain ⟨locs, eL⟩ : ∃ z : List Loc, z = [] := ⟨_, rfl⟩
  rw [← eH, ← eL]
  rw [← eH, ← eL] at hT
  clear eH eL
  unfold fX11_currentClosure at h
  refine lv_aload_n hx hb dX11_currentClosure_0 rfl (lv_at hl 0 rfl) ?_
  refine js_gI C hT cfX11 t0 13 (by decide) rfl lk_X11_314 dX11_currentClosure_1 ?_
  refine lv_if_ne (tgt := 23) hx hb dX11_currentClosure_4 (by decide) (fun c1 => ?_) (fun c1 => ?_)
  · rw [if_neg c1] at h
    refine lv_aload_n hx hb dX11_currentClosure_23 rfl (lv_at hl 0 rfl) ?_
    refine js_gR C hT cfX11 t0 12 (by decide) (q := 0) rfl (by decide) lk_X11_69 dX11_currentClosure_24 (fun t2a => ?_)
    obtain ⟨rfl, rfl⟩ := js_rt h
    exact js_aret C hT t2a hr hk dX11_currentClosure_27
  · rw [if_pos c1] at h
    refine lv_aload_n hx hb dX11_currentClosure_7 rfl (lv_at hl 0 rfl) ?_
    refine js_gR C hT cfX11 t0 12 (by decide) (q := 0) rfl (by decide) lk_X11_69 dX11_currentClosure_8 (fun t3a => ?_)
    refine lv_aload_n hx hb dX11_currentClosure_11 rfl (lv_at hl 0 rfl) ?_
    obtain ⟨r4, σ4, hc4, h⟩ := bd_some h
    refine js_backR hT (js_runV C hT cfX11 t0 rfl mfX11_currentPairs lk_X11_141 (kX11_currentPairs t0 hc4) ⟨Nat.le_of_ble_eq_true rfl, Nat.le_of_ble_eq_true rfl⟩ rfl hl.1 rfl (Nat.le_of_ble_eq_true rfl) ⟨Nat.zero_le _, Nat.zero_le _⟩ dX11_currentClosure_12) (fun H locs hT t4a => ?_)
    obtain ⟨z5, σ5, hc5, h⟩ := bd_some h
    refine js_backV hT (js_runV C hT cfX0 t3a rfl mfX0_rebuild lk_X11_329 (kX0_rebuild t3a t4a hc5) ⟨Nat.le_of_ble_eq_true rfl, Nat.le_of_ble_eq_true rfl⟩ rfl hl.1 rfl (Nat.le_of_ble_eq_true rfl) ⟨Nat.zero_le _, Nat.zero_le _⟩ dX11_currentClosure_15) (fun H locs hT => ?_)
    refine lv_aload_n hx hb dX11_currentClosure_18 rfl (lv_at hl 0 rfl) ?_
    refine lv_iconst (v := 1) hx hb dX11_currentClosure_19 (by decide) ?_
    obtain ⟨σ6, e6, h⟩ := lt_some h
    refine js_pI C hT cfX11 t0 13 (by decide) rfl rfl rfl rfl lk_X11_314 dX11_currentClosure_20 (fun H locs hT => ?_)
    rw [e6] at hT
    refine lv_aload_n hx hb dX11_currentClosure_23 rfl (lv_at hl 0 rfl) ?_
    refine js_gR C hT cfX11 t0 12 (by decide) (q := 0) rfl (by decide) lk_X11_69 dX11_currentClosure_24 (fun t7a => ?_)
    obtain ⟨rfl, rfl⟩ := js_rt h
    exact js_aret C hT t7a hr hk dX11_currentClosure_27
set_option maxHeartbeats 4000000 in
set_option maxRecDepth 20000 in
theorem kX11_closureSize {x0 : Nat} {σ σ0 : js_S} {r0 : Int32} (t0 : ob_ nn 11 x0) (h : fX11_closureSize fu x0 σ = some (r0, σ0)) : js_M l D B g nn yX11_closureSize cX11_closureSize 2 (some .int) 7 [.ref (B + x0)] σ (js_QI D B g nn r0 σ0) := by
  refine js_enter (by decide) (Nat.le_of_ble_eq_true rfl) ?_
  intro p e s m args below meth c C hr hk ls hl hT
  have hl : lv_has ls 2 [(0, .ref (B + x0))] := hl
  obtain ⟨hx, hb, hml, hown, ht, hK, hNw⟩ := id C
  obtain ⟨H, eH⟩ : ∃ H, H = s.heap := ⟨_, rfl⟩
  obtain ⟨locs, eL⟩ : ∃ z : List Loc, z = [] := ⟨_, rfl⟩
  rw [← eH, ← eL]
  rw [← eH, ← eL] at hT
  clear eH eL
  unfold fX11_closureSize at h
  refine lv_aload_n hx hb dX11_closureSize_0 rfl (lv_at hl 0 rfl) ?_
  obtain ⟨r1, σ1, hc1, h⟩ := bd_some h
  refine js_backR hT (js_runV C hT cfX11 t0 rfl mfX11_currentClosure lk_X11_191 (kX11_currentClosure t0 hc1) ⟨Nat.le_of_ble_eq_true rfl, Nat.le_of_ble_eq_true rfl⟩ rfl hl.1 rfl (Nat.le_of_ble_eq_true rfl) ⟨Nat.zero_le _, Nat.zero_le _⟩ dX11_closureSize_1) (fun H locs hT t1a => ?_)
  refine lv_astore_n (lv' := [(1, .ref (B + r1)), (0, .ref (B + x0))]) hx hb dX11_closureSize_4 rfl hl (by decide) rfl (fun ls hl => ?_)
  refine lv_aload_n hx hb dX11_closureSize_5 rfl (lv_at hl 0 rfl) ?_
  refine js_gIN C hT cfX0 t1a 5 (by decide) rfl lk_X11_195 dX11_closureSize_6 ?_
  refine lv_if_eq (tgt := 17) hx hb dX11_closureSize_9 (by decide) (fun c2 => ?_) (fun c2 => ?_)
  · rw [if_pos c2] at h
    refine lv_aload_n hx hb dX11_closureSize_17 rfl (lv_at hl 0 rfl) ?_
    refine js_gIN C hT cfX0 t1a 2 (by decide) rfl lk_X11_199 dX11_closureSize_18 ?_
    obtain ⟨rfl, rfl⟩ := js_rt h
    exact js_iret C hT hr hk dX11_closureSize_21
  · rw [if_neg c2] at h
    refine lv_bipush (v := (-8)) hx hb dX11_closureSize_12 (by decide) ?_
    refine lv_goto (tgt := 21) hx hb dX11_closureSize_14 (by decide) ?_
    obtain ⟨rfl, rfl⟩ := js_rt h
    exact js_iret C hT hr hk dX11_closureSize_21
set_option maxHeartbeats 4000000 in
set_option maxRecDepth 20000 in
theorem kX11_compareTerms {x0 : Nat} {x1 : Int32} {x2 : Int32} {σ σ0 : js_S} {r0 : Int32} (t0 : ob_ nn 11 x0) (h : fX11_compareTerms fu x0 x1 x2 σ = some (r0, σ0)) : js_M l D B g nn yX11_compareTerms cX11_compareTerms 4 (some .int) 2 [.ref (B + x0), .int x1, .int x2] σ (js_QI D B g nn r0 σ0) := by
  refine js_enter (by decide) (Nat.le_of_ble_eq_true rfl) ?_
  intro p e s m args below meth c C hr hk ls hl hT
  have hl : lv_has ls 4 [(0, .ref (B + x0)), (1, .int x1), (2, .int x2)] := hl
  obtain ⟨hx, hb, hml, hown, ht, hK, hNw⟩ := id C
  obtain ⟨H, eH⟩ : ∃ H, H = s.heap := ⟨_, rfl⟩
  obtain ⟨locs, eL⟩ : ∃ z : List Loc, z = [] := ⟨_, rfl⟩
  rw [← eH, ← eL]
  rw [← eH, ← eL] at hT
  clear eH eL
  unfold fX11_compareTerms at h
  refine lv_iload_n hx hb dX11_compareTerms_0 rfl (lv_at hl 1 rfl) ?_
  obtain ⟨r1, σ1, hc1, h⟩ := bd_some h
  refine js_backI hT (js_runS C hT mfX11_hasRegister lk_X11_226 (kX11_hasRegister  hc1) ⟨Nat.le_of_ble_eq_true rfl, Nat.le_of_ble_eq_true rfl⟩ rfl hl.1 rfl (Nat.le_of_ble_eq_true rfl) ⟨Nat.zero_le _, Nat.zero_le _⟩ dX11_compareTerms_1) (fun H locs hT => ?_)
  refine lv_if_eq (tgt := 14) hx hb dX11_compareTerms_4 (by decide) (fun c2 => ?_) (fun c2 => ?_)
  · rw [if_pos c2] at h
    refine lv_iconst (v := (-1)) hx hb dX11_compareTerms_14 (by decide) ?_
    obtain ⟨rfl, rfl⟩ := js_rt h
    exact js_iret C hT hr hk dX11_compareTerms_15
  · rw [if_neg c2] at h
    refine lv_iload_n hx hb dX11_compareTerms_7 rfl (lv_at hl 2 rfl) ?_
    obtain ⟨r3, σ3, hc3, h⟩ := bd_some h
    refine js_backI hT (js_runS C hT mfX11_hasRegister lk_X11_226 (kX11_hasRegister  hc3) ⟨Nat.le_of_ble_eq_true rfl, Nat.le_of_ble_eq_true rfl⟩ rfl hl.1 rfl (Nat.le_of_ble_eq_true rfl) ⟨Nat.zero_le _, Nat.zero_le _⟩ dX11_compareTerms_8) (fun H locs hT => ?_)
    refine lv_if_ne (tgt := 16) hx hb dX11_compareTerms_11 (by decide) (fun c4 => ?_) (fun c4 => ?_)
    · rw [if_neg c4] at h
      refine lv_aload_n hx hb dX11_compareTerms_16 rfl (lv_at hl 0 rfl) ?_
      refine js_gR C hT cfX11 t0 0 (by decide) (q := 6) rfl (by decide) lk_X11_12 dX11_compareTerms_17 (fun t5a => ?_)
      refine lv_iload_n hx hb dX11_compareTerms_20 rfl (lv_at hl 1 rfl) ?_
      obtain ⟨r6, σ6, hc6, h⟩ := bd_some h
      refine js_backR hT (js_runV C hT cfX6 t5a rfl mfX6_register lk_X11_237 (kX6_register t5a hc6) ⟨Nat.le_of_ble_eq_true rfl, Nat.le_of_ble_eq_true rfl⟩ rfl hl.1 rfl (Nat.le_of_ble_eq_true rfl) ⟨Nat.zero_le _, Nat.zero_le _⟩ dX11_compareTerms_21) (fun H locs hT t6a => ?_)
      refine lv_aload_n hx hb dX11_compareTerms_24 rfl (lv_at hl 0 rfl) ?_
      refine js_gR C hT cfX11 t0 0 (by decide) (q := 6) rfl (by decide) lk_X11_12 dX11_compareTerms_25 (fun t7a => ?_)
      refine lv_iload_n hx hb dX11_compareTerms_28 rfl (lv_at hl 2 rfl) ?_
      obtain ⟨r8, σ8, hc8, h⟩ := bd_some h
      refine js_backR hT (js_runV C hT cfX6 t7a rfl mfX6_register lk_X11_237 (kX6_register t7a hc8) ⟨Nat.le_of_ble_eq_true rfl, Nat.le_of_ble_eq_true rfl⟩ rfl hl.1 rfl (Nat.le_of_ble_eq_true rfl) ⟨Nat.zero_le _, Nat.zero_le _⟩ dX11_compareTerms_29) (fun H locs hT t8a => ?_)
      obtain ⟨r9, σ9, hc9, h⟩ := bd_some h
      refine js_backI hT (js_runV C hT cfX9 t6a rfl mfX9_orderAgainst lk_X11_250 (kX9_orderAgainst t6a t8a hc9) ⟨Nat.le_of_ble_eq_true rfl, Nat.le_of_ble_eq_true rfl⟩ rfl hl.1 rfl (Nat.le_of_ble_eq_true rfl) ⟨Nat.zero_le _, Nat.zero_le _⟩ dX11_compareTerms_32) (fun H locs hT => ?_)
      refine lv_istore_n (lv' := [(3, .int r9), (0, .ref (B + x0)), (1, .int x1), (2, .int x2)]) hx hb dX11_compareTerms_35 rfl hl (by decide) rfl (fun ls hl => ?_)
      refine lv_iload_n hx hb dX11_compareTerms_36 rfl (lv_at hl 0 rfl) ?_
      refine lv_if_ne (tgt := 42) hx hb dX11_compareTerms_37 (by decide) (fun c10 => ?_) (fun c10 => ?_)
      · rw [if_neg c10] at h
        refine lv_iload_n hx hb dX11_compareTerms_42 rfl (lv_at hl 0 rfl) ?_
        refine lv_if_ge (tgt := 50) hx hb dX11_compareTerms_43 (by decide) (fun c11 => ?_) (fun c11 => ?_)
        · rw [if_pos c11] at h
          refine lv_iconst (v := 2) hx hb dX11_compareTerms_50 (by decide) ?_
          obtain ⟨rfl, rfl⟩ := js_rt h
          exact js_iret C hT hr hk dX11_compareTerms_51
        · rw [if_neg c11] at h
          refine lv_iconst (v := 0) hx hb dX11_compareTerms_46 (by decide) ?_
          refine lv_goto (tgt := 51) hx hb dX11_compareTerms_47 (by decide) ?_
          obtain ⟨rfl, rfl⟩ := js_rt h
          exact js_iret C hT hr hk dX11_compareTerms_51
      · rw [if_pos c10] at h
        refine lv_iconst (v := 1) hx hb dX11_compareTerms_40 (by decide) ?_
        obtain ⟨rfl, rfl⟩ := js_rt h
        exact js_iret C hT hr hk dX11_compareTerms_41
    · rw [if_pos c4] at h
      refine lv_iconst (v := (-1)) hx hb dX11_compareTerms_14 (by decide) ?_
      obtain ⟨rfl, rfl⟩ := js_rt h
      exact js_iret C hT hr hk dX11_compareTerms_15
set_option maxHeartbeats 4000000 in
set_option maxRecDepth 20000 in
theorem kX11_currentComponents {x0 : Nat} {σ σ0 : js_S} {r0 : Nat} (t0 : ob_ nn 11 x0) (h : fX11_currentComponents fu x0 σ = some (r0, σ0)) : js_M l D B g nn yX11_currentComponents cX11_currentComponents 2 (some (.object "DependencyPairAnalyzer$Components")) 6 [.ref (B + x0)] σ (js_QR D B g nn 1 r0 σ0) := by
  refine js_enter (by decide) (Nat.le_of_ble_eq_true rfl) ?_
  intro p e s m args below meth c C hr hk ls hl hT
  have hl : lv_has ls 2 [(0, .ref (B + x0))] := hl
  obtain ⟨hx, hb, hml, hown, ht, hK, hNw⟩ := id C
  obtain ⟨H, eH⟩ : ∃ H, H = s.heap := ⟨_, rfl⟩
  obtain ⟨locs, eL⟩ : ∃ z : List Loc, z = [] := ⟨_, rfl⟩
  rw [← eH, ← eL]
  rw [← eH, ← eL] at hT
  clear eH eL
  unfold fX11_currentComponents at h
  refine lv_aload_n hx hb dX11_currentComponents_0 rfl (lv_at hl 0 rfl) ?_
  refine js_gI C hT cfX11 t0 11 (by decide) rfl lk_X11_311 dX11_currentComponents_1 ?_
  refine lv_if_ne (tgt := 33) hx hb dX11_currentComponents_4 (by decide) (fun c1 => ?_) (fun c1 => ?_)
  · rw [if_neg c1] at h
    refine lv_aload_n hx hb dX11_currentComponents_33 rfl (lv_at hl 0 rfl) ?_
    refine js_gR C hT cfX11 t0 10 (by decide) (q := 1) rfl (by decide) lk_X11_62 dX11_currentComponents_34 (fun t2a => ?_)
    obtain ⟨rfl, rfl⟩ := js_rt h
    exact js_aret C hT t2a hr hk dX11_currentComponents_37
  · rw [if_pos c1] at h
    refine lv_aload_n hx hb dX11_currentComponents_7 rfl (lv_at hl 0 rfl) ?_
    obtain ⟨r3, σ3, hc3, h⟩ := bd_some h
    refine js_backR hT (js_runV C hT cfX11 t0 rfl mfX11_currentPairs lk_X11_141 (kX11_currentPairs t0 hc3) ⟨Nat.le_of_ble_eq_true rfl, Nat.le_of_ble_eq_true rfl⟩ rfl hl.1 rfl (Nat.le_of_ble_eq_true rfl) ⟨Nat.zero_le _, Nat.zero_le _⟩ dX11_currentComponents_8) (fun H locs hT t3a => ?_)
    refine lv_astore_n (lv' := [(1, .ref (B + r3)), (0, .ref (B + x0))]) hx hb dX11_currentComponents_11 rfl hl (by decide) rfl (fun ls hl => ?_)
    refine lv_aload_n hx hb dX11_currentComponents_12 rfl (lv_at hl 1 rfl) ?_
    refine js_gR C hT cfX11 t0 10 (by decide) (q := 1) rfl (by decide) lk_X11_62 dX11_currentComponents_13 (fun t4a => ?_)
    refine lv_aload_n hx hb dX11_currentComponents_16 rfl (lv_at hl 0 rfl) ?_
    obtain ⟨z5, σ5, hc5, h⟩ := bd_some h
    refine js_backV hT (js_runV C hT cfX1 t4a rfl mfX1_reset lk_X11_323 (kX1_reset t4a t3a hc5) ⟨Nat.le_of_ble_eq_true rfl, Nat.le_of_ble_eq_true rfl⟩ rfl hl.1 rfl (Nat.le_of_ble_eq_true rfl) ⟨Nat.zero_le _, Nat.zero_le _⟩ dX11_currentComponents_17) (fun H locs hT => ?_)
    refine lv_aload_n hx hb dX11_currentComponents_20 rfl (lv_at hl 1 rfl) ?_
    refine js_gR C hT cfX11 t0 10 (by decide) (q := 1) rfl (by decide) lk_X11_62 dX11_currentComponents_21 (fun t6a => ?_)
    refine lv_aload_n hx hb dX11_currentComponents_24 rfl (lv_at hl 0 rfl) ?_
    obtain ⟨z7, σ7, hc7, h⟩ := bd_some h
    refine js_backV hT (js_runV C hT cfX1 t6a rfl mfX1_rebuild lk_X11_327 (kX1_rebuild t6a t3a hc7) ⟨Nat.le_of_ble_eq_true rfl, Nat.le_of_ble_eq_true rfl⟩ rfl hl.1 rfl (Nat.le_of_ble_eq_true rfl) ⟨Nat.zero_le _, Nat.zero_le _⟩ dX11_currentComponents_25) (fun H locs hT => ?_)
    refine lv_aload_n hx hb dX11_currentComponents_28 rfl (lv_at hl 1 rfl) ?_
    refine lv_iconst (v := 1) hx hb dX11_currentComponents_29 (by decide) ?_
    obtain ⟨σ8, e8, h⟩ := lt_some h
    refine js_pI C hT cfX11 t0 11 (by decide) rfl rfl rfl rfl lk_X11_311 dX11_currentComponents_30 (fun H locs hT => ?_)
    rw [e8] at hT
    refine lv_aload_n hx hb dX11_currentComponents_33 rfl (lv_at hl 1 rfl) ?_
    refine js_gR C hT cfX11 t0 10 (by decide) (q := 1) rfl (by decide) lk_X11_62 dX11_currentComponents_34 (fun t9a => ?_)
    obtain ⟨rfl, rfl⟩ := js_rt h
    exact js_aret C hT t9a hr hk dX11_currentComponents_37
set_option maxHeartbeats 4000000 in
set_option maxRecDepth 20000 in
theorem kX11_componentCount {x0 : Nat} {σ σ0 : js_S} {r0 : Int32} (t0 : ob_ nn 11 x0) (h : fX11_componentCount fu x0 σ = some (r0, σ0)) : js_M l D B g nn yX11_componentCount cX11_componentCount 1 (some .int) 7 [.ref (B + x0)] σ (js_QI D B g nn r0 σ0) := by
  refine js_enter (by decide) (Nat.le_of_ble_eq_true rfl) ?_
  intro p e s m args below meth c C hr hk ls hl hT
  have hl : lv_has ls 1 [(0, .ref (B + x0))] := hl
  obtain ⟨hx, hb, hml, hown, ht, hK, hNw⟩ := id C
  obtain ⟨H, eH⟩ : ∃ H, H = s.heap := ⟨_, rfl⟩
  obtain ⟨locs, eL⟩ : ∃ z : List Loc, z = [] := ⟨_, rfl⟩
  rw [← eH, ← eL]
  rw [← eH, ← eL] at hT
  clear eH eL
  unfold fX11_componentCount at h
  refine lv_aload_n hx hb dX11_componentCount_0 rfl (lv_at hl 0 rfl) ?_
  obtain ⟨r1, σ1, hc1, h⟩ := bd_some h
  refine js_backR hT (js_runV C hT cfX11 t0 rfl mfX11_currentComponents lk_X11_179 (kX11_currentComponents t0 hc1) ⟨Nat.le_of_ble_eq_true rfl, Nat.le_of_ble_eq_true rfl⟩ rfl hl.1 rfl (Nat.le_of_ble_eq_true rfl) ⟨Nat.zero_le _, Nat.zero_le _⟩ dX11_componentCount_1) (fun H locs hT t1a => ?_)
  refine js_gIN C hT cfX1 t1a 3 (by decide) rfl lk_X11_183 dX11_componentCount_4 ?_
  obtain ⟨rfl, rfl⟩ := js_rt h
  exact js_iret C hT hr hk dX11_componentCount_7
set_option maxHeartbeats 4000000 in
set_option maxRecDepth 20000 in
theorem kX11_hasPair {x0 : Nat} {x1 : Int32} {σ σ0 : js_S} {r0 : Int32} (t0 : ob_ nn 11 x0) (h : fX11_hasPair fu x0 x1 σ = some (r0, σ0)) : js_M l D B g nn yX11_hasPair cX11_hasPair 2 (some .boolean) 6 [.ref (B + x0), .int x1] σ (js_QI D B g nn r0 σ0) := by
  refine js_enter (by decide) (Nat.le_of_ble_eq_true rfl) ?_
  intro p e s m args below meth c C hr hk ls hl hT
  have hl : lv_has ls 2 [(0, .ref (B + x0)), (1, .int x1)] := hl
  obtain ⟨hx, hb, hml, hown, ht, hK, hNw⟩ := id C
  obtain ⟨H, eH⟩ : ∃ H, H = s.heap := ⟨_, rfl⟩
  obtain ⟨locs, eL⟩ : ∃ z : List Loc, z = [] := ⟨_, rfl⟩
  rw [← eH, ← eL]
  rw [← eH, ← eL] at hT
  clear eH eL
  unfold fX11_hasPair at h
  refine lv_iload_n hx hb dX11_hasPair_0 rfl (lv_at hl 1 rfl) ?_
  refine lv_if_lt (tgt := 19) hx hb dX11_hasPair_1 (by decide) (fun c1 => ?_) (fun c1 => ?_)
  · rw [if_pos c1] at h
    refine lv_iconst (v := 0) hx hb dX11_hasPair_19 (by decide) ?_
    obtain ⟨rfl, rfl⟩ := js_rt h
    exact js_zret C hT hr hk rfl dX11_hasPair_20
  · rw [if_neg c1] at h
    refine lv_iload_n hx hb dX11_hasPair_4 rfl (lv_at hl 1 rfl) ?_
    refine lv_aload_n hx hb dX11_hasPair_5 rfl (lv_at hl 0 rfl) ?_
    obtain ⟨r2, σ2, hc2, h⟩ := bd_some h
    refine js_backR hT (js_runV C hT cfX11 t0 rfl mfX11_currentPairs lk_X11_141 (kX11_currentPairs t0 hc2) ⟨Nat.le_of_ble_eq_true rfl, Nat.le_of_ble_eq_true rfl⟩ rfl hl.1 rfl (Nat.le_of_ble_eq_true rfl) ⟨Nat.zero_le _, Nat.zero_le _⟩ dX11_hasPair_6) (fun H locs hT t2a => ?_)
    refine js_gIN C hT cfX5 t2a 4 (by decide) rfl lk_X11_145 dX11_hasPair_9 ?_
    refine lv_icmp_ge (tgt := 19) hx hb dX11_hasPair_12 (by decide) (fun c3 => ?_) (fun c3 => ?_)
    · rw [if_pos c3] at h
      refine lv_iconst (v := 0) hx hb dX11_hasPair_19 (by decide) ?_
      obtain ⟨rfl, rfl⟩ := js_rt h
      exact js_zret C hT hr hk rfl dX11_hasPair_20
    · rw [if_neg c3] at h
      refine lv_iconst (v := 1) hx hb dX11_hasPair_15 (by decide) ?_
      refine lv_goto (tgt := 20) hx hb dX11_hasPair_16 (by decide) ?_
      obtain ⟨rfl, rfl⟩ := js_rt h
      exact js_zret C hT hr hk rfl dX11_hasPair_20
set_option maxHeartbeats 4000000 in
set_option maxRecDepth 20000 in
theorem kX11_componentOf {x0 : Nat} {x1 : Int32} {σ σ0 : js_S} {r0 : Int32} (t0 : ob_ nn 11 x0) (h : fX11_componentOf fu x0 x1 σ = some (r0, σ0)) : js_M l D B g nn yX11_componentOf cX11_componentOf 3 (some .int) 7 [.ref (B + x0), .int x1] σ (js_QI D B g nn r0 σ0) := by
  refine js_enter (by decide) (Nat.le_of_ble_eq_true rfl) ?_
  intro p e s m args below meth c C hr hk ls hl hT
  have hl : lv_has ls 3 [(0, .ref (B + x0)), (1, .int x1)] := hl
  obtain ⟨hx, hb, hml, hown, ht, hK, hNw⟩ := id C
  obtain ⟨H, eH⟩ : ∃ H, H = s.heap := ⟨_, rfl⟩
  obtain ⟨locs, eL⟩ : ∃ z : List Loc, z = [] := ⟨_, rfl⟩
  rw [← eH, ← eL]
  rw [← eH, ← eL] at hT
  clear eH eL
  unfold fX11_componentOf at h
  refine lv_aload_n hx hb dX11_componentOf_0 rfl (lv_at hl 0 rfl) ?_
  refine lv_iload_n hx hb dX11_componentOf_1 rfl (lv_at hl 1 rfl) ?_
  obtain ⟨r1, σ1, hc1, h⟩ := bd_some h
  refine js_backI hT (js_runV C hT cfX11 t0 rfl mfX11_hasPair lk_X11_148 (kX11_hasPair t0 hc1) ⟨Nat.le_of_ble_eq_true rfl, Nat.le_of_ble_eq_true rfl⟩ rfl hl.1 rfl (Nat.le_of_ble_eq_true rfl) ⟨Nat.zero_le _, Nat.zero_le _⟩ dX11_componentOf_2) (fun H locs hT => ?_)
  refine lv_if_ne (tgt := 10) hx hb dX11_componentOf_5 (by decide) (fun c2 => ?_) (fun c2 => ?_)
  · rw [if_neg c2] at h
    refine lv_aload_n hx hb dX11_componentOf_10 rfl (lv_at hl 0 rfl) ?_
    obtain ⟨r3, σ3, hc3, h⟩ := bd_some h
    refine js_backR hT (js_runV C hT cfX11 t0 rfl mfX11_currentComponents lk_X11_179 (kX11_currentComponents t0 hc3) ⟨Nat.le_of_ble_eq_true rfl, Nat.le_of_ble_eq_true rfl⟩ rfl hl.1 rfl (Nat.le_of_ble_eq_true rfl) ⟨Nat.zero_le _, Nat.zero_le _⟩ dX11_componentOf_11) (fun H locs hT t3a => ?_)
    refine lv_iload_n hx hb dX11_componentOf_14 rfl (lv_at hl 1 rfl) ?_
    obtain ⟨r4, σ4, hc4, h⟩ := bd_some h
    refine js_backI hT (js_runV C hT cfX1 t3a rfl mfX1_number lk_X11_184 (kX1_number t3a hc4) ⟨Nat.le_of_ble_eq_true rfl, Nat.le_of_ble_eq_true rfl⟩ rfl hl.1 rfl (Nat.le_of_ble_eq_true rfl) ⟨Nat.zero_le _, Nat.zero_le _⟩ dX11_componentOf_15) (fun H locs hT => ?_)
    refine lv_istore_n (lv' := [(2, .int r4), (0, .ref (B + x0)), (1, .int x1)]) hx hb dX11_componentOf_18 rfl hl (by decide) rfl (fun ls hl => ?_)
    refine lv_iload_n hx hb dX11_componentOf_19 rfl (lv_at hl 0 rfl) ?_
    refine lv_if_lt (tgt := 27) hx hb dX11_componentOf_20 (by decide) (fun c5 => ?_) (fun c5 => ?_)
    · rw [if_pos c5] at h
      refine lv_bipush (v := (-5)) hx hb dX11_componentOf_27 (by decide) ?_
      obtain ⟨rfl, rfl⟩ := js_rt h
      exact js_iret C hT hr hk dX11_componentOf_29
    · rw [if_neg c5] at h
      refine lv_iload_n hx hb dX11_componentOf_23 rfl (lv_at hl 0 rfl) ?_
      refine lv_goto (tgt := 29) hx hb dX11_componentOf_24 (by decide) ?_
      obtain ⟨rfl, rfl⟩ := js_rt h
      exact js_iret C hT hr hk dX11_componentOf_29
  · rw [if_pos c2] at h
    refine lv_iconst (v := (-1)) hx hb dX11_componentOf_8 (by decide) ?_
    obtain ⟨rfl, rfl⟩ := js_rt h
    exact js_iret C hT hr hk dX11_componentOf_9
set_option maxHeartbeats 4000000 in
set_option maxRecDepth 20000 in
theorem kX11_store {x0 : Nat} {x1 : Nat} {x2 : Int32} {σ σ0 : js_S} {r0 : Int32} (t0 : ob_ nn 11 x0) (t1 : ob_ nn 9 x1) (h : fX11_store fu x0 x1 x2 σ = some (r0, σ0)) : js_M l D B g nn yX11_store cX11_store 3 (some .int) 1 [.ref (B + x0), .ref (B + x1), .int x2] σ (js_QI D B g nn r0 σ0) := by
  refine js_enter (by decide) (Nat.le_of_ble_eq_true rfl) ?_
  intro p e s m args below meth c C hr hk ls hl hT
  have hl : lv_has ls 3 [(0, .ref (B + x0)), (1, .ref (B + x1)), (2, .int x2)] := hl
  obtain ⟨hx, hb, hml, hown, ht, hK, hNw⟩ := id C
  obtain ⟨H, eH⟩ : ∃ H, H = s.heap := ⟨_, rfl⟩
  obtain ⟨locs, eL⟩ : ∃ z : List Loc, z = [] := ⟨_, rfl⟩
  rw [← eH, ← eL]
  rw [← eH, ← eL] at hT
  clear eH eL
  unfold fX11_store at h
  refine lv_aload_n hx hb dX11_store_0 rfl (lv_at hl 0 rfl) ?_
  refine js_gR C hT cfX11 t0 0 (by decide) (q := 6) rfl (by decide) lk_X11_12 dX11_store_1 (fun t1a => ?_)
  refine lv_iload_n hx hb dX11_store_4 rfl (lv_at hl 2 rfl) ?_
  obtain ⟨r2, σ2, hc2, h⟩ := bd_some h
  refine js_backR hT (js_runV C hT cfX6 t1a rfl mfX6_register lk_X11_237 (kX6_register t1a hc2) ⟨Nat.le_of_ble_eq_true rfl, Nat.le_of_ble_eq_true rfl⟩ rfl hl.1 rfl (Nat.le_of_ble_eq_true rfl) ⟨Nat.zero_le _, Nat.zero_le _⟩ dX11_store_5) (fun H locs hT t2a => ?_)
  refine lv_aload_n hx hb dX11_store_8 rfl (lv_at hl 1 rfl) ?_
  obtain ⟨z3, σ3, hc3, h⟩ := bd_some h
  refine js_backV hT (js_runV C hT cfX9 t2a rfl mfX9_copyFrom lk_X11_305 (kX9_copyFrom t2a t1 hc3) ⟨Nat.le_of_ble_eq_true rfl, Nat.le_of_ble_eq_true rfl⟩ rfl hl.1 rfl (Nat.le_of_ble_eq_true rfl) ⟨Nat.zero_le _, Nat.zero_le _⟩ dX11_store_9) (fun H locs hT => ?_)
  refine lv_aload_n hx hb dX11_store_12 rfl (lv_at hl 1 rfl) ?_
  refine js_gIN C hT cfX9 t1 1 (by decide) rfl lk_X11_138 dX11_store_13 ?_
  obtain ⟨rfl, rfl⟩ := js_rt h
  exact js_iret C hT hr hk dX11_store_16
set_option maxHeartbeats 4000000 in
set_option maxRecDepth 20000 in
theorem kX11_copyTerm {x0 : Nat} {x1 : Int32} {x2 : Int32} {σ σ0 : js_S} {r0 : Int32} (t0 : ob_ nn 11 x0) (h : fX11_copyTerm fu x0 x1 x2 σ = some (r0, σ0)) : js_M l D B g nn yX11_copyTerm cX11_copyTerm 3 (some .int) 2 [.ref (B + x0), .int x1, .int x2] σ (js_QI D B g nn r0 σ0) := by
  refine js_enter (by decide) (Nat.le_of_ble_eq_true rfl) ?_
  intro p e s m args below meth c C hr hk ls hl hT
  have hl : lv_has ls 3 [(0, .ref (B + x0)), (1, .int x1), (2, .int x2)] := hl
  obtain ⟨hx, hb, hml, hown, ht, hK, hNw⟩ := id C
  obtain ⟨H, eH⟩ : ∃ H, H = s.heap := ⟨_, rfl⟩
  obtain ⟨locs, eL⟩ : ∃ z : List Loc, z = [] := ⟨_, rfl⟩
  rw [← eH, ← eL]
  rw [← eH, ← eL] at hT
  clear eH eL
  unfold fX11_copyTerm at h
  refine lv_iload_n hx hb dX11_copyTerm_0 rfl (lv_at hl 1 rfl) ?_
  obtain ⟨r1, σ1, hc1, h⟩ := bd_some h
  refine js_backI hT (js_runS C hT mfX11_hasRegister lk_X11_226 (kX11_hasRegister  hc1) ⟨Nat.le_of_ble_eq_true rfl, Nat.le_of_ble_eq_true rfl⟩ rfl hl.1 rfl (Nat.le_of_ble_eq_true rfl) ⟨Nat.zero_le _, Nat.zero_le _⟩ dX11_copyTerm_1) (fun H locs hT => ?_)
  refine lv_if_eq (tgt := 14) hx hb dX11_copyTerm_4 (by decide) (fun c2 => ?_) (fun c2 => ?_)
  · rw [if_pos c2] at h
    refine lv_iconst (v := (-1)) hx hb dX11_copyTerm_14 (by decide) ?_
    obtain ⟨rfl, rfl⟩ := js_rt h
    exact js_iret C hT hr hk dX11_copyTerm_15
  · rw [if_neg c2] at h
    refine lv_iload_n hx hb dX11_copyTerm_7 rfl (lv_at hl 2 rfl) ?_
    obtain ⟨r3, σ3, hc3, h⟩ := bd_some h
    refine js_backI hT (js_runS C hT mfX11_hasRegister lk_X11_226 (kX11_hasRegister  hc3) ⟨Nat.le_of_ble_eq_true rfl, Nat.le_of_ble_eq_true rfl⟩ rfl hl.1 rfl (Nat.le_of_ble_eq_true rfl) ⟨Nat.zero_le _, Nat.zero_le _⟩ dX11_copyTerm_8) (fun H locs hT => ?_)
    refine lv_if_ne (tgt := 16) hx hb dX11_copyTerm_11 (by decide) (fun c4 => ?_) (fun c4 => ?_)
    · rw [if_neg c4] at h
      refine lv_aload_n hx hb dX11_copyTerm_16 rfl (lv_at hl 0 rfl) ?_
      refine lv_aload_n hx hb dX11_copyTerm_17 rfl (lv_at hl 0 rfl) ?_
      refine js_gR C hT cfX11 t0 0 (by decide) (q := 6) rfl (by decide) lk_X11_12 dX11_copyTerm_18 (fun t5a => ?_)
      refine lv_iload_n hx hb dX11_copyTerm_21 rfl (lv_at hl 1 rfl) ?_
      obtain ⟨r6, σ6, hc6, h⟩ := bd_some h
      refine js_backR hT (js_runV C hT cfX6 t5a rfl mfX6_register lk_X11_237 (kX6_register t5a hc6) ⟨Nat.le_of_ble_eq_true rfl, Nat.le_of_ble_eq_true rfl⟩ rfl hl.1 rfl (Nat.le_of_ble_eq_true rfl) ⟨Nat.zero_le _, Nat.zero_le _⟩ dX11_copyTerm_22) (fun H locs hT t6a => ?_)
      refine lv_iload_n hx hb dX11_copyTerm_25 rfl (lv_at hl 2 rfl) ?_
      obtain ⟨r7, σ7, hc7, h⟩ := bd_some h
      refine js_backI hT (js_runV C hT cfX11 t0 rfl mfX11_store lk_X11_233 (kX11_store t0 t6a hc7) ⟨Nat.le_of_ble_eq_true rfl, Nat.le_of_ble_eq_true rfl⟩ rfl hl.1 rfl (Nat.le_of_ble_eq_true rfl) ⟨Nat.zero_le _, Nat.zero_le _⟩ dX11_copyTerm_26) (fun H locs hT => ?_)
      obtain ⟨rfl, rfl⟩ := js_rt h
      exact js_iret C hT hr hk dX11_copyTerm_29
    · rw [if_pos c4] at h
      refine lv_iconst (v := (-1)) hx hb dX11_copyTerm_14 (by decide) ?_
      obtain ⟨rfl, rfl⟩ := js_rt h
      exact js_iret C hT hr hk dX11_copyTerm_15
set_option maxHeartbeats 4000000 in
set_option maxRecDepth 20000 in
theorem kX11_currentElimination {x0 : Nat} {σ σ0 : js_S} {r0 : Nat} (t0 : ob_ nn 11 x0) (h : fX11_currentElimination fu x0 σ = some (r0, σ0)) : js_M l D B g nn yX11_currentElimination cX11_currentElimination 1 (some (.object "DependencyPairAnalyzer$Elimination")) 6 [.ref (B + x0)] σ (js_QR D B g nn 2 r0 σ0) := by
  refine js_enter (by decide) (Nat.le_of_ble_eq_true rfl) ?_
  intro p e s m args below meth c C hr hk ls hl hT
  have hl : lv_has ls 1 [(0, .ref (B + x0))] := hl
  obtain ⟨hx, hb, hml, hown, ht, hK, hNw⟩ := id C
  obtain ⟨H, eH⟩ : ∃ H, H = s.heap := ⟨_, rfl⟩
  obtain ⟨locs, eL⟩ : ∃ z : List Loc, z = [] := ⟨_, rfl⟩
  rw [← eH, ← eL]
  rw [← eH, ← eL] at hT
  clear eH eL
  unfold fX11_currentElimination at h
  refine lv_aload_n hx hb dX11_currentElimination_0 rfl (lv_at hl 0 rfl) ?_
  refine js_gI C hT cfX11 t0 15 (by decide) rfl lk_X11_317 dX11_currentElimination_1 ?_
  refine lv_if_ne (tgt := 30) hx hb dX11_currentElimination_4 (by decide) (fun c1 => ?_) (fun c1 => ?_)
  · rw [if_neg c1] at h
    refine lv_aload_n hx hb dX11_currentElimination_30 rfl (lv_at hl 0 rfl) ?_
    refine js_gR C hT cfX11 t0 14 (by decide) (q := 2) rfl (by decide) lk_X11_76 dX11_currentElimination_31 (fun t2a => ?_)
    obtain ⟨rfl, rfl⟩ := js_rt h
    exact js_aret C hT t2a hr hk dX11_currentElimination_34
  · rw [if_pos c1] at h
    refine lv_aload_n hx hb dX11_currentElimination_7 rfl (lv_at hl 0 rfl) ?_
    refine js_gR C hT cfX11 t0 14 (by decide) (q := 2) rfl (by decide) lk_X11_76 dX11_currentElimination_8 (fun t3a => ?_)
    refine lv_aload_n hx hb dX11_currentElimination_11 rfl (lv_at hl 0 rfl) ?_
    obtain ⟨r4, σ4, hc4, h⟩ := bd_some h
    refine js_backR hT (js_runV C hT cfX11 t0 rfl mfX11_currentPairs lk_X11_141 (kX11_currentPairs t0 hc4) ⟨Nat.le_of_ble_eq_true rfl, Nat.le_of_ble_eq_true rfl⟩ rfl hl.1 rfl (Nat.le_of_ble_eq_true rfl) ⟨Nat.zero_le _, Nat.zero_le _⟩ dX11_currentElimination_12) (fun H locs hT t4a => ?_)
    refine lv_aload_n hx hb dX11_currentElimination_15 rfl (lv_at hl 0 rfl) ?_
    refine js_gR C hT cfX11 t0 0 (by decide) (q := 6) rfl (by decide) lk_X11_12 dX11_currentElimination_16 (fun t5a => ?_)
    refine js_gRN C hT cfX6 t5a 0 (by decide) (q := 8) rfl (by decide) lk_X11_88 dX11_currentElimination_19 (fun t6a => ?_)
    obtain ⟨z7, σ7, hc7, h⟩ := bd_some h
    refine js_backV hT (js_runV C hT cfX2 t3a rfl mfX2_run lk_X11_330 (kX2_run t3a t4a t6a hc7) ⟨Nat.le_of_ble_eq_true rfl, Nat.le_of_ble_eq_true rfl⟩ rfl hl.1 rfl (Nat.le_of_ble_eq_true rfl) ⟨Nat.zero_le _, Nat.zero_le _⟩ dX11_currentElimination_22) (fun H locs hT => ?_)
    refine lv_aload_n hx hb dX11_currentElimination_25 rfl (lv_at hl 0 rfl) ?_
    refine lv_iconst (v := 1) hx hb dX11_currentElimination_26 (by decide) ?_
    obtain ⟨σ8, e8, h⟩ := lt_some h
    refine js_pI C hT cfX11 t0 15 (by decide) rfl rfl rfl rfl lk_X11_317 dX11_currentElimination_27 (fun H locs hT => ?_)
    rw [e8] at hT
    refine lv_aload_n hx hb dX11_currentElimination_30 rfl (lv_at hl 0 rfl) ?_
    refine js_gR C hT cfX11 t0 14 (by decide) (q := 2) rfl (by decide) lk_X11_76 dX11_currentElimination_31 (fun t9a => ?_)
    obtain ⟨rfl, rfl⟩ := js_rt h
    exact js_aret C hT t9a hr hk dX11_currentElimination_34
set_option maxHeartbeats 4000000 in
set_option maxRecDepth 20000 in
theorem kX11_edgeCount {x0 : Nat} {σ σ0 : js_S} {r0 : Int32} (t0 : ob_ nn 11 x0) (h : fX11_edgeCount fu x0 σ = some (r0, σ0)) : js_M l D B g nn yX11_edgeCount cX11_edgeCount 1 (some .int) 6 [.ref (B + x0)] σ (js_QI D B g nn r0 σ0) := by
  refine js_enter (by decide) (Nat.le_of_ble_eq_true rfl) ?_
  intro p e s m args below meth c C hr hk ls hl hT
  have hl : lv_has ls 1 [(0, .ref (B + x0))] := hl
  obtain ⟨hx, hb, hml, hown, ht, hK, hNw⟩ := id C
  obtain ⟨H, eH⟩ : ∃ H, H = s.heap := ⟨_, rfl⟩
  obtain ⟨locs, eL⟩ : ∃ z : List Loc, z = [] := ⟨_, rfl⟩
  rw [← eH, ← eL]
  rw [← eH, ← eL] at hT
  clear eH eL
  unfold fX11_edgeCount at h
  refine lv_aload_n hx hb dX11_edgeCount_0 rfl (lv_at hl 0 rfl) ?_
  obtain ⟨r1, σ1, hc1, h⟩ := bd_some h
  refine js_backR hT (js_runV C hT cfX11 t0 rfl mfX11_currentPairs lk_X11_141 (kX11_currentPairs t0 hc1) ⟨Nat.le_of_ble_eq_true rfl, Nat.le_of_ble_eq_true rfl⟩ rfl hl.1 rfl (Nat.le_of_ble_eq_true rfl) ⟨Nat.zero_le _, Nat.zero_le _⟩ dX11_edgeCount_1) (fun H locs hT t1a => ?_)
  refine js_gRN C hT cfX5 t1a 3 (by decide) (q := 4) rfl (by decide) lk_X11_165 dX11_edgeCount_4 (fun t2a => ?_)
  obtain ⟨r3, σ3, hc3, h⟩ := bd_some h
  refine js_backI hT (js_runV C hT cfX4 t2a rfl mfX4_total lk_X11_175 (kX4_total t2a hc3) ⟨Nat.le_of_ble_eq_true rfl, Nat.le_of_ble_eq_true rfl⟩ rfl hl.1 rfl (Nat.le_of_ble_eq_true rfl) ⟨Nat.zero_le _, Nat.zero_le _⟩ dX11_edgeCount_7) (fun H locs hT => ?_)
  obtain ⟨rfl, rfl⟩ := js_rt h
  exact js_iret C hT hr hk dX11_edgeCount_10
set_option maxHeartbeats 4000000 in
set_option maxRecDepth 20000 in
theorem kX11_eliminationRounds {x0 : Nat} {σ σ0 : js_S} {r0 : Int32} (t0 : ob_ nn 11 x0) (h : fX11_eliminationRounds fu x0 σ = some (r0, σ0)) : js_M l D B g nn yX11_eliminationRounds cX11_eliminationRounds 1 (some .int) 7 [.ref (B + x0)] σ (js_QI D B g nn r0 σ0) := by
  refine js_enter (by decide) (Nat.le_of_ble_eq_true rfl) ?_
  intro p e s m args below meth c C hr hk ls hl hT
  have hl : lv_has ls 1 [(0, .ref (B + x0))] := hl
  obtain ⟨hx, hb, hml, hown, ht, hK, hNw⟩ := id C
  obtain ⟨H, eH⟩ : ∃ H, H = s.heap := ⟨_, rfl⟩
  obtain ⟨locs, eL⟩ : ∃ z : List Loc, z = [] := ⟨_, rfl⟩
  rw [← eH, ← eL]
  rw [← eH, ← eL] at hT
  clear eH eL
  unfold fX11_eliminationRounds at h
  refine lv_aload_n hx hb dX11_eliminationRounds_0 rfl (lv_at hl 0 rfl) ?_
  obtain ⟨r1, σ1, hc1, h⟩ := bd_some h
  refine js_backR hT (js_runV C hT cfX11 t0 rfl mfX11_currentElimination lk_X11_213 (kX11_currentElimination t0 hc1) ⟨Nat.le_of_ble_eq_true rfl, Nat.le_of_ble_eq_true rfl⟩ rfl hl.1 rfl (Nat.le_of_ble_eq_true rfl) ⟨Nat.zero_le _, Nat.zero_le _⟩ dX11_eliminationRounds_1) (fun H locs hT t1a => ?_)
  refine js_gIN C hT cfX2 t1a 3 (by decide) rfl lk_X11_217 dX11_eliminationRounds_4 ?_
  obtain ⟨rfl, rfl⟩ := js_rt h
  exact js_iret C hT hr hk dX11_eliminationRounds_7
set_option maxHeartbeats 4000000 in
set_option maxRecDepth 20000 in
theorem kX11_exploredCount {x0 : Nat} {x1 : Int32} {x2 : Int32} {σ σ0 : js_S} {r0 : Int32} (t0 : ob_ nn 11 x0) (h : fX11_exploredCount fu x0 x1 x2 σ = some (r0, σ0)) : js_M l D B g nn yX11_exploredCount cX11_exploredCount 4 (some .int) 7 [.ref (B + x0), .int x1, .int x2] σ (js_QI D B g nn r0 σ0) := by
  refine js_enter (by decide) (Nat.le_of_ble_eq_true rfl) ?_
  intro p e s m args below meth c C hr hk ls hl hT
  have hl : lv_has ls 4 [(0, .ref (B + x0)), (1, .int x1), (2, .int x2)] := hl
  obtain ⟨hx, hb, hml, hown, ht, hK, hNw⟩ := id C
  obtain ⟨H, eH⟩ : ∃ H, H = s.heap := ⟨_, rfl⟩
  obtain ⟨locs, eL⟩ : ∃ z : List Loc, z = [] := ⟨_, rfl⟩
  rw [← eH, ← eL]
  rw [← eH, ← eL] at hT
  clear eH eL
  unfold fX11_exploredCount at h
  refine lv_aload_n hx hb dX11_exploredCount_0 rfl (lv_at hl 0 rfl) ?_
  refine js_gR C hT cfX11 t0 6 (by decide) (q := 3) rfl (by decide) lk_X11_41 dX11_exploredCount_1 (fun t1a => ?_)
  refine lv_aload_n hx hb dX11_exploredCount_4 rfl (lv_at hl 0 rfl) ?_
  refine js_gR C hT cfX11 t0 0 (by decide) (q := 6) rfl (by decide) lk_X11_12 dX11_exploredCount_5 (fun t2a => ?_)
  refine lv_aload_n hx hb dX11_exploredCount_8 rfl (lv_at hl 0 rfl) ?_
  refine js_gR C hT cfX11 t0 5 (by decide) (q := 7) rfl (by decide) lk_X11_34 dX11_exploredCount_9 (fun t3a => ?_)
  refine lv_iload_n hx hb dX11_exploredCount_12 rfl (lv_at hl 1 rfl) ?_
  refine lv_iload_n hx hb dX11_exploredCount_13 rfl (lv_at hl 2 rfl) ?_
  obtain ⟨r4, σ4, hc4, h⟩ := bd_some h
  refine js_backI hT (js_runV C hT cfX3 t1a rfl mfX3_run lk_X11_279 (kX3_run t1a t2a t3a hc4) ⟨Nat.le_of_ble_eq_true rfl, Nat.le_of_ble_eq_true rfl⟩ rfl hl.1 rfl (Nat.le_of_ble_eq_true rfl) ⟨Nat.zero_le _, Nat.zero_le _⟩ dX11_exploredCount_14) (fun H locs hT => ?_)
  refine lv_istore_n (lv' := [(3, .int r4), (0, .ref (B + x0)), (1, .int x1), (2, .int x2)]) hx hb dX11_exploredCount_17 rfl hl (by decide) rfl (fun ls hl => ?_)
  refine lv_iload_n hx hb dX11_exploredCount_18 rfl (lv_at hl 0 rfl) ?_
  refine lv_if_ge (tgt := 26) hx hb dX11_exploredCount_19 (by decide) (fun c5 => ?_) (fun c5 => ?_)
  · rw [if_pos c5] at h
    refine lv_aload_n hx hb dX11_exploredCount_26 rfl (lv_at hl 1 rfl) ?_
    refine js_gR C hT cfX11 t0 6 (by decide) (q := 3) rfl (by decide) lk_X11_41 dX11_exploredCount_27 (fun t6a => ?_)
    refine js_gIN C hT cfX3 t6a 6 (by decide) rfl lk_X11_283 dX11_exploredCount_30 ?_
    obtain ⟨rfl, rfl⟩ := js_rt h
    exact js_iret C hT hr hk dX11_exploredCount_33
  · rw [if_neg c5] at h
    refine lv_iload_n hx hb dX11_exploredCount_22 rfl (lv_at hl 0 rfl) ?_
    refine lv_goto (tgt := 33) hx hb dX11_exploredCount_23 (by decide) ?_
    obtain ⟨rfl, rfl⟩ := js_rt h
    exact js_iret C hT hr hk dX11_exploredCount_33
set_option maxHeartbeats 4000000 in
set_option maxRecDepth 20000 in
theorem kX11_exploredNormalForms {x0 : Nat} {x1 : Int32} {x2 : Int32} {σ σ0 : js_S} {r0 : Int32} (t0 : ob_ nn 11 x0) (h : fX11_exploredNormalForms fu x0 x1 x2 σ = some (r0, σ0)) : js_M l D B g nn yX11_exploredNormalForms cX11_exploredNormalForms 4 (some .int) 7 [.ref (B + x0), .int x1, .int x2] σ (js_QI D B g nn r0 σ0) := by
  refine js_enter (by decide) (Nat.le_of_ble_eq_true rfl) ?_
  intro p e s m args below meth c C hr hk ls hl hT
  have hl : lv_has ls 4 [(0, .ref (B + x0)), (1, .int x1), (2, .int x2)] := hl
  obtain ⟨hx, hb, hml, hown, ht, hK, hNw⟩ := id C
  obtain ⟨H, eH⟩ : ∃ H, H = s.heap := ⟨_, rfl⟩
  obtain ⟨locs, eL⟩ : ∃ z : List Loc, z = [] := ⟨_, rfl⟩
  rw [← eH, ← eL]
  rw [← eH, ← eL] at hT
  clear eH eL
  unfold fX11_exploredNormalForms at h
  refine lv_aload_n hx hb dX11_exploredNormalForms_0 rfl (lv_at hl 0 rfl) ?_
  refine js_gR C hT cfX11 t0 6 (by decide) (q := 3) rfl (by decide) lk_X11_41 dX11_exploredNormalForms_1 (fun t1a => ?_)
  refine lv_aload_n hx hb dX11_exploredNormalForms_4 rfl (lv_at hl 0 rfl) ?_
  refine js_gR C hT cfX11 t0 0 (by decide) (q := 6) rfl (by decide) lk_X11_12 dX11_exploredNormalForms_5 (fun t2a => ?_)
  refine lv_aload_n hx hb dX11_exploredNormalForms_8 rfl (lv_at hl 0 rfl) ?_
  refine js_gR C hT cfX11 t0 5 (by decide) (q := 7) rfl (by decide) lk_X11_34 dX11_exploredNormalForms_9 (fun t3a => ?_)
  refine lv_iload_n hx hb dX11_exploredNormalForms_12 rfl (lv_at hl 1 rfl) ?_
  refine lv_iload_n hx hb dX11_exploredNormalForms_13 rfl (lv_at hl 2 rfl) ?_
  obtain ⟨r4, σ4, hc4, h⟩ := bd_some h
  refine js_backI hT (js_runV C hT cfX3 t1a rfl mfX3_run lk_X11_279 (kX3_run t1a t2a t3a hc4) ⟨Nat.le_of_ble_eq_true rfl, Nat.le_of_ble_eq_true rfl⟩ rfl hl.1 rfl (Nat.le_of_ble_eq_true rfl) ⟨Nat.zero_le _, Nat.zero_le _⟩ dX11_exploredNormalForms_14) (fun H locs hT => ?_)
  refine lv_istore_n (lv' := [(3, .int r4), (0, .ref (B + x0)), (1, .int x1), (2, .int x2)]) hx hb dX11_exploredNormalForms_17 rfl hl (by decide) rfl (fun ls hl => ?_)
  refine lv_iload_n hx hb dX11_exploredNormalForms_18 rfl (lv_at hl 0 rfl) ?_
  refine lv_if_ge (tgt := 26) hx hb dX11_exploredNormalForms_19 (by decide) (fun c5 => ?_) (fun c5 => ?_)
  · rw [if_pos c5] at h
    refine lv_aload_n hx hb dX11_exploredNormalForms_26 rfl (lv_at hl 1 rfl) ?_
    refine js_gR C hT cfX11 t0 6 (by decide) (q := 3) rfl (by decide) lk_X11_41 dX11_exploredNormalForms_27 (fun t6a => ?_)
    refine js_gIN C hT cfX3 t6a 7 (by decide) rfl lk_X11_286 dX11_exploredNormalForms_30 ?_
    obtain ⟨rfl, rfl⟩ := js_rt h
    exact js_iret C hT hr hk dX11_exploredNormalForms_33
  · rw [if_neg c5] at h
    refine lv_iload_n hx hb dX11_exploredNormalForms_22 rfl (lv_at hl 0 rfl) ?_
    refine lv_goto (tgt := 33) hx hb dX11_exploredNormalForms_23 (by decide) ?_
    obtain ⟨rfl, rfl⟩ := js_rt h
    exact js_iret C hT hr hk dX11_exploredNormalForms_33
set_option maxHeartbeats 4000000 in
set_option maxRecDepth 20000 in
theorem kX11_findLoop {x0 : Nat} {x1 : Int32} {x2 : Int32} {σ σ0 : js_S} {r0 : Int32} (t0 : ob_ nn 11 x0) (h : fX11_findLoop fu x0 x1 x2 σ = some (r0, σ0)) : js_M l D B g nn yX11_findLoop cX11_findLoop 3 (some .int) 6 [.ref (B + x0), .int x1, .int x2] σ (js_QI D B g nn r0 σ0) := by
  refine js_enter (by decide) (Nat.le_of_ble_eq_true rfl) ?_
  intro p e s m args below meth c C hr hk ls hl hT
  have hl : lv_has ls 3 [(0, .ref (B + x0)), (1, .int x1), (2, .int x2)] := hl
  obtain ⟨hx, hb, hml, hown, ht, hK, hNw⟩ := id C
  obtain ⟨H, eH⟩ : ∃ H, H = s.heap := ⟨_, rfl⟩
  obtain ⟨locs, eL⟩ : ∃ z : List Loc, z = [] := ⟨_, rfl⟩
  rw [← eH, ← eL]
  rw [← eH, ← eL] at hT
  clear eH eL
  unfold fX11_findLoop at h
  refine lv_iload_n hx hb dX11_findLoop_0 rfl (lv_at hl 1 rfl) ?_
  obtain ⟨r1, σ1, hc1, h⟩ := bd_some h
  refine js_backI hT (js_runS C hT mfX11_hasRegister lk_X11_226 (kX11_hasRegister  hc1) ⟨Nat.le_of_ble_eq_true rfl, Nat.le_of_ble_eq_true rfl⟩ rfl hl.1 rfl (Nat.le_of_ble_eq_true rfl) ⟨Nat.zero_le _, Nat.zero_le _⟩ dX11_findLoop_1) (fun H locs hT => ?_)
  refine lv_if_ne (tgt := 9) hx hb dX11_findLoop_4 (by decide) (fun c2 => ?_) (fun c2 => ?_)
  · rw [if_neg c2] at h
    refine lv_iload_n hx hb dX11_findLoop_9 rfl (lv_at hl 2 rfl) ?_
    refine lv_iconst (v := 1) hx hb dX11_findLoop_10 (by decide) ?_
    refine lv_icmp_lt (tgt := 20) hx hb dX11_findLoop_11 (by decide) (fun c3 => ?_) (fun c3 => ?_)
    · rw [if_pos c3] at h
      refine lv_bipush (v := (-2)) hx hb dX11_findLoop_20 (by decide) ?_
      obtain ⟨rfl, rfl⟩ := js_rt h
      exact js_iret C hT hr hk dX11_findLoop_22
    · rw [if_neg c3] at h
      refine lv_iload_n hx hb dX11_findLoop_14 rfl (lv_at hl 2 rfl) ?_
      refine lv_bipush (v := 100) hx hb dX11_findLoop_15 (by decide) ?_
      refine lv_icmp_le (tgt := 23) hx hb dX11_findLoop_17 (by decide) (fun c4 => ?_) (fun c4 => ?_)
      · rw [if_pos c4] at h
        refine lv_aload_n hx hb dX11_findLoop_23 rfl (lv_at hl 0 rfl) ?_
        refine js_gR C hT cfX11 t0 5 (by decide) (q := 7) rfl (by decide) lk_X11_34 dX11_findLoop_24 (fun t5a => ?_)
        refine lv_aload_n hx hb dX11_findLoop_27 rfl (lv_at hl 0 rfl) ?_
        refine js_gR C hT cfX11 t0 0 (by decide) (q := 6) rfl (by decide) lk_X11_12 dX11_findLoop_28 (fun t6a => ?_)
        refine lv_aload_n hx hb dX11_findLoop_31 rfl (lv_at hl 0 rfl) ?_
        refine js_gR C hT cfX11 t0 0 (by decide) (q := 6) rfl (by decide) lk_X11_12 dX11_findLoop_32 (fun t7a => ?_)
        refine lv_iload_n hx hb dX11_findLoop_35 rfl (lv_at hl 1 rfl) ?_
        obtain ⟨r8, σ8, hc8, h⟩ := bd_some h
        refine js_backR hT (js_runV C hT cfX6 t7a rfl mfX6_register lk_X11_237 (kX6_register t7a hc8) ⟨Nat.le_of_ble_eq_true rfl, Nat.le_of_ble_eq_true rfl⟩ rfl hl.1 rfl (Nat.le_of_ble_eq_true rfl) ⟨Nat.zero_le _, Nat.zero_le _⟩ dX11_findLoop_36) (fun H locs hT t8a => ?_)
        refine lv_iload_n hx hb dX11_findLoop_39 rfl (lv_at hl 2 rfl) ?_
        obtain ⟨r9, σ9, hc9, h⟩ := bd_some h
        refine js_backI hT (js_runV C hT cfX7 t5a rfl mfX7_stepsToRepetition lk_X11_276 (kX7_stepsToRepetition t5a t6a t8a hc9) ⟨Nat.le_of_ble_eq_true rfl, Nat.le_of_ble_eq_true rfl⟩ rfl hl.1 rfl (Nat.le_of_ble_eq_true rfl) ⟨Nat.zero_le _, Nat.zero_le _⟩ dX11_findLoop_40) (fun H locs hT => ?_)
        obtain ⟨rfl, rfl⟩ := js_rt h
        exact js_iret C hT hr hk dX11_findLoop_43
      · rw [if_neg c4] at h
        refine lv_bipush (v := (-2)) hx hb dX11_findLoop_20 (by decide) ?_
        obtain ⟨rfl, rfl⟩ := js_rt h
        exact js_iret C hT hr hk dX11_findLoop_22
  · rw [if_pos c2] at h
    refine lv_iconst (v := (-1)) hx hb dX11_findLoop_7 (by decide) ?_
    obtain ⟨rfl, rfl⟩ := js_rt h
    exact js_iret C hT hr hk dX11_findLoop_8
set_option maxHeartbeats 4000000 in
set_option maxRecDepth 20000 in
theorem kX11_formattedCharacter {x0 : Nat} {x1 : Int32} {x2 : Int32} {σ σ0 : js_S} {r0 : Int32} (t0 : ob_ nn 11 x0) (h : fX11_formattedCharacter fu x0 x1 x2 σ = some (r0, σ0)) : js_M l D B g nn yX11_formattedCharacter cX11_formattedCharacter 3 (some .int) 3 [.ref (B + x0), .int x1, .int x2] σ (js_QI D B g nn r0 σ0) := by
  refine js_enter (by decide) (Nat.le_of_ble_eq_true rfl) ?_
  intro p e s m args below meth c C hr hk ls hl hT
  have hl : lv_has ls 3 [(0, .ref (B + x0)), (1, .int x1), (2, .int x2)] := hl
  obtain ⟨hx, hb, hml, hown, ht, hK, hNw⟩ := id C
  obtain ⟨H, eH⟩ : ∃ H, H = s.heap := ⟨_, rfl⟩
  obtain ⟨locs, eL⟩ : ∃ z : List Loc, z = [] := ⟨_, rfl⟩
  rw [← eH, ← eL]
  rw [← eH, ← eL] at hT
  clear eH eL
  unfold fX11_formattedCharacter at h
  refine lv_iload_n hx hb dX11_formattedCharacter_0 rfl (lv_at hl 1 rfl) ?_
  obtain ⟨r1, σ1, hc1, h⟩ := bd_some h
  refine js_backI hT (js_runS C hT mfX11_hasRegister lk_X11_226 (kX11_hasRegister  hc1) ⟨Nat.le_of_ble_eq_true rfl, Nat.le_of_ble_eq_true rfl⟩ rfl hl.1 rfl (Nat.le_of_ble_eq_true rfl) ⟨Nat.zero_le _, Nat.zero_le _⟩ dX11_formattedCharacter_1) (fun H locs hT => ?_)
  refine lv_if_ne (tgt := 9) hx hb dX11_formattedCharacter_4 (by decide) (fun c2 => ?_) (fun c2 => ?_)
  · rw [if_neg c2] at h
    refine lv_aload_n hx hb dX11_formattedCharacter_9 rfl (lv_at hl 0 rfl) ?_
    refine js_gR C hT cfX11 t0 4 (by decide) (q := 10) rfl (by decide) lk_X11_28 dX11_formattedCharacter_10 (fun t3a => ?_)
    refine lv_aload_n hx hb dX11_formattedCharacter_13 rfl (lv_at hl 0 rfl) ?_
    refine js_gR C hT cfX11 t0 0 (by decide) (q := 6) rfl (by decide) lk_X11_12 dX11_formattedCharacter_14 (fun t4a => ?_)
    refine js_gRN C hT cfX6 t4a 0 (by decide) (q := 8) rfl (by decide) lk_X11_88 dX11_formattedCharacter_17 (fun t5a => ?_)
    refine lv_aload_n hx hb dX11_formattedCharacter_20 rfl (lv_at hl 0 rfl) ?_
    refine js_gR C hT cfX11 t0 0 (by decide) (q := 6) rfl (by decide) lk_X11_12 dX11_formattedCharacter_21 (fun t6a => ?_)
    refine lv_iload_n hx hb dX11_formattedCharacter_24 rfl (lv_at hl 1 rfl) ?_
    obtain ⟨r7, σ7, hc7, h⟩ := bd_some h
    refine js_backR hT (js_runV C hT cfX6 t6a rfl mfX6_register lk_X11_237 (kX6_register t6a hc7) ⟨Nat.le_of_ble_eq_true rfl, Nat.le_of_ble_eq_true rfl⟩ rfl hl.1 rfl (Nat.le_of_ble_eq_true rfl) ⟨Nat.zero_le _, Nat.zero_le _⟩ dX11_formattedCharacter_25) (fun H locs hT t7a => ?_)
    obtain ⟨z8, σ8, hc8, h⟩ := bd_some h
    refine js_backV hT (js_runV C hT cfX10 t3a rfl mfX10_write lk_X11_240 (kX10_write t3a t5a t7a hc8) ⟨Nat.le_of_ble_eq_true rfl, Nat.le_of_ble_eq_true rfl⟩ rfl hl.1 rfl (Nat.le_of_ble_eq_true rfl) ⟨Nat.zero_le _, Nat.zero_le _⟩ dX11_formattedCharacter_28) (fun H locs hT => ?_)
    refine lv_iload_n hx hb dX11_formattedCharacter_31 rfl (lv_at hl 2 rfl) ?_
    refine lv_if_lt (tgt := 57) hx hb dX11_formattedCharacter_32 (by decide) (fun c9 => ?_) (fun c9 => ?_)
    · rw [if_pos c9] at h
      refine lv_iconst (v := (-1)) hx hb dX11_formattedCharacter_57 (by decide) ?_
      obtain ⟨rfl, rfl⟩ := js_rt h
      exact js_iret C hT hr hk dX11_formattedCharacter_58
    · rw [if_neg c9] at h
      refine lv_iload_n hx hb dX11_formattedCharacter_35 rfl (lv_at hl 2 rfl) ?_
      refine lv_aload_n hx hb dX11_formattedCharacter_36 rfl (lv_at hl 0 rfl) ?_
      refine js_gR C hT cfX11 t0 4 (by decide) (q := 10) rfl (by decide) lk_X11_28 dX11_formattedCharacter_37 (fun t10a => ?_)
      refine js_gIN C hT cfX10 t10a 2 (by decide) rfl lk_X11_244 dX11_formattedCharacter_40 ?_
      refine lv_icmp_ge (tgt := 57) hx hb dX11_formattedCharacter_43 (by decide) (fun c11 => ?_) (fun c11 => ?_)
      · rw [if_pos c11] at h
        refine lv_iconst (v := (-1)) hx hb dX11_formattedCharacter_57 (by decide) ?_
        obtain ⟨rfl, rfl⟩ := js_rt h
        exact js_iret C hT hr hk dX11_formattedCharacter_58
      · rw [if_neg c11] at h
        refine lv_aload_n hx hb dX11_formattedCharacter_46 rfl (lv_at hl 0 rfl) ?_
        refine js_gR C hT cfX11 t0 4 (by decide) (q := 10) rfl (by decide) lk_X11_28 dX11_formattedCharacter_47 (fun t12a => ?_)
        refine lv_iload_n hx hb dX11_formattedCharacter_50 rfl (lv_at hl 2 rfl) ?_
        obtain ⟨r13, σ13, hc13, h⟩ := bd_some h
        refine js_backI hT (js_runV C hT cfX10 t12a rfl mfX10_character lk_X11_247 (kX10_character t12a hc13) ⟨Nat.le_of_ble_eq_true rfl, Nat.le_of_ble_eq_true rfl⟩ rfl hl.1 rfl (Nat.le_of_ble_eq_true rfl) ⟨Nat.zero_le _, Nat.zero_le _⟩ dX11_formattedCharacter_51) (fun H locs hT => ?_)
        refine lv_goto (tgt := 58) hx hb dX11_formattedCharacter_54 (by decide) ?_
        obtain ⟨rfl, rfl⟩ := js_rt h
        exact js_iret C hT hr hk dX11_formattedCharacter_58
  · rw [if_pos c2] at h
    refine lv_iconst (v := (-1)) hx hb dX11_formattedCharacter_7 (by decide) ?_
    obtain ⟨rfl, rfl⟩ := js_rt h
    exact js_iret C hT hr hk dX11_formattedCharacter_8
set_option maxHeartbeats 4000000 in
set_option maxRecDepth 20000 in
theorem kX11_formattedLength {x0 : Nat} {x1 : Int32} {σ σ0 : js_S} {r0 : Int32} (t0 : ob_ nn 11 x0) (h : fX11_formattedLength fu x0 x1 σ = some (r0, σ0)) : js_M l D B g nn yX11_formattedLength cX11_formattedLength 2 (some .int) 3 [.ref (B + x0), .int x1] σ (js_QI D B g nn r0 σ0) := by
  refine js_enter (by decide) (Nat.le_of_ble_eq_true rfl) ?_
  intro p e s m args below meth c C hr hk ls hl hT
  have hl : lv_has ls 2 [(0, .ref (B + x0)), (1, .int x1)] := hl
  obtain ⟨hx, hb, hml, hown, ht, hK, hNw⟩ := id C
  obtain ⟨H, eH⟩ : ∃ H, H = s.heap := ⟨_, rfl⟩
  obtain ⟨locs, eL⟩ : ∃ z : List Loc, z = [] := ⟨_, rfl⟩
  rw [← eH, ← eL]
  rw [← eH, ← eL] at hT
  clear eH eL
  unfold fX11_formattedLength at h
  refine lv_iload_n hx hb dX11_formattedLength_0 rfl (lv_at hl 1 rfl) ?_
  obtain ⟨r1, σ1, hc1, h⟩ := bd_some h
  refine js_backI hT (js_runS C hT mfX11_hasRegister lk_X11_226 (kX11_hasRegister  hc1) ⟨Nat.le_of_ble_eq_true rfl, Nat.le_of_ble_eq_true rfl⟩ rfl hl.1 rfl (Nat.le_of_ble_eq_true rfl) ⟨Nat.zero_le _, Nat.zero_le _⟩ dX11_formattedLength_1) (fun H locs hT => ?_)
  refine lv_if_ne (tgt := 9) hx hb dX11_formattedLength_4 (by decide) (fun c2 => ?_) (fun c2 => ?_)
  · rw [if_neg c2] at h
    refine lv_aload_n hx hb dX11_formattedLength_9 rfl (lv_at hl 0 rfl) ?_
    refine js_gR C hT cfX11 t0 4 (by decide) (q := 10) rfl (by decide) lk_X11_28 dX11_formattedLength_10 (fun t3a => ?_)
    refine lv_aload_n hx hb dX11_formattedLength_13 rfl (lv_at hl 0 rfl) ?_
    refine js_gR C hT cfX11 t0 0 (by decide) (q := 6) rfl (by decide) lk_X11_12 dX11_formattedLength_14 (fun t4a => ?_)
    refine js_gRN C hT cfX6 t4a 0 (by decide) (q := 8) rfl (by decide) lk_X11_88 dX11_formattedLength_17 (fun t5a => ?_)
    refine lv_aload_n hx hb dX11_formattedLength_20 rfl (lv_at hl 0 rfl) ?_
    refine js_gR C hT cfX11 t0 0 (by decide) (q := 6) rfl (by decide) lk_X11_12 dX11_formattedLength_21 (fun t6a => ?_)
    refine lv_iload_n hx hb dX11_formattedLength_24 rfl (lv_at hl 1 rfl) ?_
    obtain ⟨r7, σ7, hc7, h⟩ := bd_some h
    refine js_backR hT (js_runV C hT cfX6 t6a rfl mfX6_register lk_X11_237 (kX6_register t6a hc7) ⟨Nat.le_of_ble_eq_true rfl, Nat.le_of_ble_eq_true rfl⟩ rfl hl.1 rfl (Nat.le_of_ble_eq_true rfl) ⟨Nat.zero_le _, Nat.zero_le _⟩ dX11_formattedLength_25) (fun H locs hT t7a => ?_)
    obtain ⟨z8, σ8, hc8, h⟩ := bd_some h
    refine js_backV hT (js_runV C hT cfX10 t3a rfl mfX10_write lk_X11_240 (kX10_write t3a t5a t7a hc8) ⟨Nat.le_of_ble_eq_true rfl, Nat.le_of_ble_eq_true rfl⟩ rfl hl.1 rfl (Nat.le_of_ble_eq_true rfl) ⟨Nat.zero_le _, Nat.zero_le _⟩ dX11_formattedLength_28) (fun H locs hT => ?_)
    refine lv_aload_n hx hb dX11_formattedLength_31 rfl (lv_at hl 0 rfl) ?_
    refine js_gR C hT cfX11 t0 4 (by decide) (q := 10) rfl (by decide) lk_X11_28 dX11_formattedLength_32 (fun t9a => ?_)
    refine js_gIN C hT cfX10 t9a 2 (by decide) rfl lk_X11_244 dX11_formattedLength_35 ?_
    obtain ⟨rfl, rfl⟩ := js_rt h
    exact js_iret C hT hr hk dX11_formattedLength_38
  · rw [if_pos c2] at h
    refine lv_iconst (v := (-1)) hx hb dX11_formattedLength_7 (by decide) ?_
    obtain ⟨rfl, rfl⟩ := js_rt h
    exact js_iret C hT hr hk dX11_formattedLength_8
set_option maxHeartbeats 4000000 in
set_option maxRecDepth 20000 in
theorem kX11_hasEdge {x0 : Nat} {x1 : Int32} {x2 : Int32} {σ σ0 : js_S} {r0 : Int32} (t0 : ob_ nn 11 x0) (h : fX11_hasEdge fu x0 x1 x2 σ = some (r0, σ0)) : js_M l D B g nn yX11_hasEdge cX11_hasEdge 3 (some .int) 7 [.ref (B + x0), .int x1, .int x2] σ (js_QI D B g nn r0 σ0) := by
  refine js_enter (by decide) (Nat.le_of_ble_eq_true rfl) ?_
  intro p e s m args below meth c C hr hk ls hl hT
  have hl : lv_has ls 3 [(0, .ref (B + x0)), (1, .int x1), (2, .int x2)] := hl
  obtain ⟨hx, hb, hml, hown, ht, hK, hNw⟩ := id C
  obtain ⟨H, eH⟩ : ∃ H, H = s.heap := ⟨_, rfl⟩
  obtain ⟨locs, eL⟩ : ∃ z : List Loc, z = [] := ⟨_, rfl⟩
  rw [← eH, ← eL]
  rw [← eH, ← eL] at hT
  clear eH eL
  unfold fX11_hasEdge at h
  refine lv_aload_n hx hb dX11_hasEdge_0 rfl (lv_at hl 0 rfl) ?_
  refine lv_iload_n hx hb dX11_hasEdge_1 rfl (lv_at hl 1 rfl) ?_
  obtain ⟨r1, σ1, hc1, h⟩ := bd_some h
  refine js_backI hT (js_runV C hT cfX11 t0 rfl mfX11_hasPair lk_X11_148 (kX11_hasPair t0 hc1) ⟨Nat.le_of_ble_eq_true rfl, Nat.le_of_ble_eq_true rfl⟩ rfl hl.1 rfl (Nat.le_of_ble_eq_true rfl) ⟨Nat.zero_le _, Nat.zero_le _⟩ dX11_hasEdge_2) (fun H locs hT => ?_)
  refine lv_if_eq (tgt := 16) hx hb dX11_hasEdge_5 (by decide) (fun c2 => ?_) (fun c2 => ?_)
  · rw [if_pos c2] at h
    refine lv_iconst (v := (-1)) hx hb dX11_hasEdge_16 (by decide) ?_
    obtain ⟨rfl, rfl⟩ := js_rt h
    exact js_iret C hT hr hk dX11_hasEdge_17
  · rw [if_neg c2] at h
    refine lv_aload_n hx hb dX11_hasEdge_8 rfl (lv_at hl 0 rfl) ?_
    refine lv_iload_n hx hb dX11_hasEdge_9 rfl (lv_at hl 2 rfl) ?_
    obtain ⟨r3, σ3, hc3, h⟩ := bd_some h
    refine js_backI hT (js_runV C hT cfX11 t0 rfl mfX11_hasPair lk_X11_148 (kX11_hasPair t0 hc3) ⟨Nat.le_of_ble_eq_true rfl, Nat.le_of_ble_eq_true rfl⟩ rfl hl.1 rfl (Nat.le_of_ble_eq_true rfl) ⟨Nat.zero_le _, Nat.zero_le _⟩ dX11_hasEdge_10) (fun H locs hT => ?_)
    refine lv_if_ne (tgt := 18) hx hb dX11_hasEdge_13 (by decide) (fun c4 => ?_) (fun c4 => ?_)
    · rw [if_neg c4] at h
      refine lv_aload_n hx hb dX11_hasEdge_18 rfl (lv_at hl 0 rfl) ?_
      obtain ⟨r5, σ5, hc5, h⟩ := bd_some h
      refine js_backR hT (js_runV C hT cfX11 t0 rfl mfX11_currentPairs lk_X11_141 (kX11_currentPairs t0 hc5) ⟨Nat.le_of_ble_eq_true rfl, Nat.le_of_ble_eq_true rfl⟩ rfl hl.1 rfl (Nat.le_of_ble_eq_true rfl) ⟨Nat.zero_le _, Nat.zero_le _⟩ dX11_hasEdge_19) (fun H locs hT t5a => ?_)
      refine js_gRN C hT cfX5 t5a 3 (by decide) (q := 4) rfl (by decide) lk_X11_165 dX11_hasEdge_22 (fun t6a => ?_)
      refine lv_iload_n hx hb dX11_hasEdge_25 rfl (lv_at hl 1 rfl) ?_
      refine lv_iload_n hx hb dX11_hasEdge_26 rfl (lv_at hl 2 rfl) ?_
      obtain ⟨r7, σ7, hc7, h⟩ := bd_some h
      refine js_backI hT (js_runV C hT cfX4 t6a rfl mfX4_has lk_X11_169 (kX4_has t6a hc7) ⟨Nat.le_of_ble_eq_true rfl, Nat.le_of_ble_eq_true rfl⟩ rfl hl.1 rfl (Nat.le_of_ble_eq_true rfl) ⟨Nat.zero_le _, Nat.zero_le _⟩ dX11_hasEdge_27) (fun H locs hT => ?_)
      refine lv_if_eq (tgt := 37) hx hb dX11_hasEdge_30 (by decide) (fun c8 => ?_) (fun c8 => ?_)
      · rw [if_pos c8] at h
        refine lv_iconst (v := 0) hx hb dX11_hasEdge_37 (by decide) ?_
        obtain ⟨rfl, rfl⟩ := js_rt h
        exact js_iret C hT hr hk dX11_hasEdge_38
      · rw [if_neg c8] at h
        refine lv_iconst (v := 1) hx hb dX11_hasEdge_33 (by decide) ?_
        refine lv_goto (tgt := 38) hx hb dX11_hasEdge_34 (by decide) ?_
        obtain ⟨rfl, rfl⟩ := js_rt h
        exact js_iret C hT hr hk dX11_hasEdge_38
    · rw [if_pos c4] at h
      refine lv_iconst (v := (-1)) hx hb dX11_hasEdge_16 (by decide) ?_
      obtain ⟨rfl, rfl⟩ := js_rt h
      exact js_iret C hT hr hk dX11_hasEdge_17
set_option maxHeartbeats 4000000 in
set_option maxRecDepth 20000 in
theorem kX11_hasPosition {x0 : Nat} {x1 : Int32} {x2 : Int32} {σ σ0 : js_S} {r0 : Int32} (t0 : ob_ nn 11 x0) (h : fX11_hasPosition fu x0 x1 x2 σ = some (r0, σ0)) : js_M l D B g nn yX11_hasPosition cX11_hasPosition 3 (some .boolean) 1 [.ref (B + x0), .int x1, .int x2] σ (js_QI D B g nn r0 σ0) := by
  refine js_enter (by decide) (Nat.le_of_ble_eq_true rfl) ?_
  intro p e s m args below meth c C hr hk ls hl hT
  have hl : lv_has ls 3 [(0, .ref (B + x0)), (1, .int x1), (2, .int x2)] := hl
  obtain ⟨hx, hb, hml, hown, ht, hK, hNw⟩ := id C
  obtain ⟨H, eH⟩ : ∃ H, H = s.heap := ⟨_, rfl⟩
  obtain ⟨locs, eL⟩ : ∃ z : List Loc, z = [] := ⟨_, rfl⟩
  rw [← eH, ← eL]
  rw [← eH, ← eL] at hT
  clear eH eL
  unfold fX11_hasPosition at h
  refine lv_iload_n hx hb dX11_hasPosition_0 rfl (lv_at hl 1 rfl) ?_
  obtain ⟨r1, σ1, hc1, h⟩ := bd_some h
  refine js_backI hT (js_runS C hT mfX11_hasRegister lk_X11_226 (kX11_hasRegister  hc1) ⟨Nat.le_of_ble_eq_true rfl, Nat.le_of_ble_eq_true rfl⟩ rfl hl.1 rfl (Nat.le_of_ble_eq_true rfl) ⟨Nat.zero_le _, Nat.zero_le _⟩ dX11_hasPosition_1) (fun H locs hT => ?_)
  refine lv_if_eq (tgt := 30) hx hb dX11_hasPosition_4 (by decide) (fun c2 => ?_) (fun c2 => ?_)
  · rw [if_pos c2] at h
    refine lv_iconst (v := 0) hx hb dX11_hasPosition_30 (by decide) ?_
    obtain ⟨rfl, rfl⟩ := js_rt h
    exact js_zret C hT hr hk rfl dX11_hasPosition_31
  · rw [if_neg c2] at h
    refine lv_iload_n hx hb dX11_hasPosition_7 rfl (lv_at hl 2 rfl) ?_
    refine lv_if_lt (tgt := 30) hx hb dX11_hasPosition_8 (by decide) (fun c3 => ?_) (fun c3 => ?_)
    · rw [if_pos c3] at h
      refine lv_iconst (v := 0) hx hb dX11_hasPosition_30 (by decide) ?_
      obtain ⟨rfl, rfl⟩ := js_rt h
      exact js_zret C hT hr hk rfl dX11_hasPosition_31
    · rw [if_neg c3] at h
      refine lv_iload_n hx hb dX11_hasPosition_11 rfl (lv_at hl 2 rfl) ?_
      refine lv_aload_n hx hb dX11_hasPosition_12 rfl (lv_at hl 0 rfl) ?_
      refine js_gR C hT cfX11 t0 0 (by decide) (q := 6) rfl (by decide) lk_X11_12 dX11_hasPosition_13 (fun t4a => ?_)
      refine lv_iload_n hx hb dX11_hasPosition_16 rfl (lv_at hl 1 rfl) ?_
      obtain ⟨r5, σ5, hc5, h⟩ := bd_some h
      refine js_backR hT (js_runV C hT cfX6 t4a rfl mfX6_register lk_X11_237 (kX6_register t4a hc5) ⟨Nat.le_of_ble_eq_true rfl, Nat.le_of_ble_eq_true rfl⟩ rfl hl.1 rfl (Nat.le_of_ble_eq_true rfl) ⟨Nat.zero_le _, Nat.zero_le _⟩ dX11_hasPosition_17) (fun H locs hT t5a => ?_)
      refine js_gIN C hT cfX9 t5a 1 (by decide) rfl lk_X11_138 dX11_hasPosition_20 ?_
      refine lv_icmp_ge (tgt := 30) hx hb dX11_hasPosition_23 (by decide) (fun c6 => ?_) (fun c6 => ?_)
      · rw [if_pos c6] at h
        refine lv_iconst (v := 0) hx hb dX11_hasPosition_30 (by decide) ?_
        obtain ⟨rfl, rfl⟩ := js_rt h
        exact js_zret C hT hr hk rfl dX11_hasPosition_31
      · rw [if_neg c6] at h
        refine lv_iconst (v := 1) hx hb dX11_hasPosition_26 (by decide) ?_
        refine lv_goto (tgt := 31) hx hb dX11_hasPosition_27 (by decide) ?_
        obtain ⟨rfl, rfl⟩ := js_rt h
        exact js_zret C hT hr hk rfl dX11_hasPosition_31
set_option maxHeartbeats 4000000 in
set_option maxRecDepth 20000 in
theorem kX11_hasRule {x0 : Nat} {x1 : Int32} {σ σ0 : js_S} {r0 : Int32} (t0 : ob_ nn 11 x0) (h : fX11_hasRule fu x0 x1 σ = some (r0, σ0)) : js_M l D B g nn yX11_hasRule cX11_hasRule 2 (some .boolean) 0 [.ref (B + x0), .int x1] σ (js_QI D B g nn r0 σ0) := by
  refine js_enter (by decide) (Nat.le_of_ble_eq_true rfl) ?_
  intro p e s m args below meth c C hr hk ls hl hT
  have hl : lv_has ls 2 [(0, .ref (B + x0)), (1, .int x1)] := hl
  obtain ⟨hx, hb, hml, hown, ht, hK, hNw⟩ := id C
  obtain ⟨H, eH⟩ : ∃ H, H = s.heap := ⟨_, rfl⟩
  obtain ⟨locs, eL⟩ : ∃ z : List Loc, z = [] := ⟨_, rfl⟩
  rw [← eH, ← eL]
  rw [← eH, ← eL] at hT
  clear eH eL
  unfold fX11_hasRule at h
  refine lv_iload_n hx hb dX11_hasRule_0 rfl (lv_at hl 1 rfl) ?_
  refine lv_if_lt (tgt := 19) hx hb dX11_hasRule_1 (by decide) (fun c1 => ?_) (fun c1 => ?_)
  · rw [if_pos c1] at h
    refine lv_iconst (v := 0) hx hb dX11_hasRule_19 (by decide) ?_
    obtain ⟨rfl, rfl⟩ := js_rt h
    exact js_zret C hT hr hk rfl dX11_hasRule_20
  · rw [if_neg c1] at h
    refine lv_iload_n hx hb dX11_hasRule_4 rfl (lv_at hl 1 rfl) ?_
    refine lv_aload_n hx hb dX11_hasRule_5 rfl (lv_at hl 0 rfl) ?_
    refine js_gR C hT cfX11 t0 0 (by decide) (q := 6) rfl (by decide) lk_X11_12 dX11_hasRule_6 (fun t2a => ?_)
    refine js_gIN C hT cfX6 t2a 5 (by decide) rfl lk_X11_84 dX11_hasRule_9 ?_
    refine lv_icmp_ge (tgt := 19) hx hb dX11_hasRule_12 (by decide) (fun c3 => ?_) (fun c3 => ?_)
    · rw [if_pos c3] at h
      refine lv_iconst (v := 0) hx hb dX11_hasRule_19 (by decide) ?_
      obtain ⟨rfl, rfl⟩ := js_rt h
      exact js_zret C hT hr hk rfl dX11_hasRule_20
    · rw [if_neg c3] at h
      refine lv_iconst (v := 1) hx hb dX11_hasRule_15 (by decide) ?_
      refine lv_goto (tgt := 20) hx hb dX11_hasRule_16 (by decide) ?_
      obtain ⟨rfl, rfl⟩ := js_rt h
      exact js_zret C hT hr hk rfl dX11_hasRule_20
set_option maxHeartbeats 4000000 in
set_option maxRecDepth 20000 in
theorem kX11_idempotentCount {x0 : Nat} {σ σ0 : js_S} {r0 : Int32} (t0 : ob_ nn 11 x0) (h : fX11_idempotentCount fu x0 σ = some (r0, σ0)) : js_M l D B g nn yX11_idempotentCount cX11_idempotentCount 2 (some .int) 7 [.ref (B + x0)] σ (js_QI D B g nn r0 σ0) := by
  refine js_enter (by decide) (Nat.le_of_ble_eq_true rfl) ?_
  intro p e s m args below meth c C hr hk ls hl hT
  have hl : lv_has ls 2 [(0, .ref (B + x0))] := hl
  obtain ⟨hx, hb, hml, hown, ht, hK, hNw⟩ := id C
  obtain ⟨H, eH⟩ : ∃ H, H = s.heap := ⟨_, rfl⟩
  obtain ⟨locs, eL⟩ : ∃ z : List Loc, z = [] := ⟨_, rfl⟩
  rw [← eH, ← eL]
  rw [← eH, ← eL] at hT
  clear eH eL
  unfold fX11_idempotentCount at h
  refine lv_aload_n hx hb dX11_idempotentCount_0 rfl (lv_at hl 0 rfl) ?_
  obtain ⟨r1, σ1, hc1, h⟩ := bd_some h
  refine js_backR hT (js_runV C hT cfX11 t0 rfl mfX11_currentClosure lk_X11_191 (kX11_currentClosure t0 hc1) ⟨Nat.le_of_ble_eq_true rfl, Nat.le_of_ble_eq_true rfl⟩ rfl hl.1 rfl (Nat.le_of_ble_eq_true rfl) ⟨Nat.zero_le _, Nat.zero_le _⟩ dX11_idempotentCount_1) (fun H locs hT t1a => ?_)
  refine lv_astore_n (lv' := [(1, .ref (B + r1)), (0, .ref (B + x0))]) hx hb dX11_idempotentCount_4 rfl hl (by decide) rfl (fun ls hl => ?_)
  refine lv_aload_n hx hb dX11_idempotentCount_5 rfl (lv_at hl 0 rfl) ?_
  refine js_gIN C hT cfX0 t1a 5 (by decide) rfl lk_X11_195 dX11_idempotentCount_6 ?_
  refine lv_if_eq (tgt := 17) hx hb dX11_idempotentCount_9 (by decide) (fun c2 => ?_) (fun c2 => ?_)
  · rw [if_pos c2] at h
    refine lv_aload_n hx hb dX11_idempotentCount_17 rfl (lv_at hl 0 rfl) ?_
    refine js_gIN C hT cfX0 t1a 3 (by decide) rfl lk_X11_200 dX11_idempotentCount_18 ?_
    obtain ⟨rfl, rfl⟩ := js_rt h
    exact js_iret C hT hr hk dX11_idempotentCount_21
  · rw [if_neg c2] at h
    refine lv_bipush (v := (-8)) hx hb dX11_idempotentCount_12 (by decide) ?_
    refine lv_goto (tgt := 21) hx hb dX11_idempotentCount_14 (by decide) ?_
    obtain ⟨rfl, rfl⟩ := js_rt h
    exact js_iret C hT hr hk dX11_idempotentCount_21
set_option maxHeartbeats 4000000 in
set_option maxRecDepth 20000 in
theorem kX11_lastExploredSize {x0 : Nat} {x1 : Int32} {x2 : Int32} {σ σ0 : js_S} {r0 : Int32} (t0 : ob_ nn 11 x0) (h : fX11_lastExploredSize fu x0 x1 x2 σ = some (r0, σ0)) : js_M l D B g nn yX11_lastExploredSize cX11_lastExploredSize 4 (some .int) 7 [.ref (B + x0), .int x1, .int x2] σ (js_QI D B g nn r0 σ0) := by
  refine js_enter (by decide) (Nat.le_of_ble_eq_true rfl) ?_
  intro p e s m args below meth c C hr hk ls hl hT
  have hl : lv_has ls 4 [(0, .ref (B + x0)), (1, .int x1), (2, .int x2)] := hl
  obtain ⟨hx, hb, hml, hown, ht, hK, hNw⟩ := id C
  obtain ⟨H, eH⟩ : ∃ H, H = s.heap := ⟨_, rfl⟩
  obtain ⟨locs, eL⟩ : ∃ z : List Loc, z = [] := ⟨_, rfl⟩
  rw [← eH, ← eL]
  rw [← eH, ← eL] at hT
  clear eH eL
  unfold fX11_lastExploredSize at h
  refine lv_aload_n hx hb dX11_lastExploredSize_0 rfl (lv_at hl 0 rfl) ?_
  refine js_gR C hT cfX11 t0 6 (by decide) (q := 3) rfl (by decide) lk_X11_41 dX11_lastExploredSize_1 (fun t1a => ?_)
  refine lv_aload_n hx hb dX11_lastExploredSize_4 rfl (lv_at hl 0 rfl) ?_
  refine js_gR C hT cfX11 t0 0 (by decide) (q := 6) rfl (by decide) lk_X11_12 dX11_lastExploredSize_5 (fun t2a => ?_)
  refine lv_aload_n hx hb dX11_lastExploredSize_8 rfl (lv_at hl 0 rfl) ?_
  refine js_gR C hT cfX11 t0 5 (by decide) (q := 7) rfl (by decide) lk_X11_34 dX11_lastExploredSize_9 (fun t3a => ?_)
  refine lv_iload_n hx hb dX11_lastExploredSize_12 rfl (lv_at hl 1 rfl) ?_
  refine lv_iload_n hx hb dX11_lastExploredSize_13 rfl (lv_at hl 2 rfl) ?_
  obtain ⟨r4, σ4, hc4, h⟩ := bd_some h
  refine js_backI hT (js_runV C hT cfX3 t1a rfl mfX3_run lk_X11_279 (kX3_run t1a t2a t3a hc4) ⟨Nat.le_of_ble_eq_true rfl, Nat.le_of_ble_eq_true rfl⟩ rfl hl.1 rfl (Nat.le_of_ble_eq_true rfl) ⟨Nat.zero_le _, Nat.zero_le _⟩ dX11_lastExploredSize_14) (fun H locs hT => ?_)
  refine lv_istore_n (lv' := [(3, .int r4), (0, .ref (B + x0)), (1, .int x1), (2, .int x2)]) hx hb dX11_lastExploredSize_17 rfl hl (by decide) rfl (fun ls hl => ?_)
  refine lv_iload_n hx hb dX11_lastExploredSize_18 rfl (lv_at hl 0 rfl) ?_
  refine lv_if_ge (tgt := 26) hx hb dX11_lastExploredSize_19 (by decide) (fun c5 => ?_) (fun c5 => ?_)
  · rw [if_pos c5] at h
    refine lv_aload_n hx hb dX11_lastExploredSize_26 rfl (lv_at hl 1 rfl) ?_
    refine js_gR C hT cfX11 t0 6 (by decide) (q := 3) rfl (by decide) lk_X11_41 dX11_lastExploredSize_27 (fun t6a => ?_)
    refine js_gRN C hT cfX3 t6a 3 (by decide) (q := 9) rfl (by decide) lk_X11_289 dX11_lastExploredSize_30 (fun t7a => ?_)
    refine js_gIN C hT cfX9 t7a 1 (by decide) rfl lk_X11_138 dX11_lastExploredSize_33 ?_
    obtain ⟨rfl, rfl⟩ := js_rt h
    exact js_iret C hT hr hk dX11_lastExploredSize_36
  · rw [if_neg c5] at h
    refine lv_iload_n hx hb dX11_lastExploredSize_22 rfl (lv_at hl 0 rfl) ?_
    refine lv_goto (tgt := 36) hx hb dX11_lastExploredSize_23 (by decide) ?_
    obtain ⟨rfl, rfl⟩ := js_rt h
    exact js_iret C hT hr hk dX11_lastExploredSize_36
set_option maxHeartbeats 4000000 in
set_option maxRecDepth 20000 in
theorem kX11_leftSize {x0 : Nat} {x1 : Int32} {σ σ0 : js_S} {r0 : Int32} (t0 : ob_ nn 11 x0) (h : fX11_leftSize fu x0 x1 σ = some (r0, σ0)) : js_M l D B g nn yX11_leftSize cX11_leftSize 2 (some .int) 1 [.ref (B + x0), .int x1] σ (js_QI D B g nn r0 σ0) := by
  refine js_enter (by decide) (Nat.le_of_ble_eq_true rfl) ?_
  intro p e s m args below meth c C hr hk ls hl hT
  have hl : lv_has ls 2 [(0, .ref (B + x0)), (1, .int x1)] := hl
  obtain ⟨hx, hb, hml, hown, ht, hK, hNw⟩ := id C
  obtain ⟨H, eH⟩ : ∃ H, H = s.heap := ⟨_, rfl⟩
  obtain ⟨locs, eL⟩ : ∃ z : List Loc, z = [] := ⟨_, rfl⟩
  rw [← eH, ← eL]
  rw [← eH, ← eL] at hT
  clear eH eL
  unfold fX11_leftSize at h
  refine lv_aload_n hx hb dX11_leftSize_0 rfl (lv_at hl 0 rfl) ?_
  refine lv_iload_n hx hb dX11_leftSize_1 rfl (lv_at hl 1 rfl) ?_
  obtain ⟨r1, σ1, hc1, h⟩ := bd_some h
  refine js_backI hT (js_runV C hT cfX11 t0 rfl mfX11_hasRule lk_X11_132 (kX11_hasRule t0 hc1) ⟨Nat.le_of_ble_eq_true rfl, Nat.le_of_ble_eq_true rfl⟩ rfl hl.1 rfl (Nat.le_of_ble_eq_true rfl) ⟨Nat.zero_le _, Nat.zero_le _⟩ dX11_leftSize_2) (fun H locs hT => ?_)
  refine lv_if_eq (tgt := 22) hx hb dX11_leftSize_5 (by decide) (fun c2 => ?_) (fun c2 => ?_)
  · rw [if_pos c2] at h
    refine lv_iconst (v := (-1)) hx hb dX11_leftSize_22 (by decide) ?_
    obtain ⟨rfl, rfl⟩ := js_rt h
    exact js_iret C hT hr hk dX11_leftSize_23
  · rw [if_neg c2] at h
    refine lv_aload_n hx hb dX11_leftSize_8 rfl (lv_at hl 0 rfl) ?_
    refine js_gR C hT cfX11 t0 0 (by decide) (q := 6) rfl (by decide) lk_X11_12 dX11_leftSize_9 (fun t3a => ?_)
    refine lv_iload_n hx hb dX11_leftSize_12 rfl (lv_at hl 1 rfl) ?_
    obtain ⟨r4, σ4, hc4, h⟩ := bd_some h
    refine js_backR hT (js_runV C hT cfX6 t3a rfl mfX6_left lk_X11_108 (kX6_left t3a hc4) ⟨Nat.le_of_ble_eq_true rfl, Nat.le_of_ble_eq_true rfl⟩ rfl hl.1 rfl (Nat.le_of_ble_eq_true rfl) ⟨Nat.zero_le _, Nat.zero_le _⟩ dX11_leftSize_13) (fun H locs hT t4a => ?_)
    refine js_gIN C hT cfX9 t4a 1 (by decide) rfl lk_X11_138 dX11_leftSize_16 ?_
    refine lv_goto (tgt := 23) hx hb dX11_leftSize_19 (by decide) ?_
    obtain ⟨rfl, rfl⟩ := js_rt h
    exact js_iret C hT hr hk dX11_leftSize_23
set_option maxHeartbeats 4000000 in
set_option maxRecDepth 20000 in
theorem kX11_loadLeft {x0 : Nat} {x1 : Int32} {x2 : Int32} {σ σ0 : js_S} {r0 : Int32} (t0 : ob_ nn 11 x0) (h : fX11_loadLeft fu x0 x1 x2 σ = some (r0, σ0)) : js_M l D B g nn yX11_loadLeft cX11_loadLeft 3 (some .int) 2 [.ref (B + x0), .int x1, .int x2] σ (js_QI D B g nn r0 σ0) := by
  refine js_enter (by decide) (Nat.le_of_ble_eq_true rfl) ?_
  intro p e s m args below meth c C hr hk ls hl hT
  have hl : lv_has ls 3 [(0, .ref (B + x0)), (1, .int x1), (2, .int x2)] := hl
  obtain ⟨hx, hb, hml, hown, ht, hK, hNw⟩ := id C
  obtain ⟨H, eH⟩ : ∃ H, H = s.heap := ⟨_, rfl⟩
  obtain ⟨locs, eL⟩ : ∃ z : List Loc, z = [] := ⟨_, rfl⟩
  rw [← eH, ← eL]
  rw [← eH, ← eL] at hT
  clear eH eL
  unfold fX11_loadLeft at h
  refine lv_aload_n hx hb dX11_loadLeft_0 rfl (lv_at hl 0 rfl) ?_
  refine lv_iload_n hx hb dX11_loadLeft_1 rfl (lv_at hl 1 rfl) ?_
  obtain ⟨r1, σ1, hc1, h⟩ := bd_some h
  refine js_backI hT (js_runV C hT cfX11 t0 rfl mfX11_hasRule lk_X11_132 (kX11_hasRule t0 hc1) ⟨Nat.le_of_ble_eq_true rfl, Nat.le_of_ble_eq_true rfl⟩ rfl hl.1 rfl (Nat.le_of_ble_eq_true rfl) ⟨Nat.zero_le _, Nat.zero_le _⟩ dX11_loadLeft_2) (fun H locs hT => ?_)
  refine lv_if_eq (tgt := 15) hx hb dX11_loadLeft_5 (by decide) (fun c2 => ?_) (fun c2 => ?_)
  · rw [if_pos c2] at h
    refine lv_iconst (v := (-1)) hx hb dX11_loadLeft_15 (by decide) ?_
    obtain ⟨rfl, rfl⟩ := js_rt h
    exact js_iret C hT hr hk dX11_loadLeft_16
  · rw [if_neg c2] at h
    refine lv_iload_n hx hb dX11_loadLeft_8 rfl (lv_at hl 2 rfl) ?_
    obtain ⟨r3, σ3, hc3, h⟩ := bd_some h
    refine js_backI hT (js_runS C hT mfX11_hasRegister lk_X11_226 (kX11_hasRegister  hc3) ⟨Nat.le_of_ble_eq_true rfl, Nat.le_of_ble_eq_true rfl⟩ rfl hl.1 rfl (Nat.le_of_ble_eq_true rfl) ⟨Nat.zero_le _, Nat.zero_le _⟩ dX11_loadLeft_9) (fun H locs hT => ?_)
    refine lv_if_ne (tgt := 17) hx hb dX11_loadLeft_12 (by decide) (fun c4 => ?_) (fun c4 => ?_)
    · rw [if_neg c4] at h
      refine lv_aload_n hx hb dX11_loadLeft_17 rfl (lv_at hl 0 rfl) ?_
      refine lv_aload_n hx hb dX11_loadLeft_18 rfl (lv_at hl 0 rfl) ?_
      refine js_gR C hT cfX11 t0 0 (by decide) (q := 6) rfl (by decide) lk_X11_12 dX11_loadLeft_19 (fun t5a => ?_)
      refine lv_iload_n hx hb dX11_loadLeft_22 rfl (lv_at hl 1 rfl) ?_
      obtain ⟨r6, σ6, hc6, h⟩ := bd_some h
      refine js_backR hT (js_runV C hT cfX6 t5a rfl mfX6_left lk_X11_108 (kX6_left t5a hc6) ⟨Nat.le_of_ble_eq_true rfl, Nat.le_of_ble_eq_true rfl⟩ rfl hl.1 rfl (Nat.le_of_ble_eq_true rfl) ⟨Nat.zero_le _, Nat.zero_le _⟩ dX11_loadLeft_23) (fun H locs hT t6a => ?_)
      refine lv_iload_n hx hb dX11_loadLeft_26 rfl (lv_at hl 2 rfl) ?_
      obtain ⟨r7, σ7, hc7, h⟩ := bd_some h
      refine js_backI hT (js_runV C hT cfX11 t0 rfl mfX11_store lk_X11_233 (kX11_store t0 t6a hc7) ⟨Nat.le_of_ble_eq_true rfl, Nat.le_of_ble_eq_true rfl⟩ rfl hl.1 rfl (Nat.le_of_ble_eq_true rfl) ⟨Nat.zero_le _, Nat.zero_le _⟩ dX11_loadLeft_27) (fun H locs hT => ?_)
      obtain ⟨rfl, rfl⟩ := js_rt h
      exact js_iret C hT hr hk dX11_loadLeft_30
    · rw [if_pos c4] at h
      refine lv_iconst (v := (-1)) hx hb dX11_loadLeft_15 (by decide) ?_
      obtain ⟨rfl, rfl⟩ := js_rt h
      exact js_iret C hT hr hk dX11_loadLeft_16
set_option maxHeartbeats 4000000 in
set_option maxRecDepth 20000 in
theorem kX11_loadNormalForm {x0 : Nat} {x1 : Int32} {x2 : Int32} {x3 : Int32} {σ σ0 : js_S} {r0 : Int32} (t0 : ob_ nn 11 x0) (h : fX11_loadNormalForm fu x0 x1 x2 x3 σ = some (r0, σ0)) : js_M l D B g nn yX11_loadNormalForm cX11_loadNormalForm 5 (some .int) 7 [.ref (B + x0), .int x1, .int x2, .int x3] σ (js_QI D B g nn r0 σ0) := by
  refine js_enter (by decide) (Nat.le_of_ble_eq_true rfl) ?_
  intro p e s m args below meth c C hr hk ls hl hT
  have hl : lv_has ls 5 [(0, .ref (B + x0)), (1, .int x1), (2, .int x2), (3, .int x3)] := hl
  obtain ⟨hx, hb, hml, hown, ht, hK, hNw⟩ := id C
  obtain ⟨H, eH⟩ : ∃ H, H = s.heap := ⟨_, rfl⟩
  obtain ⟨locs, eL⟩ : ∃ z : List Loc, z = [] := ⟨_, rfl⟩
  rw [← eH, ← eL]
  rw [← eH, ← eL] at hT
  clear eH eL
  unfold fX11_loadNormalForm at h
  refine lv_iload_n hx hb dX11_loadNormalForm_0 rfl (lv_at hl 3 rfl) ?_
  obtain ⟨r1, σ1, hc1, h⟩ := bd_some h
  refine js_backI hT (js_runS C hT mfX11_hasRegister lk_X11_226 (kX11_hasRegister  hc1) ⟨Nat.le_of_ble_eq_true rfl, Nat.le_of_ble_eq_true rfl⟩ rfl hl.1 rfl (Nat.le_of_ble_eq_true rfl) ⟨Nat.zero_le _, Nat.zero_le _⟩ dX11_loadNormalForm_1) (fun H locs hT => ?_)
  refine lv_if_ne (tgt := 9) hx hb dX11_loadNormalForm_4 (by decide) (fun c2 => ?_) (fun c2 => ?_)
  · rw [if_neg c2] at h
    refine lv_aload_n hx hb dX11_loadNormalForm_9 rfl (lv_at hl 0 rfl) ?_
    refine js_gR C hT cfX11 t0 6 (by decide) (q := 3) rfl (by decide) lk_X11_41 dX11_loadNormalForm_10 (fun t3a => ?_)
    refine lv_aload_n hx hb dX11_loadNormalForm_13 rfl (lv_at hl 0 rfl) ?_
    refine js_gR C hT cfX11 t0 0 (by decide) (q := 6) rfl (by decide) lk_X11_12 dX11_loadNormalForm_14 (fun t4a => ?_)
    refine lv_aload_n hx hb dX11_loadNormalForm_17 rfl (lv_at hl 0 rfl) ?_
    refine js_gR C hT cfX11 t0 5 (by decide) (q := 7) rfl (by decide) lk_X11_34 dX11_loadNormalForm_18 (fun t5a => ?_)
    refine lv_iload_n hx hb dX11_loadNormalForm_21 rfl (lv_at hl 1 rfl) ?_
    refine lv_iload_n hx hb dX11_loadNormalForm_22 rfl (lv_at hl 2 rfl) ?_
    obtain ⟨r6, σ6, hc6, h⟩ := bd_some h
    refine js_backI hT (js_runV C hT cfX3 t3a rfl mfX3_run lk_X11_279 (kX3_run t3a t4a t5a hc6) ⟨Nat.le_of_ble_eq_true rfl, Nat.le_of_ble_eq_true rfl⟩ rfl hl.1 rfl (Nat.le_of_ble_eq_true rfl) ⟨Nat.zero_le _, Nat.zero_le _⟩ dX11_loadNormalForm_23) (fun H locs hT => ?_)
    refine lv_istore (lv' := [(4, .int r6), (0, .ref (B + x0)), (1, .int x1), (2, .int x2), (3, .int x3)]) hx hb dX11_loadNormalForm_26 hl (by decide) rfl (fun ls hl => ?_)
    refine lv_iload hx hb dX11_loadNormalForm_28 (lv_at hl 0 rfl) ?_
    refine lv_if_ge (tgt := 36) hx hb dX11_loadNormalForm_30 (by decide) (fun c7 => ?_) (fun c7 => ?_)
    · rw [if_pos c7] at h
      refine lv_aload_n hx hb dX11_loadNormalForm_36 rfl (lv_at hl 1 rfl) ?_
      refine js_gR C hT cfX11 t0 6 (by decide) (q := 3) rfl (by decide) lk_X11_41 dX11_loadNormalForm_37 (fun t8a => ?_)
      refine js_gIN C hT cfX3 t8a 7 (by decide) rfl lk_X11_286 dX11_loadNormalForm_40 ?_
      refine lv_if_le (tgt := 61) hx hb dX11_loadNormalForm_43 (by decide) (fun c9 => ?_) (fun c9 => ?_)
      · rw [if_pos c9] at h
        refine lv_bipush (v := (-5)) hx hb dX11_loadNormalForm_61 (by decide) ?_
        obtain ⟨rfl, rfl⟩ := js_rt h
        exact js_iret C hT hr hk dX11_loadNormalForm_63
      · rw [if_neg c9] at h
        refine lv_aload_n hx hb dX11_loadNormalForm_46 rfl (lv_at hl 1 rfl) ?_
        refine lv_aload_n hx hb dX11_loadNormalForm_47 rfl (lv_at hl 1 rfl) ?_
        refine js_gR C hT cfX11 t0 6 (by decide) (q := 3) rfl (by decide) lk_X11_41 dX11_loadNormalForm_48 (fun t10a => ?_)
        refine js_gRN C hT cfX3 t10a 4 (by decide) (q := 9) rfl (by decide) lk_X11_292 dX11_loadNormalForm_51 (fun t11a => ?_)
        refine lv_iload_n hx hb dX11_loadNormalForm_54 rfl (lv_at hl 4 rfl) ?_
        obtain ⟨r12, σ12, hc12, h⟩ := bd_some h
        refine js_backI hT (js_runV C hT cfX11 t0 rfl mfX11_store lk_X11_233 (kX11_store t0 t11a hc12) ⟨Nat.le_of_ble_eq_true rfl, Nat.le_of_ble_eq_true rfl⟩ rfl hl.1 rfl (Nat.le_of_ble_eq_true rfl) ⟨Nat.zero_le _, Nat.zero_le _⟩ dX11_loadNormalForm_55) (fun H locs hT => ?_)
        refine lv_goto (tgt := 63) hx hb dX11_loadNormalForm_58 (by decide) ?_
        obtain ⟨rfl, rfl⟩ := js_rt h
        exact js_iret C hT hr hk dX11_loadNormalForm_63
    · rw [if_neg c7] at h
      refine lv_iload hx hb dX11_loadNormalForm_33 (lv_at hl 0 rfl) ?_
      obtain ⟨rfl, rfl⟩ := js_rt h
      exact js_iret C hT hr hk dX11_loadNormalForm_35
  · rw [if_pos c2] at h
    refine lv_iconst (v := (-1)) hx hb dX11_loadNormalForm_7 (by decide) ?_
    obtain ⟨rfl, rfl⟩ := js_rt h
    exact js_iret C hT hr hk dX11_loadNormalForm_8
set_option maxHeartbeats 4000000 in
set_option maxRecDepth 20000 in
theorem kX11_loadRight {x0 : Nat} {x1 : Int32} {x2 : Int32} {σ σ0 : js_S} {r0 : Int32} (t0 : ob_ nn 11 x0) (h : fX11_loadRight fu x0 x1 x2 σ = some (r0, σ0)) : js_M l D B g nn yX11_loadRight cX11_loadRight 3 (some .int) 2 [.ref (B + x0), .int x1, .int x2] σ (js_QI D B g nn r0 σ0) := by
  refine js_enter (by decide) (Nat.le_of_ble_eq_true rfl) ?_
  intro p e s m args below meth c C hr hk ls hl hT
  have hl : lv_has ls 3 [(0, .ref (B + x0)), (1, .int x1), (2, .int x2)] := hl
  obtain ⟨hx, hb, hml, hown, ht, hK, hNw⟩ := id C
  obtain ⟨H, eH⟩ : ∃ H, H = s.heap := ⟨_, rfl⟩
  obtain ⟨locs, eL⟩ : ∃ z : List Loc, z = [] := ⟨_, rfl⟩
  rw [← eH, ← eL]
  rw [← eH, ← eL] at hT
  clear eH eL
  unfold fX11_loadRight at h
  refine lv_aload_n hx hb dX11_loadRight_0 rfl (lv_at hl 0 rfl) ?_
  refine lv_iload_n hx hb dX11_loadRight_1 rfl (lv_at hl 1 rfl) ?_
  obtain ⟨r1, σ1, hc1, h⟩ := bd_some h
  refine js_backI hT (js_runV C hT cfX11 t0 rfl mfX11_hasRule lk_X11_132 (kX11_hasRule t0 hc1) ⟨Nat.le_of_ble_eq_true rfl, Nat.le_of_ble_eq_true rfl⟩ rfl hl.1 rfl (Nat.le_of_ble_eq_true rfl) ⟨Nat.zero_le _, Nat.zero_le _⟩ dX11_loadRight_2) (fun H locs hT => ?_)
  refine lv_if_eq (tgt := 15) hx hb dX11_loadRight_5 (by decide) (fun c2 => ?_) (fun c2 => ?_)
  · rw [if_pos c2] at h
    refine lv_iconst (v := (-1)) hx hb dX11_loadRight_15 (by decide) ?_
    obtain ⟨rfl, rfl⟩ := js_rt h
    exact js_iret C hT hr hk dX11_loadRight_16
  · rw [if_neg c2] at h
    refine lv_iload_n hx hb dX11_loadRight_8 rfl (lv_at hl 2 rfl) ?_
    obtain ⟨r3, σ3, hc3, h⟩ := bd_some h
    refine js_backI hT (js_runS C hT mfX11_hasRegister lk_X11_226 (kX11_hasRegister  hc3) ⟨Nat.le_of_ble_eq_true rfl, Nat.le_of_ble_eq_true rfl⟩ rfl hl.1 rfl (Nat.le_of_ble_eq_true rfl) ⟨Nat.zero_le _, Nat.zero_le _⟩ dX11_loadRight_9) (fun H locs hT => ?_)
    refine lv_if_ne (tgt := 17) hx hb dX11_loadRight_12 (by decide) (fun c4 => ?_) (fun c4 => ?_)
    · rw [if_neg c4] at h
      refine lv_aload_n hx hb dX11_loadRight_17 rfl (lv_at hl 0 rfl) ?_
      refine lv_aload_n hx hb dX11_loadRight_18 rfl (lv_at hl 0 rfl) ?_
      refine js_gR C hT cfX11 t0 0 (by decide) (q := 6) rfl (by decide) lk_X11_12 dX11_loadRight_19 (fun t5a => ?_)
      refine lv_iload_n hx hb dX11_loadRight_22 rfl (lv_at hl 1 rfl) ?_
      obtain ⟨r6, σ6, hc6, h⟩ := bd_some h
      refine js_backR hT (js_runV C hT cfX6 t5a rfl mfX6_right lk_X11_112 (kX6_right t5a hc6) ⟨Nat.le_of_ble_eq_true rfl, Nat.le_of_ble_eq_true rfl⟩ rfl hl.1 rfl (Nat.le_of_ble_eq_true rfl) ⟨Nat.zero_le _, Nat.zero_le _⟩ dX11_loadRight_23) (fun H locs hT t6a => ?_)
      refine lv_iload_n hx hb dX11_loadRight_26 rfl (lv_at hl 2 rfl) ?_
      obtain ⟨r7, σ7, hc7, h⟩ := bd_some h
      refine js_backI hT (js_runV C hT cfX11 t0 rfl mfX11_store lk_X11_233 (kX11_store t0 t6a hc7) ⟨Nat.le_of_ble_eq_true rfl, Nat.le_of_ble_eq_true rfl⟩ rfl hl.1 rfl (Nat.le_of_ble_eq_true rfl) ⟨Nat.zero_le _, Nat.zero_le _⟩ dX11_loadRight_27) (fun H locs hT => ?_)
      obtain ⟨rfl, rfl⟩ := js_rt h
      exact js_iret C hT hr hk dX11_loadRight_30
    · rw [if_pos c4] at h
      refine lv_iconst (v := (-1)) hx hb dX11_loadRight_15 (by decide) ?_
      obtain ⟨rfl, rfl⟩ := js_rt h
      exact js_iret C hT hr hk dX11_loadRight_16
set_option maxHeartbeats 4000000 in
set_option maxRecDepth 20000 in
theorem kX11_matches {x0 : Nat} {x1 : Int32} {x2 : Int32} {x3 : Int32} {σ σ0 : js_S} {r0 : Int32} (t0 : ob_ nn 11 x0) (h : fX11_matches fu x0 x1 x2 x3 σ = some (r0, σ0)) : js_M l D B g nn yX11_matches cX11_matches 4 (some .int) 3 [.ref (B + x0), .int x1, .int x2, .int x3] σ (js_QI D B g nn r0 σ0) := by
  refine js_enter (by decide) (Nat.le_of_ble_eq_true rfl) ?_
  intro p e s m args below meth c C hr hk ls hl hT
  have hl : lv_has ls 4 [(0, .ref (B + x0)), (1, .int x1), (2, .int x2), (3, .int x3)] := hl
  obtain ⟨hx, hb, hml, hown, ht, hK, hNw⟩ := id C
  obtain ⟨H, eH⟩ : ∃ H, H = s.heap := ⟨_, rfl⟩
  obtain ⟨locs, eL⟩ : ∃ z : List Loc, z = [] := ⟨_, rfl⟩
  rw [← eH, ← eL]
  rw [← eH, ← eL] at hT
  clear eH eL
  unfold fX11_matches at h
  refine lv_aload_n hx hb dX11_matches_0 rfl (lv_at hl 0 rfl) ?_
  refine lv_iload_n hx hb dX11_matches_1 rfl (lv_at hl 1 rfl) ?_
  obtain ⟨r1, σ1, hc1, h⟩ := bd_some h
  refine js_backI hT (js_runV C hT cfX11 t0 rfl mfX11_hasRule lk_X11_132 (kX11_hasRule t0 hc1) ⟨Nat.le_of_ble_eq_true rfl, Nat.le_of_ble_eq_true rfl⟩ rfl hl.1 rfl (Nat.le_of_ble_eq_true rfl) ⟨Nat.zero_le _, Nat.zero_le _⟩ dX11_matches_2) (fun H locs hT => ?_)
  refine lv_if_eq (tgt := 17) hx hb dX11_matches_5 (by decide) (fun c2 => ?_) (fun c2 => ?_)
  · rw [if_pos c2] at h
    refine lv_iconst (v := (-1)) hx hb dX11_matches_17 (by decide) ?_
    obtain ⟨rfl, rfl⟩ := js_rt h
    exact js_iret C hT hr hk dX11_matches_18
  · rw [if_neg c2] at h
    refine lv_aload_n hx hb dX11_matches_8 rfl (lv_at hl 0 rfl) ?_
    refine lv_iload_n hx hb dX11_matches_9 rfl (lv_at hl 2 rfl) ?_
    refine lv_iload_n hx hb dX11_matches_10 rfl (lv_at hl 3 rfl) ?_
    obtain ⟨r3, σ3, hc3, h⟩ := bd_some h
    refine js_backI hT (js_runV C hT cfX11 t0 rfl mfX11_hasPosition lk_X11_254 (kX11_hasPosition t0 hc3) ⟨Nat.le_of_ble_eq_true rfl, Nat.le_of_ble_eq_true rfl⟩ rfl hl.1 rfl (Nat.le_of_ble_eq_true rfl) ⟨Nat.zero_le _, Nat.zero_le _⟩ dX11_matches_11) (fun H locs hT => ?_)
    refine lv_if_ne (tgt := 19) hx hb dX11_matches_14 (by decide) (fun c4 => ?_) (fun c4 => ?_)
    · rw [if_neg c4] at h
      refine lv_aload_n hx hb dX11_matches_19 rfl (lv_at hl 0 rfl) ?_
      refine js_gR C hT cfX11 t0 5 (by decide) (q := 7) rfl (by decide) lk_X11_34 dX11_matches_20 (fun t5a => ?_)
      refine lv_aload_n hx hb dX11_matches_23 rfl (lv_at hl 0 rfl) ?_
      refine js_gR C hT cfX11 t0 0 (by decide) (q := 6) rfl (by decide) lk_X11_12 dX11_matches_24 (fun t6a => ?_)
      refine lv_iload_n hx hb dX11_matches_27 rfl (lv_at hl 1 rfl) ?_
      refine lv_aload_n hx hb dX11_matches_28 rfl (lv_at hl 0 rfl) ?_
      refine js_gR C hT cfX11 t0 0 (by decide) (q := 6) rfl (by decide) lk_X11_12 dX11_matches_29 (fun t7a => ?_)
      refine lv_iload_n hx hb dX11_matches_32 rfl (lv_at hl 2 rfl) ?_
      obtain ⟨r8, σ8, hc8, h⟩ := bd_some h
      refine js_backR hT (js_runV C hT cfX6 t7a rfl mfX6_register lk_X11_237 (kX6_register t7a hc8) ⟨Nat.le_of_ble_eq_true rfl, Nat.le_of_ble_eq_true rfl⟩ rfl hl.1 rfl (Nat.le_of_ble_eq_true rfl) ⟨Nat.zero_le _, Nat.zero_le _⟩ dX11_matches_33) (fun H locs hT t8a => ?_)
      refine lv_iload_n hx hb dX11_matches_36 rfl (lv_at hl 3 rfl) ?_
      obtain ⟨r9, σ9, hc9, h⟩ := bd_some h
      refine js_backI hT (js_runV C hT cfX7 t5a rfl mfX7_ruleFits lk_X11_257 (kX7_ruleFits t5a t6a t8a hc9) ⟨Nat.le_of_ble_eq_true rfl, Nat.le_of_ble_eq_true rfl⟩ rfl hl.1 rfl (Nat.le_of_ble_eq_true rfl) ⟨Nat.zero_le _, Nat.zero_le _⟩ dX11_matches_37) (fun H locs hT => ?_)
      refine lv_if_eq (tgt := 47) hx hb dX11_matches_40 (by decide) (fun c10 => ?_) (fun c10 => ?_)
      · rw [if_pos c10] at h
        refine lv_iconst (v := 0) hx hb dX11_matches_47 (by decide) ?_
        obtain ⟨rfl, rfl⟩ := js_rt h
        exact js_iret C hT hr hk dX11_matches_48
      · rw [if_neg c10] at h
        refine lv_iconst (v := 1) hx hb dX11_matches_43 (by decide) ?_
        refine lv_goto (tgt := 48) hx hb dX11_matches_44 (by decide) ?_
        obtain ⟨rfl, rfl⟩ := js_rt h
        exact js_iret C hT hr hk dX11_matches_48
    · rw [if_pos c4] at h
      refine lv_iconst (v := (-1)) hx hb dX11_matches_17 (by decide) ?_
      obtain ⟨rfl, rfl⟩ := js_rt h
      exact js_iret C hT hr hk dX11_matches_18
set_option maxHeartbeats 4000000 in
set_option maxRecDepth 20000 in
theorem wX11_normalFormRegisterCount_35 (C : js_C D g p m c cX11_normalFormRegisterCount 3 s args RX11) (hr : meth.sig.returnType = (some .int)) (hk : meth.locks = false) (rc4 : Nat → Int32 → Int32 → js_S → Option (Int32 × js_S)) (hrc4 : ∀ (x0 : Nat) (x1 : Int32) (x2 : Int32) (σ : js_S) (r0 : Int32) (σ0 : js_S), rc4 x0 x1 x2 σ = some (r0, σ0) → ob_ nn 11 x0 → js_at p l e 5 s m args below meth c D B g nn 4 3 [(0, .ref (B + x0)), (1, .int x1), (2, .int x2)] [] σ (js_QI D B g nn r0 σ0)) : ∀ (x0 : Nat) (x1 : Int32) (x2 : Int32) (σ : js_S) (r0 : Int32) (σ0 : js_S), fX11_normalFormRegisterCount_35 fu rc4 x0 x1 x2 σ = some (r0, σ0) → ob_ nn 11 x0 → js_at p l e 5 s m args below meth c D B g nn 35 3 [(0, .ref (B + x0)), (1, .int x1), (2, .int x2)] [] σ (js_QI D B g nn r0 σ0) := by
  obtain ⟨hx, hb, hml, hown, ht, hK, hNw⟩ := id C
  intro x0 x1 x2 σ r0 σ0 h t0 H locs hT ls hl
  unfold fX11_normalFormRegisterCount_35 at h
  refine lv_iinc (v := x2 + 1) (lv' := [(2, .int (x2 + 1)), (0, .ref (B + x0)), (1, .int x1)]) hx hb dX11_normalFormRegisterCount_35 hl (k := 2) rfl rfl (by decide) rfl (fun ls hl => ?_)
  refine lv_goto (tgt := 4) hx hb dX11_normalFormRegisterCount_38 (by decide) ?_
  exact hrc4 _ _ _ _ _ _ h t0 H locs hT ls (lv_sub hl [1, 2, 0] rfl)
set_option maxHeartbeats 4000000 in
set_option maxRecDepth 20000 in
theorem wX11_normalFormRegisterCount_4b (C : js_C D g p m c cX11_normalFormRegisterCount 3 s args RX11) (hr : meth.sig.returnType = (some .int)) (hk : meth.locks = false) (rc4 : Nat → Int32 → Int32 → js_S → Option (Int32 × js_S)) (hrc4 : ∀ (x0 : Nat) (x1 : Int32) (x2 : Int32) (σ : js_S) (r0 : Int32) (σ0 : js_S), rc4 x0 x1 x2 σ = some (r0, σ0) → ob_ nn 11 x0 → js_at p l e 5 s m args below meth c D B g nn 4 3 [(0, .ref (B + x0)), (1, .int x1), (2, .int x2)] [] σ (js_QI D B g nn r0 σ0)) : ∀ (x0 : Nat) (x1 : Int32) (x2 : Int32) (σ : js_S) (r0 : Int32) (σ0 : js_S), fX11_normalFormRegisterCount_4b fu rc4 x0 x1 x2 σ = some (r0, σ0) → ob_ nn 11 x0 → js_at p l e 5 s m args below meth c D B g nn 4 3 [(0, .ref (B + x0)), (1, .int x1), (2, .int x2)] [] σ (js_QI D B g nn r0 σ0) := by
  obtain ⟨hx, hb, hml, hown, ht, hK, hNw⟩ := id C
  intro x0 x1 x2 σ r0 σ0 h t0 H locs hT ls hl
  unfold fX11_normalFormRegisterCount_4b at h
  refine lv_iload_n hx hb dX11_normalFormRegisterCount_4 rfl (lv_at hl 2 rfl) ?_
  refine lv_iconst (v := 4) hx hb dX11_normalFormRegisterCount_5 (by decide) ?_
  refine lv_icmp_ge (tgt := 41) hx hb dX11_normalFormRegisterCount_6 (by decide) (fun c1 => ?_) (fun c1 => ?_)
  · rw [if_pos c1] at h
    refine lv_iload_n hx hb dX11_normalFormRegisterCount_41 rfl (lv_at hl 1 rfl) ?_
    obtain ⟨rfl, rfl⟩ := js_rt h
    exact js_iret C hT hr hk dX11_normalFormRegisterCount_42
  · rw [if_neg c1] at h
    refine lv_aload_n hx hb dX11_normalFormRegisterCount_9 rfl (lv_at hl 0 rfl) ?_
    refine js_gR C hT cfX11 t0 5 (by decide) (q := 7) rfl (by decide) lk_X11_34 dX11_normalFormRegisterCount_10 (fun t2a => ?_)
    refine lv_aload_n hx hb dX11_normalFormRegisterCount_13 rfl (lv_at hl 0 rfl) ?_
    refine js_gR C hT cfX11 t0 0 (by decide) (q := 6) rfl (by decide) lk_X11_12 dX11_normalFormRegisterCount_14 (fun t3a => ?_)
    refine lv_aload_n hx hb dX11_normalFormRegisterCount_17 rfl (lv_at hl 0 rfl) ?_
    refine js_gR C hT cfX11 t0 0 (by decide) (q := 6) rfl (by decide) lk_X11_12 dX11_normalFormRegisterCount_18 (fun t4a => ?_)
    refine lv_iload_n hx hb dX11_normalFormRegisterCount_21 rfl (lv_at hl 2 rfl) ?_
    obtain ⟨r5, σ5, hc5, h⟩ := bd_some h
    refine js_backR hT (js_runV C hT cfX6 t4a rfl mfX6_register lk_X11_237 (kX6_register t4a hc5) ⟨Nat.le_of_ble_eq_true rfl, Nat.le_of_ble_eq_true rfl⟩ rfl hl.1 rfl (Nat.le_of_ble_eq_true rfl) ⟨Nat.zero_le _, Nat.zero_le _⟩ dX11_normalFormRegisterCount_22) (fun H locs hT t5a => ?_)
    refine lv_iconst (v := 0) hx hb dX11_normalFormRegisterCount_25 (by decide) ?_
    obtain ⟨r6, σ6, hc6, h⟩ := bd_some h
    refine js_backI hT (js_runV C hT cfX7 t2a rfl mfX7_findRedex lk_X11_265 (kX7_findRedex t2a t3a t5a hc6) ⟨Nat.le_of_ble_eq_true rfl, Nat.le_of_ble_eq_true rfl⟩ rfl hl.1 rfl (Nat.le_of_ble_eq_true rfl) ⟨Nat.zero_le _, Nat.zero_le _⟩ dX11_normalFormRegisterCount_26) (fun H locs hT => ?_)
    refine lv_if_ge (tgt := 35) hx hb dX11_normalFormRegisterCount_29 (by decide) (fun c7 => ?_) (fun c7 => ?_)
    · rw [if_pos c7] at h
      exact wX11_normalFormRegisterCount_35 C hr hk rc4 hrc4 _ _ _ _ _ _ h t0 H locs hT ls (lv_sub hl [0, 1, 2] rfl)
    · rw [if_neg c7] at h
      refine lv_iinc (v := x1 + 1) (lv' := [(1, .int (x1 + 1)), (0, .ref (B + x0)), (2, .int x2)]) hx hb dX11_normalFormRegisterCount_32 hl (k := 1) rfl rfl (by decide) rfl (fun ls hl => ?_)
      exact wX11_normalFormRegisterCount_35 C hr hk rc4 hrc4 _ _ _ _ _ _ h t0 H locs hT ls (lv_sub hl [1, 0, 2] rfl)
set_option maxHeartbeats 4000000 in
set_option maxRecDepth 20000 in
theorem wX11_normalFormRegisterCount_4 (C : js_C D g p m c cX11_normalFormRegisterCount 3 s args RX11) (hr : meth.sig.returnType = (some .int)) (hk : meth.locks = false) : ∀ (k : Nat), ∀ (x0 : Nat) (x1 : Int32) (x2 : Int32) (σ : js_S) (r0 : Int32) (σ0 : js_S), fX11_normalFormRegisterCount_4 fu k x0 x1 x2 σ = some (r0, σ0) → ob_ nn 11 x0 → js_at p l e 5 s m args below meth c D B g nn 4 3 [(0, .ref (B + x0)), (1, .int x1), (2, .int x2)] [] σ (js_QI D B g nn r0 σ0) := by
  intro k
  induction k with
  | zero =>
    intro x0 x1 x2 σ r0 σ0 h
    cases h
  | succ k ih =>
    intro x0 x1 x2 σ r0 σ0 h
    exact wX11_normalFormRegisterCount_4b C hr hk (fX11_normalFormRegisterCount_4 fu k) ih x0 x1 x2 σ r0 σ0 h
set_option maxHeartbeats 4000000 in
set_option maxRecDepth 20000 in
theorem kX11_normalFormRegisterCount {x0 : Nat} {σ σ0 : js_S} {r0 : Int32} (t0 : ob_ nn 11 x0) (h : fX11_normalFormRegisterCount fu x0 σ = some (r0, σ0)) : js_M l D B g nn yX11_normalFormRegisterCount cX11_normalFormRegisterCount 3 (some .int) 5 [.ref (B + x0)] σ (js_QI D B g nn r0 σ0) := by
  refine js_enter (by decide) (Nat.le_of_ble_eq_true rfl) ?_
  intro p e s m args below meth c C hr hk ls hl hT
  have hl : lv_has ls 3 [(0, .ref (B + x0))] := hl
  obtain ⟨hx, hb, hml, hown, ht, hK, hNw⟩ := id C
  obtain ⟨H, eH⟩ : ∃ H, H = s.heap := ⟨_, rfl⟩
  obtain ⟨locs, eL⟩ : ∃ z : List Loc, z = [] := ⟨_, rfl⟩
  rw [← eH, ← eL]
  rw [← eH, ← eL] at hT
  clear eH eL
  unfold fX11_normalFormRegisterCount at h
  refine lv_iconst (v := 0) hx hb dX11_normalFormRegisterCount_0 (by decide) ?_
  refine lv_istore_n (lv' := [(1, .int 0), (0, .ref (B + x0))]) hx hb dX11_normalFormRegisterCount_1 rfl hl (by decide) rfl (fun ls hl => ?_)
  refine lv_iconst (v := 0) hx hb dX11_normalFormRegisterCount_2 (by decide) ?_
  refine lv_istore_n (lv' := [(2, .int 0), (1, .int 0), (0, .ref (B + x0))]) hx hb dX11_normalFormRegisterCount_3 rfl hl (by decide) rfl (fun ls hl => ?_)
  exact wX11_normalFormRegisterCount_4 C hr hk _ _ _ _ _ _ _ h t0 H locs hT ls (lv_sub hl [2, 1, 0] rfl)
set_option maxHeartbeats 4000000 in
set_option maxRecDepth 20000 in
theorem kX11_pairCount {x0 : Nat} {σ σ0 : js_S} {r0 : Int32} (t0 : ob_ nn 11 x0) (h : fX11_pairCount fu x0 σ = some (r0, σ0)) : js_M l D B g nn yX11_pairCount cX11_pairCount 1 (some .int) 6 [.ref (B + x0)] σ (js_QI D B g nn r0 σ0) := by
  refine js_enter (by decide) (Nat.le_of_ble_eq_true rfl) ?_
  intro p e s m args below meth c C hr hk ls hl hT
  have hl : lv_has ls 1 [(0, .ref (B + x0))] := hl
  obtain ⟨hx, hb, hml, hown, ht, hK, hNw⟩ := id C
  obtain ⟨H, eH⟩ : ∃ H, H = s.heap := ⟨_, rfl⟩
  obtain ⟨locs, eL⟩ : ∃ z : List Loc, z = [] := ⟨_, rfl⟩
  rw [← eH, ← eL]
  rw [← eH, ← eL] at hT
  clear eH eL
  unfold fX11_pairCount at h
  refine lv_aload_n hx hb dX11_pairCount_0 rfl (lv_at hl 0 rfl) ?_
  obtain ⟨r1, σ1, hc1, h⟩ := bd_some h
  refine js_backR hT (js_runV C hT cfX11 t0 rfl mfX11_currentPairs lk_X11_141 (kX11_currentPairs t0 hc1) ⟨Nat.le_of_ble_eq_true rfl, Nat.le_of_ble_eq_true rfl⟩ rfl hl.1 rfl (Nat.le_of_ble_eq_true rfl) ⟨Nat.zero_le _, Nat.zero_le _⟩ dX11_pairCount_1) (fun H locs hT t1a => ?_)
  refine js_gIN C hT cfX5 t1a 4 (by decide) rfl lk_X11_145 dX11_pairCount_4 ?_
  obtain ⟨rfl, rfl⟩ := js_rt h
  exact js_iret C hT hr hk dX11_pairCount_7
set_option maxHeartbeats 4000000 in
set_option maxRecDepth 20000 in
theorem kX11_pairPosition {x0 : Nat} {x1 : Int32} {σ σ0 : js_S} {r0 : Int32} (t0 : ob_ nn 11 x0) (h : fX11_pairPosition fu x0 x1 σ = some (r0, σ0)) : js_M l D B g nn yX11_pairPosition cX11_pairPosition 2 (some .int) 7 [.ref (B + x0), .int x1] σ (js_QI D B g nn r0 σ0) := by
  refine js_enter (by decide) (Nat.le_of_ble_eq_true rfl) ?_
  intro p e s m args below meth c C hr hk ls hl hT
  have hl : lv_has ls 2 [(0, .ref (B + x0)), (1, .int x1)] := hl
  obtain ⟨hx, hb, hml, hown, ht, hK, hNw⟩ := id C
  obtain ⟨H, eH⟩ : ∃ H, H = s.heap := ⟨_, rfl⟩
  obtain ⟨locs, eL⟩ : ∃ z : List Loc, z = [] := ⟨_, rfl⟩
  rw [← eH, ← eL]
  rw [← eH, ← eL] at hT
  clear eH eL
  unfold fX11_pairPosition at h
  refine lv_aload_n hx hb dX11_pairPosition_0 rfl (lv_at hl 0 rfl) ?_
  refine lv_iload_n hx hb dX11_pairPosition_1 rfl (lv_at hl 1 rfl) ?_
  obtain ⟨r1, σ1, hc1, h⟩ := bd_some h
  refine js_backI hT (js_runV C hT cfX11 t0 rfl mfX11_hasPair lk_X11_148 (kX11_hasPair t0 hc1) ⟨Nat.le_of_ble_eq_true rfl, Nat.le_of_ble_eq_true rfl⟩ rfl hl.1 rfl (Nat.le_of_ble_eq_true rfl) ⟨Nat.zero_le _, Nat.zero_le _⟩ dX11_pairPosition_2) (fun H locs hT => ?_)
  refine lv_if_eq (tgt := 19) hx hb dX11_pairPosition_5 (by decide) (fun c2 => ?_) (fun c2 => ?_)
  · rw [if_pos c2] at h
    refine lv_iconst (v := (-1)) hx hb dX11_pairPosition_19 (by decide) ?_
    obtain ⟨rfl, rfl⟩ := js_rt h
    exact js_iret C hT hr hk dX11_pairPosition_20
  · rw [if_neg c2] at h
    refine lv_aload_n hx hb dX11_pairPosition_8 rfl (lv_at hl 0 rfl) ?_
    obtain ⟨r3, σ3, hc3, h⟩ := bd_some h
    refine js_backR hT (js_runV C hT cfX11 t0 rfl mfX11_currentPairs lk_X11_141 (kX11_currentPairs t0 hc3) ⟨Nat.le_of_ble_eq_true rfl, Nat.le_of_ble_eq_true rfl⟩ rfl hl.1 rfl (Nat.le_of_ble_eq_true rfl) ⟨Nat.zero_le _, Nat.zero_le _⟩ dX11_pairPosition_9) (fun H locs hT t3a => ?_)
    refine lv_iload_n hx hb dX11_pairPosition_12 rfl (lv_at hl 1 rfl) ?_
    obtain ⟨r4, σ4, hc4, h⟩ := bd_some h
    refine js_backI hT (js_runV C hT cfX5 t3a rfl mfX5_position lk_X11_154 (kX5_position t3a hc4) ⟨Nat.le_of_ble_eq_true rfl, Nat.le_of_ble_eq_true rfl⟩ rfl hl.1 rfl (Nat.le_of_ble_eq_true rfl) ⟨Nat.zero_le _, Nat.zero_le _⟩ dX11_pairPosition_13) (fun H locs hT => ?_)
    refine lv_goto (tgt := 20) hx hb dX11_pairPosition_16 (by decide) ?_
    obtain ⟨rfl, rfl⟩ := js_rt h
    exact js_iret C hT hr hk dX11_pairPosition_20
set_option maxHeartbeats 4000000 in
set_option maxRecDepth 20000 in
theorem kX11_pairRule {x0 : Nat} {x1 : Int32} {σ σ0 : js_S} {r0 : Int32} (t0 : ob_ nn 11 x0) (h : fX11_pairRule fu x0 x1 σ = some (r0, σ0)) : js_M l D B g nn yX11_pairRule cX11_pairRule 2 (some .int) 7 [.ref (B + x0), .int x1] σ (js_QI D B g nn r0 σ0) := by
  refine js_enter (by decide) (Nat.le_of_ble_eq_true rfl) ?_
  intro p e s m args below meth c C hr hk ls hl hT
  have hl : lv_has ls 2 [(0, .ref (B + x0)), (1, .int x1)] := hl
  obtain ⟨hx, hb, hml, hown, ht, hK, hNw⟩ := id C
  obtain ⟨H, eH⟩ : ∃ H, H = s.heap := ⟨_, rfl⟩
  obtain ⟨locs, eL⟩ : ∃ z : List Loc, z = [] := ⟨_, rfl⟩
  rw [← eH, ← eL]
  rw [← eH, ← eL] at hT
  clear eH eL
  unfold fX11_pairRule at h
  refine lv_aload_n hx hb dX11_pairRule_0 rfl (lv_at hl 0 rfl) ?_
  refine lv_iload_n hx hb dX11_pairRule_1 rfl (lv_at hl 1 rfl) ?_
  obtain ⟨r1, σ1, hc1, h⟩ := bd_some h
  refine js_backI hT (js_runV C hT cfX11 t0 rfl mfX11_hasPair lk_X11_148 (kX11_hasPair t0 hc1) ⟨Nat.le_of_ble_eq_true rfl, Nat.le_of_ble_eq_true rfl⟩ rfl hl.1 rfl (Nat.le_of_ble_eq_true rfl) ⟨Nat.zero_le _, Nat.zero_le _⟩ dX11_pairRule_2) (fun H locs hT => ?_)
  refine lv_if_eq (tgt := 19) hx hb dX11_pairRule_5 (by decide) (fun c2 => ?_) (fun c2 => ?_)
  · rw [if_pos c2] at h
    refine lv_iconst (v := (-1)) hx hb dX11_pairRule_19 (by decide) ?_
    obtain ⟨rfl, rfl⟩ := js_rt h
    exact js_iret C hT hr hk dX11_pairRule_20
  · rw [if_neg c2] at h
    refine lv_aload_n hx hb dX11_pairRule_8 rfl (lv_at hl 0 rfl) ?_
    obtain ⟨r3, σ3, hc3, h⟩ := bd_some h
    refine js_backR hT (js_runV C hT cfX11 t0 rfl mfX11_currentPairs lk_X11_141 (kX11_currentPairs t0 hc3) ⟨Nat.le_of_ble_eq_true rfl, Nat.le_of_ble_eq_true rfl⟩ rfl hl.1 rfl (Nat.le_of_ble_eq_true rfl) ⟨Nat.zero_le _, Nat.zero_le _⟩ dX11_pairRule_9) (fun H locs hT t3a => ?_)
    refine lv_iload_n hx hb dX11_pairRule_12 rfl (lv_at hl 1 rfl) ?_
    obtain ⟨r4, σ4, hc4, h⟩ := bd_some h
    refine js_backI hT (js_runV C hT cfX5 t3a rfl mfX5_rule lk_X11_151 (kX5_rule t3a hc4) ⟨Nat.le_of_ble_eq_true rfl, Nat.le_of_ble_eq_true rfl⟩ rfl hl.1 rfl (Nat.le_of_ble_eq_true rfl) ⟨Nat.zero_le _, Nat.zero_le _⟩ dX11_pairRule_13) (fun H locs hT => ?_)
    refine lv_goto (tgt := 20) hx hb dX11_pairRule_16 (by decide) ?_
    obtain ⟨rfl, rfl⟩ := js_rt h
    exact js_iret C hT hr hk dX11_pairRule_20
set_option maxHeartbeats 4000000 in
set_option maxRecDepth 20000 in
theorem kX11_parseTerm {x0 : Nat} {x1 : Int32} {σ σ0 : js_S} {r0 : Int32} (t0 : ob_ nn 11 x0) (h : fX11_parseTerm fu x0 x1 σ = some (r0, σ0)) : js_M l D B g nn yX11_parseTerm cX11_parseTerm 4 (some .int) 5 [.ref (B + x0), .int x1] σ (js_QI D B g nn r0 σ0) := by
  refine js_enter (by decide) (Nat.le_of_ble_eq_true rfl) ?_
  intro p e s m args below meth c C hr hk ls hl hT
  have hl : lv_has ls 4 [(0, .ref (B + x0)), (1, .int x1)] := hl
  obtain ⟨hx, hb, hml, hown, ht, hK, hNw⟩ := id C
  obtain ⟨H, eH⟩ : ∃ H, H = s.heap := ⟨_, rfl⟩
  obtain ⟨locs, eL⟩ : ∃ z : List Loc, z = [] := ⟨_, rfl⟩
  rw [← eH, ← eL]
  rw [← eH, ← eL] at hT
  clear eH eL
  unfold fX11_parseTerm at h
  refine lv_iload_n hx hb dX11_parseTerm_0 rfl (lv_at hl 1 rfl) ?_
  obtain ⟨r1, σ1, hc1, h⟩ := bd_some h
  refine js_backI hT (js_runS C hT mfX11_hasRegister lk_X11_226 (kX11_hasRegister  hc1) ⟨Nat.le_of_ble_eq_true rfl, Nat.le_of_ble_eq_true rfl⟩ rfl hl.1 rfl (Nat.le_of_ble_eq_true rfl) ⟨Nat.zero_le _, Nat.zero_le _⟩ dX11_parseTerm_1) (fun H locs hT => ?_)
  refine lv_if_ne (tgt := 9) hx hb dX11_parseTerm_4 (by decide) (fun c2 => ?_) (fun c2 => ?_)
  · rw [if_neg c2] at h
    refine lv_aload_n hx hb dX11_parseTerm_9 rfl (lv_at hl 0 rfl) ?_
    refine js_gR C hT cfX11 t0 3 (by decide) (q := 10) rfl (by decide) lk_X11_24 dX11_parseTerm_10 (fun t3a => ?_)
    refine lv_aload_n hx hb dX11_parseTerm_13 rfl (lv_at hl 0 rfl) ?_
    refine js_gR C hT cfX11 t0 0 (by decide) (q := 6) rfl (by decide) lk_X11_12 dX11_parseTerm_14 (fun t4a => ?_)
    refine js_gRN C hT cfX6 t4a 0 (by decide) (q := 8) rfl (by decide) lk_X11_88 dX11_parseTerm_17 (fun t5a => ?_)
    refine lv_aload_n hx hb dX11_parseTerm_20 rfl (lv_at hl 0 rfl) ?_
    refine js_gR C hT cfX11 t0 7 (by decide) (q := 9) rfl (by decide) lk_X11_48 dX11_parseTerm_21 (fun t6a => ?_)
    obtain ⟨r7, σ7, hc7, h⟩ := bd_some h
    refine js_backI hT (js_runV C hT cfX10 t3a rfl mfX10_readWholeTerm lk_X11_229 (kX10_readWholeTerm t3a t5a t6a hc7) ⟨Nat.le_of_ble_eq_true rfl, Nat.le_of_ble_eq_true rfl⟩ rfl hl.1 rfl (Nat.le_of_ble_eq_true rfl) ⟨Nat.zero_le _, Nat.zero_le _⟩ dX11_parseTerm_24) (fun H locs hT => ?_)
    refine lv_istore_n (lv' := [(2, .int r7), (0, .ref (B + x0)), (1, .int x1)]) hx hb dX11_parseTerm_27 rfl hl (by decide) rfl (fun ls hl => ?_)
    refine lv_aload_n hx hb dX11_parseTerm_28 rfl (lv_at hl 1 rfl) ?_
    refine js_gR C hT cfX11 t0 3 (by decide) (q := 10) rfl (by decide) lk_X11_24 dX11_parseTerm_29 (fun t8a => ?_)
    refine js_gIN C hT cfX10 t8a 3 (by decide) rfl lk_X11_119 dX11_parseTerm_32 ?_
    refine lv_istore_n (lv' := [(3, .int (σ7.1 (σ7.2.2 x0 3) 3)), (2, .int r7), (0, .ref (B + x0)), (1, .int x1)]) hx hb dX11_parseTerm_35 rfl hl (by decide) rfl (fun ls hl => ?_)
    refine lv_aload_n hx hb dX11_parseTerm_36 rfl (lv_at hl 2 rfl) ?_
    refine js_gR C hT cfX11 t0 3 (by decide) (q := 10) rfl (by decide) lk_X11_24 dX11_parseTerm_37 (fun t9a => ?_)
    obtain ⟨z10, σ10, hc10, h⟩ := bd_some h
    refine js_backV hT (js_runV C hT cfX10 t9a rfl mfX10_empty lk_X11_122 (kX10_empty t9a hc10) ⟨Nat.le_of_ble_eq_true rfl, Nat.le_of_ble_eq_true rfl⟩ rfl hl.1 rfl (Nat.le_of_ble_eq_true rfl) ⟨Nat.zero_le _, Nat.zero_le _⟩ dX11_parseTerm_40) (fun H locs hT => ?_)
    refine lv_iload_n hx hb dX11_parseTerm_43 rfl (lv_at hl 1 rfl) ?_
    refine lv_if_ne (tgt := 52) hx hb dX11_parseTerm_44 (by decide) (fun c11 => ?_) (fun c11 => ?_)
    · rw [if_neg c11] at h
      refine lv_aload_n hx hb dX11_parseTerm_52 rfl (lv_at hl 2 rfl) ?_
      refine js_gR C hT cfX11 t0 7 (by decide) (q := 9) rfl (by decide) lk_X11_48 dX11_parseTerm_53 (fun t12a => ?_)
      refine js_gIN C hT cfX9 t12a 1 (by decide) rfl lk_X11_138 dX11_parseTerm_56 ?_
      refine lv_bipush (v := 40) hx hb dX11_parseTerm_59 (by decide) ?_
      refine lv_icmp_le (tgt := 67) hx hb dX11_parseTerm_61 (by decide) (fun c13 => ?_) (fun c13 => ?_)
      · rw [if_pos c13] at h
        refine lv_aload_n hx hb dX11_parseTerm_67 rfl (lv_at hl 2 rfl) ?_
        refine lv_aload_n hx hb dX11_parseTerm_68 rfl (lv_at hl 2 rfl) ?_
        refine js_gR C hT cfX11 t0 7 (by decide) (q := 9) rfl (by decide) lk_X11_48 dX11_parseTerm_69 (fun t14a => ?_)
        refine lv_iload_n hx hb dX11_parseTerm_72 rfl (lv_at hl 3 rfl) ?_
        obtain ⟨r15, σ15, hc15, h⟩ := bd_some h
        refine js_backI hT (js_runV C hT cfX11 t0 rfl mfX11_store lk_X11_233 (kX11_store t0 t14a hc15) ⟨Nat.le_of_ble_eq_true rfl, Nat.le_of_ble_eq_true rfl⟩ rfl hl.1 rfl (Nat.le_of_ble_eq_true rfl) ⟨Nat.zero_le _, Nat.zero_le _⟩ dX11_parseTerm_73) (fun H locs hT => ?_)
        obtain ⟨rfl, rfl⟩ := js_rt h
        exact js_iret C hT hr hk dX11_parseTerm_76
      · rw [if_neg c13] at h
        refine lv_bipush (v := (-6)) hx hb dX11_parseTerm_64 (by decide) ?_
        obtain ⟨rfl, rfl⟩ := js_rt h
        exact js_iret C hT hr hk dX11_parseTerm_66
    · rw [if_pos c11] at h
      refine lv_bipush (v := (-100)) hx hb dX11_parseTerm_47 (by decide) ?_
      refine lv_iload_n hx hb dX11_parseTerm_49 rfl (lv_at hl 0 rfl) ?_
      refine lv_isub hx hb dX11_parseTerm_50 ?_
      obtain ⟨rfl, rfl⟩ := js_rt h
      exact js_iret C hT hr hk dX11_parseTerm_51
  · rw [if_pos c2] at h
    refine lv_iconst (v := (-1)) hx hb dX11_parseTerm_7 (by decide) ?_
    obtain ⟨rfl, rfl⟩ := js_rt h
    exact js_iret C hT hr hk dX11_parseTerm_8
set_option maxHeartbeats 4000000 in
set_option maxRecDepth 20000 in
theorem kX11_projection {x0 : Nat} {x1 : Int32} {σ σ0 : js_S} {r0 : Int32} (t0 : ob_ nn 11 x0) (h : fX11_projection fu x0 x1 σ = some (r0, σ0)) : js_M l D B g nn yX11_projection cX11_projection 4 (some .int) 7 [.ref (B + x0), .int x1] σ (js_QI D B g nn r0 σ0) := by
  refine js_enter (by decide) (Nat.le_of_ble_eq_true rfl) ?_
  intro p e s m args below meth c C hr hk ls hl hT
  have hl : lv_has ls 4 [(0, .ref (B + x0)), (1, .int x1)] := hl
  obtain ⟨hx, hb, hml, hown, ht, hK, hNw⟩ := id C
  obtain ⟨H, eH⟩ : ∃ H, H = s.heap := ⟨_, rfl⟩
  obtain ⟨locs, eL⟩ : ∃ z : List Loc, z = [] := ⟨_, rfl⟩
  rw [← eH, ← eL]
  rw [← eH, ← eL] at hT
  clear eH eL
  unfold fX11_projection at h
  refine lv_aload_n hx hb dX11_projection_0 rfl (lv_at hl 0 rfl) ?_
  obtain ⟨r1, σ1, hc1, h⟩ := bd_some h
  refine js_backR hT (js_runV C hT cfX11 t0 rfl mfX11_currentComponents lk_X11_179 (kX11_currentComponents t0 hc1) ⟨Nat.le_of_ble_eq_true rfl, Nat.le_of_ble_eq_true rfl⟩ rfl hl.1 rfl (Nat.le_of_ble_eq_true rfl) ⟨Nat.zero_le _, Nat.zero_le _⟩ dX11_projection_1) (fun H locs hT t1a => ?_)
  refine lv_astore_n (lv' := [(2, .ref (B + r1)), (0, .ref (B + x0)), (1, .int x1)]) hx hb dX11_projection_4 rfl hl (by decide) rfl (fun ls hl => ?_)
  refine lv_iload_n hx hb dX11_projection_5 rfl (lv_at hl 2 rfl) ?_
  refine lv_if_lt (tgt := 17) hx hb dX11_projection_6 (by decide) (fun c2 => ?_) (fun c2 => ?_)
  · rw [if_pos c2] at h
    refine lv_iconst (v := (-1)) hx hb dX11_projection_17 (by decide) ?_
    obtain ⟨rfl, rfl⟩ := js_rt h
    exact js_iret C hT hr hk dX11_projection_18
  · rw [if_neg c2] at h
    refine lv_iload_n hx hb dX11_projection_9 rfl (lv_at hl 2 rfl) ?_
    refine lv_aload_n hx hb dX11_projection_10 rfl (lv_at hl 0 rfl) ?_
    refine js_gIN C hT cfX1 t1a 3 (by decide) rfl lk_X11_183 dX11_projection_11 ?_
    refine lv_icmp_lt (tgt := 19) hx hb dX11_projection_14 (by decide) (fun c3 => ?_) (fun c3 => ?_)
    · rw [if_pos c3] at h
      refine lv_aload_n hx hb dX11_projection_19 rfl (lv_at hl 1 rfl) ?_
      refine js_gR C hT cfX11 t0 14 (by decide) (q := 2) rfl (by decide) lk_X11_76 dX11_projection_20 (fun t4a => ?_)
      refine lv_aload_n hx hb dX11_projection_23 rfl (lv_at hl 1 rfl) ?_
      obtain ⟨r5, σ5, hc5, h⟩ := bd_some h
      refine js_backR hT (js_runV C hT cfX11 t0 rfl mfX11_currentPairs lk_X11_141 (kX11_currentPairs t0 hc5) ⟨Nat.le_of_ble_eq_true rfl, Nat.le_of_ble_eq_true rfl⟩ rfl hl.1 rfl (Nat.le_of_ble_eq_true rfl) ⟨Nat.zero_le _, Nat.zero_le _⟩ dX11_projection_24) (fun H locs hT t5a => ?_)
      refine lv_aload_n hx hb dX11_projection_27 rfl (lv_at hl 0 rfl) ?_
      refine lv_iload_n hx hb dX11_projection_28 rfl (lv_at hl 2 rfl) ?_
      refine lv_aload_n hx hb dX11_projection_29 rfl (lv_at hl 1 rfl) ?_
      refine js_gR C hT cfX11 t0 0 (by decide) (q := 6) rfl (by decide) lk_X11_12 dX11_projection_30 (fun t6a => ?_)
      refine js_gRN C hT cfX6 t6a 0 (by decide) (q := 8) rfl (by decide) lk_X11_88 dX11_projection_33 (fun t7a => ?_)
      obtain ⟨r8, σ8, hc8, h⟩ := bd_some h
      refine js_backI hT (js_runV C hT cfX2 t4a rfl mfX2_findProjection lk_X11_206 (kX2_findProjection t4a t5a t1a t7a hc8) ⟨Nat.le_of_ble_eq_true rfl, Nat.le_of_ble_eq_true rfl⟩ rfl hl.1 rfl (Nat.le_of_ble_eq_true rfl) ⟨Nat.zero_le _, Nat.zero_le _⟩ dX11_projection_36) (fun H locs hT => ?_)
      refine lv_istore_n (lv' := [(3, .int r8), (2, .ref (B + r1)), (0, .ref (B + x0)), (1, .int x1)]) hx hb dX11_projection_39 rfl hl (by decide) rfl (fun ls hl => ?_)
      refine lv_iload_n hx hb dX11_projection_40 rfl (lv_at hl 0 rfl) ?_
      refine lv_if_eq (tgt := 54) hx hb dX11_projection_41 (by decide) (fun c9 => ?_) (fun c9 => ?_)
      · rw [if_pos c9] at h
        refine lv_bipush (v := (-5)) hx hb dX11_projection_54 (by decide) ?_
        obtain ⟨rfl, rfl⟩ := js_rt h
        exact js_iret C hT hr hk dX11_projection_56
      · rw [if_neg c9] at h
        refine lv_aload_n hx hb dX11_projection_44 rfl (lv_at hl 2 rfl) ?_
        refine js_gR C hT cfX11 t0 14 (by decide) (q := 2) rfl (by decide) lk_X11_76 dX11_projection_45 (fun t10a => ?_)
        obtain ⟨r11, σ11, hc11, h⟩ := bd_some h
        refine js_backI hT (js_runV C hT cfX2 t10a rfl mfX2_projectionNumber lk_X11_210 (kX2_projectionNumber t10a hc11) ⟨Nat.le_of_ble_eq_true rfl, Nat.le_of_ble_eq_true rfl⟩ rfl hl.1 rfl (Nat.le_of_ble_eq_true rfl) ⟨Nat.zero_le _, Nat.zero_le _⟩ dX11_projection_48) (fun H locs hT => ?_)
        refine lv_goto (tgt := 56) hx hb dX11_projection_51 (by decide) ?_
        obtain ⟨rfl, rfl⟩ := js_rt h
        exact js_iret C hT hr hk dX11_projection_56
    · rw [if_neg c3] at h
      refine lv_iconst (v := (-1)) hx hb dX11_projection_17 (by decide) ?_
      obtain ⟨rfl, rfl⟩ := js_rt h
      exact js_iret C hT hr hk dX11_projection_18
set_option maxHeartbeats 4000000 in
set_option maxRecDepth 20000 in
theorem kX11_redexAt {x0 : Nat} {x1 : Int32} {x2 : Int32} {σ σ0 : js_S} {r0 : Int32} (t0 : ob_ nn 11 x0) (h : fX11_redexAt fu x0 x1 x2 σ = some (r0, σ0)) : js_M l D B g nn yX11_redexAt cX11_redexAt 4 (some .int) 5 [.ref (B + x0), .int x1, .int x2] σ (js_QI D B g nn r0 σ0) := by
  refine js_enter (by decide) (Nat.le_of_ble_eq_true rfl) ?_
  intro p e s m args below meth c C hr hk ls hl hT
  have hl : lv_has ls 4 [(0, .ref (B + x0)), (1, .int x1), (2, .int x2)] := hl
  obtain ⟨hx, hb, hml, hown, ht, hK, hNw⟩ := id C
  obtain ⟨H, eH⟩ : ∃ H, H = s.heap := ⟨_, rfl⟩
  obtain ⟨locs, eL⟩ : ∃ z : List Loc, z = [] := ⟨_, rfl⟩
  rw [← eH, ← eL]
  rw [← eH, ← eL] at hT
  clear eH eL
  unfold fX11_redexAt at h
  refine lv_iload_n hx hb dX11_redexAt_0 rfl (lv_at hl 1 rfl) ?_
  obtain ⟨r1, σ1, hc1, h⟩ := bd_some h
  refine js_backI hT (js_runS C hT mfX11_hasRegister lk_X11_226 (kX11_hasRegister  hc1) ⟨Nat.le_of_ble_eq_true rfl, Nat.le_of_ble_eq_true rfl⟩ rfl hl.1 rfl (Nat.le_of_ble_eq_true rfl) ⟨Nat.zero_le _, Nat.zero_le _⟩ dX11_redexAt_1) (fun H locs hT => ?_)
  refine lv_if_eq (tgt := 11) hx hb dX11_redexAt_4 (by decide) (fun c2 => ?_) (fun c2 => ?_)
  · rw [if_pos c2] at h
    refine lv_iconst (v := (-1)) hx hb dX11_redexAt_11 (by decide) ?_
    obtain ⟨rfl, rfl⟩ := js_rt h
    exact js_iret C hT hr hk dX11_redexAt_12
  · rw [if_neg c2] at h
    refine lv_iload_n hx hb dX11_redexAt_7 rfl (lv_at hl 2 rfl) ?_
    refine lv_if_ge (tgt := 13) hx hb dX11_redexAt_8 (by decide) (fun c3 => ?_) (fun c3 => ?_)
    · rw [if_pos c3] at h
      refine lv_aload_n hx hb dX11_redexAt_13 rfl (lv_at hl 0 rfl) ?_
      refine js_gR C hT cfX11 t0 5 (by decide) (q := 7) rfl (by decide) lk_X11_34 dX11_redexAt_14 (fun t4a => ?_)
      refine lv_aload_n hx hb dX11_redexAt_17 rfl (lv_at hl 0 rfl) ?_
      refine js_gR C hT cfX11 t0 0 (by decide) (q := 6) rfl (by decide) lk_X11_12 dX11_redexAt_18 (fun t5a => ?_)
      refine lv_aload_n hx hb dX11_redexAt_21 rfl (lv_at hl 0 rfl) ?_
      refine js_gR C hT cfX11 t0 0 (by decide) (q := 6) rfl (by decide) lk_X11_12 dX11_redexAt_22 (fun t6a => ?_)
      refine lv_iload_n hx hb dX11_redexAt_25 rfl (lv_at hl 1 rfl) ?_
      obtain ⟨r7, σ7, hc7, h⟩ := bd_some h
      refine js_backR hT (js_runV C hT cfX6 t6a rfl mfX6_register lk_X11_237 (kX6_register t6a hc7) ⟨Nat.le_of_ble_eq_true rfl, Nat.le_of_ble_eq_true rfl⟩ rfl hl.1 rfl (Nat.le_of_ble_eq_true rfl) ⟨Nat.zero_le _, Nat.zero_le _⟩ dX11_redexAt_26) (fun H locs hT t7a => ?_)
      refine lv_iload_n hx hb dX11_redexAt_29 rfl (lv_at hl 2 rfl) ?_
      obtain ⟨r8, σ8, hc8, h⟩ := bd_some h
      refine js_backI hT (js_runV C hT cfX7 t4a rfl mfX7_findRedex lk_X11_265 (kX7_findRedex t4a t5a t7a hc8) ⟨Nat.le_of_ble_eq_true rfl, Nat.le_of_ble_eq_true rfl⟩ rfl hl.1 rfl (Nat.le_of_ble_eq_true rfl) ⟨Nat.zero_le _, Nat.zero_le _⟩ dX11_redexAt_30) (fun H locs hT => ?_)
      refine lv_istore_n (lv' := [(3, .int r8), (0, .ref (B + x0)), (1, .int x1), (2, .int x2)]) hx hb dX11_redexAt_33 rfl hl (by decide) rfl (fun ls hl => ?_)
      refine lv_iload_n hx hb dX11_redexAt_34 rfl (lv_at hl 0 rfl) ?_
      refine lv_if_lt (tgt := 42) hx hb dX11_redexAt_35 (by decide) (fun c9 => ?_) (fun c9 => ?_)
      · rw [if_pos c9] at h
        refine lv_bipush (v := (-5)) hx hb dX11_redexAt_42 (by decide) ?_
        obtain ⟨rfl, rfl⟩ := js_rt h
        exact js_iret C hT hr hk dX11_redexAt_44
      · rw [if_neg c9] at h
        refine lv_iload_n hx hb dX11_redexAt_38 rfl (lv_at hl 0 rfl) ?_
        refine lv_goto (tgt := 44) hx hb dX11_redexAt_39 (by decide) ?_
        obtain ⟨rfl, rfl⟩ := js_rt h
        exact js_iret C hT hr hk dX11_redexAt_44
    · rw [if_neg c3] at h
      refine lv_iconst (v := (-1)) hx hb dX11_redexAt_11 (by decide) ?_
      obtain ⟨rfl, rfl⟩ := js_rt h
      exact js_iret C hT hr hk dX11_redexAt_12
set_option maxHeartbeats 4000000 in
set_option maxRecDepth 20000 in
theorem kX11_redexCount {x0 : Nat} {x1 : Int32} {σ σ0 : js_S} {r0 : Int32} (t0 : ob_ nn 11 x0) (h : fX11_redexCount fu x0 x1 σ = some (r0, σ0)) : js_M l D B g nn yX11_redexCount cX11_redexCount 2 (some .int) 5 [.ref (B + x0), .int x1] σ (js_QI D B g nn r0 σ0) := by
  refine js_enter (by decide) (Nat.le_of_ble_eq_true rfl) ?_
  intro p e s m args below meth c C hr hk ls hl hT
  have hl : lv_has ls 2 [(0, .ref (B + x0)), (1, .int x1)] := hl
  obtain ⟨hx, hb, hml, hown, ht, hK, hNw⟩ := id C
  obtain ⟨H, eH⟩ : ∃ H, H = s.heap := ⟨_, rfl⟩
  obtain ⟨locs, eL⟩ : ∃ z : List Loc, z = [] := ⟨_, rfl⟩
  rw [← eH, ← eL]
  rw [← eH, ← eL] at hT
  clear eH eL
  unfold fX11_redexCount at h
  refine lv_iload_n hx hb dX11_redexCount_0 rfl (lv_at hl 1 rfl) ?_
  obtain ⟨r1, σ1, hc1, h⟩ := bd_some h
  refine js_backI hT (js_runS C hT mfX11_hasRegister lk_X11_226 (kX11_hasRegister  hc1) ⟨Nat.le_of_ble_eq_true rfl, Nat.le_of_ble_eq_true rfl⟩ rfl hl.1 rfl (Nat.le_of_ble_eq_true rfl) ⟨Nat.zero_le _, Nat.zero_le _⟩ dX11_redexCount_1) (fun H locs hT => ?_)
  refine lv_if_eq (tgt := 29) hx hb dX11_redexCount_4 (by decide) (fun c2 => ?_) (fun c2 => ?_)
  · rw [if_pos c2] at h
    refine lv_iconst (v := (-1)) hx hb dX11_redexCount_29 (by decide) ?_
    obtain ⟨rfl, rfl⟩ := js_rt h
    exact js_iret C hT hr hk dX11_redexCount_30
  · rw [if_neg c2] at h
    refine lv_aload_n hx hb dX11_redexCount_7 rfl (lv_at hl 0 rfl) ?_
    refine js_gR C hT cfX11 t0 5 (by decide) (q := 7) rfl (by decide) lk_X11_34 dX11_redexCount_8 (fun t3a => ?_)
    refine lv_aload_n hx hb dX11_redexCount_11 rfl (lv_at hl 0 rfl) ?_
    refine js_gR C hT cfX11 t0 0 (by decide) (q := 6) rfl (by decide) lk_X11_12 dX11_redexCount_12 (fun t4a => ?_)
    refine lv_aload_n hx hb dX11_redexCount_15 rfl (lv_at hl 0 rfl) ?_
    refine js_gR C hT cfX11 t0 0 (by decide) (q := 6) rfl (by decide) lk_X11_12 dX11_redexCount_16 (fun t5a => ?_)
    refine lv_iload_n hx hb dX11_redexCount_19 rfl (lv_at hl 1 rfl) ?_
    obtain ⟨r6, σ6, hc6, h⟩ := bd_some h
    refine js_backR hT (js_runV C hT cfX6 t5a rfl mfX6_register lk_X11_237 (kX6_register t5a hc6) ⟨Nat.le_of_ble_eq_true rfl, Nat.le_of_ble_eq_true rfl⟩ rfl hl.1 rfl (Nat.le_of_ble_eq_true rfl) ⟨Nat.zero_le _, Nat.zero_le _⟩ dX11_redexCount_20) (fun H locs hT t6a => ?_)
    obtain ⟨r7, σ7, hc7, h⟩ := bd_some h
    refine js_backI hT (js_runV C hT cfX7 t3a rfl mfX7_countRedexes lk_X11_261 (kX7_countRedexes t3a t4a t6a hc7) ⟨Nat.le_of_ble_eq_true rfl, Nat.le_of_ble_eq_true rfl⟩ rfl hl.1 rfl (Nat.le_of_ble_eq_true rfl) ⟨Nat.zero_le _, Nat.zero_le _⟩ dX11_redexCount_23) (fun H locs hT => ?_)
    refine lv_goto (tgt := 30) hx hb dX11_redexCount_26 (by decide) ?_
    obtain ⟨rfl, rfl⟩ := js_rt h
    exact js_iret C hT hr hk dX11_redexCount_30
set_option maxHeartbeats 4000000 in
set_option maxRecDepth 20000 in
theorem kX11_remainingComponentCount {x0 : Nat} {σ σ0 : js_S} {r0 : Int32} (t0 : ob_ nn 11 x0) (h : fX11_remainingComponentCount fu x0 σ = some (r0, σ0)) : js_M l D B g nn yX11_remainingComponentCount cX11_remainingComponentCount 1 (some .int) 7 [.ref (B + x0)] σ (js_QI D B g nn r0 σ0) := by
  refine js_enter (by decide) (Nat.le_of_ble_eq_true rfl) ?_
  intro p e s m args below meth c C hr hk ls hl hT
  have hl : lv_has ls 1 [(0, .ref (B + x0))] := hl
  obtain ⟨hx, hb, hml, hown, ht, hK, hNw⟩ := id C
  obtain ⟨H, eH⟩ : ∃ H, H = s.heap := ⟨_, rfl⟩
  obtain ⟨locs, eL⟩ : ∃ z : List Loc, z = [] := ⟨_, rfl⟩
  rw [← eH, ← eL]
  rw [← eH, ← eL] at hT
  clear eH eL
  unfold fX11_remainingComponentCount at h
  refine lv_aload_n hx hb dX11_remainingComponentCount_0 rfl (lv_at hl 0 rfl) ?_
  obtain ⟨r1, σ1, hc1, h⟩ := bd_some h
  refine js_backR hT (js_runV C hT cfX11 t0 rfl mfX11_currentElimination lk_X11_213 (kX11_currentElimination t0 hc1) ⟨Nat.le_of_ble_eq_true rfl, Nat.le_of_ble_eq_true rfl⟩ rfl hl.1 rfl (Nat.le_of_ble_eq_true rfl) ⟨Nat.zero_le _, Nat.zero_le _⟩ dX11_remainingComponentCount_1) (fun H locs hT t1a => ?_)
  refine js_gRN C hT cfX2 t1a 0 (by decide) (q := 1) rfl (by decide) lk_X11_220 dX11_remainingComponentCount_4 (fun t2a => ?_)
  refine js_gIN C hT cfX1 t2a 3 (by decide) rfl lk_X11_183 dX11_remainingComponentCount_7 ?_
  obtain ⟨rfl, rfl⟩ := js_rt h
  exact js_iret C hT hr hk dX11_remainingComponentCount_10
set_option maxHeartbeats 4000000 in
set_option maxRecDepth 20000 in
theorem kX11_remainingPairCount {x0 : Nat} {σ σ0 : js_S} {r0 : Int32} (t0 : ob_ nn 11 x0) (h : fX11_remainingPairCount fu x0 σ = some (r0, σ0)) : js_M l D B g nn yX11_remainingPairCount cX11_remainingPairCount 1 (some .int) 7 [.ref (B + x0)] σ (js_QI D B g nn r0 σ0) := by
  refine js_enter (by decide) (Nat.le_of_ble_eq_true rfl) ?_
  intro p e s m args below meth c C hr hk ls hl hT
  have hl : lv_has ls 1 [(0, .ref (B + x0))] := hl
  obtain ⟨hx, hb, hml, hown, ht, hK, hNw⟩ := id C
  obtain ⟨H, eH⟩ : ∃ H, H = s.heap := ⟨_, rfl⟩
  obtain ⟨locs, eL⟩ : ∃ z : List Loc, z = [] := ⟨_, rfl⟩
  rw [← eH, ← eL]
  rw [← eH, ← eL] at hT
  clear eH eL
  unfold fX11_remainingPairCount at h
  refine lv_aload_n hx hb dX11_remainingPairCount_0 rfl (lv_at hl 0 rfl) ?_
  obtain ⟨r1, σ1, hc1, h⟩ := bd_some h
  refine js_backR hT (js_runV C hT cfX11 t0 rfl mfX11_currentElimination lk_X11_213 (kX11_currentElimination t0 hc1) ⟨Nat.le_of_ble_eq_true rfl, Nat.le_of_ble_eq_true rfl⟩ rfl hl.1 rfl (Nat.le_of_ble_eq_true rfl) ⟨Nat.zero_le _, Nat.zero_le _⟩ dX11_remainingPairCount_1) (fun H locs hT t1a => ?_)
  refine js_gRN C hT cfX2 t1a 0 (by decide) (q := 1) rfl (by decide) lk_X11_220 dX11_remainingPairCount_4 (fun t2a => ?_)
  refine js_gIN C hT cfX1 t2a 4 (by decide) rfl lk_X11_223 dX11_remainingPairCount_7 ?_
  obtain ⟨rfl, rfl⟩ := js_rt h
  exact js_iret C hT hr hk dX11_remainingPairCount_10
set_option maxHeartbeats 4000000 in
set_option maxRecDepth 20000 in
theorem kX11_removeRule {x0 : Nat} {x1 : Int32} {σ σ0 : js_S} {r0 : Int32} (t0 : ob_ nn 11 x0) (h : fX11_removeRule fu x0 x1 σ = some (r0, σ0)) : js_M l D B g nn yX11_removeRule cX11_removeRule 2 (some .int) 2 [.ref (B + x0), .int x1] σ (js_QI D B g nn r0 σ0) := by
  refine js_enter (by decide) (Nat.le_of_ble_eq_true rfl) ?_
  intro p e s m args below meth c C hr hk ls hl hT
  have hl : lv_has ls 2 [(0, .ref (B + x0)), (1, .int x1)] := hl
  obtain ⟨hx, hb, hml, hown, ht, hK, hNw⟩ := id C
  obtain ⟨H, eH⟩ : ∃ H, H = s.heap := ⟨_, rfl⟩
  obtain ⟨locs, eL⟩ : ∃ z : List Loc, z = [] := ⟨_, rfl⟩
  rw [← eH, ← eL]
  rw [← eH, ← eL] at hT
  clear eH eL
  unfold fX11_removeRule at h
  refine lv_aload_n hx hb dX11_removeRule_0 rfl (lv_at hl 0 rfl) ?_
  refine lv_iload_n hx hb dX11_removeRule_1 rfl (lv_at hl 1 rfl) ?_
  obtain ⟨r1, σ1, hc1, h⟩ := bd_some h
  refine js_backI hT (js_runV C hT cfX11 t0 rfl mfX11_hasRule lk_X11_132 (kX11_hasRule t0 hc1) ⟨Nat.le_of_ble_eq_true rfl, Nat.le_of_ble_eq_true rfl⟩ rfl hl.1 rfl (Nat.le_of_ble_eq_true rfl) ⟨Nat.zero_le _, Nat.zero_le _⟩ dX11_removeRule_2) (fun H locs hT => ?_)
  refine lv_if_ne (tgt := 10) hx hb dX11_removeRule_5 (by decide) (fun c2 => ?_) (fun c2 => ?_)
  · rw [if_neg c2] at h
    refine lv_aload_n hx hb dX11_removeRule_10 rfl (lv_at hl 0 rfl) ?_
    refine js_gR C hT cfX11 t0 0 (by decide) (q := 6) rfl (by decide) lk_X11_12 dX11_removeRule_11 (fun t3a => ?_)
    refine lv_iload_n hx hb dX11_removeRule_14 rfl (lv_at hl 1 rfl) ?_
    obtain ⟨z4, σ4, hc4, h⟩ := bd_some h
    refine js_backV hT (js_runV C hT cfX6 t3a rfl mfX6_dropRule lk_X11_135 (kX6_dropRule t3a hc4) ⟨Nat.le_of_ble_eq_true rfl, Nat.le_of_ble_eq_true rfl⟩ rfl hl.1 rfl (Nat.le_of_ble_eq_true rfl) ⟨Nat.zero_le _, Nat.zero_le _⟩ dX11_removeRule_15) (fun H locs hT => ?_)
    refine lv_aload_n hx hb dX11_removeRule_18 rfl (lv_at hl 0 rfl) ?_
    obtain ⟨z5, σ5, hc5, h⟩ := bd_some h
    refine js_backV hT (js_runV C hT cfX11 t0 rfl mfX11_rulesChanged lk_X11_129 (kX11_rulesChanged t0 hc5) ⟨Nat.le_of_ble_eq_true rfl, Nat.le_of_ble_eq_true rfl⟩ rfl hl.1 rfl (Nat.le_of_ble_eq_true rfl) ⟨Nat.zero_le _, Nat.zero_le _⟩ dX11_removeRule_19) (fun H locs hT => ?_)
    refine lv_aload_n hx hb dX11_removeRule_22 rfl (lv_at hl 0 rfl) ?_
    refine js_gR C hT cfX11 t0 0 (by decide) (q := 6) rfl (by decide) lk_X11_12 dX11_removeRule_23 (fun t6a => ?_)
    refine js_gIN C hT cfX6 t6a 5 (by decide) rfl lk_X11_84 dX11_removeRule_26 ?_
    obtain ⟨rfl, rfl⟩ := js_rt h
    exact js_iret C hT hr hk dX11_removeRule_29
  · rw [if_pos c2] at h
    refine lv_iconst (v := (-1)) hx hb dX11_removeRule_8 (by decide) ?_
    obtain ⟨rfl, rfl⟩ := js_rt h
    exact js_iret C hT hr hk dX11_removeRule_9
set_option maxHeartbeats 4000000 in
set_option maxRecDepth 20000 in
theorem kX11_restoreSnapshot {x0 : Nat} {σ σ0 : js_S} {r0 : Int32} (t0 : ob_ nn 11 x0) (h : fX11_restoreSnapshot fu x0 σ = some (r0, σ0)) : js_M l D B g nn yX11_restoreSnapshot cX11_restoreSnapshot 1 (some .int) 2 [.ref (B + x0)] σ (js_QI D B g nn r0 σ0) := by
  refine js_enter (by decide) (Nat.le_of_ble_eq_true rfl) ?_
  intro p e s m args below meth c C hr hk ls hl hT
  have hl : lv_has ls 1 [(0, .ref (B + x0))] := hl
  obtain ⟨hx, hb, hml, hown, ht, hK, hNw⟩ := id C
  obtain ⟨H, eH⟩ : ∃ H, H = s.heap := ⟨_, rfl⟩
  obtain ⟨locs, eL⟩ : ∃ z : List Loc, z = [] := ⟨_, rfl⟩
  rw [← eH, ← eL]
  rw [← eH, ← eL] at hT
  clear eH eL
  unfold fX11_restoreSnapshot at h
  refine lv_aload_n hx hb dX11_restoreSnapshot_0 rfl (lv_at hl 0 rfl) ?_
  refine js_gI C hT cfX11 t0 2 (by decide) rfl lk_X11_302 dX11_restoreSnapshot_1 ?_
  refine lv_if_ne (tgt := 10) hx hb dX11_restoreSnapshot_4 (by decide) (fun c1 => ?_) (fun c1 => ?_)
  · rw [if_neg c1] at h
    refine lv_aload_n hx hb dX11_restoreSnapshot_10 rfl (lv_at hl 0 rfl) ?_
    refine js_gR C hT cfX11 t0 0 (by decide) (q := 6) rfl (by decide) lk_X11_12 dX11_restoreSnapshot_11 (fun t2a => ?_)
    refine lv_aload_n hx hb dX11_restoreSnapshot_14 rfl (lv_at hl 0 rfl) ?_
    refine js_gR C hT cfX11 t0 1 (by decide) (q := 6) rfl (by decide) lk_X11_16 dX11_restoreSnapshot_15 (fun t3a => ?_)
    obtain ⟨z4, σ4, hc4, h⟩ := bd_some h
    refine js_backV hT (js_runV C hT cfX6 t2a rfl mfX6_copyFrom lk_X11_298 (kX6_copyFrom t2a t3a hc4) ⟨Nat.le_of_ble_eq_true rfl, Nat.le_of_ble_eq_true rfl⟩ rfl hl.1 rfl (Nat.le_of_ble_eq_true rfl) ⟨Nat.zero_le _, Nat.zero_le _⟩ dX11_restoreSnapshot_18) (fun H locs hT => ?_)
    refine lv_aload_n hx hb dX11_restoreSnapshot_21 rfl (lv_at hl 0 rfl) ?_
    obtain ⟨z5, σ5, hc5, h⟩ := bd_some h
    refine js_backV hT (js_runV C hT cfX11 t0 rfl mfX11_rulesChanged lk_X11_129 (kX11_rulesChanged t0 hc5) ⟨Nat.le_of_ble_eq_true rfl, Nat.le_of_ble_eq_true rfl⟩ rfl hl.1 rfl (Nat.le_of_ble_eq_true rfl) ⟨Nat.zero_le _, Nat.zero_le _⟩ dX11_restoreSnapshot_22) (fun H locs hT => ?_)
    refine lv_aload_n hx hb dX11_restoreSnapshot_25 rfl (lv_at hl 0 rfl) ?_
    refine js_gR C hT cfX11 t0 0 (by decide) (q := 6) rfl (by decide) lk_X11_12 dX11_restoreSnapshot_26 (fun t6a => ?_)
    refine js_gIN C hT cfX6 t6a 5 (by decide) rfl lk_X11_84 dX11_restoreSnapshot_29 ?_
    obtain ⟨rfl, rfl⟩ := js_rt h
    exact js_iret C hT hr hk dX11_restoreSnapshot_32
  · rw [if_pos c1] at h
    refine lv_bipush (v := (-3)) hx hb dX11_restoreSnapshot_7 (by decide) ?_
    obtain ⟨rfl, rfl⟩ := js_rt h
    exact js_iret C hT hr hk dX11_restoreSnapshot_9
set_option maxHeartbeats 4000000 in
set_option maxRecDepth 20000 in
theorem kX11_rewriteAt {x0 : Nat} {x1 : Int32} {x2 : Int32} {σ σ0 : js_S} {r0 : Int32} (t0 : ob_ nn 11 x0) (h : fX11_rewriteAt fu x0 x1 x2 σ = some (r0, σ0)) : js_M l D B g nn yX11_rewriteAt cX11_rewriteAt 4 (some .int) 5 [.ref (B + x0), .int x1, .int x2] σ (js_QI D B g nn r0 σ0) := by
  refine js_enter (by decide) (Nat.le_of_ble_eq_true rfl) ?_
  intro p e s m args below meth c C hr hk ls hl hT
  have hl : lv_has ls 4 [(0, .ref (B + x0)), (1, .int x1), (2, .int x2)] := hl
  obtain ⟨hx, hb, hml, hown, ht, hK, hNw⟩ := id C
  obtain ⟨H, eH⟩ : ∃ H, H = s.heap := ⟨_, rfl⟩
  obtain ⟨locs, eL⟩ : ∃ z : List Loc, z = [] := ⟨_, rfl⟩
  rw [← eH, ← eL]
  rw [← eH, ← eL] at hT
  clear eH eL
  unfold fX11_rewriteAt at h
  refine lv_aload_n hx hb dX11_rewriteAt_0 rfl (lv_at hl 0 rfl) ?_
  refine lv_iload_n hx hb dX11_rewriteAt_1 rfl (lv_at hl 1 rfl) ?_
  refine lv_iload_n hx hb dX11_rewriteAt_2 rfl (lv_at hl 2 rfl) ?_
  obtain ⟨r1, σ1, hc1, h⟩ := bd_some h
  refine js_backI hT (js_runV C hT cfX11 t0 rfl mfX11_hasPosition lk_X11_254 (kX11_hasPosition t0 hc1) ⟨Nat.le_of_ble_eq_true rfl, Nat.le_of_ble_eq_true rfl⟩ rfl hl.1 rfl (Nat.le_of_ble_eq_true rfl) ⟨Nat.zero_le _, Nat.zero_le _⟩ dX11_rewriteAt_3) (fun H locs hT => ?_)
  refine lv_if_ne (tgt := 11) hx hb dX11_rewriteAt_6 (by decide) (fun c2 => ?_) (fun c2 => ?_)
  · rw [if_neg c2] at h
    refine lv_aload_n hx hb dX11_rewriteAt_11 rfl (lv_at hl 0 rfl) ?_
    refine js_gR C hT cfX11 t0 5 (by decide) (q := 7) rfl (by decide) lk_X11_34 dX11_rewriteAt_12 (fun t3a => ?_)
    refine lv_aload_n hx hb dX11_rewriteAt_15 rfl (lv_at hl 0 rfl) ?_
    refine js_gR C hT cfX11 t0 0 (by decide) (q := 6) rfl (by decide) lk_X11_12 dX11_rewriteAt_16 (fun t4a => ?_)
    refine lv_aload_n hx hb dX11_rewriteAt_19 rfl (lv_at hl 0 rfl) ?_
    refine js_gR C hT cfX11 t0 0 (by decide) (q := 6) rfl (by decide) lk_X11_12 dX11_rewriteAt_20 (fun t5a => ?_)
    refine lv_iload_n hx hb dX11_rewriteAt_23 rfl (lv_at hl 1 rfl) ?_
    obtain ⟨r6, σ6, hc6, h⟩ := bd_some h
    refine js_backR hT (js_runV C hT cfX6 t5a rfl mfX6_register lk_X11_237 (kX6_register t5a hc6) ⟨Nat.le_of_ble_eq_true rfl, Nat.le_of_ble_eq_true rfl⟩ rfl hl.1 rfl (Nat.le_of_ble_eq_true rfl) ⟨Nat.zero_le _, Nat.zero_le _⟩ dX11_rewriteAt_24) (fun H locs hT t6a => ?_)
    refine lv_iload_n hx hb dX11_rewriteAt_27 rfl (lv_at hl 2 rfl) ?_
    refine lv_aload_n hx hb dX11_rewriteAt_28 rfl (lv_at hl 0 rfl) ?_
    refine js_gR C hT cfX11 t0 7 (by decide) (q := 9) rfl (by decide) lk_X11_48 dX11_rewriteAt_29 (fun t7a => ?_)
    obtain ⟨r8, σ8, hc8, h⟩ := bd_some h
    refine js_backI hT (js_runV C hT cfX7 t3a rfl mfX7_step lk_X11_269 (kX7_step t3a t4a t6a t7a hc8) ⟨Nat.le_of_ble_eq_true rfl, Nat.le_of_ble_eq_true rfl⟩ rfl hl.1 rfl (Nat.le_of_ble_eq_true rfl) ⟨Nat.zero_le _, Nat.zero_le _⟩ dX11_rewriteAt_32) (fun H locs hT => ?_)
    refine lv_istore_n (lv' := [(3, .int r8), (0, .ref (B + x0)), (1, .int x1), (2, .int x2)]) hx hb dX11_rewriteAt_35 rfl hl (by decide) rfl (fun ls hl => ?_)
    refine lv_iload_n hx hb dX11_rewriteAt_36 rfl (lv_at hl 0 rfl) ?_
    refine lv_if_ge (tgt := 44) hx hb dX11_rewriteAt_37 (by decide) (fun c9 => ?_) (fun c9 => ?_)
    · rw [if_pos c9] at h
      refine lv_aload_n hx hb dX11_rewriteAt_44 rfl (lv_at hl 1 rfl) ?_
      refine lv_aload_n hx hb dX11_rewriteAt_45 rfl (lv_at hl 1 rfl) ?_
      refine js_gR C hT cfX11 t0 7 (by decide) (q := 9) rfl (by decide) lk_X11_48 dX11_rewriteAt_46 (fun t10a => ?_)
      refine lv_iload_n hx hb dX11_rewriteAt_49 rfl (lv_at hl 2 rfl) ?_
      obtain ⟨r11, σ11, hc11, h⟩ := bd_some h
      refine js_backI hT (js_runV C hT cfX11 t0 rfl mfX11_store lk_X11_233 (kX11_store t0 t10a hc11) ⟨Nat.le_of_ble_eq_true rfl, Nat.le_of_ble_eq_true rfl⟩ rfl hl.1 rfl (Nat.le_of_ble_eq_true rfl) ⟨Nat.zero_le _, Nat.zero_le _⟩ dX11_rewriteAt_50) (fun H locs hT => ?_)
      obtain ⟨rfl, rfl⟩ := js_rt h
      exact js_iret C hT hr hk dX11_rewriteAt_53
    · rw [if_neg c9] at h
      refine lv_iload_n hx hb dX11_rewriteAt_40 rfl (lv_at hl 0 rfl) ?_
      refine lv_goto (tgt := 53) hx hb dX11_rewriteAt_41 (by decide) ?_
      obtain ⟨rfl, rfl⟩ := js_rt h
      exact js_iret C hT hr hk dX11_rewriteAt_53
  · rw [if_pos c2] at h
    refine lv_iconst (v := (-1)) hx hb dX11_rewriteAt_9 (by decide) ?_
    obtain ⟨rfl, rfl⟩ := js_rt h
    exact js_iret C hT hr hk dX11_rewriteAt_10
set_option maxHeartbeats 4000000 in
set_option maxRecDepth 20000 in
theorem kX11_rewriteOutermost {x0 : Nat} {x1 : Int32} {x2 : Int32} {σ σ0 : js_S} {r0 : Int32} (t0 : ob_ nn 11 x0) (h : fX11_rewriteOutermost fu x0 x1 x2 σ = some (r0, σ0)) : js_M l D B g nn yX11_rewriteOutermost cX11_rewriteOutermost 3 (some .int) 6 [.ref (B + x0), .int x1, .int x2] σ (js_QI D B g nn r0 σ0) := by
  refine js_enter (by decide) (Nat.le_of_ble_eq_true rfl) ?_
  intro p e s m args below meth c C hr hk ls hl hT
  have hl : lv_has ls 3 [(0, .ref (B + x0)), (1, .int x1), (2, .int x2)] := hl
  obtain ⟨hx, hb, hml, hown, ht, hK, hNw⟩ := id C
  obtain ⟨H, eH⟩ : ∃ H, H = s.heap := ⟨_, rfl⟩
  obtain ⟨locs, eL⟩ : ∃ z : List Loc, z = [] := ⟨_, rfl⟩
  rw [← eH, ← eL]
  rw [← eH, ← eL] at hT
  clear eH eL
  unfold fX11_rewriteOutermost at h
  refine lv_iload_n hx hb dX11_rewriteOutermost_0 rfl (lv_at hl 1 rfl) ?_
  obtain ⟨r1, σ1, hc1, h⟩ := bd_some h
  refine js_backI hT (js_runS C hT mfX11_hasRegister lk_X11_226 (kX11_hasRegister  hc1) ⟨Nat.le_of_ble_eq_true rfl, Nat.le_of_ble_eq_true rfl⟩ rfl hl.1 rfl (Nat.le_of_ble_eq_true rfl) ⟨Nat.zero_le _, Nat.zero_le _⟩ dX11_rewriteOutermost_1) (fun H locs hT => ?_)
  refine lv_if_ne (tgt := 9) hx hb dX11_rewriteOutermost_4 (by decide) (fun c2 => ?_) (fun c2 => ?_)
  · rw [if_neg c2] at h
    refine lv_iload_n hx hb dX11_rewriteOutermost_9 rfl (lv_at hl 2 rfl) ?_
    refine lv_if_lt (tgt := 19) hx hb dX11_rewriteOutermost_10 (by decide) (fun c3 => ?_) (fun c3 => ?_)
    · rw [if_pos c3] at h
      refine lv_bipush (v := (-2)) hx hb dX11_rewriteOutermost_19 (by decide) ?_
      obtain ⟨rfl, rfl⟩ := js_rt h
      exact js_iret C hT hr hk dX11_rewriteOutermost_21
    · rw [if_neg c3] at h
      refine lv_iload_n hx hb dX11_rewriteOutermost_13 rfl (lv_at hl 2 rfl) ?_
      refine lv_bipush (v := 100) hx hb dX11_rewriteOutermost_14 (by decide) ?_
      refine lv_icmp_le (tgt := 22) hx hb dX11_rewriteOutermost_16 (by decide) (fun c4 => ?_) (fun c4 => ?_)
      · rw [if_pos c4] at h
        refine lv_aload_n hx hb dX11_rewriteOutermost_22 rfl (lv_at hl 0 rfl) ?_
        refine js_gR C hT cfX11 t0 5 (by decide) (q := 7) rfl (by decide) lk_X11_34 dX11_rewriteOutermost_23 (fun t5a => ?_)
        refine lv_aload_n hx hb dX11_rewriteOutermost_26 rfl (lv_at hl 0 rfl) ?_
        refine js_gR C hT cfX11 t0 0 (by decide) (q := 6) rfl (by decide) lk_X11_12 dX11_rewriteOutermost_27 (fun t6a => ?_)
        refine lv_aload_n hx hb dX11_rewriteOutermost_30 rfl (lv_at hl 0 rfl) ?_
        refine js_gR C hT cfX11 t0 0 (by decide) (q := 6) rfl (by decide) lk_X11_12 dX11_rewriteOutermost_31 (fun t7a => ?_)
        refine lv_iload_n hx hb dX11_rewriteOutermost_34 rfl (lv_at hl 1 rfl) ?_
        obtain ⟨r8, σ8, hc8, h⟩ := bd_some h
        refine js_backR hT (js_runV C hT cfX6 t7a rfl mfX6_register lk_X11_237 (kX6_register t7a hc8) ⟨Nat.le_of_ble_eq_true rfl, Nat.le_of_ble_eq_true rfl⟩ rfl hl.1 rfl (Nat.le_of_ble_eq_true rfl) ⟨Nat.zero_le _, Nat.zero_le _⟩ dX11_rewriteOutermost_35) (fun H locs hT t8a => ?_)
        refine lv_iload_n hx hb dX11_rewriteOutermost_38 rfl (lv_at hl 2 rfl) ?_
        refine lv_aload_n hx hb dX11_rewriteOutermost_39 rfl (lv_at hl 0 rfl) ?_
        refine js_gR C hT cfX11 t0 7 (by decide) (q := 9) rfl (by decide) lk_X11_48 dX11_rewriteOutermost_40 (fun t9a => ?_)
        obtain ⟨r10, σ10, hc10, h⟩ := bd_some h
        refine js_backI hT (js_runV C hT cfX7 t5a rfl mfX7_stepsOutermost lk_X11_273 (kX7_stepsOutermost t5a t6a t8a t9a hc10) ⟨Nat.le_of_ble_eq_true rfl, Nat.le_of_ble_eq_true rfl⟩ rfl hl.1 rfl (Nat.le_of_ble_eq_true rfl) ⟨Nat.zero_le _, Nat.zero_le _⟩ dX11_rewriteOutermost_43) (fun H locs hT => ?_)
        obtain ⟨rfl, rfl⟩ := js_rt h
        exact js_iret C hT hr hk dX11_rewriteOutermost_46
      · rw [if_neg c4] at h
        refine lv_bipush (v := (-2)) hx hb dX11_rewriteOutermost_19 (by decide) ?_
        obtain ⟨rfl, rfl⟩ := js_rt h
        exact js_iret C hT hr hk dX11_rewriteOutermost_21
  · rw [if_pos c2] at h
    refine lv_iconst (v := (-1)) hx hb dX11_rewriteOutermost_7 (by decide) ?_
    obtain ⟨rfl, rfl⟩ := js_rt h
    exact js_iret C hT hr hk dX11_rewriteOutermost_8
set_option maxHeartbeats 4000000 in
set_option maxRecDepth 20000 in
theorem kX11_rightSize {x0 : Nat} {x1 : Int32} {σ σ0 : js_S} {r0 : Int32} (t0 : ob_ nn 11 x0) (h : fX11_rightSize fu x0 x1 σ = some (r0, σ0)) : js_M l D B g nn yX11_rightSize cX11_rightSize 2 (some .int) 1 [.ref (B + x0), .int x1] σ (js_QI D B g nn r0 σ0) := by
  refine js_enter (by decide) (Nat.le_of_ble_eq_true rfl) ?_
  intro p e s m args below meth c C hr hk ls hl hT
  have hl : lv_has ls 2 [(0, .ref (B + x0)), (1, .int x1)] := hl
  obtain ⟨hx, hb, hml, hown, ht, hK, hNw⟩ := id C
  obtain ⟨H, eH⟩ : ∃ H, H = s.heap := ⟨_, rfl⟩
  obtain ⟨locs, eL⟩ : ∃ z : List Loc, z = [] := ⟨_, rfl⟩
  rw [← eH, ← eL]
  rw [← eH, ← eL] at hT
  clear eH eL
  unfold fX11_rightSize at h
  refine lv_aload_n hx hb dX11_rightSize_0 rfl (lv_at hl 0 rfl) ?_
  refine lv_iload_n hx hb dX11_rightSize_1 rfl (lv_at hl 1 rfl) ?_
  obtain ⟨r1, σ1, hc1, h⟩ := bd_some h
  refine js_backI hT (js_runV C hT cfX11 t0 rfl mfX11_hasRule lk_X11_132 (kX11_hasRule t0 hc1) ⟨Nat.le_of_ble_eq_true rfl, Nat.le_of_ble_eq_true rfl⟩ rfl hl.1 rfl (Nat.le_of_ble_eq_true rfl) ⟨Nat.zero_le _, Nat.zero_le _⟩ dX11_rightSize_2) (fun H locs hT => ?_)
  refine lv_if_eq (tgt := 22) hx hb dX11_rightSize_5 (by decide) (fun c2 => ?_) (fun c2 => ?_)
  · rw [if_pos c2] at h
    refine lv_iconst (v := (-1)) hx hb dX11_rightSize_22 (by decide) ?_
    obtain ⟨rfl, rfl⟩ := js_rt h
    exact js_iret C hT hr hk dX11_rightSize_23
  · rw [if_neg c2] at h
    refine lv_aload_n hx hb dX11_rightSize_8 rfl (lv_at hl 0 rfl) ?_
    refine js_gR C hT cfX11 t0 0 (by decide) (q := 6) rfl (by decide) lk_X11_12 dX11_rightSize_9 (fun t3a => ?_)
    refine lv_iload_n hx hb dX11_rightSize_12 rfl (lv_at hl 1 rfl) ?_
    obtain ⟨r4, σ4, hc4, h⟩ := bd_some h
    refine js_backR hT (js_runV C hT cfX6 t3a rfl mfX6_right lk_X11_112 (kX6_right t3a hc4) ⟨Nat.le_of_ble_eq_true rfl, Nat.le_of_ble_eq_true rfl⟩ rfl hl.1 rfl (Nat.le_of_ble_eq_true rfl) ⟨Nat.zero_le _, Nat.zero_le _⟩ dX11_rightSize_13) (fun H locs hT t4a => ?_)
    refine js_gIN C hT cfX9 t4a 1 (by decide) rfl lk_X11_138 dX11_rightSize_16 ?_
    refine lv_goto (tgt := 23) hx hb dX11_rightSize_19 (by decide) ?_
    obtain ⟨rfl, rfl⟩ := js_rt h
    exact js_iret C hT hr hk dX11_rightSize_23
set_option maxHeartbeats 4000000 in
set_option maxRecDepth 20000 in
theorem kX11_ruleCount {x0 : Nat} {σ σ0 : js_S} {r0 : Int32} (t0 : ob_ nn 11 x0) (h : fX11_ruleCount fu x0 σ = some (r0, σ0)) : js_M l D B g nn yX11_ruleCount cX11_ruleCount 1 (some .int) 0 [.ref (B + x0)] σ (js_QI D B g nn r0 σ0) := by
  refine js_enter (by decide) (Nat.le_of_ble_eq_true rfl) ?_
  intro p e s m args below meth c C hr hk ls hl hT
  have hl : lv_has ls 1 [(0, .ref (B + x0))] := hl
  obtain ⟨hx, hb, hml, hown, ht, hK, hNw⟩ := id C
  obtain ⟨H, eH⟩ : ∃ H, H = s.heap := ⟨_, rfl⟩
  obtain ⟨locs, eL⟩ : ∃ z : List Loc, z = [] := ⟨_, rfl⟩
  rw [← eH, ← eL]
  rw [← eH, ← eL] at hT
  clear eH eL
  unfold fX11_ruleCount at h
  refine lv_aload_n hx hb dX11_ruleCount_0 rfl (lv_at hl 0 rfl) ?_
  refine js_gR C hT cfX11 t0 0 (by decide) (q := 6) rfl (by decide) lk_X11_12 dX11_ruleCount_1 (fun t1a => ?_)
  refine js_gIN C hT cfX6 t1a 5 (by decide) rfl lk_X11_84 dX11_ruleCount_4 ?_
  obtain ⟨rfl, rfl⟩ := js_rt h
  exact js_iret C hT hr hk dX11_ruleCount_7
set_option maxHeartbeats 4000000 in
set_option maxRecDepth 20000 in
theorem kX11_saveSnapshot {x0 : Nat} {σ σ0 : js_S} {r0 : Int32} (t0 : ob_ nn 11 x0) (h : fX11_saveSnapshot fu x0 σ = some (r0, σ0)) : js_M l D B g nn yX11_saveSnapshot cX11_saveSnapshot 1 (some .int) 2 [.ref (B + x0)] σ (js_QI D B g nn r0 σ0) := by
  refine js_enter (by decide) (Nat.le_of_ble_eq_true rfl) ?_
  intro p e s m args below meth c C hr hk ls hl hT
  have hl : lv_has ls 1 [(0, .ref (B + x0))] := hl
  obtain ⟨hx, hb, hml, hown, ht, hK, hNw⟩ := id C
  obtain ⟨H, eH⟩ : ∃ H, H = s.heap := ⟨_, rfl⟩
  obtain ⟨locs, eL⟩ : ∃ z : List Loc, z = [] := ⟨_, rfl⟩
  rw [← eH, ← eL]
  rw [← eH, ← eL] at hT
  clear eH eL
  unfold fX11_saveSnapshot at h
  refine lv_aload_n hx hb dX11_saveSnapshot_0 rfl (lv_at hl 0 rfl) ?_
  refine js_gR C hT cfX11 t0 1 (by decide) (q := 6) rfl (by decide) lk_X11_16 dX11_saveSnapshot_1 (fun t1a => ?_)
  refine lv_aload_n hx hb dX11_saveSnapshot_4 rfl (lv_at hl 0 rfl) ?_
  refine js_gR C hT cfX11 t0 0 (by decide) (q := 6) rfl (by decide) lk_X11_12 dX11_saveSnapshot_5 (fun t2a => ?_)
  obtain ⟨z3, σ3, hc3, h⟩ := bd_some h
  refine js_backV hT (js_runV C hT cfX6 t1a rfl mfX6_copyFrom lk_X11_298 (kX6_copyFrom t1a t2a hc3) ⟨Nat.le_of_ble_eq_true rfl, Nat.le_of_ble_eq_true rfl⟩ rfl hl.1 rfl (Nat.le_of_ble_eq_true rfl) ⟨Nat.zero_le _, Nat.zero_le _⟩ dX11_saveSnapshot_8) (fun H locs hT => ?_)
  refine lv_aload_n hx hb dX11_saveSnapshot_11 rfl (lv_at hl 0 rfl) ?_
  refine lv_iconst (v := 1) hx hb dX11_saveSnapshot_12 (by decide) ?_
  obtain ⟨σ4, e4, h⟩ := lt_some h
  refine js_pI C hT cfX11 t0 2 (by decide) rfl rfl rfl rfl lk_X11_302 dX11_saveSnapshot_13 (fun H locs hT => ?_)
  rw [e4] at hT
  refine lv_aload_n hx hb dX11_saveSnapshot_16 rfl (lv_at hl 0 rfl) ?_
  refine js_gR C hT cfX11 t0 0 (by decide) (q := 6) rfl (by decide) lk_X11_12 dX11_saveSnapshot_17 (fun t5a => ?_)
  refine js_gIN C hT cfX6 t5a 5 (by decide) rfl lk_X11_84 dX11_saveSnapshot_20 ?_
  obtain ⟨rfl, rfl⟩ := js_rt h
  exact js_iret C hT hr hk dX11_saveSnapshot_23
set_option maxHeartbeats 4000000 in
set_option maxRecDepth 20000 in
theorem kX11_symbolOfFunction {x0 : Int32} {σ σ0 : js_S} {r0 : Int32} (h : fX11_symbolOfFunction fu x0 σ = some (r0, σ0)) : js_M l D B g nn yX11_symbolOfFunction cX11_symbolOfFunction 1 (some .int) 0 [.int x0] σ (js_QI D B g nn r0 σ0) := by
  refine js_enter (by decide) (Nat.le_of_ble_eq_true rfl) ?_
  intro p e s m args below meth c C hr hk ls hl hT
  have hl : lv_has ls 1 [(0, .int x0)] := hl
  obtain ⟨hx, hb, hml, hown, ht, hK, hNw⟩ := id C
  obtain ⟨H, eH⟩ : ∃ H, H = s.heap := ⟨_, rfl⟩
  obtain ⟨locs, eL⟩ : ∃ z : List Loc, z = [] := ⟨_, rfl⟩
  rw [← eH, ← eL]
  rw [← eH, ← eL] at hT
  clear eH eL
  unfold fX11_symbolOfFunction at h
  refine lv_bipush (v := 102) hx hb dX11_symbolOfFunction_0 (by decide) ?_
  refine lv_iload_n hx hb dX11_symbolOfFunction_2 rfl (lv_at hl 0 rfl) ?_
  refine lv_iadd hx hb dX11_symbolOfFunction_3 ?_
  obtain ⟨rfl, rfl⟩ := js_rt h
  exact js_iret C hT hr hk dX11_symbolOfFunction_4
set_option maxHeartbeats 4000000 in
set_option maxRecDepth 20000 in
theorem kX11_setArity {x0 : Nat} {x1 : Int32} {x2 : Int32} {σ σ0 : js_S} {r0 : Int32} (t0 : ob_ nn 11 x0) (h : fX11_setArity fu x0 x1 x2 σ = some (r0, σ0)) : js_M l D B g nn yX11_setArity cX11_setArity 4 (some .int) 3 [.ref (B + x0), .int x1, .int x2] σ (js_QI D B g nn r0 σ0) := by
  refine js_enter (by decide) (Nat.le_of_ble_eq_true rfl) ?_
  intro p e s m args below meth c C hr hk ls hl hT
  have hl : lv_has ls 4 [(0, .ref (B + x0)), (1, .int x1), (2, .int x2)] := hl
  obtain ⟨hx, hb, hml, hown, ht, hK, hNw⟩ := id C
  obtain ⟨H, eH⟩ : ∃ H, H = s.heap := ⟨_, rfl⟩
  obtain ⟨locs, eL⟩ : ∃ z : List Loc, z = [] := ⟨_, rfl⟩
  rw [← eH, ← eL]
  rw [← eH, ← eL] at hT
  clear eH eL
  unfold fX11_setArity at h
  refine lv_iload_n hx hb dX11_setArity_0 rfl (lv_at hl 1 rfl) ?_
  obtain ⟨r1, σ1, hc1, h⟩ := bd_some h
  refine js_backI hT (js_runS C hT mfX11_isFunctionNumber lk_X11_80 (kX11_isFunctionNumber  hc1) ⟨Nat.le_of_ble_eq_true rfl, Nat.le_of_ble_eq_true rfl⟩ rfl hl.1 rfl (Nat.le_of_ble_eq_true rfl) ⟨Nat.zero_le _, Nat.zero_le _⟩ dX11_setArity_1) (fun H locs hT => ?_)
  refine lv_if_ne (tgt := 9) hx hb dX11_setArity_4 (by decide) (fun c2 => ?_) (fun c2 => ?_)
  · rw [if_neg c2] at h
    refine lv_iload_n hx hb dX11_setArity_9 rfl (lv_at hl 2 rfl) ?_
    refine lv_iconst (v := 1) hx hb dX11_setArity_10 (by decide) ?_
    refine lv_icmp_lt (tgt := 19) hx hb dX11_setArity_11 (by decide) (fun c3 => ?_) (fun c3 => ?_)
    · rw [if_pos c3] at h
      refine lv_bipush (v := (-2)) hx hb dX11_setArity_19 (by decide) ?_
      obtain ⟨rfl, rfl⟩ := js_rt h
      exact js_iret C hT hr hk dX11_setArity_21
    · rw [if_neg c3] at h
      refine lv_iload_n hx hb dX11_setArity_14 rfl (lv_at hl 2 rfl) ?_
      refine lv_iconst (v := 3) hx hb dX11_setArity_15 (by decide) ?_
      refine lv_icmp_le (tgt := 22) hx hb dX11_setArity_16 (by decide) (fun c4 => ?_) (fun c4 => ?_)
      · rw [if_pos c4] at h
        refine lv_aload_n hx hb dX11_setArity_22 rfl (lv_at hl 0 rfl) ?_
        refine js_gR C hT cfX11 t0 0 (by decide) (q := 6) rfl (by decide) lk_X11_12 dX11_setArity_23 (fun t5a => ?_)
        refine js_gIN C hT cfX6 t5a 5 (by decide) rfl lk_X11_84 dX11_setArity_26 ?_
        refine lv_if_le (tgt := 35) hx hb dX11_setArity_29 (by decide) (fun c6 => ?_) (fun c6 => ?_)
        · rw [if_pos c6] at h
          refine lv_aload_n hx hb dX11_setArity_35 rfl (lv_at hl 0 rfl) ?_
          refine js_gR C hT cfX11 t0 0 (by decide) (q := 6) rfl (by decide) lk_X11_12 dX11_setArity_36 (fun t7a => ?_)
          refine js_gRN C hT cfX6 t7a 0 (by decide) (q := 8) rfl (by decide) lk_X11_88 dX11_setArity_39 (fun t8a => ?_)
          refine lv_iload_n hx hb dX11_setArity_42 rfl (lv_at hl 1 rfl) ?_
          obtain ⟨r9, σ9, hc9, h⟩ := bd_some h
          refine js_backI hT (js_runV C hT cfX8 t8a rfl mfX8_ofFunction lk_X11_92 (kX8_ofFunction t8a hc9) ⟨Nat.le_of_ble_eq_true rfl, Nat.le_of_ble_eq_true rfl⟩ rfl hl.1 rfl (Nat.le_of_ble_eq_true rfl) ⟨Nat.zero_le _, Nat.zero_le _⟩ dX11_setArity_43) (fun H locs hT => ?_)
          refine lv_istore_n (lv' := [(3, .int r9), (0, .ref (B + x0)), (1, .int x1), (2, .int x2)]) hx hb dX11_setArity_46 rfl hl (by decide) rfl (fun ls hl => ?_)
          refine lv_aload_n hx hb dX11_setArity_47 rfl (lv_at hl 1 rfl) ?_
          refine js_gR C hT cfX11 t0 0 (by decide) (q := 6) rfl (by decide) lk_X11_12 dX11_setArity_48 (fun t10a => ?_)
          refine js_gRN C hT cfX6 t10a 0 (by decide) (q := 8) rfl (by decide) lk_X11_88 dX11_setArity_51 (fun t11a => ?_)
          refine lv_iload_n hx hb dX11_setArity_54 rfl (lv_at hl 2 rfl) ?_
          refine lv_iload_n hx hb dX11_setArity_55 rfl (lv_at hl 3 rfl) ?_
          obtain ⟨z12, σ12, hc12, h⟩ := bd_some h
          refine js_backV hT (js_runV C hT cfX8 t11a rfl mfX8_change lk_X11_98 (kX8_change t11a hc12) ⟨Nat.le_of_ble_eq_true rfl, Nat.le_of_ble_eq_true rfl⟩ rfl hl.1 rfl (Nat.le_of_ble_eq_true rfl) ⟨Nat.zero_le _, Nat.zero_le _⟩ dX11_setArity_56) (fun H locs hT => ?_)
          refine lv_aload_n hx hb dX11_setArity_59 rfl (lv_at hl 1 rfl) ?_
          refine js_gR C hT cfX11 t0 0 (by decide) (q := 6) rfl (by decide) lk_X11_12 dX11_setArity_60 (fun t13a => ?_)
          refine lv_iload_n hx hb dX11_setArity_63 rfl (lv_at hl 2 rfl) ?_
          obtain ⟨r14, σ14, hc14, h⟩ := bd_some h
          refine js_backI hT (js_runS C hT mfX11_symbolOfFunction lk_X11_102 (kX11_symbolOfFunction  hc14) ⟨Nat.le_of_ble_eq_true rfl, Nat.le_of_ble_eq_true rfl⟩ rfl hl.1 rfl (Nat.le_of_ble_eq_true rfl) ⟨Nat.zero_le _, Nat.zero_le _⟩ dX11_setArity_64) (fun H locs hT => ?_)
          obtain ⟨z15, σ15, hc15, h⟩ := bd_some h
          refine js_backV hT (js_runV C hT cfX6 t13a rfl mfX6_resetRegistersWith lk_X11_105 (kX6_resetRegistersWith t13a hc15) ⟨Nat.le_of_ble_eq_true rfl, Nat.le_of_ble_eq_true rfl⟩ rfl hl.1 rfl (Nat.le_of_ble_eq_true rfl) ⟨Nat.zero_le _, Nat.zero_le _⟩ dX11_setArity_67) (fun H locs hT => ?_)
          refine lv_iload_n hx hb dX11_setArity_70 rfl (lv_at hl 0 rfl) ?_
          obtain ⟨rfl, rfl⟩ := js_rt h
          exact js_iret C hT hr hk dX11_setArity_71
        · rw [if_neg c6] at h
          refine lv_bipush (v := (-3)) hx hb dX11_setArity_32 (by decide) ?_
          obtain ⟨rfl, rfl⟩ := js_rt h
          exact js_iret C hT hr hk dX11_setArity_34
      · rw [if_neg c4] at h
        refine lv_bipush (v := (-2)) hx hb dX11_setArity_19 (by decide) ?_
        obtain ⟨rfl, rfl⟩ := js_rt h
        exact js_iret C hT hr hk dX11_setArity_21
  · rw [if_pos c2] at h
    refine lv_iconst (v := (-1)) hx hb dX11_setArity_7 (by decide) ?_
    obtain ⟨rfl, rfl⟩ := js_rt h
    exact js_iret C hT hr hk dX11_setArity_8
set_option maxHeartbeats 4000000 in
set_option maxRecDepth 20000 in
theorem kX11_sizeRelation {x0 : Nat} {x1 : Int32} {x2 : Int32} {x3 : Int32} {σ σ0 : js_S} {r0 : Int32} (t0 : ob_ nn 11 x0) (h : fX11_sizeRelation fu x0 x1 x2 x3 σ = some (r0, σ0)) : js_M l D B g nn yX11_sizeRelation cX11_sizeRelation 5 (some .int) 7 [.ref (B + x0), .int x1, .int x2, .int x3] σ (js_QI D B g nn r0 σ0) := by
  refine js_enter (by decide) (Nat.le_of_ble_eq_true rfl) ?_
  intro p e s m args below meth c C hr hk ls hl hT
  have hl : lv_has ls 5 [(0, .ref (B + x0)), (1, .int x1), (2, .int x2), (3, .int x3)] := hl
  obtain ⟨hx, hb, hml, hown, ht, hK, hNw⟩ := id C
  obtain ⟨H, eH⟩ : ∃ H, H = s.heap := ⟨_, rfl⟩
  obtain ⟨locs, eL⟩ : ∃ z : List Loc, z = [] := ⟨_, rfl⟩
  rw [← eH, ← eL]
  rw [← eH, ← eL] at hT
  clear eH eL
  unfold fX11_sizeRelation at h
  refine lv_aload_n hx hb dX11_sizeRelation_0 rfl (lv_at hl 0 rfl) ?_
  refine lv_iload_n hx hb dX11_sizeRelation_1 rfl (lv_at hl 1 rfl) ?_
  obtain ⟨r1, σ1, hc1, h⟩ := bd_some h
  refine js_backI hT (js_runV C hT cfX11 t0 rfl mfX11_hasPair lk_X11_148 (kX11_hasPair t0 hc1) ⟨Nat.le_of_ble_eq_true rfl, Nat.le_of_ble_eq_true rfl⟩ rfl hl.1 rfl (Nat.le_of_ble_eq_true rfl) ⟨Nat.zero_le _, Nat.zero_le _⟩ dX11_sizeRelation_2) (fun H locs hT => ?_)
  refine lv_if_ne (tgt := 10) hx hb dX11_sizeRelation_5 (by decide) (fun c2 => ?_) (fun c2 => ?_)
  · rw [if_neg c2] at h
    refine lv_aload_n hx hb dX11_sizeRelation_10 rfl (lv_at hl 0 rfl) ?_
    obtain ⟨r3, σ3, hc3, h⟩ := bd_some h
    refine js_backR hT (js_runV C hT cfX11 t0 rfl mfX11_currentPairs lk_X11_141 (kX11_currentPairs t0 hc3) ⟨Nat.le_of_ble_eq_true rfl, Nat.le_of_ble_eq_true rfl⟩ rfl hl.1 rfl (Nat.le_of_ble_eq_true rfl) ⟨Nat.zero_le _, Nat.zero_le _⟩ dX11_sizeRelation_11) (fun H locs hT t3a => ?_)
    refine lv_iload_n hx hb dX11_sizeRelation_14 rfl (lv_at hl 1 rfl) ?_
    obtain ⟨r4, σ4, hc4, h⟩ := bd_some h
    refine js_backI hT (js_runV C hT cfX5 t3a rfl mfX5_graph lk_X11_156 (kX5_graph t3a hc4) ⟨Nat.le_of_ble_eq_true rfl, Nat.le_of_ble_eq_true rfl⟩ rfl hl.1 rfl (Nat.le_of_ble_eq_true rfl) ⟨Nat.zero_le _, Nat.zero_le _⟩ dX11_sizeRelation_15) (fun H locs hT => ?_)
    refine lv_istore (lv' := [(4, .int r4), (0, .ref (B + x0)), (1, .int x1), (2, .int x2), (3, .int x3)]) hx hb dX11_sizeRelation_18 hl (by decide) rfl (fun ls hl => ?_)
    refine lv_iload_n hx hb dX11_sizeRelation_20 rfl (lv_at hl 3 rfl) ?_
    refine lv_if_lt (tgt := 43) hx hb dX11_sizeRelation_21 (by decide) (fun c5 => ?_) (fun c5 => ?_)
    · rw [if_pos c5] at h
      refine lv_iconst (v := (-1)) hx hb dX11_sizeRelation_43 (by decide) ?_
      obtain ⟨rfl, rfl⟩ := js_rt h
      exact js_iret C hT hr hk dX11_sizeRelation_44
    · rw [if_neg c5] at h
      refine lv_iload_n hx hb dX11_sizeRelation_24 rfl (lv_at hl 3 rfl) ?_
      refine lv_aload_n hx hb dX11_sizeRelation_25 rfl (lv_at hl 1 rfl) ?_
      refine js_gR C hT cfX11 t0 0 (by decide) (q := 6) rfl (by decide) lk_X11_12 dX11_sizeRelation_26 (fun t6a => ?_)
      refine js_gRN C hT cfX6 t6a 0 (by decide) (q := 8) rfl (by decide) lk_X11_88 dX11_sizeRelation_29 (fun t7a => ?_)
      refine lv_iload hx hb dX11_sizeRelation_32 (lv_at hl 0 rfl) ?_
      obtain ⟨r8, σ8, hc8, h⟩ := bd_some h
      refine js_backI hT (js_runS C hT mfX11_sourceOf lk_X11_159 (kX11_sourceOf  hc8) ⟨Nat.le_of_ble_eq_true rfl, Nat.le_of_ble_eq_true rfl⟩ rfl hl.1 rfl (Nat.le_of_ble_eq_true rfl) ⟨Nat.zero_le _, Nat.zero_le _⟩ dX11_sizeRelation_34) (fun H locs hT => ?_)
      obtain ⟨r9, σ9, hc9, h⟩ := bd_some h
      refine js_backI hT (js_runV C hT cfX8 t7a rfl mfX8_ofFunction lk_X11_92 (kX8_ofFunction t7a hc9) ⟨Nat.le_of_ble_eq_true rfl, Nat.le_of_ble_eq_true rfl⟩ rfl hl.1 rfl (Nat.le_of_ble_eq_true rfl) ⟨Nat.zero_le _, Nat.zero_le _⟩ dX11_sizeRelation_37) (fun H locs hT => ?_)
      refine lv_icmp_lt (tgt := 45) hx hb dX11_sizeRelation_40 (by decide) (fun c10 => ?_) (fun c10 => ?_)
      · rw [if_pos c10] at h
        refine lv_iload_n hx hb dX11_sizeRelation_45 rfl (lv_at hl 4 rfl) ?_
        refine lv_if_lt (tgt := 68) hx hb dX11_sizeRelation_46 (by decide) (fun c11 => ?_) (fun c11 => ?_)
        · rw [if_pos c11] at h
          refine lv_iconst (v := (-1)) hx hb dX11_sizeRelation_68 (by decide) ?_
          obtain ⟨rfl, rfl⟩ := js_rt h
          exact js_iret C hT hr hk dX11_sizeRelation_69
        · rw [if_neg c11] at h
          refine lv_iload_n hx hb dX11_sizeRelation_49 rfl (lv_at hl 4 rfl) ?_
          refine lv_aload_n hx hb dX11_sizeRelation_50 rfl (lv_at hl 1 rfl) ?_
          refine js_gR C hT cfX11 t0 0 (by decide) (q := 6) rfl (by decide) lk_X11_12 dX11_sizeRelation_51 (fun t12a => ?_)
          refine js_gRN C hT cfX6 t12a 0 (by decide) (q := 8) rfl (by decide) lk_X11_88 dX11_sizeRelation_54 (fun t13a => ?_)
          refine lv_iload hx hb dX11_sizeRelation_57 (lv_at hl 0 rfl) ?_
          obtain ⟨r14, σ14, hc14, h⟩ := bd_some h
          refine js_backI hT (js_runS C hT mfX11_targetOf lk_X11_162 (kX11_targetOf  hc14) ⟨Nat.le_of_ble_eq_true rfl, Nat.le_of_ble_eq_true rfl⟩ rfl hl.1 rfl (Nat.le_of_ble_eq_true rfl) ⟨Nat.zero_le _, Nat.zero_le _⟩ dX11_sizeRelation_59) (fun H locs hT => ?_)
          obtain ⟨r15, σ15, hc15, h⟩ := bd_some h
          refine js_backI hT (js_runV C hT cfX8 t13a rfl mfX8_ofFunction lk_X11_92 (kX8_ofFunction t13a hc15) ⟨Nat.le_of_ble_eq_true rfl, Nat.le_of_ble_eq_true rfl⟩ rfl hl.1 rfl (Nat.le_of_ble_eq_true rfl) ⟨Nat.zero_le _, Nat.zero_le _⟩ dX11_sizeRelation_62) (fun H locs hT => ?_)
          refine lv_icmp_lt (tgt := 70) hx hb dX11_sizeRelation_65 (by decide) (fun c16 => ?_) (fun c16 => ?_)
          · rw [if_pos c16] at h
            refine lv_iload hx hb dX11_sizeRelation_70 (lv_at hl 0 rfl) ?_
            refine lv_iload_n hx hb dX11_sizeRelation_72 rfl (lv_at hl 3 rfl) ?_
            refine lv_iload_n hx hb dX11_sizeRelation_73 rfl (lv_at hl 4 rfl) ?_
            obtain ⟨r17, σ17, hc17, h⟩ := bd_some h
            refine js_backI hT (js_runS C hT mfX11_relationIn lk_X11_187 (kX11_relationIn  hc17) ⟨Nat.le_of_ble_eq_true rfl, Nat.le_of_ble_eq_true rfl⟩ rfl hl.1 rfl (Nat.le_of_ble_eq_true rfl) ⟨Nat.zero_le _, Nat.zero_le _⟩ dX11_sizeRelation_74) (fun H locs hT => ?_)
            obtain ⟨rfl, rfl⟩ := js_rt h
            exact js_iret C hT hr hk dX11_sizeRelation_77
          · rw [if_neg c16] at h
            refine lv_iconst (v := (-1)) hx hb dX11_sizeRelation_68 (by decide) ?_
            obtain ⟨rfl, rfl⟩ := js_rt h
            exact js_iret C hT hr hk dX11_sizeRelation_69
      · rw [if_neg c10] at h
        refine lv_iconst (v := (-1)) hx hb dX11_sizeRelation_43 (by decide) ?_
        obtain ⟨rfl, rfl⟩ := js_rt h
        exact js_iret C hT hr hk dX11_sizeRelation_44
  · rw [if_pos c2] at h
    refine lv_iconst (v := (-1)) hx hb dX11_sizeRelation_8 (by decide) ?_
    obtain ⟨rfl, rfl⟩ := js_rt h
    exact js_iret C hT hr hk dX11_sizeRelation_9
set_option maxHeartbeats 4000000 in
set_option maxRecDepth 20000 in
theorem kX11_sourceFunction {x0 : Nat} {x1 : Int32} {σ σ0 : js_S} {r0 : Int32} (t0 : ob_ nn 11 x0) (h : fX11_sourceFunction fu x0 x1 σ = some (r0, σ0)) : js_M l D B g nn yX11_sourceFunction cX11_sourceFunction 2 (some .int) 7 [.ref (B + x0), .int x1] σ (js_QI D B g nn r0 σ0) := by
  refine js_enter (by decide) (Nat.le_of_ble_eq_true rfl) ?_
  intro p e s m args below meth c C hr hk ls hl hT
  have hl : lv_has ls 2 [(0, .ref (B + x0)), (1, .int x1)] := hl
  obtain ⟨hx, hb, hml, hown, ht, hK, hNw⟩ := id C
  obtain ⟨H, eH⟩ : ∃ H, H = s.heap := ⟨_, rfl⟩
  obtain ⟨locs, eL⟩ : ∃ z : List Loc, z = [] := ⟨_, rfl⟩
  rw [← eH, ← eL]
  rw [← eH, ← eL] at hT
  clear eH eL
  unfold fX11_sourceFunction at h
  refine lv_aload_n hx hb dX11_sourceFunction_0 rfl (lv_at hl 0 rfl) ?_
  refine lv_iload_n hx hb dX11_sourceFunction_1 rfl (lv_at hl 1 rfl) ?_
  obtain ⟨r1, σ1, hc1, h⟩ := bd_some h
  refine js_backI hT (js_runV C hT cfX11 t0 rfl mfX11_hasPair lk_X11_148 (kX11_hasPair t0 hc1) ⟨Nat.le_of_ble_eq_true rfl, Nat.le_of_ble_eq_true rfl⟩ rfl hl.1 rfl (Nat.le_of_ble_eq_true rfl) ⟨Nat.zero_le _, Nat.zero_le _⟩ dX11_sourceFunction_2) (fun H locs hT => ?_)
  refine lv_if_eq (tgt := 22) hx hb dX11_sourceFunction_5 (by decide) (fun c2 => ?_) (fun c2 => ?_)
  · rw [if_pos c2] at h
    refine lv_iconst (v := (-1)) hx hb dX11_sourceFunction_22 (by decide) ?_
    obtain ⟨rfl, rfl⟩ := js_rt h
    exact js_iret C hT hr hk dX11_sourceFunction_23
  · rw [if_neg c2] at h
    refine lv_aload_n hx hb dX11_sourceFunction_8 rfl (lv_at hl 0 rfl) ?_
    obtain ⟨r3, σ3, hc3, h⟩ := bd_some h
    refine js_backR hT (js_runV C hT cfX11 t0 rfl mfX11_currentPairs lk_X11_141 (kX11_currentPairs t0 hc3) ⟨Nat.le_of_ble_eq_true rfl, Nat.le_of_ble_eq_true rfl⟩ rfl hl.1 rfl (Nat.le_of_ble_eq_true rfl) ⟨Nat.zero_le _, Nat.zero_le _⟩ dX11_sourceFunction_9) (fun H locs hT t3a => ?_)
    refine lv_iload_n hx hb dX11_sourceFunction_12 rfl (lv_at hl 1 rfl) ?_
    obtain ⟨r4, σ4, hc4, h⟩ := bd_some h
    refine js_backI hT (js_runV C hT cfX5 t3a rfl mfX5_graph lk_X11_156 (kX5_graph t3a hc4) ⟨Nat.le_of_ble_eq_true rfl, Nat.le_of_ble_eq_true rfl⟩ rfl hl.1 rfl (Nat.le_of_ble_eq_true rfl) ⟨Nat.zero_le _, Nat.zero_le _⟩ dX11_sourceFunction_13) (fun H locs hT => ?_)
    obtain ⟨r5, σ5, hc5, h⟩ := bd_some h
    refine js_backI hT (js_runS C hT mfX11_sourceOf lk_X11_159 (kX11_sourceOf  hc5) ⟨Nat.le_of_ble_eq_true rfl, Nat.le_of_ble_eq_true rfl⟩ rfl hl.1 rfl (Nat.le_of_ble_eq_true rfl) ⟨Nat.zero_le _, Nat.zero_le _⟩ dX11_sourceFunction_16) (fun H locs hT => ?_)
    refine lv_goto (tgt := 23) hx hb dX11_sourceFunction_19 (by decide) ?_
    obtain ⟨rfl, rfl⟩ := js_rt h
    exact js_iret C hT hr hk dX11_sourceFunction_23
set_option maxHeartbeats 4000000 in
set_option maxRecDepth 20000 in
theorem kX11_targetFunction {x0 : Nat} {x1 : Int32} {σ σ0 : js_S} {r0 : Int32} (t0 : ob_ nn 11 x0) (h : fX11_targetFunction fu x0 x1 σ = some (r0, σ0)) : js_M l D B g nn yX11_targetFunction cX11_targetFunction 2 (some .int) 7 [.ref (B + x0), .int x1] σ (js_QI D B g nn r0 σ0) := by
  refine js_enter (by decide) (Nat.le_of_ble_eq_true rfl) ?_
  intro p e s m args below meth c C hr hk ls hl hT
  have hl : lv_has ls 2 [(0, .ref (B + x0)), (1, .int x1)] := hl
  obtain ⟨hx, hb, hml, hown, ht, hK, hNw⟩ := id C
  obtain ⟨H, eH⟩ : ∃ H, H = s.heap := ⟨_, rfl⟩
  obtain ⟨locs, eL⟩ : ∃ z : List Loc, z = [] := ⟨_, rfl⟩
  rw [← eH, ← eL]
  rw [← eH, ← eL] at hT
  clear eH eL
  unfold fX11_targetFunction at h
  refine lv_aload_n hx hb dX11_targetFunction_0 rfl (lv_at hl 0 rfl) ?_
  refine lv_iload_n hx hb dX11_targetFunction_1 rfl (lv_at hl 1 rfl) ?_
  obtain ⟨r1, σ1, hc1, h⟩ := bd_some h
  refine js_backI hT (js_runV C hT cfX11 t0 rfl mfX11_hasPair lk_X11_148 (kX11_hasPair t0 hc1) ⟨Nat.le_of_ble_eq_true rfl, Nat.le_of_ble_eq_true rfl⟩ rfl hl.1 rfl (Nat.le_of_ble_eq_true rfl) ⟨Nat.zero_le _, Nat.zero_le _⟩ dX11_targetFunction_2) (fun H locs hT => ?_)
  refine lv_if_eq (tgt := 22) hx hb dX11_targetFunction_5 (by decide) (fun c2 => ?_) (fun c2 => ?_)
  · rw [if_pos c2] at h
    refine lv_iconst (v := (-1)) hx hb dX11_targetFunction_22 (by decide) ?_
    obtain ⟨rfl, rfl⟩ := js_rt h
    exact js_iret C hT hr hk dX11_targetFunction_23
  · rw [if_neg c2] at h
    refine lv_aload_n hx hb dX11_targetFunction_8 rfl (lv_at hl 0 rfl) ?_
    obtain ⟨r3, σ3, hc3, h⟩ := bd_some h
    refine js_backR hT (js_runV C hT cfX11 t0 rfl mfX11_currentPairs lk_X11_141 (kX11_currentPairs t0 hc3) ⟨Nat.le_of_ble_eq_true rfl, Nat.le_of_ble_eq_true rfl⟩ rfl hl.1 rfl (Nat.le_of_ble_eq_true rfl) ⟨Nat.zero_le _, Nat.zero_le _⟩ dX11_targetFunction_9) (fun H locs hT t3a => ?_)
    refine lv_iload_n hx hb dX11_targetFunction_12 rfl (lv_at hl 1 rfl) ?_
    obtain ⟨r4, σ4, hc4, h⟩ := bd_some h
    refine js_backI hT (js_runV C hT cfX5 t3a rfl mfX5_graph lk_X11_156 (kX5_graph t3a hc4) ⟨Nat.le_of_ble_eq_true rfl, Nat.le_of_ble_eq_true rfl⟩ rfl hl.1 rfl (Nat.le_of_ble_eq_true rfl) ⟨Nat.zero_le _, Nat.zero_le _⟩ dX11_targetFunction_13) (fun H locs hT => ?_)
    obtain ⟨r5, σ5, hc5, h⟩ := bd_some h
    refine js_backI hT (js_runS C hT mfX11_targetOf lk_X11_162 (kX11_targetOf  hc5) ⟨Nat.le_of_ble_eq_true rfl, Nat.le_of_ble_eq_true rfl⟩ rfl hl.1 rfl (Nat.le_of_ble_eq_true rfl) ⟨Nat.zero_le _, Nat.zero_le _⟩ dX11_targetFunction_16) (fun H locs hT => ?_)
    refine lv_goto (tgt := 23) hx hb dX11_targetFunction_19 (by decide) ?_
    obtain ⟨rfl, rfl⟩ := js_rt h
    exact js_iret C hT hr hk dX11_targetFunction_23
set_option maxHeartbeats 4000000 in
set_option maxRecDepth 20000 in
theorem kX11_termSize {x0 : Nat} {x1 : Int32} {σ σ0 : js_S} {r0 : Int32} (t0 : ob_ nn 11 x0) (h : fX11_termSize fu x0 x1 σ = some (r0, σ0)) : js_M l D B g nn yX11_termSize cX11_termSize 2 (some .int) 1 [.ref (B + x0), .int x1] σ (js_QI D B g nn r0 σ0) := by
  refine js_enter (by decide) (Nat.le_of_ble_eq_true rfl) ?_
  intro p e s m args below meth c C hr hk ls hl hT
  have hl : lv_has ls 2 [(0, .ref (B + x0)), (1, .int x1)] := hl
  obtain ⟨hx, hb, hml, hown, ht, hK, hNw⟩ := id C
  obtain ⟨H, eH⟩ : ∃ H, H = s.heap := ⟨_, rfl⟩
  obtain ⟨locs, eL⟩ : ∃ z : List Loc, z = [] := ⟨_, rfl⟩
  rw [← eH, ← eL]
  rw [← eH, ← eL] at hT
  clear eH eL
  unfold fX11_termSize at h
  refine lv_iload_n hx hb dX11_termSize_0 rfl (lv_at hl 1 rfl) ?_
  obtain ⟨r1, σ1, hc1, h⟩ := bd_some h
  refine js_backI hT (js_runS C hT mfX11_hasRegister lk_X11_226 (kX11_hasRegister  hc1) ⟨Nat.le_of_ble_eq_true rfl, Nat.le_of_ble_eq_true rfl⟩ rfl hl.1 rfl (Nat.le_of_ble_eq_true rfl) ⟨Nat.zero_le _, Nat.zero_le _⟩ dX11_termSize_1) (fun H locs hT => ?_)
  refine lv_if_eq (tgt := 21) hx hb dX11_termSize_4 (by decide) (fun c2 => ?_) (fun c2 => ?_)
  · rw [if_pos c2] at h
    refine lv_iconst (v := (-1)) hx hb dX11_termSize_21 (by decide) ?_
    obtain ⟨rfl, rfl⟩ := js_rt h
    exact js_iret C hT hr hk dX11_termSize_22
  · rw [if_neg c2] at h
    refine lv_aload_n hx hb dX11_termSize_7 rfl (lv_at hl 0 rfl) ?_
    refine js_gR C hT cfX11 t0 0 (by decide) (q := 6) rfl (by decide) lk_X11_12 dX11_termSize_8 (fun t3a => ?_)
    refine lv_iload_n hx hb dX11_termSize_11 rfl (lv_at hl 1 rfl) ?_
    obtain ⟨r4, σ4, hc4, h⟩ := bd_some h
    refine js_backR hT (js_runV C hT cfX6 t3a rfl mfX6_register lk_X11_237 (kX6_register t3a hc4) ⟨Nat.le_of_ble_eq_true rfl, Nat.le_of_ble_eq_true rfl⟩ rfl hl.1 rfl (Nat.le_of_ble_eq_true rfl) ⟨Nat.zero_le _, Nat.zero_le _⟩ dX11_termSize_12) (fun H locs hT t4a => ?_)
    refine js_gIN C hT cfX9 t4a 1 (by decide) rfl lk_X11_138 dX11_termSize_15 ?_
    refine lv_goto (tgt := 22) hx hb dX11_termSize_18 (by decide) ?_
    obtain ⟨rfl, rfl⟩ := js_rt h
    exact js_iret C hT hr hk dX11_termSize_22
set_option maxHeartbeats 4000000 in
set_option maxRecDepth 20000 in
theorem kX11_terminatesBySizeChange {x0 : Nat} {σ σ0 : js_S} {r0 : Int32} (t0 : ob_ nn 11 x0) (h : fX11_terminatesBySizeChange fu x0 σ = some (r0, σ0)) : js_M l D B g nn yX11_terminatesBySizeChange cX11_terminatesBySizeChange 2 (some .int) 7 [.ref (B + x0)] σ (js_QI D B g nn r0 σ0) := by
  refine js_enter (by decide) (Nat.le_of_ble_eq_true rfl) ?_
  intro p e s m args below meth c C hr hk ls hl hT
  have hl : lv_has ls 2 [(0, .ref (B + x0))] := hl
  obtain ⟨hx, hb, hml, hown, ht, hK, hNw⟩ := id C
  obtain ⟨H, eH⟩ : ∃ H, H = s.heap := ⟨_, rfl⟩
  obtain ⟨locs, eL⟩ : ∃ z : List Loc, z = [] := ⟨_, rfl⟩
  rw [← eH, ← eL]
  rw [← eH, ← eL] at hT
  clear eH eL
  unfold fX11_terminatesBySizeChange at h
  refine lv_aload_n hx hb dX11_terminatesBySizeChange_0 rfl (lv_at hl 0 rfl) ?_
  obtain ⟨r1, σ1, hc1, h⟩ := bd_some h
  refine js_backR hT (js_runV C hT cfX11 t0 rfl mfX11_currentClosure lk_X11_191 (kX11_currentClosure t0 hc1) ⟨Nat.le_of_ble_eq_true rfl, Nat.le_of_ble_eq_true rfl⟩ rfl hl.1 rfl (Nat.le_of_ble_eq_true rfl) ⟨Nat.zero_le _, Nat.zero_le _⟩ dX11_terminatesBySizeChange_1) (fun H locs hT t1a => ?_)
  refine lv_astore_n (lv' := [(1, .ref (B + r1)), (0, .ref (B + x0))]) hx hb dX11_terminatesBySizeChange_4 rfl hl (by decide) rfl (fun ls hl => ?_)
  refine lv_aload_n hx hb dX11_terminatesBySizeChange_5 rfl (lv_at hl 0 rfl) ?_
  refine js_gIN C hT cfX0 t1a 5 (by decide) rfl lk_X11_195 dX11_terminatesBySizeChange_6 ?_
  refine lv_if_eq (tgt := 15) hx hb dX11_terminatesBySizeChange_9 (by decide) (fun c2 => ?_) (fun c2 => ?_)
  · rw [if_pos c2] at h
    refine lv_aload_n hx hb dX11_terminatesBySizeChange_15 rfl (lv_at hl 0 rfl) ?_
    refine js_gIN C hT cfX0 t1a 3 (by decide) rfl lk_X11_200 dX11_terminatesBySizeChange_16 ?_
    refine lv_aload_n hx hb dX11_terminatesBySizeChange_19 rfl (lv_at hl 0 rfl) ?_
    refine js_gIN C hT cfX0 t1a 4 (by decide) rfl lk_X11_203 dX11_terminatesBySizeChange_20 ?_
    refine lv_icmp_ne (tgt := 30) hx hb dX11_terminatesBySizeChange_23 (by decide) (fun c3 => ?_) (fun c3 => ?_)
    · rw [if_neg c3] at h
      refine lv_iconst (v := 0) hx hb dX11_terminatesBySizeChange_30 (by decide) ?_
      obtain ⟨rfl, rfl⟩ := js_rt h
      exact js_iret C hT hr hk dX11_terminatesBySizeChange_31
    · rw [if_pos c3] at h
      refine lv_iconst (v := 1) hx hb dX11_terminatesBySizeChange_26 (by decide) ?_
      refine lv_goto (tgt := 31) hx hb dX11_terminatesBySizeChange_27 (by decide) ?_
      obtain ⟨rfl, rfl⟩ := js_rt h
      exact js_iret C hT hr hk dX11_terminatesBySizeChange_31
  · rw [if_neg c2] at h
    refine lv_bipush (v := (-8)) hx hb dX11_terminatesBySizeChange_12 (by decide) ?_
    obtain ⟨rfl, rfl⟩ := js_rt h
    exact js_iret C hT hr hk dX11_terminatesBySizeChange_14
set_option maxHeartbeats 4000000 in
set_option maxRecDepth 20000 in
theorem kX11_terminatesBySubtermCriterion {x0 : Nat} {σ σ0 : js_S} {r0 : Int32} (t0 : ob_ nn 11 x0) (h : fX11_terminatesBySubtermCriterion fu x0 σ = some (r0, σ0)) : js_M l D B g nn yX11_terminatesBySubtermCriterion cX11_terminatesBySubtermCriterion 1 (some .int) 7 [.ref (B + x0)] σ (js_QI D B g nn r0 σ0) := by
  refine js_enter (by decide) (Nat.le_of_ble_eq_true rfl) ?_
  intro p e s m args below meth c C hr hk ls hl hT
  have hl : lv_has ls 1 [(0, .ref (B + x0))] := hl
  obtain ⟨hx, hb, hml, hown, ht, hK, hNw⟩ := id C
  obtain ⟨H, eH⟩ : ∃ H, H = s.heap := ⟨_, rfl⟩
  obtain ⟨locs, eL⟩ : ∃ z : List Loc, z = [] := ⟨_, rfl⟩
  rw [← eH, ← eL]
  rw [← eH, ← eL] at hT
  clear eH eL
  unfold fX11_terminatesBySubtermCriterion at h
  refine lv_aload_n hx hb dX11_terminatesBySubtermCriterion_0 rfl (lv_at hl 0 rfl) ?_
  obtain ⟨r1, σ1, hc1, h⟩ := bd_some h
  refine js_backR hT (js_runV C hT cfX11 t0 rfl mfX11_currentElimination lk_X11_213 (kX11_currentElimination t0 hc1) ⟨Nat.le_of_ble_eq_true rfl, Nat.le_of_ble_eq_true rfl⟩ rfl hl.1 rfl (Nat.le_of_ble_eq_true rfl) ⟨Nat.zero_le _, Nat.zero_le _⟩ dX11_terminatesBySubtermCriterion_1) (fun H locs hT t1a => ?_)
  refine js_gRN C hT cfX2 t1a 0 (by decide) (q := 1) rfl (by decide) lk_X11_220 dX11_terminatesBySubtermCriterion_4 (fun t2a => ?_)
  refine js_gIN C hT cfX1 t2a 3 (by decide) rfl lk_X11_183 dX11_terminatesBySubtermCriterion_7 ?_
  refine lv_if_ne (tgt := 17) hx hb dX11_terminatesBySubtermCriterion_10 (by decide) (fun c3 => ?_) (fun c3 => ?_)
  · rw [if_neg c3] at h
    refine lv_iconst (v := 0) hx hb dX11_terminatesBySubtermCriterion_17 (by decide) ?_
    obtain ⟨rfl, rfl⟩ := js_rt h
    exact js_iret C hT hr hk dX11_terminatesBySubtermCriterion_18
  · rw [if_pos c3] at h
    refine lv_iconst (v := 1) hx hb dX11_terminatesBySubtermCriterion_13 (by decide) ?_
    refine lv_goto (tgt := 18) hx hb dX11_terminatesBySubtermCriterion_14 (by decide) ?_
    obtain ⟨rfl, rfl⟩ := js_rt h
    exact js_iret C hT hr hk dX11_terminatesBySubtermCriterion_18
set_option maxHeartbeats 4000000 in
set_option maxRecDepth 20000 in
theorem kX11_textLength {x0 : Nat} {σ σ0 : js_S} {r0 : Int32} (t0 : ob_ nn 11 x0) (h : fX11_textLength fu x0 σ = some (r0, σ0)) : js_M l D B g nn yX11_textLength cX11_textLength 1 (some .int) 0 [.ref (B + x0)] σ (js_QI D B g nn r0 σ0) := by
  refine js_enter (by decide) (Nat.le_of_ble_eq_true rfl) ?_
  intro p e s m args below meth c C hr hk ls hl hT
  have hl : lv_has ls 1 [(0, .ref (B + x0))] := hl
  obtain ⟨hx, hb, hml, hown, ht, hK, hNw⟩ := id C
  obtain ⟨H, eH⟩ : ∃ H, H = s.heap := ⟨_, rfl⟩
  obtain ⟨locs, eL⟩ : ∃ z : List Loc, z = [] := ⟨_, rfl⟩
  rw [← eH, ← eL]
  rw [← eH, ← eL] at hT
  clear eH eL
  unfold fX11_textLength at h
  refine lv_aload_n hx hb dX11_textLength_0 rfl (lv_at hl 0 rfl) ?_
  refine js_gR C hT cfX11 t0 3 (by decide) (q := 10) rfl (by decide) lk_X11_24 dX11_textLength_1 (fun t1a => ?_)
  refine js_gIN C hT cfX10 t1a 2 (by decide) rfl lk_X11_244 dX11_textLength_4 ?_
  obtain ⟨rfl, rfl⟩ := js_rt h
  exact js_iret C hT hr hk dX11_textLength_7
set_option maxHeartbeats 4000000 in
set_option maxRecDepth 20000 in
theorem kX12_next {x0 : Nat} {σ σ0 : js_S} {r0 : Int32} (t0 : ob_ nn 12 x0) (h : fX12_next fu x0 σ = some (r0, σ0)) : js_M l D B g nn yX12_next cX12_next 1 (some .int) 0 [.ref (B + x0)] σ (js_QI D B g nn r0 σ0) := by
  refine js_enter (by decide) (Nat.le_of_ble_eq_true rfl) ?_
  intro p e s m args below meth c C hr hk ls hl hT
  have hl : lv_has ls 1 [(0, .ref (B + x0))] := hl
  obtain ⟨hx, hb, hml, hown, ht, hK, hNw⟩ := id C
  obtain ⟨H, eH⟩ : ∃ H, H = s.heap := ⟨_, rfl⟩
  obtain ⟨locs, eL⟩ : ∃ z : List Loc, z = [] := ⟨_, rfl⟩
  rw [← eH, ← eL]
  rw [← eH, ← eL] at hT
  clear eH eL
  unfold fX12_next at h
  refine lv_aload_n hx hb dX12_next_0 rfl (lv_at hl 0 rfl) ?_
  refine js_gI C hT cfX12 t0 16 (by decide) rfl lk_X12_148 dX12_next_1 ?_
  refine lv_aload_n hx hb dX12_next_4 rfl (lv_at hl 0 rfl) ?_
  refine js_gI C hT cfX12 t0 15 (by decide) rfl lk_X12_151 dX12_next_5 ?_
  refine lv_icmp_ge (tgt := 23) hx hb dX12_next_8 (by decide) (fun c1 => ?_) (fun c1 => ?_)
  · rw [if_pos c1] at h
    refine lv_iconst (v := (-1)) hx hb dX12_next_23 (by decide) ?_
    obtain ⟨rfl, rfl⟩ := js_rt h
    exact js_iret C hT hr hk dX12_next_24
  · rw [if_neg c1] at h
    refine lv_aload_n hx hb dX12_next_11 rfl (lv_at hl 0 rfl) ?_
    refine js_gR C hT cfX12 t0 12 (by decide) (q := 20) rfl (by decide) lk_X12_37 dX12_next_12 (fun t2a => ?_)
    refine lv_aload_n hx hb dX12_next_15 rfl (lv_at hl 0 rfl) ?_
    refine js_gI C hT cfX12 t0 16 (by decide) rfl lk_X12_148 dX12_next_16 ?_
    obtain ⟨g3, h⟩ := gd_some _ h
    refine js_iald C hT t2a g3 dX12_next_19 ?_
    refine lv_goto (tgt := 24) hx hb dX12_next_20 (by decide) ?_
    obtain ⟨rfl, rfl⟩ := js_rt h
    exact js_iret C hT hr hk dX12_next_24
set_option maxHeartbeats 4000000 in
set_option maxRecDepth 20000 in
theorem kX12_accepts {x0 : Nat} {x1 : Int32} {σ σ0 : js_S} {r0 : Int32} (t0 : ob_ nn 12 x0) (h : fX12_accepts fu x0 x1 σ = some (r0, σ0)) : js_M l D B g nn yX12_accepts cX12_accepts 2 (some .boolean) 1 [.ref (B + x0), .int x1] σ (js_QI D B g nn r0 σ0) := by
  refine js_enter (by decide) (Nat.le_of_ble_eq_true rfl) ?_
  intro p e s m args below meth c C hr hk ls hl hT
  have hl : lv_has ls 2 [(0, .ref (B + x0)), (1, .int x1)] := hl
  obtain ⟨hx, hb, hml, hown, ht, hK, hNw⟩ := id C
  obtain ⟨H, eH⟩ : ∃ H, H = s.heap := ⟨_, rfl⟩
  obtain ⟨locs, eL⟩ : ∃ z : List Loc, z = [] := ⟨_, rfl⟩
  rw [← eH, ← eL]
  rw [← eH, ← eL] at hT
  clear eH eL
  unfold fX12_accepts at h
  refine lv_aload_n hx hb dX12_accepts_0 rfl (lv_at hl 0 rfl) ?_
  obtain ⟨r1, σ1, hc1, h⟩ := bd_some h
  refine js_backI hT (js_runV C hT cfX12 t0 rfl mfX12_next lk_X12_154 (kX12_next t0 hc1) ⟨Nat.le_of_ble_eq_true rfl, Nat.le_of_ble_eq_true rfl⟩ rfl hl.1 rfl (Nat.le_of_ble_eq_true rfl) ⟨Nat.zero_le _, Nat.zero_le _⟩ dX12_accepts_1) (fun H locs hT => ?_)
  refine lv_iload_n hx hb dX12_accepts_4 rfl (lv_at hl 1 rfl) ?_
  refine lv_icmp_eq (tgt := 10) hx hb dX12_accepts_5 (by decide) (fun c2 => ?_) (fun c2 => ?_)
  · rw [if_pos c2] at h
    refine lv_aload_n hx hb dX12_accepts_10 rfl (lv_at hl 0 rfl) ?_
    refine lv_dup hx hb dX12_accepts_11 rfl ?_
    refine js_gI C hT cfX12 t0 16 (by decide) rfl lk_X12_148 dX12_accepts_12 ?_
    refine lv_iconst (v := 1) hx hb dX12_accepts_15 (by decide) ?_
    refine lv_iadd hx hb dX12_accepts_16 ?_
    obtain ⟨σ3, e3, h⟩ := lt_some h
    refine js_pI C hT cfX12 t0 16 (by decide) rfl rfl rfl rfl lk_X12_148 dX12_accepts_17 (fun H locs hT => ?_)
    rw [e3] at hT
    refine lv_iconst (v := 1) hx hb dX12_accepts_20 (by decide) ?_
    obtain ⟨rfl, rfl⟩ := js_rt h
    exact js_zret C hT hr hk rfl dX12_accepts_21
  · rw [if_neg c2] at h
    refine lv_iconst (v := 0) hx hb dX12_accepts_8 (by decide) ?_
    obtain ⟨rfl, rfl⟩ := js_rt h
    exact js_zret C hT hr hk rfl dX12_accepts_9
set_option maxHeartbeats 4000000 in
set_option maxRecDepth 20000 in
theorem kX12_addGraph {x0 : Nat} {x1 : Int32} {σ σ0 : js_S} {r0 : Unit} (t0 : ob_ nn 12 x0) (h : fX12_addGraph fu x0 x1 σ = some (r0, σ0)) : js_M l D B g nn yX12_addGraph cX12_addGraph 2 none 0 [.ref (B + x0), .int x1] σ (js_QV D B g nn σ0) := by
  refine js_enter (by decide) (Nat.le_of_ble_eq_true rfl) ?_
  intro p e s m args below meth c C hr hk ls hl hT
  have hl : lv_has ls 2 [(0, .ref (B + x0)), (1, .int x1)] := hl
  obtain ⟨hx, hb, hml, hown, ht, hK, hNw⟩ := id C
  obtain ⟨H, eH⟩ : ∃ H, H = s.heap := ⟨_, rfl⟩
  obtain ⟨locs, eL⟩ : ∃ z : List Loc, z = [] := ⟨_, rfl⟩
  rw [← eH, ← eL]
  rw [← eH, ← eL] at hT
  clear eH eL
  unfold fX12_addGraph at h
  refine lv_iload_n hx hb dX12_addGraph_0 rfl (lv_at hl 1 rfl) ?_
  refine lv_if_lt (tgt := 50) hx hb dX12_addGraph_1 (by decide) (fun c1 => ?_) (fun c1 => ?_)
  · rw [if_pos c1] at h
    obtain ⟨rfl, rfl⟩ := js_rt h
    exact js_vret C hT hr hk dX12_addGraph_50
  · rw [if_neg c1] at h
    refine lv_aload_n hx hb dX12_addGraph_4 rfl (lv_at hl 0 rfl) ?_
    refine js_gI C hT cfX12 t0 29 (by decide) rfl lk_X12_250 dX12_addGraph_5 ?_
    refine lv_sipush (v := 400) hx hb dX12_addGraph_8 (by decide) ?_
    refine lv_icmp_gt (tgt := 50) hx hb dX12_addGraph_11 (by decide) (fun c2 => ?_) (fun c2 => ?_)
    · rw [if_pos c2] at h
      obtain ⟨rfl, rfl⟩ := js_rt h
      exact js_vret C hT hr hk dX12_addGraph_50
    · rw [if_neg c2] at h
      refine lv_aload_n hx hb dX12_addGraph_14 rfl (lv_at hl 0 rfl) ?_
      refine js_gR C hT cfX12 t0 28 (by decide) (q := 22) rfl (by decide) lk_X12_76 dX12_addGraph_15 (fun t3a => ?_)
      refine lv_iload_n hx hb dX12_addGraph_18 rfl (lv_at hl 1 rfl) ?_
      obtain ⟨g4, h⟩ := gd_some _ h
      refine js_zald C hT t3a g4 dX12_addGraph_19 ?_
      refine lv_if_ne (tgt := 50) hx hb dX12_addGraph_20 (by decide) (fun c5 => ?_) (fun c5 => ?_)
      · rw [if_neg c5] at h
        obtain ⟨rfl, rfl⟩ := js_rt h
        exact js_vret C hT hr hk dX12_addGraph_50
      · rw [if_pos c5] at h
        refine lv_aload_n hx hb dX12_addGraph_23 rfl (lv_at hl 0 rfl) ?_
        refine js_gR C hT cfX12 t0 28 (by decide) (q := 22) rfl (by decide) lk_X12_76 dX12_addGraph_24 (fun t6a => ?_)
        refine lv_iload_n hx hb dX12_addGraph_27 rfl (lv_at hl 1 rfl) ?_
        refine lv_iconst (v := 1) hx hb dX12_addGraph_28 (by decide) ?_
        obtain ⟨g7, h⟩ := gd_some _ h
        obtain ⟨σ7, e7, h⟩ := lt_some h
        refine js_zast C hT t6a g7 dX12_addGraph_29 (fun H locs hT => ?_)
        rw [e7] at hT
        refine lv_aload_n hx hb dX12_addGraph_30 rfl (lv_at hl 0 rfl) ?_
        refine js_gR C hT cfX12 t0 25 (by decide) (q := 20) rfl (by decide) lk_X12_66 dX12_addGraph_31 (fun t8a => ?_)
        refine lv_aload_n hx hb dX12_addGraph_34 rfl (lv_at hl 0 rfl) ?_
        refine js_gI C hT cfX12 t0 29 (by decide) rfl lk_X12_250 dX12_addGraph_35 ?_
        refine lv_iload_n hx hb dX12_addGraph_38 rfl (lv_at hl 1 rfl) ?_
        obtain ⟨g9, h⟩ := gd_some _ h
        obtain ⟨σ9, e9, h⟩ := lt_some h
        refine js_iast C hT t8a g9 dX12_addGraph_39 (fun H locs hT => ?_)
        rw [e9] at hT
        refine lv_aload_n hx hb dX12_addGraph_40 rfl (lv_at hl 0 rfl) ?_
        refine lv_dup hx hb dX12_addGraph_41 rfl ?_
        refine js_gI C hT cfX12 t0 29 (by decide) rfl lk_X12_250 dX12_addGraph_42 ?_
        refine lv_iconst (v := 1) hx hb dX12_addGraph_45 (by decide) ?_
        refine lv_iadd hx hb dX12_addGraph_46 ?_
        obtain ⟨σ10, e10, h⟩ := lt_some h
        refine js_pI C hT cfX12 t0 29 (by decide) rfl rfl rfl rfl lk_X12_250 dX12_addGraph_47 (fun H locs hT => ?_)
        rw [e10] at hT
        obtain ⟨rfl, rfl⟩ := js_rt h
        exact js_vret C hT hr hk dX12_addGraph_50
set_option maxHeartbeats 4000000 in
set_option maxRecDepth 20000 in
theorem wX12_copy_3b (C : js_C D g p m c cX12_copy 6 s args RX12) (hr : meth.sig.returnType = none) (hk : meth.locks = false) (rc3 : Nat → Int32 → Nat → Int32 → Int32 → Int32 → js_S → Option (Unit × js_S)) (hrc3 : ∀ (x0 : Nat) (x1 : Int32) (x2 : Nat) (x3 : Int32) (x4 : Int32) (x5 : Int32) (σ : js_S) (r0 : Unit) (σ0 : js_S), rc3 x0 x1 x2 x3 x4 x5 σ = some (r0, σ0) → ob_ nn 20 x0 → ob_ nn 20 x2 → js_at p l e 0 s m args below meth c D B g nn 3 6 [(0, .ref (B + x0)), (1, .int x1), (2, .ref (B + x2)), (3, .int x3), (4, .int x4), (5, .int x5)] [] σ (js_QV D B g nn σ0)) : ∀ (x0 : Nat) (x1 : Int32) (x2 : Nat) (x3 : Int32) (x4 : Int32) (x5 : Int32) (σ : js_S) (r0 : Unit) (σ0 : js_S), fX12_copy_3b fu rc3 x0 x1 x2 x3 x4 x5 σ = some (r0, σ0) → ob_ nn 20 x0 → ob_ nn 20 x2 → js_at p l e 0 s m args below meth c D B g nn 3 6 [(0, .ref (B + x0)), (1, .int x1), (2, .ref (B + x2)), (3, .int x3), (4, .int x4), (5, .int x5)] [] σ (js_QV D B g nn σ0) := by
  obtain ⟨hx, hb, hml, hown, ht, hK, hNw⟩ := id C
  intro x0 x1 x2 x3 x4 x5 σ r0 σ0 h t0 t2 H locs hT ls hl
  unfold fX12_copy_3b at h
  refine lv_iload hx hb dX12_copy_3 (lv_at hl 5 rfl) ?_
  refine lv_iload hx hb dX12_copy_5 (lv_at hl 4 rfl) ?_
  refine lv_icmp_ge (tgt := 28) hx hb dX12_copy_7 (by decide) (fun c1 => ?_) (fun c1 => ?_)
  · rw [if_pos c1] at h
    obtain ⟨rfl, rfl⟩ := js_rt h
    exact js_vret C hT hr hk dX12_copy_28
  · rw [if_neg c1] at h
    refine lv_aload_n hx hb dX12_copy_10 rfl (lv_at hl 2 rfl) ?_
    refine lv_iload_n hx hb dX12_copy_11 rfl (lv_at hl 3 rfl) ?_
    refine lv_iload hx hb dX12_copy_12 (lv_at hl 5 rfl) ?_
    refine lv_iadd hx hb dX12_copy_14 ?_
    refine lv_aload_n hx hb dX12_copy_15 rfl (lv_at hl 0 rfl) ?_
    refine lv_iload_n hx hb dX12_copy_16 rfl (lv_at hl 1 rfl) ?_
    refine lv_iload hx hb dX12_copy_17 (lv_at hl 5 rfl) ?_
    refine lv_iadd hx hb dX12_copy_19 ?_
    obtain ⟨g2, h⟩ := gd_some _ h
    refine js_iald C hT t0 g2 dX12_copy_20 ?_
    obtain ⟨g3, h⟩ := gd_some _ h
    obtain ⟨σ3, e3, h⟩ := lt_some h
    refine js_iast C hT t2 g3 dX12_copy_21 (fun H locs hT => ?_)
    rw [e3] at hT
    refine lv_iinc (v := x5 + 1) (lv' := [(5, .int (x5 + 1)), (0, .ref (B + x0)), (1, .int x1), (2, .ref (B + x2)), (3, .int x3), (4, .int x4)]) hx hb dX12_copy_22 hl (k := 5) rfl rfl (by decide) rfl (fun ls hl => ?_)
    refine lv_goto (tgt := 3) hx hb dX12_copy_25 (by decide) ?_
    exact hrc3 _ _ _ _ _ _ _ _ _ h t0 t2 H locs hT ls (lv_sub hl [1, 2, 3, 4, 5, 0] rfl)
set_option maxHeartbeats 4000000 in
set_option maxRecDepth 20000 in
theorem wX12_copy_3 (C : js_C D g p m c cX12_copy 6 s args RX12) (hr : meth.sig.returnType = none) (hk : meth.locks = false) : ∀ (k : Nat), ∀ (x0 : Nat) (x1 : Int32) (x2 : Nat) (x3 : Int32) (x4 : Int32) (x5 : Int32) (σ : js_S) (r0 : Unit) (σ0 : js_S), fX12_copy_3 fu k x0 x1 x2 x3 x4 x5 σ = some (r0, σ0) → ob_ nn 20 x0 → ob_ nn 20 x2 → js_at p l e 0 s m args below meth c D B g nn 3 6 [(0, .ref (B + x0)), (1, .int x1), (2, .ref (B + x2)), (3, .int x3), (4, .int x4), (5, .int x5)] [] σ (js_QV D B g nn σ0) := by
  intro k
  induction k with
  | zero =>
    intro x0 x1 x2 x3 x4 x5 σ r0 σ0 h
    cases h
  | succ k ih =>
    intro x0 x1 x2 x3 x4 x5 σ r0 σ0 h
    exact wX12_copy_3b C hr hk (fX12_copy_3 fu k) ih x0 x1 x2 x3 x4 x5 σ r0 σ0 h
set_option maxHeartbeats 4000000 in
set_option maxRecDepth 20000 in
theorem kX12_copy {x0 : Nat} {x1 : Int32} {x2 : Nat} {x3 : Int32} {x4 : Int32} {σ σ0 : js_S} {r0 : Unit} (t0 : ob_ nn 20 x0) (t2 : ob_ nn 20 x2) (h : fX12_copy fu x0 x1 x2 x3 x4 σ = some (r0, σ0)) : js_M l D B g nn yX12_copy cX12_copy 6 none 0 [.ref (B + x0), .int x1, .ref (B + x2), .int x3, .int x4] σ (js_QV D B g nn σ0) := by
  refine js_enter (by decide) (Nat.le_of_ble_eq_true rfl) ?_
  intro p e s m args below meth c C hr hk ls hl hT
  have hl : lv_has ls 6 [(0, .ref (B + x0)), (1, .int x1), (2, .ref (B + x2)), (3, .int x3), (4, .int x4)] := hl
  obtain ⟨hx, hb, hml, hown, ht, hK, hNw⟩ := id C
  obtain ⟨H, eH⟩ : ∃ H, H = s.heap := ⟨_, rfl⟩
  obtain ⟨locs, eL⟩ : ∃ z : List Loc, z = [] := ⟨_, rfl⟩
  rw [← eH, ← eL]
  rw [← eH, ← eL] at hT
  clear eH eL
  unfold fX12_copy at h
  refine lv_iconst (v := 0) hx hb dX12_copy_0 (by decide) ?_
  refine lv_istore (lv' := [(5, .int 0), (0, .ref (B + x0)), (1, .int x1), (2, .ref (B + x2)), (3, .int x3), (4, .int x4)]) hx hb dX12_copy_1 hl (by decide) rfl (fun ls hl => ?_)
  exact wX12_copy_3 C hr hk _ _ _ _ _ _ _ _ _ _ h t0 t2 H locs hT ls (lv_sub hl [1, 2, 3, 4, 5, 0] rfl)
set_option maxHeartbeats 4000000 in
set_option maxRecDepth 20000 in
theorem wX12_hasSymbol_24 (C : js_C D g p m c cX12_hasSymbol 4 s args RX12) (hr : meth.sig.returnType = (some .boolean)) (hk : meth.locks = false) (rc4 : Nat → Int32 → Int32 → Int32 → js_S → Option (Int32 × js_S)) (hrc4 : ∀ (x0 : Nat) (x1 : Int32) (x2 : Int32) (x3 : Int32) (σ : js_S) (r0 : Int32) (σ0 : js_S), rc4 x0 x1 x2 x3 σ = some (r0, σ0) → ob_ nn 20 x0 → js_at p l e 0 s m args below meth c D B g nn 4 4 [(0, .ref (B + x0)), (1, .int x1), (2, .int x2), (3, .int x3)] [] σ (js_QI D B g nn r0 σ0)) : ∀ (x0 : Nat) (x1 : Int32) (x3 : Int32) (y0 : Int32) (y1 : Int32) (σ : js_S) (r0 : Int32) (σ0 : js_S), fX12_hasSymbol_24 fu rc4 x0 x1 x3 y0 y1 σ = some (r0, σ0) → ob_ nn 20 x0 → js_at p l e 0 s m args below meth c D B g nn 24 4 [(0, .ref (B + x0)), (1, .int x1), (3, .int x3)] [.int y0, .int y1] σ (js_QI D B g nn r0 σ0) := by
  obtain ⟨hx, hb, hml, hown, ht, hK, hNw⟩ := id C
  intro x0 x1 x3 y0 y1 σ r0 σ0 h t0 H locs hT ls hl
  unfold fX12_hasSymbol_24 at h
  refine lv_ior hx hb dX12_hasSymbol_24 ?_
  refine lv_istore_n (lv' := [(2, .int (y1 ||| y0)), (0, .ref (B + x0)), (1, .int x1), (3, .int x3)]) hx hb dX12_hasSymbol_25 rfl hl (by decide) rfl (fun ls hl => ?_)
  refine lv_iinc (v := x3 + 1) (lv' := [(3, .int (x3 + 1)), (2, .int (y1 ||| y0)), (0, .ref (B + x0)), (1, .int x1)]) hx hb dX12_hasSymbol_26 hl (k := 3) rfl rfl (by decide) rfl (fun ls hl => ?_)
  refine lv_goto (tgt := 4) hx hb dX12_hasSymbol_29 (by decide) ?_
  exact hrc4 _ _ _ _ _ _ _ h t0 H locs hT ls (lv_sub hl [2, 3, 1, 0] rfl)
set_option maxHeartbeats 4000000 in
set_option maxRecDepth 20000 in
theorem wX12_hasSymbol_4b (C : js_C D g p m c cX12_hasSymbol 4 s args RX12) (hr : meth.sig.returnType = (some .boolean)) (hk : meth.locks = false) (rc4 : Nat → Int32 → Int32 → Int32 → js_S → Option (Int32 × js_S)) (hrc4 : ∀ (x0 : Nat) (x1 : Int32) (x2 : Int32) (x3 : Int32) (σ : js_S) (r0 : Int32) (σ0 : js_S), rc4 x0 x1 x2 x3 σ = some (r0, σ0) → ob_ nn 20 x0 → js_at p l e 0 s m args below meth c D B g nn 4 4 [(0, .ref (B + x0)), (1, .int x1), (2, .int x2), (3, .int x3)] [] σ (js_QI D B g nn r0 σ0)) : ∀ (x0 : Nat) (x1 : Int32) (x2 : Int32) (x3 : Int32) (σ : js_S) (r0 : Int32) (σ0 : js_S), fX12_hasSymbol_4b fu rc4 x0 x1 x2 x3 σ = some (r0, σ0) → ob_ nn 20 x0 → js_at p l e 0 s m args below meth c D B g nn 4 4 [(0, .ref (B + x0)), (1, .int x1), (2, .int x2), (3, .int x3)] [] σ (js_QI D B g nn r0 σ0) := by
  obtain ⟨hx, hb, hml, hown, ht, hK, hNw⟩ := id C
  intro x0 x1 x2 x3 σ r0 σ0 h t0 H locs hT ls hl
  unfold fX12_hasSymbol_4b at h
  refine lv_iload_n hx hb dX12_hasSymbol_4 rfl (lv_at hl 3 rfl) ?_
  refine lv_aload_n hx hb dX12_hasSymbol_5 rfl (lv_at hl 0 rfl) ?_
  refine lv_iconst (v := 0) hx hb dX12_hasSymbol_6 (by decide) ?_
  obtain ⟨g1, h⟩ := gd_some _ h
  refine js_iald C hT t0 g1 dX12_hasSymbol_7 ?_
  refine lv_icmp_gt (tgt := 32) hx hb dX12_hasSymbol_8 (by decide) (fun c2 => ?_) (fun c2 => ?_)
  · rw [if_pos c2] at h
    refine lv_iload_n hx hb dX12_hasSymbol_32 rfl (lv_at hl 2 rfl) ?_
    obtain ⟨g3, h⟩ := gd_some _ h
    obtain ⟨rfl, rfl⟩ := js_rt h
    exact js_zret C hT hr hk g3 dX12_hasSymbol_33
  · rw [if_neg c2] at h
    refine lv_iload_n hx hb dX12_hasSymbol_11 rfl (lv_at hl 2 rfl) ?_
    refine lv_aload_n hx hb dX12_hasSymbol_12 rfl (lv_at hl 0 rfl) ?_
    refine lv_iload_n hx hb dX12_hasSymbol_13 rfl (lv_at hl 3 rfl) ?_
    obtain ⟨g4, h⟩ := gd_some _ h
    refine js_iald C hT t0 g4 dX12_hasSymbol_14 ?_
    refine lv_iload_n hx hb dX12_hasSymbol_15 rfl (lv_at hl 1 rfl) ?_
    refine lv_icmp_ne (tgt := 23) hx hb dX12_hasSymbol_16 (by decide) (fun c5 => ?_) (fun c5 => ?_)
    · rw [if_neg c5] at h
      refine lv_iconst (v := 0) hx hb dX12_hasSymbol_23 (by decide) ?_
      exact wX12_hasSymbol_24 C hr hk rc4 hrc4 _ _ _ _ _ _ _ _ h t0 H locs hT ls (lv_sub hl [0, 1, 3] rfl)
    · rw [if_pos c5] at h
      refine lv_iconst (v := 1) hx hb dX12_hasSymbol_19 (by decide) ?_
      refine lv_goto (tgt := 24) hx hb dX12_hasSymbol_20 (by decide) ?_
      exact wX12_hasSymbol_24 C hr hk rc4 hrc4 _ _ _ _ _ _ _ _ h t0 H locs hT ls (lv_sub hl [0, 1, 3] rfl)
set_option maxHeartbeats 4000000 in
set_option maxRecDepth 20000 in
theorem wX12_hasSymbol_4 (C : js_C D g p m c cX12_hasSymbol 4 s args RX12) (hr : meth.sig.returnType = (some .boolean)) (hk : meth.locks = false) : ∀ (k : Nat), ∀ (x0 : Nat) (x1 : Int32) (x2 : Int32) (x3 : Int32) (σ : js_S) (r0 : Int32) (σ0 : js_S), fX12_hasSymbol_4 fu k x0 x1 x2 x3 σ = some (r0, σ0) → ob_ nn 20 x0 → js_at p l e 0 s m args below meth c D B g nn 4 4 [(0, .ref (B + x0)), (1, .int x1), (2, .int x2), (3, .int x3)] [] σ (js_QI D B g nn r0 σ0) := by
  intro k
  induction k with
  | zero =>
    intro x0 x1 x2 x3 σ r0 σ0 h
    cases h
  | succ k ih =>
    intro x0 x1 x2 x3 σ r0 σ0 h
    exact wX12_hasSymbol_4b C hr hk (fX12_hasSymbol_4 fu k) ih x0 x1 x2 x3 σ r0 σ0 h
set_option maxHeartbeats 4000000 in
set_option maxRecDepth 20000 in
theorem kX12_hasSymbol {x0 : Nat} {x1 : Int32} {σ σ0 : js_S} {r0 : Int32} (t0 : ob_ nn 20 x0) (h : fX12_hasSymbol fu x0 x1 σ = some (r0, σ0)) : js_M l D B g nn yX12_hasSymbol cX12_hasSymbol 4 (some .boolean) 0 [.ref (B + x0), .int x1] σ (js_QI D B g nn r0 σ0) := by
  refine js_enter (by decide) (Nat.le_of_ble_eq_true rfl) ?_
  intro p e s m args below meth c C hr hk ls hl hT
  have hl : lv_has ls 4 [(0, .ref (B + x0)), (1, .int x1)] := hl
  obtain ⟨hx, hb, hml, hown, ht, hK, hNw⟩ := id C
  obtain ⟨H, eH⟩ : ∃ H, H = s.heap := ⟨_, rfl⟩
  obtain ⟨locs, eL⟩ : ∃ z : List Loc, z = [] := ⟨_, rfl⟩
  rw [← eH, ← eL]
  rw [← eH, ← eL] at hT
  clear eH eL
  unfold fX12_hasSymbol at h
  refine lv_iconst (v := 0) hx hb dX12_hasSymbol_0 (by decide) ?_
  refine lv_istore_n (lv' := [(2, .int 0), (0, .ref (B + x0)), (1, .int x1)]) hx hb dX12_hasSymbol_1 rfl hl (by decide) rfl (fun ls hl => ?_)
  refine lv_iconst (v := 1) hx hb dX12_hasSymbol_2 (by decide) ?_
  refine lv_istore_n (lv' := [(3, .int 1), (2, .int 0), (0, .ref (B + x0)), (1, .int x1)]) hx hb dX12_hasSymbol_3 rfl hl (by decide) rfl (fun ls hl => ?_)
  exact wX12_hasSymbol_4 C hr hk _ _ _ _ _ _ _ _ h t0 H locs hT ls (lv_sub hl [2, 3, 1, 0] rfl)
