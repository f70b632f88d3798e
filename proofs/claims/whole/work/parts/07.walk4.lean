variable {p : Program} {l : Launch} {e : Env} {s : State} {m : MethodId} {args : Array Value} {below : List Frame} {meth : Method} {c : Code} {D : va_G} {B nn fu : Nat} {g : js_G}
set_option maxHeartbeats 4000000 in
set_option maxRecDepth 20000 in
theorem wX12_isMatch_175 (C : js_C D g p m c cX12_isMatch 9 s args RX12) (hr : meth.sig.returnType = (some .boolean)) (hk : meth.locks = false) (rc29 : Nat → Int32 → Nat → Int32 → Int32 → js_S → Option (Int32 × js_S)) (hrc29 : ∀ (x0 : Nat) (x1 : Int32) (x2 : Nat) (x4 : Int32) (x5 : Int32) (σ : js_S) (r0 : Int32) (σ0 : js_S), rc29 x0 x1 x2 x4 x5 σ = some (r0, σ0) → ob_ nn 12 x0 → ob_ nn 20 x2 → js_at p l e 4 s m args below meth c D B g nn 29 9 [(0, .ref (B + x0)), (1, .int x1), (2, .ref (B + x2)), (4, .int x4), (5, .int x5)] [] σ (js_QI D B g nn r0 σ0)) : ∀ (x0 : Nat) (x1 : Int32) (x2 : Nat) (x4 : Int32) (x5 : Int32) (σ : js_S) (r0 : Int32) (σ0 : js_S), fX12_isMatch_175 fu rc29 x0 x1 x2 x4 x5 σ = some (r0, σ0) → ob_ nn 12 x0 → ob_ nn 20 x2 → js_at p l e 4 s m args below meth c D B g nn 175 9 [(0, .ref (B + x0)), (1, .int x1), (2, .ref (B + x2)), (4, .int x4), (5, .int x5)] [] σ (js_QI D B g nn r0 σ0) := by
  obtain ⟨hx, hb, hml, hown, ht, hK, hNw⟩ := id C
  intro x0 x1 x2 x4 x5 σ r0 σ0 h t0 t2 H locs hT ls hl
  unfold fX12_isMatch_175 at h
  refine lv_iinc (v := x5 + 1) (lv' := [(5, .int (x5 + 1)), (0, .ref (B + x0)), (1, .int x1), (2, .ref (B + x2)), (4, .int x4)]) hx hb dX12_isMatch_175 hl (k := 4) rfl rfl (by decide) rfl (fun ls hl => ?_)
  refine lv_goto (tgt := 29) hx hb dX12_isMatch_178 (by decide) ?_
  exact hrc29 _ _ _ _ _ _ _ _ h t0 t2 H locs hT ls (lv_sub hl [1, 2, 3, 4, 0] rfl)
set_option maxHeartbeats 4000000 in
set_option maxRecDepth 20000 in
theorem wX12_isMatch_171 (C : js_C D g p m c cX12_isMatch 9 s args RX12) (hr : meth.sig.returnType = (some .boolean)) (hk : meth.locks = false) (rc29 : Nat → Int32 → Nat → Int32 → Int32 → js_S → Option (Int32 × js_S)) (hrc29 : ∀ (x0 : Nat) (x1 : Int32) (x2 : Nat) (x4 : Int32) (x5 : Int32) (σ : js_S) (r0 : Int32) (σ0 : js_S), rc29 x0 x1 x2 x4 x5 σ = some (r0, σ0) → ob_ nn 12 x0 → ob_ nn 20 x2 → js_at p l e 4 s m args below meth c D B g nn 29 9 [(0, .ref (B + x0)), (1, .int x1), (2, .ref (B + x2)), (4, .int x4), (5, .int x5)] [] σ (js_QI D B g nn r0 σ0)) : ∀ (x0 : Nat) (x1 : Int32) (x2 : Nat) (x5 : Int32) (x8 : Int32) (σ : js_S) (r0 : Int32) (σ0 : js_S), fX12_isMatch_171 fu rc29 x0 x1 x2 x5 x8 σ = some (r0, σ0) → ob_ nn 12 x0 → ob_ nn 20 x2 → js_at p l e 4 s m args below meth c D B g nn 171 9 [(0, .ref (B + x0)), (1, .int x1), (2, .ref (B + x2)), (5, .int x5), (8, .int x8)] [] σ (js_QI D B g nn r0 σ0) := by
  obtain ⟨hx, hb, hml, hown, ht, hK, hNw⟩ := id C
  intro x0 x1 x2 x5 x8 σ r0 σ0 h t0 t2 H locs hT ls hl
  unfold fX12_isMatch_171 at h
  refine lv_iload hx hb dX12_isMatch_171 (lv_at hl 4 rfl) ?_
  refine lv_istore (lv' := [(4, .int x8), (0, .ref (B + x0)), (1, .int x1), (2, .ref (B + x2)), (5, .int x5), (8, .int x8)]) hx hb dX12_isMatch_173 hl (by decide) rfl (fun ls hl => ?_)
  exact wX12_isMatch_175 C hr hk rc29 hrc29 _ _ _ _ _ _ _ _ h t0 t2 H locs hT ls (lv_sub hl [1, 2, 3, 0, 4] rfl)
set_option maxHeartbeats 4000000 in
set_option maxRecDepth 20000 in
theorem wX12_isMatch_29b (C : js_C D g p m c cX12_isMatch 9 s args RX12) (hr : meth.sig.returnType = (some .boolean)) (hk : meth.locks = false) (rc29 : Nat → Int32 → Nat → Int32 → Int32 → js_S → Option (Int32 × js_S)) (hrc29 : ∀ (x0 : Nat) (x1 : Int32) (x2 : Nat) (x4 : Int32) (x5 : Int32) (σ : js_S) (r0 : Int32) (σ0 : js_S), rc29 x0 x1 x2 x4 x5 σ = some (r0, σ0) → ob_ nn 12 x0 → ob_ nn 20 x2 → js_at p l e 4 s m args below meth c D B g nn 29 9 [(0, .ref (B + x0)), (1, .int x1), (2, .ref (B + x2)), (4, .int x4), (5, .int x5)] [] σ (js_QI D B g nn r0 σ0)) : ∀ (x0 : Nat) (x1 : Int32) (x2 : Nat) (x4 : Int32) (x5 : Int32) (σ : js_S) (r0 : Int32) (σ0 : js_S), fX12_isMatch_29b fu rc29 x0 x1 x2 x4 x5 σ = some (r0, σ0) → ob_ nn 12 x0 → ob_ nn 20 x2 → js_at p l e 4 s m args below meth c D B g nn 29 9 [(0, .ref (B + x0)), (1, .int x1), (2, .ref (B + x2)), (4, .int x4), (5, .int x5)] [] σ (js_QI D B g nn r0 σ0) := by
  obtain ⟨hx, hb, hml, hown, ht, hK, hNw⟩ := id C
  intro x0 x1 x2 x4 x5 σ r0 σ0 h t0 t2 H locs hT ls hl
  unfold fX12_isMatch_29b at h
  refine lv_iload hx hb dX12_isMatch_29 (lv_at hl 4 rfl) ?_
  refine lv_aload_n hx hb dX12_isMatch_31 rfl (lv_at hl 0 rfl) ?_
  refine js_gR C hT cfX12 t0 2 (by decide) (q := 20) rfl (by decide) lk_X12_16 dX12_isMatch_32 (fun t1a => ?_)
  refine lv_iload_n hx hb dX12_isMatch_35 rfl (lv_at hl 1 rfl) ?_
  obtain ⟨r2, σ2, hc2, h⟩ := bd_some h
  refine js_backI hT (js_runS C hT mfX12_left lk_X12_125 (kX12_left  hc2) ⟨Nat.le_of_ble_eq_true rfl, Nat.le_of_ble_eq_true rfl⟩ rfl hl.1 rfl (Nat.le_of_ble_eq_true rfl) ⟨Nat.zero_le _, Nat.zero_le _⟩ dX12_isMatch_36) (fun H locs hT => ?_)
  obtain ⟨g3, h⟩ := gd_some _ h
  refine js_iald C hT t1a g3 dX12_isMatch_39 ?_
  refine lv_icmp_gt (tgt := 181) hx hb dX12_isMatch_40 (by decide) (fun c4 => ?_) (fun c4 => ?_)
  · rw [if_pos c4] at h
    refine lv_iconst (v := 1) hx hb dX12_isMatch_181 (by decide) ?_
    obtain ⟨rfl, rfl⟩ := js_rt h
    exact js_zret C hT hr hk rfl dX12_isMatch_182
  · rw [if_neg c4] at h
    refine lv_aload_n hx hb dX12_isMatch_43 rfl (lv_at hl 0 rfl) ?_
    refine js_gR C hT cfX12 t0 2 (by decide) (q := 20) rfl (by decide) lk_X12_16 dX12_isMatch_44 (fun t5a => ?_)
    refine lv_iload_n hx hb dX12_isMatch_47 rfl (lv_at hl 1 rfl) ?_
    obtain ⟨r6, σ6, hc6, h⟩ := bd_some h
    refine js_backI hT (js_runS C hT mfX12_left lk_X12_125 (kX12_left  hc6) ⟨Nat.le_of_ble_eq_true rfl, Nat.le_of_ble_eq_true rfl⟩ rfl hl.1 rfl (Nat.le_of_ble_eq_true rfl) ⟨Nat.zero_le _, Nat.zero_le _⟩ dX12_isMatch_48) (fun H locs hT => ?_)
    refine lv_iload hx hb dX12_isMatch_51 (lv_at hl 4 rfl) ?_
    refine lv_iadd hx hb dX12_isMatch_53 ?_
    obtain ⟨g7, h⟩ := gd_some _ h
    refine js_iald C hT t5a g7 dX12_isMatch_54 ?_
    refine lv_istore (lv' := [(6, .int (σ6.1 (σ2.2.2 x0 2) (Int32.toNatClampNeg (r6 + x5)))), (0, .ref (B + x0)), (1, .int x1), (2, .ref (B + x2)), (4, .int x4), (5, .int x5)]) hx hb dX12_isMatch_55 hl (by decide) rfl (fun ls hl => ?_)
    refine lv_iload hx hb dX12_isMatch_57 (lv_at hl 0 rfl) ?_
    obtain ⟨r8, σ8, hc8, h⟩ := bd_some h
    refine js_backI hT (js_runS C hT mfX12_isVariable lk_X12_128 (kX12_isVariable  hc8) ⟨Nat.le_of_ble_eq_true rfl, Nat.le_of_ble_eq_true rfl⟩ rfl hl.1 rfl (Nat.le_of_ble_eq_true rfl) ⟨Nat.zero_le _, Nat.zero_le _⟩ dX12_isMatch_59) (fun H locs hT => ?_)
    refine lv_if_ne (tgt := 82) hx hb dX12_isMatch_62 (by decide) (fun c9 => ?_) (fun c9 => ?_)
    · rw [if_neg c9] at h
      refine lv_iload hx hb dX12_isMatch_82 (lv_at hl 0 rfl) ?_
      obtain ⟨r10, σ10, hc10, h⟩ := bd_some h
      refine js_backI hT (js_runS C hT mfX12_variable lk_X12_131 (kX12_variable  hc10) ⟨Nat.le_of_ble_eq_true rfl, Nat.le_of_ble_eq_true rfl⟩ rfl hl.1 rfl (Nat.le_of_ble_eq_true rfl) ⟨Nat.zero_le _, Nat.zero_le _⟩ dX12_isMatch_84) (fun H locs hT => ?_)
      refine lv_istore (lv' := [(7, .int r10), (6, .int (σ6.1 (σ2.2.2 x0 2) (Int32.toNatClampNeg (r6 + x5)))), (0, .ref (B + x0)), (1, .int x1), (2, .ref (B + x2)), (4, .int x4), (5, .int x5)]) hx hb dX12_isMatch_87 hl (by decide) rfl (fun ls hl => ?_)
      refine lv_aload_n hx hb dX12_isMatch_89 rfl (lv_at hl 2 rfl) ?_
      refine lv_aload_n hx hb dX12_isMatch_90 rfl (lv_at hl 4 rfl) ?_
      refine lv_iload hx hb dX12_isMatch_91 (lv_at hl 5 rfl) ?_
      obtain ⟨r11, σ11, hc11, h⟩ := bd_some h
      refine js_backI hT (js_runV C hT cfX12 t0 rfl mfX12_end lk_X12_117 (kX12_end t0 t2 hc11) ⟨Nat.le_of_ble_eq_true rfl, Nat.le_of_ble_eq_true rfl⟩ rfl hl.1 rfl (Nat.le_of_ble_eq_true rfl) ⟨Nat.zero_le _, Nat.zero_le _⟩ dX12_isMatch_93) (fun H locs hT => ?_)
      refine lv_istore (lv' := [(8, .int r11), (7, .int r10), (6, .int (σ6.1 (σ2.2.2 x0 2) (Int32.toNatClampNeg (r6 + x5)))), (0, .ref (B + x0)), (1, .int x1), (2, .ref (B + x2)), (4, .int x4), (5, .int x5)]) hx hb dX12_isMatch_96 hl (by decide) rfl (fun ls hl => ?_)
      refine lv_aload_n hx hb dX12_isMatch_98 rfl (lv_at hl 3 rfl) ?_
      refine js_gR C hT cfX12 t0 10 (by decide) (q := 20) rfl (by decide) lk_X12_31 dX12_isMatch_99 (fun t12a => ?_)
      refine lv_iload hx hb dX12_isMatch_102 (lv_at hl 1 rfl) ?_
      obtain ⟨g13, h⟩ := gd_some _ h
      refine js_iald C hT t12a g13 dX12_isMatch_104 ?_
      refine lv_if_ne (tgt := 132) hx hb dX12_isMatch_105 (by decide) (fun c14 => ?_) (fun c14 => ?_)
      · rw [if_neg c14] at h
        refine lv_aload_n hx hb dX12_isMatch_132 rfl (lv_at hl 3 rfl) ?_
        refine js_gR C hT cfX12 t0 10 (by decide) (q := 20) rfl (by decide) lk_X12_31 dX12_isMatch_133 (fun t15a => ?_)
        refine lv_iload hx hb dX12_isMatch_136 (lv_at hl 1 rfl) ?_
        obtain ⟨g16, h⟩ := gd_some _ h
        refine js_iald C hT t15a g16 dX12_isMatch_138 ?_
        refine lv_iload hx hb dX12_isMatch_139 (lv_at hl 0 rfl) ?_
        refine lv_iload hx hb dX12_isMatch_141 (lv_at hl 6 rfl) ?_
        refine lv_isub hx hb dX12_isMatch_143 ?_
        refine lv_icmp_ne (tgt := 169) hx hb dX12_isMatch_144 (by decide) (fun c17 => ?_) (fun c17 => ?_)
        · rw [if_neg c17] at h
          refine lv_iconst (v := 0) hx hb dX12_isMatch_169 (by decide) ?_
          obtain ⟨rfl, rfl⟩ := js_rt h
          exact js_zret C hT hr hk rfl dX12_isMatch_170
        · rw [if_pos c17] at h
          refine lv_aload_n hx hb dX12_isMatch_147 rfl (lv_at hl 5 rfl) ?_
          refine lv_aload_n hx hb dX12_isMatch_148 rfl (lv_at hl 3 rfl) ?_
          refine js_gR C hT cfX12 t0 9 (by decide) (q := 20) rfl (by decide) lk_X12_28 dX12_isMatch_149 (fun t18a => ?_)
          refine lv_iload hx hb dX12_isMatch_152 (lv_at hl 1 rfl) ?_
          obtain ⟨g19, h⟩ := gd_some _ h
          refine js_iald C hT t18a g19 dX12_isMatch_154 ?_
          refine lv_aload_n hx hb dX12_isMatch_155 rfl (lv_at hl 5 rfl) ?_
          refine lv_iload hx hb dX12_isMatch_156 (lv_at hl 6 rfl) ?_
          refine lv_iload hx hb dX12_isMatch_158 (lv_at hl 0 rfl) ?_
          refine lv_iload hx hb dX12_isMatch_160 (lv_at hl 6 rfl) ?_
          refine lv_isub hx hb dX12_isMatch_162 ?_
          obtain ⟨r20, σ20, hc20, h⟩ := bd_some h
          refine js_backI hT (js_runS C hT mfX12_areEqual lk_X12_134 (kX12_areEqual t2 t2 hc20) ⟨Nat.le_of_ble_eq_true rfl, Nat.le_of_ble_eq_true rfl⟩ rfl hl.1 rfl (Nat.le_of_ble_eq_true rfl) ⟨Nat.zero_le _, Nat.zero_le _⟩ dX12_isMatch_163) (fun H locs hT => ?_)
          refine lv_if_ne (tgt := 171) hx hb dX12_isMatch_166 (by decide) (fun c21 => ?_) (fun c21 => ?_)
          · rw [if_neg c21] at h
            exact wX12_isMatch_171 C hr hk rc29 hrc29 _ _ _ _ _ _ _ _ h t0 t2 H locs hT ls (lv_sub hl [3, 4, 5, 7, 0] rfl)
          · rw [if_pos c21] at h
            refine lv_iconst (v := 0) hx hb dX12_isMatch_169 (by decide) ?_
            obtain ⟨rfl, rfl⟩ := js_rt h
            exact js_zret C hT hr hk rfl dX12_isMatch_170
      · rw [if_pos c14] at h
        refine lv_aload_n hx hb dX12_isMatch_108 rfl (lv_at hl 3 rfl) ?_
        refine js_gR C hT cfX12 t0 9 (by decide) (q := 20) rfl (by decide) lk_X12_28 dX12_isMatch_109 (fun t22a => ?_)
        refine lv_iload hx hb dX12_isMatch_112 (lv_at hl 1 rfl) ?_
        refine lv_iload hx hb dX12_isMatch_114 (lv_at hl 6 rfl) ?_
        obtain ⟨g23, h⟩ := gd_some _ h
        obtain ⟨σ23, e23, h⟩ := lt_some h
        refine js_iast C hT t22a g23 dX12_isMatch_116 (fun H locs hT => ?_)
        rw [e23] at hT
        refine lv_aload_n hx hb dX12_isMatch_117 rfl (lv_at hl 3 rfl) ?_
        refine js_gR C hT cfX12 t0 10 (by decide) (q := 20) rfl (by decide) lk_X12_31 dX12_isMatch_118 (fun t24a => ?_)
        refine lv_iload hx hb dX12_isMatch_121 (lv_at hl 1 rfl) ?_
        refine lv_iload hx hb dX12_isMatch_123 (lv_at hl 0 rfl) ?_
        refine lv_iload hx hb dX12_isMatch_125 (lv_at hl 6 rfl) ?_
        refine lv_isub hx hb dX12_isMatch_127 ?_
        obtain ⟨g25, h⟩ := gd_some _ h
        obtain ⟨σ25, e25, h⟩ := lt_some h
        refine js_iast C hT t24a g25 dX12_isMatch_128 (fun H locs hT => ?_)
        rw [e25] at hT
        refine lv_goto (tgt := 171) hx hb dX12_isMatch_129 (by decide) ?_
        exact wX12_isMatch_171 C hr hk rc29 hrc29 _ _ _ _ _ _ _ _ h t0 t2 H locs hT ls (lv_sub hl [3, 4, 5, 7, 0] rfl)
    · rw [if_pos c9] at h
      refine lv_aload_n hx hb dX12_isMatch_65 rfl (lv_at hl 3 rfl) ?_
      refine lv_iload hx hb dX12_isMatch_66 (lv_at hl 4 rfl) ?_
      obtain ⟨g26, h⟩ := gd_some _ h
      refine js_iald C hT t2 g26 dX12_isMatch_68 ?_
      refine lv_iload hx hb dX12_isMatch_69 (lv_at hl 0 rfl) ?_
      refine lv_icmp_eq (tgt := 76) hx hb dX12_isMatch_71 (by decide) (fun c27 => ?_) (fun c27 => ?_)
      · rw [if_pos c27] at h
        refine lv_iinc (v := x4 + 1) (lv' := [(4, .int (x4 + 1)), (6, .int (σ6.1 (σ2.2.2 x0 2) (Int32.toNatClampNeg (r6 + x5)))), (0, .ref (B + x0)), (1, .int x1), (2, .ref (B + x2)), (5, .int x5)]) hx hb dX12_isMatch_76 hl (k := 4) rfl rfl (by decide) rfl (fun ls hl => ?_)
        refine lv_goto (tgt := 175) hx hb dX12_isMatch_79 (by decide) ?_
        exact wX12_isMatch_175 C hr hk rc29 hrc29 _ _ _ _ _ _ _ _ h t0 t2 H locs hT ls (lv_sub hl [2, 3, 4, 0, 5] rfl)
      · rw [if_neg c27] at h
        refine lv_iconst (v := 0) hx hb dX12_isMatch_74 (by decide) ?_
        obtain ⟨rfl, rfl⟩ := js_rt h
        exact js_zret C hT hr hk rfl dX12_isMatch_75
set_option maxHeartbeats 4000000 in
set_option maxRecDepth 20000 in
theorem wX12_isMatch_29 (C : js_C D g p m c cX12_isMatch 9 s args RX12) (hr : meth.sig.returnType = (some .boolean)) (hk : meth.locks = false) : ∀ (k : Nat), ∀ (x0 : Nat) (x1 : Int32) (x2 : Nat) (x4 : Int32) (x5 : Int32) (σ : js_S) (r0 : Int32) (σ0 : js_S), fX12_isMatch_29 fu k x0 x1 x2 x4 x5 σ = some (r0, σ0) → ob_ nn 12 x0 → ob_ nn 20 x2 → js_at p l e 4 s m args below meth c D B g nn 29 9 [(0, .ref (B + x0)), (1, .int x1), (2, .ref (B + x2)), (4, .int x4), (5, .int x5)] [] σ (js_QI D B g nn r0 σ0) := by
  intro k
  induction k with
  | zero =>
    intro x0 x1 x2 x4 x5 σ r0 σ0 h
    cases h
  | succ k ih =>
    intro x0 x1 x2 x4 x5 σ r0 σ0 h
    exact wX12_isMatch_29b C hr hk (fX12_isMatch_29 fu k) ih x0 x1 x2 x4 x5 σ r0 σ0 h
set_option maxHeartbeats 4000000 in
set_option maxRecDepth 20000 in
theorem wX12_isMatch_3b (C : js_C D g p m c cX12_isMatch 9 s args RX12) (hr : meth.sig.returnType = (some .boolean)) (hk : meth.locks = false) (rc3 : Nat → Int32 → Nat → Int32 → Int32 → js_S → Option (Int32 × js_S)) (hrc3 : ∀ (x0 : Nat) (x1 : Int32) (x2 : Nat) (x3 : Int32) (x4 : Int32) (σ : js_S) (r0 : Int32) (σ0 : js_S), rc3 x0 x1 x2 x3 x4 σ = some (r0, σ0) → ob_ nn 12 x0 → ob_ nn 20 x2 → js_at p l e 4 s m args below meth c D B g nn 3 9 [(0, .ref (B + x0)), (1, .int x1), (2, .ref (B + x2)), (3, .int x3), (4, .int x4)] [] σ (js_QI D B g nn r0 σ0)) : ∀ (x0 : Nat) (x1 : Int32) (x2 : Nat) (x3 : Int32) (x4 : Int32) (σ : js_S) (r0 : Int32) (σ0 : js_S), fX12_isMatch_3b fu rc3 x0 x1 x2 x3 x4 σ = some (r0, σ0) → ob_ nn 12 x0 → ob_ nn 20 x2 → js_at p l e 4 s m args below meth c D B g nn 3 9 [(0, .ref (B + x0)), (1, .int x1), (2, .ref (B + x2)), (3, .int x3), (4, .int x4)] [] σ (js_QI D B g nn r0 σ0) := by
  obtain ⟨hx, hb, hml, hown, ht, hK, hNw⟩ := id C
  intro x0 x1 x2 x3 x4 σ r0 σ0 h t0 t2 H locs hT ls hl
  unfold fX12_isMatch_3b at h
  refine lv_iload hx hb dX12_isMatch_3 (lv_at hl 4 rfl) ?_
  refine lv_iconst (v := 3) hx hb dX12_isMatch_5 (by decide) ?_
  refine lv_icmp_ge (tgt := 23) hx hb dX12_isMatch_6 (by decide) (fun c1 => ?_) (fun c1 => ?_)
  · rw [if_pos c1] at h
    refine lv_iload_n hx hb dX12_isMatch_23 rfl (lv_at hl 3 rfl) ?_
    refine lv_istore (lv' := [(4, .int x3), (0, .ref (B + x0)), (1, .int x1), (2, .ref (B + x2)), (3, .int x3)]) hx hb dX12_isMatch_24 hl (by decide) rfl (fun ls hl => ?_)
    refine lv_iconst (v := 1) hx hb dX12_isMatch_26 (by decide) ?_
    refine lv_istore (lv' := [(5, .int 1), (4, .int x3), (0, .ref (B + x0)), (1, .int x1), (2, .ref (B + x2)), (3, .int x3)]) hx hb dX12_isMatch_27 hl (by decide) rfl (fun ls hl => ?_)
    exact wX12_isMatch_29 C hr hk _ _ _ _ _ _ _ _ _ h t0 t2 H locs hT ls (lv_sub hl [2, 3, 4, 1, 0] rfl)
  · rw [if_neg c1] at h
    refine lv_aload_n hx hb dX12_isMatch_9 rfl (lv_at hl 0 rfl) ?_
    refine js_gR C hT cfX12 t0 10 (by decide) (q := 20) rfl (by decide) lk_X12_31 dX12_isMatch_10 (fun t2a => ?_)
    refine lv_iload hx hb dX12_isMatch_13 (lv_at hl 4 rfl) ?_
    refine lv_iconst (v := 0) hx hb dX12_isMatch_15 (by decide) ?_
    obtain ⟨g3, h⟩ := gd_some _ h
    obtain ⟨σ3, e3, h⟩ := lt_some h
    refine js_iast C hT t2a g3 dX12_isMatch_16 (fun H locs hT => ?_)
    rw [e3] at hT
    refine lv_iinc (v := x4 + 1) (lv' := [(4, .int (x4 + 1)), (0, .ref (B + x0)), (1, .int x1), (2, .ref (B + x2)), (3, .int x3)]) hx hb dX12_isMatch_17 hl (k := 4) rfl rfl (by decide) rfl (fun ls hl => ?_)
    refine lv_goto (tgt := 3) hx hb dX12_isMatch_20 (by decide) ?_
    exact hrc3 _ _ _ _ _ _ _ _ h t0 t2 H locs hT ls (lv_sub hl [1, 2, 3, 4, 0] rfl)
set_option maxHeartbeats 4000000 in
set_option maxRecDepth 20000 in
theorem wX12_isMatch_3 (C : js_C D g p m c cX12_isMatch 9 s args RX12) (hr : meth.sig.returnType = (some .boolean)) (hk : meth.locks = false) : ∀ (k : Nat), ∀ (x0 : Nat) (x1 : Int32) (x2 : Nat) (x3 : Int32) (x4 : Int32) (σ : js_S) (r0 : Int32) (σ0 : js_S), fX12_isMatch_3 fu k x0 x1 x2 x3 x4 σ = some (r0, σ0) → ob_ nn 12 x0 → ob_ nn 20 x2 → js_at p l e 4 s m args below meth c D B g nn 3 9 [(0, .ref (B + x0)), (1, .int x1), (2, .ref (B + x2)), (3, .int x3), (4, .int x4)] [] σ (js_QI D B g nn r0 σ0) := by
  intro k
  induction k with
  | zero =>
    intro x0 x1 x2 x3 x4 σ r0 σ0 h
    cases h
  | succ k ih =>
    intro x0 x1 x2 x3 x4 σ r0 σ0 h
    exact wX12_isMatch_3b C hr hk (fX12_isMatch_3 fu k) ih x0 x1 x2 x3 x4 σ r0 σ0 h
set_option maxHeartbeats 4000000 in
set_option maxRecDepth 20000 in
theorem kX12_isMatch {x0 : Nat} {x1 : Int32} {x2 : Nat} {x3 : Int32} {σ σ0 : js_S} {r0 : Int32} (t0 : ob_ nn 12 x0) (t2 : ob_ nn 20 x2) (h : fX12_isMatch fu x0 x1 x2 x3 σ = some (r0, σ0)) : js_M l D B g nn yX12_isMatch cX12_isMatch 9 (some .boolean) 4 [.ref (B + x0), .int x1, .ref (B + x2), .int x3] σ (js_QI D B g nn r0 σ0) := by
  refine js_enter (by decide) (Nat.le_of_ble_eq_true rfl) ?_
  intro p e s m args below meth c C hr hk ls hl hT
  have hl : lv_has ls 9 [(0, .ref (B + x0)), (1, .int x1), (2, .ref (B + x2)), (3, .int x3)] := hl
  obtain ⟨hx, hb, hml, hown, ht, hK, hNw⟩ := id C
  obtain ⟨H, eH⟩ : ∃ H, H = s.heap := ⟨_, rfl⟩
  obtain ⟨locs, eL⟩ : ∃ z : List Loc, z = [] := ⟨_, rfl⟩
  rw [← eH, ← eL]
  rw [← eH, ← eL] at hT
  clear eH eL
  unfold fX12_isMatch at h
  refine lv_iconst (v := 0) hx hb dX12_isMatch_0 (by decide) ?_
  refine lv_istore (lv' := [(4, .int 0), (0, .ref (B + x0)), (1, .int x1), (2, .ref (B + x2)), (3, .int x3)]) hx hb dX12_isMatch_1 hl (by decide) rfl (fun ls hl => ?_)
  exact wX12_isMatch_3 C hr hk _ _ _ _ _ _ _ _ _ h t0 t2 H locs hT ls (lv_sub hl [1, 2, 3, 4, 0] rfl)
set_option maxHeartbeats 4000000 in
set_option maxRecDepth 20000 in
theorem wX12_matching_2b (C : js_C D g p m c cX12_matching 4 s args RX12) (hr : meth.sig.returnType = (some .int)) (hk : meth.locks = false) (rc2 : Nat → Nat → Int32 → Int32 → js_S → Option (Int32 × js_S)) (hrc2 : ∀ (x0 : Nat) (x1 : Nat) (x2 : Int32) (x3 : Int32) (σ : js_S) (r0 : Int32) (σ0 : js_S), rc2 x0 x1 x2 x3 σ = some (r0, σ0) → ob_ nn 12 x0 → ob_ nn 20 x1 → js_at p l e 5 s m args below meth c D B g nn 2 4 [(0, .ref (B + x0)), (1, .ref (B + x1)), (2, .int x2), (3, .int x3)] [] σ (js_QI D B g nn r0 σ0)) : ∀ (x0 : Nat) (x1 : Nat) (x2 : Int32) (x3 : Int32) (σ : js_S) (r0 : Int32) (σ0 : js_S), fX12_matching_2b fu rc2 x0 x1 x2 x3 σ = some (r0, σ0) → ob_ nn 12 x0 → ob_ nn 20 x1 → js_at p l e 5 s m args below meth c D B g nn 2 4 [(0, .ref (B + x0)), (1, .ref (B + x1)), (2, .int x2), (3, .int x3)] [] σ (js_QI D B g nn r0 σ0) := by
  obtain ⟨hx, hb, hml, hown, ht, hK, hNw⟩ := id C
  intro x0 x1 x2 x3 σ r0 σ0 h t0 t1 H locs hT ls hl
  unfold fX12_matching_2b at h
  refine lv_iload_n hx hb dX12_matching_2 rfl (lv_at hl 3 rfl) ?_
  refine lv_aload_n hx hb dX12_matching_3 rfl (lv_at hl 0 rfl) ?_
  refine js_gI C hT cfX12 t0 6 (by decide) rfl lk_X12_121 dX12_matching_4 ?_
  refine lv_icmp_ge (tgt := 28) hx hb dX12_matching_7 (by decide) (fun c1 => ?_) (fun c1 => ?_)
  · rw [if_pos c1] at h
    refine lv_bipush (v := (-5)) hx hb dX12_matching_28 (by decide) ?_
    obtain ⟨rfl, rfl⟩ := js_rt h
    exact js_iret C hT hr hk dX12_matching_30
  · rw [if_neg c1] at h
    refine lv_aload_n hx hb dX12_matching_10 rfl (lv_at hl 0 rfl) ?_
    refine lv_iload_n hx hb dX12_matching_11 rfl (lv_at hl 3 rfl) ?_
    refine lv_aload_n hx hb dX12_matching_12 rfl (lv_at hl 1 rfl) ?_
    refine lv_iload_n hx hb dX12_matching_13 rfl (lv_at hl 2 rfl) ?_
    obtain ⟨r2, σ2, hc2, h⟩ := bd_some h
    refine js_backI hT (js_runV C hT cfX12 t0 rfl mfX12_isMatch lk_X12_138 (kX12_isMatch t0 t1 hc2) ⟨Nat.le_of_ble_eq_true rfl, Nat.le_of_ble_eq_true rfl⟩ rfl hl.1 rfl (Nat.le_of_ble_eq_true rfl) ⟨Nat.zero_le _, Nat.zero_le _⟩ dX12_matching_14) (fun H locs hT => ?_)
    refine lv_if_eq (tgt := 22) hx hb dX12_matching_17 (by decide) (fun c3 => ?_) (fun c3 => ?_)
    · rw [if_pos c3] at h
      refine lv_iinc (v := x3 + 1) (lv' := [(3, .int (x3 + 1)), (0, .ref (B + x0)), (1, .ref (B + x1)), (2, .int x2)]) hx hb dX12_matching_22 hl (k := 3) rfl rfl (by decide) rfl (fun ls hl => ?_)
      refine lv_goto (tgt := 2) hx hb dX12_matching_25 (by decide) ?_
      exact hrc2 _ _ _ _ _ _ _ h t0 t1 H locs hT ls (lv_sub hl [1, 2, 3, 0] rfl)
    · rw [if_neg c3] at h
      refine lv_iload_n hx hb dX12_matching_20 rfl (lv_at hl 3 rfl) ?_
      obtain ⟨rfl, rfl⟩ := js_rt h
      exact js_iret C hT hr hk dX12_matching_21
set_option maxHeartbeats 4000000 in
set_option maxRecDepth 20000 in
theorem wX12_matching_2 (C : js_C D g p m c cX12_matching 4 s args RX12) (hr : meth.sig.returnType = (some .int)) (hk : meth.locks = false) : ∀ (k : Nat), ∀ (x0 : Nat) (x1 : Nat) (x2 : Int32) (x3 : Int32) (σ : js_S) (r0 : Int32) (σ0 : js_S), fX12_matching_2 fu k x0 x1 x2 x3 σ = some (r0, σ0) → ob_ nn 12 x0 → ob_ nn 20 x1 → js_at p l e 5 s m args below meth c D B g nn 2 4 [(0, .ref (B + x0)), (1, .ref (B + x1)), (2, .int x2), (3, .int x3)] [] σ (js_QI D B g nn r0 σ0) := by
  intro k
  induction k with
  | zero =>
    intro x0 x1 x2 x3 σ r0 σ0 h
    cases h
  | succ k ih =>
    intro x0 x1 x2 x3 σ r0 σ0 h
    exact wX12_matching_2b C hr hk (fX12_matching_2 fu k) ih x0 x1 x2 x3 σ r0 σ0 h
set_option maxHeartbeats 4000000 in
set_option maxRecDepth 20000 in
theorem kX12_matching {x0 : Nat} {x1 : Nat} {x2 : Int32} {σ σ0 : js_S} {r0 : Int32} (t0 : ob_ nn 12 x0) (t1 : ob_ nn 20 x1) (h : fX12_matching fu x0 x1 x2 σ = some (r0, σ0)) : js_M l D B g nn yX12_matching cX12_matching 4 (some .int) 5 [.ref (B + x0), .ref (B + x1), .int x2] σ (js_QI D B g nn r0 σ0) := by
  refine js_enter (by decide) (Nat.le_of_ble_eq_true rfl) ?_
  intro p e s m args below meth c C hr hk ls hl hT
  have hl : lv_has ls 4 [(0, .ref (B + x0)), (1, .ref (B + x1)), (2, .int x2)] := hl
  obtain ⟨hx, hb, hml, hown, ht, hK, hNw⟩ := id C
  obtain ⟨H, eH⟩ : ∃ H, H = s.heap := ⟨_, rfl⟩
  obtain ⟨locs, eL⟩ : ∃ z : List Loc, z = [] := ⟨_, rfl⟩
  rw [← eH, ← eL]
  rw [← eH, ← eL] at hT
  clear eH eL
  unfold fX12_matching at h
  refine lv_iconst (v := 0) hx hb dX12_matching_0 (by decide) ?_
  refine lv_istore_n (lv' := [(3, .int 0), (0, .ref (B + x0)), (1, .ref (B + x1)), (2, .int x2)]) hx hb dX12_matching_1 rfl hl (by decide) rfl (fun ls hl => ?_)
  exact wX12_matching_2 C hr hk _ _ _ _ _ _ _ _ h t0 t1 H locs hT ls (lv_sub hl [1, 2, 3, 0] rfl)
set_option maxHeartbeats 4000000 in
set_option maxRecDepth 20000 in
theorem wX12_rewrite_284b (C : js_C D g p m c cX12_rewrite 14 s args RX12) (hr : meth.sig.returnType = (some .int)) (hk : meth.locks = false) (rc284 : Nat → Nat → Int32 → Int32 → Int32 → Int32 → js_S → Option (Int32 × js_S)) (hrc284 : ∀ (x0 : Nat) (x1 : Nat) (x2 : Int32) (x7 : Int32) (x8 : Int32) (x9 : Int32) (σ : js_S) (r0 : Int32) (σ0 : js_S), rc284 x0 x1 x2 x7 x8 x9 σ = some (r0, σ0) → ob_ nn 12 x0 → ob_ nn 20 x1 → js_at p l e 6 s m args below meth c D B g nn 284 14 [(0, .ref (B + x0)), (1, .ref (B + x1)), (2, .int x2), (7, .int x7), (8, .int x8), (9, .int x9)] [] σ (js_QI D B g nn r0 σ0)) : ∀ (x0 : Nat) (x1 : Nat) (x2 : Int32) (x7 : Int32) (x8 : Int32) (x9 : Int32) (σ : js_S) (r0 : Int32) (σ0 : js_S), fX12_rewrite_284b fu rc284 x0 x1 x2 x7 x8 x9 σ = some (r0, σ0) → ob_ nn 12 x0 → ob_ nn 20 x1 → js_at p l e 6 s m args below meth c D B g nn 284 14 [(0, .ref (B + x0)), (1, .ref (B + x1)), (2, .int x2), (7, .int x7), (8, .int x8), (9, .int x9)] [] σ (js_QI D B g nn r0 σ0) := by
  obtain ⟨hx, hb, hml, hown, ht, hK, hNw⟩ := id C
  intro x0 x1 x2 x7 x8 x9 σ r0 σ0 h t0 t1 H locs hT ls hl
  unfold fX12_rewrite_284b at h
  refine lv_iload hx hb dX12_rewrite_284 (lv_at hl 5 rfl) ?_
  refine lv_iload_n hx hb dX12_rewrite_286 rfl (lv_at hl 2 rfl) ?_
  refine lv_aload_n hx hb dX12_rewrite_287 rfl (lv_at hl 1 rfl) ?_
  refine lv_iload_n hx hb dX12_rewrite_288 rfl (lv_at hl 2 rfl) ?_
  obtain ⟨g1, h⟩ := gd_some _ h
  refine js_iald C hT t1 g1 dX12_rewrite_289 ?_
  refine lv_iadd hx hb dX12_rewrite_290 ?_
  refine lv_icmp_gt (tgt := 314) hx hb dX12_rewrite_291 (by decide) (fun c2 => ?_) (fun c2 => ?_)
  · rw [if_pos c2] at h
    refine lv_aload_n hx hb dX12_rewrite_314 rfl (lv_at hl 0 rfl) ?_
    refine js_gR C hT cfX12 t0 11 (by decide) (q := 20) rfl (by decide) lk_X12_34 dX12_rewrite_315 (fun t3a => ?_)
    refine lv_iconst (v := 0) hx hb dX12_rewrite_318 (by decide) ?_
    refine lv_iload hx hb dX12_rewrite_319 (lv_at hl 3 rfl) ?_
    obtain ⟨g4, h⟩ := gd_some _ h
    obtain ⟨σ4, e4, h⟩ := lt_some h
    refine js_iast C hT t3a g4 dX12_rewrite_321 (fun H locs hT => ?_)
    rw [e4] at hT
    refine lv_iload hx hb dX12_rewrite_322 (lv_at hl 3 rfl) ?_
    obtain ⟨rfl, rfl⟩ := js_rt h
    exact js_iret C hT hr hk dX12_rewrite_324
  · rw [if_neg c2] at h
    refine lv_aload_n hx hb dX12_rewrite_294 rfl (lv_at hl 0 rfl) ?_
    refine js_gR C hT cfX12 t0 11 (by decide) (q := 20) rfl (by decide) lk_X12_34 dX12_rewrite_295 (fun t5a => ?_)
    refine lv_iload hx hb dX12_rewrite_298 (lv_at hl 4 rfl) ?_
    refine lv_aload_n hx hb dX12_rewrite_300 rfl (lv_at hl 1 rfl) ?_
    refine lv_iload hx hb dX12_rewrite_301 (lv_at hl 5 rfl) ?_
    obtain ⟨g6, h⟩ := gd_some _ h
    refine js_iald C hT t1 g6 dX12_rewrite_303 ?_
    obtain ⟨g7, h⟩ := gd_some _ h
    obtain ⟨σ7, e7, h⟩ := lt_some h
    refine js_iast C hT t5a g7 dX12_rewrite_304 (fun H locs hT => ?_)
    rw [e7] at hT
    refine lv_iinc (v := x8 + 1) (lv' := [(8, .int (x8 + 1)), (0, .ref (B + x0)), (1, .ref (B + x1)), (2, .int x2), (7, .int x7), (9, .int x9)]) hx hb dX12_rewrite_305 hl (k := 4) rfl rfl (by decide) rfl (fun ls hl => ?_)
    refine lv_iinc (v := x9 + 1) (lv' := [(9, .int (x9 + 1)), (8, .int (x8 + 1)), (0, .ref (B + x0)), (1, .ref (B + x1)), (2, .int x2), (7, .int x7)]) hx hb dX12_rewrite_308 hl (k := 5) rfl rfl (by decide) rfl (fun ls hl => ?_)
    refine lv_goto (tgt := 284) hx hb dX12_rewrite_311 (by decide) ?_
    exact hrc284 _ _ _ _ _ _ _ _ _ h t0 t1 H locs hT ls (lv_sub hl [2, 3, 4, 5, 1, 0] rfl)
set_option maxHeartbeats 4000000 in
set_option maxRecDepth 20000 in
theorem wX12_rewrite_284 (C : js_C D g p m c cX12_rewrite 14 s args RX12) (hr : meth.sig.returnType = (some .int)) (hk : meth.locks = false) : ∀ (k : Nat), ∀ (x0 : Nat) (x1 : Nat) (x2 : Int32) (x7 : Int32) (x8 : Int32) (x9 : Int32) (σ : js_S) (r0 : Int32) (σ0 : js_S), fX12_rewrite_284 fu k x0 x1 x2 x7 x8 x9 σ = some (r0, σ0) → ob_ nn 12 x0 → ob_ nn 20 x1 → js_at p l e 6 s m args below meth c D B g nn 284 14 [(0, .ref (B + x0)), (1, .ref (B + x1)), (2, .int x2), (7, .int x7), (8, .int x8), (9, .int x9)] [] σ (js_QI D B g nn r0 σ0) := by
  intro k
  induction k with
  | zero =>
    intro x0 x1 x2 x7 x8 x9 σ r0 σ0 h
    cases h
  | succ k ih =>
    intro x0 x1 x2 x7 x8 x9 σ r0 σ0 h
    exact wX12_rewrite_284b C hr hk (fX12_rewrite_284 fu k) ih x0 x1 x2 x7 x8 x9 σ r0 σ0 h
set_option maxHeartbeats 4000000 in
set_option maxRecDepth 20000 in
theorem wX12_rewrite_264 (C : js_C D g p m c cX12_rewrite 14 s args RX12) (hr : meth.sig.returnType = (some .int)) (hk : meth.locks = false) (rc158 : Nat → Nat → Int32 → Int32 → Int32 → Int32 → Int32 → Int32 → js_S → Option (Int32 × js_S)) (hrc158 : ∀ (x0 : Nat) (x1 : Nat) (x2 : Int32) (x5 : Int32) (x6 : Int32) (x7 : Int32) (x8 : Int32) (x9 : Int32) (σ : js_S) (r0 : Int32) (σ0 : js_S), rc158 x0 x1 x2 x5 x6 x7 x8 x9 σ = some (r0, σ0) → ob_ nn 12 x0 → ob_ nn 20 x1 → js_at p l e 6 s m args below meth c D B g nn 158 14 [(0, .ref (B + x0)), (1, .ref (B + x1)), (2, .int x2), (5, .int x5), (6, .int x6), (7, .int x7), (8, .int x8), (9, .int x9)] [] σ (js_QI D B g nn r0 σ0)) (rc229 : Nat → Nat → Int32 → Int32 → Int32 → Int32 → Int32 → Int32 → Int32 → Int32 → Int32 → Int32 → js_S → Option (Int32 × js_S)) (hrc229 : ∀ (x0 : Nat) (x1 : Nat) (x2 : Int32) (x5 : Int32) (x6 : Int32) (x7 : Int32) (x8 : Int32) (x9 : Int32) (x10 : Int32) (x11 : Int32) (x12 : Int32) (x13 : Int32) (σ : js_S) (r0 : Int32) (σ0 : js_S), rc229 x0 x1 x2 x5 x6 x7 x8 x9 x10 x11 x12 x13 σ = some (r0, σ0) → ob_ nn 12 x0 → ob_ nn 20 x1 → js_at p l e 6 s m args below meth c D B g nn 229 14 [(0, .ref (B + x0)), (1, .ref (B + x1)), (2, .int x2), (5, .int x5), (6, .int x6), (7, .int x7), (8, .int x8), (9, .int x9), (10, .int x10), (11, .int x11), (12, .int x12), (13, .int x13)] [] σ (js_QI D B g nn r0 σ0)) : ∀ (x0 : Nat) (x1 : Nat) (x2 : Int32) (x5 : Int32) (x6 : Int32) (x7 : Int32) (x8 : Int32) (x9 : Int32) (x10 : Int32) (x11 : Int32) (x12 : Int32) (x13 : Int32) (y0 : Int32) (y1 : Int32) (y2 : Nat) (σ : js_S) (r0 : Int32) (σ0 : js_S), fX12_rewrite_264 fu rc158 rc229 x0 x1 x2 x5 x6 x7 x8 x9 x10 x11 x12 x13 y0 y1 y2 σ = some (r0, σ0) → ob_ nn 12 x0 → ob_ nn 20 x1 → ob_ nn 20 y2 → js_at p l e 6 s m args below meth c D B g nn 264 14 [(0, .ref (B + x0)), (1, .ref (B + x1)), (2, .int x2), (5, .int x5), (6, .int x6), (7, .int x7), (8, .int x8), (9, .int x9), (10, .int x10), (11, .int x11), (12, .int x12), (13, .int x13)] [.int y0, .int y1, .ref (B + y2)] σ (js_QI D B g nn r0 σ0) := by
  obtain ⟨hx, hb, hml, hown, ht, hK, hNw⟩ := id C
  intro x0 x1 x2 x5 x6 x7 x8 x9 x10 x11 x12 x13 y0 y1 y2 σ r0 σ0 h t0 t1 u2 H locs hT ls hl
  unfold fX12_rewrite_264 at h
  obtain ⟨g1, h⟩ := gd_some _ h
  obtain ⟨σ1, e1, h⟩ := lt_some h
  refine js_iast C hT u2 g1 dX12_rewrite_264 (fun H locs hT => ?_)
  rw [e1] at hT
  refine lv_iinc (v := x8 + 1) (lv' := [(8, .int (x8 + 1)), (0, .ref (B + x0)), (1, .ref (B + x1)), (2, .int x2), (5, .int x5), (6, .int x6), (7, .int x7), (9, .int x9), (10, .int x10), (11, .int x11), (12, .int x12), (13, .int x13)]) hx hb dX12_rewrite_265 hl (k := 6) rfl rfl (by decide) rfl (fun ls hl => ?_)
  refine lv_iinc (v := x13 + 1) (lv' := [(13, .int (x13 + 1)), (8, .int (x8 + 1)), (0, .ref (B + x0)), (1, .ref (B + x1)), (2, .int x2), (5, .int x5), (6, .int x6), (7, .int x7), (9, .int x9), (10, .int x10), (11, .int x11), (12, .int x12)]) hx hb dX12_rewrite_268 hl (k := 11) rfl rfl (by decide) rfl (fun ls hl => ?_)
  refine lv_goto (tgt := 229) hx hb dX12_rewrite_271 (by decide) ?_
  exact hrc229 _ _ _ _ _ _ _ _ _ _ _ _ _ _ _ h t0 t1 H locs hT ls (lv_sub hl [2, 3, 4, 5, 6, 7, 1, 8, 9, 10, 11, 0] rfl)
set_option maxHeartbeats 4000000 in
set_option maxRecDepth 20000 in
theorem wX12_rewrite_229b (C : js_C D g p m c cX12_rewrite 14 s args RX12) (hr : meth.sig.returnType = (some .int)) (hk : meth.locks = false) (rc158 : Nat → Nat → Int32 → Int32 → Int32 → Int32 → Int32 → Int32 → js_S → Option (Int32 × js_S)) (hrc158 : ∀ (x0 : Nat) (x1 : Nat) (x2 : Int32) (x5 : Int32) (x6 : Int32) (x7 : Int32) (x8 : Int32) (x9 : Int32) (σ : js_S) (r0 : Int32) (σ0 : js_S), rc158 x0 x1 x2 x5 x6 x7 x8 x9 σ = some (r0, σ0) → ob_ nn 12 x0 → ob_ nn 20 x1 → js_at p l e 6 s m args below meth c D B g nn 158 14 [(0, .ref (B + x0)), (1, .ref (B + x1)), (2, .int x2), (5, .int x5), (6, .int x6), (7, .int x7), (8, .int x8), (9, .int x9)] [] σ (js_QI D B g nn r0 σ0)) (rc229 : Nat → Nat → Int32 → Int32 → Int32 → Int32 → Int32 → Int32 → Int32 → Int32 → Int32 → Int32 → js_S → Option (Int32 × js_S)) (hrc229 : ∀ (x0 : Nat) (x1 : Nat) (x2 : Int32) (x5 : Int32) (x6 : Int32) (x7 : Int32) (x8 : Int32) (x9 : Int32) (x10 : Int32) (x11 : Int32) (x12 : Int32) (x13 : Int32) (σ : js_S) (r0 : Int32) (σ0 : js_S), rc229 x0 x1 x2 x5 x6 x7 x8 x9 x10 x11 x12 x13 σ = some (r0, σ0) → ob_ nn 12 x0 → ob_ nn 20 x1 → js_at p l e 6 s m args below meth c D B g nn 229 14 [(0, .ref (B + x0)), (1, .ref (B + x1)), (2, .int x2), (5, .int x5), (6, .int x6), (7, .int x7), (8, .int x8), (9, .int x9), (10, .int x10), (11, .int x11), (12, .int x12), (13, .int x13)] [] σ (js_QI D B g nn r0 σ0)) : ∀ (x0 : Nat) (x1 : Nat) (x2 : Int32) (x5 : Int32) (x6 : Int32) (x7 : Int32) (x8 : Int32) (x9 : Int32) (x10 : Int32) (x11 : Int32) (x12 : Int32) (x13 : Int32) (σ : js_S) (r0 : Int32) (σ0 : js_S), fX12_rewrite_229b fu rc158 rc229 x0 x1 x2 x5 x6 x7 x8 x9 x10 x11 x12 x13 σ = some (r0, σ0) → ob_ nn 12 x0 → ob_ nn 20 x1 → js_at p l e 6 s m args below meth c D B g nn 229 14 [(0, .ref (B + x0)), (1, .ref (B + x1)), (2, .int x2), (5, .int x5), (6, .int x6), (7, .int x7), (8, .int x8), (9, .int x9), (10, .int x10), (11, .int x11), (12, .int x12), (13, .int x13)] [] σ (js_QI D B g nn r0 σ0) := by
  obtain ⟨hx, hb, hml, hown, ht, hK, hNw⟩ := id C
  intro x0 x1 x2 x5 x6 x7 x8 x9 x10 x11 x12 x13 σ r0 σ0 h t0 t1 H locs hT ls hl
  unfold fX12_rewrite_229b at h
  refine lv_iload hx hb dX12_rewrite_229 (lv_at hl 11 rfl) ?_
  refine lv_iload hx hb dX12_rewrite_231 (lv_at hl 10 rfl) ?_
  refine lv_icmp_ge (tgt := 274) hx hb dX12_rewrite_233 (by decide) (fun c1 => ?_) (fun c1 => ?_)
  · rw [if_pos c1] at h
    refine lv_iinc (v := x9 + 1) (lv' := [(9, .int (x9 + 1)), (0, .ref (B + x0)), (1, .ref (B + x1)), (2, .int x2), (5, .int x5), (6, .int x6), (7, .int x7), (8, .int x8), (10, .int x10), (11, .int x11), (12, .int x12), (13, .int x13)]) hx hb dX12_rewrite_274 hl (k := 7) rfl rfl (by decide) rfl (fun ls hl => ?_)
    refine lv_goto (tgt := 158) hx hb dX12_rewrite_277 (by decide) ?_
    exact hrc158 _ _ _ _ _ _ _ _ _ _ _ h t0 t1 H locs hT ls (lv_sub hl [1, 2, 3, 4, 5, 6, 7, 0] rfl)
  · rw [if_neg c1] at h
    refine lv_aload_n hx hb dX12_rewrite_236 rfl (lv_at hl 0 rfl) ?_
    refine js_gR C hT cfX12 t0 11 (by decide) (q := 20) rfl (by decide) lk_X12_34 dX12_rewrite_237 (fun t2a => ?_)
    refine lv_iload hx hb dX12_rewrite_240 (lv_at hl 6 rfl) ?_
    refine lv_iload hx hb dX12_rewrite_242 (lv_at hl 9 rfl) ?_
    refine lv_if_ge (tgt := 252) hx hb dX12_rewrite_244 (by decide) (fun c3 => ?_) (fun c3 => ?_)
    · rw [if_pos c3] at h
      refine lv_aload_n hx hb dX12_rewrite_252 rfl (lv_at hl 1 rfl) ?_
      refine lv_aload_n hx hb dX12_rewrite_253 rfl (lv_at hl 0 rfl) ?_
      refine js_gR C hT cfX12 t0 9 (by decide) (q := 20) rfl (by decide) lk_X12_28 dX12_rewrite_254 (fun t4a => ?_)
      refine lv_iload hx hb dX12_rewrite_257 (lv_at hl 9 rfl) ?_
      obtain ⟨g5, h⟩ := gd_some _ h
      refine js_iald C hT t4a g5 dX12_rewrite_259 ?_
      refine lv_iload hx hb dX12_rewrite_260 (lv_at hl 11 rfl) ?_
      refine lv_iadd hx hb dX12_rewrite_262 ?_
      obtain ⟨g6, h⟩ := gd_some _ h
      refine js_iald C hT t1 g6 dX12_rewrite_263 ?_
      exact wX12_rewrite_264 C hr hk rc158 hrc158 rc229 hrc229 _ _ _ _ _ _ _ _ _ _ _ _ _ _ _ _ _ _ h t0 t1 t2a H locs hT ls (lv_sub hl [0, 1, 2, 3, 4, 5, 6, 7, 8, 9, 10, 11] rfl)
    · rw [if_neg c3] at h
      refine lv_iload hx hb dX12_rewrite_247 (lv_at hl 8 rfl) ?_
      refine lv_goto (tgt := 264) hx hb dX12_rewrite_249 (by decide) ?_
      exact wX12_rewrite_264 C hr hk rc158 hrc158 rc229 hrc229 _ _ _ _ _ _ _ _ _ _ _ _ _ _ _ _ _ _ h t0 t1 t2a H locs hT ls (lv_sub hl [0, 1, 2, 3, 4, 5, 6, 7, 8, 9, 10, 11] rfl)
set_option maxHeartbeats 4000000 in
set_option maxRecDepth 20000 in
theorem wX12_rewrite_229 (C : js_C D g p m c cX12_rewrite 14 s args RX12) (hr : meth.sig.returnType = (some .int)) (hk : meth.locks = false) (rc158 : Nat → Nat → Int32 → Int32 → Int32 → Int32 → Int32 → Int32 → js_S → Option (Int32 × js_S)) (hrc158 : ∀ (x0 : Nat) (x1 : Nat) (x2 : Int32) (x5 : Int32) (x6 : Int32) (x7 : Int32) (x8 : Int32) (x9 : Int32) (σ : js_S) (r0 : Int32) (σ0 : js_S), rc158 x0 x1 x2 x5 x6 x7 x8 x9 σ = some (r0, σ0) → ob_ nn 12 x0 → ob_ nn 20 x1 → js_at p l e 6 s m args below meth c D B g nn 158 14 [(0, .ref (B + x0)), (1, .ref (B + x1)), (2, .int x2), (5, .int x5), (6, .int x6), (7, .int x7), (8, .int x8), (9, .int x9)] [] σ (js_QI D B g nn r0 σ0)) : ∀ (k : Nat), ∀ (x0 : Nat) (x1 : Nat) (x2 : Int32) (x5 : Int32) (x6 : Int32) (x7 : Int32) (x8 : Int32) (x9 : Int32) (x10 : Int32) (x11 : Int32) (x12 : Int32) (x13 : Int32) (σ : js_S) (r0 : Int32) (σ0 : js_S), fX12_rewrite_229 fu rc158 k x0 x1 x2 x5 x6 x7 x8 x9 x10 x11 x12 x13 σ = some (r0, σ0) → ob_ nn 12 x0 → ob_ nn 20 x1 → js_at p l e 6 s m args below meth c D B g nn 229 14 [(0, .ref (B + x0)), (1, .ref (B + x1)), (2, .int x2), (5, .int x5), (6, .int x6), (7, .int x7), (8, .int x8), (9, .int x9), (10, .int x10), (11, .int x11), (12, .int x12), (13, .int x13)] [] σ (js_QI D B g nn r0 σ0) := by
  intro k
  induction k with
  | zero =>
    intro x0 x1 x2 x5 x6 x7 x8 x9 x10 x11 x12 x13 σ r0 σ0 h
    cases h
  | succ k ih =>
    intro x0 x1 x2 x5 x6 x7 x8 x9 x10 x11 x12 x13 σ r0 σ0 h
    exact wX12_rewrite_229b C hr hk rc158 hrc158 (fX12_rewrite_229 fu rc158 k) ih x0 x1 x2 x5 x6 x7 x8 x9 x10 x11 x12 x13 σ r0 σ0 h
set_option maxHeartbeats 4000000 in
set_option maxRecDepth 20000 in
theorem wX12_rewrite_224 (C : js_C D g p m c cX12_rewrite 14 s args RX12) (hr : meth.sig.returnType = (some .int)) (hk : meth.locks = false) (rc158 : Nat → Nat → Int32 → Int32 → Int32 → Int32 → Int32 → Int32 → js_S → Option (Int32 × js_S)) (hrc158 : ∀ (x0 : Nat) (x1 : Nat) (x2 : Int32) (x5 : Int32) (x6 : Int32) (x7 : Int32) (x8 : Int32) (x9 : Int32) (σ : js_S) (r0 : Int32) (σ0 : js_S), rc158 x0 x1 x2 x5 x6 x7 x8 x9 σ = some (r0, σ0) → ob_ nn 12 x0 → ob_ nn 20 x1 → js_at p l e 6 s m args below meth c D B g nn 158 14 [(0, .ref (B + x0)), (1, .ref (B + x1)), (2, .int x2), (5, .int x5), (6, .int x6), (7, .int x7), (8, .int x8), (9, .int x9)] [] σ (js_QI D B g nn r0 σ0)) : ∀ (x0 : Nat) (x1 : Nat) (x2 : Int32) (x5 : Int32) (x6 : Int32) (x7 : Int32) (x8 : Int32) (x9 : Int32) (x10 : Int32) (x11 : Int32) (y0 : Int32) (σ : js_S) (r0 : Int32) (σ0 : js_S), fX12_rewrite_224 fu rc158 x0 x1 x2 x5 x6 x7 x8 x9 x10 x11 y0 σ = some (r0, σ0) → ob_ nn 12 x0 → ob_ nn 20 x1 → js_at p l e 6 s m args below meth c D B g nn 224 14 [(0, .ref (B + x0)), (1, .ref (B + x1)), (2, .int x2), (5, .int x5), (6, .int x6), (7, .int x7), (8, .int x8), (9, .int x9), (10, .int x10), (11, .int x11)] [.int y0] σ (js_QI D B g nn r0 σ0) := by
  obtain ⟨hx, hb, hml, hown, ht, hK, hNw⟩ := id C
  intro x0 x1 x2 x5 x6 x7 x8 x9 x10 x11 y0 σ r0 σ0 h t0 t1 H locs hT ls hl
  unfold fX12_rewrite_224 at h
  refine lv_istore (lv' := [(12, .int y0), (0, .ref (B + x0)), (1, .ref (B + x1)), (2, .int x2), (5, .int x5), (6, .int x6), (7, .int x7), (8, .int x8), (9, .int x9), (10, .int x10), (11, .int x11)]) hx hb dX12_rewrite_224 hl (by decide) rfl (fun ls hl => ?_)
  refine lv_iconst (v := 0) hx hb dX12_rewrite_226 (by decide) ?_
  refine lv_istore (lv' := [(13, .int 0), (12, .int y0), (0, .ref (B + x0)), (1, .ref (B + x1)), (2, .int x2), (5, .int x5), (6, .int x6), (7, .int x7), (8, .int x8), (9, .int x9), (10, .int x10), (11, .int x11)]) hx hb dX12_rewrite_227 hl (by decide) rfl (fun ls hl => ?_)
  exact wX12_rewrite_229 C hr hk rc158 hrc158 _ _ _ _ _ _ _ _ _ _ _ _ _ _ _ _ h t0 t1 H locs hT ls (lv_sub hl [2, 3, 4, 5, 6, 7, 8, 9, 10, 11, 1, 0] rfl)
set_option maxHeartbeats 4000000 in
set_option maxRecDepth 20000 in
theorem wX12_rewrite_206 (C : js_C D g p m c cX12_rewrite 14 s args RX12) (hr : meth.sig.returnType = (some .int)) (hk : meth.locks = false) (rc158 : Nat → Nat → Int32 → Int32 → Int32 → Int32 → Int32 → Int32 → js_S → Option (Int32 × js_S)) (hrc158 : ∀ (x0 : Nat) (x1 : Nat) (x2 : Int32) (x5 : Int32) (x6 : Int32) (x7 : Int32) (x8 : Int32) (x9 : Int32) (σ : js_S) (r0 : Int32) (σ0 : js_S), rc158 x0 x1 x2 x5 x6 x7 x8 x9 σ = some (r0, σ0) → ob_ nn 12 x0 → ob_ nn 20 x1 → js_at p l e 6 s m args below meth c D B g nn 158 14 [(0, .ref (B + x0)), (1, .ref (B + x1)), (2, .int x2), (5, .int x5), (6, .int x6), (7, .int x7), (8, .int x8), (9, .int x9)] [] σ (js_QI D B g nn r0 σ0)) : ∀ (x0 : Nat) (x1 : Nat) (x2 : Int32) (x5 : Int32) (x6 : Int32) (x7 : Int32) (x8 : Int32) (x9 : Int32) (x10 : Int32) (y0 : Int32) (σ : js_S) (r0 : Int32) (σ0 : js_S), fX12_rewrite_206 fu rc158 x0 x1 x2 x5 x6 x7 x8 x9 x10 y0 σ = some (r0, σ0) → ob_ nn 12 x0 → ob_ nn 20 x1 → js_at p l e 6 s m args below meth c D B g nn 206 14 [(0, .ref (B + x0)), (1, .ref (B + x1)), (2, .int x2), (5, .int x5), (6, .int x6), (7, .int x7), (8, .int x8), (9, .int x9), (10, .int x10)] [.int y0] σ (js_QI D B g nn r0 σ0) := by
  obtain ⟨hx, hb, hml, hown, ht, hK, hNw⟩ := id C
  intro x0 x1 x2 x5 x6 x7 x8 x9 x10 y0 σ r0 σ0 h t0 t1 H locs hT ls hl
  unfold fX12_rewrite_206 at h
  refine lv_istore (lv' := [(11, .int y0), (0, .ref (B + x0)), (1, .ref (B + x1)), (2, .int x2), (5, .int x5), (6, .int x6), (7, .int x7), (8, .int x8), (9, .int x9), (10, .int x10)]) hx hb dX12_rewrite_206 hl (by decide) rfl (fun ls hl => ?_)
  refine lv_iload hx hb dX12_rewrite_208 (lv_at hl 0 rfl) ?_
  refine lv_if_ge (tgt := 217) hx hb dX12_rewrite_210 (by decide) (fun c1 => ?_) (fun c1 => ?_)
  · rw [if_pos c1] at h
    refine lv_aload_n hx hb dX12_rewrite_217 rfl (lv_at hl 1 rfl) ?_
    refine js_gR C hT cfX12 t0 10 (by decide) (q := 20) rfl (by decide) lk_X12_31 dX12_rewrite_218 (fun t2a => ?_)
    refine lv_iload hx hb dX12_rewrite_221 (lv_at hl 0 rfl) ?_
    obtain ⟨g3, h⟩ := gd_some _ h
    refine js_iald C hT t2a g3 dX12_rewrite_223 ?_
    exact wX12_rewrite_224 C hr hk rc158 hrc158 _ _ _ _ _ _ _ _ _ _ _ _ _ _ h t0 t1 H locs hT ls (lv_sub hl [1, 2, 3, 4, 5, 6, 7, 8, 9, 0] rfl)
  · rw [if_neg c1] at h
    refine lv_iconst (v := 1) hx hb dX12_rewrite_213 (by decide) ?_
    refine lv_goto (tgt := 224) hx hb dX12_rewrite_214 (by decide) ?_
    exact wX12_rewrite_224 C hr hk rc158 hrc158 _ _ _ _ _ _ _ _ _ _ _ _ _ _ h t0 t1 H locs hT ls (lv_sub hl [1, 2, 3, 4, 5, 6, 7, 8, 9, 0] rfl)
set_option maxHeartbeats 4000000 in
set_option maxRecDepth 20000 in
theorem wX12_rewrite_158b (C : js_C D g p m c cX12_rewrite 14 s args RX12) (hr : meth.sig.returnType = (some .int)) (hk : meth.locks = false) (rc158 : Nat → Nat → Int32 → Int32 → Int32 → Int32 → Int32 → Int32 → js_S → Option (Int32 × js_S)) (hrc158 : ∀ (x0 : Nat) (x1 : Nat) (x2 : Int32) (x5 : Int32) (x6 : Int32) (x7 : Int32) (x8 : Int32) (x9 : Int32) (σ : js_S) (r0 : Int32) (σ0 : js_S), rc158 x0 x1 x2 x5 x6 x7 x8 x9 σ = some (r0, σ0) → ob_ nn 12 x0 → ob_ nn 20 x1 → js_at p l e 6 s m args below meth c D B g nn 158 14 [(0, .ref (B + x0)), (1, .ref (B + x1)), (2, .int x2), (5, .int x5), (6, .int x6), (7, .int x7), (8, .int x8), (9, .int x9)] [] σ (js_QI D B g nn r0 σ0)) : ∀ (x0 : Nat) (x1 : Nat) (x2 : Int32) (x5 : Int32) (x6 : Int32) (x7 : Int32) (x8 : Int32) (x9 : Int32) (σ : js_S) (r0 : Int32) (σ0 : js_S), fX12_rewrite_158b fu rc158 x0 x1 x2 x5 x6 x7 x8 x9 σ = some (r0, σ0) → ob_ nn 12 x0 → ob_ nn 20 x1 → js_at p l e 6 s m args below meth c D B g nn 158 14 [(0, .ref (B + x0)), (1, .ref (B + x1)), (2, .int x2), (5, .int x5), (6, .int x6), (7, .int x7), (8, .int x8), (9, .int x9)] [] σ (js_QI D B g nn r0 σ0) := by
  obtain ⟨hx, hb, hml, hown, ht, hK, hNw⟩ := id C
  intro x0 x1 x2 x5 x6 x7 x8 x9 σ r0 σ0 h t0 t1 H locs hT ls hl
  unfold fX12_rewrite_158b at h
  refine lv_iload hx hb dX12_rewrite_158 (lv_at hl 7 rfl) ?_
  refine lv_aload_n hx hb dX12_rewrite_160 rfl (lv_at hl 0 rfl) ?_
  refine js_gR C hT cfX12 t0 2 (by decide) (q := 20) rfl (by decide) lk_X12_16 dX12_rewrite_161 (fun t1a => ?_)
  refine lv_iload hx hb dX12_rewrite_164 (lv_at hl 3 rfl) ?_
  obtain ⟨r2, σ2, hc2, h⟩ := bd_some h
  refine js_backI hT (js_runS C hT mfX12_right lk_X12_145 (kX12_right  hc2) ⟨Nat.le_of_ble_eq_true rfl, Nat.le_of_ble_eq_true rfl⟩ rfl hl.1 rfl (Nat.le_of_ble_eq_true rfl) ⟨Nat.zero_le _, Nat.zero_le _⟩ dX12_rewrite_166) (fun H locs hT => ?_)
  obtain ⟨g3, h⟩ := gd_some _ h
  refine js_iald C hT t1a g3 dX12_rewrite_169 ?_
  refine lv_icmp_gt (tgt := 280) hx hb dX12_rewrite_170 (by decide) (fun c4 => ?_) (fun c4 => ?_)
  · rw [if_pos c4] at h
    refine lv_iload hx hb dX12_rewrite_280 (lv_at hl 4 rfl) ?_
    refine lv_istore (lv' := [(9, .int x6), (0, .ref (B + x0)), (1, .ref (B + x1)), (2, .int x2), (5, .int x5), (6, .int x6), (7, .int x7), (8, .int x8)]) hx hb dX12_rewrite_282 hl (by decide) rfl (fun ls hl => ?_)
    exact wX12_rewrite_284 C hr hk _ _ _ _ _ _ _ _ _ _ h t0 t1 H locs hT ls (lv_sub hl [1, 2, 3, 6, 7, 0] rfl)
  · rw [if_neg c4] at h
    refine lv_aload_n hx hb dX12_rewrite_173 rfl (lv_at hl 0 rfl) ?_
    refine js_gR C hT cfX12 t0 2 (by decide) (q := 20) rfl (by decide) lk_X12_16 dX12_rewrite_174 (fun t5a => ?_)
    refine lv_iload hx hb dX12_rewrite_177 (lv_at hl 3 rfl) ?_
    obtain ⟨r6, σ6, hc6, h⟩ := bd_some h
    refine js_backI hT (js_runS C hT mfX12_right lk_X12_145 (kX12_right  hc6) ⟨Nat.le_of_ble_eq_true rfl, Nat.le_of_ble_eq_true rfl⟩ rfl hl.1 rfl (Nat.le_of_ble_eq_true rfl) ⟨Nat.zero_le _, Nat.zero_le _⟩ dX12_rewrite_179) (fun H locs hT => ?_)
    refine lv_iload hx hb dX12_rewrite_182 (lv_at hl 7 rfl) ?_
    refine lv_iadd hx hb dX12_rewrite_184 ?_
    obtain ⟨g7, h⟩ := gd_some _ h
    refine js_iald C hT t5a g7 dX12_rewrite_185 ?_
    refine lv_istore (lv' := [(10, .int (σ6.1 (σ2.2.2 x0 2) (Int32.toNatClampNeg (r6 + x9)))), (0, .ref (B + x0)), (1, .ref (B + x1)), (2, .int x2), (5, .int x5), (6, .int x6), (7, .int x7), (8, .int x8), (9, .int x9)]) hx hb dX12_rewrite_186 hl (by decide) rfl (fun ls hl => ?_)
    refine lv_iload hx hb dX12_rewrite_188 (lv_at hl 0 rfl) ?_
    obtain ⟨r8, σ8, hc8, h⟩ := bd_some h
    refine js_backI hT (js_runS C hT mfX12_isVariable lk_X12_128 (kX12_isVariable  hc8) ⟨Nat.le_of_ble_eq_true rfl, Nat.le_of_ble_eq_true rfl⟩ rfl hl.1 rfl (Nat.le_of_ble_eq_true rfl) ⟨Nat.zero_le _, Nat.zero_le _⟩ dX12_rewrite_190) (fun H locs hT => ?_)
    refine lv_if_eq (tgt := 204) hx hb dX12_rewrite_193 (by decide) (fun c9 => ?_) (fun c9 => ?_)
    · rw [if_pos c9] at h
      refine lv_bipush (v := (-5)) hx hb dX12_rewrite_204 (by decide) ?_
      exact wX12_rewrite_206 C hr hk rc158 hrc158 _ _ _ _ _ _ _ _ _ _ _ _ _ h t0 t1 H locs hT ls (lv_sub hl [1, 2, 3, 4, 5, 6, 7, 8, 0] rfl)
    · rw [if_neg c9] at h
      refine lv_iload hx hb dX12_rewrite_196 (lv_at hl 0 rfl) ?_
      obtain ⟨r10, σ10, hc10, h⟩ := bd_some h
      refine js_backI hT (js_runS C hT mfX12_variable lk_X12_131 (kX12_variable  hc10) ⟨Nat.le_of_ble_eq_true rfl, Nat.le_of_ble_eq_true rfl⟩ rfl hl.1 rfl (Nat.le_of_ble_eq_true rfl) ⟨Nat.zero_le _, Nat.zero_le _⟩ dX12_rewrite_198) (fun H locs hT => ?_)
      refine lv_goto (tgt := 206) hx hb dX12_rewrite_201 (by decide) ?_
      exact wX12_rewrite_206 C hr hk rc158 hrc158 _ _ _ _ _ _ _ _ _ _ _ _ _ h t0 t1 H locs hT ls (lv_sub hl [1, 2, 3, 4, 5, 6, 7, 8, 0] rfl)
set_option maxHeartbeats 4000000 in
set_option maxRecDepth 20000 in
theorem wX12_rewrite_158 (C : js_C D g p m c cX12_rewrite 14 s args RX12) (hr : meth.sig.returnType = (some .int)) (hk : meth.locks = false) : ∀ (k : Nat), ∀ (x0 : Nat) (x1 : Nat) (x2 : Int32) (x5 : Int32) (x6 : Int32) (x7 : Int32) (x8 : Int32) (x9 : Int32) (σ : js_S) (r0 : Int32) (σ0 : js_S), fX12_rewrite_158 fu k x0 x1 x2 x5 x6 x7 x8 x9 σ = some (r0, σ0) → ob_ nn 12 x0 → ob_ nn 20 x1 → js_at p l e 6 s m args below meth c D B g nn 158 14 [(0, .ref (B + x0)), (1, .ref (B + x1)), (2, .int x2), (5, .int x5), (6, .int x6), (7, .int x7), (8, .int x8), (9, .int x9)] [] σ (js_QI D B g nn r0 σ0) := by
  intro k
  induction k with
  | zero =>
    intro x0 x1 x2 x5 x6 x7 x8 x9 σ r0 σ0 h
    cases h
  | succ k ih =>
    intro x0 x1 x2 x5 x6 x7 x8 x9 σ r0 σ0 h
    exact wX12_rewrite_158b C hr hk (fX12_rewrite_158 fu k) ih x0 x1 x2 x5 x6 x7 x8 x9 σ r0 σ0 h
set_option maxHeartbeats 4000000 in
set_option maxRecDepth 20000 in
theorem wX12_rewrite_128b (C : js_C D g p m c cX12_rewrite 14 s args RX12) (hr : meth.sig.returnType = (some .int)) (hk : meth.locks = false) (rc128 : Nat → Nat → Int32 → Int32 → Int32 → Int32 → Int32 → Int32 → Int32 → js_S → Option (Int32 × js_S)) (hrc128 : ∀ (x0 : Nat) (x1 : Nat) (x2 : Int32) (x4 : Int32) (x5 : Int32) (x6 : Int32) (x7 : Int32) (x8 : Int32) (x9 : Int32) (σ : js_S) (r0 : Int32) (σ0 : js_S), rc128 x0 x1 x2 x4 x5 x6 x7 x8 x9 σ = some (r0, σ0) → ob_ nn 12 x0 → ob_ nn 20 x1 → js_at p l e 6 s m args below meth c D B g nn 128 14 [(0, .ref (B + x0)), (1, .ref (B + x1)), (2, .int x2), (4, .int x4), (5, .int x5), (6, .int x6), (7, .int x7), (8, .int x8), (9, .int x9)] [] σ (js_QI D B g nn r0 σ0)) : ∀ (x0 : Nat) (x1 : Nat) (x2 : Int32) (x4 : Int32) (x5 : Int32) (x6 : Int32) (x7 : Int32) (x8 : Int32) (x9 : Int32) (σ : js_S) (r0 : Int32) (σ0 : js_S), fX12_rewrite_128b fu rc128 x0 x1 x2 x4 x5 x6 x7 x8 x9 σ = some (r0, σ0) → ob_ nn 12 x0 → ob_ nn 20 x1 → js_at p l e 6 s m args below meth c D B g nn 128 14 [(0, .ref (B + x0)), (1, .ref (B + x1)), (2, .int x2), (4, .int x4), (5, .int x5), (6, .int x6), (7, .int x7), (8, .int x8), (9, .int x9)] [] σ (js_QI D B g nn r0 σ0) := by
  obtain ⟨hx, hb, hml, hown, ht, hK, hNw⟩ := id C
  intro x0 x1 x2 x4 x5 x6 x7 x8 x9 σ r0 σ0 h t0 t1 H locs hT ls hl
  unfold fX12_rewrite_128b at h
  refine lv_iload hx hb dX12_rewrite_128 (lv_at hl 8 rfl) ?_
  refine lv_iload hx hb dX12_rewrite_130 (lv_at hl 3 rfl) ?_
  refine lv_icmp_ge (tgt := 155) hx hb dX12_rewrite_132 (by decide) (fun c1 => ?_) (fun c1 => ?_)
  · rw [if_pos c1] at h
    refine lv_iconst (v := 1) hx hb dX12_rewrite_155 (by decide) ?_
    refine lv_istore (lv' := [(9, .int 1), (0, .ref (B + x0)), (1, .ref (B + x1)), (2, .int x2), (4, .int x4), (5, .int x5), (6, .int x6), (7, .int x7), (8, .int x8)]) hx hb dX12_rewrite_156 hl (by decide) rfl (fun ls hl => ?_)
    exact wX12_rewrite_158 C hr hk _ _ _ _ _ _ _ _ _ _ _ _ h t0 t1 H locs hT ls (lv_sub hl [1, 2, 3, 5, 6, 7, 8, 0] rfl)
  · rw [if_neg c1] at h
    refine lv_aload_n hx hb dX12_rewrite_135 rfl (lv_at hl 0 rfl) ?_
    refine js_gR C hT cfX12 t0 11 (by decide) (q := 20) rfl (by decide) lk_X12_34 dX12_rewrite_136 (fun t2a => ?_)
    refine lv_iload hx hb dX12_rewrite_139 (lv_at hl 7 rfl) ?_
    refine lv_aload_n hx hb dX12_rewrite_141 rfl (lv_at hl 1 rfl) ?_
    refine lv_iload hx hb dX12_rewrite_142 (lv_at hl 8 rfl) ?_
    obtain ⟨g3, h⟩ := gd_some _ h
    refine js_iald C hT t1 g3 dX12_rewrite_144 ?_
    obtain ⟨g4, h⟩ := gd_some _ h
    obtain ⟨σ4, e4, h⟩ := lt_some h
    refine js_iast C hT t2a g4 dX12_rewrite_145 (fun H locs hT => ?_)
    rw [e4] at hT
    refine lv_iinc (v := x8 + 1) (lv' := [(8, .int (x8 + 1)), (0, .ref (B + x0)), (1, .ref (B + x1)), (2, .int x2), (4, .int x4), (5, .int x5), (6, .int x6), (7, .int x7), (9, .int x9)]) hx hb dX12_rewrite_146 hl (k := 7) rfl rfl (by decide) rfl (fun ls hl => ?_)
    refine lv_iinc (v := x9 + 1) (lv' := [(9, .int (x9 + 1)), (8, .int (x8 + 1)), (0, .ref (B + x0)), (1, .ref (B + x1)), (2, .int x2), (4, .int x4), (5, .int x5), (6, .int x6), (7, .int x7)]) hx hb dX12_rewrite_149 hl (k := 8) rfl rfl (by decide) rfl (fun ls hl => ?_)
    refine lv_goto (tgt := 128) hx hb dX12_rewrite_152 (by decide) ?_
    exact hrc128 _ _ _ _ _ _ _ _ _ _ _ _ h t0 t1 H locs hT ls (lv_sub hl [2, 3, 4, 5, 6, 7, 8, 1, 0] rfl)
set_option maxHeartbeats 4000000 in
set_option maxRecDepth 20000 in
theorem wX12_rewrite_128 (C : js_C D g p m c cX12_rewrite 14 s args RX12) (hr : meth.sig.returnType = (some .int)) (hk : meth.locks = false) : ∀ (k : Nat), ∀ (x0 : Nat) (x1 : Nat) (x2 : Int32) (x4 : Int32) (x5 : Int32) (x6 : Int32) (x7 : Int32) (x8 : Int32) (x9 : Int32) (σ : js_S) (r0 : Int32) (σ0 : js_S), fX12_rewrite_128 fu k x0 x1 x2 x4 x5 x6 x7 x8 x9 σ = some (r0, σ0) → ob_ nn 12 x0 → ob_ nn 20 x1 → js_at p l e 6 s m args below meth c D B g nn 128 14 [(0, .ref (B + x0)), (1, .ref (B + x1)), (2, .int x2), (4, .int x4), (5, .int x5), (6, .int x6), (7, .int x7), (8, .int x8), (9, .int x9)] [] σ (js_QI D B g nn r0 σ0) := by
  intro k
  induction k with
  | zero =>
    intro x0 x1 x2 x4 x5 x6 x7 x8 x9 σ r0 σ0 h
    cases h
  | succ k ih =>
    intro x0 x1 x2 x4 x5 x6 x7 x8 x9 σ r0 σ0 h
    exact wX12_rewrite_128b C hr hk (fX12_rewrite_128 fu k) ih x0 x1 x2 x4 x5 x6 x7 x8 x9 σ r0 σ0 h
set_option maxHeartbeats 4000000 in
set_option maxRecDepth 20000 in
theorem wX12_rewrite_101 (C : js_C D g p m c cX12_rewrite 14 s args RX12) (hr : meth.sig.returnType = (some .int)) (hk : meth.locks = false) (rc47 : Nat → Nat → Int32 → Int32 → Int32 → Int32 → Int32 → Int32 → js_S → Option (Int32 × js_S)) (hrc47 : ∀ (x0 : Nat) (x1 : Nat) (x2 : Int32) (x4 : Int32) (x5 : Int32) (x6 : Int32) (x7 : Int32) (x8 : Int32) (σ : js_S) (r0 : Int32) (σ0 : js_S), rc47 x0 x1 x2 x4 x5 x6 x7 x8 σ = some (r0, σ0) → ob_ nn 12 x0 → ob_ nn 20 x1 → js_at p l e 6 s m args below meth c D B g nn 47 14 [(0, .ref (B + x0)), (1, .ref (B + x1)), (2, .int x2), (4, .int x4), (5, .int x5), (6, .int x6), (7, .int x7), (8, .int x8)] [] σ (js_QI D B g nn r0 σ0)) : ∀ (x0 : Nat) (x1 : Nat) (x2 : Int32) (x4 : Int32) (x5 : Int32) (x6 : Int32) (x8 : Int32) (y0 : Int32) (y1 : Int32) (σ : js_S) (r0 : Int32) (σ0 : js_S), fX12_rewrite_101 fu rc47 x0 x1 x2 x4 x5 x6 x8 y0 y1 σ = some (r0, σ0) → ob_ nn 12 x0 → ob_ nn 20 x1 → js_at p l e 6 s m args below meth c D B g nn 101 14 [(0, .ref (B + x0)), (1, .ref (B + x1)), (2, .int x2), (4, .int x4), (5, .int x5), (6, .int x6), (8, .int x8)] [.int y0, .int y1] σ (js_QI D B g nn r0 σ0) := by
  obtain ⟨hx, hb, hml, hown, ht, hK, hNw⟩ := id C
  intro x0 x1 x2 x4 x5 x6 x8 y0 y1 σ r0 σ0 h t0 t1 H locs hT ls hl
  unfold fX12_rewrite_101 at h
  refine lv_iadd hx hb dX12_rewrite_101 ?_
  refine lv_istore (lv' := [(7, .int (y1 + y0)), (0, .ref (B + x0)), (1, .ref (B + x1)), (2, .int x2), (4, .int x4), (5, .int x5), (6, .int x6), (8, .int x8)]) hx hb dX12_rewrite_102 hl (by decide) rfl (fun ls hl => ?_)
  refine lv_iinc (v := x8 + 1) (lv' := [(8, .int (x8 + 1)), (7, .int (y1 + y0)), (0, .ref (B + x0)), (1, .ref (B + x1)), (2, .int x2), (4, .int x4), (5, .int x5), (6, .int x6)]) hx hb dX12_rewrite_104 hl (k := 7) rfl rfl (by decide) rfl (fun ls hl => ?_)
  refine lv_goto (tgt := 47) hx hb dX12_rewrite_107 (by decide) ?_
  exact hrc47 _ _ _ _ _ _ _ _ _ _ _ h t0 t1 H locs hT ls (lv_sub hl [2, 3, 4, 5, 6, 7, 1, 0] rfl)
set_option maxHeartbeats 4000000 in
set_option maxRecDepth 20000 in
theorem wX12_rewrite_47b (C : js_C D g p m c cX12_rewrite 14 s args RX12) (hr : meth.sig.returnType = (some .int)) (hk : meth.locks = false) (rc47 : Nat → Nat → Int32 → Int32 → Int32 → Int32 → Int32 → Int32 → js_S → Option (Int32 × js_S)) (hrc47 : ∀ (x0 : Nat) (x1 : Nat) (x2 : Int32) (x4 : Int32) (x5 : Int32) (x6 : Int32) (x7 : Int32) (x8 : Int32) (σ : js_S) (r0 : Int32) (σ0 : js_S), rc47 x0 x1 x2 x4 x5 x6 x7 x8 σ = some (r0, σ0) → ob_ nn 12 x0 → ob_ nn 20 x1 → js_at p l e 6 s m args below meth c D B g nn 47 14 [(0, .ref (B + x0)), (1, .ref (B + x1)), (2, .int x2), (4, .int x4), (5, .int x5), (6, .int x6), (7, .int x7), (8, .int x8)] [] σ (js_QI D B g nn r0 σ0)) : ∀ (x0 : Nat) (x1 : Nat) (x2 : Int32) (x4 : Int32) (x5 : Int32) (x6 : Int32) (x7 : Int32) (x8 : Int32) (σ : js_S) (r0 : Int32) (σ0 : js_S), fX12_rewrite_47b fu rc47 x0 x1 x2 x4 x5 x6 x7 x8 σ = some (r0, σ0) → ob_ nn 12 x0 → ob_ nn 20 x1 → js_at p l e 6 s m args below meth c D B g nn 47 14 [(0, .ref (B + x0)), (1, .ref (B + x1)), (2, .int x2), (4, .int x4), (5, .int x5), (6, .int x6), (7, .int x7), (8, .int x8)] [] σ (js_QI D B g nn r0 σ0) := by
  obtain ⟨hx, hb, hml, hown, ht, hK, hNw⟩ := id C
  intro x0 x1 x2 x4 x5 x6 x7 x8 σ r0 σ0 h t0 t1 H locs hT ls hl
  unfold fX12_rewrite_47b at h
  refine lv_iload hx hb dX12_rewrite_47 (lv_at hl 7 rfl) ?_
  refine lv_aload_n hx hb dX12_rewrite_49 rfl (lv_at hl 0 rfl) ?_
  refine js_gR C hT cfX12 t0 2 (by decide) (q := 20) rfl (by decide) lk_X12_16 dX12_rewrite_50 (fun t1a => ?_)
  refine lv_iload hx hb dX12_rewrite_53 (lv_at hl 4 rfl) ?_
  obtain ⟨r2, σ2, hc2, h⟩ := bd_some h
  refine js_backI hT (js_runS C hT mfX12_right lk_X12_145 (kX12_right  hc2) ⟨Nat.le_of_ble_eq_true rfl, Nat.le_of_ble_eq_true rfl⟩ rfl hl.1 rfl (Nat.le_of_ble_eq_true rfl) ⟨Nat.zero_le _, Nat.zero_le _⟩ dX12_rewrite_55) (fun H locs hT => ?_)
  obtain ⟨g3, h⟩ := gd_some _ h
  refine js_iald C hT t1a g3 dX12_rewrite_58 ?_
  refine lv_icmp_gt (tgt := 110) hx hb dX12_rewrite_59 (by decide) (fun c4 => ?_) (fun c4 => ?_)
  · rw [if_pos c4] at h
    refine lv_iload hx hb dX12_rewrite_110 (lv_at hl 6 rfl) ?_
    refine lv_bipush (v := 40) hx hb dX12_rewrite_112 (by decide) ?_
    refine lv_icmp_le (tgt := 120) hx hb dX12_rewrite_114 (by decide) (fun c5 => ?_) (fun c5 => ?_)
    · rw [if_pos c5] at h
      refine lv_iconst (v := 1) hx hb dX12_rewrite_120 (by decide) ?_
      refine lv_istore (lv' := [(8, .int 1), (0, .ref (B + x0)), (1, .ref (B + x1)), (2, .int x2), (4, .int x4), (5, .int x5), (6, .int x6), (7, .int x7)]) hx hb dX12_rewrite_121 hl (by decide) rfl (fun ls hl => ?_)
      refine lv_iload_n hx hb dX12_rewrite_123 rfl (lv_at hl 3 rfl) ?_
      refine lv_iconst (v := 1) hx hb dX12_rewrite_124 (by decide) ?_
      refine lv_iadd hx hb dX12_rewrite_125 ?_
      refine lv_istore (lv' := [(9, .int (x2 + 1)), (8, .int 1), (0, .ref (B + x0)), (1, .ref (B + x1)), (2, .int x2), (4, .int x4), (5, .int x5), (6, .int x6), (7, .int x7)]) hx hb dX12_rewrite_126 hl (by decide) rfl (fun ls hl => ?_)
      exact wX12_rewrite_128 C hr hk _ _ _ _ _ _ _ _ _ _ _ _ _ h t0 t1 H locs hT ls (lv_sub hl [2, 3, 4, 5, 6, 7, 8, 1, 0] rfl)
    · rw [if_neg c5] at h
      refine lv_bipush (v := (-8)) hx hb dX12_rewrite_117 (by decide) ?_
      obtain ⟨rfl, rfl⟩ := js_rt h
      exact js_iret C hT hr hk dX12_rewrite_119
  · rw [if_neg c4] at h
    refine lv_aload_n hx hb dX12_rewrite_62 rfl (lv_at hl 0 rfl) ?_
    refine js_gR C hT cfX12 t0 2 (by decide) (q := 20) rfl (by decide) lk_X12_16 dX12_rewrite_63 (fun t6a => ?_)
    refine lv_iload hx hb dX12_rewrite_66 (lv_at hl 4 rfl) ?_
    obtain ⟨r7, σ7, hc7, h⟩ := bd_some h
    refine js_backI hT (js_runS C hT mfX12_right lk_X12_145 (kX12_right  hc7) ⟨Nat.le_of_ble_eq_true rfl, Nat.le_of_ble_eq_true rfl⟩ rfl hl.1 rfl (Nat.le_of_ble_eq_true rfl) ⟨Nat.zero_le _, Nat.zero_le _⟩ dX12_rewrite_68) (fun H locs hT => ?_)
    refine lv_iload hx hb dX12_rewrite_71 (lv_at hl 7 rfl) ?_
    refine lv_iadd hx hb dX12_rewrite_73 ?_
    obtain ⟨g8, h⟩ := gd_some _ h
    refine js_iald C hT t6a g8 dX12_rewrite_74 ?_
    refine lv_istore (lv' := [(9, .int (σ7.1 (σ2.2.2 x0 2) (Int32.toNatClampNeg (r7 + x8)))), (0, .ref (B + x0)), (1, .ref (B + x1)), (2, .int x2), (4, .int x4), (5, .int x5), (6, .int x6), (7, .int x7), (8, .int x8)]) hx hb dX12_rewrite_75 hl (by decide) rfl (fun ls hl => ?_)
    refine lv_iload hx hb dX12_rewrite_77 (lv_at hl 7 rfl) ?_
    refine lv_iload hx hb dX12_rewrite_79 (lv_at hl 0 rfl) ?_
    obtain ⟨r9, σ9, hc9, h⟩ := bd_some h
    refine js_backI hT (js_runS C hT mfX12_isVariable lk_X12_128 (kX12_isVariable  hc9) ⟨Nat.le_of_ble_eq_true rfl, Nat.le_of_ble_eq_true rfl⟩ rfl hl.1 rfl (Nat.le_of_ble_eq_true rfl) ⟨Nat.zero_le _, Nat.zero_le _⟩ dX12_rewrite_81) (fun H locs hT => ?_)
    refine lv_if_eq (tgt := 100) hx hb dX12_rewrite_84 (by decide) (fun c10 => ?_) (fun c10 => ?_)
    · rw [if_pos c10] at h
      refine lv_iconst (v := 1) hx hb dX12_rewrite_100 (by decide) ?_
      exact wX12_rewrite_101 C hr hk rc47 hrc47 _ _ _ _ _ _ _ _ _ _ _ _ h t0 t1 H locs hT ls (lv_sub hl [1, 2, 3, 4, 5, 6, 8] rfl)
    · rw [if_neg c10] at h
      refine lv_aload_n hx hb dX12_rewrite_87 rfl (lv_at hl 1 rfl) ?_
      refine js_gR C hT cfX12 t0 10 (by decide) (q := 20) rfl (by decide) lk_X12_31 dX12_rewrite_88 (fun t11a => ?_)
      refine lv_iload hx hb dX12_rewrite_91 (lv_at hl 0 rfl) ?_
      obtain ⟨r12, σ12, hc12, h⟩ := bd_some h
      refine js_backI hT (js_runS C hT mfX12_variable lk_X12_131 (kX12_variable  hc12) ⟨Nat.le_of_ble_eq_true rfl, Nat.le_of_ble_eq_true rfl⟩ rfl hl.1 rfl (Nat.le_of_ble_eq_true rfl) ⟨Nat.zero_le _, Nat.zero_le _⟩ dX12_rewrite_93) (fun H locs hT => ?_)
      obtain ⟨g13, h⟩ := gd_some _ h
      refine js_iald C hT t11a g13 dX12_rewrite_96 ?_
      refine lv_goto (tgt := 101) hx hb dX12_rewrite_97 (by decide) ?_
      exact wX12_rewrite_101 C hr hk rc47 hrc47 _ _ _ _ _ _ _ _ _ _ _ _ h t0 t1 H locs hT ls (lv_sub hl [1, 2, 3, 4, 5, 6, 8] rfl)
set_option maxHeartbeats 4000000 in
set_option maxRecDepth 20000 in
theorem wX12_rewrite_47 (C : js_C D g p m c cX12_rewrite 14 s args RX12) (hr : meth.sig.returnType = (some .int)) (hk : meth.locks = false) : ∀ (k : Nat), ∀ (x0 : Nat) (x1 : Nat) (x2 : Int32) (x4 : Int32) (x5 : Int32) (x6 : Int32) (x7 : Int32) (x8 : Int32) (σ : js_S) (r0 : Int32) (σ0 : js_S), fX12_rewrite_47 fu k x0 x1 x2 x4 x5 x6 x7 x8 σ = some (r0, σ0) → ob_ nn 12 x0 → ob_ nn 20 x1 → js_at p l e 6 s m args below meth c D B g nn 47 14 [(0, .ref (B + x0)), (1, .ref (B + x1)), (2, .int x2), (4, .int x4), (5, .int x5), (6, .int x6), (7, .int x7), (8, .int x8)] [] σ (js_QI D B g nn r0 σ0) := by
  intro k
  induction k with
  | zero =>
    intro x0 x1 x2 x4 x5 x6 x7 x8 σ r0 σ0 h
    cases h
  | succ k ih =>
    intro x0 x1 x2 x4 x5 x6 x7 x8 σ r0 σ0 h
    exact wX12_rewrite_47b C hr hk (fX12_rewrite_47 fu k) ih x0 x1 x2 x4 x5 x6 x7 x8 σ r0 σ0 h
set_option maxHeartbeats 4000000 in
set_option maxRecDepth 20000 in
theorem kX12_rewrite {x0 : Nat} {x1 : Nat} {x2 : Int32} {x3 : Int32} {σ σ0 : js_S} {r0 : Int32} (t0 : ob_ nn 12 x0) (t1 : ob_ nn 20 x1) (h : fX12_rewrite fu x0 x1 x2 x3 σ = some (r0, σ0)) : js_M l D B g nn yX12_rewrite cX12_rewrite 14 (some .int) 6 [.ref (B + x0), .ref (B + x1), .int x2, .int x3] σ (js_QI D B g nn r0 σ0) := by
  refine js_enter (by decide) (Nat.le_of_ble_eq_true rfl) ?_
  intro p e s m args below meth c C hr hk ls hl hT
  have hl : lv_has ls 14 [(0, .ref (B + x0)), (1, .ref (B + x1)), (2, .int x2), (3, .int x3)] := hl
  obtain ⟨hx, hb, hml, hown, ht, hK, hNw⟩ := id C
  obtain ⟨H, eH⟩ : ∃ H, H = s.heap := ⟨_, rfl⟩
  obtain ⟨locs, eL⟩ : ∃ z : List Loc, z = [] := ⟨_, rfl⟩
  rw [← eH, ← eL]
  rw [← eH, ← eL] at hT
  clear eH eL
  unfold fX12_rewrite at h
  refine lv_iload_n hx hb dX12_rewrite_0 rfl (lv_at hl 2 rfl) ?_
  refine lv_iconst (v := 1) hx hb dX12_rewrite_1 (by decide) ?_
  refine lv_iadd hx hb dX12_rewrite_2 ?_
  refine lv_iload_n hx hb dX12_rewrite_3 rfl (lv_at hl 3 rfl) ?_
  refine lv_iadd hx hb dX12_rewrite_4 ?_
  refine lv_istore (lv' := [(4, .int ((x2 + 1) + x3)), (0, .ref (B + x0)), (1, .ref (B + x1)), (2, .int x2), (3, .int x3)]) hx hb dX12_rewrite_5 hl (by decide) rfl (fun ls hl => ?_)
  refine lv_aload_n hx hb dX12_rewrite_7 rfl (lv_at hl 1 rfl) ?_
  refine lv_aload_n hx hb dX12_rewrite_8 rfl (lv_at hl 2 rfl) ?_
  refine lv_iload hx hb dX12_rewrite_9 (lv_at hl 0 rfl) ?_
  obtain ⟨r1, σ1, hc1, h⟩ := bd_some h
  refine js_backI hT (js_runV C hT cfX12 t0 rfl mfX12_matching lk_X12_142 (kX12_matching t0 t1 hc1) ⟨Nat.le_of_ble_eq_true rfl, Nat.le_of_ble_eq_true rfl⟩ rfl hl.1 rfl (Nat.le_of_ble_eq_true rfl) ⟨Nat.zero_le _, Nat.zero_le _⟩ dX12_rewrite_11) (fun H locs hT => ?_)
  refine lv_istore (lv' := [(5, .int r1), (4, .int ((x2 + 1) + x3)), (0, .ref (B + x0)), (1, .ref (B + x1)), (2, .int x2), (3, .int x3)]) hx hb dX12_rewrite_14 hl (by decide) rfl (fun ls hl => ?_)
  refine lv_iload hx hb dX12_rewrite_16 (lv_at hl 0 rfl) ?_
  refine lv_if_ge (tgt := 24) hx hb dX12_rewrite_18 (by decide) (fun c2 => ?_) (fun c2 => ?_)
  · rw [if_pos c2] at h
    refine lv_aload_n hx hb dX12_rewrite_24 rfl (lv_at hl 2 rfl) ?_
    refine lv_aload_n hx hb dX12_rewrite_25 rfl (lv_at hl 3 rfl) ?_
    refine lv_iload hx hb dX12_rewrite_26 (lv_at hl 1 rfl) ?_
    obtain ⟨r3, σ3, hc3, h⟩ := bd_some h
    refine js_backI hT (js_runV C hT cfX12 t0 rfl mfX12_end lk_X12_117 (kX12_end t0 t1 hc3) ⟨Nat.le_of_ble_eq_true rfl, Nat.le_of_ble_eq_true rfl⟩ rfl hl.1 rfl (Nat.le_of_ble_eq_true rfl) ⟨Nat.zero_le _, Nat.zero_le _⟩ dX12_rewrite_28) (fun H locs hT => ?_)
    refine lv_istore (lv' := [(6, .int r3), (5, .int r1), (4, .int ((x2 + 1) + x3)), (0, .ref (B + x0)), (1, .ref (B + x1)), (2, .int x2), (3, .int x3)]) hx hb dX12_rewrite_31 hl (by decide) rfl (fun ls hl => ?_)
    refine lv_aload_n hx hb dX12_rewrite_33 rfl (lv_at hl 4 rfl) ?_
    refine lv_iload_n hx hb dX12_rewrite_34 rfl (lv_at hl 5 rfl) ?_
    obtain ⟨g4, h⟩ := gd_some _ h
    refine js_iald C hT t1 g4 dX12_rewrite_35 ?_
    refine lv_iload hx hb dX12_rewrite_36 (lv_at hl 0 rfl) ?_
    refine lv_iload hx hb dX12_rewrite_38 (lv_at hl 2 rfl) ?_
    refine lv_isub hx hb dX12_rewrite_40 ?_
    refine lv_isub hx hb dX12_rewrite_41 ?_
    refine lv_istore (lv' := [(7, .int ((σ3.1 x1 (Int32.toNatClampNeg x2)) - (r3 - ((x2 + 1) + x3)))), (6, .int r3), (5, .int r1), (4, .int ((x2 + 1) + x3)), (0, .ref (B + x0)), (1, .ref (B + x1)), (2, .int x2), (3, .int x3)]) hx hb dX12_rewrite_42 hl (by decide) rfl (fun ls hl => ?_)
    refine lv_iconst (v := 1) hx hb dX12_rewrite_44 (by decide) ?_
    refine lv_istore (lv' := [(8, .int 1), (7, .int ((σ3.1 x1 (Int32.toNatClampNeg x2)) - (r3 - ((x2 + 1) + x3)))), (6, .int r3), (5, .int r1), (4, .int ((x2 + 1) + x3)), (0, .ref (B + x0)), (1, .ref (B + x1)), (2, .int x2), (3, .int x3)]) hx hb dX12_rewrite_45 hl (by decide) rfl (fun ls hl => ?_)
    exact wX12_rewrite_47 C hr hk _ _ _ _ _ _ _ _ _ _ _ _ h t0 t1 H locs hT ls (lv_sub hl [5, 6, 7, 4, 3, 2, 1, 0] rfl)
  · rw [if_neg c2] at h
    refine lv_bipush (v := (-5)) hx hb dX12_rewrite_21 (by decide) ?_
    obtain ⟨rfl, rfl⟩ := js_rt h
    exact js_iret C hT hr hk dX12_rewrite_23
set_option maxHeartbeats 4000000 in
set_option maxRecDepth 20000 in
theorem wX12_explore_108 (C : js_C D g p m c cX12_explore 5 s args RX12) (hr : meth.sig.returnType = none) (hk : meth.locks = false) (rc24 : Nat → Int32 → Int32 → js_S → Option (Unit × js_S)) (hrc24 : ∀ (x0 : Nat) (x2 : Int32) (x3 : Int32) (σ : js_S) (r0 : Unit) (σ0 : js_S), rc24 x0 x2 x3 σ = some (r0, σ0) → ob_ nn 12 x0 → js_at p l e 7 s m args below meth c D B g nn 24 5 [(0, .ref (B + x0)), (2, .int x2), (3, .int x3)] [] σ (js_QV D B g nn σ0)) (rc61 : Nat → Int32 → Int32 → Int32 → js_S → Option (Unit × js_S)) (hrc61 : ∀ (x0 : Nat) (x2 : Int32) (x3 : Int32) (x4 : Int32) (σ : js_S) (r0 : Unit) (σ0 : js_S), rc61 x0 x2 x3 x4 σ = some (r0, σ0) → ob_ nn 12 x0 → js_at p l e 7 s m args below meth c D B g nn 61 5 [(0, .ref (B + x0)), (2, .int x2), (3, .int x3), (4, .int x4)] [] σ (js_QV D B g nn σ0)) : ∀ (x0 : Nat) (x2 : Int32) (x3 : Int32) (x4 : Int32) (σ : js_S) (r0 : Unit) (σ0 : js_S), fX12_explore_108 fu rc24 rc61 x0 x2 x3 x4 σ = some (r0, σ0) → ob_ nn 12 x0 → js_at p l e 7 s m args below meth c D B g nn 108 5 [(0, .ref (B + x0)), (2, .int x2), (3, .int x3), (4, .int x4)] [] σ (js_QV D B g nn σ0) := by
  obtain ⟨hx, hb, hml, hown, ht, hK, hNw⟩ := id C
  intro x0 x2 x3 x4 σ r0 σ0 h t0 H locs hT ls hl
  unfold fX12_explore_108 at h
  refine lv_iinc (v := x4 + 1) (lv' := [(4, .int (x4 + 1)), (0, .ref (B + x0)), (2, .int x2), (3, .int x3)]) hx hb dX12_explore_108 hl (k := 3) rfl rfl (by decide) rfl (fun ls hl => ?_)
  refine lv_goto (tgt := 61) hx hb dX12_explore_111 (by decide) ?_
  exact hrc61 _ _ _ _ _ _ _ h t0 H locs hT ls (lv_sub hl [1, 2, 3, 0] rfl)
set_option maxHeartbeats 4000000 in
set_option maxRecDepth 20000 in
theorem wX12_explore_61b (C : js_C D g p m c cX12_explore 5 s args RX12) (hr : meth.sig.returnType = none) (hk : meth.locks = false) (rc24 : Nat → Int32 → Int32 → js_S → Option (Unit × js_S)) (hrc24 : ∀ (x0 : Nat) (x2 : Int32) (x3 : Int32) (σ : js_S) (r0 : Unit) (σ0 : js_S), rc24 x0 x2 x3 σ = some (r0, σ0) → ob_ nn 12 x0 → js_at p l e 7 s m args below meth c D B g nn 24 5 [(0, .ref (B + x0)), (2, .int x2), (3, .int x3)] [] σ (js_QV D B g nn σ0)) (rc61 : Nat → Int32 → Int32 → Int32 → js_S → Option (Unit × js_S)) (hrc61 : ∀ (x0 : Nat) (x2 : Int32) (x3 : Int32) (x4 : Int32) (σ : js_S) (r0 : Unit) (σ0 : js_S), rc61 x0 x2 x3 x4 σ = some (r0, σ0) → ob_ nn 12 x0 → js_at p l e 7 s m args below meth c D B g nn 61 5 [(0, .ref (B + x0)), (2, .int x2), (3, .int x3), (4, .int x4)] [] σ (js_QV D B g nn σ0)) : ∀ (x0 : Nat) (x2 : Int32) (x3 : Int32) (x4 : Int32) (σ : js_S) (r0 : Unit) (σ0 : js_S), fX12_explore_61b fu rc24 rc61 x0 x2 x3 x4 σ = some (r0, σ0) → ob_ nn 12 x0 → js_at p l e 7 s m args below meth c D B g nn 61 5 [(0, .ref (B + x0)), (2, .int x2), (3, .int x3), (4, .int x4)] [] σ (js_QV D B g nn σ0) := by
  obtain ⟨hx, hb, hml, hown, ht, hK, hNw⟩ := id C
  intro x0 x2 x3 x4 σ r0 σ0 h t0 H locs hT ls hl
  unfold fX12_explore_61b at h
  refine lv_iload hx hb dX12_explore_61 (lv_at hl 3 rfl) ?_
  refine lv_aload_n hx hb dX12_explore_63 rfl (lv_at hl 0 rfl) ?_
  refine js_gR C hT cfX12 t0 36 (by decide) (q := 20) rfl (by decide) lk_X12_95 dX12_explore_64 (fun t1a => ?_)
  refine lv_bipush (v := 96) hx hb dX12_explore_67 (by decide) ?_
  refine lv_iload_n hx hb dX12_explore_69 rfl (lv_at hl 2 rfl) ?_
  refine lv_imul hx hb dX12_explore_70 ?_
  obtain ⟨g2, h⟩ := gd_some _ h
  refine js_iald C hT t1a g2 dX12_explore_71 ?_
  refine lv_icmp_ge (tgt := 114) hx hb dX12_explore_72 (by decide) (fun c3 => ?_) (fun c3 => ?_)
  · rw [if_pos c3] at h
    refine lv_aload_n hx hb dX12_explore_114 rfl (lv_at hl 0 rfl) ?_
    obtain ⟨r4, σ4, hc4, h⟩ := bd_some h
    refine js_backI hT (js_runV C hT cfX12 t0 rfl mfX12_lowestUnexpanded lk_X12_323 (kX12_lowestUnexpanded t0 hc4) ⟨Nat.le_of_ble_eq_true rfl, Nat.le_of_ble_eq_true rfl⟩ rfl hl.1 rfl (Nat.le_of_ble_eq_true rfl) ⟨Nat.zero_le _, Nat.zero_le _⟩ dX12_explore_115) (fun H locs hT => ?_)
    refine lv_istore_n (lv' := [(3, .int r4), (0, .ref (B + x0)), (2, .int x2), (4, .int x4)]) hx hb dX12_explore_118 rfl hl (by decide) rfl (fun ls hl => ?_)
    refine lv_goto (tgt := 24) hx hb dX12_explore_119 (by decide) ?_
    exact hrc24 _ _ _ _ _ _ h t0 H locs hT ls (lv_sub hl [1, 2, 0] rfl)
  · rw [if_neg c3] at h
    refine lv_aload_n hx hb dX12_explore_75 rfl (lv_at hl 0 rfl) ?_
    refine lv_aload_n hx hb dX12_explore_76 rfl (lv_at hl 0 rfl) ?_
    refine js_gR C hT cfX12 t0 36 (by decide) (q := 20) rfl (by decide) lk_X12_95 dX12_explore_77 (fun t5a => ?_)
    refine lv_bipush (v := 96) hx hb dX12_explore_80 (by decide) ?_
    refine lv_iload_n hx hb dX12_explore_82 rfl (lv_at hl 2 rfl) ?_
    refine lv_imul hx hb dX12_explore_83 ?_
    refine lv_iload hx hb dX12_explore_84 (lv_at hl 3 rfl) ?_
    obtain ⟨r6, σ6, hc6, h⟩ := bd_some h
    refine js_backI hT (js_runV C hT cfX12 t0 rfl mfX12_rewrite lk_X12_301 (kX12_rewrite t0 t5a hc6) ⟨Nat.le_of_ble_eq_true rfl, Nat.le_of_ble_eq_true rfl⟩ rfl hl.1 rfl (Nat.le_of_ble_eq_true rfl) ⟨Nat.zero_le _, Nat.zero_le _⟩ dX12_explore_86) (fun H locs hT => ?_)
    refine lv_if_le (tgt := 108) hx hb dX12_explore_89 (by decide) (fun c7 => ?_) (fun c7 => ?_)
    · rw [if_pos c7] at h
      exact wX12_explore_108 C hr hk rc24 hrc24 rc61 hrc61 _ _ _ _ _ _ _ h t0 H locs hT ls (lv_sub hl [0, 1, 2, 3] rfl)
    · rw [if_neg c7] at h
      refine lv_aload_n hx hb dX12_explore_92 rfl (lv_at hl 0 rfl) ?_
      obtain ⟨r8, σ8, hc8, h⟩ := bd_some h
      refine js_backI hT (js_runV C hT cfX12 t0 rfl mfX12_isMet lk_X12_314 (kX12_isMet t0 hc8) ⟨Nat.le_of_ble_eq_true rfl, Nat.le_of_ble_eq_true rfl⟩ rfl hl.1 rfl (Nat.le_of_ble_eq_true rfl) ⟨Nat.zero_le _, Nat.zero_le _⟩ dX12_explore_93) (fun H locs hT => ?_)
      refine lv_if_ne (tgt := 108) hx hb dX12_explore_96 (by decide) (fun c9 => ?_) (fun c9 => ?_)
      · rw [if_neg c9] at h
        exact wX12_explore_108 C hr hk rc24 hrc24 rc61 hrc61 _ _ _ _ _ _ _ h t0 H locs hT ls (lv_sub hl [0, 1, 2, 3] rfl)
      · rw [if_pos c9] at h
        refine lv_aload_n hx hb dX12_explore_99 rfl (lv_at hl 0 rfl) ?_
        refine lv_aload_n hx hb dX12_explore_100 rfl (lv_at hl 0 rfl) ?_
        refine js_gR C hT cfX12 t0 11 (by decide) (q := 20) rfl (by decide) lk_X12_34 dX12_explore_101 (fun t10a => ?_)
        refine lv_iconst (v := 0) hx hb dX12_explore_104 (by decide) ?_
        obtain ⟨z11, σ11, hc11, h⟩ := bd_some h
        refine js_backV hT (js_runV C hT cfX12 t0 rfl mfX12_meet lk_X12_310 (kX12_meet t0 t10a hc11) ⟨Nat.le_of_ble_eq_true rfl, Nat.le_of_ble_eq_true rfl⟩ rfl hl.1 rfl (Nat.le_of_ble_eq_true rfl) ⟨Nat.zero_le _, Nat.zero_le _⟩ dX12_explore_105) (fun H locs hT => ?_)
        exact wX12_explore_108 C hr hk rc24 hrc24 rc61 hrc61 _ _ _ _ _ _ _ h t0 H locs hT ls (lv_sub hl [0, 1, 2, 3] rfl)
set_option maxHeartbeats 4000000 in
set_option maxRecDepth 20000 in
theorem wX12_explore_61 (C : js_C D g p m c cX12_explore 5 s args RX12) (hr : meth.sig.returnType = none) (hk : meth.locks = false) (rc24 : Nat → Int32 → Int32 → js_S → Option (Unit × js_S)) (hrc24 : ∀ (x0 : Nat) (x2 : Int32) (x3 : Int32) (σ : js_S) (r0 : Unit) (σ0 : js_S), rc24 x0 x2 x3 σ = some (r0, σ0) → ob_ nn 12 x0 → js_at p l e 7 s m args below meth c D B g nn 24 5 [(0, .ref (B + x0)), (2, .int x2), (3, .int x3)] [] σ (js_QV D B g nn σ0)) : ∀ (k : Nat), ∀ (x0 : Nat) (x2 : Int32) (x3 : Int32) (x4 : Int32) (σ : js_S) (r0 : Unit) (σ0 : js_S), fX12_explore_61 fu rc24 k x0 x2 x3 x4 σ = some (r0, σ0) → ob_ nn 12 x0 → js_at p l e 7 s m args below meth c D B g nn 61 5 [(0, .ref (B + x0)), (2, .int x2), (3, .int x3), (4, .int x4)] [] σ (js_QV D B g nn σ0) := by
  intro k
  induction k with
  | zero =>
    intro x0 x2 x3 x4 σ r0 σ0 h
    cases h
  | succ k ih =>
    intro x0 x2 x3 x4 σ r0 σ0 h
    exact wX12_explore_61b C hr hk rc24 hrc24 (fX12_explore_61 fu rc24 k) ih x0 x2 x3 x4 σ r0 σ0 h
set_option maxHeartbeats 4000000 in
set_option maxRecDepth 20000 in
theorem wX12_explore_24b (C : js_C D g p m c cX12_explore 5 s args RX12) (hr : meth.sig.returnType = none) (hk : meth.locks = false) (rc24 : Nat → Int32 → Int32 → js_S → Option (Unit × js_S)) (hrc24 : ∀ (x0 : Nat) (x2 : Int32) (x3 : Int32) (σ : js_S) (r0 : Unit) (σ0 : js_S), rc24 x0 x2 x3 σ = some (r0, σ0) → ob_ nn 12 x0 → js_at p l e 7 s m args below meth c D B g nn 24 5 [(0, .ref (B + x0)), (2, .int x2), (3, .int x3)] [] σ (js_QV D B g nn σ0)) : ∀ (x0 : Nat) (x2 : Int32) (x3 : Int32) (σ : js_S) (r0 : Unit) (σ0 : js_S), fX12_explore_24b fu rc24 x0 x2 x3 σ = some (r0, σ0) → ob_ nn 12 x0 → js_at p l e 7 s m args below meth c D B g nn 24 5 [(0, .ref (B + x0)), (2, .int x2), (3, .int x3)] [] σ (js_QV D B g nn σ0) := by
  obtain ⟨hx, hb, hml, hown, ht, hK, hNw⟩ := id C
  intro x0 x2 x3 σ r0 σ0 h t0 H locs hT ls hl
  unfold fX12_explore_24b at h
  refine lv_iload_n hx hb dX12_explore_24 rfl (lv_at hl 2 rfl) ?_
  refine lv_if_lt (tgt := 122) hx hb dX12_explore_25 (by decide) (fun c1 => ?_) (fun c1 => ?_)
  · rw [if_pos c1] at h
    obtain ⟨rfl, rfl⟩ := js_rt h
    exact js_vret C hT hr hk dX12_explore_122
  · rw [if_neg c1] at h
    refine lv_aload_n hx hb dX12_explore_28 rfl (lv_at hl 0 rfl) ?_
    refine js_gI C hT cfX12 t0 39 (by decide) rfl lk_X12_317 dX12_explore_29 ?_
    refine lv_iload_n hx hb dX12_explore_32 rfl (lv_at hl 1 rfl) ?_
    refine lv_icmp_ge (tgt := 122) hx hb dX12_explore_33 (by decide) (fun c2 => ?_) (fun c2 => ?_)
    · rw [if_pos c2] at h
      obtain ⟨rfl, rfl⟩ := js_rt h
      exact js_vret C hT hr hk dX12_explore_122
    · rw [if_neg c2] at h
      refine lv_aload_n hx hb dX12_explore_36 rfl (lv_at hl 0 rfl) ?_
      refine js_gR C hT cfX12 t0 37 (by decide) (q := 22) rfl (by decide) lk_X12_98 dX12_explore_37 (fun t3a => ?_)
      refine lv_iload_n hx hb dX12_explore_40 rfl (lv_at hl 2 rfl) ?_
      refine lv_iconst (v := 1) hx hb dX12_explore_41 (by decide) ?_
      obtain ⟨g4, h⟩ := gd_some _ h
      obtain ⟨σ4, e4, h⟩ := lt_some h
      refine js_zast C hT t3a g4 dX12_explore_42 (fun H locs hT => ?_)
      rw [e4] at hT
      refine lv_aload_n hx hb dX12_explore_43 rfl (lv_at hl 0 rfl) ?_
      refine lv_dup hx hb dX12_explore_44 rfl ?_
      refine js_gI C hT cfX12 t0 39 (by decide) rfl lk_X12_317 dX12_explore_45 ?_
      refine lv_iconst (v := 1) hx hb dX12_explore_48 (by decide) ?_
      refine lv_iadd hx hb dX12_explore_49 ?_
      obtain ⟨σ5, e5, h⟩ := lt_some h
      refine js_pI C hT cfX12 t0 39 (by decide) rfl rfl rfl rfl lk_X12_317 dX12_explore_50 (fun H locs hT => ?_)
      rw [e5] at hT
      refine lv_aload_n hx hb dX12_explore_53 rfl (lv_at hl 0 rfl) ?_
      refine lv_iload_n hx hb dX12_explore_54 rfl (lv_at hl 2 rfl) ?_
      obtain ⟨σ6, e6, h⟩ := lt_some h
      refine js_pI C hT cfX12 t0 40 (by decide) rfl rfl rfl rfl lk_X12_320 dX12_explore_55 (fun H locs hT => ?_)
      rw [e6] at hT
      refine lv_iconst (v := 0) hx hb dX12_explore_58 (by decide) ?_
      refine lv_istore (lv' := [(4, .int 0), (0, .ref (B + x0)), (2, .int x2), (3, .int x3)]) hx hb dX12_explore_59 hl (by decide) rfl (fun ls hl => ?_)
      exact wX12_explore_61 C hr hk rc24 hrc24 _ _ _ _ _ _ _ _ h t0 H locs hT ls (lv_sub hl [1, 2, 3, 0] rfl)
set_option maxHeartbeats 4000000 in
set_option maxRecDepth 20000 in
theorem wX12_explore_24 (C : js_C D g p m c cX12_explore 5 s args RX12) (hr : meth.sig.returnType = none) (hk : meth.locks = false) : ∀ (k : Nat), ∀ (x0 : Nat) (x2 : Int32) (x3 : Int32) (σ : js_S) (r0 : Unit) (σ0 : js_S), fX12_explore_24 fu k x0 x2 x3 σ = some (r0, σ0) → ob_ nn 12 x0 → js_at p l e 7 s m args below meth c D B g nn 24 5 [(0, .ref (B + x0)), (2, .int x2), (3, .int x3)] [] σ (js_QV D B g nn σ0) := by
  intro k
  induction k with
  | zero =>
    intro x0 x2 x3 σ r0 σ0 h
    cases h
  | succ k ih =>
    intro x0 x2 x3 σ r0 σ0 h
    exact wX12_explore_24b C hr hk (fX12_explore_24 fu k) ih x0 x2 x3 σ r0 σ0 h
set_option maxHeartbeats 4000000 in
set_option maxRecDepth 20000 in
theorem kX12_explore {x0 : Nat} {x1 : Int32} {x2 : Int32} {σ σ0 : js_S} {r0 : Unit} (t0 : ob_ nn 12 x0) (h : fX12_explore fu x0 x1 x2 σ = some (r0, σ0)) : js_M l D B g nn yX12_explore cX12_explore 5 none 7 [.ref (B + x0), .int x1, .int x2] σ (js_QV D B g nn σ0) := by
  refine js_enter (by decide) (Nat.le_of_ble_eq_true rfl) ?_
  intro p e s m args below meth c C hr hk ls hl hT
  have hl : lv_has ls 5 [(0, .ref (B + x0)), (1, .int x1), (2, .int x2)] := hl
  obtain ⟨hx, hb, hml, hown, ht, hK, hNw⟩ := id C
  obtain ⟨H, eH⟩ : ∃ H, H = s.heap := ⟨_, rfl⟩
  obtain ⟨locs, eL⟩ : ∃ z : List Loc, z = [] := ⟨_, rfl⟩
  rw [← eH, ← eL]
  rw [← eH, ← eL] at hT
  clear eH eL
  unfold fX12_explore at h
  refine lv_aload_n hx hb dX12_explore_0 rfl (lv_at hl 0 rfl) ?_
  refine lv_iconst (v := 0) hx hb dX12_explore_1 (by decide) ?_
  obtain ⟨σ1, e1, h⟩ := lt_some h
  refine js_pI C hT cfX12 t0 38 (by decide) rfl rfl rfl rfl lk_X12_307 dX12_explore_2 (fun H locs hT => ?_)
  rw [e1] at hT
  refine lv_aload_n hx hb dX12_explore_5 rfl (lv_at hl 0 rfl) ?_
  refine lv_iconst (v := 0) hx hb dX12_explore_6 (by decide) ?_
  obtain ⟨σ2, e2, h⟩ := lt_some h
  refine js_pI C hT cfX12 t0 39 (by decide) rfl rfl rfl rfl lk_X12_317 dX12_explore_7 (fun H locs hT => ?_)
  rw [e2] at hT
  refine lv_aload_n hx hb dX12_explore_10 rfl (lv_at hl 0 rfl) ?_
  refine lv_aload_n hx hb dX12_explore_11 rfl (lv_at hl 0 rfl) ?_
  refine js_gR C hT cfX12 t0 4 (by decide) (q := 20) rfl (by decide) lk_X12_22 dX12_explore_12 (fun t3a => ?_)
  refine lv_bipush (v := 96) hx hb dX12_explore_15 (by decide) ?_
  refine lv_iload_n hx hb dX12_explore_17 rfl (lv_at hl 1 rfl) ?_
  refine lv_imul hx hb dX12_explore_18 ?_
  obtain ⟨z4, σ4, hc4, h⟩ := bd_some h
  refine js_backV hT (js_runV C hT cfX12 t0 rfl mfX12_meet lk_X12_310 (kX12_meet t0 t3a hc4) ⟨Nat.le_of_ble_eq_true rfl, Nat.le_of_ble_eq_true rfl⟩ rfl hl.1 rfl (Nat.le_of_ble_eq_true rfl) ⟨Nat.zero_le _, Nat.zero_le _⟩ dX12_explore_19) (fun H locs hT => ?_)
  refine lv_iconst (v := 0) hx hb dX12_explore_22 (by decide) ?_
  refine lv_istore_n (lv' := [(3, .int 0), (0, .ref (B + x0)), (1, .int x1), (2, .int x2)]) hx hb dX12_explore_23 rfl hl (by decide) rfl (fun ls hl => ?_)
  exact wX12_explore_24 C hr hk _ _ _ _ _ _ _ h t0 H locs hT ls (lv_sub hl [1, 3, 0] rfl)
set_option maxHeartbeats 4000000 in
set_option maxRecDepth 20000 in
theorem kX12_wrongExploration {x0 : Nat} {x1 : Int32} {x2 : Int32} {σ σ0 : js_S} {r0 : Int32} (t0 : ob_ nn 12 x0) (h : fX12_wrongExploration fu x0 x1 x2 σ = some (r0, σ0)) : js_M l D B g nn yX12_wrongExploration cX12_wrongExploration 3 (some .int) 2 [.ref (B + x0), .int x1, .int x2] σ (js_QI D B g nn r0 σ0) := by
  refine js_enter (by decide) (Nat.le_of_ble_eq_true rfl) ?_
  intro p e s m args below meth c C hr hk ls hl hT
  have hl : lv_has ls 3 [(0, .ref (B + x0)), (1, .int x1), (2, .int x2)] := hl
  obtain ⟨hx, hb, hml, hown, ht, hK, hNw⟩ := id C
  obtain ⟨H, eH⟩ : ∃ H, H = s.heap := ⟨_, rfl⟩
  obtain ⟨locs, eL⟩ : ∃ z : List Loc, z = [] := ⟨_, rfl⟩
  rw [← eH, ← eL]
  rw [← eH, ← eL] at hT
  clear eH eL
  unfold fX12_wrongExploration at h
  refine lv_iload_n hx hb dX12_wrongExploration_0 rfl (lv_at hl 1 rfl) ?_
  obtain ⟨r1, σ1, hc1, h⟩ := bd_some h
  refine js_backI hT (js_runS C hT mfX12_isRegister lk_X12_274 (kX12_isRegister  hc1) ⟨Nat.le_of_ble_eq_true rfl, Nat.le_of_ble_eq_true rfl⟩ rfl hl.1 rfl (Nat.le_of_ble_eq_true rfl) ⟨Nat.zero_le _, Nat.zero_le _⟩ dX12_wrongExploration_1) (fun H locs hT => ?_)
  refine lv_if_ne (tgt := 11) hx hb dX12_wrongExploration_4 (by decide) (fun c2 => ?_) (fun c2 => ?_)
  · rw [if_neg c2] at h
    refine lv_iload_n hx hb dX12_wrongExploration_11 rfl (lv_at hl 2 rfl) ?_
    refine lv_iconst (v := 1) hx hb dX12_wrongExploration_12 (by decide) ?_
    refine lv_bipush (v := 30) hx hb dX12_wrongExploration_13 (by decide) ?_
    obtain ⟨r3, σ3, hc3, h⟩ := bd_some h
    refine js_backI hT (js_runS C hT mfX12_isIn lk_X12_105 (kX12_isIn  hc3) ⟨Nat.le_of_ble_eq_true rfl, Nat.le_of_ble_eq_true rfl⟩ rfl hl.1 rfl (Nat.le_of_ble_eq_true rfl) ⟨Nat.zero_le _, Nat.zero_le _⟩ dX12_wrongExploration_15) (fun H locs hT => ?_)
    refine lv_if_eq (tgt := 25) hx hb dX12_wrongExploration_18 (by decide) (fun c4 => ?_) (fun c4 => ?_)
    · rw [if_pos c4] at h
      refine lv_bipush (v := (-2)) hx hb dX12_wrongExploration_25 (by decide) ?_
      obtain ⟨rfl, rfl⟩ := js_rt h
      exact js_iret C hT hr hk dX12_wrongExploration_27
    · rw [if_neg c4] at h
      refine lv_iconst (v := 0) hx hb dX12_wrongExploration_21 (by decide) ?_
      refine lv_goto (tgt := 27) hx hb dX12_wrongExploration_22 (by decide) ?_
      obtain ⟨rfl, rfl⟩ := js_rt h
      exact js_iret C hT hr hk dX12_wrongExploration_27
  · rw [if_pos c2] at h
    refine lv_iconst (v := (-1)) hx hb dX12_wrongExploration_7 (by decide) ?_
    refine lv_goto (tgt := 27) hx hb dX12_wrongExploration_8 (by decide) ?_
    obtain ⟨rfl, rfl⟩ := js_rt h
    exact js_iret C hT hr hk dX12_wrongExploration_27
set_option maxHeartbeats 4000000 in
set_option maxRecDepth 20000 in
theorem kX12_exploredCount {x0 : Nat} {x1 : Int32} {x2 : Int32} {σ σ0 : js_S} {r0 : Int32} (t0 : ob_ nn 12 x0) (h : fX12_exploredCount fu x0 x1 x2 σ = some (r0, σ0)) : js_M l D B g nn yX12_exploredCount cX12_exploredCount 4 (some .int) 8 [.ref (B + x0), .int x1, .int x2] σ (js_QI D B g nn r0 σ0) := by
  refine js_enter (by decide) (Nat.le_of_ble_eq_true rfl) ?_
  intro p e s m args below meth c C hr hk ls hl hT
  have hl : lv_has ls 4 [(0, .ref (B + x0)), (1, .int x1), (2, .int x2)] := hl
  obtain ⟨hx, hb, hml, hown, ht, hK, hNw⟩ := id C
  obtain ⟨H, eH⟩ : ∃ H, H = s.heap := ⟨_, rfl⟩
  obtain ⟨locs, eL⟩ : ∃ z : List Loc, z = [] := ⟨_, rfl⟩
  rw [← eH, ← eL]
  rw [← eH, ← eL] at hT
  clear eH eL
  unfold fX12_exploredCount at h
  refine lv_aload_n hx hb dX12_exploredCount_0 rfl (lv_at hl 0 rfl) ?_
  refine lv_iload_n hx hb dX12_exploredCount_1 rfl (lv_at hl 1 rfl) ?_
  refine lv_iload_n hx hb dX12_exploredCount_2 rfl (lv_at hl 2 rfl) ?_
  obtain ⟨r1, σ1, hc1, h⟩ := bd_some h
  refine js_backI hT (js_runV C hT cfX12 t0 rfl mfX12_wrongExploration lk_X12_326 (kX12_wrongExploration t0 hc1) ⟨Nat.le_of_ble_eq_true rfl, Nat.le_of_ble_eq_true rfl⟩ rfl hl.1 rfl (Nat.le_of_ble_eq_true rfl) ⟨Nat.zero_le _, Nat.zero_le _⟩ dX12_exploredCount_3) (fun H locs hT => ?_)
  refine lv_istore_n (lv' := [(3, .int r1), (0, .ref (B + x0)), (1, .int x1), (2, .int x2)]) hx hb dX12_exploredCount_6 rfl hl (by decide) rfl (fun ls hl => ?_)
  refine lv_iload_n hx hb dX12_exploredCount_7 rfl (lv_at hl 0 rfl) ?_
  refine lv_if_ge (tgt := 13) hx hb dX12_exploredCount_8 (by decide) (fun c2 => ?_) (fun c2 => ?_)
  · rw [if_pos c2] at h
    refine lv_aload_n hx hb dX12_exploredCount_13 rfl (lv_at hl 1 rfl) ?_
    refine lv_iload_n hx hb dX12_exploredCount_14 rfl (lv_at hl 2 rfl) ?_
    refine lv_iload_n hx hb dX12_exploredCount_15 rfl (lv_at hl 3 rfl) ?_
    obtain ⟨z3, σ3, hc3, h⟩ := bd_some h
    refine js_backV hT (js_runV C hT cfX12 t0 rfl mfX12_explore lk_X12_329 (kX12_explore t0 hc3) ⟨Nat.le_of_ble_eq_true rfl, Nat.le_of_ble_eq_true rfl⟩ rfl hl.1 rfl (Nat.le_of_ble_eq_true rfl) ⟨Nat.zero_le _, Nat.zero_le _⟩ dX12_exploredCount_16) (fun H locs hT => ?_)
    refine lv_aload_n hx hb dX12_exploredCount_19 rfl (lv_at hl 1 rfl) ?_
    refine js_gI C hT cfX12 t0 39 (by decide) rfl lk_X12_317 dX12_exploredCount_20 ?_
    obtain ⟨rfl, rfl⟩ := js_rt h
    exact js_iret C hT hr hk dX12_exploredCount_23
  · rw [if_neg c2] at h
    refine lv_iload_n hx hb dX12_exploredCount_11 rfl (lv_at hl 0 rfl) ?_
    obtain ⟨rfl, rfl⟩ := js_rt h
    exact js_iret C hT hr hk dX12_exploredCount_12
set_option maxHeartbeats 4000000 in
set_option maxRecDepth 20000 in
theorem wX12_redex_40 (C : js_C D g p m c cX12_redex 6 s args RX12) (hr : meth.sig.returnType = (some .int)) (hk : meth.locks = false) (rc6 : Nat → Nat → Int32 → Int32 → Int32 → Int32 → js_S → Option (Int32 × js_S)) (hrc6 : ∀ (x0 : Nat) (x1 : Nat) (x2 : Int32) (x3 : Int32) (x4 : Int32) (x5 : Int32) (σ : js_S) (r0 : Int32) (σ0 : js_S), rc6 x0 x1 x2 x3 x4 x5 σ = some (r0, σ0) → ob_ nn 12 x0 → ob_ nn 20 x1 → js_at p l e 6 s m args below meth c D B g nn 6 6 [(0, .ref (B + x0)), (1, .ref (B + x1)), (2, .int x2), (3, .int x3), (4, .int x4), (5, .int x5)] [] σ (js_QI D B g nn r0 σ0)) : ∀ (x0 : Nat) (x1 : Nat) (x2 : Int32) (x3 : Int32) (x4 : Int32) (x5 : Int32) (σ : js_S) (r0 : Int32) (σ0 : js_S), fX12_redex_40 fu rc6 x0 x1 x2 x3 x4 x5 σ = some (r0, σ0) → ob_ nn 12 x0 → ob_ nn 20 x1 → js_at p l e 6 s m args below meth c D B g nn 40 6 [(0, .ref (B + x0)), (1, .ref (B + x1)), (2, .int x2), (3, .int x3), (4, .int x4), (5, .int x5)] [] σ (js_QI D B g nn r0 σ0) := by
  obtain ⟨hx, hb, hml, hown, ht, hK, hNw⟩ := id C
  intro x0 x1 x2 x3 x4 x5 σ r0 σ0 h t0 t1 H locs hT ls hl
  unfold fX12_redex_40 at h
  refine lv_iinc (v := x5 + 1) (lv' := [(5, .int (x5 + 1)), (0, .ref (B + x0)), (1, .ref (B + x1)), (2, .int x2), (3, .int x3), (4, .int x4)]) hx hb dX12_redex_40 hl (k := 5) rfl rfl (by decide) rfl (fun ls hl => ?_)
  refine lv_goto (tgt := 6) hx hb dX12_redex_43 (by decide) ?_
  exact hrc6 _ _ _ _ _ _ _ _ _ h t0 t1 H locs hT ls (lv_sub hl [1, 2, 3, 4, 5, 0] rfl)
set_option maxHeartbeats 4000000 in
set_option maxRecDepth 20000 in
theorem wX12_redex_6b (C : js_C D g p m c cX12_redex 6 s args RX12) (hr : meth.sig.returnType = (some .int)) (hk : meth.locks = false) (rc6 : Nat → Nat → Int32 → Int32 → Int32 → Int32 → js_S → Option (Int32 × js_S)) (hrc6 : ∀ (x0 : Nat) (x1 : Nat) (x2 : Int32) (x3 : Int32) (x4 : Int32) (x5 : Int32) (σ : js_S) (r0 : Int32) (σ0 : js_S), rc6 x0 x1 x2 x3 x4 x5 σ = some (r0, σ0) → ob_ nn 12 x0 → ob_ nn 20 x1 → js_at p l e 6 s m args below meth c D B g nn 6 6 [(0, .ref (B + x0)), (1, .ref (B + x1)), (2, .int x2), (3, .int x3), (4, .int x4), (5, .int x5)] [] σ (js_QI D B g nn r0 σ0)) : ∀ (x0 : Nat) (x1 : Nat) (x2 : Int32) (x3 : Int32) (x4 : Int32) (x5 : Int32) (σ : js_S) (r0 : Int32) (σ0 : js_S), fX12_redex_6b fu rc6 x0 x1 x2 x3 x4 x5 σ = some (r0, σ0) → ob_ nn 12 x0 → ob_ nn 20 x1 → js_at p l e 6 s m args below meth c D B g nn 6 6 [(0, .ref (B + x0)), (1, .ref (B + x1)), (2, .int x2), (3, .int x3), (4, .int x4), (5, .int x5)] [] σ (js_QI D B g nn r0 σ0) := by
  obtain ⟨hx, hb, hml, hown, ht, hK, hNw⟩ := id C
  intro x0 x1 x2 x3 x4 x5 σ r0 σ0 h t0 t1 H locs hT ls hl
  unfold fX12_redex_6b at h
  refine lv_iload hx hb dX12_redex_6 (lv_at hl 5 rfl) ?_
  refine lv_aload_n hx hb dX12_redex_8 rfl (lv_at hl 1 rfl) ?_
  refine lv_iload_n hx hb dX12_redex_9 rfl (lv_at hl 2 rfl) ?_
  obtain ⟨g1, h⟩ := gd_some _ h
  refine js_iald C hT t1 g1 dX12_redex_10 ?_
  refine lv_icmp_ge (tgt := 46) hx hb dX12_redex_11 (by decide) (fun c2 => ?_) (fun c2 => ?_)
  · rw [if_pos c2] at h
    refine lv_iload_n hx hb dX12_redex_46 rfl (lv_at hl 3 rfl) ?_
    refine lv_if_ge (tgt := 55) hx hb dX12_redex_47 (by decide) (fun c3 => ?_) (fun c3 => ?_)
    · rw [if_pos c3] at h
      refine lv_bipush (v := (-5)) hx hb dX12_redex_55 (by decide) ?_
      obtain ⟨rfl, rfl⟩ := js_rt h
      exact js_iret C hT hr hk dX12_redex_57
    · rw [if_neg c3] at h
      refine lv_iload hx hb dX12_redex_50 (lv_at hl 4 rfl) ?_
      refine lv_goto (tgt := 57) hx hb dX12_redex_52 (by decide) ?_
      obtain ⟨rfl, rfl⟩ := js_rt h
      exact js_iret C hT hr hk dX12_redex_57
  · rw [if_neg c2] at h
    refine lv_aload_n hx hb dX12_redex_14 rfl (lv_at hl 0 rfl) ?_
    refine lv_aload_n hx hb dX12_redex_15 rfl (lv_at hl 1 rfl) ?_
    refine lv_iload_n hx hb dX12_redex_16 rfl (lv_at hl 2 rfl) ?_
    refine lv_iconst (v := 1) hx hb dX12_redex_17 (by decide) ?_
    refine lv_iadd hx hb dX12_redex_18 ?_
    refine lv_iload hx hb dX12_redex_19 (lv_at hl 5 rfl) ?_
    refine lv_iadd hx hb dX12_redex_21 ?_
    obtain ⟨r4, σ4, hc4, h⟩ := bd_some h
    refine js_backI hT (js_runV C hT cfX12 t0 rfl mfX12_matching lk_X12_142 (kX12_matching t0 t1 hc4) ⟨Nat.le_of_ble_eq_true rfl, Nat.le_of_ble_eq_true rfl⟩ rfl hl.1 rfl (Nat.le_of_ble_eq_true rfl) ⟨Nat.zero_le _, Nat.zero_le _⟩ dX12_redex_22) (fun H locs hT => ?_)
    refine lv_if_lt (tgt := 40) hx hb dX12_redex_25 (by decide) (fun c5 => ?_) (fun c5 => ?_)
    · rw [if_pos c5] at h
      exact wX12_redex_40 C hr hk rc6 hrc6 _ _ _ _ _ _ _ _ _ h t0 t1 H locs hT ls (lv_sub hl [0, 1, 2, 3, 4, 5] rfl)
    · rw [if_neg c5] at h
      refine lv_iload hx hb dX12_redex_28 (lv_at hl 4 rfl) ?_
      refine lv_iload_n hx hb dX12_redex_30 rfl (lv_at hl 3 rfl) ?_
      refine lv_icmp_ne (tgt := 37) hx hb dX12_redex_31 (by decide) (fun c6 => ?_) (fun c6 => ?_)
      · rw [if_neg c6] at h
        refine lv_iinc (v := x4 + 1) (lv' := [(4, .int (x4 + 1)), (0, .ref (B + x0)), (1, .ref (B + x1)), (2, .int x2), (3, .int x3), (5, .int x5)]) hx hb dX12_redex_37 hl (k := 4) rfl rfl (by decide) rfl (fun ls hl => ?_)
        exact wX12_redex_40 C hr hk rc6 hrc6 _ _ _ _ _ _ _ _ _ h t0 t1 H locs hT ls (lv_sub hl [1, 2, 3, 4, 0, 5] rfl)
      · rw [if_pos c6] at h
        refine lv_iload hx hb dX12_redex_34 (lv_at hl 5 rfl) ?_
        obtain ⟨rfl, rfl⟩ := js_rt h
        exact js_iret C hT hr hk dX12_redex_36
set_option maxHeartbeats 4000000 in
set_option maxRecDepth 20000 in
theorem wX12_redex_6 (C : js_C D g p m c cX12_redex 6 s args RX12) (hr : meth.sig.returnType = (some .int)) (hk : meth.locks = false) : ∀ (k : Nat), ∀ (x0 : Nat) (x1 : Nat) (x2 : Int32) (x3 : Int32) (x4 : Int32) (x5 : Int32) (σ : js_S) (r0 : Int32) (σ0 : js_S), fX12_redex_6 fu k x0 x1 x2 x3 x4 x5 σ = some (r0, σ0) → ob_ nn 12 x0 → ob_ nn 20 x1 → js_at p l e 6 s m args below meth c D B g nn 6 6 [(0, .ref (B + x0)), (1, .ref (B + x1)), (2, .int x2), (3, .int x3), (4, .int x4), (5, .int x5)] [] σ (js_QI D B g nn r0 σ0) := by
  intro k
  induction k with
  | zero =>
    intro x0 x1 x2 x3 x4 x5 σ r0 σ0 h
    cases h
  | succ k ih =>
    intro x0 x1 x2 x3 x4 x5 σ r0 σ0 h
    exact wX12_redex_6b C hr hk (fX12_redex_6 fu k) ih x0 x1 x2 x3 x4 x5 σ r0 σ0 h
set_option maxHeartbeats 4000000 in
set_option maxRecDepth 20000 in
theorem kX12_redex {x0 : Nat} {x1 : Nat} {x2 : Int32} {x3 : Int32} {σ σ0 : js_S} {r0 : Int32} (t0 : ob_ nn 12 x0) (t1 : ob_ nn 20 x1) (h : fX12_redex fu x0 x1 x2 x3 σ = some (r0, σ0)) : js_M l D B g nn yX12_redex cX12_redex 6 (some .int) 6 [.ref (B + x0), .ref (B + x1), .int x2, .int x3] σ (js_QI D B g nn r0 σ0) := by
  refine js_enter (by decide) (Nat.le_of_ble_eq_true rfl) ?_
  intro p e s m args below meth c C hr hk ls hl hT
  have hl : lv_has ls 6 [(0, .ref (B + x0)), (1, .ref (B + x1)), (2, .int x2), (3, .int x3)] := hl
  obtain ⟨hx, hb, hml, hown, ht, hK, hNw⟩ := id C
  obtain ⟨H, eH⟩ : ∃ H, H = s.heap := ⟨_, rfl⟩
  obtain ⟨locs, eL⟩ : ∃ z : List Loc, z = [] := ⟨_, rfl⟩
  rw [← eH, ← eL]
  rw [← eH, ← eL] at hT
  clear eH eL
  unfold fX12_redex at h
  refine lv_iconst (v := 0) hx hb dX12_redex_0 (by decide) ?_
  refine lv_istore (lv' := [(4, .int 0), (0, .ref (B + x0)), (1, .ref (B + x1)), (2, .int x2), (3, .int x3)]) hx hb dX12_redex_1 hl (by decide) rfl (fun ls hl => ?_)
  refine lv_iconst (v := 0) hx hb dX12_redex_3 (by decide) ?_
  refine lv_istore (lv' := [(5, .int 0), (4, .int 0), (0, .ref (B + x0)), (1, .ref (B + x1)), (2, .int x2), (3, .int x3)]) hx hb dX12_redex_4 hl (by decide) rfl (fun ls hl => ?_)
  exact wX12_redex_6 C hr hk _ _ _ _ _ _ _ _ _ _ h t0 t1 H locs hT ls (lv_sub hl [2, 3, 4, 5, 1, 0] rfl)
set_option maxHeartbeats 4000000 in
set_option maxRecDepth 20000 in
theorem kX12_isNormalForm {x0 : Nat} {x1 : Nat} {x2 : Int32} {σ σ0 : js_S} {r0 : Int32} (t0 : ob_ nn 12 x0) (t1 : ob_ nn 20 x1) (h : fX12_isNormalForm fu x0 x1 x2 σ = some (r0, σ0)) : js_M l D B g nn yX12_isNormalForm cX12_isNormalForm 3 (some .boolean) 7 [.ref (B + x0), .ref (B + x1), .int x2] σ (js_QI D B g nn r0 σ0) := by
  refine js_enter (by decide) (Nat.le_of_ble_eq_true rfl) ?_
  intro p e s m args below meth c C hr hk ls hl hT
  have hl : lv_has ls 3 [(0, .ref (B + x0)), (1, .ref (B + x1)), (2, .int x2)] := hl
  obtain ⟨hx, hb, hml, hown, ht, hK, hNw⟩ := id C
  obtain ⟨H, eH⟩ : ∃ H, H = s.heap := ⟨_, rfl⟩
  obtain ⟨locs, eL⟩ : ∃ z : List Loc, z = [] := ⟨_, rfl⟩
  rw [← eH, ← eL]
  rw [← eH, ← eL] at hT
  clear eH eL
  unfold fX12_isNormalForm at h
  refine lv_aload_n hx hb dX12_isNormalForm_0 rfl (lv_at hl 0 rfl) ?_
  refine lv_aload_n hx hb dX12_isNormalForm_1 rfl (lv_at hl 1 rfl) ?_
  refine lv_iload_n hx hb dX12_isNormalForm_2 rfl (lv_at hl 2 rfl) ?_
  refine lv_iconst (v := (-1)) hx hb dX12_isNormalForm_3 (by decide) ?_
  obtain ⟨r1, σ1, hc1, h⟩ := bd_some h
  refine js_backI hT (js_runV C hT cfX12 t0 rfl mfX12_redex lk_X12_298 (kX12_redex t0 t1 hc1) ⟨Nat.le_of_ble_eq_true rfl, Nat.le_of_ble_eq_true rfl⟩ rfl hl.1 rfl (Nat.le_of_ble_eq_true rfl) ⟨Nat.zero_le _, Nat.zero_le _⟩ dX12_isNormalForm_4) (fun H locs hT => ?_)
  refine lv_if_ne (tgt := 14) hx hb dX12_isNormalForm_7 (by decide) (fun c2 => ?_) (fun c2 => ?_)
  · rw [if_neg c2] at h
    refine lv_iconst (v := 0) hx hb dX12_isNormalForm_14 (by decide) ?_
    obtain ⟨rfl, rfl⟩ := js_rt h
    exact js_zret C hT hr hk rfl dX12_isNormalForm_15
  · rw [if_pos c2] at h
    refine lv_iconst (v := 1) hx hb dX12_isNormalForm_10 (by decide) ?_
    refine lv_goto (tgt := 15) hx hb dX12_isNormalForm_11 (by decide) ?_
    obtain ⟨rfl, rfl⟩ := js_rt h
    exact js_zret C hT hr hk rfl dX12_isNormalForm_15
set_option maxHeartbeats 4000000 in
set_option maxRecDepth 20000 in
theorem wX12_exploredNormalForms_67 (C : js_C D g p m c cX12_exploredNormalForms 6 s args RX12) (hr : meth.sig.returnType = (some .int)) (hk : meth.locks = false) (rc25 : Nat → Int32 → Int32 → js_S → Option (Int32 × js_S)) (hrc25 : ∀ (x0 : Nat) (x4 : Int32) (x5 : Int32) (σ : js_S) (r0 : Int32) (σ0 : js_S), rc25 x0 x4 x5 σ = some (r0, σ0) → ob_ nn 12 x0 → js_at p l e 8 s m args below meth c D B g nn 25 6 [(0, .ref (B + x0)), (4, .int x4), (5, .int x5)] [] σ (js_QI D B g nn r0 σ0)) : ∀ (x0 : Nat) (x5 : Int32) (y0 : Int32) (y1 : Int32) (σ : js_S) (r0 : Int32) (σ0 : js_S), fX12_exploredNormalForms_67 fu rc25 x0 x5 y0 y1 σ = some (r0, σ0) → ob_ nn 12 x0 → js_at p l e 8 s m args below meth c D B g nn 67 6 [(0, .ref (B + x0)), (5, .int x5)] [.int y0, .int y1] σ (js_QI D B g nn r0 σ0) := by
  obtain ⟨hx, hb, hml, hown, ht, hK, hNw⟩ := id C
  intro x0 x5 y0 y1 σ r0 σ0 h t0 H locs hT ls hl
  unfold fX12_exploredNormalForms_67 at h
  refine lv_iadd hx hb dX12_exploredNormalForms_67 ?_
  refine lv_istore (lv' := [(4, .int (y1 + y0)), (0, .ref (B + x0)), (5, .int x5)]) hx hb dX12_exploredNormalForms_68 hl (by decide) rfl (fun ls hl => ?_)
  refine lv_iinc (v := x5 + 1) (lv' := [(5, .int (x5 + 1)), (4, .int (y1 + y0)), (0, .ref (B + x0))]) hx hb dX12_exploredNormalForms_70 hl (k := 2) rfl rfl (by decide) rfl (fun ls hl => ?_)
  refine lv_goto (tgt := 25) hx hb dX12_exploredNormalForms_73 (by decide) ?_
  exact hrc25 _ _ _ _ _ _ h t0 H locs hT ls (lv_sub hl [2, 1, 0] rfl)
set_option maxHeartbeats 4000000 in
set_option maxRecDepth 20000 in
theorem wX12_exploredNormalForms_66 (C : js_C D g p m c cX12_exploredNormalForms 6 s args RX12) (hr : meth.sig.returnType = (some .int)) (hk : meth.locks = false) (rc25 : Nat → Int32 → Int32 → js_S → Option (Int32 × js_S)) (hrc25 : ∀ (x0 : Nat) (x4 : Int32) (x5 : Int32) (σ : js_S) (r0 : Int32) (σ0 : js_S), rc25 x0 x4 x5 σ = some (r0, σ0) → ob_ nn 12 x0 → js_at p l e 8 s m args below meth c D B g nn 25 6 [(0, .ref (B + x0)), (4, .int x4), (5, .int x5)] [] σ (js_QI D B g nn r0 σ0)) : ∀ (x0 : Nat) (x5 : Int32) (y0 : Int32) (σ : js_S) (r0 : Int32) (σ0 : js_S), fX12_exploredNormalForms_66 fu rc25 x0 x5 y0 σ = some (r0, σ0) → ob_ nn 12 x0 → js_at p l e 8 s m args below meth c D B g nn 66 6 [(0, .ref (B + x0)), (5, .int x5)] [.int y0] σ (js_QI D B g nn r0 σ0) := by
  obtain ⟨hx, hb, hml, hown, ht, hK, hNw⟩ := id C
  intro x0 x5 y0 σ r0 σ0 h t0 H locs hT ls hl
  unfold fX12_exploredNormalForms_66 at h
  refine lv_iconst (v := 0) hx hb dX12_exploredNormalForms_66 (by decide) ?_
  exact wX12_exploredNormalForms_67 C hr hk rc25 hrc25 _ _ _ _ _ _ _ h t0 H locs hT ls (lv_sub hl [0, 1] rfl)
set_option maxHeartbeats 4000000 in
set_option maxRecDepth 20000 in
theorem wX12_exploredNormalForms_25b (C : js_C D g p m c cX12_exploredNormalForms 6 s args RX12) (hr : meth.sig.returnType = (some .int)) (hk : meth.locks = false) (rc25 : Nat → Int32 → Int32 → js_S → Option (Int32 × js_S)) (hrc25 : ∀ (x0 : Nat) (x4 : Int32) (x5 : Int32) (σ : js_S) (r0 : Int32) (σ0 : js_S), rc25 x0 x4 x5 σ = some (r0, σ0) → ob_ nn 12 x0 → js_at p l e 8 s m args below meth c D B g nn 25 6 [(0, .ref (B + x0)), (4, .int x4), (5, .int x5)] [] σ (js_QI D B g nn r0 σ0)) : ∀ (x0 : Nat) (x4 : Int32) (x5 : Int32) (σ : js_S) (r0 : Int32) (σ0 : js_S), fX12_exploredNormalForms_25b fu rc25 x0 x4 x5 σ = some (r0, σ0) → ob_ nn 12 x0 → js_at p l e 8 s m args below meth c D B g nn 25 6 [(0, .ref (B + x0)), (4, .int x4), (5, .int x5)] [] σ (js_QI D B g nn r0 σ0) := by
  obtain ⟨hx, hb, hml, hown, ht, hK, hNw⟩ := id C
  intro x0 x4 x5 σ r0 σ0 h t0 H locs hT ls hl
  unfold fX12_exploredNormalForms_25b at h
  refine lv_iload hx hb dX12_exploredNormalForms_25 (lv_at hl 2 rfl) ?_
  refine lv_aload_n hx hb dX12_exploredNormalForms_27 rfl (lv_at hl 0 rfl) ?_
  refine js_gI C hT cfX12 t0 38 (by decide) rfl lk_X12_307 dX12_exploredNormalForms_28 ?_
  refine lv_icmp_ge (tgt := 76) hx hb dX12_exploredNormalForms_31 (by decide) (fun c1 => ?_) (fun c1 => ?_)
  · rw [if_pos c1] at h
    refine lv_iload hx hb dX12_exploredNormalForms_76 (lv_at hl 1 rfl) ?_
    obtain ⟨rfl, rfl⟩ := js_rt h
    exact js_iret C hT hr hk dX12_exploredNormalForms_78
  · rw [if_neg c1] at h
    refine lv_iload hx hb dX12_exploredNormalForms_34 (lv_at hl 1 rfl) ?_
    refine lv_aload_n hx hb dX12_exploredNormalForms_36 rfl (lv_at hl 0 rfl) ?_
    refine js_gR C hT cfX12 t0 37 (by decide) (q := 22) rfl (by decide) lk_X12_98 dX12_exploredNormalForms_37 (fun t2a => ?_)
    refine lv_iload hx hb dX12_exploredNormalForms_40 (lv_at hl 2 rfl) ?_
    obtain ⟨g3, h⟩ := gd_some _ h
    refine js_zald C hT t2a g3 dX12_exploredNormalForms_42 ?_
    refine lv_if_eq (tgt := 66) hx hb dX12_exploredNormalForms_43 (by decide) (fun c4 => ?_) (fun c4 => ?_)
    · rw [if_pos c4] at h
      exact wX12_exploredNormalForms_66 C hr hk rc25 hrc25 _ _ _ _ _ _ h t0 H locs hT ls (lv_sub hl [0, 2] rfl)
    · rw [if_neg c4] at h
      refine lv_aload_n hx hb dX12_exploredNormalForms_46 rfl (lv_at hl 0 rfl) ?_
      refine lv_aload_n hx hb dX12_exploredNormalForms_47 rfl (lv_at hl 0 rfl) ?_
      refine js_gR C hT cfX12 t0 36 (by decide) (q := 20) rfl (by decide) lk_X12_95 dX12_exploredNormalForms_48 (fun t5a => ?_)
      refine lv_bipush (v := 96) hx hb dX12_exploredNormalForms_51 (by decide) ?_
      refine lv_iload hx hb dX12_exploredNormalForms_53 (lv_at hl 2 rfl) ?_
      refine lv_imul hx hb dX12_exploredNormalForms_55 ?_
      obtain ⟨r6, σ6, hc6, h⟩ := bd_some h
      refine js_backI hT (js_runV C hT cfX12 t0 rfl mfX12_isNormalForm lk_X12_333 (kX12_isNormalForm t0 t5a hc6) ⟨Nat.le_of_ble_eq_true rfl, Nat.le_of_ble_eq_true rfl⟩ rfl hl.1 rfl (Nat.le_of_ble_eq_true rfl) ⟨Nat.zero_le _, Nat.zero_le _⟩ dX12_exploredNormalForms_56) (fun H locs hT => ?_)
      refine lv_if_eq (tgt := 66) hx hb dX12_exploredNormalForms_59 (by decide) (fun c7 => ?_) (fun c7 => ?_)
      · rw [if_pos c7] at h
        exact wX12_exploredNormalForms_66 C hr hk rc25 hrc25 _ _ _ _ _ _ h t0 H locs hT ls (lv_sub hl [0, 2] rfl)
      · rw [if_neg c7] at h
        refine lv_iconst (v := 1) hx hb dX12_exploredNormalForms_62 (by decide) ?_
        refine lv_goto (tgt := 67) hx hb dX12_exploredNormalForms_63 (by decide) ?_
        exact wX12_exploredNormalForms_67 C hr hk rc25 hrc25 _ _ _ _ _ _ _ h t0 H locs hT ls (lv_sub hl [0, 2] rfl)
set_option maxHeartbeats 4000000 in
set_option maxRecDepth 20000 in
theorem wX12_exploredNormalForms_25 (C : js_C D g p m c cX12_exploredNormalForms 6 s args RX12) (hr : meth.sig.returnType = (some .int)) (hk : meth.locks = false) : ∀ (k : Nat), ∀ (x0 : Nat) (x4 : Int32) (x5 : Int32) (σ : js_S) (r0 : Int32) (σ0 : js_S), fX12_exploredNormalForms_25 fu k x0 x4 x5 σ = some (r0, σ0) → ob_ nn 12 x0 → js_at p l e 8 s m args below meth c D B g nn 25 6 [(0, .ref (B + x0)), (4, .int x4), (5, .int x5)] [] σ (js_QI D B g nn r0 σ0) := by
  intro k
  induction k with
  | zero =>
    intro x0 x4 x5 σ r0 σ0 h
    cases h
  | succ k ih =>
    intro x0 x4 x5 σ r0 σ0 h
    exact wX12_exploredNormalForms_25b C hr hk (fX12_exploredNormalForms_25 fu k) ih x0 x4 x5 σ r0 σ0 h
set_option maxHeartbeats 4000000 in
set_option maxRecDepth 20000 in
theorem kX12_exploredNormalForms {x0 : Nat} {x1 : Int32} {x2 : Int32} {σ σ0 : js_S} {r0 : Int32} (t0 : ob_ nn 12 x0) (h : fX12_exploredNormalForms fu x0 x1 x2 σ = some (r0, σ0)) : js_M l D B g nn yX12_exploredNormalForms cX12_exploredNormalForms 6 (some .int) 8 [.ref (B + x0), .int x1, .int x2] σ (js_QI D B g nn r0 σ0) := by
  refine js_enter (by decide) (Nat.le_of_ble_eq_true rfl) ?_
  intro p e s m args below meth c C hr hk ls hl hT
  have hl : lv_has ls 6 [(0, .ref (B + x0)), (1, .int x1), (2, .int x2)] := hl
  obtain ⟨hx, hb, hml, hown, ht, hK, hNw⟩ := id C
  obtain ⟨H, eH⟩ : ∃ H, H = s.heap := ⟨_, rfl⟩
  obtain ⟨locs, eL⟩ : ∃ z : List Loc, z = [] := ⟨_, rfl⟩
  rw [← eH, ← eL]
  rw [← eH, ← eL] at hT
  clear eH eL
  unfold fX12_exploredNormalForms at h
  refine lv_aload_n hx hb dX12_exploredNormalForms_0 rfl (lv_at hl 0 rfl) ?_
  refine lv_iload_n hx hb dX12_exploredNormalForms_1 rfl (lv_at hl 1 rfl) ?_
  refine lv_iload_n hx hb dX12_exploredNormalForms_2 rfl (lv_at hl 2 rfl) ?_
  obtain ⟨r1, σ1, hc1, h⟩ := bd_some h
  refine js_backI hT (js_runV C hT cfX12 t0 rfl mfX12_wrongExploration lk_X12_326 (kX12_wrongExploration t0 hc1) ⟨Nat.le_of_ble_eq_true rfl, Nat.le_of_ble_eq_true rfl⟩ rfl hl.1 rfl (Nat.le_of_ble_eq_true rfl) ⟨Nat.zero_le _, Nat.zero_le _⟩ dX12_exploredNormalForms_3) (fun H locs hT => ?_)
  refine lv_istore_n (lv' := [(3, .int r1), (0, .ref (B + x0)), (1, .int x1), (2, .int x2)]) hx hb dX12_exploredNormalForms_6 rfl hl (by decide) rfl (fun ls hl => ?_)
  refine lv_iload_n hx hb dX12_exploredNormalForms_7 rfl (lv_at hl 0 rfl) ?_
  refine lv_if_ge (tgt := 13) hx hb dX12_exploredNormalForms_8 (by decide) (fun c2 => ?_) (fun c2 => ?_)
  · rw [if_pos c2] at h
    refine lv_aload_n hx hb dX12_exploredNormalForms_13 rfl (lv_at hl 1 rfl) ?_
    refine lv_iload_n hx hb dX12_exploredNormalForms_14 rfl (lv_at hl 2 rfl) ?_
    refine lv_iload_n hx hb dX12_exploredNormalForms_15 rfl (lv_at hl 3 rfl) ?_
    obtain ⟨z3, σ3, hc3, h⟩ := bd_some h
    refine js_backV hT (js_runV C hT cfX12 t0 rfl mfX12_explore lk_X12_329 (kX12_explore t0 hc3) ⟨Nat.le_of_ble_eq_true rfl, Nat.le_of_ble_eq_true rfl⟩ rfl hl.1 rfl (Nat.le_of_ble_eq_true rfl) ⟨Nat.zero_le _, Nat.zero_le _⟩ dX12_exploredNormalForms_16) (fun H locs hT => ?_)
    refine lv_iconst (v := 0) hx hb dX12_exploredNormalForms_19 (by decide) ?_
    refine lv_istore (lv' := [(4, .int 0), (3, .int r1), (0, .ref (B + x0)), (1, .int x1), (2, .int x2)]) hx hb dX12_exploredNormalForms_20 hl (by decide) rfl (fun ls hl => ?_)
    refine lv_iconst (v := 0) hx hb dX12_exploredNormalForms_22 (by decide) ?_
    refine lv_istore (lv' := [(5, .int 0), (4, .int 0), (3, .int r1), (0, .ref (B + x0)), (1, .int x1), (2, .int x2)]) hx hb dX12_exploredNormalForms_23 hl (by decide) rfl (fun ls hl => ?_)
    exact wX12_exploredNormalForms_25 C hr hk _ _ _ _ _ _ _ h t0 H locs hT ls (lv_sub hl [3, 1, 0] rfl)
  · rw [if_neg c2] at h
    refine lv_iload_n hx hb dX12_exploredNormalForms_11 rfl (lv_at hl 0 rfl) ?_
    obtain ⟨rfl, rfl⟩ := js_rt h
    exact js_iret C hT hr hk dX12_exploredNormalForms_12
set_option maxHeartbeats 4000000 in
set_option maxRecDepth 20000 in
theorem wX12_findLoop_41b (C : js_C D g p m c cX12_findLoop 6 s args RX12) (hr : meth.sig.returnType = (some .int)) (hk : meth.locks = false) (rc41 : Nat → Int32 → Int32 → js_S → Option (Int32 × js_S)) (hrc41 : ∀ (x0 : Nat) (x2 : Int32) (x3 : Int32) (σ : js_S) (r0 : Int32) (σ0 : js_S), rc41 x0 x2 x3 σ = some (r0, σ0) → ob_ nn 12 x0 → js_at p l e 7 s m args below meth c D B g nn 41 6 [(0, .ref (B + x0)), (2, .int x2), (3, .int x3)] [] σ (js_QI D B g nn r0 σ0)) : ∀ (x0 : Nat) (x2 : Int32) (x3 : Int32) (σ : js_S) (r0 : Int32) (σ0 : js_S), fX12_findLoop_41b fu rc41 x0 x2 x3 σ = some (r0, σ0) → ob_ nn 12 x0 → js_at p l e 7 s m args below meth c D B g nn 41 6 [(0, .ref (B + x0)), (2, .int x2), (3, .int x3)] [] σ (js_QI D B g nn r0 σ0) := by
  obtain ⟨hx, hb, hml, hown, ht, hK, hNw⟩ := id C
  intro x0 x2 x3 σ r0 σ0 h t0 H locs hT ls hl
  unfold fX12_findLoop_41b at h
  refine lv_iload_n hx hb dX12_findLoop_41 rfl (lv_at hl 2 rfl) ?_
  refine lv_iload_n hx hb dX12_findLoop_42 rfl (lv_at hl 1 rfl) ?_
  refine lv_icmp_gt (tgt := 117) hx hb dX12_findLoop_43 (by decide) (fun c1 => ?_) (fun c1 => ?_)
  · rw [if_pos c1] at h
    refine lv_bipush (v := (-5)) hx hb dX12_findLoop_117 (by decide) ?_
    obtain ⟨rfl, rfl⟩ := js_rt h
    exact js_iret C hT hr hk dX12_findLoop_119
  · rw [if_neg c1] at h
    refine lv_bipush (v := 96) hx hb dX12_findLoop_46 (by decide) ?_
    refine lv_aload_n hx hb dX12_findLoop_48 rfl (lv_at hl 0 rfl) ?_
    refine js_gI C hT cfX12 t0 38 (by decide) rfl lk_X12_307 dX12_findLoop_49 ?_
    refine lv_iconst (v := 1) hx hb dX12_findLoop_52 (by decide) ?_
    refine lv_isub hx hb dX12_findLoop_53 ?_
    refine lv_imul hx hb dX12_findLoop_54 ?_
    refine lv_istore (lv' := [(4, .int (96 * ((σ.1 x0 38) - 1))), (0, .ref (B + x0)), (2, .int x2), (3, .int x3)]) hx hb dX12_findLoop_55 hl (by decide) rfl (fun ls hl => ?_)
    refine lv_aload_n hx hb dX12_findLoop_57 rfl (lv_at hl 1 rfl) ?_
    refine lv_aload_n hx hb dX12_findLoop_58 rfl (lv_at hl 1 rfl) ?_
    refine js_gR C hT cfX12 t0 36 (by decide) (q := 20) rfl (by decide) lk_X12_95 dX12_findLoop_59 (fun t2a => ?_)
    refine lv_iload hx hb dX12_findLoop_62 (lv_at hl 0 rfl) ?_
    refine lv_iconst (v := 0) hx hb dX12_findLoop_64 (by decide) ?_
    obtain ⟨r3, σ3, hc3, h⟩ := bd_some h
    refine js_backI hT (js_runV C hT cfX12 t0 rfl mfX12_redex lk_X12_298 (kX12_redex t0 t2a hc3) ⟨Nat.le_of_ble_eq_true rfl, Nat.le_of_ble_eq_true rfl⟩ rfl hl.1 rfl (Nat.le_of_ble_eq_true rfl) ⟨Nat.zero_le _, Nat.zero_le _⟩ dX12_findLoop_65) (fun H locs hT => ?_)
    refine lv_istore (lv' := [(5, .int r3), (4, .int (96 * ((σ.1 x0 38) - 1))), (0, .ref (B + x0)), (2, .int x2), (3, .int x3)]) hx hb dX12_findLoop_68 hl (by decide) rfl (fun ls hl => ?_)
    refine lv_iload hx hb dX12_findLoop_70 (lv_at hl 0 rfl) ?_
    refine lv_if_lt (tgt := 90) hx hb dX12_findLoop_72 (by decide) (fun c4 => ?_) (fun c4 => ?_)
    · rw [if_pos c4] at h
      refine lv_bipush (v := (-5)) hx hb dX12_findLoop_90 (by decide) ?_
      obtain ⟨rfl, rfl⟩ := js_rt h
      exact js_iret C hT hr hk dX12_findLoop_92
    · rw [if_neg c4] at h
      refine lv_aload_n hx hb dX12_findLoop_75 rfl (lv_at hl 2 rfl) ?_
      refine lv_aload_n hx hb dX12_findLoop_76 rfl (lv_at hl 2 rfl) ?_
      refine js_gR C hT cfX12 t0 36 (by decide) (q := 20) rfl (by decide) lk_X12_95 dX12_findLoop_77 (fun t5a => ?_)
      refine lv_iload hx hb dX12_findLoop_80 (lv_at hl 1 rfl) ?_
      refine lv_iload hx hb dX12_findLoop_82 (lv_at hl 0 rfl) ?_
      obtain ⟨r6, σ6, hc6, h⟩ := bd_some h
      refine js_backI hT (js_runV C hT cfX12 t0 rfl mfX12_rewrite lk_X12_301 (kX12_rewrite t0 t5a hc6) ⟨Nat.le_of_ble_eq_true rfl, Nat.le_of_ble_eq_true rfl⟩ rfl hl.1 rfl (Nat.le_of_ble_eq_true rfl) ⟨Nat.zero_le _, Nat.zero_le _⟩ dX12_findLoop_84) (fun H locs hT => ?_)
      refine lv_if_ge (tgt := 93) hx hb dX12_findLoop_87 (by decide) (fun c7 => ?_) (fun c7 => ?_)
      · rw [if_pos c7] at h
        refine lv_aload_n hx hb dX12_findLoop_93 rfl (lv_at hl 2 rfl) ?_
        obtain ⟨r8, σ8, hc8, h⟩ := bd_some h
        refine js_backI hT (js_runV C hT cfX12 t0 rfl mfX12_isMet lk_X12_314 (kX12_isMet t0 hc8) ⟨Nat.le_of_ble_eq_true rfl, Nat.le_of_ble_eq_true rfl⟩ rfl hl.1 rfl (Nat.le_of_ble_eq_true rfl) ⟨Nat.zero_le _, Nat.zero_le _⟩ dX12_findLoop_94) (fun H locs hT => ?_)
        refine lv_if_eq (tgt := 102) hx hb dX12_findLoop_97 (by decide) (fun c9 => ?_) (fun c9 => ?_)
        · rw [if_pos c9] at h
          refine lv_aload_n hx hb dX12_findLoop_102 rfl (lv_at hl 2 rfl) ?_
          refine lv_aload_n hx hb dX12_findLoop_103 rfl (lv_at hl 2 rfl) ?_
          refine js_gR C hT cfX12 t0 11 (by decide) (q := 20) rfl (by decide) lk_X12_34 dX12_findLoop_104 (fun t10a => ?_)
          refine lv_iconst (v := 0) hx hb dX12_findLoop_107 (by decide) ?_
          obtain ⟨z11, σ11, hc11, h⟩ := bd_some h
          refine js_backV hT (js_runV C hT cfX12 t0 rfl mfX12_meet lk_X12_310 (kX12_meet t0 t10a hc11) ⟨Nat.le_of_ble_eq_true rfl, Nat.le_of_ble_eq_true rfl⟩ rfl hl.1 rfl (Nat.le_of_ble_eq_true rfl) ⟨Nat.zero_le _, Nat.zero_le _⟩ dX12_findLoop_108) (fun H locs hT => ?_)
          refine lv_iinc (v := x3 + 1) (lv' := [(3, .int (x3 + 1)), (5, .int r3), (4, .int (96 * ((σ.1 x0 38) - 1))), (0, .ref (B + x0)), (2, .int x2)]) hx hb dX12_findLoop_111 hl (k := 4) rfl rfl (by decide) rfl (fun ls hl => ?_)
          refine lv_goto (tgt := 41) hx hb dX12_findLoop_114 (by decide) ?_
          exact hrc41 _ _ _ _ _ _ h t0 H locs hT ls (lv_sub hl [3, 4, 0] rfl)
        · rw [if_neg c9] at h
          refine lv_iload_n hx hb dX12_findLoop_100 rfl (lv_at hl 4 rfl) ?_
          obtain ⟨rfl, rfl⟩ := js_rt h
          exact js_iret C hT hr hk dX12_findLoop_101
      · rw [if_neg c7] at h
        refine lv_bipush (v := (-5)) hx hb dX12_findLoop_90 (by decide) ?_
        obtain ⟨rfl, rfl⟩ := js_rt h
        exact js_iret C hT hr hk dX12_findLoop_92
set_option maxHeartbeats 4000000 in
set_option maxRecDepth 20000 in
theorem wX12_findLoop_41 (C : js_C D g p m c cX12_findLoop 6 s args RX12) (hr : meth.sig.returnType = (some .int)) (hk : meth.locks = false) : ∀ (k : Nat), ∀ (x0 : Nat) (x2 : Int32) (x3 : Int32) (σ : js_S) (r0 : Int32) (σ0 : js_S), fX12_findLoop_41 fu k x0 x2 x3 σ = some (r0, σ0) → ob_ nn 12 x0 → js_at p l e 7 s m args below meth c D B g nn 41 6 [(0, .ref (B + x0)), (2, .int x2), (3, .int x3)] [] σ (js_QI D B g nn r0 σ0) := by
  intro k
  induction k with
  | zero =>
    intro x0 x2 x3 σ r0 σ0 h
    cases h
  | succ k ih =>
    intro x0 x2 x3 σ r0 σ0 h
    exact wX12_findLoop_41b C hr hk (fX12_findLoop_41 fu k) ih x0 x2 x3 σ r0 σ0 h
set_option maxHeartbeats 4000000 in
set_option maxRecDepth 20000 in
theorem kX12_findLoop {x0 : Nat} {x1 : Int32} {x2 : Int32} {σ σ0 : js_S} {r0 : Int32} (t0 : ob_ nn 12 x0) (h : fX12_findLoop fu x0 x1 x2 σ = some (r0, σ0)) : js_M l D B g nn yX12_findLoop cX12_findLoop 6 (some .int) 7 [.ref (B + x0), .int x1, .int x2] σ (js_QI D B g nn r0 σ0) := by
  refine js_enter (by decide) (Nat.le_of_ble_eq_true rfl) ?_
  intro p e s m args below meth c C hr hk ls hl hT
  have hl : lv_has ls 6 [(0, .ref (B + x0)), (1, .int x1), (2, .int x2)] := hl
  obtain ⟨hx, hb, hml, hown, ht, hK, hNw⟩ := id C
  obtain ⟨H, eH⟩ : ∃ H, H = s.heap := ⟨_, rfl⟩
  obtain ⟨locs, eL⟩ : ∃ z : List Loc, z = [] := ⟨_, rfl⟩
  rw [← eH, ← eL]
  rw [← eH, ← eL] at hT
  clear eH eL
  unfold fX12_findLoop at h
  refine lv_iload_n hx hb dX12_findLoop_0 rfl (lv_at hl 1 rfl) ?_
  obtain ⟨r1, σ1, hc1, h⟩ := bd_some h
  refine js_backI hT (js_runS C hT mfX12_isRegister lk_X12_274 (kX12_isRegister  hc1) ⟨Nat.le_of_ble_eq_true rfl, Nat.le_of_ble_eq_true rfl⟩ rfl hl.1 rfl (Nat.le_of_ble_eq_true rfl) ⟨Nat.zero_le _, Nat.zero_le _⟩ dX12_findLoop_1) (fun H locs hT => ?_)
  refine lv_if_ne (tgt := 9) hx hb dX12_findLoop_4 (by decide) (fun c2 => ?_) (fun c2 => ?_)
  · rw [if_neg c2] at h
    refine lv_iload_n hx hb dX12_findLoop_9 rfl (lv_at hl 2 rfl) ?_
    refine lv_iconst (v := 1) hx hb dX12_findLoop_10 (by decide) ?_
    refine lv_bipush (v := 100) hx hb dX12_findLoop_11 (by decide) ?_
    obtain ⟨r3, σ3, hc3, h⟩ := bd_some h
    refine js_backI hT (js_runS C hT mfX12_isIn lk_X12_105 (kX12_isIn  hc3) ⟨Nat.le_of_ble_eq_true rfl, Nat.le_of_ble_eq_true rfl⟩ rfl hl.1 rfl (Nat.le_of_ble_eq_true rfl) ⟨Nat.zero_le _, Nat.zero_le _⟩ dX12_findLoop_13) (fun H locs hT => ?_)
    refine lv_if_ne (tgt := 22) hx hb dX12_findLoop_16 (by decide) (fun c4 => ?_) (fun c4 => ?_)
    · rw [if_neg c4] at h
      refine lv_aload_n hx hb dX12_findLoop_22 rfl (lv_at hl 0 rfl) ?_
      refine lv_iconst (v := 0) hx hb dX12_findLoop_23 (by decide) ?_
      obtain ⟨σ5, e5, h⟩ := lt_some h
      refine js_pI C hT cfX12 t0 38 (by decide) rfl rfl rfl rfl lk_X12_307 dX12_findLoop_24 (fun H locs hT => ?_)
      rw [e5] at hT
      refine lv_aload_n hx hb dX12_findLoop_27 rfl (lv_at hl 0 rfl) ?_
      refine lv_aload_n hx hb dX12_findLoop_28 rfl (lv_at hl 0 rfl) ?_
      refine js_gR C hT cfX12 t0 4 (by decide) (q := 20) rfl (by decide) lk_X12_22 dX12_findLoop_29 (fun t6a => ?_)
      refine lv_bipush (v := 96) hx hb dX12_findLoop_32 (by decide) ?_
      refine lv_iload_n hx hb dX12_findLoop_34 rfl (lv_at hl 1 rfl) ?_
      refine lv_imul hx hb dX12_findLoop_35 ?_
      obtain ⟨z7, σ7, hc7, h⟩ := bd_some h
      refine js_backV hT (js_runV C hT cfX12 t0 rfl mfX12_meet lk_X12_310 (kX12_meet t0 t6a hc7) ⟨Nat.le_of_ble_eq_true rfl, Nat.le_of_ble_eq_true rfl⟩ rfl hl.1 rfl (Nat.le_of_ble_eq_true rfl) ⟨Nat.zero_le _, Nat.zero_le _⟩ dX12_findLoop_36) (fun H locs hT => ?_)
      refine lv_iconst (v := 1) hx hb dX12_findLoop_39 (by decide) ?_
      refine lv_istore_n (lv' := [(3, .int 1), (0, .ref (B + x0)), (1, .int x1), (2, .int x2)]) hx hb dX12_findLoop_40 rfl hl (by decide) rfl (fun ls hl => ?_)
      exact wX12_findLoop_41 C hr hk _ _ _ _ _ _ _ h t0 H locs hT ls (lv_sub hl [1, 3, 0] rfl)
    · rw [if_pos c4] at h
      refine lv_bipush (v := (-2)) hx hb dX12_findLoop_19 (by decide) ?_
      obtain ⟨rfl, rfl⟩ := js_rt h
      exact js_iret C hT hr hk dX12_findLoop_21
  · rw [if_pos c2] at h
    refine lv_iconst (v := (-1)) hx hb dX12_findLoop_7 (by decide) ?_
    obtain ⟨rfl, rfl⟩ := js_rt h
    exact js_iret C hT hr hk dX12_findLoop_8
set_option maxHeartbeats 4000000 in
set_option maxRecDepth 20000 in
theorem kX12_put {x0 : Nat} {x1 : Int32} {σ σ0 : js_S} {r0 : Unit} (t0 : ob_ nn 12 x0) (h : fX12_put fu x0 x1 σ = some (r0, σ0)) : js_M l D B g nn yX12_put cX12_put 2 none 0 [.ref (B + x0), .int x1] σ (js_QV D B g nn σ0) := by
  refine js_enter (by decide) (Nat.le_of_ble_eq_true rfl) ?_
  intro p e s m args below meth c C hr hk ls hl hT
  have hl : lv_has ls 2 [(0, .ref (B + x0)), (1, .int x1)] := hl
  obtain ⟨hx, hb, hml, hown, ht, hK, hNw⟩ := id C
  obtain ⟨H, eH⟩ : ∃ H, H = s.heap := ⟨_, rfl⟩
  obtain ⟨locs, eL⟩ : ∃ z : List Loc, z = [] := ⟨_, rfl⟩
  rw [← eH, ← eL]
  rw [← eH, ← eL] at hT
  clear eH eL
  unfold fX12_put at h
  refine lv_aload_n hx hb dX12_put_0 rfl (lv_at hl 0 rfl) ?_
  refine js_gR C hT cfX12 t0 34 (by decide) (q := 20) rfl (by decide) lk_X12_91 dX12_put_1 (fun t1a => ?_)
  refine lv_aload_n hx hb dX12_put_4 rfl (lv_at hl 0 rfl) ?_
  refine js_gI C hT cfX12 t0 35 (by decide) rfl lk_X12_277 dX12_put_5 ?_
  refine lv_iload_n hx hb dX12_put_8 rfl (lv_at hl 1 rfl) ?_
  obtain ⟨g2, h⟩ := gd_some _ h
  obtain ⟨σ2, e2, h⟩ := lt_some h
  refine js_iast C hT t1a g2 dX12_put_9 (fun H locs hT => ?_)
  rw [e2] at hT
  refine lv_aload_n hx hb dX12_put_10 rfl (lv_at hl 0 rfl) ?_
  refine lv_dup hx hb dX12_put_11 rfl ?_
  refine js_gI C hT cfX12 t0 35 (by decide) rfl lk_X12_277 dX12_put_12 ?_
  refine lv_iconst (v := 1) hx hb dX12_put_15 (by decide) ?_
  refine lv_iadd hx hb dX12_put_16 ?_
  obtain ⟨σ3, e3, h⟩ := lt_some h
  refine js_pI C hT cfX12 t0 35 (by decide) rfl rfl rfl rfl lk_X12_277 dX12_put_17 (fun H locs hT => ?_)
  rw [e3] at hT
  obtain ⟨rfl, rfl⟩ := js_rt h
  exact js_vret C hT hr hk dX12_put_20
set_option maxHeartbeats 4000000 in
set_option maxRecDepth 20000 in
theorem wX12_format_46 (C : js_C D g p m c cX12_format 6 s args RX12) (hr : meth.sig.returnType = (some .int)) (hk : meth.locks = false) (rp : Nat → Int32 → js_S → Option (Int32 × js_S)) {qq : Nat} (hq : 2 ≤ qq) (hrp : ∀ (a0 : Nat) (a1 : Int32) (σ : js_S) (r0 : Int32) (σ0 : js_S), ob_ nn 12 a0 → rp a0 a1 σ = some (r0, σ0) → js_M l D B g nn yX12_format cX12_format 6 (some .int) qq [.ref (B + a0), .int a1] σ (js_QI D B g nn r0 σ0)) (rc26 : Nat → Int32 → Int32 → Int32 → js_S → Option (Int32 × js_S)) (hrc26 : ∀ (x0 : Nat) (x3 : Int32) (x4 : Int32) (x5 : Int32) (σ : js_S) (r0 : Int32) (σ0 : js_S), rc26 x0 x3 x4 x5 σ = some (r0, σ0) → ob_ nn 12 x0 → js_at p l e (qq + 1) s m args below meth c D B g nn 26 6 [(0, .ref (B + x0)), (3, .int x3), (4, .int x4), (5, .int x5)] [] σ (js_QI D B g nn r0 σ0)) : ∀ (x0 : Nat) (x3 : Int32) (x4 : Int32) (x5 : Int32) (y0 : Int32) (y1 : Nat) (σ : js_S) (r0 : Int32) (σ0 : js_S), fX12_format_46 fu rp rc26 x0 x3 x4 x5 y0 y1 σ = some (r0, σ0) → ob_ nn 12 x0 → ob_ nn 12 y1 → js_at p l e (qq + 1) s m args below meth c D B g nn 46 6 [(0, .ref (B + x0)), (3, .int x3), (4, .int x4), (5, .int x5)] [.int y0, .ref (B + y1)] σ (js_QI D B g nn r0 σ0) := by
  obtain ⟨hx, hb, hml, hown, ht, hK, hNw⟩ := id C
  intro x0 x3 x4 x5 y0 y1 σ r0 σ0 h t0 u1 H locs hT ls hl
  unfold fX12_format_46 at h
  obtain ⟨z1, σ1, hc1, h⟩ := bd_some h
  refine js_backV hT (js_runV C hT cfX12 u1 rfl mfX12_put lk_X12_280 (kX12_put u1 hc1) ⟨by simp only [js_rm]; omega, by simp only [js_rm]; omega⟩ rfl hl.1 rfl (Nat.le_of_ble_eq_true rfl) ⟨Nat.zero_le _, Nat.zero_le _⟩ dX12_format_46) (fun H locs hT => ?_)
  refine lv_aload_n hx hb dX12_format_49 rfl (lv_at hl 0 rfl) ?_
  refine lv_iload_n hx hb dX12_format_50 rfl (lv_at hl 1 rfl) ?_
  obtain ⟨r2, σ2, hc2, h⟩ := bd_some h
  refine js_backI hT (js_runV C hT cfX12 t0 rfl mfX12_format lk_X12_283 (hrp _ _ _ _ _ t0 hc2) ⟨by simp only [js_rm]; omega, by simp only [js_rm]; omega⟩ rfl hl.1 rfl (Nat.le_of_ble_eq_true rfl) ⟨Nat.zero_le _, Nat.zero_le _⟩ dX12_format_51) (fun H locs hT => ?_)
  refine lv_istore_n (lv' := [(3, .int r2), (0, .ref (B + x0)), (4, .int x4), (5, .int x5)]) hx hb dX12_format_54 rfl hl (by decide) rfl (fun ls hl => ?_)
  refine lv_iinc (v := x5 + 1) (lv' := [(5, .int (x5 + 1)), (3, .int r2), (0, .ref (B + x0)), (4, .int x4)]) hx hb dX12_format_55 hl (k := 3) rfl rfl (by decide) rfl (fun ls hl => ?_)
  refine lv_goto (tgt := 26) hx hb dX12_format_58 (by decide) ?_
  exact hrc26 _ _ _ _ _ _ _ h t0 H locs hT ls (lv_sub hl [2, 1, 3, 0] rfl)
set_option maxHeartbeats 4000000 in
set_option maxRecDepth 20000 in
theorem wX12_format_26b (C : js_C D g p m c cX12_format 6 s args RX12) (hr : meth.sig.returnType = (some .int)) (hk : meth.locks = false) (rp : Nat → Int32 → js_S → Option (Int32 × js_S)) {qq : Nat} (hq : 2 ≤ qq) (hrp : ∀ (a0 : Nat) (a1 : Int32) (σ : js_S) (r0 : Int32) (σ0 : js_S), ob_ nn 12 a0 → rp a0 a1 σ = some (r0, σ0) → js_M l D B g nn yX12_format cX12_format 6 (some .int) qq [.ref (B + a0), .int a1] σ (js_QI D B g nn r0 σ0)) (rc26 : Nat → Int32 → Int32 → Int32 → js_S → Option (Int32 × js_S)) (hrc26 : ∀ (x0 : Nat) (x3 : Int32) (x4 : Int32) (x5 : Int32) (σ : js_S) (r0 : Int32) (σ0 : js_S), rc26 x0 x3 x4 x5 σ = some (r0, σ0) → ob_ nn 12 x0 → js_at p l e (qq + 1) s m args below meth c D B g nn 26 6 [(0, .ref (B + x0)), (3, .int x3), (4, .int x4), (5, .int x5)] [] σ (js_QI D B g nn r0 σ0)) : ∀ (x0 : Nat) (x3 : Int32) (x4 : Int32) (x5 : Int32) (σ : js_S) (r0 : Int32) (σ0 : js_S), fX12_format_26b fu rp rc26 x0 x3 x4 x5 σ = some (r0, σ0) → ob_ nn 12 x0 → js_at p l e (qq + 1) s m args below meth c D B g nn 26 6 [(0, .ref (B + x0)), (3, .int x3), (4, .int x4), (5, .int x5)] [] σ (js_QI D B g nn r0 σ0) := by
  obtain ⟨hx, hb, hml, hown, ht, hK, hNw⟩ := id C
  intro x0 x3 x4 x5 σ r0 σ0 h t0 H locs hT ls hl
  unfold fX12_format_26b at h
  refine lv_iload hx hb dX12_format_26 (lv_at hl 3 rfl) ?_
  refine lv_iload hx hb dX12_format_28 (lv_at hl 2 rfl) ?_
  refine lv_icmp_ge (tgt := 61) hx hb dX12_format_30 (by decide) (fun c1 => ?_) (fun c1 => ?_)
  · rw [if_pos c1] at h
    refine lv_iload hx hb dX12_format_61 (lv_at hl 2 rfl) ?_
    refine lv_if_le (tgt := 72) hx hb dX12_format_63 (by decide) (fun c2 => ?_) (fun c2 => ?_)
    · rw [if_pos c2] at h
      refine lv_iload_n hx hb dX12_format_72 rfl (lv_at hl 1 rfl) ?_
      obtain ⟨rfl, rfl⟩ := js_rt h
      exact js_iret C hT hr hk dX12_format_73
    · rw [if_neg c2] at h
      refine lv_aload_n hx hb dX12_format_66 rfl (lv_at hl 0 rfl) ?_
      refine lv_bipush (v := 41) hx hb dX12_format_67 (by decide) ?_
      obtain ⟨z3, σ3, hc3, h⟩ := bd_some h
      refine js_backV hT (js_runV C hT cfX12 t0 rfl mfX12_put lk_X12_280 (kX12_put t0 hc3) ⟨by simp only [js_rm]; omega, by simp only [js_rm]; omega⟩ rfl hl.1 rfl (Nat.le_of_ble_eq_true rfl) ⟨Nat.zero_le _, Nat.zero_le _⟩ dX12_format_69) (fun H locs hT => ?_)
      refine lv_iload_n hx hb dX12_format_72 rfl (lv_at hl 1 rfl) ?_
      obtain ⟨rfl, rfl⟩ := js_rt h
      exact js_iret C hT hr hk dX12_format_73
  · rw [if_neg c1] at h
    refine lv_aload_n hx hb dX12_format_33 rfl (lv_at hl 0 rfl) ?_
    refine lv_iload hx hb dX12_format_34 (lv_at hl 3 rfl) ?_
    refine lv_if_ne (tgt := 44) hx hb dX12_format_36 (by decide) (fun c4 => ?_) (fun c4 => ?_)
    · rw [if_neg c4] at h
      refine lv_bipush (v := 44) hx hb dX12_format_44 (by decide) ?_
      exact wX12_format_46 C hr hk rp hq hrp rc26 hrc26 _ _ _ _ _ _ _ _ _ h t0 t0 H locs hT ls (lv_sub hl [0, 1, 2, 3] rfl)
    · rw [if_pos c4] at h
      refine lv_bipush (v := 40) hx hb dX12_format_39 (by decide) ?_
      refine lv_goto (tgt := 46) hx hb dX12_format_41 (by decide) ?_
      exact wX12_format_46 C hr hk rp hq hrp rc26 hrc26 _ _ _ _ _ _ _ _ _ h t0 t0 H locs hT ls (lv_sub hl [0, 1, 2, 3] rfl)
set_option maxHeartbeats 4000000 in
set_option maxRecDepth 20000 in
theorem wX12_format_26 (C : js_C D g p m c cX12_format 6 s args RX12) (hr : meth.sig.returnType = (some .int)) (hk : meth.locks = false) (rp : Nat → Int32 → js_S → Option (Int32 × js_S)) {qq : Nat} (hq : 2 ≤ qq) (hrp : ∀ (a0 : Nat) (a1 : Int32) (σ : js_S) (r0 : Int32) (σ0 : js_S), ob_ nn 12 a0 → rp a0 a1 σ = some (r0, σ0) → js_M l D B g nn yX12_format cX12_format 6 (some .int) qq [.ref (B + a0), .int a1] σ (js_QI D B g nn r0 σ0)) : ∀ (k : Nat), ∀ (x0 : Nat) (x3 : Int32) (x4 : Int32) (x5 : Int32) (σ : js_S) (r0 : Int32) (σ0 : js_S), fX12_format_26 fu rp k x0 x3 x4 x5 σ = some (r0, σ0) → ob_ nn 12 x0 → js_at p l e (qq + 1) s m args below meth c D B g nn 26 6 [(0, .ref (B + x0)), (3, .int x3), (4, .int x4), (5, .int x5)] [] σ (js_QI D B g nn r0 σ0) := by
  intro k
  induction k with
  | zero =>
    intro x0 x3 x4 x5 σ r0 σ0 h
    cases h
  | succ k ih =>
    intro x0 x3 x4 x5 σ r0 σ0 h
    exact wX12_format_26b C hr hk rp hq hrp (fX12_format_26 fu rp k) ih x0 x3 x4 x5 σ r0 σ0 h
set_option maxHeartbeats 4000000 in
set_option maxRecDepth 20000 in
theorem kX12_format_e (rp : Nat → Int32 → js_S → Option (Int32 × js_S)) {qq : Nat} (hq : 2 ≤ qq) (hrp : ∀ (a0 : Nat) (a1 : Int32) (σ : js_S) (r0 : Int32) (σ0 : js_S), ob_ nn 12 a0 → rp a0 a1 σ = some (r0, σ0) → js_M l D B g nn yX12_format cX12_format 6 (some .int) qq [.ref (B + a0), .int a1] σ (js_QI D B g nn r0 σ0)) {x0 : Nat} {x1 : Int32} {σ σ0 : js_S} {r0 : Int32} (t0 : ob_ nn 12 x0) (h : fX12_format_e fu rp x0 x1 σ = some (r0, σ0)) : js_M l D B g nn yX12_format cX12_format 6 (some .int) (qq + 1) [.ref (B + x0), .int x1] σ (js_QI D B g nn r0 σ0) := by
  refine js_enter (by decide) (Nat.le_of_ble_eq_true rfl) ?_
  intro p e s m args below meth c C hr hk ls hl hT
  have hl : lv_has ls 6 [(0, .ref (B + x0)), (1, .int x1)] := hl
  obtain ⟨hx, hb, hml, hown, ht, hK, hNw⟩ := id C
  obtain ⟨H, eH⟩ : ∃ H, H = s.heap := ⟨_, rfl⟩
  obtain ⟨locs, eL⟩ : ∃ z : List Loc, z = [] := ⟨_, rfl⟩
  rw [← eH, ← eL]
  rw [← eH, ← eL] at hT
  clear eH eL
  unfold fX12_format_e at h
  refine lv_aload_n hx hb dX12_format_0 rfl (lv_at hl 0 rfl) ?_
  refine js_gR C hT cfX12 t0 4 (by decide) (q := 20) rfl (by decide) lk_X12_22 dX12_format_1 (fun t1a => ?_)
  refine lv_iload_n hx hb dX12_format_4 rfl (lv_at hl 1 rfl) ?_
  obtain ⟨g2, h⟩ := gd_some _ h
  refine js_iald C hT t1a g2 dX12_format_5 ?_
  refine lv_istore_n (lv' := [(2, .int (σ.1 (σ.2.2 x0 4) (Int32.toNatClampNeg x1))), (0, .ref (B + x0)), (1, .int x1)]) hx hb dX12_format_6 rfl hl (by decide) rfl (fun ls hl => ?_)
  refine lv_aload_n hx hb dX12_format_7 rfl (lv_at hl 1 rfl) ?_
  refine lv_iload_n hx hb dX12_format_8 rfl (lv_at hl 0 rfl) ?_
  obtain ⟨z3, σ3, hc3, h⟩ := bd_some h
  refine js_backV hT (js_runV C hT cfX12 t0 rfl mfX12_put lk_X12_280 (kX12_put t0 hc3) ⟨by simp only [js_rm]; omega, by simp only [js_rm]; omega⟩ rfl hl.1 rfl (Nat.le_of_ble_eq_true rfl) ⟨Nat.zero_le _, Nat.zero_le _⟩ dX12_format_9) (fun H locs hT => ?_)
  refine lv_iload_n hx hb dX12_format_12 rfl (lv_at hl 2 rfl) ?_
  refine lv_iconst (v := 1) hx hb dX12_format_13 (by decide) ?_
  refine lv_iadd hx hb dX12_format_14 ?_
  refine lv_istore_n (lv' := [(3, .int (x1 + 1)), (2, .int (σ.1 (σ.2.2 x0 4) (Int32.toNatClampNeg x1))), (0, .ref (B + x0)), (1, .int x1)]) hx hb dX12_format_15 rfl hl (by decide) rfl (fun ls hl => ?_)
  refine lv_aload_n hx hb dX12_format_16 rfl (lv_at hl 2 rfl) ?_
  refine lv_iload_n hx hb dX12_format_17 rfl (lv_at hl 1 rfl) ?_
  obtain ⟨r4, σ4, hc4, h⟩ := bd_some h
  refine js_backI hT (js_runV C hT cfX12 t0 rfl mfX12_arityOf lk_X12_113 (kX12_arityOf t0 hc4) ⟨by simp only [js_rm]; omega, by simp only [js_rm]; omega⟩ rfl hl.1 rfl (Nat.le_of_ble_eq_true rfl) ⟨Nat.zero_le _, Nat.zero_le _⟩ dX12_format_18) (fun H locs hT => ?_)
  refine lv_istore (lv' := [(4, .int r4), (3, .int (x1 + 1)), (2, .int (σ.1 (σ.2.2 x0 4) (Int32.toNatClampNeg x1))), (0, .ref (B + x0)), (1, .int x1)]) hx hb dX12_format_21 hl (by decide) rfl (fun ls hl => ?_)
  refine lv_iconst (v := 0) hx hb dX12_format_23 (by decide) ?_
  refine lv_istore (lv' := [(5, .int 0), (4, .int r4), (3, .int (x1 + 1)), (2, .int (σ.1 (σ.2.2 x0 4) (Int32.toNatClampNeg x1))), (0, .ref (B + x0)), (1, .int x1)]) hx hb dX12_format_24 hl (by decide) rfl (fun ls hl => ?_)
  exact wX12_format_26 C hr hk rp hq hrp _ _ _ _ _ _ _ _ h t0 H locs hT ls (lv_sub hl [4, 2, 1, 0] rfl)
set_option maxHeartbeats 4000000 in
set_option maxRecDepth 20000 in
theorem kX12_format_d : ∀ d : Nat, ∀ (x0 : Nat) (x1 : Int32) (σ : js_S) (r0 : Int32) (σ0 : js_S), ob_ nn 12 x0 → fX12_format fu d x0 x1 σ = some (r0, σ0) → js_M l D B g nn yX12_format cX12_format 6 (some .int) (2 + d) [.ref (B + x0), .int x1] σ (js_QI D B g nn r0 σ0) := by
  intro d
  induction d with
  | zero =>
    intro x0 x1 σ r0 σ0 t0 h
    cases h
  | succ d ih =>
    intro x0 x1 σ r0 σ0 t0 h
    exact kX12_format_e (fX12_format fu d) (qq := 2 + d) (by omega) (fun a0 a1 σ r0 σ0 t0 h => ih a0 a1 σ r0 σ0 t0 h) t0 h
set_option maxHeartbeats 4000000 in
set_option maxRecDepth 20000 in
theorem kX12_format {x0 : Nat} {x1 : Int32} {σ σ0 : js_S} {r0 : Int32} (t0 : ob_ nn 12 x0) (h : fX12_format fu 60 x0 x1 σ = some (r0, σ0)) : js_M l D B g nn yX12_format cX12_format 6 (some .int) 62 [.ref (B + x0), .int x1] σ (js_QI D B g nn r0 σ0) := kX12_format_d 60 x0 x1 σ r0 σ0 t0 h
set_option maxHeartbeats 4000000 in
set_option maxRecDepth 20000 in
theorem kX12_formattedLength {x0 : Nat} {x1 : Int32} {σ σ0 : js_S} {r0 : Int32} (t0 : ob_ nn 12 x0) (h : fX12_formattedLength fu x0 x1 σ = some (r0, σ0)) : js_M l D B g nn yX12_formattedLength cX12_formattedLength 3 (some .int) 63 [.ref (B + x0), .int x1] σ (js_QI D B g nn r0 σ0) := by
  refine js_enter (by decide) (Nat.le_of_ble_eq_true rfl) ?_
  intro p e s m args below meth c C hr hk ls hl hT
  have hl : lv_has ls 3 [(0, .ref (B + x0)), (1, .int x1)] := hl
  obtain ⟨hx, hb, hml, hown, ht, hK, hNw⟩ := id C
  obtain ⟨H, eH⟩ : ∃ H, H = s.heap := ⟨_, rfl⟩
  obtain ⟨locs, eL⟩ : ∃ z : List Loc, z = [] := ⟨_, rfl⟩
  rw [← eH, ← eL]
  rw [← eH, ← eL] at hT
  clear eH eL
  unfold fX12_formattedLength at h
  refine lv_iload_n hx hb dX12_formattedLength_0 rfl (lv_at hl 1 rfl) ?_
  obtain ⟨r1, σ1, hc1, h⟩ := bd_some h
  refine js_backI hT (js_runS C hT mfX12_isRegister lk_X12_274 (kX12_isRegister  hc1) ⟨Nat.le_of_ble_eq_true rfl, Nat.le_of_ble_eq_true rfl⟩ rfl hl.1 rfl (Nat.le_of_ble_eq_true rfl) ⟨Nat.zero_le _, Nat.zero_le _⟩ dX12_formattedLength_1) (fun H locs hT => ?_)
  refine lv_if_ne (tgt := 9) hx hb dX12_formattedLength_4 (by decide) (fun c2 => ?_) (fun c2 => ?_)
  · rw [if_neg c2] at h
    refine lv_aload_n hx hb dX12_formattedLength_9 rfl (lv_at hl 0 rfl) ?_
    refine lv_iconst (v := 0) hx hb dX12_formattedLength_10 (by decide) ?_
    obtain ⟨σ3, e3, h⟩ := lt_some h
    refine js_pI C hT cfX12 t0 35 (by decide) rfl rfl rfl rfl lk_X12_277 dX12_formattedLength_11 (fun H locs hT => ?_)
    rw [e3] at hT
    refine lv_aload_n hx hb dX12_formattedLength_14 rfl (lv_at hl 0 rfl) ?_
    refine lv_bipush (v := 96) hx hb dX12_formattedLength_15 (by decide) ?_
    refine lv_iload_n hx hb dX12_formattedLength_17 rfl (lv_at hl 1 rfl) ?_
    refine lv_imul hx hb dX12_formattedLength_18 ?_
    refine lv_iconst (v := 1) hx hb dX12_formattedLength_19 (by decide) ?_
    refine lv_iadd hx hb dX12_formattedLength_20 ?_
    obtain ⟨r4, σ4, hc4, h⟩ := bd_some h
    refine js_backI hT (js_runV C hT cfX12 t0 rfl mfX12_format lk_X12_283 (kX12_format t0 hc4) ⟨Nat.le_of_ble_eq_true rfl, Nat.le_of_ble_eq_true rfl⟩ rfl hl.1 rfl (Nat.le_of_ble_eq_true rfl) ⟨Nat.zero_le _, Nat.zero_le _⟩ dX12_formattedLength_21) (fun H locs hT => ?_)
    refine lv_istore_n (lv' := [(2, .int r4), (0, .ref (B + x0)), (1, .int x1)]) hx hb dX12_formattedLength_24 rfl hl (by decide) rfl (fun ls hl => ?_)
    refine lv_aload_n hx hb dX12_formattedLength_25 rfl (lv_at hl 1 rfl) ?_
    refine js_gI C hT cfX12 t0 35 (by decide) rfl lk_X12_277 dX12_formattedLength_26 ?_
    obtain ⟨rfl, rfl⟩ := js_rt h
    exact js_iret C hT hr hk dX12_formattedLength_29
  · rw [if_pos c2] at h
    refine lv_iconst (v := (-1)) hx hb dX12_formattedLength_7 (by decide) ?_
    obtain ⟨rfl, rfl⟩ := js_rt h
    exact js_iret C hT hr hk dX12_formattedLength_8
set_option maxHeartbeats 4000000 in
set_option maxRecDepth 20000 in
theorem kX12_formattedCharacter {x0 : Nat} {x1 : Int32} {x2 : Int32} {σ σ0 : js_S} {r0 : Int32} (t0 : ob_ nn 12 x0) (h : fX12_formattedCharacter fu x0 x1 x2 σ = some (r0, σ0)) : js_M l D B g nn yX12_formattedCharacter cX12_formattedCharacter 4 (some .int) 64 [.ref (B + x0), .int x1, .int x2] σ (js_QI D B g nn r0 σ0) := by
  refine js_enter (by decide) (Nat.le_of_ble_eq_true rfl) ?_
  intro p e s m args below meth c C hr hk ls hl hT
  have hl : lv_has ls 4 [(0, .ref (B + x0)), (1, .int x1), (2, .int x2)] := hl
  obtain ⟨hx, hb, hml, hown, ht, hK, hNw⟩ := id C
  obtain ⟨H, eH⟩ : ∃ H, H = s.heap := ⟨_, rfl⟩
  obtain ⟨locs, eL⟩ : ∃ z : List Loc, z = [] := ⟨_, rfl⟩
  rw [← eH, ← eL]
  rw [← eH, ← eL] at hT
  clear eH eL
  unfold fX12_formattedCharacter at h
  refine lv_aload_n hx hb dX12_formattedCharacter_0 rfl (lv_at hl 0 rfl) ?_
  refine lv_iload_n hx hb dX12_formattedCharacter_1 rfl (lv_at hl 1 rfl) ?_
  obtain ⟨r1, σ1, hc1, h⟩ := bd_some h
  refine js_backI hT (js_runV C hT cfX12 t0 rfl mfX12_formattedLength lk_X12_286 (kX12_formattedLength t0 hc1) ⟨Nat.le_of_ble_eq_true rfl, Nat.le_of_ble_eq_true rfl⟩ rfl hl.1 rfl (Nat.le_of_ble_eq_true rfl) ⟨Nat.zero_le _, Nat.zero_le _⟩ dX12_formattedCharacter_2) (fun H locs hT => ?_)
  refine lv_istore_n (lv' := [(3, .int r1), (0, .ref (B + x0)), (1, .int x1), (2, .int x2)]) hx hb dX12_formattedCharacter_5 rfl hl (by decide) rfl (fun ls hl => ?_)
  refine lv_iload_n hx hb dX12_formattedCharacter_6 rfl (lv_at hl 3 rfl) ?_
  refine lv_iconst (v := 0) hx hb dX12_formattedCharacter_7 (by decide) ?_
  refine lv_iload_n hx hb dX12_formattedCharacter_8 rfl (lv_at hl 0 rfl) ?_
  refine lv_iconst (v := 1) hx hb dX12_formattedCharacter_9 (by decide) ?_
  refine lv_isub hx hb dX12_formattedCharacter_10 ?_
  obtain ⟨r2, σ2, hc2, h⟩ := bd_some h
  refine js_backI hT (js_runS C hT mfX12_isIn lk_X12_105 (kX12_isIn  hc2) ⟨Nat.le_of_ble_eq_true rfl, Nat.le_of_ble_eq_true rfl⟩ rfl hl.1 rfl (Nat.le_of_ble_eq_true rfl) ⟨Nat.zero_le _, Nat.zero_le _⟩ dX12_formattedCharacter_11) (fun H locs hT => ?_)
  refine lv_if_eq (tgt := 26) hx hb dX12_formattedCharacter_14 (by decide) (fun c3 => ?_) (fun c3 => ?_)
  · rw [if_pos c3] at h
    refine lv_iconst (v := (-1)) hx hb dX12_formattedCharacter_26 (by decide) ?_
    obtain ⟨rfl, rfl⟩ := js_rt h
    exact js_iret C hT hr hk dX12_formattedCharacter_27
  · rw [if_neg c3] at h
    refine lv_aload_n hx hb dX12_formattedCharacter_17 rfl (lv_at hl 1 rfl) ?_
    refine js_gR C hT cfX12 t0 34 (by decide) (q := 20) rfl (by decide) lk_X12_91 dX12_formattedCharacter_18 (fun t4a => ?_)
    refine lv_iload_n hx hb dX12_formattedCharacter_21 rfl (lv_at hl 3 rfl) ?_
    obtain ⟨g5, h⟩ := gd_some _ h
    refine js_iald C hT t4a g5 dX12_formattedCharacter_22 ?_
    refine lv_goto (tgt := 27) hx hb dX12_formattedCharacter_23 (by decide) ?_
    obtain ⟨rfl, rfl⟩ := js_rt h
    exact js_iret C hT hr hk dX12_formattedCharacter_27
set_option maxHeartbeats 4000000 in
set_option maxRecDepth 20000 in
theorem kX12_hasEdge {x0 : Nat} {x1 : Int32} {x2 : Int32} {σ σ0 : js_S} {r0 : Int32} (t0 : ob_ nn 12 x0) (h : fX12_hasEdge fu x0 x1 x2 σ = some (r0, σ0)) : js_M l D B g nn yX12_hasEdge cX12_hasEdge 3 (some .int) 127 [.ref (B + x0), .int x1, .int x2] σ (js_QI D B g nn r0 σ0) := by
  refine js_enter (by decide) (Nat.le_of_ble_eq_true rfl) ?_
  intro p e s m args below meth c C hr hk ls hl hT
  have hl : lv_has ls 3 [(0, .ref (B + x0)), (1, .int x1), (2, .int x2)] := hl
  obtain ⟨hx, hb, hml, hown, ht, hK, hNw⟩ := id C
  obtain ⟨H, eH⟩ : ∃ H, H = s.heap := ⟨_, rfl⟩
  obtain ⟨locs, eL⟩ : ∃ z : List Loc, z = [] := ⟨_, rfl⟩
  rw [← eH, ← eL]
  rw [← eH, ← eL] at hT
  clear eH eL
  unfold fX12_hasEdge at h
  refine lv_aload_n hx hb dX12_hasEdge_0 rfl (lv_at hl 0 rfl) ?_
  refine lv_iload_n hx hb dX12_hasEdge_1 rfl (lv_at hl 1 rfl) ?_
  obtain ⟨r1, σ1, hc1, h⟩ := bd_some h
  refine js_backI hT (js_runV C hT cfX12 t0 rfl mfX12_isPair lk_X12_188 (kX12_isPair t0 hc1) ⟨Nat.le_of_ble_eq_true rfl, Nat.le_of_ble_eq_true rfl⟩ rfl hl.1 rfl (Nat.le_of_ble_eq_true rfl) ⟨Nat.zero_le _, Nat.zero_le _⟩ dX12_hasEdge_2) (fun H locs hT => ?_)
  refine lv_if_eq (tgt := 33) hx hb dX12_hasEdge_5 (by decide) (fun c2 => ?_) (fun c2 => ?_)
  · rw [if_pos c2] at h
    refine lv_iconst (v := (-1)) hx hb dX12_hasEdge_33 (by decide) ?_
    obtain ⟨rfl, rfl⟩ := js_rt h
    exact js_iret C hT hr hk dX12_hasEdge_34
  · rw [if_neg c2] at h
    refine lv_aload_n hx hb dX12_hasEdge_8 rfl (lv_at hl 0 rfl) ?_
    refine lv_iload_n hx hb dX12_hasEdge_9 rfl (lv_at hl 2 rfl) ?_
    obtain ⟨r3, σ3, hc3, h⟩ := bd_some h
    refine js_backI hT (js_runV C hT cfX12 t0 rfl mfX12_isPair lk_X12_188 (kX12_isPair t0 hc3) ⟨Nat.le_of_ble_eq_true rfl, Nat.le_of_ble_eq_true rfl⟩ rfl hl.1 rfl (Nat.le_of_ble_eq_true rfl) ⟨Nat.zero_le _, Nat.zero_le _⟩ dX12_hasEdge_10) (fun H locs hT => ?_)
    refine lv_if_eq (tgt := 33) hx hb dX12_hasEdge_13 (by decide) (fun c4 => ?_) (fun c4 => ?_)
    · rw [if_pos c4] at h
      refine lv_iconst (v := (-1)) hx hb dX12_hasEdge_33 (by decide) ?_
      obtain ⟨rfl, rfl⟩ := js_rt h
      exact js_iret C hT hr hk dX12_hasEdge_34
    · rw [if_neg c4] at h
      refine lv_aload_n hx hb dX12_hasEdge_16 rfl (lv_at hl 0 rfl) ?_
      refine lv_iload_n hx hb dX12_hasEdge_17 rfl (lv_at hl 1 rfl) ?_
      refine lv_iload_n hx hb dX12_hasEdge_18 rfl (lv_at hl 2 rfl) ?_
      obtain ⟨r5, σ5, hc5, h⟩ := bd_some h
      refine js_backI hT (js_runV C hT cfX12 t0 rfl mfX12_isEdge lk_X12_208 (kX12_isEdge t0 hc5) ⟨Nat.le_of_ble_eq_true rfl, Nat.le_of_ble_eq_true rfl⟩ rfl hl.1 rfl (Nat.le_of_ble_eq_true rfl) ⟨Nat.zero_le _, Nat.zero_le _⟩ dX12_hasEdge_19) (fun H locs hT => ?_)
      refine lv_if_eq (tgt := 29) hx hb dX12_hasEdge_22 (by decide) (fun c6 => ?_) (fun c6 => ?_)
      · rw [if_pos c6] at h
        refine lv_iconst (v := 0) hx hb dX12_hasEdge_29 (by decide) ?_
        refine lv_goto (tgt := 34) hx hb dX12_hasEdge_30 (by decide) ?_
        obtain ⟨rfl, rfl⟩ := js_rt h
        exact js_iret C hT hr hk dX12_hasEdge_34
      · rw [if_neg c6] at h
        refine lv_iconst (v := 1) hx hb dX12_hasEdge_25 (by decide) ?_
        refine lv_goto (tgt := 34) hx hb dX12_hasEdge_26 (by decide) ?_
        obtain ⟨rfl, rfl⟩ := js_rt h
        exact js_iret C hT hr hk dX12_hasEdge_34
set_option maxHeartbeats 4000000 in
set_option maxRecDepth 20000 in
theorem wX12_idempotentCount_67 (C : js_C D g p m c cX12_idempotentCount 3 s args RX12) (hr : meth.sig.returnType = (some .int)) (hk : meth.locks = false) (rc14 : Nat → Int32 → Int32 → js_S → Option (Int32 × js_S)) (hrc14 : ∀ (x0 : Nat) (x1 : Int32) (x2 : Int32) (σ : js_S) (r0 : Int32) (σ0 : js_S), rc14 x0 x1 x2 σ = some (r0, σ0) → ob_ nn 12 x0 → js_at p l e 7 s m args below meth c D B g nn 14 3 [(0, .ref (B + x0)), (1, .int x1), (2, .int x2)] [] σ (js_QI D B g nn r0 σ0)) : ∀ (x0 : Nat) (x2 : Int32) (y0 : Int32) (y1 : Int32) (σ : js_S) (r0 : Int32) (σ0 : js_S), fX12_idempotentCount_67 fu rc14 x0 x2 y0 y1 σ = some (r0, σ0) → ob_ nn 12 x0 → js_at p l e 7 s m args below meth c D B g nn 67 3 [(0, .ref (B + x0)), (2, .int x2)] [.int y0, .int y1] σ (js_QI D B g nn r0 σ0) := by
  obtain ⟨hx, hb, hml, hown, ht, hK, hNw⟩ := id C
  intro x0 x2 y0 y1 σ r0 σ0 h t0 H locs hT ls hl
  unfold fX12_idempotentCount_67 at h
  refine lv_iadd hx hb dX12_idempotentCount_67 ?_
  refine lv_istore_n (lv' := [(1, .int (y1 + y0)), (0, .ref (B + x0)), (2, .int x2)]) hx hb dX12_idempotentCount_68 rfl hl (by decide) rfl (fun ls hl => ?_)
  refine lv_iinc (v := x2 + 1) (lv' := [(2, .int (x2 + 1)), (1, .int (y1 + y0)), (0, .ref (B + x0))]) hx hb dX12_idempotentCount_69 hl (k := 2) rfl rfl (by decide) rfl (fun ls hl => ?_)
  refine lv_goto (tgt := 14) hx hb dX12_idempotentCount_72 (by decide) ?_
  exact hrc14 _ _ _ _ _ _ h t0 H locs hT ls (lv_sub hl [2, 1, 0] rfl)
set_option maxHeartbeats 4000000 in
set_option maxRecDepth 20000 in
theorem wX12_idempotentCount_66 (C : js_C D g p m c cX12_idempotentCount 3 s args RX12) (hr : meth.sig.returnType = (some .int)) (hk : meth.locks = false) (rc14 : Nat → Int32 → Int32 → js_S → Option (Int32 × js_S)) (hrc14 : ∀ (x0 : Nat) (x1 : Int32) (x2 : Int32) (σ : js_S) (r0 : Int32) (σ0 : js_S), rc14 x0 x1 x2 σ = some (r0, σ0) → ob_ nn 12 x0 → js_at p l e 7 s m args below meth c D B g nn 14 3 [(0, .ref (B + x0)), (1, .int x1), (2, .int x2)] [] σ (js_QI D B g nn r0 σ0)) : ∀ (x0 : Nat) (x2 : Int32) (y0 : Int32) (σ : js_S) (r0 : Int32) (σ0 : js_S), fX12_idempotentCount_66 fu rc14 x0 x2 y0 σ = some (r0, σ0) → ob_ nn 12 x0 → js_at p l e 7 s m args below meth c D B g nn 66 3 [(0, .ref (B + x0)), (2, .int x2)] [.int y0] σ (js_QI D B g nn r0 σ0) := by
  obtain ⟨hx, hb, hml, hown, ht, hK, hNw⟩ := id C
  intro x0 x2 y0 σ r0 σ0 h t0 H locs hT ls hl
  unfold fX12_idempotentCount_66 at h
  refine lv_iconst (v := 0) hx hb dX12_idempotentCount_66 (by decide) ?_
  exact wX12_idempotentCount_67 C hr hk rc14 hrc14 _ _ _ _ _ _ _ h t0 H locs hT ls (lv_sub hl [0, 1] rfl)
set_option maxHeartbeats 4000000 in
set_option maxRecDepth 20000 in
theorem wX12_idempotentCount_14b (C : js_C D g p m c cX12_idempotentCount 3 s args RX12) (hr : meth.sig.returnType = (some .int)) (hk : meth.locks = false) (rc14 : Nat → Int32 → Int32 → js_S → Option (Int32 × js_S)) (hrc14 : ∀ (x0 : Nat) (x1 : Int32) (x2 : Int32) (σ : js_S) (r0 : Int32) (σ0 : js_S), rc14 x0 x1 x2 σ = some (r0, σ0) → ob_ nn 12 x0 → js_at p l e 7 s m args below meth c D B g nn 14 3 [(0, .ref (B + x0)), (1, .int x1), (2, .int x2)] [] σ (js_QI D B g nn r0 σ0)) : ∀ (x0 : Nat) (x1 : Int32) (x2 : Int32) (σ : js_S) (r0 : Int32) (σ0 : js_S), fX12_idempotentCount_14b fu rc14 x0 x1 x2 σ = some (r0, σ0) → ob_ nn 12 x0 → js_at p l e 7 s m args below meth c D B g nn 14 3 [(0, .ref (B + x0)), (1, .int x1), (2, .int x2)] [] σ (js_QI D B g nn r0 σ0) := by
  obtain ⟨hx, hb, hml, hown, ht, hK, hNw⟩ := id C
  intro x0 x1 x2 σ r0 σ0 h t0 H locs hT ls hl
  unfold fX12_idempotentCount_14b at h
  refine lv_iload_n hx hb dX12_idempotentCount_14 rfl (lv_at hl 2 rfl) ?_
  refine lv_aload_n hx hb dX12_idempotentCount_15 rfl (lv_at hl 0 rfl) ?_
  refine js_gI C hT cfX12 t0 29 (by decide) rfl lk_X12_250 dX12_idempotentCount_16 ?_
  refine lv_icmp_ge (tgt := 75) hx hb dX12_idempotentCount_19 (by decide) (fun c1 => ?_) (fun c1 => ?_)
  · rw [if_pos c1] at h
    refine lv_iload_n hx hb dX12_idempotentCount_75 rfl (lv_at hl 1 rfl) ?_
    obtain ⟨rfl, rfl⟩ := js_rt h
    exact js_iret C hT hr hk dX12_idempotentCount_76
  · rw [if_neg c1] at h
    refine lv_iload_n hx hb dX12_idempotentCount_22 rfl (lv_at hl 1 rfl) ?_
    refine lv_aload_n hx hb dX12_idempotentCount_23 rfl (lv_at hl 0 rfl) ?_
    refine js_gR C hT cfX12 t0 25 (by decide) (q := 20) rfl (by decide) lk_X12_66 dX12_idempotentCount_24 (fun t2a => ?_)
    refine lv_iload_n hx hb dX12_idempotentCount_27 rfl (lv_at hl 2 rfl) ?_
    obtain ⟨g3, h⟩ := gd_some _ h
    refine js_iald C hT t2a g3 dX12_idempotentCount_28 ?_
    obtain ⟨r4, σ4, hc4, h⟩ := bd_some h
    refine js_backI hT (js_runS C hT mfX12_functions lk_X12_233 (kX12_functions  hc4) ⟨Nat.le_of_ble_eq_true rfl, Nat.le_of_ble_eq_true rfl⟩ rfl hl.1 rfl (Nat.le_of_ble_eq_true rfl) ⟨Nat.zero_le _, Nat.zero_le _⟩ dX12_idempotentCount_29) (fun H locs hT => ?_)
    refine lv_iconst (v := 4) hx hb dX12_idempotentCount_32 (by decide) ?_
    refine lv_irem hx hb dX12_idempotentCount_33 (by decide) ?_
    refine lv_if_ne (tgt := 66) hx hb dX12_idempotentCount_34 (by decide) (fun c5 => ?_) (fun c5 => ?_)
    · rw [if_neg c5] at h
      exact wX12_idempotentCount_66 C hr hk rc14 hrc14 _ _ _ _ _ _ h t0 H locs hT ls (lv_sub hl [0, 2] rfl)
    · rw [if_pos c5] at h
      refine lv_aload_n hx hb dX12_idempotentCount_37 rfl (lv_at hl 0 rfl) ?_
      refine lv_aload_n hx hb dX12_idempotentCount_38 rfl (lv_at hl 0 rfl) ?_
      refine js_gR C hT cfX12 t0 25 (by decide) (q := 20) rfl (by decide) lk_X12_66 dX12_idempotentCount_39 (fun t6a => ?_)
      refine lv_iload_n hx hb dX12_idempotentCount_42 rfl (lv_at hl 2 rfl) ?_
      obtain ⟨g7, h⟩ := gd_some _ h
      refine js_iald C hT t6a g7 dX12_idempotentCount_43 ?_
      refine lv_aload_n hx hb dX12_idempotentCount_44 rfl (lv_at hl 0 rfl) ?_
      refine js_gR C hT cfX12 t0 25 (by decide) (q := 20) rfl (by decide) lk_X12_66 dX12_idempotentCount_45 (fun t8a => ?_)
      refine lv_iload_n hx hb dX12_idempotentCount_48 rfl (lv_at hl 2 rfl) ?_
      obtain ⟨g9, h⟩ := gd_some _ h
      refine js_iald C hT t8a g9 dX12_idempotentCount_49 ?_
      obtain ⟨r10, σ10, hc10, h⟩ := bd_some h
      refine js_backI hT (js_runV C hT cfX12 t0 rfl mfX12_compose lk_X12_256 (kX12_compose t0 hc10) ⟨Nat.le_of_ble_eq_true rfl, Nat.le_of_ble_eq_true rfl⟩ rfl hl.1 rfl (Nat.le_of_ble_eq_true rfl) ⟨Nat.zero_le _, Nat.zero_le _⟩ dX12_idempotentCount_50) (fun H locs hT => ?_)
      refine lv_aload_n hx hb dX12_idempotentCount_53 rfl (lv_at hl 0 rfl) ?_
      refine js_gR C hT cfX12 t0 25 (by decide) (q := 20) rfl (by decide) lk_X12_66 dX12_idempotentCount_54 (fun t11a => ?_)
      refine lv_iload_n hx hb dX12_idempotentCount_57 rfl (lv_at hl 2 rfl) ?_
      obtain ⟨g12, h⟩ := gd_some _ h
      refine js_iald C hT t11a g12 dX12_idempotentCount_58 ?_
      refine lv_icmp_ne (tgt := 66) hx hb dX12_idempotentCount_59 (by decide) (fun c13 => ?_) (fun c13 => ?_)
      · rw [if_neg c13] at h
        exact wX12_idempotentCount_66 C hr hk rc14 hrc14 _ _ _ _ _ _ h t0 H locs hT ls (lv_sub hl [0, 2] rfl)
      · rw [if_pos c13] at h
        refine lv_iconst (v := 1) hx hb dX12_idempotentCount_62 (by decide) ?_
        refine lv_goto (tgt := 67) hx hb dX12_idempotentCount_63 (by decide) ?_
        exact wX12_idempotentCount_67 C hr hk rc14 hrc14 _ _ _ _ _ _ _ h t0 H locs hT ls (lv_sub hl [0, 2] rfl)
set_option maxHeartbeats 4000000 in
set_option maxRecDepth 20000 in
theorem wX12_idempotentCount_14 (C : js_C D g p m c cX12_idempotentCount 3 s args RX12) (hr : meth.sig.returnType = (some .int)) (hk : meth.locks = false) : ∀ (k : Nat), ∀ (x0 : Nat) (x1 : Int32) (x2 : Int32) (σ : js_S) (r0 : Int32) (σ0 : js_S), fX12_idempotentCount_14 fu k x0 x1 x2 σ = some (r0, σ0) → ob_ nn 12 x0 → js_at p l e 7 s m args below meth c D B g nn 14 3 [(0, .ref (B + x0)), (1, .int x1), (2, .int x2)] [] σ (js_QI D B g nn r0 σ0) := by
  intro k
  induction k with
  | zero =>
    intro x0 x1 x2 σ r0 σ0 h
    cases h
  | succ k ih =>
    intro x0 x1 x2 σ r0 σ0 h
    exact wX12_idempotentCount_14b C hr hk (fX12_idempotentCount_14 fu k) ih x0 x1 x2 σ r0 σ0 h
set_option maxHeartbeats 4000000 in
set_option maxRecDepth 20000 in
theorem kX12_idempotentCount {x0 : Nat} {σ σ0 : js_S} {r0 : Int32} (t0 : ob_ nn 12 x0) (h : fX12_idempotentCount fu x0 σ = some (r0, σ0)) : js_M l D B g nn yX12_idempotentCount cX12_idempotentCount 3 (some .int) 7 [.ref (B + x0)] σ (js_QI D B g nn r0 σ0) := by
  refine js_enter (by decide) (Nat.le_of_ble_eq_true rfl) ?_
  intro p e s m args below meth c C hr hk ls hl hT
  have hl : lv_has ls 3 [(0, .ref (B + x0))] := hl
  obtain ⟨hx, hb, hml, hown, ht, hK, hNw⟩ := id C
  obtain ⟨H, eH⟩ : ∃ H, H = s.heap := ⟨_, rfl⟩
  obtain ⟨locs, eL⟩ : ∃ z : List Loc, z = [] := ⟨_, rfl⟩
  rw [← eH, ← eL]
  rw [← eH, ← eL] at hT
  clear eH eL
  unfold fX12_idempotentCount at h
  refine lv_aload_n hx hb dX12_idempotentCount_0 rfl (lv_at hl 0 rfl) ?_
  obtain ⟨r1, σ1, hc1, h⟩ := bd_some h
  refine js_backI hT (js_runV C hT cfX12 t0 rfl mfX12_findClosure lk_X12_259 (kX12_findClosure t0 hc1) ⟨Nat.le_of_ble_eq_true rfl, Nat.le_of_ble_eq_true rfl⟩ rfl hl.1 rfl (Nat.le_of_ble_eq_true rfl) ⟨Nat.zero_le _, Nat.zero_le _⟩ dX12_idempotentCount_1) (fun H locs hT => ?_)
  refine lv_if_ne (tgt := 10) hx hb dX12_idempotentCount_4 (by decide) (fun c2 => ?_) (fun c2 => ?_)
  · rw [if_neg c2] at h
    refine lv_iconst (v := 0) hx hb dX12_idempotentCount_10 (by decide) ?_
    refine lv_istore_n (lv' := [(1, .int 0), (0, .ref (B + x0))]) hx hb dX12_idempotentCount_11 rfl hl (by decide) rfl (fun ls hl => ?_)
    refine lv_iconst (v := 0) hx hb dX12_idempotentCount_12 (by decide) ?_
    refine lv_istore_n (lv' := [(2, .int 0), (1, .int 0), (0, .ref (B + x0))]) hx hb dX12_idempotentCount_13 rfl hl (by decide) rfl (fun ls hl => ?_)
    exact wX12_idempotentCount_14 C hr hk _ _ _ _ _ _ _ h t0 H locs hT ls (lv_sub hl [2, 1, 0] rfl)
  · rw [if_pos c2] at h
    refine lv_bipush (v := (-8)) hx hb dX12_idempotentCount_7 (by decide) ?_
    obtain ⟨rfl, rfl⟩ := js_rt h
    exact js_iret C hT hr hk dX12_idempotentCount_9
set_option maxHeartbeats 4000000 in
set_option maxRecDepth 20000 in
theorem kX12_isPosition {x0 : Nat} {x1 : Int32} {x2 : Int32} {σ σ0 : js_S} {r0 : Int32} (t0 : ob_ nn 12 x0) (h : fX12_isPosition fu x0 x1 x2 σ = some (r0, σ0)) : js_M l D B g nn yX12_isPosition cX12_isPosition 3 (some .boolean) 2 [.ref (B + x0), .int x1, .int x2] σ (js_QI D B g nn r0 σ0) := by
  refine js_enter (by decide) (Nat.le_of_ble_eq_true rfl) ?_
  intro p e s m args below meth c C hr hk ls hl hT
  have hl : lv_has ls 3 [(0, .ref (B + x0)), (1, .int x1), (2, .int x2)] := hl
  obtain ⟨hx, hb, hml, hown, ht, hK, hNw⟩ := id C
  obtain ⟨H, eH⟩ : ∃ H, H = s.heap := ⟨_, rfl⟩
  obtain ⟨locs, eL⟩ : ∃ z : List Loc, z = [] := ⟨_, rfl⟩
  rw [← eH, ← eL]
  rw [← eH, ← eL] at hT
  clear eH eL
  unfold fX12_isPosition at h
  refine lv_iload_n hx hb dX12_isPosition_0 rfl (lv_at hl 1 rfl) ?_
  obtain ⟨r1, σ1, hc1, h⟩ := bd_some h
  refine js_backI hT (js_runS C hT mfX12_isRegister lk_X12_274 (kX12_isRegister  hc1) ⟨Nat.le_of_ble_eq_true rfl, Nat.le_of_ble_eq_true rfl⟩ rfl hl.1 rfl (Nat.le_of_ble_eq_true rfl) ⟨Nat.zero_le _, Nat.zero_le _⟩ dX12_isPosition_1) (fun H locs hT => ?_)
  refine lv_if_eq (tgt := 30) hx hb dX12_isPosition_4 (by decide) (fun c2 => ?_) (fun c2 => ?_)
  · rw [if_pos c2] at h
    refine lv_iconst (v := 0) hx hb dX12_isPosition_30 (by decide) ?_
    obtain ⟨rfl, rfl⟩ := js_rt h
    exact js_zret C hT hr hk rfl dX12_isPosition_31
  · rw [if_neg c2] at h
    refine lv_iload_n hx hb dX12_isPosition_7 rfl (lv_at hl 2 rfl) ?_
    refine lv_iconst (v := 0) hx hb dX12_isPosition_8 (by decide) ?_
    refine lv_aload_n hx hb dX12_isPosition_9 rfl (lv_at hl 0 rfl) ?_
    refine js_gR C hT cfX12 t0 4 (by decide) (q := 20) rfl (by decide) lk_X12_22 dX12_isPosition_10 (fun t3a => ?_)
    refine lv_bipush (v := 96) hx hb dX12_isPosition_13 (by decide) ?_
    refine lv_iload_n hx hb dX12_isPosition_15 rfl (lv_at hl 1 rfl) ?_
    refine lv_imul hx hb dX12_isPosition_16 ?_
    obtain ⟨g4, h⟩ := gd_some _ h
    refine js_iald C hT t3a g4 dX12_isPosition_17 ?_
    refine lv_iconst (v := 1) hx hb dX12_isPosition_18 (by decide) ?_
    refine lv_isub hx hb dX12_isPosition_19 ?_
    obtain ⟨r5, σ5, hc5, h⟩ := bd_some h
    refine js_backI hT (js_runS C hT mfX12_isIn lk_X12_105 (kX12_isIn  hc5) ⟨Nat.le_of_ble_eq_true rfl, Nat.le_of_ble_eq_true rfl⟩ rfl hl.1 rfl (Nat.le_of_ble_eq_true rfl) ⟨Nat.zero_le _, Nat.zero_le _⟩ dX12_isPosition_20) (fun H locs hT => ?_)
    refine lv_if_eq (tgt := 30) hx hb dX12_isPosition_23 (by decide) (fun c6 => ?_) (fun c6 => ?_)
    · rw [if_pos c6] at h
      refine lv_iconst (v := 0) hx hb dX12_isPosition_30 (by decide) ?_
      obtain ⟨rfl, rfl⟩ := js_rt h
      exact js_zret C hT hr hk rfl dX12_isPosition_31
    · rw [if_neg c6] at h
      refine lv_iconst (v := 1) hx hb dX12_isPosition_26 (by decide) ?_
      refine lv_goto (tgt := 31) hx hb dX12_isPosition_27 (by decide) ?_
      obtain ⟨rfl, rfl⟩ := js_rt h
      exact js_zret C hT hr hk rfl dX12_isPosition_31
set_option maxHeartbeats 4000000 in
set_option maxRecDepth 20000 in
theorem kX12_isRule {x0 : Nat} {x1 : Int32} {σ σ0 : js_S} {r0 : Int32} (t0 : ob_ nn 12 x0) (h : fX12_isRule fu x0 x1 σ = some (r0, σ0)) : js_M l D B g nn yX12_isRule cX12_isRule 2 (some .boolean) 1 [.ref (B + x0), .int x1] σ (js_QI D B g nn r0 σ0) := by
  refine js_enter (by decide) (Nat.le_of_ble_eq_true rfl) ?_
  intro p e s m args below meth c C hr hk ls hl hT
  have hl : lv_has ls 2 [(0, .ref (B + x0)), (1, .int x1)] := hl
  obtain ⟨hx, hb, hml, hown, ht, hK, hNw⟩ := id C
  obtain ⟨H, eH⟩ : ∃ H, H = s.heap := ⟨_, rfl⟩
  obtain ⟨locs, eL⟩ : ∃ z : List Loc, z = [] := ⟨_, rfl⟩
  rw [← eH, ← eL]
  rw [← eH, ← eL] at hT
  clear eH eL
  unfold fX12_isRule at h
  refine lv_iload_n hx hb dX12_isRule_0 rfl (lv_at hl 1 rfl) ?_
  refine lv_iconst (v := 0) hx hb dX12_isRule_1 (by decide) ?_
  refine lv_aload_n hx hb dX12_isRule_2 rfl (lv_at hl 0 rfl) ?_
  refine js_gI C hT cfX12 t0 6 (by decide) rfl lk_X12_121 dX12_isRule_3 ?_
  refine lv_iconst (v := 1) hx hb dX12_isRule_6 (by decide) ?_
  refine lv_isub hx hb dX12_isRule_7 ?_
  obtain ⟨r1, σ1, hc1, h⟩ := bd_some h
  refine js_backI hT (js_runS C hT mfX12_isIn lk_X12_105 (kX12_isIn  hc1) ⟨Nat.le_of_ble_eq_true rfl, Nat.le_of_ble_eq_true rfl⟩ rfl hl.1 rfl (Nat.le_of_ble_eq_true rfl) ⟨Nat.zero_le _, Nat.zero_le _⟩ dX12_isRule_8) (fun H locs hT => ?_)
  obtain ⟨g2, h⟩ := gd_some _ h
  obtain ⟨rfl, rfl⟩ := js_rt h
  exact js_zret C hT hr hk g2 dX12_isRule_11
set_option maxHeartbeats 4000000 in
set_option maxRecDepth 20000 in
theorem kX12_lastExploredSize {x0 : Nat} {x1 : Int32} {x2 : Int32} {σ σ0 : js_S} {r0 : Int32} (t0 : ob_ nn 12 x0) (h : fX12_lastExploredSize fu x0 x1 x2 σ = some (r0, σ0)) : js_M l D B g nn yX12_lastExploredSize cX12_lastExploredSize 4 (some .int) 8 [.ref (B + x0), .int x1, .int x2] σ (js_QI D B g nn r0 σ0) := by
  refine js_enter (by decide) (Nat.le_of_ble_eq_true rfl) ?_
  intro p e s m args below meth c C hr hk ls hl hT
  have hl : lv_has ls 4 [(0, .ref (B + x0)), (1, .int x1), (2, .int x2)] := hl
  obtain ⟨hx, hb, hml, hown, ht, hK, hNw⟩ := id C
  obtain ⟨H, eH⟩ : ∃ H, H = s.heap := ⟨_, rfl⟩
  obtain ⟨locs, eL⟩ : ∃ z : List Loc, z = [] := ⟨_, rfl⟩
  rw [← eH, ← eL]
  rw [← eH, ← eL] at hT
  clear eH eL
  unfold fX12_lastExploredSize at h
  refine lv_aload_n hx hb dX12_lastExploredSize_0 rfl (lv_at hl 0 rfl) ?_
  refine lv_iload_n hx hb dX12_lastExploredSize_1 rfl (lv_at hl 1 rfl) ?_
  refine lv_iload_n hx hb dX12_lastExploredSize_2 rfl (lv_at hl 2 rfl) ?_
  obtain ⟨r1, σ1, hc1, h⟩ := bd_some h
  refine js_backI hT (js_runV C hT cfX12 t0 rfl mfX12_wrongExploration lk_X12_326 (kX12_wrongExploration t0 hc1) ⟨Nat.le_of_ble_eq_true rfl, Nat.le_of_ble_eq_true rfl⟩ rfl hl.1 rfl (Nat.le_of_ble_eq_true rfl) ⟨Nat.zero_le _, Nat.zero_le _⟩ dX12_lastExploredSize_3) (fun H locs hT => ?_)
  refine lv_istore_n (lv' := [(3, .int r1), (0, .ref (B + x0)), (1, .int x1), (2, .int x2)]) hx hb dX12_lastExploredSize_6 rfl hl (by decide) rfl (fun ls hl => ?_)
  refine lv_iload_n hx hb dX12_lastExploredSize_7 rfl (lv_at hl 0 rfl) ?_
  refine lv_if_ge (tgt := 13) hx hb dX12_lastExploredSize_8 (by decide) (fun c2 => ?_) (fun c2 => ?_)
  · rw [if_pos c2] at h
    refine lv_aload_n hx hb dX12_lastExploredSize_13 rfl (lv_at hl 1 rfl) ?_
    refine lv_iload_n hx hb dX12_lastExploredSize_14 rfl (lv_at hl 2 rfl) ?_
    refine lv_iload_n hx hb dX12_lastExploredSize_15 rfl (lv_at hl 3 rfl) ?_
    obtain ⟨z3, σ3, hc3, h⟩ := bd_some h
    refine js_backV hT (js_runV C hT cfX12 t0 rfl mfX12_explore lk_X12_329 (kX12_explore t0 hc3) ⟨Nat.le_of_ble_eq_true rfl, Nat.le_of_ble_eq_true rfl⟩ rfl hl.1 rfl (Nat.le_of_ble_eq_true rfl) ⟨Nat.zero_le _, Nat.zero_le _⟩ dX12_lastExploredSize_16) (fun H locs hT => ?_)
    refine lv_aload_n hx hb dX12_lastExploredSize_19 rfl (lv_at hl 1 rfl) ?_
    refine js_gR C hT cfX12 t0 36 (by decide) (q := 20) rfl (by decide) lk_X12_95 dX12_lastExploredSize_20 (fun t4a => ?_)
    refine lv_bipush (v := 96) hx hb dX12_lastExploredSize_23 (by decide) ?_
    refine lv_aload_n hx hb dX12_lastExploredSize_25 rfl (lv_at hl 1 rfl) ?_
    refine js_gI C hT cfX12 t0 40 (by decide) rfl lk_X12_320 dX12_lastExploredSize_26 ?_
    refine lv_imul hx hb dX12_lastExploredSize_29 ?_
    obtain ⟨g5, h⟩ := gd_some _ h
    refine js_iald C hT t4a g5 dX12_lastExploredSize_30 ?_
    obtain ⟨rfl, rfl⟩ := js_rt h
    exact js_iret C hT hr hk dX12_lastExploredSize_31
  · rw [if_neg c2] at h
    refine lv_iload_n hx hb dX12_lastExploredSize_11 rfl (lv_at hl 0 rfl) ?_
    obtain ⟨rfl, rfl⟩ := js_rt h
    exact js_iret C hT hr hk dX12_lastExploredSize_12
set_option maxHeartbeats 4000000 in
set_option maxRecDepth 20000 in
theorem kX12_leftSize {x0 : Nat} {x1 : Int32} {σ σ0 : js_S} {r0 : Int32} (t0 : ob_ nn 12 x0) (h : fX12_leftSize fu x0 x1 σ = some (r0, σ0)) : js_M l D B g nn yX12_leftSize cX12_leftSize 2 (some .int) 2 [.ref (B + x0), .int x1] σ (js_QI D B g nn r0 σ0) := by
  refine js_enter (by decide) (Nat.le_of_ble_eq_true rfl) ?_
  intro p e s m args below meth c C hr hk ls hl hT
  have hl : lv_has ls 2 [(0, .ref (B + x0)), (1, .int x1)] := hl
  obtain ⟨hx, hb, hml, hown, ht, hK, hNw⟩ := id C
  obtain ⟨H, eH⟩ : ∃ H, H = s.heap := ⟨_, rfl⟩
  obtain ⟨locs, eL⟩ : ∃ z : List Loc, z = [] := ⟨_, rfl⟩
  rw [← eH, ← eL]
  rw [← eH, ← eL] at hT
  clear eH eL
  unfold fX12_leftSize at h
  refine lv_aload_n hx hb dX12_leftSize_0 rfl (lv_at hl 0 rfl) ?_
  refine lv_iload_n hx hb dX12_leftSize_1 rfl (lv_at hl 1 rfl) ?_
  obtain ⟨r1, σ1, hc1, h⟩ := bd_some h
  refine js_backI hT (js_runV C hT cfX12 t0 rfl mfX12_isRule lk_X12_176 (kX12_isRule t0 hc1) ⟨Nat.le_of_ble_eq_true rfl, Nat.le_of_ble_eq_true rfl⟩ rfl hl.1 rfl (Nat.le_of_ble_eq_true rfl) ⟨Nat.zero_le _, Nat.zero_le _⟩ dX12_leftSize_2) (fun H locs hT => ?_)
  refine lv_if_eq (tgt := 20) hx hb dX12_leftSize_5 (by decide) (fun c2 => ?_) (fun c2 => ?_)
  · rw [if_pos c2] at h
    refine lv_iconst (v := (-1)) hx hb dX12_leftSize_20 (by decide) ?_
    obtain ⟨rfl, rfl⟩ := js_rt h
    exact js_iret C hT hr hk dX12_leftSize_21
  · rw [if_neg c2] at h
    refine lv_aload_n hx hb dX12_leftSize_8 rfl (lv_at hl 0 rfl) ?_
    refine js_gR C hT cfX12 t0 2 (by decide) (q := 20) rfl (by decide) lk_X12_16 dX12_leftSize_9 (fun t3a => ?_)
    refine lv_iload_n hx hb dX12_leftSize_12 rfl (lv_at hl 1 rfl) ?_
    obtain ⟨r4, σ4, hc4, h⟩ := bd_some h
    refine js_backI hT (js_runS C hT mfX12_left lk_X12_125 (kX12_left  hc4) ⟨Nat.le_of_ble_eq_true rfl, Nat.le_of_ble_eq_true rfl⟩ rfl hl.1 rfl (Nat.le_of_ble_eq_true rfl) ⟨Nat.zero_le _, Nat.zero_le _⟩ dX12_leftSize_13) (fun H locs hT => ?_)
    obtain ⟨g5, h⟩ := gd_some _ h
    refine js_iald C hT t3a g5 dX12_leftSize_16 ?_
    refine lv_goto (tgt := 21) hx hb dX12_leftSize_17 (by decide) ?_
    obtain ⟨rfl, rfl⟩ := js_rt h
    exact js_iret C hT hr hk dX12_leftSize_21
set_option maxHeartbeats 4000000 in
set_option maxRecDepth 20000 in
theorem kX12_load {x0 : Nat} {x1 : Int32} {x2 : Int32} {σ σ0 : js_S} {r0 : Int32} (t0 : ob_ nn 12 x0) (h : fX12_load fu x0 x1 x2 σ = some (r0, σ0)) : js_M l D B g nn yX12_load cX12_load 3 (some .int) 1 [.ref (B + x0), .int x1, .int x2] σ (js_QI D B g nn r0 σ0) := by
  refine js_enter (by decide) (Nat.le_of_ble_eq_true rfl) ?_
  intro p e s m args below meth c C hr hk ls hl hT
  have hl : lv_has ls 3 [(0, .ref (B + x0)), (1, .int x1), (2, .int x2)] := hl
  obtain ⟨hx, hb, hml, hown, ht, hK, hNw⟩ := id C
  obtain ⟨H, eH⟩ : ∃ H, H = s.heap := ⟨_, rfl⟩
  obtain ⟨locs, eL⟩ : ∃ z : List Loc, z = [] := ⟨_, rfl⟩
  rw [← eH, ← eL]
  rw [← eH, ← eL] at hT
  clear eH eL
  unfold fX12_load at h
  refine lv_aload_n hx hb dX12_load_0 rfl (lv_at hl 0 rfl) ?_
  refine js_gR C hT cfX12 t0 2 (by decide) (q := 20) rfl (by decide) lk_X12_16 dX12_load_1 (fun t1a => ?_)
  refine lv_iload_n hx hb dX12_load_4 rfl (lv_at hl 1 rfl) ?_
  refine lv_aload_n hx hb dX12_load_5 rfl (lv_at hl 0 rfl) ?_
  refine js_gR C hT cfX12 t0 4 (by decide) (q := 20) rfl (by decide) lk_X12_22 dX12_load_6 (fun t2a => ?_)
  refine lv_bipush (v := 96) hx hb dX12_load_9 (by decide) ?_
  refine lv_iload_n hx hb dX12_load_11 rfl (lv_at hl 2 rfl) ?_
  refine lv_imul hx hb dX12_load_12 ?_
  refine lv_bipush (v := 96) hx hb dX12_load_13 (by decide) ?_
  obtain ⟨z3, σ3, hc3, h⟩ := bd_some h
  refine js_backV hT (js_runS C hT mfX12_copy lk_X12_169 (kX12_copy t1a t2a hc3) ⟨Nat.le_of_ble_eq_true rfl, Nat.le_of_ble_eq_true rfl⟩ rfl hl.1 rfl (Nat.le_of_ble_eq_true rfl) ⟨Nat.zero_le _, Nat.zero_le _⟩ dX12_load_15) (fun H locs hT => ?_)
  refine lv_aload_n hx hb dX12_load_18 rfl (lv_at hl 0 rfl) ?_
  refine js_gR C hT cfX12 t0 2 (by decide) (q := 20) rfl (by decide) lk_X12_16 dX12_load_19 (fun t4a => ?_)
  refine lv_iload_n hx hb dX12_load_22 rfl (lv_at hl 1 rfl) ?_
  obtain ⟨g5, h⟩ := gd_some _ h
  refine js_iald C hT t4a g5 dX12_load_23 ?_
  obtain ⟨rfl, rfl⟩ := js_rt h
  exact js_iret C hT hr hk dX12_load_24
set_option maxHeartbeats 4000000 in
set_option maxRecDepth 20000 in
theorem kX12_loadLeft {x0 : Nat} {x1 : Int32} {x2 : Int32} {σ σ0 : js_S} {r0 : Int32} (t0 : ob_ nn 12 x0) (h : fX12_loadLeft fu x0 x1 x2 σ = some (r0, σ0)) : js_M l D B g nn yX12_loadLeft cX12_loadLeft 3 (some .int) 2 [.ref (B + x0), .int x1, .int x2] σ (js_QI D B g nn r0 σ0) := by
  refine js_enter (by decide) (Nat.le_of_ble_eq_true rfl) ?_
  intro p e s m args below meth c C hr hk ls hl hT
  have hl : lv_has ls 3 [(0, .ref (B + x0)), (1, .int x1), (2, .int x2)] := hl
  obtain ⟨hx, hb, hml, hown, ht, hK, hNw⟩ := id C
  obtain ⟨H, eH⟩ : ∃ H, H = s.heap := ⟨_, rfl⟩
  obtain ⟨locs, eL⟩ : ∃ z : List Loc, z = [] := ⟨_, rfl⟩
  rw [← eH, ← eL]
  rw [← eH, ← eL] at hT
  clear eH eL
  unfold fX12_loadLeft at h
  refine lv_aload_n hx hb dX12_loadLeft_0 rfl (lv_at hl 0 rfl) ?_
  refine lv_iload_n hx hb dX12_loadLeft_1 rfl (lv_at hl 1 rfl) ?_
  obtain ⟨r1, σ1, hc1, h⟩ := bd_some h
  refine js_backI hT (js_runV C hT cfX12 t0 rfl mfX12_isRule lk_X12_176 (kX12_isRule t0 hc1) ⟨Nat.le_of_ble_eq_true rfl, Nat.le_of_ble_eq_true rfl⟩ rfl hl.1 rfl (Nat.le_of_ble_eq_true rfl) ⟨Nat.zero_le _, Nat.zero_le _⟩ dX12_loadLeft_2) (fun H locs hT => ?_)
  refine lv_if_eq (tgt := 27) hx hb dX12_loadLeft_5 (by decide) (fun c2 => ?_) (fun c2 => ?_)
  · rw [if_pos c2] at h
    refine lv_iconst (v := (-1)) hx hb dX12_loadLeft_27 (by decide) ?_
    obtain ⟨rfl, rfl⟩ := js_rt h
    exact js_iret C hT hr hk dX12_loadLeft_28
  · rw [if_neg c2] at h
    refine lv_iload_n hx hb dX12_loadLeft_8 rfl (lv_at hl 2 rfl) ?_
    obtain ⟨r3, σ3, hc3, h⟩ := bd_some h
    refine js_backI hT (js_runS C hT mfX12_isRegister lk_X12_274 (kX12_isRegister  hc3) ⟨Nat.le_of_ble_eq_true rfl, Nat.le_of_ble_eq_true rfl⟩ rfl hl.1 rfl (Nat.le_of_ble_eq_true rfl) ⟨Nat.zero_le _, Nat.zero_le _⟩ dX12_loadLeft_9) (fun H locs hT => ?_)
    refine lv_if_eq (tgt := 27) hx hb dX12_loadLeft_12 (by decide) (fun c4 => ?_) (fun c4 => ?_)
    · rw [if_pos c4] at h
      refine lv_iconst (v := (-1)) hx hb dX12_loadLeft_27 (by decide) ?_
      obtain ⟨rfl, rfl⟩ := js_rt h
      exact js_iret C hT hr hk dX12_loadLeft_28
    · rw [if_neg c4] at h
      refine lv_aload_n hx hb dX12_loadLeft_15 rfl (lv_at hl 0 rfl) ?_
      refine lv_iload_n hx hb dX12_loadLeft_16 rfl (lv_at hl 1 rfl) ?_
      obtain ⟨r5, σ5, hc5, h⟩ := bd_some h
      refine js_backI hT (js_runS C hT mfX12_left lk_X12_125 (kX12_left  hc5) ⟨Nat.le_of_ble_eq_true rfl, Nat.le_of_ble_eq_true rfl⟩ rfl hl.1 rfl (Nat.le_of_ble_eq_true rfl) ⟨Nat.zero_le _, Nat.zero_le _⟩ dX12_loadLeft_17) (fun H locs hT => ?_)
      refine lv_iload_n hx hb dX12_loadLeft_20 rfl (lv_at hl 2 rfl) ?_
      obtain ⟨r6, σ6, hc6, h⟩ := bd_some h
      refine js_backI hT (js_runV C hT cfX12 t0 rfl mfX12_load lk_X12_292 (kX12_load t0 hc6) ⟨Nat.le_of_ble_eq_true rfl, Nat.le_of_ble_eq_true rfl⟩ rfl hl.1 rfl (Nat.le_of_ble_eq_true rfl) ⟨Nat.zero_le _, Nat.zero_le _⟩ dX12_loadLeft_21) (fun H locs hT => ?_)
      refine lv_goto (tgt := 28) hx hb dX12_loadLeft_24 (by decide) ?_
      obtain ⟨rfl, rfl⟩ := js_rt h
      exact js_iret C hT hr hk dX12_loadLeft_28
set_option maxHeartbeats 4000000 in
set_option maxRecDepth 20000 in
theorem wX12_loadNormalForm_123 (C : js_C D g p m c cX12_loadNormalForm 8 s args RX12) (hr : meth.sig.returnType = (some .int)) (hk : meth.locks = false) (rc40 : Nat → Int32 → Int32 → Int32 → js_S → Option (Int32 × js_S)) (hrc40 : ∀ (x0 : Nat) (x3 : Int32) (x5 : Int32) (x6 : Int32) (σ : js_S) (r0 : Int32) (σ0 : js_S), rc40 x0 x3 x5 x6 σ = some (r0, σ0) → ob_ nn 12 x0 → js_at p l e 8 s m args below meth c D B g nn 40 8 [(0, .ref (B + x0)), (3, .int x3), (5, .int x5), (6, .int x6)] [] σ (js_QI D B g nn r0 σ0)) : ∀ (x0 : Nat) (x3 : Int32) (x6 : Int32) (y0 : Int32) (σ : js_S) (r0 : Int32) (σ0 : js_S), fX12_loadNormalForm_123 fu rc40 x0 x3 x6 y0 σ = some (r0, σ0) → ob_ nn 12 x0 → js_at p l e 8 s m args below meth c D B g nn 123 8 [(0, .ref (B + x0)), (3, .int x3), (6, .int x6)] [.int y0] σ (js_QI D B g nn r0 σ0) := by
  obtain ⟨hx, hb, hml, hown, ht, hK, hNw⟩ := id C
  intro x0 x3 x6 y0 σ r0 σ0 h t0 H locs hT ls hl
  unfold fX12_loadNormalForm_123 at h
  refine lv_istore (lv' := [(5, .int y0), (0, .ref (B + x0)), (3, .int x3), (6, .int x6)]) hx hb dX12_loadNormalForm_123 hl (by decide) rfl (fun ls hl => ?_)
  refine lv_iinc (v := x6 + 1) (lv' := [(6, .int (x6 + 1)), (5, .int y0), (0, .ref (B + x0)), (3, .int x3)]) hx hb dX12_loadNormalForm_125 hl (k := 3) rfl rfl (by decide) rfl (fun ls hl => ?_)
  refine lv_goto (tgt := 40) hx hb dX12_loadNormalForm_128 (by decide) ?_
  exact hrc40 _ _ _ _ _ _ _ h t0 H locs hT ls (lv_sub hl [2, 3, 1, 0] rfl)
set_option maxHeartbeats 4000000 in
set_option maxRecDepth 20000 in
theorem wX12_loadNormalForm_121 (C : js_C D g p m c cX12_loadNormalForm 8 s args RX12) (hr : meth.sig.returnType = (some .int)) (hk : meth.locks = false) (rc40 : Nat → Int32 → Int32 → Int32 → js_S → Option (Int32 × js_S)) (hrc40 : ∀ (x0 : Nat) (x3 : Int32) (x5 : Int32) (x6 : Int32) (σ : js_S) (r0 : Int32) (σ0 : js_S), rc40 x0 x3 x5 x6 σ = some (r0, σ0) → ob_ nn 12 x0 → js_at p l e 8 s m args below meth c D B g nn 40 8 [(0, .ref (B + x0)), (3, .int x3), (5, .int x5), (6, .int x6)] [] σ (js_QI D B g nn r0 σ0)) : ∀ (x0 : Nat) (x3 : Int32) (x5 : Int32) (x6 : Int32) (σ : js_S) (r0 : Int32) (σ0 : js_S), fX12_loadNormalForm_121 fu rc40 x0 x3 x5 x6 σ = some (r0, σ0) → ob_ nn 12 x0 → js_at p l e 8 s m args below meth c D B g nn 121 8 [(0, .ref (B + x0)), (3, .int x3), (5, .int x5), (6, .int x6)] [] σ (js_QI D B g nn r0 σ0) := by
  obtain ⟨hx, hb, hml, hown, ht, hK, hNw⟩ := id C
  intro x0 x3 x5 x6 σ r0 σ0 h t0 H locs hT ls hl
  unfold fX12_loadNormalForm_121 at h
  refine lv_iload hx hb dX12_loadNormalForm_121 (lv_at hl 2 rfl) ?_
  exact wX12_loadNormalForm_123 C hr hk rc40 hrc40 _ _ _ _ _ _ _ h t0 H locs hT ls (lv_sub hl [0, 1, 3] rfl)
set_option maxHeartbeats 4000000 in
set_option maxRecDepth 20000 in
theorem wX12_loadNormalForm_116 (C : js_C D g p m c cX12_loadNormalForm 8 s args RX12) (hr : meth.sig.returnType = (some .int)) (hk : meth.locks = false) (rc40 : Nat → Int32 → Int32 → Int32 → js_S → Option (Int32 × js_S)) (hrc40 : ∀ (x0 : Nat) (x3 : Int32) (x5 : Int32) (x6 : Int32) (σ : js_S) (r0 : Int32) (σ0 : js_S), rc40 x0 x3 x5 x6 σ = some (r0, σ0) → ob_ nn 12 x0 → js_at p l e 8 s m args below meth c D B g nn 40 8 [(0, .ref (B + x0)), (3, .int x3), (5, .int x5), (6, .int x6)] [] σ (js_QI D B g nn r0 σ0)) : ∀ (x0 : Nat) (x3 : Int32) (x6 : Int32) (σ : js_S) (r0 : Int32) (σ0 : js_S), fX12_loadNormalForm_116 fu rc40 x0 x3 x6 σ = some (r0, σ0) → ob_ nn 12 x0 → js_at p l e 8 s m args below meth c D B g nn 116 8 [(0, .ref (B + x0)), (3, .int x3), (6, .int x6)] [] σ (js_QI D B g nn r0 σ0) := by
  obtain ⟨hx, hb, hml, hown, ht, hK, hNw⟩ := id C
  intro x0 x3 x6 σ r0 σ0 h t0 H locs hT ls hl
  unfold fX12_loadNormalForm_116 at h
  refine lv_iload hx hb dX12_loadNormalForm_116 (lv_at hl 2 rfl) ?_
  refine lv_goto (tgt := 123) hx hb dX12_loadNormalForm_118 (by decide) ?_
  exact wX12_loadNormalForm_123 C hr hk rc40 hrc40 _ _ _ _ _ _ _ h t0 H locs hT ls (lv_sub hl [0, 1, 2] rfl)
set_option maxHeartbeats 4000000 in
set_option maxRecDepth 20000 in
theorem wX12_loadNormalForm_80 (C : js_C D g p m c cX12_loadNormalForm 8 s args RX12) (hr : meth.sig.returnType = (some .int)) (hk : meth.locks = false) (rc40 : Nat → Int32 → Int32 → Int32 → js_S → Option (Int32 × js_S)) (hrc40 : ∀ (x0 : Nat) (x3 : Int32) (x5 : Int32) (x6 : Int32) (σ : js_S) (r0 : Int32) (σ0 : js_S), rc40 x0 x3 x5 x6 σ = some (r0, σ0) → ob_ nn 12 x0 → js_at p l e 8 s m args below meth c D B g nn 40 8 [(0, .ref (B + x0)), (3, .int x3), (5, .int x5), (6, .int x6)] [] σ (js_QI D B g nn r0 σ0)) : ∀ (x0 : Nat) (x3 : Int32) (x5 : Int32) (x6 : Int32) (y0 : Int32) (σ : js_S) (r0 : Int32) (σ0 : js_S), fX12_loadNormalForm_80 fu rc40 x0 x3 x5 x6 y0 σ = some (r0, σ0) → ob_ nn 12 x0 → js_at p l e 8 s m args below meth c D B g nn 80 8 [(0, .ref (B + x0)), (3, .int x3), (5, .int x5), (6, .int x6)] [.int y0] σ (js_QI D B g nn r0 σ0) := by
  obtain ⟨hx, hb, hml, hown, ht, hK, hNw⟩ := id C
  intro x0 x3 x5 x6 y0 σ r0 σ0 h t0 H locs hT ls hl
  unfold fX12_loadNormalForm_80 at h
  refine lv_istore (lv' := [(7, .int y0), (0, .ref (B + x0)), (3, .int x3), (5, .int x5), (6, .int x6)]) hx hb dX12_loadNormalForm_80 hl (by decide) rfl (fun ls hl => ?_)
  refine lv_iload hx hb dX12_loadNormalForm_82 (lv_at hl 0 rfl) ?_
  refine lv_if_eq (tgt := 121) hx hb dX12_loadNormalForm_84 (by decide) (fun c1 => ?_) (fun c1 => ?_)
  · rw [if_pos c1] at h
    exact wX12_loadNormalForm_121 C hr hk rc40 hrc40 _ _ _ _ _ _ _ h t0 H locs hT ls (lv_sub hl [1, 2, 3, 4] rfl)
  · rw [if_neg c1] at h
    refine lv_iload hx hb dX12_loadNormalForm_87 (lv_at hl 3 rfl) ?_
    refine lv_if_lt (tgt := 116) hx hb dX12_loadNormalForm_89 (by decide) (fun c2 => ?_) (fun c2 => ?_)
    · rw [if_pos c2] at h
      exact wX12_loadNormalForm_116 C hr hk rc40 hrc40 _ _ _ _ _ _ h t0 H locs hT ls (lv_sub hl [1, 2, 4] rfl)
    · rw [if_neg c2] at h
      refine lv_aload_n hx hb dX12_loadNormalForm_92 rfl (lv_at hl 1 rfl) ?_
      refine js_gR C hT cfX12 t0 36 (by decide) (q := 20) rfl (by decide) lk_X12_95 dX12_loadNormalForm_93 (fun t3a => ?_)
      refine lv_bipush (v := 96) hx hb dX12_loadNormalForm_96 (by decide) ?_
      refine lv_iload hx hb dX12_loadNormalForm_98 (lv_at hl 4 rfl) ?_
      refine lv_imul hx hb dX12_loadNormalForm_100 ?_
      refine lv_aload_n hx hb dX12_loadNormalForm_101 rfl (lv_at hl 1 rfl) ?_
      refine js_gR C hT cfX12 t0 36 (by decide) (q := 20) rfl (by decide) lk_X12_95 dX12_loadNormalForm_102 (fun t4a => ?_)
      refine lv_bipush (v := 96) hx hb dX12_loadNormalForm_105 (by decide) ?_
      refine lv_iload hx hb dX12_loadNormalForm_107 (lv_at hl 3 rfl) ?_
      refine lv_imul hx hb dX12_loadNormalForm_109 ?_
      obtain ⟨r5, σ5, hc5, h⟩ := bd_some h
      refine js_backI hT (js_runS C hT mfX12_compare lk_X12_288 (kX12_compare t3a t4a hc5) ⟨Nat.le_of_ble_eq_true rfl, Nat.le_of_ble_eq_true rfl⟩ rfl hl.1 rfl (Nat.le_of_ble_eq_true rfl) ⟨Nat.zero_le _, Nat.zero_le _⟩ dX12_loadNormalForm_110) (fun H locs hT => ?_)
      refine lv_if_ge (tgt := 121) hx hb dX12_loadNormalForm_113 (by decide) (fun c6 => ?_) (fun c6 => ?_)
      · rw [if_pos c6] at h
        exact wX12_loadNormalForm_121 C hr hk rc40 hrc40 _ _ _ _ _ _ _ h t0 H locs hT ls (lv_sub hl [1, 2, 3, 4] rfl)
      · rw [if_neg c6] at h
        exact wX12_loadNormalForm_116 C hr hk rc40 hrc40 _ _ _ _ _ _ h t0 H locs hT ls (lv_sub hl [1, 2, 4] rfl)
set_option maxHeartbeats 4000000 in
set_option maxRecDepth 20000 in
theorem wX12_loadNormalForm_79 (C : js_C D g p m c cX12_loadNormalForm 8 s args RX12) (hr : meth.sig.returnType = (some .int)) (hk : meth.locks = false) (rc40 : Nat → Int32 → Int32 → Int32 → js_S → Option (Int32 × js_S)) (hrc40 : ∀ (x0 : Nat) (x3 : Int32) (x5 : Int32) (x6 : Int32) (σ : js_S) (r0 : Int32) (σ0 : js_S), rc40 x0 x3 x5 x6 σ = some (r0, σ0) → ob_ nn 12 x0 → js_at p l e 8 s m args below meth c D B g nn 40 8 [(0, .ref (B + x0)), (3, .int x3), (5, .int x5), (6, .int x6)] [] σ (js_QI D B g nn r0 σ0)) : ∀ (x0 : Nat) (x3 : Int32) (x5 : Int32) (x6 : Int32) (σ : js_S) (r0 : Int32) (σ0 : js_S), fX12_loadNormalForm_79 fu rc40 x0 x3 x5 x6 σ = some (r0, σ0) → ob_ nn 12 x0 → js_at p l e 8 s m args below meth c D B g nn 79 8 [(0, .ref (B + x0)), (3, .int x3), (5, .int x5), (6, .int x6)] [] σ (js_QI D B g nn r0 σ0) := by
  obtain ⟨hx, hb, hml, hown, ht, hK, hNw⟩ := id C
  intro x0 x3 x5 x6 σ r0 σ0 h t0 H locs hT ls hl
  unfold fX12_loadNormalForm_79 at h
  refine lv_iconst (v := 0) hx hb dX12_loadNormalForm_79 (by decide) ?_
  exact wX12_loadNormalForm_80 C hr hk rc40 hrc40 _ _ _ _ _ _ _ _ h t0 H locs hT ls (lv_sub hl [0, 1, 2, 3] rfl)
set_option maxHeartbeats 4000000 in
set_option maxRecDepth 20000 in
theorem wX12_loadNormalForm_40b (C : js_C D g p m c cX12_loadNormalForm 8 s args RX12) (hr : meth.sig.returnType = (some .int)) (hk : meth.locks = false) (rc40 : Nat → Int32 → Int32 → Int32 → js_S → Option (Int32 × js_S)) (hrc40 : ∀ (x0 : Nat) (x3 : Int32) (x5 : Int32) (x6 : Int32) (σ : js_S) (r0 : Int32) (σ0 : js_S), rc40 x0 x3 x5 x6 σ = some (r0, σ0) → ob_ nn 12 x0 → js_at p l e 8 s m args below meth c D B g nn 40 8 [(0, .ref (B + x0)), (3, .int x3), (5, .int x5), (6, .int x6)] [] σ (js_QI D B g nn r0 σ0)) : ∀ (x0 : Nat) (x3 : Int32) (x5 : Int32) (x6 : Int32) (σ : js_S) (r0 : Int32) (σ0 : js_S), fX12_loadNormalForm_40b fu rc40 x0 x3 x5 x6 σ = some (r0, σ0) → ob_ nn 12 x0 → js_at p l e 8 s m args below meth c D B g nn 40 8 [(0, .ref (B + x0)), (3, .int x3), (5, .int x5), (6, .int x6)] [] σ (js_QI D B g nn r0 σ0) := by
  obtain ⟨hx, hb, hml, hown, ht, hK, hNw⟩ := id C
  intro x0 x3 x5 x6 σ r0 σ0 h t0 H locs hT ls hl
  unfold fX12_loadNormalForm_40b at h
  refine lv_iload hx hb dX12_loadNormalForm_40 (lv_at hl 3 rfl) ?_
  refine lv_aload_n hx hb dX12_loadNormalForm_42 rfl (lv_at hl 0 rfl) ?_
  refine js_gI C hT cfX12 t0 38 (by decide) rfl lk_X12_307 dX12_loadNormalForm_43 ?_
  refine lv_icmp_ge (tgt := 131) hx hb dX12_loadNormalForm_46 (by decide) (fun c1 => ?_) (fun c1 => ?_)
  · rw [if_pos c1] at h
    refine lv_iload hx hb dX12_loadNormalForm_131 (lv_at hl 2 rfl) ?_
    refine lv_if_ge (tgt := 139) hx hb dX12_loadNormalForm_133 (by decide) (fun c2 => ?_) (fun c2 => ?_)
    · rw [if_pos c2] at h
      refine lv_aload_n hx hb dX12_loadNormalForm_139 rfl (lv_at hl 0 rfl) ?_
      refine js_gR C hT cfX12 t0 36 (by decide) (q := 20) rfl (by decide) lk_X12_95 dX12_loadNormalForm_140 (fun t3a => ?_)
      refine lv_bipush (v := 96) hx hb dX12_loadNormalForm_143 (by decide) ?_
      refine lv_iload hx hb dX12_loadNormalForm_145 (lv_at hl 2 rfl) ?_
      refine lv_imul hx hb dX12_loadNormalForm_147 ?_
      refine lv_aload_n hx hb dX12_loadNormalForm_148 rfl (lv_at hl 0 rfl) ?_
      refine js_gR C hT cfX12 t0 4 (by decide) (q := 20) rfl (by decide) lk_X12_22 dX12_loadNormalForm_149 (fun t4a => ?_)
      refine lv_bipush (v := 96) hx hb dX12_loadNormalForm_152 (by decide) ?_
      refine lv_iload_n hx hb dX12_loadNormalForm_154 rfl (lv_at hl 1 rfl) ?_
      refine lv_imul hx hb dX12_loadNormalForm_155 ?_
      refine lv_bipush (v := 96) hx hb dX12_loadNormalForm_156 (by decide) ?_
      obtain ⟨z5, σ5, hc5, h⟩ := bd_some h
      refine js_backV hT (js_runS C hT mfX12_copy lk_X12_169 (kX12_copy t3a t4a hc5) ⟨Nat.le_of_ble_eq_true rfl, Nat.le_of_ble_eq_true rfl⟩ rfl hl.1 rfl (Nat.le_of_ble_eq_true rfl) ⟨Nat.zero_le _, Nat.zero_le _⟩ dX12_loadNormalForm_158) (fun H locs hT => ?_)
      refine lv_aload_n hx hb dX12_loadNormalForm_161 rfl (lv_at hl 0 rfl) ?_
      refine js_gR C hT cfX12 t0 36 (by decide) (q := 20) rfl (by decide) lk_X12_95 dX12_loadNormalForm_162 (fun t6a => ?_)
      refine lv_bipush (v := 96) hx hb dX12_loadNormalForm_165 (by decide) ?_
      refine lv_iload hx hb dX12_loadNormalForm_167 (lv_at hl 2 rfl) ?_
      refine lv_imul hx hb dX12_loadNormalForm_169 ?_
      obtain ⟨g7, h⟩ := gd_some _ h
      refine js_iald C hT t6a g7 dX12_loadNormalForm_170 ?_
      obtain ⟨rfl, rfl⟩ := js_rt h
      exact js_iret C hT hr hk dX12_loadNormalForm_171
    · rw [if_neg c2] at h
      refine lv_bipush (v := (-5)) hx hb dX12_loadNormalForm_136 (by decide) ?_
      obtain ⟨rfl, rfl⟩ := js_rt h
      exact js_iret C hT hr hk dX12_loadNormalForm_138
  · rw [if_neg c1] at h
    refine lv_aload_n hx hb dX12_loadNormalForm_49 rfl (lv_at hl 0 rfl) ?_
    refine js_gR C hT cfX12 t0 37 (by decide) (q := 22) rfl (by decide) lk_X12_98 dX12_loadNormalForm_50 (fun t8a => ?_)
    refine lv_iload hx hb dX12_loadNormalForm_53 (lv_at hl 3 rfl) ?_
    obtain ⟨g9, h⟩ := gd_some _ h
    refine js_zald C hT t8a g9 dX12_loadNormalForm_55 ?_
    refine lv_if_eq (tgt := 79) hx hb dX12_loadNormalForm_56 (by decide) (fun c10 => ?_) (fun c10 => ?_)
    · rw [if_pos c10] at h
      exact wX12_loadNormalForm_79 C hr hk rc40 hrc40 _ _ _ _ _ _ _ h t0 H locs hT ls (lv_sub hl [0, 1, 2, 3] rfl)
    · rw [if_neg c10] at h
      refine lv_aload_n hx hb dX12_loadNormalForm_59 rfl (lv_at hl 0 rfl) ?_
      refine lv_aload_n hx hb dX12_loadNormalForm_60 rfl (lv_at hl 0 rfl) ?_
      refine js_gR C hT cfX12 t0 36 (by decide) (q := 20) rfl (by decide) lk_X12_95 dX12_loadNormalForm_61 (fun t11a => ?_)
      refine lv_bipush (v := 96) hx hb dX12_loadNormalForm_64 (by decide) ?_
      refine lv_iload hx hb dX12_loadNormalForm_66 (lv_at hl 3 rfl) ?_
      refine lv_imul hx hb dX12_loadNormalForm_68 ?_
      obtain ⟨r12, σ12, hc12, h⟩ := bd_some h
      refine js_backI hT (js_runV C hT cfX12 t0 rfl mfX12_isNormalForm lk_X12_333 (kX12_isNormalForm t0 t11a hc12) ⟨Nat.le_of_ble_eq_true rfl, Nat.le_of_ble_eq_true rfl⟩ rfl hl.1 rfl (Nat.le_of_ble_eq_true rfl) ⟨Nat.zero_le _, Nat.zero_le _⟩ dX12_loadNormalForm_69) (fun H locs hT => ?_)
      refine lv_if_eq (tgt := 79) hx hb dX12_loadNormalForm_72 (by decide) (fun c13 => ?_) (fun c13 => ?_)
      · rw [if_pos c13] at h
        exact wX12_loadNormalForm_79 C hr hk rc40 hrc40 _ _ _ _ _ _ _ h t0 H locs hT ls (lv_sub hl [0, 1, 2, 3] rfl)
      · rw [if_neg c13] at h
        refine lv_iconst (v := 1) hx hb dX12_loadNormalForm_75 (by decide) ?_
        refine lv_goto (tgt := 80) hx hb dX12_loadNormalForm_76 (by decide) ?_
        exact wX12_loadNormalForm_80 C hr hk rc40 hrc40 _ _ _ _ _ _ _ _ h t0 H locs hT ls (lv_sub hl [0, 1, 2, 3] rfl)
set_option maxHeartbeats 4000000 in
set_option maxRecDepth 20000 in
theorem wX12_loadNormalForm_40 (C : js_C D g p m c cX12_loadNormalForm 8 s args RX12) (hr : meth.sig.returnType = (some .int)) (hk : meth.locks = false) : ∀ (k : Nat), ∀ (x0 : Nat) (x3 : Int32) (x5 : Int32) (x6 : Int32) (σ : js_S) (r0 : Int32) (σ0 : js_S), fX12_loadNormalForm_40 fu k x0 x3 x5 x6 σ = some (r0, σ0) → ob_ nn 12 x0 → js_at p l e 8 s m args below meth c D B g nn 40 8 [(0, .ref (B + x0)), (3, .int x3), (5, .int x5), (6, .int x6)] [] σ (js_QI D B g nn r0 σ0) := by
  intro k
  induction k with
  | zero =>
    intro x0 x3 x5 x6 σ r0 σ0 h
    cases h
  | succ k ih =>
    intro x0 x3 x5 x6 σ r0 σ0 h
    exact wX12_loadNormalForm_40b C hr hk (fX12_loadNormalForm_40 fu k) ih x0 x3 x5 x6 σ r0 σ0 h
set_option maxHeartbeats 4000000 in
set_option maxRecDepth 20000 in
theorem wX12_loadNormalForm_17 (C : js_C D g p m c cX12_loadNormalForm 8 s args RX12) (hr : meth.sig.returnType = (some .int)) (hk : meth.locks = false) : ∀ (x0 : Nat) (x1 : Int32) (x2 : Int32) (x3 : Int32) (y0 : Int32) (σ : js_S) (r0 : Int32) (σ0 : js_S), fX12_loadNormalForm_17 fu x0 x1 x2 x3 y0 σ = some (r0, σ0) → ob_ nn 12 x0 → js_at p l e 8 s m args below meth c D B g nn 17 8 [(0, .ref (B + x0)), (1, .int x1), (2, .int x2), (3, .int x3)] [.int y0] σ (js_QI D B g nn r0 σ0) := by
  obtain ⟨hx, hb, hml, hown, ht, hK, hNw⟩ := id C
  intro x0 x1 x2 x3 y0 σ r0 σ0 h t0 H locs hT ls hl
  unfold fX12_loadNormalForm_17 at h
  refine lv_istore (lv' := [(4, .int y0), (0, .ref (B + x0)), (1, .int x1), (2, .int x2), (3, .int x3)]) hx hb dX12_loadNormalForm_17 hl (by decide) rfl (fun ls hl => ?_)
  refine lv_iload hx hb dX12_loadNormalForm_19 (lv_at hl 0 rfl) ?_
  refine lv_if_ge (tgt := 27) hx hb dX12_loadNormalForm_21 (by decide) (fun c1 => ?_) (fun c1 => ?_)
  · rw [if_pos c1] at h
    refine lv_aload_n hx hb dX12_loadNormalForm_27 rfl (lv_at hl 1 rfl) ?_
    refine lv_iload_n hx hb dX12_loadNormalForm_28 rfl (lv_at hl 2 rfl) ?_
    refine lv_iload_n hx hb dX12_loadNormalForm_29 rfl (lv_at hl 3 rfl) ?_
    obtain ⟨z2, σ2, hc2, h⟩ := bd_some h
    refine js_backV hT (js_runV C hT cfX12 t0 rfl mfX12_explore lk_X12_329 (kX12_explore t0 hc2) ⟨Nat.le_of_ble_eq_true rfl, Nat.le_of_ble_eq_true rfl⟩ rfl hl.1 rfl (Nat.le_of_ble_eq_true rfl) ⟨Nat.zero_le _, Nat.zero_le _⟩ dX12_loadNormalForm_30) (fun H locs hT => ?_)
    refine lv_bipush (v := (-5)) hx hb dX12_loadNormalForm_33 (by decide) ?_
    refine lv_istore (lv' := [(5, .int (-5)), (4, .int y0), (0, .ref (B + x0)), (1, .int x1), (2, .int x2), (3, .int x3)]) hx hb dX12_loadNormalForm_35 hl (by decide) rfl (fun ls hl => ?_)
    refine lv_iconst (v := 0) hx hb dX12_loadNormalForm_37 (by decide) ?_
    refine lv_istore (lv' := [(6, .int 0), (5, .int (-5)), (4, .int y0), (0, .ref (B + x0)), (1, .int x1), (2, .int x2), (3, .int x3)]) hx hb dX12_loadNormalForm_38 hl (by decide) rfl (fun ls hl => ?_)
    exact wX12_loadNormalForm_40 C hr hk _ _ _ _ _ _ _ _ h t0 H locs hT ls (lv_sub hl [3, 6, 1, 0] rfl)
  · rw [if_neg c1] at h
    refine lv_iload hx hb dX12_loadNormalForm_24 (lv_at hl 0 rfl) ?_
    obtain ⟨rfl, rfl⟩ := js_rt h
    exact js_iret C hT hr hk dX12_loadNormalForm_26
set_option maxHeartbeats 4000000 in
set_option maxRecDepth 20000 in
theorem kX12_loadNormalForm {x0 : Nat} {x1 : Int32} {x2 : Int32} {x3 : Int32} {σ σ0 : js_S} {r0 : Int32} (t0 : ob_ nn 12 x0) (h : fX12_loadNormalForm fu x0 x1 x2 x3 σ = some (r0, σ0)) : js_M l D B g nn yX12_loadNormalForm cX12_loadNormalForm 8 (some .int) 8 [.ref (B + x0), .int x1, .int x2, .int x3] σ (js_QI D B g nn r0 σ0) := by
  refine js_enter (by decide) (Nat.le_of_ble_eq_true rfl) ?_
  intro p e s m args below meth c C hr hk ls hl hT
  have hl : lv_has ls 8 [(0, .ref (B + x0)), (1, .int x1), (2, .int x2), (3, .int x3)] := hl
  obtain ⟨hx, hb, hml, hown, ht, hK, hNw⟩ := id C
  obtain ⟨H, eH⟩ : ∃ H, H = s.heap := ⟨_, rfl⟩
  obtain ⟨locs, eL⟩ : ∃ z : List Loc, z = [] := ⟨_, rfl⟩
  rw [← eH, ← eL]
  rw [← eH, ← eL] at hT
  clear eH eL
  unfold fX12_loadNormalForm at h
  refine lv_iload_n hx hb dX12_loadNormalForm_0 rfl (lv_at hl 3 rfl) ?_
  obtain ⟨r1, σ1, hc1, h⟩ := bd_some h
  refine js_backI hT (js_runS C hT mfX12_isRegister lk_X12_274 (kX12_isRegister  hc1) ⟨Nat.le_of_ble_eq_true rfl, Nat.le_of_ble_eq_true rfl⟩ rfl hl.1 rfl (Nat.le_of_ble_eq_true rfl) ⟨Nat.zero_le _, Nat.zero_le _⟩ dX12_loadNormalForm_1) (fun H locs hT => ?_)
  refine lv_if_eq (tgt := 16) hx hb dX12_loadNormalForm_4 (by decide) (fun c2 => ?_) (fun c2 => ?_)
  · rw [if_pos c2] at h
    refine lv_iconst (v := (-1)) hx hb dX12_loadNormalForm_16 (by decide) ?_
    exact wX12_loadNormalForm_17 C hr hk _ _ _ _ _ _ _ _ h t0 H locs hT ls (lv_sub hl [0, 1, 2, 3] rfl)
  · rw [if_neg c2] at h
    refine lv_aload_n hx hb dX12_loadNormalForm_7 rfl (lv_at hl 0 rfl) ?_
    refine lv_iload_n hx hb dX12_loadNormalForm_8 rfl (lv_at hl 1 rfl) ?_
    refine lv_iload_n hx hb dX12_loadNormalForm_9 rfl (lv_at hl 2 rfl) ?_
    obtain ⟨r3, σ3, hc3, h⟩ := bd_some h
    refine js_backI hT (js_runV C hT cfX12 t0 rfl mfX12_wrongExploration lk_X12_326 (kX12_wrongExploration t0 hc3) ⟨Nat.le_of_ble_eq_true rfl, Nat.le_of_ble_eq_true rfl⟩ rfl hl.1 rfl (Nat.le_of_ble_eq_true rfl) ⟨Nat.zero_le _, Nat.zero_le _⟩ dX12_loadNormalForm_10) (fun H locs hT => ?_)
    refine lv_goto (tgt := 17) hx hb dX12_loadNormalForm_13 (by decide) ?_
    exact wX12_loadNormalForm_17 C hr hk _ _ _ _ _ _ _ _ h t0 H locs hT ls (lv_sub hl [0, 1, 2, 3] rfl)
set_option maxHeartbeats 4000000 in
set_option maxRecDepth 20000 in
theorem kX12_loadRight {x0 : Nat} {x1 : Int32} {x2 : Int32} {σ σ0 : js_S} {r0 : Int32} (t0 : ob_ nn 12 x0) (h : fX12_loadRight fu x0 x1 x2 σ = some (r0, σ0)) : js_M l D B g nn yX12_loadRight cX12_loadRight 3 (some .int) 2 [.ref (B + x0), .int x1, .int x2] σ (js_QI D B g nn r0 σ0) := by
  refine js_enter (by decide) (Nat.le_of_ble_eq_true rfl) ?_
  intro p e s m args below meth c C hr hk ls hl hT
  have hl : lv_has ls 3 [(0, .ref (B + x0)), (1, .int x1), (2, .int x2)] := hl
  obtain ⟨hx, hb, hml, hown, ht, hK, hNw⟩ := id C
  obtain ⟨H, eH⟩ : ∃ H, H = s.heap := ⟨_, rfl⟩
  obtain ⟨locs, eL⟩ : ∃ z : List Loc, z = [] := ⟨_, rfl⟩
  rw [← eH, ← eL]
  rw [← eH, ← eL] at hT
  clear eH eL
  unfold fX12_loadRight at h
  refine lv_aload_n hx hb dX12_loadRight_0 rfl (lv_at hl 0 rfl) ?_
  refine lv_iload_n hx hb dX12_loadRight_1 rfl (lv_at hl 1 rfl) ?_
  obtain ⟨r1, σ1, hc1, h⟩ := bd_some h
  refine js_backI hT (js_runV C hT cfX12 t0 rfl mfX12_isRule lk_X12_176 (kX12_isRule t0 hc1) ⟨Nat.le_of_ble_eq_true rfl, Nat.le_of_ble_eq_true rfl⟩ rfl hl.1 rfl (Nat.le_of_ble_eq_true rfl) ⟨Nat.zero_le _, Nat.zero_le _⟩ dX12_loadRight_2) (fun H locs hT => ?_)
  refine lv_if_eq (tgt := 27) hx hb dX12_loadRight_5 (by decide) (fun c2 => ?_) (fun c2 => ?_)
  · rw [if_pos c2] at h
    refine lv_iconst (v := (-1)) hx hb dX12_loadRight_27 (by decide) ?_
    obtain ⟨rfl, rfl⟩ := js_rt h
    exact js_iret C hT hr hk dX12_loadRight_28
  · rw [if_neg c2] at h
    refine lv_iload_n hx hb dX12_loadRight_8 rfl (lv_at hl 2 rfl) ?_
    obtain ⟨r3, σ3, hc3, h⟩ := bd_some h
    refine js_backI hT (js_runS C hT mfX12_isRegister lk_X12_274 (kX12_isRegister  hc3) ⟨Nat.le_of_ble_eq_true rfl, Nat.le_of_ble_eq_true rfl⟩ rfl hl.1 rfl (Nat.le_of_ble_eq_true rfl) ⟨Nat.zero_le _, Nat.zero_le _⟩ dX12_loadRight_9) (fun H locs hT => ?_)
    refine lv_if_eq (tgt := 27) hx hb dX12_loadRight_12 (by decide) (fun c4 => ?_) (fun c4 => ?_)
    · rw [if_pos c4] at h
      refine lv_iconst (v := (-1)) hx hb dX12_loadRight_27 (by decide) ?_
      obtain ⟨rfl, rfl⟩ := js_rt h
      exact js_iret C hT hr hk dX12_loadRight_28
    · rw [if_neg c4] at h
      refine lv_aload_n hx hb dX12_loadRight_15 rfl (lv_at hl 0 rfl) ?_
      refine lv_iload_n hx hb dX12_loadRight_16 rfl (lv_at hl 1 rfl) ?_
      obtain ⟨r5, σ5, hc5, h⟩ := bd_some h
      refine js_backI hT (js_runS C hT mfX12_right lk_X12_145 (kX12_right  hc5) ⟨Nat.le_of_ble_eq_true rfl, Nat.le_of_ble_eq_true rfl⟩ rfl hl.1 rfl (Nat.le_of_ble_eq_true rfl) ⟨Nat.zero_le _, Nat.zero_le _⟩ dX12_loadRight_17) (fun H locs hT => ?_)
      refine lv_iload_n hx hb dX12_loadRight_20 rfl (lv_at hl 2 rfl) ?_
      obtain ⟨r6, σ6, hc6, h⟩ := bd_some h
      refine js_backI hT (js_runV C hT cfX12 t0 rfl mfX12_load lk_X12_292 (kX12_load t0 hc6) ⟨Nat.le_of_ble_eq_true rfl, Nat.le_of_ble_eq_true rfl⟩ rfl hl.1 rfl (Nat.le_of_ble_eq_true rfl) ⟨Nat.zero_le _, Nat.zero_le _⟩ dX12_loadRight_21) (fun H locs hT => ?_)
      refine lv_goto (tgt := 28) hx hb dX12_loadRight_24 (by decide) ?_
      obtain ⟨rfl, rfl⟩ := js_rt h
      exact js_iret C hT hr hk dX12_loadRight_28
set_option maxHeartbeats 4000000 in
set_option maxRecDepth 20000 in
theorem kX12_matches {x0 : Nat} {x1 : Int32} {x2 : Int32} {x3 : Int32} {σ σ0 : js_S} {r0 : Int32} (t0 : ob_ nn 12 x0) (h : fX12_matches fu x0 x1 x2 x3 σ = some (r0, σ0)) : js_M l D B g nn yX12_matches cX12_matches 4 (some .int) 5 [.ref (B + x0), .int x1, .int x2, .int x3] σ (js_QI D B g nn r0 σ0) := by
  refine js_enter (by decide) (Nat.le_of_ble_eq_true rfl) ?_
  intro p e s m args below meth c C hr hk ls hl hT
  have hl : lv_has ls 4 [(0, .ref (B + x0)), (1, .int x1), (2, .int x2), (3, .int x3)] := hl
  obtain ⟨hx, hb, hml, hown, ht, hK, hNw⟩ := id C
  obtain ⟨H, eH⟩ : ∃ H, H = s.heap := ⟨_, rfl⟩
  obtain ⟨locs, eL⟩ : ∃ z : List Loc, z = [] := ⟨_, rfl⟩
  rw [← eH, ← eL]
  rw [← eH, ← eL] at hT
  clear eH eL
  unfold fX12_matches at h
  refine lv_aload_n hx hb dX12_matches_0 rfl (lv_at hl 0 rfl) ?_
  refine lv_iload_n hx hb dX12_matches_1 rfl (lv_at hl 1 rfl) ?_
  obtain ⟨r1, σ1, hc1, h⟩ := bd_some h
  refine js_backI hT (js_runV C hT cfX12 t0 rfl mfX12_isRule lk_X12_176 (kX12_isRule t0 hc1) ⟨Nat.le_of_ble_eq_true rfl, Nat.le_of_ble_eq_true rfl⟩ rfl hl.1 rfl (Nat.le_of_ble_eq_true rfl) ⟨Nat.zero_le _, Nat.zero_le _⟩ dX12_matches_2) (fun H locs hT => ?_)
  refine lv_if_eq (tgt := 17) hx hb dX12_matches_5 (by decide) (fun c2 => ?_) (fun c2 => ?_)
  · rw [if_pos c2] at h
    refine lv_iconst (v := (-1)) hx hb dX12_matches_17 (by decide) ?_
    obtain ⟨rfl, rfl⟩ := js_rt h
    exact js_iret C hT hr hk dX12_matches_18
  · rw [if_neg c2] at h
    refine lv_aload_n hx hb dX12_matches_8 rfl (lv_at hl 0 rfl) ?_
    refine lv_iload_n hx hb dX12_matches_9 rfl (lv_at hl 2 rfl) ?_
    refine lv_iload_n hx hb dX12_matches_10 rfl (lv_at hl 3 rfl) ?_
    obtain ⟨r3, σ3, hc3, h⟩ := bd_some h
    refine js_backI hT (js_runV C hT cfX12 t0 rfl mfX12_isPosition lk_X12_295 (kX12_isPosition t0 hc3) ⟨Nat.le_of_ble_eq_true rfl, Nat.le_of_ble_eq_true rfl⟩ rfl hl.1 rfl (Nat.le_of_ble_eq_true rfl) ⟨Nat.zero_le _, Nat.zero_le _⟩ dX12_matches_11) (fun H locs hT => ?_)
    refine lv_if_ne (tgt := 19) hx hb dX12_matches_14 (by decide) (fun c4 => ?_) (fun c4 => ?_)
    · rw [if_neg c4] at h
      refine lv_aload_n hx hb dX12_matches_19 rfl (lv_at hl 0 rfl) ?_
      refine lv_iload_n hx hb dX12_matches_20 rfl (lv_at hl 1 rfl) ?_
      refine lv_aload_n hx hb dX12_matches_21 rfl (lv_at hl 0 rfl) ?_
      refine js_gR C hT cfX12 t0 4 (by decide) (q := 20) rfl (by decide) lk_X12_22 dX12_matches_22 (fun t5a => ?_)
      refine lv_bipush (v := 96) hx hb dX12_matches_25 (by decide) ?_
      refine lv_iload_n hx hb dX12_matches_27 rfl (lv_at hl 2 rfl) ?_
      refine lv_imul hx hb dX12_matches_28 ?_
      refine lv_iconst (v := 1) hx hb dX12_matches_29 (by decide) ?_
      refine lv_iadd hx hb dX12_matches_30 ?_
      refine lv_iload_n hx hb dX12_matches_31 rfl (lv_at hl 3 rfl) ?_
      refine lv_iadd hx hb dX12_matches_32 ?_
      obtain ⟨r6, σ6, hc6, h⟩ := bd_some h
      refine js_backI hT (js_runV C hT cfX12 t0 rfl mfX12_isMatch lk_X12_138 (kX12_isMatch t0 t5a hc6) ⟨Nat.le_of_ble_eq_true rfl, Nat.le_of_ble_eq_true rfl⟩ rfl hl.1 rfl (Nat.le_of_ble_eq_true rfl) ⟨Nat.zero_le _, Nat.zero_le _⟩ dX12_matches_33) (fun H locs hT => ?_)
      refine lv_if_eq (tgt := 43) hx hb dX12_matches_36 (by decide) (fun c7 => ?_) (fun c7 => ?_)
      · rw [if_pos c7] at h
        refine lv_iconst (v := 0) hx hb dX12_matches_43 (by decide) ?_
        obtain ⟨rfl, rfl⟩ := js_rt h
        exact js_iret C hT hr hk dX12_matches_44
      · rw [if_neg c7] at h
        refine lv_iconst (v := 1) hx hb dX12_matches_39 (by decide) ?_
        refine lv_goto (tgt := 44) hx hb dX12_matches_40 (by decide) ?_
        obtain ⟨rfl, rfl⟩ := js_rt h
        exact js_iret C hT hr hk dX12_matches_44
    · rw [if_pos c4] at h
      refine lv_iconst (v := (-1)) hx hb dX12_matches_17 (by decide) ?_
      obtain ⟨rfl, rfl⟩ := js_rt h
      exact js_iret C hT hr hk dX12_matches_18
set_option maxHeartbeats 4000000 in
set_option maxRecDepth 20000 in
theorem wX12_normalFormRegisterCount_30 (C : js_C D g p m c cX12_normalFormRegisterCount 3 s args RX12) (hr : meth.sig.returnType = (some .int)) (hk : meth.locks = false) (rc4 : Nat → Int32 → Int32 → js_S → Option (Int32 × js_S)) (hrc4 : ∀ (x0 : Nat) (x1 : Int32) (x2 : Int32) (σ : js_S) (r0 : Int32) (σ0 : js_S), rc4 x0 x1 x2 σ = some (r0, σ0) → ob_ nn 12 x0 → js_at p l e 8 s m args below meth c D B g nn 4 3 [(0, .ref (B + x0)), (1, .int x1), (2, .int x2)] [] σ (js_QI D B g nn r0 σ0)) : ∀ (x0 : Nat) (x2 : Int32) (y0 : Int32) (y1 : Int32) (σ : js_S) (r0 : Int32) (σ0 : js_S), fX12_normalFormRegisterCount_30 fu rc4 x0 x2 y0 y1 σ = some (r0, σ0) → ob_ nn 12 x0 → js_at p l e 8 s m args below meth c D B g nn 30 3 [(0, .ref (B + x0)), (2, .int x2)] [.int y0, .int y1] σ (js_QI D B g nn r0 σ0) := by
  obtain ⟨hx, hb, hml, hown, ht, hK, hNw⟩ := id C
  intro x0 x2 y0 y1 σ r0 σ0 h t0 H locs hT ls hl
  unfold fX12_normalFormRegisterCount_30 at h
  refine lv_iadd hx hb dX12_normalFormRegisterCount_30 ?_
  refine lv_istore_n (lv' := [(1, .int (y1 + y0)), (0, .ref (B + x0)), (2, .int x2)]) hx hb dX12_normalFormRegisterCount_31 rfl hl (by decide) rfl (fun ls hl => ?_)
  refine lv_iinc (v := x2 + 1) (lv' := [(2, .int (x2 + 1)), (1, .int (y1 + y0)), (0, .ref (B + x0))]) hx hb dX12_normalFormRegisterCount_32 hl (k := 2) rfl rfl (by decide) rfl (fun ls hl => ?_)
  refine lv_goto (tgt := 4) hx hb dX12_normalFormRegisterCount_35 (by decide) ?_
  exact hrc4 _ _ _ _ _ _ h t0 H locs hT ls (lv_sub hl [2, 1, 0] rfl)
set_option maxHeartbeats 4000000 in
set_option maxRecDepth 20000 in
theorem wX12_normalFormRegisterCount_4b (C : js_C D g p m c cX12_normalFormRegisterCount 3 s args RX12) (hr : meth.sig.returnType = (some .int)) (hk : meth.locks = false) (rc4 : Nat → Int32 → Int32 → js_S → Option (Int32 × js_S)) (hrc4 : ∀ (x0 : Nat) (x1 : Int32) (x2 : Int32) (σ : js_S) (r0 : Int32) (σ0 : js_S), rc4 x0 x1 x2 σ = some (r0, σ0) → ob_ nn 12 x0 → js_at p l e 8 s m args below meth c D B g nn 4 3 [(0, .ref (B + x0)), (1, .int x1), (2, .int x2)] [] σ (js_QI D B g nn r0 σ0)) : ∀ (x0 : Nat) (x1 : Int32) (x2 : Int32) (σ : js_S) (r0 : Int32) (σ0 : js_S), fX12_normalFormRegisterCount_4b fu rc4 x0 x1 x2 σ = some (r0, σ0) → ob_ nn 12 x0 → js_at p l e 8 s m args below meth c D B g nn 4 3 [(0, .ref (B + x0)), (1, .int x1), (2, .int x2)] [] σ (js_QI D B g nn r0 σ0) := by
  obtain ⟨hx, hb, hml, hown, ht, hK, hNw⟩ := id C
  intro x0 x1 x2 σ r0 σ0 h t0 H locs hT ls hl
  unfold fX12_normalFormRegisterCount_4b at h
  refine lv_iload_n hx hb dX12_normalFormRegisterCount_4 rfl (lv_at hl 2 rfl) ?_
  refine lv_iconst (v := 4) hx hb dX12_normalFormRegisterCount_5 (by decide) ?_
  refine lv_icmp_ge (tgt := 38) hx hb dX12_normalFormRegisterCount_6 (by decide) (fun c1 => ?_) (fun c1 => ?_)
  · rw [if_pos c1] at h
    refine lv_iload_n hx hb dX12_normalFormRegisterCount_38 rfl (lv_at hl 1 rfl) ?_
    obtain ⟨rfl, rfl⟩ := js_rt h
    exact js_iret C hT hr hk dX12_normalFormRegisterCount_39
  · rw [if_neg c1] at h
    refine lv_iload_n hx hb dX12_normalFormRegisterCount_9 rfl (lv_at hl 1 rfl) ?_
    refine lv_aload_n hx hb dX12_normalFormRegisterCount_10 rfl (lv_at hl 0 rfl) ?_
    refine lv_aload_n hx hb dX12_normalFormRegisterCount_11 rfl (lv_at hl 0 rfl) ?_
    refine js_gR C hT cfX12 t0 4 (by decide) (q := 20) rfl (by decide) lk_X12_22 dX12_normalFormRegisterCount_12 (fun t2a => ?_)
    refine lv_bipush (v := 96) hx hb dX12_normalFormRegisterCount_15 (by decide) ?_
    refine lv_iload_n hx hb dX12_normalFormRegisterCount_17 rfl (lv_at hl 2 rfl) ?_
    refine lv_imul hx hb dX12_normalFormRegisterCount_18 ?_
    obtain ⟨r3, σ3, hc3, h⟩ := bd_some h
    refine js_backI hT (js_runV C hT cfX12 t0 rfl mfX12_isNormalForm lk_X12_333 (kX12_isNormalForm t0 t2a hc3) ⟨Nat.le_of_ble_eq_true rfl, Nat.le_of_ble_eq_true rfl⟩ rfl hl.1 rfl (Nat.le_of_ble_eq_true rfl) ⟨Nat.zero_le _, Nat.zero_le _⟩ dX12_normalFormRegisterCount_19) (fun H locs hT => ?_)
    refine lv_if_eq (tgt := 29) hx hb dX12_normalFormRegisterCount_22 (by decide) (fun c4 => ?_) (fun c4 => ?_)
    · rw [if_pos c4] at h
      refine lv_iconst (v := 0) hx hb dX12_normalFormRegisterCount_29 (by decide) ?_
      exact wX12_normalFormRegisterCount_30 C hr hk rc4 hrc4 _ _ _ _ _ _ _ h t0 H locs hT ls (lv_sub hl [0, 2] rfl)
    · rw [if_neg c4] at h
      refine lv_iconst (v := 1) hx hb dX12_normalFormRegisterCount_25 (by decide) ?_
      refine lv_goto (tgt := 30) hx hb dX12_normalFormRegisterCount_26 (by decide) ?_
      exact wX12_normalFormRegisterCount_30 C hr hk rc4 hrc4 _ _ _ _ _ _ _ h t0 H locs hT ls (lv_sub hl [0, 2] rfl)
set_option maxHeartbeats 4000000 in
set_option maxRecDepth 20000 in
theorem wX12_normalFormRegisterCount_4 (C : js_C D g p m c cX12_normalFormRegisterCount 3 s args RX12) (hr : meth.sig.returnType = (some .int)) (hk : meth.locks = false) : ∀ (k : Nat), ∀ (x0 : Nat) (x1 : Int32) (x2 : Int32) (σ : js_S) (r0 : Int32) (σ0 : js_S), fX12_normalFormRegisterCount_4 fu k x0 x1 x2 σ = some (r0, σ0) → ob_ nn 12 x0 → js_at p l e 8 s m args below meth c D B g nn 4 3 [(0, .ref (B + x0)), (1, .int x1), (2, .int x2)] [] σ (js_QI D B g nn r0 σ0) := by
  intro k
  induction k with
  | zero =>
    intro x0 x1 x2 σ r0 σ0 h
    cases h
  | succ k ih =>
    intro x0 x1 x2 σ r0 σ0 h
    exact wX12_normalFormRegisterCount_4b C hr hk (fX12_normalFormRegisterCount_4 fu k) ih x0 x1 x2 σ r0 σ0 h
set_option maxHeartbeats 4000000 in
set_option maxRecDepth 20000 in
theorem kX12_normalFormRegisterCount {x0 : Nat} {σ σ0 : js_S} {r0 : Int32} (t0 : ob_ nn 12 x0) (h : fX12_normalFormRegisterCount fu x0 σ = some (r0, σ0)) : js_M l D B g nn yX12_normalFormRegisterCount cX12_normalFormRegisterCount 3 (some .int) 8 [.ref (B + x0)] σ (js_QI D B g nn r0 σ0) := by
  refine js_enter (by decide) (Nat.le_of_ble_eq_true rfl) ?_
  intro p e s m args below meth c C hr hk ls hl hT
  have hl : lv_has ls 3 [(0, .ref (B + x0))] := hl
  obtain ⟨hx, hb, hml, hown, ht, hK, hNw⟩ := id C
  obtain ⟨H, eH⟩ : ∃ H, H = s.heap := ⟨_, rfl⟩
  obtain ⟨locs, eL⟩ : ∃ z : List Loc, z = [] := ⟨_, rfl⟩
  rw [← eH, ← eL]
  rw [← eH, ← eL] at hT
  clear eH eL
  unfold fX12_normalFormRegisterCount at h
  refine lv_iconst (v := 0) hx hb dX12_normalFormRegisterCount_0 (by decide) ?_
  refine lv_istore_n (lv' := [(1, .int 0), (0, .ref (B + x0))]) hx hb dX12_normalFormRegisterCount_1 rfl hl (by decide) rfl (fun ls hl => ?_)
  refine lv_iconst (v := 0) hx hb dX12_normalFormRegisterCount_2 (by decide) ?_
  refine lv_istore_n (lv' := [(2, .int 0), (1, .int 0), (0, .ref (B + x0))]) hx hb dX12_normalFormRegisterCount_3 rfl hl (by decide) rfl (fun ls hl => ?_)
  exact wX12_normalFormRegisterCount_4 C hr hk _ _ _ _ _ _ _ h t0 H locs hT ls (lv_sub hl [2, 1, 0] rfl)
set_option maxHeartbeats 4000000 in
set_option maxRecDepth 20000 in
theorem kX12_pairCount {x0 : Nat} {σ σ0 : js_S} {r0 : Int32} (t0 : ob_ nn 12 x0) (h : fX12_pairCount fu x0 σ = some (r0, σ0)) : js_M l D B g nn yX12_pairCount cX12_pairCount 1 (some .int) 3 [.ref (B + x0)] σ (js_QI D B g nn r0 σ0) := by
  refine js_enter (by decide) (Nat.le_of_ble_eq_true rfl) ?_
  intro p e s m args below meth c C hr hk ls hl hT
  have hl : lv_has ls 1 [(0, .ref (B + x0))] := hl
  obtain ⟨hx, hb, hml, hown, ht, hK, hNw⟩ := id C
  obtain ⟨H, eH⟩ : ∃ H, H = s.heap := ⟨_, rfl⟩
  obtain ⟨locs, eL⟩ : ∃ z : List Loc, z = [] := ⟨_, rfl⟩
  rw [← eH, ← eL]
  rw [← eH, ← eL] at hT
  clear eH eL
  unfold fX12_pairCount at h
  refine lv_aload_n hx hb dX12_pairCount_0 rfl (lv_at hl 0 rfl) ?_
  obtain ⟨r1, σ1, hc1, h⟩ := bd_some h
  refine js_backI hT (js_runV C hT cfX12 t0 rfl mfX12_findPairs lk_X12_185 (kX12_findPairs t0 hc1) ⟨Nat.le_of_ble_eq_true rfl, Nat.le_of_ble_eq_true rfl⟩ rfl hl.1 rfl (Nat.le_of_ble_eq_true rfl) ⟨Nat.zero_le _, Nat.zero_le _⟩ dX12_pairCount_1) (fun H locs hT => ?_)
  obtain ⟨rfl, rfl⟩ := js_rt h
  exact js_iret C hT hr hk dX12_pairCount_4
set_option maxHeartbeats 4000000 in
set_option maxRecDepth 20000 in
theorem kX12_pairPosition {x0 : Nat} {x1 : Int32} {σ σ0 : js_S} {r0 : Int32} (t0 : ob_ nn 12 x0) (h : fX12_pairPosition fu x0 x1 σ = some (r0, σ0)) : js_M l D B g nn yX12_pairPosition cX12_pairPosition 2 (some .int) 4 [.ref (B + x0), .int x1] σ (js_QI D B g nn r0 σ0) := by
  refine js_enter (by decide) (Nat.le_of_ble_eq_true rfl) ?_
  intro p e s m args below meth c C hr hk ls hl hT
  have hl : lv_has ls 2 [(0, .ref (B + x0)), (1, .int x1)] := hl
  obtain ⟨hx, hb, hml, hown, ht, hK, hNw⟩ := id C
  obtain ⟨H, eH⟩ : ∃ H, H = s.heap := ⟨_, rfl⟩
  obtain ⟨locs, eL⟩ : ∃ z : List Loc, z = [] := ⟨_, rfl⟩
  rw [← eH, ← eL]
  rw [← eH, ← eL] at hT
  clear eH eL
  unfold fX12_pairPosition at h
  refine lv_aload_n hx hb dX12_pairPosition_0 rfl (lv_at hl 0 rfl) ?_
  refine lv_iload_n hx hb dX12_pairPosition_1 rfl (lv_at hl 1 rfl) ?_
  obtain ⟨r1, σ1, hc1, h⟩ := bd_some h
  refine js_backI hT (js_runV C hT cfX12 t0 rfl mfX12_isPair lk_X12_188 (kX12_isPair t0 hc1) ⟨Nat.le_of_ble_eq_true rfl, Nat.le_of_ble_eq_true rfl⟩ rfl hl.1 rfl (Nat.le_of_ble_eq_true rfl) ⟨Nat.zero_le _, Nat.zero_le _⟩ dX12_pairPosition_2) (fun H locs hT => ?_)
  refine lv_if_eq (tgt := 17) hx hb dX12_pairPosition_5 (by decide) (fun c2 => ?_) (fun c2 => ?_)
  · rw [if_pos c2] at h
    refine lv_iconst (v := (-1)) hx hb dX12_pairPosition_17 (by decide) ?_
    obtain ⟨rfl, rfl⟩ := js_rt h
    exact js_iret C hT hr hk dX12_pairPosition_18
  · rw [if_neg c2] at h
    refine lv_aload_n hx hb dX12_pairPosition_8 rfl (lv_at hl 0 rfl) ?_
    refine js_gR C hT cfX12 t0 18 (by decide) (q := 20) rfl (by decide) lk_X12_49 dX12_pairPosition_9 (fun t3a => ?_)
    refine lv_iload_n hx hb dX12_pairPosition_12 rfl (lv_at hl 1 rfl) ?_
    obtain ⟨g4, h⟩ := gd_some _ h
    refine js_iald C hT t3a g4 dX12_pairPosition_13 ?_
    refine lv_goto (tgt := 18) hx hb dX12_pairPosition_14 (by decide) ?_
    obtain ⟨rfl, rfl⟩ := js_rt h
    exact js_iret C hT hr hk dX12_pairPosition_18
set_option maxHeartbeats 4000000 in
set_option maxRecDepth 20000 in
theorem kX12_pairRule {x0 : Nat} {x1 : Int32} {σ σ0 : js_S} {r0 : Int32} (t0 : ob_ nn 12 x0) (h : fX12_pairRule fu x0 x1 σ = some (r0, σ0)) : js_M l D B g nn yX12_pairRule cX12_pairRule 2 (some .int) 4 [.ref (B + x0), .int x1] σ (js_QI D B g nn r0 σ0) := by
  refine js_enter (by decide) (Nat.le_of_ble_eq_true rfl) ?_
  intro p e s m args below meth c C hr hk ls hl hT
  have hl : lv_has ls 2 [(0, .ref (B + x0)), (1, .int x1)] := hl
  obtain ⟨hx, hb, hml, hown, ht, hK, hNw⟩ := id C
  obtain ⟨H, eH⟩ : ∃ H, H = s.heap := ⟨_, rfl⟩
  obtain ⟨locs, eL⟩ : ∃ z : List Loc, z = [] := ⟨_, rfl⟩
  rw [← eH, ← eL]
  rw [← eH, ← eL] at hT
  clear eH eL
  unfold fX12_pairRule at h
  refine lv_aload_n hx hb dX12_pairRule_0 rfl (lv_at hl 0 rfl) ?_
  refine lv_iload_n hx hb dX12_pairRule_1 rfl (lv_at hl 1 rfl) ?_
  obtain ⟨r1, σ1, hc1, h⟩ := bd_some h
  refine js_backI hT (js_runV C hT cfX12 t0 rfl mfX12_isPair lk_X12_188 (kX12_isPair t0 hc1) ⟨Nat.le_of_ble_eq_true rfl, Nat.le_of_ble_eq_true rfl⟩ rfl hl.1 rfl (Nat.le_of_ble_eq_true rfl) ⟨Nat.zero_le _, Nat.zero_le _⟩ dX12_pairRule_2) (fun H locs hT => ?_)
  refine lv_if_eq (tgt := 17) hx hb dX12_pairRule_5 (by decide) (fun c2 => ?_) (fun c2 => ?_)
  · rw [if_pos c2] at h
    refine lv_iconst (v := (-1)) hx hb dX12_pairRule_17 (by decide) ?_
    obtain ⟨rfl, rfl⟩ := js_rt h
    exact js_iret C hT hr hk dX12_pairRule_18
  · rw [if_neg c2] at h
    refine lv_aload_n hx hb dX12_pairRule_8 rfl (lv_at hl 0 rfl) ?_
    refine js_gR C hT cfX12 t0 17 (by decide) (q := 20) rfl (by decide) lk_X12_46 dX12_pairRule_9 (fun t3a => ?_)
    refine lv_iload_n hx hb dX12_pairRule_12 rfl (lv_at hl 1 rfl) ?_
    obtain ⟨g4, h⟩ := gd_some _ h
    refine js_iald C hT t3a g4 dX12_pairRule_13 ?_
    refine lv_goto (tgt := 18) hx hb dX12_pairRule_14 (by decide) ?_
    obtain ⟨rfl, rfl⟩ := js_rt h
    exact js_iret C hT hr hk dX12_pairRule_18
set_option maxHeartbeats 4000000 in
set_option maxRecDepth 20000 in
theorem wX12_parseTerm_44 (C : js_C D g p m c cX12_parseTerm 3 s args RX12) (hr : meth.sig.returnType = (some .int)) (hk : meth.locks = false) : ∀ (x0 : Nat) (x1 : Int32) (y0 : Int32) (σ : js_S) (r0 : Int32) (σ0 : js_S), fX12_parseTerm_44 fu x0 x1 y0 σ = some (r0, σ0) → ob_ nn 12 x0 → js_at p l e 63 s m args below meth c D B g nn 44 3 [(0, .ref (B + x0)), (1, .int x1)] [.int y0] σ (js_QI D B g nn r0 σ0) := by
  obtain ⟨hx, hb, hml, hown, ht, hK, hNw⟩ := id C
  intro x0 x1 y0 σ r0 σ0 h t0 H locs hT ls hl
  unfold fX12_parseTerm_44 at h
  refine lv_istore_n (lv' := [(2, .int y0), (0, .ref (B + x0)), (1, .int x1)]) hx hb dX12_parseTerm_44 rfl hl (by decide) rfl (fun ls hl => ?_)
  refine lv_aload_n hx hb dX12_parseTerm_45 rfl (lv_at hl 1 rfl) ?_
  refine lv_iconst (v := 0) hx hb dX12_parseTerm_46 (by decide) ?_
  obtain ⟨σ1, e1, h⟩ := lt_some h
  refine js_pI C hT cfX12 t0 15 (by decide) rfl rfl rfl rfl lk_X12_151 dX12_parseTerm_47 (fun H locs hT => ?_)
  rw [e1] at hT
  refine lv_iload_n hx hb dX12_parseTerm_50 rfl (lv_at hl 0 rfl) ?_
  refine lv_if_ne (tgt := 62) hx hb dX12_parseTerm_51 (by decide) (fun c2 => ?_) (fun c2 => ?_)
  · rw [if_neg c2] at h
    refine lv_aload_n hx hb dX12_parseTerm_62 rfl (lv_at hl 1 rfl) ?_
    refine js_gR C hT cfX12 t0 13 (by decide) (q := 20) rfl (by decide) lk_X12_40 dX12_parseTerm_63 (fun t3a => ?_)
    refine lv_iconst (v := 0) hx hb dX12_parseTerm_66 (by decide) ?_
    obtain ⟨g4, h⟩ := gd_some _ h
    refine js_iald C hT t3a g4 dX12_parseTerm_67 ?_
    refine lv_bipush (v := 40) hx hb dX12_parseTerm_68 (by decide) ?_
    refine lv_icmp_le (tgt := 76) hx hb dX12_parseTerm_70 (by decide) (fun c5 => ?_) (fun c5 => ?_)
    · rw [if_pos c5] at h
      refine lv_aload_n hx hb dX12_parseTerm_76 rfl (lv_at hl 1 rfl) ?_
      refine js_gR C hT cfX12 t0 13 (by decide) (q := 20) rfl (by decide) lk_X12_40 dX12_parseTerm_77 (fun t6a => ?_)
      refine lv_iconst (v := 0) hx hb dX12_parseTerm_80 (by decide) ?_
      refine lv_aload_n hx hb dX12_parseTerm_81 rfl (lv_at hl 1 rfl) ?_
      refine js_gR C hT cfX12 t0 4 (by decide) (q := 20) rfl (by decide) lk_X12_22 dX12_parseTerm_82 (fun t7a => ?_)
      refine lv_bipush (v := 96) hx hb dX12_parseTerm_85 (by decide) ?_
      refine lv_iload_n hx hb dX12_parseTerm_87 rfl (lv_at hl 2 rfl) ?_
      refine lv_imul hx hb dX12_parseTerm_88 ?_
      refine lv_bipush (v := 96) hx hb dX12_parseTerm_89 (by decide) ?_
      obtain ⟨z8, σ8, hc8, h⟩ := bd_some h
      refine js_backV hT (js_runS C hT mfX12_copy lk_X12_169 (kX12_copy t6a t7a hc8) ⟨Nat.le_of_ble_eq_true rfl, Nat.le_of_ble_eq_true rfl⟩ rfl hl.1 rfl (Nat.le_of_ble_eq_true rfl) ⟨Nat.zero_le _, Nat.zero_le _⟩ dX12_parseTerm_91) (fun H locs hT => ?_)
      refine lv_aload_n hx hb dX12_parseTerm_94 rfl (lv_at hl 1 rfl) ?_
      refine js_gR C hT cfX12 t0 13 (by decide) (q := 20) rfl (by decide) lk_X12_40 dX12_parseTerm_95 (fun t9a => ?_)
      refine lv_iconst (v := 0) hx hb dX12_parseTerm_98 (by decide) ?_
      obtain ⟨g10, h⟩ := gd_some _ h
      refine js_iald C hT t9a g10 dX12_parseTerm_99 ?_
      obtain ⟨rfl, rfl⟩ := js_rt h
      exact js_iret C hT hr hk dX12_parseTerm_100
    · rw [if_neg c5] at h
      refine lv_bipush (v := (-6)) hx hb dX12_parseTerm_73 (by decide) ?_
      obtain ⟨rfl, rfl⟩ := js_rt h
      exact js_iret C hT hr hk dX12_parseTerm_75
  · rw [if_pos c2] at h
    refine lv_bipush (v := (-100)) hx hb dX12_parseTerm_54 (by decide) ?_
    refine lv_aload_n hx hb dX12_parseTerm_56 rfl (lv_at hl 1 rfl) ?_
    refine js_gI C hT cfX12 t0 16 (by decide) rfl lk_X12_148 dX12_parseTerm_57 ?_
    refine lv_isub hx hb dX12_parseTerm_60 ?_
    obtain ⟨rfl, rfl⟩ := js_rt h
    exact js_iret C hT hr hk dX12_parseTerm_61
set_option maxHeartbeats 4000000 in
set_option maxRecDepth 20000 in
theorem wX12_parseTerm_43 (C : js_C D g p m c cX12_parseTerm 3 s args RX12) (hr : meth.sig.returnType = (some .int)) (hk : meth.locks = false) : ∀ (x0 : Nat) (x1 : Int32) (σ : js_S) (r0 : Int32) (σ0 : js_S), fX12_parseTerm_43 fu x0 x1 σ = some (r0, σ0) → ob_ nn 12 x0 → js_at p l e 63 s m args below meth c D B g nn 43 3 [(0, .ref (B + x0)), (1, .int x1)] [] σ (js_QI D B g nn r0 σ0) := by
  obtain ⟨hx, hb, hml, hown, ht, hK, hNw⟩ := id C
  intro x0 x1 σ r0 σ0 h t0 H locs hT ls hl
  unfold fX12_parseTerm_43 at h
  refine lv_iconst (v := 0) hx hb dX12_parseTerm_43 (by decide) ?_
  exact wX12_parseTerm_44 C hr hk _ _ _ _ _ _ h t0 H locs hT ls (lv_sub hl [0, 1] rfl)
set_option maxHeartbeats 4000000 in
set_option maxRecDepth 20000 in
theorem kX12_parseTerm {x0 : Nat} {x1 : Int32} {σ σ0 : js_S} {r0 : Int32} (t0 : ob_ nn 12 x0) (h : fX12_parseTerm fu x0 x1 σ = some (r0, σ0)) : js_M l D B g nn yX12_parseTerm cX12_parseTerm 3 (some .int) 63 [.ref (B + x0), .int x1] σ (js_QI D B g nn r0 σ0) := by
  refine js_enter (by decide) (Nat.le_of_ble_eq_true rfl) ?_
  intro p e s m args below meth c C hr hk ls hl hT
  have hl : lv_has ls 3 [(0, .ref (B + x0)), (1, .int x1)] := hl
  obtain ⟨hx, hb, hml, hown, ht, hK, hNw⟩ := id C
  obtain ⟨H, eH⟩ : ∃ H, H = s.heap := ⟨_, rfl⟩
  obtain ⟨locs, eL⟩ : ∃ z : List Loc, z = [] := ⟨_, rfl⟩
  rw [← eH, ← eL]
  rw [← eH, ← eL] at hT
  clear eH eL
  unfold fX12_parseTerm at h
  refine lv_iload_n hx hb dX12_parseTerm_0 rfl (lv_at hl 1 rfl) ?_
  obtain ⟨r1, σ1, hc1, h⟩ := bd_some h
  refine js_backI hT (js_runS C hT mfX12_isRegister lk_X12_274 (kX12_isRegister  hc1) ⟨Nat.le_of_ble_eq_true rfl, Nat.le_of_ble_eq_true rfl⟩ rfl hl.1 rfl (Nat.le_of_ble_eq_true rfl) ⟨Nat.zero_le _, Nat.zero_le _⟩ dX12_parseTerm_1) (fun H locs hT => ?_)
  refine lv_if_ne (tgt := 9) hx hb dX12_parseTerm_4 (by decide) (fun c2 => ?_) (fun c2 => ?_)
  · rw [if_neg c2] at h
    refine lv_aload_n hx hb dX12_parseTerm_9 rfl (lv_at hl 0 rfl) ?_
    refine lv_iconst (v := 0) hx hb dX12_parseTerm_10 (by decide) ?_
    obtain ⟨σ3, e3, h⟩ := lt_some h
    refine js_pI C hT cfX12 t0 16 (by decide) rfl rfl rfl rfl lk_X12_148 dX12_parseTerm_11 (fun H locs hT => ?_)
    rw [e3] at hT
    refine lv_aload_n hx hb dX12_parseTerm_14 rfl (lv_at hl 0 rfl) ?_
    refine js_gR C hT cfX12 t0 13 (by decide) (q := 20) rfl (by decide) lk_X12_40 dX12_parseTerm_15 (fun t4a => ?_)
    refine lv_iconst (v := 0) hx hb dX12_parseTerm_18 (by decide) ?_
    refine lv_iconst (v := 0) hx hb dX12_parseTerm_19 (by decide) ?_
    obtain ⟨g5, h⟩ := gd_some _ h
    obtain ⟨σ5, e5, h⟩ := lt_some h
    refine js_iast C hT t4a g5 dX12_parseTerm_20 (fun H locs hT => ?_)
    rw [e5] at hT
    refine lv_aload_n hx hb dX12_parseTerm_21 rfl (lv_at hl 0 rfl) ?_
    obtain ⟨r6, σ6, hc6, h⟩ := bd_some h
    refine js_backI hT (js_runV C hT cfX12 t0 rfl mfX12_parsesTerm lk_X12_161 (kX12_parsesTerm t0 hc6) ⟨Nat.le_of_ble_eq_true rfl, Nat.le_of_ble_eq_true rfl⟩ rfl hl.1 rfl (Nat.le_of_ble_eq_true rfl) ⟨Nat.zero_le _, Nat.zero_le _⟩ dX12_parseTerm_22) (fun H locs hT => ?_)
    refine lv_if_eq (tgt := 43) hx hb dX12_parseTerm_25 (by decide) (fun c7 => ?_) (fun c7 => ?_)
    · rw [if_pos c7] at h
      exact wX12_parseTerm_43 C hr hk _ _ _ _ _ h t0 H locs hT ls (lv_sub hl [0, 1] rfl)
    · rw [if_neg c7] at h
      refine lv_aload_n hx hb dX12_parseTerm_28 rfl (lv_at hl 0 rfl) ?_
      refine js_gI C hT cfX12 t0 16 (by decide) rfl lk_X12_148 dX12_parseTerm_29 ?_
      refine lv_aload_n hx hb dX12_parseTerm_32 rfl (lv_at hl 0 rfl) ?_
      refine js_gI C hT cfX12 t0 15 (by decide) rfl lk_X12_151 dX12_parseTerm_33 ?_
      refine lv_icmp_ne (tgt := 43) hx hb dX12_parseTerm_36 (by decide) (fun c8 => ?_) (fun c8 => ?_)
      · rw [if_neg c8] at h
        exact wX12_parseTerm_43 C hr hk _ _ _ _ _ h t0 H locs hT ls (lv_sub hl [0, 1] rfl)
      · rw [if_pos c8] at h
        refine lv_iconst (v := 1) hx hb dX12_parseTerm_39 (by decide) ?_
        refine lv_goto (tgt := 44) hx hb dX12_parseTerm_40 (by decide) ?_
        exact wX12_parseTerm_44 C hr hk _ _ _ _ _ _ h t0 H locs hT ls (lv_sub hl [0, 1] rfl)
  · rw [if_pos c2] at h
    refine lv_iconst (v := (-1)) hx hb dX12_parseTerm_7 (by decide) ?_
    obtain ⟨rfl, rfl⟩ := js_rt h
    exact js_iret C hT hr hk dX12_parseTerm_8
set_option maxHeartbeats 4000000 in
set_option maxRecDepth 20000 in
theorem kX12_projection {x0 : Nat} {x1 : Int32} {σ σ0 : js_S} {r0 : Int32} (t0 : ob_ nn 12 x0) (h : fX12_projection fu x0 x1 σ = some (r0, σ0)) : js_M l D B g nn yX12_projection cX12_projection 2 (some .int) 128 [.ref (B + x0), .int x1] σ (js_QI D B g nn r0 σ0) := by
  refine js_enter (by decide) (Nat.le_of_ble_eq_true rfl) ?_
  intro p e s m args below meth c C hr hk ls hl hT
  have hl : lv_has ls 2 [(0, .ref (B + x0)), (1, .int x1)] := hl
  obtain ⟨hx, hb, hml, hown, ht, hK, hNw⟩ := id C
  obtain ⟨H, eH⟩ : ∃ H, H = s.heap := ⟨_, rfl⟩
  obtain ⟨locs, eL⟩ : ∃ z : List Loc, z = [] := ⟨_, rfl⟩
  rw [← eH, ← eL]
  rw [← eH, ← eL] at hT
  clear eH eL
  unfold fX12_projection at h
  refine lv_aload_n hx hb dX12_projection_0 rfl (lv_at hl 0 rfl) ?_
  obtain ⟨z1, σ1, hc1, h⟩ := bd_some h
  refine js_backV hT (js_runV C hT cfX12 t0 rfl mfX12_findGraph lk_X12_223 (kX12_findGraph t0 hc1) ⟨Nat.le_of_ble_eq_true rfl, Nat.le_of_ble_eq_true rfl⟩ rfl hl.1 rfl (Nat.le_of_ble_eq_true rfl) ⟨Nat.zero_le _, Nat.zero_le _⟩ dX12_projection_1) (fun H locs hT => ?_)
  refine lv_aload_n hx hb dX12_projection_4 rfl (lv_at hl 0 rfl) ?_
  obtain ⟨z2, σ2, hc2, h⟩ := bd_some h
  refine js_backV hT (js_runV C hT cfX12 t0 rfl mfX12_findComponents lk_X12_226 (kX12_findComponents t0 hc2) ⟨Nat.le_of_ble_eq_true rfl, Nat.le_of_ble_eq_true rfl⟩ rfl hl.1 rfl (Nat.le_of_ble_eq_true rfl) ⟨Nat.zero_le _, Nat.zero_le _⟩ dX12_projection_5) (fun H locs hT => ?_)
  refine lv_iload_n hx hb dX12_projection_8 rfl (lv_at hl 1 rfl) ?_
  refine lv_iconst (v := 0) hx hb dX12_projection_9 (by decide) ?_
  refine lv_aload_n hx hb dX12_projection_10 rfl (lv_at hl 0 rfl) ?_
  refine js_gI C hT cfX12 t0 24 (by decide) rfl lk_X12_220 dX12_projection_11 ?_
  refine lv_iconst (v := 1) hx hb dX12_projection_14 (by decide) ?_
  refine lv_isub hx hb dX12_projection_15 ?_
  obtain ⟨r3, σ3, hc3, h⟩ := bd_some h
  refine js_backI hT (js_runS C hT mfX12_isIn lk_X12_105 (kX12_isIn  hc3) ⟨Nat.le_of_ble_eq_true rfl, Nat.le_of_ble_eq_true rfl⟩ rfl hl.1 rfl (Nat.le_of_ble_eq_true rfl) ⟨Nat.zero_le _, Nat.zero_le _⟩ dX12_projection_16) (fun H locs hT => ?_)
  refine lv_if_eq (tgt := 30) hx hb dX12_projection_19 (by decide) (fun c4 => ?_) (fun c4 => ?_)
  · rw [if_pos c4] at h
    refine lv_iconst (v := (-1)) hx hb dX12_projection_30 (by decide) ?_
    obtain ⟨rfl, rfl⟩ := js_rt h
    exact js_iret C hT hr hk dX12_projection_31
  · rw [if_neg c4] at h
    refine lv_aload_n hx hb dX12_projection_22 rfl (lv_at hl 0 rfl) ?_
    refine lv_iload_n hx hb dX12_projection_23 rfl (lv_at hl 1 rfl) ?_
    obtain ⟨r5, σ5, hc5, h⟩ := bd_some h
    refine js_backI hT (js_runV C hT cfX12 t0 rfl mfX12_findProjection lk_X12_265 (kX12_findProjection t0 hc5) ⟨Nat.le_of_ble_eq_true rfl, Nat.le_of_ble_eq_true rfl⟩ rfl hl.1 rfl (Nat.le_of_ble_eq_true rfl) ⟨Nat.zero_le _, Nat.zero_le _⟩ dX12_projection_24) (fun H locs hT => ?_)
    refine lv_goto (tgt := 31) hx hb dX12_projection_27 (by decide) ?_
    obtain ⟨rfl, rfl⟩ := js_rt h
    exact js_iret C hT hr hk dX12_projection_31
set_option maxHeartbeats 4000000 in
set_option maxRecDepth 20000 in
theorem kX12_redexAt {x0 : Nat} {x1 : Int32} {x2 : Int32} {σ σ0 : js_S} {r0 : Int32} (t0 : ob_ nn 12 x0) (h : fX12_redexAt fu x0 x1 x2 σ = some (r0, σ0)) : js_M l D B g nn yX12_redexAt cX12_redexAt 3 (some .int) 7 [.ref (B + x0), .int x1, .int x2] σ (js_QI D B g nn r0 σ0) := by
  refine js_enter (by decide) (Nat.le_of_ble_eq_true rfl) ?_
  intro p e s m args below meth c C hr hk ls hl hT
  have hl : lv_has ls 3 [(0, .ref (B + x0)), (1, .int x1), (2, .int x2)] := hl
  obtain ⟨hx, hb, hml, hown, ht, hK, hNw⟩ := id C
  obtain ⟨H, eH⟩ : ∃ H, H = s.heap := ⟨_, rfl⟩
  obtain ⟨locs, eL⟩ : ∃ z : List Loc, z = [] := ⟨_, rfl⟩
  rw [← eH, ← eL]
  rw [← eH, ← eL] at hT
  clear eH eL
  unfold fX12_redexAt at h
  refine lv_iload_n hx hb dX12_redexAt_0 rfl (lv_at hl 1 rfl) ?_
  obtain ⟨r1, σ1, hc1, h⟩ := bd_some h
  refine js_backI hT (js_runS C hT mfX12_isRegister lk_X12_274 (kX12_isRegister  hc1) ⟨Nat.le_of_ble_eq_true rfl, Nat.le_of_ble_eq_true rfl⟩ rfl hl.1 rfl (Nat.le_of_ble_eq_true rfl) ⟨Nat.zero_le _, Nat.zero_le _⟩ dX12_redexAt_1) (fun H locs hT => ?_)
  refine lv_if_eq (tgt := 27) hx hb dX12_redexAt_4 (by decide) (fun c2 => ?_) (fun c2 => ?_)
  · rw [if_pos c2] at h
    refine lv_iconst (v := (-1)) hx hb dX12_redexAt_27 (by decide) ?_
    obtain ⟨rfl, rfl⟩ := js_rt h
    exact js_iret C hT hr hk dX12_redexAt_28
  · rw [if_neg c2] at h
    refine lv_iload_n hx hb dX12_redexAt_7 rfl (lv_at hl 2 rfl) ?_
    refine lv_if_lt (tgt := 27) hx hb dX12_redexAt_8 (by decide) (fun c3 => ?_) (fun c3 => ?_)
    · rw [if_pos c3] at h
      refine lv_iconst (v := (-1)) hx hb dX12_redexAt_27 (by decide) ?_
      obtain ⟨rfl, rfl⟩ := js_rt h
      exact js_iret C hT hr hk dX12_redexAt_28
    · rw [if_neg c3] at h
      refine lv_aload_n hx hb dX12_redexAt_11 rfl (lv_at hl 0 rfl) ?_
      refine lv_aload_n hx hb dX12_redexAt_12 rfl (lv_at hl 0 rfl) ?_
      refine js_gR C hT cfX12 t0 4 (by decide) (q := 20) rfl (by decide) lk_X12_22 dX12_redexAt_13 (fun t4a => ?_)
      refine lv_bipush (v := 96) hx hb dX12_redexAt_16 (by decide) ?_
      refine lv_iload_n hx hb dX12_redexAt_18 rfl (lv_at hl 1 rfl) ?_
      refine lv_imul hx hb dX12_redexAt_19 ?_
      refine lv_iload_n hx hb dX12_redexAt_20 rfl (lv_at hl 2 rfl) ?_
      obtain ⟨r5, σ5, hc5, h⟩ := bd_some h
      refine js_backI hT (js_runV C hT cfX12 t0 rfl mfX12_redex lk_X12_298 (kX12_redex t0 t4a hc5) ⟨Nat.le_of_ble_eq_true rfl, Nat.le_of_ble_eq_true rfl⟩ rfl hl.1 rfl (Nat.le_of_ble_eq_true rfl) ⟨Nat.zero_le _, Nat.zero_le _⟩ dX12_redexAt_21) (fun H locs hT => ?_)
      refine lv_goto (tgt := 28) hx hb dX12_redexAt_24 (by decide) ?_
      obtain ⟨rfl, rfl⟩ := js_rt h
      exact js_iret C hT hr hk dX12_redexAt_28
set_option maxHeartbeats 4000000 in
set_option maxRecDepth 20000 in
theorem kX12_redexCount {x0 : Nat} {x1 : Int32} {σ σ0 : js_S} {r0 : Int32} (t0 : ob_ nn 12 x0) (h : fX12_redexCount fu x0 x1 σ = some (r0, σ0)) : js_M l D B g nn yX12_redexCount cX12_redexCount 2 (some .int) 7 [.ref (B + x0), .int x1] σ (js_QI D B g nn r0 σ0) := by
  refine js_enter (by decide) (Nat.le_of_ble_eq_true rfl) ?_
  intro p e s m args below meth c C hr hk ls hl hT
  have hl : lv_has ls 2 [(0, .ref (B + x0)), (1, .int x1)] := hl
  obtain ⟨hx, hb, hml, hown, ht, hK, hNw⟩ := id C
  obtain ⟨H, eH⟩ : ∃ H, H = s.heap := ⟨_, rfl⟩
  obtain ⟨locs, eL⟩ : ∃ z : List Loc, z = [] := ⟨_, rfl⟩
  rw [← eH, ← eL]
  rw [← eH, ← eL] at hT
  clear eH eL
  unfold fX12_redexCount at h
  refine lv_iload_n hx hb dX12_redexCount_0 rfl (lv_at hl 1 rfl) ?_
  obtain ⟨r1, σ1, hc1, h⟩ := bd_some h
  refine js_backI hT (js_runS C hT mfX12_isRegister lk_X12_274 (kX12_isRegister  hc1) ⟨Nat.le_of_ble_eq_true rfl, Nat.le_of_ble_eq_true rfl⟩ rfl hl.1 rfl (Nat.le_of_ble_eq_true rfl) ⟨Nat.zero_le _, Nat.zero_le _⟩ dX12_redexCount_1) (fun H locs hT => ?_)
  refine lv_if_eq (tgt := 23) hx hb dX12_redexCount_4 (by decide) (fun c2 => ?_) (fun c2 => ?_)
  · rw [if_pos c2] at h
    refine lv_iconst (v := (-1)) hx hb dX12_redexCount_23 (by decide) ?_
    obtain ⟨rfl, rfl⟩ := js_rt h
    exact js_iret C hT hr hk dX12_redexCount_24
  · rw [if_neg c2] at h
    refine lv_aload_n hx hb dX12_redexCount_7 rfl (lv_at hl 0 rfl) ?_
    refine lv_aload_n hx hb dX12_redexCount_8 rfl (lv_at hl 0 rfl) ?_
    refine js_gR C hT cfX12 t0 4 (by decide) (q := 20) rfl (by decide) lk_X12_22 dX12_redexCount_9 (fun t3a => ?_)
    refine lv_bipush (v := 96) hx hb dX12_redexCount_12 (by decide) ?_
    refine lv_iload_n hx hb dX12_redexCount_14 rfl (lv_at hl 1 rfl) ?_
    refine lv_imul hx hb dX12_redexCount_15 ?_
    refine lv_iconst (v := (-1)) hx hb dX12_redexCount_16 (by decide) ?_
    obtain ⟨r4, σ4, hc4, h⟩ := bd_some h
    refine js_backI hT (js_runV C hT cfX12 t0 rfl mfX12_redex lk_X12_298 (kX12_redex t0 t3a hc4) ⟨Nat.le_of_ble_eq_true rfl, Nat.le_of_ble_eq_true rfl⟩ rfl hl.1 rfl (Nat.le_of_ble_eq_true rfl) ⟨Nat.zero_le _, Nat.zero_le _⟩ dX12_redexCount_17) (fun H locs hT => ?_)
    refine lv_goto (tgt := 24) hx hb dX12_redexCount_20 (by decide) ?_
    obtain ⟨rfl, rfl⟩ := js_rt h
    exact js_iret C hT hr hk dX12_redexCount_24
set_option maxHeartbeats 4000000 in
set_option maxRecDepth 20000 in
theorem kX12_remainingComponentCount {x0 : Nat} {σ σ0 : js_S} {r0 : Int32} (t0 : ob_ nn 12 x0) (h : fX12_remainingComponentCount fu x0 σ = some (r0, σ0)) : js_M l D B g nn yX12_remainingComponentCount cX12_remainingComponentCount 2 (some .int) 129 [.ref (B + x0)] σ (js_QI D B g nn r0 σ0) := by
  refine js_enter (by decide) (Nat.le_of_ble_eq_true rfl) ?_
  intro p e s m args below meth c C hr hk ls hl hT
  have hl : lv_has ls 2 [(0, .ref (B + x0))] := hl
  obtain ⟨hx, hb, hml, hown, ht, hK, hNw⟩ := id C
  obtain ⟨H, eH⟩ : ∃ H, H = s.heap := ⟨_, rfl⟩
  obtain ⟨locs, eL⟩ : ∃ z : List Loc, z = [] := ⟨_, rfl⟩
  rw [← eH, ← eL]
  rw [← eH, ← eL] at hT
  clear eH eL
  unfold fX12_remainingComponentCount at h
  refine lv_aload_n hx hb dX12_remainingComponentCount_0 rfl (lv_at hl 0 rfl) ?_
  obtain ⟨r1, σ1, hc1, h⟩ := bd_some h
  refine js_backI hT (js_runV C hT cfX12 t0 rfl mfX12_eliminate lk_X12_268 (kX12_eliminate t0 hc1) ⟨Nat.le_of_ble_eq_true rfl, Nat.le_of_ble_eq_true rfl⟩ rfl hl.1 rfl (Nat.le_of_ble_eq_true rfl) ⟨Nat.zero_le _, Nat.zero_le _⟩ dX12_remainingComponentCount_1) (fun H locs hT => ?_)
  refine lv_istore_n (lv' := [(1, .int r1), (0, .ref (B + x0))]) hx hb dX12_remainingComponentCount_4 rfl hl (by decide) rfl (fun ls hl => ?_)
  refine lv_aload_n hx hb dX12_remainingComponentCount_5 rfl (lv_at hl 1 rfl) ?_
  refine js_gI C hT cfX12 t0 24 (by decide) rfl lk_X12_220 dX12_remainingComponentCount_6 ?_
  obtain ⟨rfl, rfl⟩ := js_rt h
  exact js_iret C hT hr hk dX12_remainingComponentCount_9
set_option maxHeartbeats 4000000 in
set_option maxRecDepth 20000 in
theorem wX12_remainingPairCount_32 (C : js_C D g p m c cX12_remainingPairCount 4 s args RX12) (hr : meth.sig.returnType = (some .int)) (hk : meth.locks = false) (rc9 : Nat → Int32 → Int32 → js_S → Option (Int32 × js_S)) (hrc9 : ∀ (x0 : Nat) (x2 : Int32) (x3 : Int32) (σ : js_S) (r0 : Int32) (σ0 : js_S), rc9 x0 x2 x3 σ = some (r0, σ0) → ob_ nn 12 x0 → js_at p l e 129 s m args below meth c D B g nn 9 4 [(0, .ref (B + x0)), (2, .int x2), (3, .int x3)] [] σ (js_QI D B g nn r0 σ0)) : ∀ (x0 : Nat) (x3 : Int32) (y0 : Int32) (y1 : Int32) (σ : js_S) (r0 : Int32) (σ0 : js_S), fX12_remainingPairCount_32 fu rc9 x0 x3 y0 y1 σ = some (r0, σ0) → ob_ nn 12 x0 → js_at p l e 129 s m args below meth c D B g nn 32 4 [(0, .ref (B + x0)), (3, .int x3)] [.int y0, .int y1] σ (js_QI D B g nn r0 σ0) := by
  obtain ⟨hx, hb, hml, hown, ht, hK, hNw⟩ := id C
  intro x0 x3 y0 y1 σ r0 σ0 h t0 H locs hT ls hl
  unfold fX12_remainingPairCount_32 at h
  refine lv_iadd hx hb dX12_remainingPairCount_32 ?_
  refine lv_istore_n (lv' := [(2, .int (y1 + y0)), (0, .ref (B + x0)), (3, .int x3)]) hx hb dX12_remainingPairCount_33 rfl hl (by decide) rfl (fun ls hl => ?_)
  refine lv_iinc (v := x3 + 1) (lv' := [(3, .int (x3 + 1)), (2, .int (y1 + y0)), (0, .ref (B + x0))]) hx hb dX12_remainingPairCount_34 hl (k := 2) rfl rfl (by decide) rfl (fun ls hl => ?_)
  refine lv_goto (tgt := 9) hx hb dX12_remainingPairCount_37 (by decide) ?_
  exact hrc9 _ _ _ _ _ _ h t0 H locs hT ls (lv_sub hl [2, 1, 0] rfl)
set_option maxHeartbeats 4000000 in
set_option maxRecDepth 20000 in
theorem wX12_remainingPairCount_9b (C : js_C D g p m c cX12_remainingPairCount 4 s args RX12) (hr : meth.sig.returnType = (some .int)) (hk : meth.locks = false) (rc9 : Nat → Int32 → Int32 → js_S → Option (Int32 × js_S)) (hrc9 : ∀ (x0 : Nat) (x2 : Int32) (x3 : Int32) (σ : js_S) (r0 : Int32) (σ0 : js_S), rc9 x0 x2 x3 σ = some (r0, σ0) → ob_ nn 12 x0 → js_at p l e 129 s m args below meth c D B g nn 9 4 [(0, .ref (B + x0)), (2, .int x2), (3, .int x3)] [] σ (js_QI D B g nn r0 σ0)) : ∀ (x0 : Nat) (x2 : Int32) (x3 : Int32) (σ : js_S) (r0 : Int32) (σ0 : js_S), fX12_remainingPairCount_9b fu rc9 x0 x2 x3 σ = some (r0, σ0) → ob_ nn 12 x0 → js_at p l e 129 s m args below meth c D B g nn 9 4 [(0, .ref (B + x0)), (2, .int x2), (3, .int x3)] [] σ (js_QI D B g nn r0 σ0) := by
  obtain ⟨hx, hb, hml, hown, ht, hK, hNw⟩ := id C
  intro x0 x2 x3 σ r0 σ0 h t0 H locs hT ls hl
  unfold fX12_remainingPairCount_9b at h
  refine lv_iload_n hx hb dX12_remainingPairCount_9 rfl (lv_at hl 2 rfl) ?_
  refine lv_aload_n hx hb dX12_remainingPairCount_10 rfl (lv_at hl 0 rfl) ?_
  refine js_gI C hT cfX12 t0 23 (by decide) rfl lk_X12_211 dX12_remainingPairCount_11 ?_
  refine lv_icmp_ge (tgt := 40) hx hb dX12_remainingPairCount_14 (by decide) (fun c1 => ?_) (fun c1 => ?_)
  · rw [if_pos c1] at h
    refine lv_iload_n hx hb dX12_remainingPairCount_40 rfl (lv_at hl 1 rfl) ?_
    obtain ⟨rfl, rfl⟩ := js_rt h
    exact js_iret C hT hr hk dX12_remainingPairCount_41
  · rw [if_neg c1] at h
    refine lv_iload_n hx hb dX12_remainingPairCount_17 rfl (lv_at hl 1 rfl) ?_
    refine lv_aload_n hx hb dX12_remainingPairCount_18 rfl (lv_at hl 0 rfl) ?_
    refine js_gR C hT cfX12 t0 22 (by decide) (q := 20) rfl (by decide) lk_X12_63 dX12_remainingPairCount_19 (fun t2a => ?_)
    refine lv_iload_n hx hb dX12_remainingPairCount_22 rfl (lv_at hl 2 rfl) ?_
    obtain ⟨g3, h⟩ := gd_some _ h
    refine js_iald C hT t2a g3 dX12_remainingPairCount_23 ?_
    refine lv_if_lt (tgt := 31) hx hb dX12_remainingPairCount_24 (by decide) (fun c4 => ?_) (fun c4 => ?_)
    · rw [if_pos c4] at h
      refine lv_iconst (v := 0) hx hb dX12_remainingPairCount_31 (by decide) ?_
      exact wX12_remainingPairCount_32 C hr hk rc9 hrc9 _ _ _ _ _ _ _ h t0 H locs hT ls (lv_sub hl [0, 2] rfl)
    · rw [if_neg c4] at h
      refine lv_iconst (v := 1) hx hb dX12_remainingPairCount_27 (by decide) ?_
      refine lv_goto (tgt := 32) hx hb dX12_remainingPairCount_28 (by decide) ?_
      exact wX12_remainingPairCount_32 C hr hk rc9 hrc9 _ _ _ _ _ _ _ h t0 H locs hT ls (lv_sub hl [0, 2] rfl)
set_option maxHeartbeats 4000000 in
set_option maxRecDepth 20000 in
theorem wX12_remainingPairCount_9 (C : js_C D g p m c cX12_remainingPairCount 4 s args RX12) (hr : meth.sig.returnType = (some .int)) (hk : meth.locks = false) : ∀ (k : Nat), ∀ (x0 : Nat) (x2 : Int32) (x3 : Int32) (σ : js_S) (r0 : Int32) (σ0 : js_S), fX12_remainingPairCount_9 fu k x0 x2 x3 σ = some (r0, σ0) → ob_ nn 12 x0 → js_at p l e 129 s m args below meth c D B g nn 9 4 [(0, .ref (B + x0)), (2, .int x2), (3, .int x3)] [] σ (js_QI D B g nn r0 σ0) := by
  intro k
  induction k with
  | zero =>
    intro x0 x2 x3 σ r0 σ0 h
    cases h
  | succ k ih =>
    intro x0 x2 x3 σ r0 σ0 h
    exact wX12_remainingPairCount_9b C hr hk (fX12_remainingPairCount_9 fu k) ih x0 x2 x3 σ r0 σ0 h
set_option maxHeartbeats 4000000 in
set_option maxRecDepth 20000 in
theorem kX12_remainingPairCount {x0 : Nat} {σ σ0 : js_S} {r0 : Int32} (t0 : ob_ nn 12 x0) (h : fX12_remainingPairCount fu x0 σ = some (r0, σ0)) : js_M l D B g nn yX12_remainingPairCount cX12_remainingPairCount 4 (some .int) 129 [.ref (B + x0)] σ (js_QI D B g nn r0 σ0) := by
  refine js_enter (by decide) (Nat.le_of_ble_eq_true rfl) ?_
  intro p e s m args below meth c C hr hk ls hl hT
  have hl : lv_has ls 4 [(0, .ref (B + x0))] := hl
  obtain ⟨hx, hb, hml, hown, ht, hK, hNw⟩ := id C
  obtain ⟨H, eH⟩ : ∃ H, H = s.heap := ⟨_, rfl⟩
  obtain ⟨locs, eL⟩ : ∃ z : List Loc, z = [] := ⟨_, rfl⟩
  rw [← eH, ← eL]
  rw [← eH, ← eL] at hT
  clear eH eL
  unfold fX12_remainingPairCount at h
  refine lv_aload_n hx hb dX12_remainingPairCount_0 rfl (lv_at hl 0 rfl) ?_
  obtain ⟨r1, σ1, hc1, h⟩ := bd_some h
  refine js_backI hT (js_runV C hT cfX12 t0 rfl mfX12_eliminate lk_X12_268 (kX12_eliminate t0 hc1) ⟨Nat.le_of_ble_eq_true rfl, Nat.le_of_ble_eq_true rfl⟩ rfl hl.1 rfl (Nat.le_of_ble_eq_true rfl) ⟨Nat.zero_le _, Nat.zero_le _⟩ dX12_remainingPairCount_1) (fun H locs hT => ?_)
  refine lv_istore_n (lv' := [(1, .int r1), (0, .ref (B + x0))]) hx hb dX12_remainingPairCount_4 rfl hl (by decide) rfl (fun ls hl => ?_)
  refine lv_iconst (v := 0) hx hb dX12_remainingPairCount_5 (by decide) ?_
  refine lv_istore_n (lv' := [(2, .int 0), (1, .int r1), (0, .ref (B + x0))]) hx hb dX12_remainingPairCount_6 rfl hl (by decide) rfl (fun ls hl => ?_)
  refine lv_iconst (v := 0) hx hb dX12_remainingPairCount_7 (by decide) ?_
  refine lv_istore_n (lv' := [(3, .int 0), (2, .int 0), (1, .int r1), (0, .ref (B + x0))]) hx hb dX12_remainingPairCount_8 rfl hl (by decide) rfl (fun ls hl => ?_)
  exact wX12_remainingPairCount_9 C hr hk _ _ _ _ _ _ _ h t0 H locs hT ls (lv_sub hl [3, 1, 0] rfl)
set_option maxHeartbeats 4000000 in
set_option maxRecDepth 20000 in
theorem wX12_removeRule_15b (C : js_C D g p m c cX12_removeRule 3 s args RX12) (hr : meth.sig.returnType = (some .int)) (hk : meth.locks = false) (rc15 : Nat → Int32 → js_S → Option (Int32 × js_S)) (hrc15 : ∀ (x0 : Nat) (x2 : Int32) (σ : js_S) (r0 : Int32) (σ0 : js_S), rc15 x0 x2 σ = some (r0, σ0) → ob_ nn 12 x0 → js_at p l e 2 s m args below meth c D B g nn 15 3 [(0, .ref (B + x0)), (2, .int x2)] [] σ (js_QI D B g nn r0 σ0)) : ∀ (x0 : Nat) (x2 : Int32) (σ : js_S) (r0 : Int32) (σ0 : js_S), fX12_removeRule_15b fu rc15 x0 x2 σ = some (r0, σ0) → ob_ nn 12 x0 → js_at p l e 2 s m args below meth c D B g nn 15 3 [(0, .ref (B + x0)), (2, .int x2)] [] σ (js_QI D B g nn r0 σ0) := by
  obtain ⟨hx, hb, hml, hown, ht, hK, hNw⟩ := id C
  intro x0 x2 σ r0 σ0 h t0 H locs hT ls hl
  unfold fX12_removeRule_15b at h
  refine lv_iload_n hx hb dX12_removeRule_15 rfl (lv_at hl 1 rfl) ?_
  refine lv_aload_n hx hb dX12_removeRule_16 rfl (lv_at hl 0 rfl) ?_
  refine js_gI C hT cfX12 t0 6 (by decide) rfl lk_X12_121 dX12_removeRule_17 ?_
  refine lv_iconst (v := 1) hx hb dX12_removeRule_20 (by decide) ?_
  refine lv_isub hx hb dX12_removeRule_21 ?_
  obtain ⟨r1, σ1, hc1, h⟩ := bd_some h
  refine js_backI hT (js_runS C hT mfX12_left lk_X12_125 (kX12_left  hc1) ⟨Nat.le_of_ble_eq_true rfl, Nat.le_of_ble_eq_true rfl⟩ rfl hl.1 rfl (Nat.le_of_ble_eq_true rfl) ⟨Nat.zero_le _, Nat.zero_le _⟩ dX12_removeRule_22) (fun H locs hT => ?_)
  refine lv_icmp_ge (tgt := 50) hx hb dX12_removeRule_25 (by decide) (fun c2 => ?_) (fun c2 => ?_)
  · rw [if_pos c2] at h
    refine lv_aload_n hx hb dX12_removeRule_50 rfl (lv_at hl 0 rfl) ?_
    refine lv_dup hx hb dX12_removeRule_51 rfl ?_
    refine js_gI C hT cfX12 t0 6 (by decide) rfl lk_X12_121 dX12_removeRule_52 ?_
    refine lv_iconst (v := 1) hx hb dX12_removeRule_55 (by decide) ?_
    refine lv_isub hx hb dX12_removeRule_56 ?_
    obtain ⟨σ3, e3, h⟩ := lt_some h
    refine js_pI C hT cfX12 t0 6 (by decide) rfl rfl rfl rfl lk_X12_121 dX12_removeRule_57 (fun H locs hT => ?_)
    rw [e3] at hT
    refine lv_aload_n hx hb dX12_removeRule_60 rfl (lv_at hl 0 rfl) ?_
    refine js_gI C hT cfX12 t0 6 (by decide) rfl lk_X12_121 dX12_removeRule_61 ?_
    obtain ⟨rfl, rfl⟩ := js_rt h
    exact js_iret C hT hr hk dX12_removeRule_64
  · rw [if_neg c2] at h
    refine lv_aload_n hx hb dX12_removeRule_28 rfl (lv_at hl 0 rfl) ?_
    refine js_gR C hT cfX12 t0 2 (by decide) (q := 20) rfl (by decide) lk_X12_16 dX12_removeRule_29 (fun t4a => ?_)
    refine lv_iload_n hx hb dX12_removeRule_32 rfl (lv_at hl 1 rfl) ?_
    refine lv_aload_n hx hb dX12_removeRule_33 rfl (lv_at hl 0 rfl) ?_
    refine js_gR C hT cfX12 t0 2 (by decide) (q := 20) rfl (by decide) lk_X12_16 dX12_removeRule_34 (fun t5a => ?_)
    refine lv_iload_n hx hb dX12_removeRule_37 rfl (lv_at hl 1 rfl) ?_
    refine lv_sipush (v := 192) hx hb dX12_removeRule_38 (by decide) ?_
    refine lv_iadd hx hb dX12_removeRule_41 ?_
    obtain ⟨g6, h⟩ := gd_some _ h
    refine js_iald C hT t5a g6 dX12_removeRule_42 ?_
    obtain ⟨g7, h⟩ := gd_some _ h
    obtain ⟨σ7, e7, h⟩ := lt_some h
    refine js_iast C hT t4a g7 dX12_removeRule_43 (fun H locs hT => ?_)
    rw [e7] at hT
    refine lv_iinc (v := x2 + 1) (lv' := [(2, .int (x2 + 1)), (0, .ref (B + x0))]) hx hb dX12_removeRule_44 hl (k := 1) rfl rfl (by decide) rfl (fun ls hl => ?_)
    refine lv_goto (tgt := 15) hx hb dX12_removeRule_47 (by decide) ?_
    exact hrc15 _ _ _ _ _ h t0 H locs hT ls (lv_sub hl [1, 0] rfl)
set_option maxHeartbeats 4000000 in
set_option maxRecDepth 20000 in
theorem wX12_removeRule_15 (C : js_C D g p m c cX12_removeRule 3 s args RX12) (hr : meth.sig.returnType = (some .int)) (hk : meth.locks = false) : ∀ (k : Nat), ∀ (x0 : Nat) (x2 : Int32) (σ : js_S) (r0 : Int32) (σ0 : js_S), fX12_removeRule_15 fu k x0 x2 σ = some (r0, σ0) → ob_ nn 12 x0 → js_at p l e 2 s m args below meth c D B g nn 15 3 [(0, .ref (B + x0)), (2, .int x2)] [] σ (js_QI D B g nn r0 σ0) := by
  intro k
  induction k with
  | zero =>
    intro x0 x2 σ r0 σ0 h
    cases h
  | succ k ih =>
    intro x0 x2 σ r0 σ0 h
    exact wX12_removeRule_15b C hr hk (fX12_removeRule_15 fu k) ih x0 x2 σ r0 σ0 h
set_option maxHeartbeats 4000000 in
set_option maxRecDepth 20000 in
theorem kX12_removeRule {x0 : Nat} {x1 : Int32} {σ σ0 : js_S} {r0 : Int32} (t0 : ob_ nn 12 x0) (h : fX12_removeRule fu x0 x1 σ = some (r0, σ0)) : js_M l D B g nn yX12_removeRule cX12_removeRule 3 (some .int) 2 [.ref (B + x0), .int x1] σ (js_QI D B g nn r0 σ0) := by
  refine js_enter (by decide) (Nat.le_of_ble_eq_true rfl) ?_
  intro p e s m args below meth c C hr hk ls hl hT
  have hl : lv_has ls 3 [(0, .ref (B + x0)), (1, .int x1)] := hl
  obtain ⟨hx, hb, hml, hown, ht, hK, hNw⟩ := id C
  obtain ⟨H, eH⟩ : ∃ H, H = s.heap := ⟨_, rfl⟩
  obtain ⟨locs, eL⟩ : ∃ z : List Loc, z = [] := ⟨_, rfl⟩
  rw [← eH, ← eL]
  rw [← eH, ← eL] at hT
  clear eH eL
  unfold fX12_removeRule at h
  refine lv_aload_n hx hb dX12_removeRule_0 rfl (lv_at hl 0 rfl) ?_
  refine lv_iload_n hx hb dX12_removeRule_1 rfl (lv_at hl 1 rfl) ?_
  obtain ⟨r1, σ1, hc1, h⟩ := bd_some h
  refine js_backI hT (js_runV C hT cfX12 t0 rfl mfX12_isRule lk_X12_176 (kX12_isRule t0 hc1) ⟨Nat.le_of_ble_eq_true rfl, Nat.le_of_ble_eq_true rfl⟩ rfl hl.1 rfl (Nat.le_of_ble_eq_true rfl) ⟨Nat.zero_le _, Nat.zero_le _⟩ dX12_removeRule_2) (fun H locs hT => ?_)
  refine lv_if_ne (tgt := 10) hx hb dX12_removeRule_5 (by decide) (fun c2 => ?_) (fun c2 => ?_)
  · rw [if_neg c2] at h
    refine lv_iload_n hx hb dX12_removeRule_10 rfl (lv_at hl 1 rfl) ?_
    obtain ⟨r3, σ3, hc3, h⟩ := bd_some h
    refine js_backI hT (js_runS C hT mfX12_left lk_X12_125 (kX12_left  hc3) ⟨Nat.le_of_ble_eq_true rfl, Nat.le_of_ble_eq_true rfl⟩ rfl hl.1 rfl (Nat.le_of_ble_eq_true rfl) ⟨Nat.zero_le _, Nat.zero_le _⟩ dX12_removeRule_11) (fun H locs hT => ?_)
    refine lv_istore_n (lv' := [(2, .int r3), (0, .ref (B + x0)), (1, .int x1)]) hx hb dX12_removeRule_14 rfl hl (by decide) rfl (fun ls hl => ?_)
    exact wX12_removeRule_15 C hr hk _ _ _ _ _ _ h t0 H locs hT ls (lv_sub hl [1, 0] rfl)
  · rw [if_pos c2] at h
    refine lv_iconst (v := (-1)) hx hb dX12_removeRule_8 (by decide) ?_
    obtain ⟨rfl, rfl⟩ := js_rt h
    exact js_iret C hT hr hk dX12_removeRule_9
set_option maxHeartbeats 4000000 in
set_option maxRecDepth 20000 in
theorem kX12_restoreSnapshot {x0 : Nat} {σ σ0 : js_S} {r0 : Int32} (t0 : ob_ nn 12 x0) (h : fX12_restoreSnapshot fu x0 σ = some (r0, σ0)) : js_M l D B g nn yX12_restoreSnapshot cX12_restoreSnapshot 1 (some .int) 1 [.ref (B + x0)] σ (js_QI D B g nn r0 σ0) := by
  refine js_enter (by decide) (Nat.le_of_ble_eq_true rfl) ?_
  intro p e s m args below meth c C hr hk ls hl hT
  have hl : lv_has ls 1 [(0, .ref (B + x0))] := hl
  obtain ⟨hx, hb, hml, hown, ht, hK, hNw⟩ := id C
  obtain ⟨H, eH⟩ : ∃ H, H = s.heap := ⟨_, rfl⟩
  obtain ⟨locs, eL⟩ : ∃ z : List Loc, z = [] := ⟨_, rfl⟩
  rw [← eH, ← eL]
  rw [← eH, ← eL] at hT
  clear eH eL
  unfold fX12_restoreSnapshot at h
  refine lv_aload_n hx hb dX12_restoreSnapshot_0 rfl (lv_at hl 0 rfl) ?_
  refine js_gI C hT cfX12 t0 8 (by decide) rfl lk_X12_339 dX12_restoreSnapshot_1 ?_
  refine lv_if_ne (tgt := 10) hx hb dX12_restoreSnapshot_4 (by decide) (fun c1 => ?_) (fun c1 => ?_)
  · rw [if_neg c1] at h
    refine lv_aload_n hx hb dX12_restoreSnapshot_10 rfl (lv_at hl 0 rfl) ?_
    refine js_gR C hT cfX12 t0 1 (by decide) (q := 20) rfl (by decide) lk_X12_13 dX12_restoreSnapshot_11 (fun t2a => ?_)
    refine lv_iconst (v := 0) hx hb dX12_restoreSnapshot_14 (by decide) ?_
    refine lv_aload_n hx hb dX12_restoreSnapshot_15 rfl (lv_at hl 0 rfl) ?_
    refine js_gR C hT cfX12 t0 0 (by decide) (q := 20) rfl (by decide) lk_X12_9 dX12_restoreSnapshot_16 (fun t3a => ?_)
    refine lv_iconst (v := 0) hx hb dX12_restoreSnapshot_19 (by decide) ?_
    refine lv_iconst (v := 3) hx hb dX12_restoreSnapshot_20 (by decide) ?_
    obtain ⟨z4, σ4, hc4, h⟩ := bd_some h
    refine js_backV hT (js_runS C hT mfX12_copy lk_X12_169 (kX12_copy t2a t3a hc4) ⟨Nat.le_of_ble_eq_true rfl, Nat.le_of_ble_eq_true rfl⟩ rfl hl.1 rfl (Nat.le_of_ble_eq_true rfl) ⟨Nat.zero_le _, Nat.zero_le _⟩ dX12_restoreSnapshot_21) (fun H locs hT => ?_)
    refine lv_aload_n hx hb dX12_restoreSnapshot_24 rfl (lv_at hl 0 rfl) ?_
    refine js_gR C hT cfX12 t0 3 (by decide) (q := 20) rfl (by decide) lk_X12_19 dX12_restoreSnapshot_25 (fun t5a => ?_)
    refine lv_iconst (v := 0) hx hb dX12_restoreSnapshot_28 (by decide) ?_
    refine lv_aload_n hx hb dX12_restoreSnapshot_29 rfl (lv_at hl 0 rfl) ?_
    refine js_gR C hT cfX12 t0 2 (by decide) (q := 20) rfl (by decide) lk_X12_16 dX12_restoreSnapshot_30 (fun t6a => ?_)
    refine lv_iconst (v := 0) hx hb dX12_restoreSnapshot_33 (by decide) ?_
    refine lv_aload_n hx hb dX12_restoreSnapshot_34 rfl (lv_at hl 0 rfl) ?_
    refine js_gR C hT cfX12 t0 2 (by decide) (q := 20) rfl (by decide) lk_X12_16 dX12_restoreSnapshot_35 (fun t7a => ?_)
    refine js_alen C hT t7a (Or.inl rfl) dX12_restoreSnapshot_38 ?_
    obtain ⟨z8, σ8, hc8, h⟩ := bd_some h
    refine js_backV hT (js_runS C hT mfX12_copy lk_X12_169 (kX12_copy t5a t6a hc8) ⟨Nat.le_of_ble_eq_true rfl, Nat.le_of_ble_eq_true rfl⟩ rfl hl.1 rfl (Nat.le_of_ble_eq_true rfl) ⟨Nat.zero_le _, Nat.zero_le _⟩ dX12_restoreSnapshot_39) (fun H locs hT => ?_)
    refine lv_aload_n hx hb dX12_restoreSnapshot_42 rfl (lv_at hl 0 rfl) ?_
    refine js_gR C hT cfX12 t0 5 (by decide) (q := 20) rfl (by decide) lk_X12_25 dX12_restoreSnapshot_43 (fun t9a => ?_)
    refine lv_iconst (v := 0) hx hb dX12_restoreSnapshot_46 (by decide) ?_
    refine lv_aload_n hx hb dX12_restoreSnapshot_47 rfl (lv_at hl 0 rfl) ?_
    refine js_gR C hT cfX12 t0 4 (by decide) (q := 20) rfl (by decide) lk_X12_22 dX12_restoreSnapshot_48 (fun t10a => ?_)
    refine lv_iconst (v := 0) hx hb dX12_restoreSnapshot_51 (by decide) ?_
    refine lv_aload_n hx hb dX12_restoreSnapshot_52 rfl (lv_at hl 0 rfl) ?_
    refine js_gR C hT cfX12 t0 4 (by decide) (q := 20) rfl (by decide) lk_X12_22 dX12_restoreSnapshot_53 (fun t11a => ?_)
    refine js_alen C hT t11a (Or.inl rfl) dX12_restoreSnapshot_56 ?_
    obtain ⟨z12, σ12, hc12, h⟩ := bd_some h
    refine js_backV hT (js_runS C hT mfX12_copy lk_X12_169 (kX12_copy t9a t10a hc12) ⟨Nat.le_of_ble_eq_true rfl, Nat.le_of_ble_eq_true rfl⟩ rfl hl.1 rfl (Nat.le_of_ble_eq_true rfl) ⟨Nat.zero_le _, Nat.zero_le _⟩ dX12_restoreSnapshot_57) (fun H locs hT => ?_)
    refine lv_aload_n hx hb dX12_restoreSnapshot_60 rfl (lv_at hl 0 rfl) ?_
    refine lv_aload_n hx hb dX12_restoreSnapshot_61 rfl (lv_at hl 0 rfl) ?_
    refine js_gI C hT cfX12 t0 7 (by decide) rfl lk_X12_336 dX12_restoreSnapshot_62 ?_
    obtain ⟨σ13, e13, h⟩ := lt_some h
    refine js_pI C hT cfX12 t0 6 (by decide) rfl rfl rfl rfl lk_X12_121 dX12_restoreSnapshot_65 (fun H locs hT => ?_)
    rw [e13] at hT
    refine lv_aload_n hx hb dX12_restoreSnapshot_68 rfl (lv_at hl 0 rfl) ?_
    refine js_gI C hT cfX12 t0 6 (by decide) rfl lk_X12_121 dX12_restoreSnapshot_69 ?_
    obtain ⟨rfl, rfl⟩ := js_rt h
    exact js_iret C hT hr hk dX12_restoreSnapshot_72
  · rw [if_pos c1] at h
    refine lv_bipush (v := (-3)) hx hb dX12_restoreSnapshot_7 (by decide) ?_
    obtain ⟨rfl, rfl⟩ := js_rt h
    exact js_iret C hT hr hk dX12_restoreSnapshot_9
set_option maxHeartbeats 4000000 in
set_option maxRecDepth 20000 in
theorem kX12_rewriteAt {x0 : Nat} {x1 : Int32} {x2 : Int32} {σ σ0 : js_S} {r0 : Int32} (t0 : ob_ nn 12 x0) (h : fX12_rewriteAt fu x0 x1 x2 σ = some (r0, σ0)) : js_M l D B g nn yX12_rewriteAt cX12_rewriteAt 4 (some .int) 7 [.ref (B + x0), .int x1, .int x2] σ (js_QI D B g nn r0 σ0) := by
  refine js_enter (by decide) (Nat.le_of_ble_eq_true rfl) ?_
  intro p e s m args below meth c C hr hk ls hl hT
  have hl : lv_has ls 4 [(0, .ref (B + x0)), (1, .int x1), (2, .int x2)] := hl
  obtain ⟨hx, hb, hml, hown, ht, hK, hNw⟩ := id C
  obtain ⟨H, eH⟩ : ∃ H, H = s.heap := ⟨_, rfl⟩
  obtain ⟨locs, eL⟩ : ∃ z : List Loc, z = [] := ⟨_, rfl⟩
  rw [← eH, ← eL]
  rw [← eH, ← eL] at hT
  clear eH eL
  unfold fX12_rewriteAt at h
  refine lv_aload_n hx hb dX12_rewriteAt_0 rfl (lv_at hl 0 rfl) ?_
  refine lv_iload_n hx hb dX12_rewriteAt_1 rfl (lv_at hl 1 rfl) ?_
  refine lv_iload_n hx hb dX12_rewriteAt_2 rfl (lv_at hl 2 rfl) ?_
  obtain ⟨r1, σ1, hc1, h⟩ := bd_some h
  refine js_backI hT (js_runV C hT cfX12 t0 rfl mfX12_isPosition lk_X12_295 (kX12_isPosition t0 hc1) ⟨Nat.le_of_ble_eq_true rfl, Nat.le_of_ble_eq_true rfl⟩ rfl hl.1 rfl (Nat.le_of_ble_eq_true rfl) ⟨Nat.zero_le _, Nat.zero_le _⟩ dX12_rewriteAt_3) (fun H locs hT => ?_)
  refine lv_if_ne (tgt := 11) hx hb dX12_rewriteAt_6 (by decide) (fun c2 => ?_) (fun c2 => ?_)
  · rw [if_neg c2] at h
    refine lv_aload_n hx hb dX12_rewriteAt_11 rfl (lv_at hl 0 rfl) ?_
    refine lv_aload_n hx hb dX12_rewriteAt_12 rfl (lv_at hl 0 rfl) ?_
    refine js_gR C hT cfX12 t0 4 (by decide) (q := 20) rfl (by decide) lk_X12_22 dX12_rewriteAt_13 (fun t3a => ?_)
    refine lv_bipush (v := 96) hx hb dX12_rewriteAt_16 (by decide) ?_
    refine lv_iload_n hx hb dX12_rewriteAt_18 rfl (lv_at hl 1 rfl) ?_
    refine lv_imul hx hb dX12_rewriteAt_19 ?_
    refine lv_iload_n hx hb dX12_rewriteAt_20 rfl (lv_at hl 2 rfl) ?_
    obtain ⟨r4, σ4, hc4, h⟩ := bd_some h
    refine js_backI hT (js_runV C hT cfX12 t0 rfl mfX12_rewrite lk_X12_301 (kX12_rewrite t0 t3a hc4) ⟨Nat.le_of_ble_eq_true rfl, Nat.le_of_ble_eq_true rfl⟩ rfl hl.1 rfl (Nat.le_of_ble_eq_true rfl) ⟨Nat.zero_le _, Nat.zero_le _⟩ dX12_rewriteAt_21) (fun H locs hT => ?_)
    refine lv_istore_n (lv' := [(3, .int r4), (0, .ref (B + x0)), (1, .int x1), (2, .int x2)]) hx hb dX12_rewriteAt_24 rfl hl (by decide) rfl (fun ls hl => ?_)
    refine lv_iload_n hx hb dX12_rewriteAt_25 rfl (lv_at hl 0 rfl) ?_
    refine lv_if_le (tgt := 47) hx hb dX12_rewriteAt_26 (by decide) (fun c5 => ?_) (fun c5 => ?_)
    · rw [if_pos c5] at h
      refine lv_iload_n hx hb dX12_rewriteAt_47 rfl (lv_at hl 0 rfl) ?_
      obtain ⟨rfl, rfl⟩ := js_rt h
      exact js_iret C hT hr hk dX12_rewriteAt_48
    · rw [if_neg c5] at h
      refine lv_aload_n hx hb dX12_rewriteAt_29 rfl (lv_at hl 1 rfl) ?_
      refine js_gR C hT cfX12 t0 11 (by decide) (q := 20) rfl (by decide) lk_X12_34 dX12_rewriteAt_30 (fun t6a => ?_)
      refine lv_iconst (v := 0) hx hb dX12_rewriteAt_33 (by decide) ?_
      refine lv_aload_n hx hb dX12_rewriteAt_34 rfl (lv_at hl 1 rfl) ?_
      refine js_gR C hT cfX12 t0 4 (by decide) (q := 20) rfl (by decide) lk_X12_22 dX12_rewriteAt_35 (fun t7a => ?_)
      refine lv_bipush (v := 96) hx hb dX12_rewriteAt_38 (by decide) ?_
      refine lv_iload_n hx hb dX12_rewriteAt_40 rfl (lv_at hl 2 rfl) ?_
      refine lv_imul hx hb dX12_rewriteAt_41 ?_
      refine lv_bipush (v := 96) hx hb dX12_rewriteAt_42 (by decide) ?_
      obtain ⟨z8, σ8, hc8, h⟩ := bd_some h
      refine js_backV hT (js_runS C hT mfX12_copy lk_X12_169 (kX12_copy t6a t7a hc8) ⟨Nat.le_of_ble_eq_true rfl, Nat.le_of_ble_eq_true rfl⟩ rfl hl.1 rfl (Nat.le_of_ble_eq_true rfl) ⟨Nat.zero_le _, Nat.zero_le _⟩ dX12_rewriteAt_44) (fun H locs hT => ?_)
      refine lv_iload_n hx hb dX12_rewriteAt_47 rfl (lv_at hl 0 rfl) ?_
      obtain ⟨rfl, rfl⟩ := js_rt h
      exact js_iret C hT hr hk dX12_rewriteAt_48
  · rw [if_pos c2] at h
    refine lv_iconst (v := (-1)) hx hb dX12_rewriteAt_9 (by decide) ?_
    obtain ⟨rfl, rfl⟩ := js_rt h
    exact js_iret C hT hr hk dX12_rewriteAt_10
set_option maxHeartbeats 4000000 in
set_option maxRecDepth 20000 in
theorem wX12_rewriteOutermost_85 (C : js_C D g p m c cX12_rewriteOutermost 6 s args RX12) (hr : meth.sig.returnType = (some .int)) (hk : meth.locks = false) (rc27 : Nat → Int32 → Int32 → Int32 → Int32 → js_S → Option (Int32 × js_S)) (hrc27 : ∀ (x0 : Nat) (x1 : Int32) (x2 : Int32) (x3 : Int32) (x4 : Int32) (σ : js_S) (r0 : Int32) (σ0 : js_S), rc27 x0 x1 x2 x3 x4 σ = some (r0, σ0) → ob_ nn 12 x0 → js_at p l e 8 s m args below meth c D B g nn 27 6 [(0, .ref (B + x0)), (1, .int x1), (2, .int x2), (3, .int x3), (4, .int x4)] [] σ (js_QI D B g nn r0 σ0)) : ∀ (x0 : Nat) (x1 : Int32) (x2 : Int32) (x4 : Int32) (y0 : Int32) (y1 : Int32) (σ : js_S) (r0 : Int32) (σ0 : js_S), fX12_rewriteOutermost_85 fu rc27 x0 x1 x2 x4 y0 y1 σ = some (r0, σ0) → ob_ nn 12 x0 → js_at p l e 8 s m args below meth c D B g nn 85 6 [(0, .ref (B + x0)), (1, .int x1), (2, .int x2), (4, .int x4)] [.int y0, .int y1] σ (js_QI D B g nn r0 σ0) := by
  obtain ⟨hx, hb, hml, hown, ht, hK, hNw⟩ := id C
  intro x0 x1 x2 x4 y0 y1 σ r0 σ0 h t0 H locs hT ls hl
  unfold fX12_rewriteOutermost_85 at h
  refine lv_iadd hx hb dX12_rewriteOutermost_85 ?_
  refine lv_istore_n (lv' := [(3, .int (y1 + y0)), (0, .ref (B + x0)), (1, .int x1), (2, .int x2), (4, .int x4)]) hx hb dX12_rewriteOutermost_86 rfl hl (by decide) rfl (fun ls hl => ?_)
  refine lv_goto (tgt := 27) hx hb dX12_rewriteOutermost_87 (by decide) ?_
  exact hrc27 _ _ _ _ _ _ _ _ h t0 H locs hT ls (lv_sub hl [1, 2, 3, 0, 4] rfl)
set_option maxHeartbeats 4000000 in
set_option maxRecDepth 20000 in
theorem wX12_rewriteOutermost_72 (C : js_C D g p m c cX12_rewriteOutermost 6 s args RX12) (hr : meth.sig.returnType = (some .int)) (hk : meth.locks = false) (rc27 : Nat → Int32 → Int32 → Int32 → Int32 → js_S → Option (Int32 × js_S)) (hrc27 : ∀ (x0 : Nat) (x1 : Int32) (x2 : Int32) (x3 : Int32) (x4 : Int32) (σ : js_S) (r0 : Int32) (σ0 : js_S), rc27 x0 x1 x2 x3 x4 σ = some (r0, σ0) → ob_ nn 12 x0 → js_at p l e 8 s m args below meth c D B g nn 27 6 [(0, .ref (B + x0)), (1, .int x1), (2, .int x2), (3, .int x3), (4, .int x4)] [] σ (js_QI D B g nn r0 σ0)) : ∀ (x0 : Nat) (x1 : Int32) (x2 : Int32) (x3 : Int32) (y0 : Int32) (σ : js_S) (r0 : Int32) (σ0 : js_S), fX12_rewriteOutermost_72 fu rc27 x0 x1 x2 x3 y0 σ = some (r0, σ0) → ob_ nn 12 x0 → js_at p l e 8 s m args below meth c D B g nn 72 6 [(0, .ref (B + x0)), (1, .int x1), (2, .int x2), (3, .int x3)] [.int y0] σ (js_QI D B g nn r0 σ0) := by
  obtain ⟨hx, hb, hml, hown, ht, hK, hNw⟩ := id C
  intro x0 x1 x2 x3 y0 σ r0 σ0 h t0 H locs hT ls hl
  unfold fX12_rewriteOutermost_72 at h
  refine lv_istore (lv' := [(4, .int y0), (0, .ref (B + x0)), (1, .int x1), (2, .int x2), (3, .int x3)]) hx hb dX12_rewriteOutermost_72 hl (by decide) rfl (fun ls hl => ?_)
  refine lv_iload_n hx hb dX12_rewriteOutermost_74 rfl (lv_at hl 4 rfl) ?_
  refine lv_iload hx hb dX12_rewriteOutermost_75 (lv_at hl 0 rfl) ?_
  refine lv_if_eq (tgt := 84) hx hb dX12_rewriteOutermost_77 (by decide) (fun c1 => ?_) (fun c1 => ?_)
  · rw [if_pos c1] at h
    refine lv_iconst (v := 0) hx hb dX12_rewriteOutermost_84 (by decide) ?_
    exact wX12_rewriteOutermost_85 C hr hk rc27 hrc27 _ _ _ _ _ _ _ _ _ h t0 H locs hT ls (lv_sub hl [1, 2, 3, 0] rfl)
  · rw [if_neg c1] at h
    refine lv_iconst (v := 1) hx hb dX12_rewriteOutermost_80 (by decide) ?_
    refine lv_goto (tgt := 85) hx hb dX12_rewriteOutermost_81 (by decide) ?_
    exact wX12_rewriteOutermost_85 C hr hk rc27 hrc27 _ _ _ _ _ _ _ _ _ h t0 H locs hT ls (lv_sub hl [1, 2, 3, 0] rfl)
set_option maxHeartbeats 4000000 in
set_option maxRecDepth 20000 in
theorem wX12_rewriteOutermost_71 (C : js_C D g p m c cX12_rewriteOutermost 6 s args RX12) (hr : meth.sig.returnType = (some .int)) (hk : meth.locks = false) (rc27 : Nat → Int32 → Int32 → Int32 → Int32 → js_S → Option (Int32 × js_S)) (hrc27 : ∀ (x0 : Nat) (x1 : Int32) (x2 : Int32) (x3 : Int32) (x4 : Int32) (σ : js_S) (r0 : Int32) (σ0 : js_S), rc27 x0 x1 x2 x3 x4 σ = some (r0, σ0) → ob_ nn 12 x0 → js_at p l e 8 s m args below meth c D B g nn 27 6 [(0, .ref (B + x0)), (1, .int x1), (2, .int x2), (3, .int x3), (4, .int x4)] [] σ (js_QI D B g nn r0 σ0)) : ∀ (x0 : Nat) (x1 : Int32) (x2 : Int32) (x3 : Int32) (σ : js_S) (r0 : Int32) (σ0 : js_S), fX12_rewriteOutermost_71 fu rc27 x0 x1 x2 x3 σ = some (r0, σ0) → ob_ nn 12 x0 → js_at p l e 8 s m args below meth c D B g nn 71 6 [(0, .ref (B + x0)), (1, .int x1), (2, .int x2), (3, .int x3)] [] σ (js_QI D B g nn r0 σ0) := by
  obtain ⟨hx, hb, hml, hown, ht, hK, hNw⟩ := id C
  intro x0 x1 x2 x3 σ r0 σ0 h t0 H locs hT ls hl
  unfold fX12_rewriteOutermost_71 at h
  refine lv_iconst (v := 0) hx hb dX12_rewriteOutermost_71 (by decide) ?_
  exact wX12_rewriteOutermost_72 C hr hk rc27 hrc27 _ _ _ _ _ _ _ _ h t0 H locs hT ls (lv_sub hl [0, 1, 2, 3] rfl)
set_option maxHeartbeats 4000000 in
set_option maxRecDepth 20000 in
theorem wX12_rewriteOutermost_27b (C : js_C D g p m c cX12_rewriteOutermost 6 s args RX12) (hr : meth.sig.returnType = (some .int)) (hk : meth.locks = false) (rc27 : Nat → Int32 → Int32 → Int32 → Int32 → js_S → Option (Int32 × js_S)) (hrc27 : ∀ (x0 : Nat) (x1 : Int32) (x2 : Int32) (x3 : Int32) (x4 : Int32) (σ : js_S) (r0 : Int32) (σ0 : js_S), rc27 x0 x1 x2 x3 x4 σ = some (r0, σ0) → ob_ nn 12 x0 → js_at p l e 8 s m args below meth c D B g nn 27 6 [(0, .ref (B + x0)), (1, .int x1), (2, .int x2), (3, .int x3), (4, .int x4)] [] σ (js_QI D B g nn r0 σ0)) : ∀ (x0 : Nat) (x1 : Int32) (x2 : Int32) (x3 : Int32) (x4 : Int32) (σ : js_S) (r0 : Int32) (σ0 : js_S), fX12_rewriteOutermost_27b fu rc27 x0 x1 x2 x3 x4 σ = some (r0, σ0) → ob_ nn 12 x0 → js_at p l e 8 s m args below meth c D B g nn 27 6 [(0, .ref (B + x0)), (1, .int x1), (2, .int x2), (3, .int x3), (4, .int x4)] [] σ (js_QI D B g nn r0 σ0) := by
  obtain ⟨hx, hb, hml, hown, ht, hK, hNw⟩ := id C
  intro x0 x1 x2 x3 x4 σ r0 σ0 h t0 H locs hT ls hl
  unfold fX12_rewriteOutermost_27b at h
  refine lv_iload hx hb dX12_rewriteOutermost_27 (lv_at hl 4 rfl) ?_
  refine lv_if_eq (tgt := 90) hx hb dX12_rewriteOutermost_29 (by decide) (fun c1 => ?_) (fun c1 => ?_)
  · rw [if_pos c1] at h
    refine lv_iload_n hx hb dX12_rewriteOutermost_90 rfl (lv_at hl 3 rfl) ?_
    obtain ⟨rfl, rfl⟩ := js_rt h
    exact js_iret C hT hr hk dX12_rewriteOutermost_91
  · rw [if_neg c1] at h
    refine lv_iload_n hx hb dX12_rewriteOutermost_32 rfl (lv_at hl 3 rfl) ?_
    refine lv_iload_n hx hb dX12_rewriteOutermost_33 rfl (lv_at hl 2 rfl) ?_
    refine lv_icmp_ge (tgt := 90) hx hb dX12_rewriteOutermost_34 (by decide) (fun c2 => ?_) (fun c2 => ?_)
    · rw [if_pos c2] at h
      refine lv_iload_n hx hb dX12_rewriteOutermost_90 rfl (lv_at hl 3 rfl) ?_
      obtain ⟨rfl, rfl⟩ := js_rt h
      exact js_iret C hT hr hk dX12_rewriteOutermost_91
    · rw [if_neg c2] at h
      refine lv_aload_n hx hb dX12_rewriteOutermost_37 rfl (lv_at hl 0 rfl) ?_
      refine lv_aload_n hx hb dX12_rewriteOutermost_38 rfl (lv_at hl 0 rfl) ?_
      refine js_gR C hT cfX12 t0 4 (by decide) (q := 20) rfl (by decide) lk_X12_22 dX12_rewriteOutermost_39 (fun t3a => ?_)
      refine lv_bipush (v := 96) hx hb dX12_rewriteOutermost_42 (by decide) ?_
      refine lv_iload_n hx hb dX12_rewriteOutermost_44 rfl (lv_at hl 1 rfl) ?_
      refine lv_imul hx hb dX12_rewriteOutermost_45 ?_
      refine lv_iconst (v := 0) hx hb dX12_rewriteOutermost_46 (by decide) ?_
      obtain ⟨r4, σ4, hc4, h⟩ := bd_some h
      refine js_backI hT (js_runV C hT cfX12 t0 rfl mfX12_redex lk_X12_298 (kX12_redex t0 t3a hc4) ⟨Nat.le_of_ble_eq_true rfl, Nat.le_of_ble_eq_true rfl⟩ rfl hl.1 rfl (Nat.le_of_ble_eq_true rfl) ⟨Nat.zero_le _, Nat.zero_le _⟩ dX12_rewriteOutermost_47) (fun H locs hT => ?_)
      refine lv_istore (lv' := [(5, .int r4), (0, .ref (B + x0)), (1, .int x1), (2, .int x2), (3, .int x3), (4, .int x4)]) hx hb dX12_rewriteOutermost_50 hl (by decide) rfl (fun ls hl => ?_)
      refine lv_iload hx hb dX12_rewriteOutermost_52 (lv_at hl 0 rfl) ?_
      refine lv_if_lt (tgt := 71) hx hb dX12_rewriteOutermost_54 (by decide) (fun c5 => ?_) (fun c5 => ?_)
      · rw [if_pos c5] at h
        exact wX12_rewriteOutermost_71 C hr hk rc27 hrc27 _ _ _ _ _ _ _ h t0 H locs hT ls (lv_sub hl [1, 2, 3, 4] rfl)
      · rw [if_neg c5] at h
        refine lv_aload_n hx hb dX12_rewriteOutermost_57 rfl (lv_at hl 1 rfl) ?_
        refine lv_iload_n hx hb dX12_rewriteOutermost_58 rfl (lv_at hl 2 rfl) ?_
        refine lv_iload hx hb dX12_rewriteOutermost_59 (lv_at hl 0 rfl) ?_
        obtain ⟨r6, σ6, hc6, h⟩ := bd_some h
        refine js_backI hT (js_runV C hT cfX12 t0 rfl mfX12_rewriteAt lk_X12_304 (kX12_rewriteAt t0 hc6) ⟨Nat.le_of_ble_eq_true rfl, Nat.le_of_ble_eq_true rfl⟩ rfl hl.1 rfl (Nat.le_of_ble_eq_true rfl) ⟨Nat.zero_le _, Nat.zero_le _⟩ dX12_rewriteOutermost_61) (fun H locs hT => ?_)
        refine lv_if_le (tgt := 71) hx hb dX12_rewriteOutermost_64 (by decide) (fun c7 => ?_) (fun c7 => ?_)
        · rw [if_pos c7] at h
          exact wX12_rewriteOutermost_71 C hr hk rc27 hrc27 _ _ _ _ _ _ _ h t0 H locs hT ls (lv_sub hl [1, 2, 3, 4] rfl)
        · rw [if_neg c7] at h
          refine lv_iconst (v := 1) hx hb dX12_rewriteOutermost_67 (by decide) ?_
          refine lv_goto (tgt := 72) hx hb dX12_rewriteOutermost_68 (by decide) ?_
          exact wX12_rewriteOutermost_72 C hr hk rc27 hrc27 _ _ _ _ _ _ _ _ h t0 H locs hT ls (lv_sub hl [1, 2, 3, 4] rfl)
set_option maxHeartbeats 4000000 in
set_option maxRecDepth 20000 in
theorem wX12_rewriteOutermost_27 (C : js_C D g p m c cX12_rewriteOutermost 6 s args RX12) (hr : meth.sig.returnType = (some .int)) (hk : meth.locks = false) : ∀ (k : Nat), ∀ (x0 : Nat) (x1 : Int32) (x2 : Int32) (x3 : Int32) (x4 : Int32) (σ : js_S) (r0 : Int32) (σ0 : js_S), fX12_rewriteOutermost_27 fu k x0 x1 x2 x3 x4 σ = some (r0, σ0) → ob_ nn 12 x0 → js_at p l e 8 s m args below meth c D B g nn 27 6 [(0, .ref (B + x0)), (1, .int x1), (2, .int x2), (3, .int x3), (4, .int x4)] [] σ (js_QI D B g nn r0 σ0) := by
  intro k
  induction k with
  | zero =>
    intro x0 x1 x2 x3 x4 σ r0 σ0 h
    cases h
  | succ k ih =>
    intro x0 x1 x2 x3 x4 σ r0 σ0 h
    exact wX12_rewriteOutermost_27b C hr hk (fX12_rewriteOutermost_27 fu k) ih x0 x1 x2 x3 x4 σ r0 σ0 h
set_option maxHeartbeats 4000000 in
set_option maxRecDepth 20000 in
theorem kX12_rewriteOutermost {x0 : Nat} {x1 : Int32} {x2 : Int32} {σ σ0 : js_S} {r0 : Int32} (t0 : ob_ nn 12 x0) (h : fX12_rewriteOutermost fu x0 x1 x2 σ = some (r0, σ0)) : js_M l D B g nn yX12_rewriteOutermost cX12_rewriteOutermost 6 (some .int) 8 [.ref (B + x0), .int x1, .int x2] σ (js_QI D B g nn r0 σ0) := by
  refine js_enter (by decide) (Nat.le_of_ble_eq_true rfl) ?_
  intro p e s m args below meth c C hr hk ls hl hT
  have hl : lv_has ls 6 [(0, .ref (B + x0)), (1, .int x1), (2, .int x2)] := hl
  obtain ⟨hx, hb, hml, hown, ht, hK, hNw⟩ := id C
  obtain ⟨H, eH⟩ : ∃ H, H = s.heap := ⟨_, rfl⟩
  obtain ⟨locs, eL⟩ : ∃ z : List Loc, z = [] := ⟨_, rfl⟩
  rw [← eH, ← eL]
  rw [← eH, ← eL] at hT
  clear eH eL
  unfold fX12_rewriteOutermost at h
  refine lv_iload_n hx hb dX12_rewriteOutermost_0 rfl (lv_at hl 1 rfl) ?_
  obtain ⟨r1, σ1, hc1, h⟩ := bd_some h
  refine js_backI hT (js_runS C hT mfX12_isRegister lk_X12_274 (kX12_isRegister  hc1) ⟨Nat.le_of_ble_eq_true rfl, Nat.le_of_ble_eq_true rfl⟩ rfl hl.1 rfl (Nat.le_of_ble_eq_true rfl) ⟨Nat.zero_le _, Nat.zero_le _⟩ dX12_rewriteOutermost_1) (fun H locs hT => ?_)
  refine lv_if_ne (tgt := 9) hx hb dX12_rewriteOutermost_4 (by decide) (fun c2 => ?_) (fun c2 => ?_)
  · rw [if_neg c2] at h
    refine lv_iload_n hx hb dX12_rewriteOutermost_9 rfl (lv_at hl 2 rfl) ?_
    refine lv_iconst (v := 0) hx hb dX12_rewriteOutermost_10 (by decide) ?_
    refine lv_bipush (v := 100) hx hb dX12_rewriteOutermost_11 (by decide) ?_
    obtain ⟨r3, σ3, hc3, h⟩ := bd_some h
    refine js_backI hT (js_runS C hT mfX12_isIn lk_X12_105 (kX12_isIn  hc3) ⟨Nat.le_of_ble_eq_true rfl, Nat.le_of_ble_eq_true rfl⟩ rfl hl.1 rfl (Nat.le_of_ble_eq_true rfl) ⟨Nat.zero_le _, Nat.zero_le _⟩ dX12_rewriteOutermost_13) (fun H locs hT => ?_)
    refine lv_if_ne (tgt := 22) hx hb dX12_rewriteOutermost_16 (by decide) (fun c4 => ?_) (fun c4 => ?_)
    · rw [if_neg c4] at h
      refine lv_iconst (v := 0) hx hb dX12_rewriteOutermost_22 (by decide) ?_
      refine lv_istore_n (lv' := [(3, .int 0), (0, .ref (B + x0)), (1, .int x1), (2, .int x2)]) hx hb dX12_rewriteOutermost_23 rfl hl (by decide) rfl (fun ls hl => ?_)
      refine lv_iconst (v := 1) hx hb dX12_rewriteOutermost_24 (by decide) ?_
      refine lv_istore (lv' := [(4, .int 1), (3, .int 0), (0, .ref (B + x0)), (1, .int x1), (2, .int x2)]) hx hb dX12_rewriteOutermost_25 hl (by decide) rfl (fun ls hl => ?_)
      exact wX12_rewriteOutermost_27 C hr hk _ _ _ _ _ _ _ _ _ h t0 H locs hT ls (lv_sub hl [2, 3, 4, 1, 0] rfl)
    · rw [if_pos c4] at h
      refine lv_bipush (v := (-2)) hx hb dX12_rewriteOutermost_19 (by decide) ?_
      obtain ⟨rfl, rfl⟩ := js_rt h
      exact js_iret C hT hr hk dX12_rewriteOutermost_21
  · rw [if_pos c2] at h
    refine lv_iconst (v := (-1)) hx hb dX12_rewriteOutermost_7 (by decide) ?_
    obtain ⟨rfl, rfl⟩ := js_rt h
    exact js_iret C hT hr hk dX12_rewriteOutermost_8
set_option maxHeartbeats 4000000 in
set_option maxRecDepth 20000 in
theorem kX12_rightSize {x0 : Nat} {x1 : Int32} {σ σ0 : js_S} {r0 : Int32} (t0 : ob_ nn 12 x0) (h : fX12_rightSize fu x0 x1 σ = some (r0, σ0)) : js_M l D B g nn yX12_rightSize cX12_rightSize 2 (some .int) 2 [.ref (B + x0), .int x1] σ (js_QI D B g nn r0 σ0) := by
  refine js_enter (by decide) (Nat.le_of_ble_eq_true rfl) ?_
  intro p e s m args below meth c C hr hk ls hl hT
  have hl : lv_has ls 2 [(0, .ref (B + x0)), (1, .int x1)] := hl
  obtain ⟨hx, hb, hml, hown, ht, hK, hNw⟩ := id C
  obtain ⟨H, eH⟩ : ∃ H, H = s.heap := ⟨_, rfl⟩
  obtain ⟨locs, eL⟩ : ∃ z : List Loc, z = [] := ⟨_, rfl⟩
  rw [← eH, ← eL]
  rw [← eH, ← eL] at hT
  clear eH eL
  unfold fX12_rightSize at h
  refine lv_aload_n hx hb dX12_rightSize_0 rfl (lv_at hl 0 rfl) ?_
  refine lv_iload_n hx hb dX12_rightSize_1 rfl (lv_at hl 1 rfl) ?_
  obtain ⟨r1, σ1, hc1, h⟩ := bd_some h
  refine js_backI hT (js_runV C hT cfX12 t0 rfl mfX12_isRule lk_X12_176 (kX12_isRule t0 hc1) ⟨Nat.le_of_ble_eq_true rfl, Nat.le_of_ble_eq_true rfl⟩ rfl hl.1 rfl (Nat.le_of_ble_eq_true rfl) ⟨Nat.zero_le _, Nat.zero_le _⟩ dX12_rightSize_2) (fun H locs hT => ?_)
  refine lv_if_eq (tgt := 20) hx hb dX12_rightSize_5 (by decide) (fun c2 => ?_) (fun c2 => ?_)
  · rw [if_pos c2] at h
    refine lv_iconst (v := (-1)) hx hb dX12_rightSize_20 (by decide) ?_
    obtain ⟨rfl, rfl⟩ := js_rt h
    exact js_iret C hT hr hk dX12_rightSize_21
  · rw [if_neg c2] at h
    refine lv_aload_n hx hb dX12_rightSize_8 rfl (lv_at hl 0 rfl) ?_
    refine js_gR C hT cfX12 t0 2 (by decide) (q := 20) rfl (by decide) lk_X12_16 dX12_rightSize_9 (fun t3a => ?_)
    refine lv_iload_n hx hb dX12_rightSize_12 rfl (lv_at hl 1 rfl) ?_
    obtain ⟨r4, σ4, hc4, h⟩ := bd_some h
    refine js_backI hT (js_runS C hT mfX12_right lk_X12_145 (kX12_right  hc4) ⟨Nat.le_of_ble_eq_true rfl, Nat.le_of_ble_eq_true rfl⟩ rfl hl.1 rfl (Nat.le_of_ble_eq_true rfl) ⟨Nat.zero_le _, Nat.zero_le _⟩ dX12_rightSize_13) (fun H locs hT => ?_)
    obtain ⟨g5, h⟩ := gd_some _ h
    refine js_iald C hT t3a g5 dX12_rightSize_16 ?_
    refine lv_goto (tgt := 21) hx hb dX12_rightSize_17 (by decide) ?_
    obtain ⟨rfl, rfl⟩ := js_rt h
    exact js_iret C hT hr hk dX12_rightSize_21
set_option maxHeartbeats 4000000 in
set_option maxRecDepth 20000 in
theorem kX12_ruleCount {x0 : Nat} {σ σ0 : js_S} {r0 : Int32} (t0 : ob_ nn 12 x0) (h : fX12_ruleCount fu x0 σ = some (r0, σ0)) : js_M l D B g nn yX12_ruleCount cX12_ruleCount 1 (some .int) 0 [.ref (B + x0)] σ (js_QI D B g nn r0 σ0) := by
  refine js_enter (by decide) (Nat.le_of_ble_eq_true rfl) ?_
  intro p e s m args below meth c C hr hk ls hl hT
  have hl : lv_has ls 1 [(0, .ref (B + x0))] := hl
  obtain ⟨hx, hb, hml, hown, ht, hK, hNw⟩ := id C
  obtain ⟨H, eH⟩ : ∃ H, H = s.heap := ⟨_, rfl⟩
  obtain ⟨locs, eL⟩ : ∃ z : List Loc, z = [] := ⟨_, rfl⟩
  rw [← eH, ← eL]
  rw [← eH, ← eL] at hT
  clear eH eL
  unfold fX12_ruleCount at h
  refine lv_aload_n hx hb dX12_ruleCount_0 rfl (lv_at hl 0 rfl) ?_
  refine js_gI C hT cfX12 t0 6 (by decide) rfl lk_X12_121 dX12_ruleCount_1 ?_
  obtain ⟨rfl, rfl⟩ := js_rt h
  exact js_iret C hT hr hk dX12_ruleCount_4
set_option maxHeartbeats 4000000 in
set_option maxRecDepth 20000 in
theorem kX12_saveSnapshot {x0 : Nat} {σ σ0 : js_S} {r0 : Int32} (t0 : ob_ nn 12 x0) (h : fX12_saveSnapshot fu x0 σ = some (r0, σ0)) : js_M l D B g nn yX12_saveSnapshot cX12_saveSnapshot 1 (some .int) 1 [.ref (B + x0)] σ (js_QI D B g nn r0 σ0) := by
  refine js_enter (by decide) (Nat.le_of_ble_eq_true rfl) ?_
  intro p e s m args below meth c C hr hk ls hl hT
  have hl : lv_has ls 1 [(0, .ref (B + x0))] := hl
  obtain ⟨hx, hb, hml, hown, ht, hK, hNw⟩ := id C
  obtain ⟨H, eH⟩ : ∃ H, H = s.heap := ⟨_, rfl⟩
  obtain ⟨locs, eL⟩ : ∃ z : List Loc, z = [] := ⟨_, rfl⟩
  rw [← eH, ← eL]
  rw [← eH, ← eL] at hT
  clear eH eL
  unfold fX12_saveSnapshot at h
  refine lv_aload_n hx hb dX12_saveSnapshot_0 rfl (lv_at hl 0 rfl) ?_
  refine js_gR C hT cfX12 t0 0 (by decide) (q := 20) rfl (by decide) lk_X12_9 dX12_saveSnapshot_1 (fun t1a => ?_)
  refine lv_iconst (v := 0) hx hb dX12_saveSnapshot_4 (by decide) ?_
  refine lv_aload_n hx hb dX12_saveSnapshot_5 rfl (lv_at hl 0 rfl) ?_
  refine js_gR C hT cfX12 t0 1 (by decide) (q := 20) rfl (by decide) lk_X12_13 dX12_saveSnapshot_6 (fun t2a => ?_)
  refine lv_iconst (v := 0) hx hb dX12_saveSnapshot_9 (by decide) ?_
  refine lv_iconst (v := 3) hx hb dX12_saveSnapshot_10 (by decide) ?_
  obtain ⟨z3, σ3, hc3, h⟩ := bd_some h
  refine js_backV hT (js_runS C hT mfX12_copy lk_X12_169 (kX12_copy t1a t2a hc3) ⟨Nat.le_of_ble_eq_true rfl, Nat.le_of_ble_eq_true rfl⟩ rfl hl.1 rfl (Nat.le_of_ble_eq_true rfl) ⟨Nat.zero_le _, Nat.zero_le _⟩ dX12_saveSnapshot_11) (fun H locs hT => ?_)
  refine lv_aload_n hx hb dX12_saveSnapshot_14 rfl (lv_at hl 0 rfl) ?_
  refine js_gR C hT cfX12 t0 2 (by decide) (q := 20) rfl (by decide) lk_X12_16 dX12_saveSnapshot_15 (fun t4a => ?_)
  refine lv_iconst (v := 0) hx hb dX12_saveSnapshot_18 (by decide) ?_
  refine lv_aload_n hx hb dX12_saveSnapshot_19 rfl (lv_at hl 0 rfl) ?_
  refine js_gR C hT cfX12 t0 3 (by decide) (q := 20) rfl (by decide) lk_X12_19 dX12_saveSnapshot_20 (fun t5a => ?_)
  refine lv_iconst (v := 0) hx hb dX12_saveSnapshot_23 (by decide) ?_
  refine lv_aload_n hx hb dX12_saveSnapshot_24 rfl (lv_at hl 0 rfl) ?_
  refine js_gR C hT cfX12 t0 2 (by decide) (q := 20) rfl (by decide) lk_X12_16 dX12_saveSnapshot_25 (fun t6a => ?_)
  refine js_alen C hT t6a (Or.inl rfl) dX12_saveSnapshot_28 ?_
  obtain ⟨z7, σ7, hc7, h⟩ := bd_some h
  refine js_backV hT (js_runS C hT mfX12_copy lk_X12_169 (kX12_copy t4a t5a hc7) ⟨Nat.le_of_ble_eq_true rfl, Nat.le_of_ble_eq_true rfl⟩ rfl hl.1 rfl (Nat.le_of_ble_eq_true rfl) ⟨Nat.zero_le _, Nat.zero_le _⟩ dX12_saveSnapshot_29) (fun H locs hT => ?_)
  refine lv_aload_n hx hb dX12_saveSnapshot_32 rfl (lv_at hl 0 rfl) ?_
  refine js_gR C hT cfX12 t0 4 (by decide) (q := 20) rfl (by decide) lk_X12_22 dX12_saveSnapshot_33 (fun t8a => ?_)
  refine lv_iconst (v := 0) hx hb dX12_saveSnapshot_36 (by decide) ?_
  refine lv_aload_n hx hb dX12_saveSnapshot_37 rfl (lv_at hl 0 rfl) ?_
  refine js_gR C hT cfX12 t0 5 (by decide) (q := 20) rfl (by decide) lk_X12_25 dX12_saveSnapshot_38 (fun t9a => ?_)
  refine lv_iconst (v := 0) hx hb dX12_saveSnapshot_41 (by decide) ?_
  refine lv_aload_n hx hb dX12_saveSnapshot_42 rfl (lv_at hl 0 rfl) ?_
  refine js_gR C hT cfX12 t0 4 (by decide) (q := 20) rfl (by decide) lk_X12_22 dX12_saveSnapshot_43 (fun t10a => ?_)
  refine js_alen C hT t10a (Or.inl rfl) dX12_saveSnapshot_46 ?_
  obtain ⟨z11, σ11, hc11, h⟩ := bd_some h
  refine js_backV hT (js_runS C hT mfX12_copy lk_X12_169 (kX12_copy t8a t9a hc11) ⟨Nat.le_of_ble_eq_true rfl, Nat.le_of_ble_eq_true rfl⟩ rfl hl.1 rfl (Nat.le_of_ble_eq_true rfl) ⟨Nat.zero_le _, Nat.zero_le _⟩ dX12_saveSnapshot_47) (fun H locs hT => ?_)
  refine lv_aload_n hx hb dX12_saveSnapshot_50 rfl (lv_at hl 0 rfl) ?_
  refine lv_aload_n hx hb dX12_saveSnapshot_51 rfl (lv_at hl 0 rfl) ?_
  refine js_gI C hT cfX12 t0 6 (by decide) rfl lk_X12_121 dX12_saveSnapshot_52 ?_
  obtain ⟨σ12, e12, h⟩ := lt_some h
  refine js_pI C hT cfX12 t0 7 (by decide) rfl rfl rfl rfl lk_X12_336 dX12_saveSnapshot_55 (fun H locs hT => ?_)
  rw [e12] at hT
  refine lv_aload_n hx hb dX12_saveSnapshot_58 rfl (lv_at hl 0 rfl) ?_
  refine lv_iconst (v := 1) hx hb dX12_saveSnapshot_59 (by decide) ?_
  obtain ⟨σ13, e13, h⟩ := lt_some h
  refine js_pI C hT cfX12 t0 8 (by decide) rfl rfl rfl rfl lk_X12_339 dX12_saveSnapshot_60 (fun H locs hT => ?_)
  rw [e13] at hT
  refine lv_aload_n hx hb dX12_saveSnapshot_63 rfl (lv_at hl 0 rfl) ?_
  refine js_gI C hT cfX12 t0 6 (by decide) rfl lk_X12_121 dX12_saveSnapshot_64 ?_
  obtain ⟨rfl, rfl⟩ := js_rt h
  exact js_iret C hT hr hk dX12_saveSnapshot_67
set_option maxHeartbeats 4000000 in
set_option maxRecDepth 20000 in
theorem kX12_setToZ {x0 : Nat} {x1 : Int32} {σ σ0 : js_S} {r0 : Unit} (t0 : ob_ nn 12 x0) (h : fX12_setToZ fu x0 x1 σ = some (r0, σ0)) : js_M l D B g nn yX12_setToZ cX12_setToZ 2 none 0 [.ref (B + x0), .int x1] σ (js_QV D B g nn σ0) := by
  refine js_enter (by decide) (Nat.le_of_ble_eq_true rfl) ?_
  intro p e s m args below meth c C hr hk ls hl hT
  have hl : lv_has ls 2 [(0, .ref (B + x0)), (1, .int x1)] := hl
  obtain ⟨hx, hb, hml, hown, ht, hK, hNw⟩ := id C
  obtain ⟨H, eH⟩ : ∃ H, H = s.heap := ⟨_, rfl⟩
  obtain ⟨locs, eL⟩ : ∃ z : List Loc, z = [] := ⟨_, rfl⟩
  rw [← eH, ← eL]
  rw [← eH, ← eL] at hT
  clear eH eL
  unfold fX12_setToZ at h
  refine lv_aload_n hx hb dX12_setToZ_0 rfl (lv_at hl 0 rfl) ?_
  refine js_gR C hT cfX12 t0 4 (by decide) (q := 20) rfl (by decide) lk_X12_22 dX12_setToZ_1 (fun t1a => ?_)
  refine lv_bipush (v := 96) hx hb dX12_setToZ_4 (by decide) ?_
  refine lv_iload_n hx hb dX12_setToZ_6 rfl (lv_at hl 1 rfl) ?_
  refine lv_imul hx hb dX12_setToZ_7 ?_
  refine lv_iconst (v := 1) hx hb dX12_setToZ_8 (by decide) ?_
  obtain ⟨g2, h⟩ := gd_some _ h
  obtain ⟨σ2, e2, h⟩ := lt_some h
  refine js_iast C hT t1a g2 dX12_setToZ_9 (fun H locs hT => ?_)
  rw [e2] at hT
  refine lv_aload_n hx hb dX12_setToZ_10 rfl (lv_at hl 0 rfl) ?_
  refine js_gR C hT cfX12 t0 4 (by decide) (q := 20) rfl (by decide) lk_X12_22 dX12_setToZ_11 (fun t3a => ?_)
  refine lv_bipush (v := 96) hx hb dX12_setToZ_14 (by decide) ?_
  refine lv_iload_n hx hb dX12_setToZ_16 rfl (lv_at hl 1 rfl) ?_
  refine lv_imul hx hb dX12_setToZ_17 ?_
  refine lv_iconst (v := 1) hx hb dX12_setToZ_18 (by decide) ?_
  refine lv_iadd hx hb dX12_setToZ_19 ?_
  refine lv_bipush (v := 122) hx hb dX12_setToZ_20 (by decide) ?_
  obtain ⟨g4, h⟩ := gd_some _ h
  obtain ⟨σ4, e4, h⟩ := lt_some h
  refine js_iast C hT t3a g4 dX12_setToZ_22 (fun H locs hT => ?_)
  rw [e4] at hT
  obtain ⟨rfl, rfl⟩ := js_rt h
  exact js_vret C hT hr hk dX12_setToZ_23
set_option maxHeartbeats 4000000 in
set_option maxRecDepth 20000 in
theorem wX12_setArity_124 (C : js_C D g p m c cX12_setArity 7 s args RX12) (hr : meth.sig.returnType = (some .int)) (hk : meth.locks = false) (rc50 : Nat → Int32 → Int32 → Int32 → js_S → Option (Int32 × js_S)) (hrc50 : ∀ (x0 : Nat) (x1 : Int32) (x3 : Int32) (x4 : Int32) (σ : js_S) (r0 : Int32) (σ0 : js_S), rc50 x0 x1 x3 x4 σ = some (r0, σ0) → ob_ nn 12 x0 → js_at p l e 1 s m args below meth c D B g nn 50 7 [(0, .ref (B + x0)), (1, .int x1), (3, .int x3), (4, .int x4)] [] σ (js_QI D B g nn r0 σ0)) : ∀ (x0 : Nat) (x1 : Int32) (x3 : Int32) (x4 : Int32) (σ : js_S) (r0 : Int32) (σ0 : js_S), fX12_setArity_124 fu rc50 x0 x1 x3 x4 σ = some (r0, σ0) → ob_ nn 12 x0 → js_at p l e 1 s m args below meth c D B g nn 124 7 [(0, .ref (B + x0)), (1, .int x1), (3, .int x3), (4, .int x4)] [] σ (js_QI D B g nn r0 σ0) := by
  obtain ⟨hx, hb, hml, hown, ht, hK, hNw⟩ := id C
  intro x0 x1 x3 x4 σ r0 σ0 h t0 H locs hT ls hl
  unfold fX12_setArity_124 at h
  refine lv_iinc (v := x4 + 1) (lv' := [(4, .int (x4 + 1)), (0, .ref (B + x0)), (1, .int x1), (3, .int x3)]) hx hb dX12_setArity_124 hl (k := 3) rfl rfl (by decide) rfl (fun ls hl => ?_)
  refine lv_goto (tgt := 50) hx hb dX12_setArity_127 (by decide) ?_
  exact hrc50 _ _ _ _ _ _ _ h t0 H locs hT ls (lv_sub hl [1, 2, 3, 0] rfl)
set_option maxHeartbeats 4000000 in
set_option maxRecDepth 20000 in
theorem wX12_setArity_104 (C : js_C D g p m c cX12_setArity 7 s args RX12) (hr : meth.sig.returnType = (some .int)) (hk : meth.locks = false) (rc50 : Nat → Int32 → Int32 → Int32 → js_S → Option (Int32 × js_S)) (hrc50 : ∀ (x0 : Nat) (x1 : Int32) (x3 : Int32) (x4 : Int32) (σ : js_S) (r0 : Int32) (σ0 : js_S), rc50 x0 x1 x3 x4 σ = some (r0, σ0) → ob_ nn 12 x0 → js_at p l e 1 s m args below meth c D B g nn 50 7 [(0, .ref (B + x0)), (1, .int x1), (3, .int x3), (4, .int x4)] [] σ (js_QI D B g nn r0 σ0)) (rc62 : Nat → Int32 → Int32 → Int32 → Int32 → Int32 → js_S → Option (Int32 × js_S)) (hrc62 : ∀ (x0 : Nat) (x1 : Int32) (x3 : Int32) (x4 : Int32) (x5 : Int32) (x6 : Int32) (σ : js_S) (r0 : Int32) (σ0 : js_S), rc62 x0 x1 x3 x4 x5 x6 σ = some (r0, σ0) → ob_ nn 12 x0 → js_at p l e 1 s m args below meth c D B g nn 62 7 [(0, .ref (B + x0)), (1, .int x1), (3, .int x3), (4, .int x4), (5, .int x5), (6, .int x6)] [] σ (js_QI D B g nn r0 σ0)) : ∀ (x0 : Nat) (x1 : Int32) (x3 : Int32) (x4 : Int32) (x6 : Int32) (y0 : Int32) (y1 : Int32) (σ : js_S) (r0 : Int32) (σ0 : js_S), fX12_setArity_104 fu rc50 rc62 x0 x1 x3 x4 x6 y0 y1 σ = some (r0, σ0) → ob_ nn 12 x0 → js_at p l e 1 s m args below meth c D B g nn 104 7 [(0, .ref (B + x0)), (1, .int x1), (3, .int x3), (4, .int x4), (6, .int x6)] [.int y0, .int y1] σ (js_QI D B g nn r0 σ0) := by
  obtain ⟨hx, hb, hml, hown, ht, hK, hNw⟩ := id C
  intro x0 x1 x3 x4 x6 y0 y1 σ r0 σ0 h t0 H locs hT ls hl
  unfold fX12_setArity_104 at h
  refine lv_ior hx hb dX12_setArity_104 ?_
  refine lv_istore (lv' := [(5, .int (y1 ||| y0)), (0, .ref (B + x0)), (1, .int x1), (3, .int x3), (4, .int x4), (6, .int x6)]) hx hb dX12_setArity_105 hl (by decide) rfl (fun ls hl => ?_)
  refine lv_iinc (v := x6 + 1) (lv' := [(6, .int (x6 + 1)), (5, .int (y1 ||| y0)), (0, .ref (B + x0)), (1, .int x1), (3, .int x3), (4, .int x4)]) hx hb dX12_setArity_107 hl (k := 5) rfl rfl (by decide) rfl (fun ls hl => ?_)
  refine lv_goto (tgt := 62) hx hb dX12_setArity_110 (by decide) ?_
  exact hrc62 _ _ _ _ _ _ _ _ _ h t0 H locs hT ls (lv_sub hl [2, 3, 4, 5, 1, 0] rfl)
set_option maxHeartbeats 4000000 in
set_option maxRecDepth 20000 in
theorem wX12_setArity_62b (C : js_C D g p m c cX12_setArity 7 s args RX12) (hr : meth.sig.returnType = (some .int)) (hk : meth.locks = false) (rc50 : Nat → Int32 → Int32 → Int32 → js_S → Option (Int32 × js_S)) (hrc50 : ∀ (x0 : Nat) (x1 : Int32) (x3 : Int32) (x4 : Int32) (σ : js_S) (r0 : Int32) (σ0 : js_S), rc50 x0 x1 x3 x4 σ = some (r0, σ0) → ob_ nn 12 x0 → js_at p l e 1 s m args below meth c D B g nn 50 7 [(0, .ref (B + x0)), (1, .int x1), (3, .int x3), (4, .int x4)] [] σ (js_QI D B g nn r0 σ0)) (rc62 : Nat → Int32 → Int32 → Int32 → Int32 → Int32 → js_S → Option (Int32 × js_S)) (hrc62 : ∀ (x0 : Nat) (x1 : Int32) (x3 : Int32) (x4 : Int32) (x5 : Int32) (x6 : Int32) (σ : js_S) (r0 : Int32) (σ0 : js_S), rc62 x0 x1 x3 x4 x5 x6 σ = some (r0, σ0) → ob_ nn 12 x0 → js_at p l e 1 s m args below meth c D B g nn 62 7 [(0, .ref (B + x0)), (1, .int x1), (3, .int x3), (4, .int x4), (5, .int x5), (6, .int x6)] [] σ (js_QI D B g nn r0 σ0)) : ∀ (x0 : Nat) (x1 : Int32) (x3 : Int32) (x4 : Int32) (x5 : Int32) (x6 : Int32) (σ : js_S) (r0 : Int32) (σ0 : js_S), fX12_setArity_62b fu rc50 rc62 x0 x1 x3 x4 x5 x6 σ = some (r0, σ0) → ob_ nn 12 x0 → js_at p l e 1 s m args below meth c D B g nn 62 7 [(0, .ref (B + x0)), (1, .int x1), (3, .int x3), (4, .int x4), (5, .int x5), (6, .int x6)] [] σ (js_QI D B g nn r0 σ0) := by
  obtain ⟨hx, hb, hml, hown, ht, hK, hNw⟩ := id C
  intro x0 x1 x3 x4 x5 x6 σ r0 σ0 h t0 H locs hT ls hl
  unfold fX12_setArity_62b at h
  refine lv_iload hx hb dX12_setArity_62 (lv_at hl 5 rfl) ?_
  refine lv_aload_n hx hb dX12_setArity_64 rfl (lv_at hl 0 rfl) ?_
  refine js_gR C hT cfX12 t0 4 (by decide) (q := 20) rfl (by decide) lk_X12_22 dX12_setArity_65 (fun t1a => ?_)
  refine lv_bipush (v := 96) hx hb dX12_setArity_68 (by decide) ?_
  refine lv_iload hx hb dX12_setArity_70 (lv_at hl 3 rfl) ?_
  refine lv_imul hx hb dX12_setArity_72 ?_
  obtain ⟨g2, h⟩ := gd_some _ h
  refine js_iald C hT t1a g2 dX12_setArity_73 ?_
  refine lv_icmp_gt (tgt := 113) hx hb dX12_setArity_74 (by decide) (fun c3 => ?_) (fun c3 => ?_)
  · rw [if_pos c3] at h
    refine lv_iload hx hb dX12_setArity_113 (lv_at hl 4 rfl) ?_
    refine lv_if_eq (tgt := 124) hx hb dX12_setArity_115 (by decide) (fun c4 => ?_) (fun c4 => ?_)
    · rw [if_pos c4] at h
      exact wX12_setArity_124 C hr hk rc50 hrc50 _ _ _ _ _ _ _ h t0 H locs hT ls (lv_sub hl [0, 1, 2, 3] rfl)
    · rw [if_neg c4] at h
      refine lv_aload_n hx hb dX12_setArity_118 rfl (lv_at hl 0 rfl) ?_
      refine lv_iload hx hb dX12_setArity_119 (lv_at hl 3 rfl) ?_
      obtain ⟨z5, σ5, hc5, h⟩ := bd_some h
      refine js_backV hT (js_runV C hT cfX12 t0 rfl mfX12_setToZ lk_X12_101 (kX12_setToZ t0 hc5) ⟨Nat.le_of_ble_eq_true rfl, Nat.le_of_ble_eq_true rfl⟩ rfl hl.1 rfl (Nat.le_of_ble_eq_true rfl) ⟨Nat.zero_le _, Nat.zero_le _⟩ dX12_setArity_121) (fun H locs hT => ?_)
      exact wX12_setArity_124 C hr hk rc50 hrc50 _ _ _ _ _ _ _ h t0 H locs hT ls (lv_sub hl [0, 1, 2, 3] rfl)
  · rw [if_neg c3] at h
    refine lv_iload hx hb dX12_setArity_77 (lv_at hl 4 rfl) ?_
    refine lv_aload_n hx hb dX12_setArity_79 rfl (lv_at hl 0 rfl) ?_
    refine js_gR C hT cfX12 t0 4 (by decide) (q := 20) rfl (by decide) lk_X12_22 dX12_setArity_80 (fun t6a => ?_)
    refine lv_bipush (v := 96) hx hb dX12_setArity_83 (by decide) ?_
    refine lv_iload hx hb dX12_setArity_85 (lv_at hl 3 rfl) ?_
    refine lv_imul hx hb dX12_setArity_87 ?_
    refine lv_iload hx hb dX12_setArity_88 (lv_at hl 5 rfl) ?_
    refine lv_iadd hx hb dX12_setArity_90 ?_
    obtain ⟨g7, h⟩ := gd_some _ h
    refine js_iald C hT t6a g7 dX12_setArity_91 ?_
    refine lv_bipush (v := 102) hx hb dX12_setArity_92 (by decide) ?_
    refine lv_iload_n hx hb dX12_setArity_94 rfl (lv_at hl 1 rfl) ?_
    refine lv_iadd hx hb dX12_setArity_95 ?_
    refine lv_icmp_ne (tgt := 103) hx hb dX12_setArity_96 (by decide) (fun c8 => ?_) (fun c8 => ?_)
    · rw [if_neg c8] at h
      refine lv_iconst (v := 0) hx hb dX12_setArity_103 (by decide) ?_
      exact wX12_setArity_104 C hr hk rc50 hrc50 rc62 hrc62 _ _ _ _ _ _ _ _ _ _ h t0 H locs hT ls (lv_sub hl [0, 1, 2, 3, 5] rfl)
    · rw [if_pos c8] at h
      refine lv_iconst (v := 1) hx hb dX12_setArity_99 (by decide) ?_
      refine lv_goto (tgt := 104) hx hb dX12_setArity_100 (by decide) ?_
      exact wX12_setArity_104 C hr hk rc50 hrc50 rc62 hrc62 _ _ _ _ _ _ _ _ _ _ h t0 H locs hT ls (lv_sub hl [0, 1, 2, 3, 5] rfl)
set_option maxHeartbeats 4000000 in
set_option maxRecDepth 20000 in
theorem wX12_setArity_62 (C : js_C D g p m c cX12_setArity 7 s args RX12) (hr : meth.sig.returnType = (some .int)) (hk : meth.locks = false) (rc50 : Nat → Int32 → Int32 → Int32 → js_S → Option (Int32 × js_S)) (hrc50 : ∀ (x0 : Nat) (x1 : Int32) (x3 : Int32) (x4 : Int32) (σ : js_S) (r0 : Int32) (σ0 : js_S), rc50 x0 x1 x3 x4 σ = some (r0, σ0) → ob_ nn 12 x0 → js_at p l e 1 s m args below meth c D B g nn 50 7 [(0, .ref (B + x0)), (1, .int x1), (3, .int x3), (4, .int x4)] [] σ (js_QI D B g nn r0 σ0)) : ∀ (k : Nat), ∀ (x0 : Nat) (x1 : Int32) (x3 : Int32) (x4 : Int32) (x5 : Int32) (x6 : Int32) (σ : js_S) (r0 : Int32) (σ0 : js_S), fX12_setArity_62 fu rc50 k x0 x1 x3 x4 x5 x6 σ = some (r0, σ0) → ob_ nn 12 x0 → js_at p l e 1 s m args below meth c D B g nn 62 7 [(0, .ref (B + x0)), (1, .int x1), (3, .int x3), (4, .int x4), (5, .int x5), (6, .int x6)] [] σ (js_QI D B g nn r0 σ0) := by
  intro k
  induction k with
  | zero =>
    intro x0 x1 x3 x4 x5 x6 σ r0 σ0 h
    cases h
  | succ k ih =>
    intro x0 x1 x3 x4 x5 x6 σ r0 σ0 h
    exact wX12_setArity_62b C hr hk rc50 hrc50 (fX12_setArity_62 fu rc50 k) ih x0 x1 x3 x4 x5 x6 σ r0 σ0 h
set_option maxHeartbeats 4000000 in
set_option maxRecDepth 20000 in
theorem wX12_setArity_50b (C : js_C D g p m c cX12_setArity 7 s args RX12) (hr : meth.sig.returnType = (some .int)) (hk : meth.locks = false) (rc50 : Nat → Int32 → Int32 → Int32 → js_S → Option (Int32 × js_S)) (hrc50 : ∀ (x0 : Nat) (x1 : Int32) (x3 : Int32) (x4 : Int32) (σ : js_S) (r0 : Int32) (σ0 : js_S), rc50 x0 x1 x3 x4 σ = some (r0, σ0) → ob_ nn 12 x0 → js_at p l e 1 s m args below meth c D B g nn 50 7 [(0, .ref (B + x0)), (1, .int x1), (3, .int x3), (4, .int x4)] [] σ (js_QI D B g nn r0 σ0)) : ∀ (x0 : Nat) (x1 : Int32) (x3 : Int32) (x4 : Int32) (σ : js_S) (r0 : Int32) (σ0 : js_S), fX12_setArity_50b fu rc50 x0 x1 x3 x4 σ = some (r0, σ0) → ob_ nn 12 x0 → js_at p l e 1 s m args below meth c D B g nn 50 7 [(0, .ref (B + x0)), (1, .int x1), (3, .int x3), (4, .int x4)] [] σ (js_QI D B g nn r0 σ0) := by
  obtain ⟨hx, hb, hml, hown, ht, hK, hNw⟩ := id C
  intro x0 x1 x3 x4 σ r0 σ0 h t0 H locs hT ls hl
  unfold fX12_setArity_50b at h
  refine lv_iload hx hb dX12_setArity_50 (lv_at hl 3 rfl) ?_
  refine lv_iconst (v := 4) hx hb dX12_setArity_52 (by decide) ?_
  refine lv_icmp_ge (tgt := 130) hx hb dX12_setArity_53 (by decide) (fun c1 => ?_) (fun c1 => ?_)
  · rw [if_pos c1] at h
    refine lv_iload_n hx hb dX12_setArity_130 rfl (lv_at hl 2 rfl) ?_
    obtain ⟨rfl, rfl⟩ := js_rt h
    exact js_iret C hT hr hk dX12_setArity_131
  · rw [if_neg c1] at h
    refine lv_iconst (v := 0) hx hb dX12_setArity_56 (by decide) ?_
    refine lv_istore (lv' := [(5, .int 0), (0, .ref (B + x0)), (1, .int x1), (3, .int x3), (4, .int x4)]) hx hb dX12_setArity_57 hl (by decide) rfl (fun ls hl => ?_)
    refine lv_iconst (v := 1) hx hb dX12_setArity_59 (by decide) ?_
    refine lv_istore (lv' := [(6, .int 1), (5, .int 0), (0, .ref (B + x0)), (1, .int x1), (3, .int x3), (4, .int x4)]) hx hb dX12_setArity_60 hl (by decide) rfl (fun ls hl => ?_)
    exact wX12_setArity_62 C hr hk rc50 hrc50 _ _ _ _ _ _ _ _ _ _ h t0 H locs hT ls (lv_sub hl [2, 3, 4, 5, 1, 0] rfl)
set_option maxHeartbeats 4000000 in
set_option maxRecDepth 20000 in
theorem wX12_setArity_50 (C : js_C D g p m c cX12_setArity 7 s args RX12) (hr : meth.sig.returnType = (some .int)) (hk : meth.locks = false) : ∀ (k : Nat), ∀ (x0 : Nat) (x1 : Int32) (x3 : Int32) (x4 : Int32) (σ : js_S) (r0 : Int32) (σ0 : js_S), fX12_setArity_50 fu k x0 x1 x3 x4 σ = some (r0, σ0) → ob_ nn 12 x0 → js_at p l e 1 s m args below meth c D B g nn 50 7 [(0, .ref (B + x0)), (1, .int x1), (3, .int x3), (4, .int x4)] [] σ (js_QI D B g nn r0 σ0) := by
  intro k
  induction k with
  | zero =>
    intro x0 x1 x3 x4 σ r0 σ0 h
    cases h
  | succ k ih =>
    intro x0 x1 x3 x4 σ r0 σ0 h
    exact wX12_setArity_50b C hr hk (fX12_setArity_50 fu k) ih x0 x1 x3 x4 σ r0 σ0 h
set_option maxHeartbeats 4000000 in
set_option maxRecDepth 20000 in
theorem kX12_setArity {x0 : Nat} {x1 : Int32} {x2 : Int32} {σ σ0 : js_S} {r0 : Int32} (t0 : ob_ nn 12 x0) (h : fX12_setArity fu x0 x1 x2 σ = some (r0, σ0)) : js_M l D B g nn yX12_setArity cX12_setArity 7 (some .int) 1 [.ref (B + x0), .int x1, .int x2] σ (js_QI D B g nn r0 σ0) := by
  refine js_enter (by decide) (Nat.le_of_ble_eq_true rfl) ?_
  intro p e s m args below meth c C hr hk ls hl hT
  have hl : lv_has ls 7 [(0, .ref (B + x0)), (1, .int x1), (2, .int x2)] := hl
  obtain ⟨hx, hb, hml, hown, ht, hK, hNw⟩ := id C
  obtain ⟨H, eH⟩ : ∃ H, H = s.heap := ⟨_, rfl⟩
  obtain ⟨locs, eL⟩ : ∃ z : List Loc, z = [] := ⟨_, rfl⟩
  rw [← eH, ← eL]
  rw [← eH, ← eL] at hT
  clear eH eL
  unfold fX12_setArity at h
  refine lv_iload_n hx hb dX12_setArity_0 rfl (lv_at hl 1 rfl) ?_
  refine lv_iconst (v := 0) hx hb dX12_setArity_1 (by decide) ?_
  refine lv_iconst (v := 2) hx hb dX12_setArity_2 (by decide) ?_
  obtain ⟨r1, σ1, hc1, h⟩ := bd_some h
  refine js_backI hT (js_runS C hT mfX12_isIn lk_X12_105 (kX12_isIn  hc1) ⟨Nat.le_of_ble_eq_true rfl, Nat.le_of_ble_eq_true rfl⟩ rfl hl.1 rfl (Nat.le_of_ble_eq_true rfl) ⟨Nat.zero_le _, Nat.zero_le _⟩ dX12_setArity_3) (fun H locs hT => ?_)
  refine lv_if_ne (tgt := 11) hx hb dX12_setArity_6 (by decide) (fun c2 => ?_) (fun c2 => ?_)
  · rw [if_neg c2] at h
    refine lv_iload_n hx hb dX12_setArity_11 rfl (lv_at hl 2 rfl) ?_
    refine lv_iconst (v := 1) hx hb dX12_setArity_12 (by decide) ?_
    refine lv_iconst (v := 3) hx hb dX12_setArity_13 (by decide) ?_
    obtain ⟨r3, σ3, hc3, h⟩ := bd_some h
    refine js_backI hT (js_runS C hT mfX12_isIn lk_X12_105 (kX12_isIn  hc3) ⟨Nat.le_of_ble_eq_true rfl, Nat.le_of_ble_eq_true rfl⟩ rfl hl.1 rfl (Nat.le_of_ble_eq_true rfl) ⟨Nat.zero_le _, Nat.zero_le _⟩ dX12_setArity_14) (fun H locs hT => ?_)
    refine lv_if_ne (tgt := 23) hx hb dX12_setArity_17 (by decide) (fun c4 => ?_) (fun c4 => ?_)
    · rw [if_neg c4] at h
      refine lv_aload_n hx hb dX12_setArity_23 rfl (lv_at hl 0 rfl) ?_
      refine js_gI C hT cfX12 t0 6 (by decide) rfl lk_X12_121 dX12_setArity_24 ?_
      refine lv_if_le (tgt := 33) hx hb dX12_setArity_27 (by decide) (fun c5 => ?_) (fun c5 => ?_)
      · rw [if_pos c5] at h
        refine lv_aload_n hx hb dX12_setArity_33 rfl (lv_at hl 0 rfl) ?_
        refine js_gR C hT cfX12 t0 0 (by decide) (q := 20) rfl (by decide) lk_X12_9 dX12_setArity_34 (fun t6a => ?_)
        refine lv_iload_n hx hb dX12_setArity_37 rfl (lv_at hl 1 rfl) ?_
        obtain ⟨g7, h⟩ := gd_some _ h
        refine js_iald C hT t6a g7 dX12_setArity_38 ?_
        refine lv_istore_n (lv' := [(3, .int (σ3.1 (σ3.2.2 x0 0) (Int32.toNatClampNeg x1))), (0, .ref (B + x0)), (1, .int x1), (2, .int x2)]) hx hb dX12_setArity_39 rfl hl (by decide) rfl (fun ls hl => ?_)
        refine lv_aload_n hx hb dX12_setArity_40 rfl (lv_at hl 1 rfl) ?_
        refine js_gR C hT cfX12 t0 0 (by decide) (q := 20) rfl (by decide) lk_X12_9 dX12_setArity_41 (fun t8a => ?_)
        refine lv_iload_n hx hb dX12_setArity_44 rfl (lv_at hl 2 rfl) ?_
        refine lv_iload_n hx hb dX12_setArity_45 rfl (lv_at hl 3 rfl) ?_
        obtain ⟨g9, h⟩ := gd_some _ h
        obtain ⟨σ9, e9, h⟩ := lt_some h
        refine js_iast C hT t8a g9 dX12_setArity_46 (fun H locs hT => ?_)
        rw [e9] at hT
        refine lv_iconst (v := 0) hx hb dX12_setArity_47 (by decide) ?_
        refine lv_istore (lv' := [(4, .int 0), (3, .int (σ3.1 (σ3.2.2 x0 0) (Int32.toNatClampNeg x1))), (0, .ref (B + x0)), (1, .int x1), (2, .int x2)]) hx hb dX12_setArity_48 hl (by decide) rfl (fun ls hl => ?_)
        exact wX12_setArity_50 C hr hk _ _ _ _ _ _ _ _ h t0 H locs hT ls (lv_sub hl [2, 3, 1, 0] rfl)
      · rw [if_neg c5] at h
        refine lv_bipush (v := (-3)) hx hb dX12_setArity_30 (by decide) ?_
        obtain ⟨rfl, rfl⟩ := js_rt h
        exact js_iret C hT hr hk dX12_setArity_32
    · rw [if_pos c4] at h
      refine lv_bipush (v := (-2)) hx hb dX12_setArity_20 (by decide) ?_
      obtain ⟨rfl, rfl⟩ := js_rt h
      exact js_iret C hT hr hk dX12_setArity_22
  · rw [if_pos c2] at h
    refine lv_iconst (v := (-1)) hx hb dX12_setArity_9 (by decide) ?_
    obtain ⟨rfl, rfl⟩ := js_rt h
    exact js_iret C hT hr hk dX12_setArity_10
set_option maxHeartbeats 4000000 in
set_option maxRecDepth 20000 in
theorem kX12_sizeRelation {x0 : Nat} {x1 : Int32} {x2 : Int32} {x3 : Int32} {σ σ0 : js_S} {r0 : Int32} (t0 : ob_ nn 12 x0) (h : fX12_sizeRelation fu x0 x1 x2 x3 σ = some (r0, σ0)) : js_M l D B g nn yX12_sizeRelation cX12_sizeRelation 4 (some .int) 6 [.ref (B + x0), .int x1, .int x2, .int x3] σ (js_QI D B g nn r0 σ0) := by
  refine js_enter (by decide) (Nat.le_of_ble_eq_true rfl) ?_
  intro p e s m args below meth c C hr hk ls hl hT
  have hl : lv_has ls 4 [(0, .ref (B + x0)), (1, .int x1), (2, .int x2), (3, .int x3)] := hl
  obtain ⟨hx, hb, hml, hown, ht, hK, hNw⟩ := id C
  obtain ⟨H, eH⟩ : ∃ H, H = s.heap := ⟨_, rfl⟩
  obtain ⟨locs, eL⟩ : ∃ z : List Loc, z = [] := ⟨_, rfl⟩
  rw [← eH, ← eL]
  rw [← eH, ← eL] at hT
  clear eH eL
  unfold fX12_sizeRelation at h
  refine lv_aload_n hx hb dX12_sizeRelation_0 rfl (lv_at hl 0 rfl) ?_
  refine lv_iload_n hx hb dX12_sizeRelation_1 rfl (lv_at hl 1 rfl) ?_
  obtain ⟨r1, σ1, hc1, h⟩ := bd_some h
  refine js_backI hT (js_runV C hT cfX12 t0 rfl mfX12_isPair lk_X12_188 (kX12_isPair t0 hc1) ⟨Nat.le_of_ble_eq_true rfl, Nat.le_of_ble_eq_true rfl⟩ rfl hl.1 rfl (Nat.le_of_ble_eq_true rfl) ⟨Nat.zero_le _, Nat.zero_le _⟩ dX12_sizeRelation_2) (fun H locs hT => ?_)
  refine lv_if_eq (tgt := 48) hx hb dX12_sizeRelation_5 (by decide) (fun c2 => ?_) (fun c2 => ?_)
  · rw [if_pos c2] at h
    refine lv_iconst (v := (-1)) hx hb dX12_sizeRelation_48 (by decide) ?_
    obtain ⟨rfl, rfl⟩ := js_rt h
    exact js_iret C hT hr hk dX12_sizeRelation_49
  · rw [if_neg c2] at h
    refine lv_iload_n hx hb dX12_sizeRelation_8 rfl (lv_at hl 2 rfl) ?_
    refine lv_iconst (v := 0) hx hb dX12_sizeRelation_9 (by decide) ?_
    refine lv_aload_n hx hb dX12_sizeRelation_10 rfl (lv_at hl 0 rfl) ?_
    refine js_gR C hT cfX12 t0 0 (by decide) (q := 20) rfl (by decide) lk_X12_9 dX12_sizeRelation_11 (fun t3a => ?_)
    refine lv_aload_n hx hb dX12_sizeRelation_14 rfl (lv_at hl 0 rfl) ?_
    refine lv_iload_n hx hb dX12_sizeRelation_15 rfl (lv_at hl 1 rfl) ?_
    obtain ⟨r4, σ4, hc4, h⟩ := bd_some h
    refine js_backI hT (js_runV C hT cfX12 t0 rfl mfX12_sourceOf lk_X12_191 (kX12_sourceOf t0 hc4) ⟨Nat.le_of_ble_eq_true rfl, Nat.le_of_ble_eq_true rfl⟩ rfl hl.1 rfl (Nat.le_of_ble_eq_true rfl) ⟨Nat.zero_le _, Nat.zero_le _⟩ dX12_sizeRelation_16) (fun H locs hT => ?_)
    obtain ⟨g5, h⟩ := gd_some _ h
    refine js_iald C hT t3a g5 dX12_sizeRelation_19 ?_
    refine lv_iconst (v := 1) hx hb dX12_sizeRelation_20 (by decide) ?_
    refine lv_isub hx hb dX12_sizeRelation_21 ?_
    obtain ⟨r6, σ6, hc6, h⟩ := bd_some h
    refine js_backI hT (js_runS C hT mfX12_isIn lk_X12_105 (kX12_isIn  hc6) ⟨Nat.le_of_ble_eq_true rfl, Nat.le_of_ble_eq_true rfl⟩ rfl hl.1 rfl (Nat.le_of_ble_eq_true rfl) ⟨Nat.zero_le _, Nat.zero_le _⟩ dX12_sizeRelation_22) (fun H locs hT => ?_)
    refine lv_if_eq (tgt := 48) hx hb dX12_sizeRelation_25 (by decide) (fun c7 => ?_) (fun c7 => ?_)
    · rw [if_pos c7] at h
      refine lv_iconst (v := (-1)) hx hb dX12_sizeRelation_48 (by decide) ?_
      obtain ⟨rfl, rfl⟩ := js_rt h
      exact js_iret C hT hr hk dX12_sizeRelation_49
    · rw [if_neg c7] at h
      refine lv_iload_n hx hb dX12_sizeRelation_28 rfl (lv_at hl 3 rfl) ?_
      refine lv_iconst (v := 0) hx hb dX12_sizeRelation_29 (by decide) ?_
      refine lv_aload_n hx hb dX12_sizeRelation_30 rfl (lv_at hl 0 rfl) ?_
      refine js_gR C hT cfX12 t0 0 (by decide) (q := 20) rfl (by decide) lk_X12_9 dX12_sizeRelation_31 (fun t8a => ?_)
      refine lv_aload_n hx hb dX12_sizeRelation_34 rfl (lv_at hl 0 rfl) ?_
      refine lv_iload_n hx hb dX12_sizeRelation_35 rfl (lv_at hl 1 rfl) ?_
      obtain ⟨r9, σ9, hc9, h⟩ := bd_some h
      refine js_backI hT (js_runV C hT cfX12 t0 rfl mfX12_targetOf lk_X12_194 (kX12_targetOf t0 hc9) ⟨Nat.le_of_ble_eq_true rfl, Nat.le_of_ble_eq_true rfl⟩ rfl hl.1 rfl (Nat.le_of_ble_eq_true rfl) ⟨Nat.zero_le _, Nat.zero_le _⟩ dX12_sizeRelation_36) (fun H locs hT => ?_)
      obtain ⟨g10, h⟩ := gd_some _ h
      refine js_iald C hT t8a g10 dX12_sizeRelation_39 ?_
      refine lv_iconst (v := 1) hx hb dX12_sizeRelation_40 (by decide) ?_
      refine lv_isub hx hb dX12_sizeRelation_41 ?_
      obtain ⟨r11, σ11, hc11, h⟩ := bd_some h
      refine js_backI hT (js_runS C hT mfX12_isIn lk_X12_105 (kX12_isIn  hc11) ⟨Nat.le_of_ble_eq_true rfl, Nat.le_of_ble_eq_true rfl⟩ rfl hl.1 rfl (Nat.le_of_ble_eq_true rfl) ⟨Nat.zero_le _, Nat.zero_le _⟩ dX12_sizeRelation_42) (fun H locs hT => ?_)
      refine lv_if_ne (tgt := 50) hx hb dX12_sizeRelation_45 (by decide) (fun c12 => ?_) (fun c12 => ?_)
      · rw [if_neg c12] at h
        refine lv_aload_n hx hb dX12_sizeRelation_50 rfl (lv_at hl 0 rfl) ?_
        refine lv_iload_n hx hb dX12_sizeRelation_51 rfl (lv_at hl 1 rfl) ?_
        refine lv_iload_n hx hb dX12_sizeRelation_52 rfl (lv_at hl 2 rfl) ?_
        refine lv_iload_n hx hb dX12_sizeRelation_53 rfl (lv_at hl 3 rfl) ?_
        obtain ⟨r13, σ13, hc13, h⟩ := bd_some h
        refine js_backI hT (js_runV C hT cfX12 t0 rfl mfX12_relation lk_X12_229 (kX12_relation t0 hc13) ⟨Nat.le_of_ble_eq_true rfl, Nat.le_of_ble_eq_true rfl⟩ rfl hl.1 rfl (Nat.le_of_ble_eq_true rfl) ⟨Nat.zero_le _, Nat.zero_le _⟩ dX12_sizeRelation_54) (fun H locs hT => ?_)
        obtain ⟨rfl, rfl⟩ := js_rt h
        exact js_iret C hT hr hk dX12_sizeRelation_57
      · rw [if_pos c12] at h
        refine lv_iconst (v := (-1)) hx hb dX12_sizeRelation_48 (by decide) ?_
        obtain ⟨rfl, rfl⟩ := js_rt h
        exact js_iret C hT hr hk dX12_sizeRelation_49
set_option maxHeartbeats 4000000 in
set_option maxRecDepth 20000 in
theorem kX12_sourceFunction {x0 : Nat} {x1 : Int32} {σ σ0 : js_S} {r0 : Int32} (t0 : ob_ nn 12 x0) (h : fX12_sourceFunction fu x0 x1 σ = some (r0, σ0)) : js_M l D B g nn yX12_sourceFunction cX12_sourceFunction 2 (some .int) 4 [.ref (B + x0), .int x1] σ (js_QI D B g nn r0 σ0) := by
  refine js_enter (by decide) (Nat.le_of_ble_eq_true rfl) ?_
  intro p e s m args below meth c C hr hk ls hl hT
  have hl : lv_has ls 2 [(0, .ref (B + x0)), (1, .int x1)] := hl
  obtain ⟨hx, hb, hml, hown, ht, hK, hNw⟩ := id C
  obtain ⟨H, eH⟩ : ∃ H, H = s.heap := ⟨_, rfl⟩
  obtain ⟨locs, eL⟩ : ∃ z : List Loc, z = [] := ⟨_, rfl⟩
  rw [← eH, ← eL]
  rw [← eH, ← eL] at hT
  clear eH eL
  unfold fX12_sourceFunction at h
  refine lv_aload_n hx hb dX12_sourceFunction_0 rfl (lv_at hl 0 rfl) ?_
  refine lv_iload_n hx hb dX12_sourceFunction_1 rfl (lv_at hl 1 rfl) ?_
  obtain ⟨r1, σ1, hc1, h⟩ := bd_some h
  refine js_backI hT (js_runV C hT cfX12 t0 rfl mfX12_isPair lk_X12_188 (kX12_isPair t0 hc1) ⟨Nat.le_of_ble_eq_true rfl, Nat.le_of_ble_eq_true rfl⟩ rfl hl.1 rfl (Nat.le_of_ble_eq_true rfl) ⟨Nat.zero_le _, Nat.zero_le _⟩ dX12_sourceFunction_2) (fun H locs hT => ?_)
  refine lv_if_eq (tgt := 16) hx hb dX12_sourceFunction_5 (by decide) (fun c2 => ?_) (fun c2 => ?_)
  · rw [if_pos c2] at h
    refine lv_iconst (v := (-1)) hx hb dX12_sourceFunction_16 (by decide) ?_
    obtain ⟨rfl, rfl⟩ := js_rt h
    exact js_iret C hT hr hk dX12_sourceFunction_17
  · rw [if_neg c2] at h
    refine lv_aload_n hx hb dX12_sourceFunction_8 rfl (lv_at hl 0 rfl) ?_
    refine lv_iload_n hx hb dX12_sourceFunction_9 rfl (lv_at hl 1 rfl) ?_
    obtain ⟨r3, σ3, hc3, h⟩ := bd_some h
    refine js_backI hT (js_runV C hT cfX12 t0 rfl mfX12_sourceOf lk_X12_191 (kX12_sourceOf t0 hc3) ⟨Nat.le_of_ble_eq_true rfl, Nat.le_of_ble_eq_true rfl⟩ rfl hl.1 rfl (Nat.le_of_ble_eq_true rfl) ⟨Nat.zero_le _, Nat.zero_le _⟩ dX12_sourceFunction_10) (fun H locs hT => ?_)
    refine lv_goto (tgt := 17) hx hb dX12_sourceFunction_13 (by decide) ?_
    obtain ⟨rfl, rfl⟩ := js_rt h
    exact js_iret C hT hr hk dX12_sourceFunction_17
set_option maxHeartbeats 4000000 in
set_option maxRecDepth 20000 in
theorem kX12_targetFunction {x0 : Nat} {x1 : Int32} {σ σ0 : js_S} {r0 : Int32} (t0 : ob_ nn 12 x0) (h : fX12_targetFunction fu x0 x1 σ = some (r0, σ0)) : js_M l D B g nn yX12_targetFunction cX12_targetFunction 2 (some .int) 4 [.ref (B + x0), .int x1] σ (js_QI D B g nn r0 σ0) := by
  refine js_enter (by decide) (Nat.le_of_ble_eq_true rfl) ?_
  intro p e s m args below meth c C hr hk ls hl hT
  have hl : lv_has ls 2 [(0, .ref (B + x0)), (1, .int x1)] := hl
  obtain ⟨hx, hb, hml, hown, ht, hK, hNw⟩ := id C
  obtain ⟨H, eH⟩ : ∃ H, H = s.heap := ⟨_, rfl⟩
  obtain ⟨locs, eL⟩ : ∃ z : List Loc, z = [] := ⟨_, rfl⟩
  rw [← eH, ← eL]
  rw [← eH, ← eL] at hT
  clear eH eL
  unfold fX12_targetFunction at h
  refine lv_aload_n hx hb dX12_targetFunction_0 rfl (lv_at hl 0 rfl) ?_
  refine lv_iload_n hx hb dX12_targetFunction_1 rfl (lv_at hl 1 rfl) ?_
  obtain ⟨r1, σ1, hc1, h⟩ := bd_some h
  refine js_backI hT (js_runV C hT cfX12 t0 rfl mfX12_isPair lk_X12_188 (kX12_isPair t0 hc1) ⟨Nat.le_of_ble_eq_true rfl, Nat.le_of_ble_eq_true rfl⟩ rfl hl.1 rfl (Nat.le_of_ble_eq_true rfl) ⟨Nat.zero_le _, Nat.zero_le _⟩ dX12_targetFunction_2) (fun H locs hT => ?_)
  refine lv_if_eq (tgt := 16) hx hb dX12_targetFunction_5 (by decide) (fun c2 => ?_) (fun c2 => ?_)
  · rw [if_pos c2] at h
    refine lv_iconst (v := (-1)) hx hb dX12_targetFunction_16 (by decide) ?_
    obtain ⟨rfl, rfl⟩ := js_rt h
    exact js_iret C hT hr hk dX12_targetFunction_17
  · rw [if_neg c2] at h
    refine lv_aload_n hx hb dX12_targetFunction_8 rfl (lv_at hl 0 rfl) ?_
    refine lv_iload_n hx hb dX12_targetFunction_9 rfl (lv_at hl 1 rfl) ?_
    obtain ⟨r3, σ3, hc3, h⟩ := bd_some h
    refine js_backI hT (js_runV C hT cfX12 t0 rfl mfX12_targetOf lk_X12_194 (kX12_targetOf t0 hc3) ⟨Nat.le_of_ble_eq_true rfl, Nat.le_of_ble_eq_true rfl⟩ rfl hl.1 rfl (Nat.le_of_ble_eq_true rfl) ⟨Nat.zero_le _, Nat.zero_le _⟩ dX12_targetFunction_10) (fun H locs hT => ?_)
    refine lv_goto (tgt := 17) hx hb dX12_targetFunction_13 (by decide) ?_
    obtain ⟨rfl, rfl⟩ := js_rt h
    exact js_iret C hT hr hk dX12_targetFunction_17
set_option maxHeartbeats 4000000 in
set_option maxRecDepth 20000 in
theorem kX12_termSize {x0 : Nat} {x1 : Int32} {σ σ0 : js_S} {r0 : Int32} (t0 : ob_ nn 12 x0) (h : fX12_termSize fu x0 x1 σ = some (r0, σ0)) : js_M l D B g nn yX12_termSize cX12_termSize 2 (some .int) 2 [.ref (B + x0), .int x1] σ (js_QI D B g nn r0 σ0) := by
  refine js_enter (by decide) (Nat.le_of_ble_eq_true rfl) ?_
  intro p e s m args below meth c C hr hk ls hl hT
  have hl : lv_has ls 2 [(0, .ref (B + x0)), (1, .int x1)] := hl
  obtain ⟨hx, hb, hml, hown, ht, hK, hNw⟩ := id C
  obtain ⟨H, eH⟩ : ∃ H, H = s.heap := ⟨_, rfl⟩
  obtain ⟨locs, eL⟩ : ∃ z : List Loc, z = [] := ⟨_, rfl⟩
  rw [← eH, ← eL]
  rw [← eH, ← eL] at hT
  clear eH eL
  unfold fX12_termSize at h
  refine lv_iload_n hx hb dX12_termSize_0 rfl (lv_at hl 1 rfl) ?_
  obtain ⟨r1, σ1, hc1, h⟩ := bd_some h
  refine js_backI hT (js_runS C hT mfX12_isRegister lk_X12_274 (kX12_isRegister  hc1) ⟨Nat.le_of_ble_eq_true rfl, Nat.le_of_ble_eq_true rfl⟩ rfl hl.1 rfl (Nat.le_of_ble_eq_true rfl) ⟨Nat.zero_le _, Nat.zero_le _⟩ dX12_termSize_1) (fun H locs hT => ?_)
  refine lv_if_eq (tgt := 19) hx hb dX12_termSize_4 (by decide) (fun c2 => ?_) (fun c2 => ?_)
  · rw [if_pos c2] at h
    refine lv_iconst (v := (-1)) hx hb dX12_termSize_19 (by decide) ?_
    obtain ⟨rfl, rfl⟩ := js_rt h
    exact js_iret C hT hr hk dX12_termSize_20
  · rw [if_neg c2] at h
    refine lv_aload_n hx hb dX12_termSize_7 rfl (lv_at hl 0 rfl) ?_
    refine js_gR C hT cfX12 t0 4 (by decide) (q := 20) rfl (by decide) lk_X12_22 dX12_termSize_8 (fun t3a => ?_)
    refine lv_bipush (v := 96) hx hb dX12_termSize_11 (by decide) ?_
    refine lv_iload_n hx hb dX12_termSize_13 rfl (lv_at hl 1 rfl) ?_
    refine lv_imul hx hb dX12_termSize_14 ?_
    obtain ⟨g4, h⟩ := gd_some _ h
    refine js_iald C hT t3a g4 dX12_termSize_15 ?_
    refine lv_goto (tgt := 20) hx hb dX12_termSize_16 (by decide) ?_
    obtain ⟨rfl, rfl⟩ := js_rt h
    exact js_iret C hT hr hk dX12_termSize_20
set_option maxHeartbeats 4000000 in
set_option maxRecDepth 20000 in
theorem wX12_terminatesBySizeChange_113 (C : js_C D g p m c cX12_terminatesBySizeChange 3 s args RX12) (hr : meth.sig.returnType = (some .int)) (hk : meth.locks = false) (rc14 : Nat → Int32 → Int32 → js_S → Option (Int32 × js_S)) (hrc14 : ∀ (x0 : Nat) (x1 : Int32) (x2 : Int32) (σ : js_S) (r0 : Int32) (σ0 : js_S), rc14 x0 x1 x2 σ = some (r0, σ0) → ob_ nn 12 x0 → js_at p l e 7 s m args below meth c D B g nn 14 3 [(0, .ref (B + x0)), (1, .int x1), (2, .int x2)] [] σ (js_QI D B g nn r0 σ0)) : ∀ (x0 : Nat) (x1 : Int32) (x2 : Int32) (σ : js_S) (r0 : Int32) (σ0 : js_S), fX12_terminatesBySizeChange_113 fu rc14 x0 x1 x2 σ = some (r0, σ0) → ob_ nn 12 x0 → js_at p l e 7 s m args below meth c D B g nn 113 3 [(0, .ref (B + x0)), (1, .int x1), (2, .int x2)] [] σ (js_QI D B g nn r0 σ0) := by
  obtain ⟨hx, hb, hml, hown, ht, hK, hNw⟩ := id C
  intro x0 x1 x2 σ r0 σ0 h t0 H locs hT ls hl
  unfold fX12_terminatesBySizeChange_113 at h
  refine lv_iinc (v := x2 + 1) (lv' := [(2, .int (x2 + 1)), (0, .ref (B + x0)), (1, .int x1)]) hx hb dX12_terminatesBySizeChange_113 hl (k := 2) rfl rfl (by decide) rfl (fun ls hl => ?_)
  refine lv_goto (tgt := 14) hx hb dX12_terminatesBySizeChange_116 (by decide) ?_
  exact hrc14 _ _ _ _ _ _ h t0 H locs hT ls (lv_sub hl [1, 2, 0] rfl)
set_option maxHeartbeats 4000000 in
set_option maxRecDepth 20000 in
theorem wX12_terminatesBySizeChange_111 (C : js_C D g p m c cX12_terminatesBySizeChange 3 s args RX12) (hr : meth.sig.returnType = (some .int)) (hk : meth.locks = false) (rc14 : Nat → Int32 → Int32 → js_S → Option (Int32 × js_S)) (hrc14 : ∀ (x0 : Nat) (x1 : Int32) (x2 : Int32) (σ : js_S) (r0 : Int32) (σ0 : js_S), rc14 x0 x1 x2 σ = some (r0, σ0) → ob_ nn 12 x0 → js_at p l e 7 s m args below meth c D B g nn 14 3 [(0, .ref (B + x0)), (1, .int x1), (2, .int x2)] [] σ (js_QI D B g nn r0 σ0)) : ∀ (x0 : Nat) (x2 : Int32) (y0 : Int32) (y1 : Int32) (σ : js_S) (r0 : Int32) (σ0 : js_S), fX12_terminatesBySizeChange_111 fu rc14 x0 x2 y0 y1 σ = some (r0, σ0) → ob_ nn 12 x0 → js_at p l e 7 s m args below meth c D B g nn 111 3 [(0, .ref (B + x0)), (2, .int x2)] [.int y0, .int y1] σ (js_QI D B g nn r0 σ0) := by
  obtain ⟨hx, hb, hml, hown, ht, hK, hNw⟩ := id C
  intro x0 x2 y0 y1 σ r0 σ0 h t0 H locs hT ls hl
  unfold fX12_terminatesBySizeChange_111 at h
  refine lv_iand hx hb dX12_terminatesBySizeChange_111 ?_
  refine lv_istore_n (lv' := [(1, .int (y1 &&& y0)), (0, .ref (B + x0)), (2, .int x2)]) hx hb dX12_terminatesBySizeChange_112 rfl hl (by decide) rfl (fun ls hl => ?_)
  exact wX12_terminatesBySizeChange_113 C hr hk rc14 hrc14 _ _ _ _ _ _ h t0 H locs hT ls (lv_sub hl [1, 0, 2] rfl)
set_option maxHeartbeats 4000000 in
set_option maxRecDepth 20000 in
theorem wX12_terminatesBySizeChange_106 (C : js_C D g p m c cX12_terminatesBySizeChange 3 s args RX12) (hr : meth.sig.returnType = (some .int)) (hk : meth.locks = false) (rc14 : Nat → Int32 → Int32 → js_S → Option (Int32 × js_S)) (hrc14 : ∀ (x0 : Nat) (x1 : Int32) (x2 : Int32) (σ : js_S) (r0 : Int32) (σ0 : js_S), rc14 x0 x1 x2 σ = some (r0, σ0) → ob_ nn 12 x0 → js_at p l e 7 s m args below meth c D B g nn 14 3 [(0, .ref (B + x0)), (1, .int x1), (2, .int x2)] [] σ (js_QI D B g nn r0 σ0)) : ∀ (x0 : Nat) (x2 : Int32) (y0 : Int32) (σ : js_S) (r0 : Int32) (σ0 : js_S), fX12_terminatesBySizeChange_106 fu rc14 x0 x2 y0 σ = some (r0, σ0) → ob_ nn 12 x0 → js_at p l e 7 s m args below meth c D B g nn 106 3 [(0, .ref (B + x0)), (2, .int x2)] [.int y0] σ (js_QI D B g nn r0 σ0) := by
  obtain ⟨hx, hb, hml, hown, ht, hK, hNw⟩ := id C
  intro x0 x2 y0 σ r0 σ0 h t0 H locs hT ls hl
  unfold fX12_terminatesBySizeChange_106 at h
  refine lv_iconst (v := 1) hx hb dX12_terminatesBySizeChange_106 (by decide) ?_
  refine lv_goto (tgt := 111) hx hb dX12_terminatesBySizeChange_107 (by decide) ?_
  exact wX12_terminatesBySizeChange_111 C hr hk rc14 hrc14 _ _ _ _ _ _ _ h t0 H locs hT ls (lv_sub hl [0, 1] rfl)
set_option maxHeartbeats 4000000 in
set_option maxRecDepth 20000 in
theorem wX12_terminatesBySizeChange_14b (C : js_C D g p m c cX12_terminatesBySizeChange 3 s args RX12) (hr : meth.sig.returnType = (some .int)) (hk : meth.locks = false) (rc14 : Nat → Int32 → Int32 → js_S → Option (Int32 × js_S)) (hrc14 : ∀ (x0 : Nat) (x1 : Int32) (x2 : Int32) (σ : js_S) (r0 : Int32) (σ0 : js_S), rc14 x0 x1 x2 σ = some (r0, σ0) → ob_ nn 12 x0 → js_at p l e 7 s m args below meth c D B g nn 14 3 [(0, .ref (B + x0)), (1, .int x1), (2, .int x2)] [] σ (js_QI D B g nn r0 σ0)) : ∀ (x0 : Nat) (x1 : Int32) (x2 : Int32) (σ : js_S) (r0 : Int32) (σ0 : js_S), fX12_terminatesBySizeChange_14b fu rc14 x0 x1 x2 σ = some (r0, σ0) → ob_ nn 12 x0 → js_at p l e 7 s m args below meth c D B g nn 14 3 [(0, .ref (B + x0)), (1, .int x1), (2, .int x2)] [] σ (js_QI D B g nn r0 σ0) := by
  obtain ⟨hx, hb, hml, hown, ht, hK, hNw⟩ := id C
  intro x0 x1 x2 σ r0 σ0 h t0 H locs hT ls hl
  unfold fX12_terminatesBySizeChange_14b at h
  refine lv_iload_n hx hb dX12_terminatesBySizeChange_14 rfl (lv_at hl 2 rfl) ?_
  refine lv_aload_n hx hb dX12_terminatesBySizeChange_15 rfl (lv_at hl 0 rfl) ?_
  refine js_gI C hT cfX12 t0 29 (by decide) rfl lk_X12_250 dX12_terminatesBySizeChange_16 ?_
  refine lv_icmp_ge (tgt := 119) hx hb dX12_terminatesBySizeChange_19 (by decide) (fun c1 => ?_) (fun c1 => ?_)
  · rw [if_pos c1] at h
    refine lv_iload_n hx hb dX12_terminatesBySizeChange_119 rfl (lv_at hl 1 rfl) ?_
    refine lv_if_eq (tgt := 127) hx hb dX12_terminatesBySizeChange_120 (by decide) (fun c2 => ?_) (fun c2 => ?_)
    · rw [if_pos c2] at h
      refine lv_iconst (v := 0) hx hb dX12_terminatesBySizeChange_127 (by decide) ?_
      obtain ⟨rfl, rfl⟩ := js_rt h
      exact js_iret C hT hr hk dX12_terminatesBySizeChange_128
    · rw [if_neg c2] at h
      refine lv_iconst (v := 1) hx hb dX12_terminatesBySizeChange_123 (by decide) ?_
      refine lv_goto (tgt := 128) hx hb dX12_terminatesBySizeChange_124 (by decide) ?_
      obtain ⟨rfl, rfl⟩ := js_rt h
      exact js_iret C hT hr hk dX12_terminatesBySizeChange_128
  · rw [if_neg c1] at h
    refine lv_aload_n hx hb dX12_terminatesBySizeChange_22 rfl (lv_at hl 0 rfl) ?_
    refine js_gR C hT cfX12 t0 25 (by decide) (q := 20) rfl (by decide) lk_X12_66 dX12_terminatesBySizeChange_23 (fun t3a => ?_)
    refine lv_iload_n hx hb dX12_terminatesBySizeChange_26 rfl (lv_at hl 2 rfl) ?_
    obtain ⟨g4, h⟩ := gd_some _ h
    refine js_iald C hT t3a g4 dX12_terminatesBySizeChange_27 ?_
    obtain ⟨r5, σ5, hc5, h⟩ := bd_some h
    refine js_backI hT (js_runS C hT mfX12_functions lk_X12_233 (kX12_functions  hc5) ⟨Nat.le_of_ble_eq_true rfl, Nat.le_of_ble_eq_true rfl⟩ rfl hl.1 rfl (Nat.le_of_ble_eq_true rfl) ⟨Nat.zero_le _, Nat.zero_le _⟩ dX12_terminatesBySizeChange_28) (fun H locs hT => ?_)
    refine lv_iconst (v := 4) hx hb dX12_terminatesBySizeChange_31 (by decide) ?_
    refine lv_irem hx hb dX12_terminatesBySizeChange_32 (by decide) ?_
    refine lv_if_ne (tgt := 113) hx hb dX12_terminatesBySizeChange_33 (by decide) (fun c6 => ?_) (fun c6 => ?_)
    · rw [if_neg c6] at h
      exact wX12_terminatesBySizeChange_113 C hr hk rc14 hrc14 _ _ _ _ _ _ h t0 H locs hT ls (lv_sub hl [0, 1, 2] rfl)
    · rw [if_pos c6] at h
      refine lv_aload_n hx hb dX12_terminatesBySizeChange_36 rfl (lv_at hl 0 rfl) ?_
      refine lv_aload_n hx hb dX12_terminatesBySizeChange_37 rfl (lv_at hl 0 rfl) ?_
      refine js_gR C hT cfX12 t0 25 (by decide) (q := 20) rfl (by decide) lk_X12_66 dX12_terminatesBySizeChange_38 (fun t7a => ?_)
      refine lv_iload_n hx hb dX12_terminatesBySizeChange_41 rfl (lv_at hl 2 rfl) ?_
      obtain ⟨g8, h⟩ := gd_some _ h
      refine js_iald C hT t7a g8 dX12_terminatesBySizeChange_42 ?_
      refine lv_aload_n hx hb dX12_terminatesBySizeChange_43 rfl (lv_at hl 0 rfl) ?_
      refine js_gR C hT cfX12 t0 25 (by decide) (q := 20) rfl (by decide) lk_X12_66 dX12_terminatesBySizeChange_44 (fun t9a => ?_)
      refine lv_iload_n hx hb dX12_terminatesBySizeChange_47 rfl (lv_at hl 2 rfl) ?_
      obtain ⟨g10, h⟩ := gd_some _ h
      refine js_iald C hT t9a g10 dX12_terminatesBySizeChange_48 ?_
      obtain ⟨r11, σ11, hc11, h⟩ := bd_some h
      refine js_backI hT (js_runV C hT cfX12 t0 rfl mfX12_compose lk_X12_256 (kX12_compose t0 hc11) ⟨Nat.le_of_ble_eq_true rfl, Nat.le_of_ble_eq_true rfl⟩ rfl hl.1 rfl (Nat.le_of_ble_eq_true rfl) ⟨Nat.zero_le _, Nat.zero_le _⟩ dX12_terminatesBySizeChange_49) (fun H locs hT => ?_)
      refine lv_aload_n hx hb dX12_terminatesBySizeChange_52 rfl (lv_at hl 0 rfl) ?_
      refine js_gR C hT cfX12 t0 25 (by decide) (q := 20) rfl (by decide) lk_X12_66 dX12_terminatesBySizeChange_53 (fun t12a => ?_)
      refine lv_iload_n hx hb dX12_terminatesBySizeChange_56 rfl (lv_at hl 2 rfl) ?_
      obtain ⟨g13, h⟩ := gd_some _ h
      refine js_iald C hT t12a g13 dX12_terminatesBySizeChange_57 ?_
      refine lv_icmp_ne (tgt := 113) hx hb dX12_terminatesBySizeChange_58 (by decide) (fun c14 => ?_) (fun c14 => ?_)
      · rw [if_neg c14] at h
        exact wX12_terminatesBySizeChange_113 C hr hk rc14 hrc14 _ _ _ _ _ _ h t0 H locs hT ls (lv_sub hl [0, 1, 2] rfl)
      · rw [if_pos c14] at h
        refine lv_aload_n hx hb dX12_terminatesBySizeChange_61 rfl (lv_at hl 0 rfl) ?_
        refine js_gR C hT cfX12 t0 25 (by decide) (q := 20) rfl (by decide) lk_X12_66 dX12_terminatesBySizeChange_62 (fun t15a => ?_)
        refine lv_iload_n hx hb dX12_terminatesBySizeChange_65 rfl (lv_at hl 2 rfl) ?_
        obtain ⟨g16, h⟩ := gd_some _ h
        refine js_iald C hT t15a g16 dX12_terminatesBySizeChange_66 ?_
        refine lv_aload_n hx hb dX12_terminatesBySizeChange_67 rfl (lv_at hl 0 rfl) ?_
        refine js_gR C hT cfX12 t0 26 (by decide) (q := 20) rfl (by decide) lk_X12_69 dX12_terminatesBySizeChange_68 (fun t17a => ?_)
        obtain ⟨z18, σ18, hc18, h⟩ := bd_some h
        refine js_backV hT (js_runS C hT mfX12_decode lk_X12_236 (kX12_decode t17a hc18) ⟨Nat.le_of_ble_eq_true rfl, Nat.le_of_ble_eq_true rfl⟩ rfl hl.1 rfl (Nat.le_of_ble_eq_true rfl) ⟨Nat.zero_le _, Nat.zero_le _⟩ dX12_terminatesBySizeChange_71) (fun H locs hT => ?_)
        refine lv_iload_n hx hb dX12_terminatesBySizeChange_74 rfl (lv_at hl 1 rfl) ?_
        refine lv_aload_n hx hb dX12_terminatesBySizeChange_75 rfl (lv_at hl 0 rfl) ?_
        refine js_gR C hT cfX12 t0 26 (by decide) (q := 20) rfl (by decide) lk_X12_69 dX12_terminatesBySizeChange_76 (fun t19a => ?_)
        refine lv_iconst (v := 0) hx hb dX12_terminatesBySizeChange_79 (by decide) ?_
        obtain ⟨g20, h⟩ := gd_some _ h
        refine js_iald C hT t19a g20 dX12_terminatesBySizeChange_80 ?_
        refine lv_iconst (v := 2) hx hb dX12_terminatesBySizeChange_81 (by decide) ?_
        refine lv_icmp_eq (tgt := 106) hx hb dX12_terminatesBySizeChange_82 (by decide) (fun c21 => ?_) (fun c21 => ?_)
        · rw [if_pos c21] at h
          exact wX12_terminatesBySizeChange_106 C hr hk rc14 hrc14 _ _ _ _ _ _ h t0 H locs hT ls (lv_sub hl [0, 2] rfl)
        · rw [if_neg c21] at h
          refine lv_aload_n hx hb dX12_terminatesBySizeChange_85 rfl (lv_at hl 0 rfl) ?_
          refine js_gR C hT cfX12 t0 26 (by decide) (q := 20) rfl (by decide) lk_X12_69 dX12_terminatesBySizeChange_86 (fun t22a => ?_)
          refine lv_iconst (v := 4) hx hb dX12_terminatesBySizeChange_89 (by decide) ?_
          obtain ⟨g23, h⟩ := gd_some _ h
          refine js_iald C hT t22a g23 dX12_terminatesBySizeChange_90 ?_
          refine lv_iconst (v := 2) hx hb dX12_terminatesBySizeChange_91 (by decide) ?_
          refine lv_icmp_eq (tgt := 106) hx hb dX12_terminatesBySizeChange_92 (by decide) (fun c24 => ?_) (fun c24 => ?_)
          · rw [if_pos c24] at h
            exact wX12_terminatesBySizeChange_106 C hr hk rc14 hrc14 _ _ _ _ _ _ h t0 H locs hT ls (lv_sub hl [0, 2] rfl)
          · rw [if_neg c24] at h
            refine lv_aload_n hx hb dX12_terminatesBySizeChange_95 rfl (lv_at hl 0 rfl) ?_
            refine js_gR C hT cfX12 t0 26 (by decide) (q := 20) rfl (by decide) lk_X12_69 dX12_terminatesBySizeChange_96 (fun t25a => ?_)
            refine lv_bipush (v := 8) hx hb dX12_terminatesBySizeChange_99 (by decide) ?_
            obtain ⟨g26, h⟩ := gd_some _ h
            refine js_iald C hT t25a g26 dX12_terminatesBySizeChange_101 ?_
            refine lv_iconst (v := 2) hx hb dX12_terminatesBySizeChange_102 (by decide) ?_
            refine lv_icmp_ne (tgt := 110) hx hb dX12_terminatesBySizeChange_103 (by decide) (fun c27 => ?_) (fun c27 => ?_)
            · rw [if_neg c27] at h
              refine lv_iconst (v := 0) hx hb dX12_terminatesBySizeChange_110 (by decide) ?_
              exact wX12_terminatesBySizeChange_111 C hr hk rc14 hrc14 _ _ _ _ _ _ _ h t0 H locs hT ls (lv_sub hl [0, 2] rfl)
            · rw [if_pos c27] at h
              exact wX12_terminatesBySizeChange_106 C hr hk rc14 hrc14 _ _ _ _ _ _ h t0 H locs hT ls (lv_sub hl [0, 2] rfl)
set_option maxHeartbeats 4000000 in
set_option maxRecDepth 20000 in
theorem wX12_terminatesBySizeChange_14 (C : js_C D g p m c cX12_terminatesBySizeChange 3 s args RX12) (hr : meth.sig.returnType = (some .int)) (hk : meth.locks = false) : ∀ (k : Nat), ∀ (x0 : Nat) (x1 : Int32) (x2 : Int32) (σ : js_S) (r0 : Int32) (σ0 : js_S), fX12_terminatesBySizeChange_14 fu k x0 x1 x2 σ = some (r0, σ0) → ob_ nn 12 x0 → js_at p l e 7 s m args below meth c D B g nn 14 3 [(0, .ref (B + x0)), (1, .int x1), (2, .int x2)] [] σ (js_QI D B g nn r0 σ0) := by
  intro k
  induction k with
  | zero =>
    intro x0 x1 x2 σ r0 σ0 h
    cases h
  | succ k ih =>
    intro x0 x1 x2 σ r0 σ0 h
    exact wX12_terminatesBySizeChange_14b C hr hk (fX12_terminatesBySizeChange_14 fu k) ih x0 x1 x2 σ r0 σ0 h
set_option maxHeartbeats 4000000 in
set_option maxRecDepth 20000 in
theorem kX12_terminatesBySizeChange {x0 : Nat} {σ σ0 : js_S} {r0 : Int32} (t0 : ob_ nn 12 x0) (h : fX12_terminatesBySizeChange fu x0 σ = some (r0, σ0)) : js_M l D B g nn yX12_terminatesBySizeChange cX12_terminatesBySizeChange 3 (some .int) 7 [.ref (B + x0)] σ (js_QI D B g nn r0 σ0) := by
  refine js_enter (by decide) (Nat.le_of_ble_eq_true rfl) ?_
  intro p e s m args below meth c C hr hk ls hl hT
  have hl : lv_has ls 3 [(0, .ref (B + x0))] := hl
  obtain ⟨hx, hb, hml, hown, ht, hK, hNw⟩ := id C
  obtain ⟨H, eH⟩ : ∃ H, H = s.heap := ⟨_, rfl⟩
  obtain ⟨locs, eL⟩ : ∃ z : List Loc, z = [] := ⟨_, rfl⟩
  rw [← eH, ← eL]
  rw [← eH, ← eL] at hT
  clear eH eL
  unfold fX12_terminatesBySizeChange at h
  refine lv_aload_n hx hb dX12_terminatesBySizeChange_0 rfl (lv_at hl 0 rfl) ?_
  obtain ⟨r1, σ1, hc1, h⟩ := bd_some h
  refine js_backI hT (js_runV C hT cfX12 t0 rfl mfX12_findClosure lk_X12_259 (kX12_findClosure t0 hc1) ⟨Nat.le_of_ble_eq_true rfl, Nat.le_of_ble_eq_true rfl⟩ rfl hl.1 rfl (Nat.le_of_ble_eq_true rfl) ⟨Nat.zero_le _, Nat.zero_le _⟩ dX12_terminatesBySizeChange_1) (fun H locs hT => ?_)
  refine lv_if_ne (tgt := 10) hx hb dX12_terminatesBySizeChange_4 (by decide) (fun c2 => ?_) (fun c2 => ?_)
  · rw [if_neg c2] at h
    refine lv_iconst (v := 1) hx hb dX12_terminatesBySizeChange_10 (by decide) ?_
    refine lv_istore_n (lv' := [(1, .int 1), (0, .ref (B + x0))]) hx hb dX12_terminatesBySizeChange_11 rfl hl (by decide) rfl (fun ls hl => ?_)
    refine lv_iconst (v := 0) hx hb dX12_terminatesBySizeChange_12 (by decide) ?_
    refine lv_istore_n (lv' := [(2, .int 0), (1, .int 1), (0, .ref (B + x0))]) hx hb dX12_terminatesBySizeChange_13 rfl hl (by decide) rfl (fun ls hl => ?_)
    exact wX12_terminatesBySizeChange_14 C hr hk _ _ _ _ _ _ _ h t0 H locs hT ls (lv_sub hl [2, 1, 0] rfl)
  · rw [if_pos c2] at h
    refine lv_bipush (v := (-8)) hx hb dX12_terminatesBySizeChange_7 (by decide) ?_
    obtain ⟨rfl, rfl⟩ := js_rt h
    exact js_iret C hT hr hk dX12_terminatesBySizeChange_9
set_option maxHeartbeats 4000000 in
set_option maxRecDepth 20000 in
theorem kX12_terminatesBySubtermCriterion {x0 : Nat} {σ σ0 : js_S} {r0 : Int32} (t0 : ob_ nn 12 x0) (h : fX12_terminatesBySubtermCriterion fu x0 σ = some (r0, σ0)) : js_M l D B g nn yX12_terminatesBySubtermCriterion cX12_terminatesBySubtermCriterion 1 (some .int) 130 [.ref (B + x0)] σ (js_QI D B g nn r0 σ0) := by
  refine js_enter (by decide) (Nat.le_of_ble_eq_true rfl) ?_
  intro p e s m args below meth c C hr hk ls hl hT
  have hl : lv_has ls 1 [(0, .ref (B + x0))] := hl
  obtain ⟨hx, hb, hml, hown, ht, hK, hNw⟩ := id C
  obtain ⟨H, eH⟩ : ∃ H, H = s.heap := ⟨_, rfl⟩
  obtain ⟨locs, eL⟩ : ∃ z : List Loc, z = [] := ⟨_, rfl⟩
  rw [← eH, ← eL]
  rw [← eH, ← eL] at hT
  clear eH eL
  unfold fX12_terminatesBySubtermCriterion at h
  refine lv_aload_n hx hb dX12_terminatesBySubtermCriterion_0 rfl (lv_at hl 0 rfl) ?_
  obtain ⟨r1, σ1, hc1, h⟩ := bd_some h
  refine js_backI hT (js_runV C hT cfX12 t0 rfl mfX12_remainingComponentCount lk_X12_271 (kX12_remainingComponentCount t0 hc1) ⟨Nat.le_of_ble_eq_true rfl, Nat.le_of_ble_eq_true rfl⟩ rfl hl.1 rfl (Nat.le_of_ble_eq_true rfl) ⟨Nat.zero_le _, Nat.zero_le _⟩ dX12_terminatesBySubtermCriterion_1) (fun H locs hT => ?_)
  refine lv_if_ne (tgt := 11) hx hb dX12_terminatesBySubtermCriterion_4 (by decide) (fun c2 => ?_) (fun c2 => ?_)
  · rw [if_neg c2] at h
    refine lv_iconst (v := 0) hx hb dX12_terminatesBySubtermCriterion_11 (by decide) ?_
    obtain ⟨rfl, rfl⟩ := js_rt h
    exact js_iret C hT hr hk dX12_terminatesBySubtermCriterion_12
  · rw [if_pos c2] at h
    refine lv_iconst (v := 1) hx hb dX12_terminatesBySubtermCriterion_7 (by decide) ?_
    refine lv_goto (tgt := 12) hx hb dX12_terminatesBySubtermCriterion_8 (by decide) ?_
    obtain ⟨rfl, rfl⟩ := js_rt h
    exact js_iret C hT hr hk dX12_terminatesBySubtermCriterion_12
set_option maxHeartbeats 4000000 in
set_option maxRecDepth 20000 in
theorem kX12_textLength {x0 : Nat} {σ σ0 : js_S} {r0 : Int32} (t0 : ob_ nn 12 x0) (h : fX12_textLength fu x0 σ = some (r0, σ0)) : js_M l D B g nn yX12_textLength cX12_textLength 1 (some .int) 0 [.ref (B + x0)] σ (js_QI D B g nn r0 σ0) := by
  refine js_enter (by decide) (Nat.le_of_ble_eq_true rfl) ?_
  intro p e s m args below meth c C hr hk ls hl hT
  have hl : lv_has ls 1 [(0, .ref (B + x0))] := hl
  obtain ⟨hx, hb, hml, hown, ht, hK, hNw⟩ := id C
  obtain ⟨H, eH⟩ : ∃ H, H = s.heap := ⟨_, rfl⟩
  obtain ⟨locs, eL⟩ : ∃ z : List Loc, z = [] := ⟨_, rfl⟩
  rw [← eH, ← eL]
  rw [← eH, ← eL] at hT
  clear eH eL
  unfold fX12_textLength at h
  refine lv_aload_n hx hb dX12_textLength_0 rfl (lv_at hl 0 rfl) ?_
  refine js_gI C hT cfX12 t0 15 (by decide) rfl lk_X12_151 dX12_textLength_1 ?_
  obtain ⟨rfl, rfl⟩ := js_rt h
  exact js_iret C hT hr hk dX12_textLength_4
