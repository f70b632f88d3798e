variable {p : Program} {l : Launch} {e : Env} {s : State} {m : MethodId} {args : Array Value} {below : List Frame} {meth : Method} {c : Code} {D : va_G} {B nn fu : Nat} {g : js_G}
set_option maxHeartbeats 4000000 in
set_option maxRecDepth 20000 in
theorem kJ13_bitCount_95d88 {x0 : Int64} {σ σ0 : js_S} {r0 : Int32} (h : fJ13_bitCount_95d88 fu x0 σ = some (r0, σ0)) : js_M l D B g nn yJ13_bitCount_95d88 cJ13_bitCount_95d88 2 (some .int) 0 [.long x0] σ (js_QI D B g nn r0 σ0) := by
  refine js_enter (by decide) (Nat.le_of_ble_eq_true rfl) ?_
  intro p e s m args below meth c C hr hk ls hl hT
  have hl : lv_has ls 2 [(0, .long x0)] := hl
  obtain ⟨hx, hb, hml, hown, ht, hK, hNw⟩ := id C
  obtain ⟨H, eH⟩ : ∃ H, H = s.heap := ⟨_, rfl⟩
  obtain ⟨locs, eL⟩ : ∃ z : List Loc, z = [] := ⟨_, rfl⟩
  rw [← eH, ← eL]
  rw [← eH, ← eL] at hT
  clear eH eL
  unfold fJ13_bitCount_95d88 at h
  refine lv_lload_n hx hb dJ13_bitCount_95d88_0 rfl (lv_at hl 0 rfl) ?_
  refine lv_lload_n hx hb dJ13_bitCount_95d88_1 rfl (lv_at hl 0 rfl) ?_
  refine lv_iconst (v := 1) hx hb dJ13_bitCount_95d88_2 (by decide) ?_
  refine lv_lushr hx hb dJ13_bitCount_95d88_3 rfl ?_
  refine lv_ldc2 hx hb hown (ht _ lk_J13_314) dJ13_bitCount_95d88_4 ?_
  refine lv_land hx hb dJ13_bitCount_95d88_7 ?_
  refine lv_lsub hx hb dJ13_bitCount_95d88_8 ?_
  refine lv_lstore_n (lv' := [(0, .long (x0 - ((((Int64.toUInt64 x0) >>> ((Int64.toUInt64 (Int32.toInt64 1)) &&& Int64.toUInt64 63)).toInt64) &&& (6148914691236517205 : Int64))))]) hx hb dJ13_bitCount_95d88_9 rfl hl (by decide) rfl (fun ls hl => ?_)
  refine lv_lload_n hx hb dJ13_bitCount_95d88_10 rfl (lv_at hl 0 rfl) ?_
  refine lv_ldc2 hx hb hown (ht _ lk_J13_316) dJ13_bitCount_95d88_11 ?_
  refine lv_land hx hb dJ13_bitCount_95d88_14 ?_
  refine lv_lload_n hx hb dJ13_bitCount_95d88_15 rfl (lv_at hl 0 rfl) ?_
  refine lv_iconst (v := 2) hx hb dJ13_bitCount_95d88_16 (by decide) ?_
  refine lv_lushr hx hb dJ13_bitCount_95d88_17 rfl ?_
  refine lv_ldc2 hx hb hown (ht _ lk_J13_316) dJ13_bitCount_95d88_18 ?_
  refine lv_land hx hb dJ13_bitCount_95d88_21 ?_
  refine lv_ladd hx hb dJ13_bitCount_95d88_22 ?_
  refine lv_lstore_n (lv' := [(0, .long (((x0 - ((((Int64.toUInt64 x0) >>> ((Int64.toUInt64 (Int32.toInt64 1)) &&& Int64.toUInt64 63)).toInt64) &&& (6148914691236517205 : Int64))) &&& (3689348814741910323 : Int64)) + ((((Int64.toUInt64 (x0 - ((((Int64.toUInt64 x0) >>> ((Int64.toUInt64 (Int32.toInt64 1)) &&& Int64.toUInt64 63)).toInt64) &&& (6148914691236517205 : Int64)))) >>> ((Int64.toUInt64 (Int32.toInt64 2)) &&& Int64.toUInt64 63)).toInt64) &&& (3689348814741910323 : Int64))))]) hx hb dJ13_bitCount_95d88_23 rfl hl (by decide) rfl (fun ls hl => ?_)
  refine lv_lload_n hx hb dJ13_bitCount_95d88_24 rfl (lv_at hl 0 rfl) ?_
  refine lv_lload_n hx hb dJ13_bitCount_95d88_25 rfl (lv_at hl 0 rfl) ?_
  refine lv_iconst (v := 4) hx hb dJ13_bitCount_95d88_26 (by decide) ?_
  refine lv_lushr hx hb dJ13_bitCount_95d88_27 rfl ?_
  refine lv_ladd hx hb dJ13_bitCount_95d88_28 ?_
  refine lv_ldc2 hx hb hown (ht _ lk_J13_318) dJ13_bitCount_95d88_29 ?_
  refine lv_land hx hb dJ13_bitCount_95d88_32 ?_
  refine lv_lstore_n (lv' := [(0, .long (((((x0 - ((((Int64.toUInt64 x0) >>> ((Int64.toUInt64 (Int32.toInt64 1)) &&& Int64.toUInt64 63)).toInt64) &&& (6148914691236517205 : Int64))) &&& (3689348814741910323 : Int64)) + ((((Int64.toUInt64 (x0 - ((((Int64.toUInt64 x0) >>> ((Int64.toUInt64 (Int32.toInt64 1)) &&& Int64.toUInt64 63)).toInt64) &&& (6148914691236517205 : Int64)))) >>> ((Int64.toUInt64 (Int32.toInt64 2)) &&& Int64.toUInt64 63)).toInt64) &&& (3689348814741910323 : Int64))) + (((Int64.toUInt64 (((x0 - ((((Int64.toUInt64 x0) >>> ((Int64.toUInt64 (Int32.toInt64 1)) &&& Int64.toUInt64 63)).toInt64) &&& (6148914691236517205 : Int64))) &&& (3689348814741910323 : Int64)) + ((((Int64.toUInt64 (x0 - ((((Int64.toUInt64 x0) >>> ((Int64.toUInt64 (Int32.toInt64 1)) &&& Int64.toUInt64 63)).toInt64) &&& (6148914691236517205 : Int64)))) >>> ((Int64.toUInt64 (Int32.toInt64 2)) &&& Int64.toUInt64 63)).toInt64) &&& (3689348814741910323 : Int64)))) >>> ((Int64.toUInt64 (Int32.toInt64 4)) &&& Int64.toUInt64 63)).toInt64)) &&& (1085102592571150095 : Int64)))]) hx hb dJ13_bitCount_95d88_33 rfl hl (by decide) rfl (fun ls hl => ?_)
  refine lv_lload_n hx hb dJ13_bitCount_95d88_34 rfl (lv_at hl 0 rfl) ?_
  refine lv_lload_n hx hb dJ13_bitCount_95d88_35 rfl (lv_at hl 0 rfl) ?_
  refine lv_bipush (v := 8) hx hb dJ13_bitCount_95d88_36 (by decide) ?_
  refine lv_lushr hx hb dJ13_bitCount_95d88_38 rfl ?_
  refine lv_ladd hx hb dJ13_bitCount_95d88_39 ?_
  refine lv_lstore_n (lv' := [(0, .long ((((((x0 - ((((Int64.toUInt64 x0) >>> ((Int64.toUInt64 (Int32.toInt64 1)) &&& Int64.toUInt64 63)).toInt64) &&& (6148914691236517205 : Int64))) &&& (3689348814741910323 : Int64)) + ((((Int64.toUInt64 (x0 - ((((Int64.toUInt64 x0) >>> ((Int64.toUInt64 (Int32.toInt64 1)) &&& Int64.toUInt64 63)).toInt64) &&& (6148914691236517205 : Int64)))) >>> ((Int64.toUInt64 (Int32.toInt64 2)) &&& Int64.toUInt64 63)).toInt64) &&& (3689348814741910323 : Int64))) + (((Int64.toUInt64 (((x0 - ((((Int64.toUInt64 x0) >>> ((Int64.toUInt64 (Int32.toInt64 1)) &&& Int64.toUInt64 63)).toInt64) &&& (6148914691236517205 : Int64))) &&& (3689348814741910323 : Int64)) + ((((Int64.toUInt64 (x0 - ((((Int64.toUInt64 x0) >>> ((Int64.toUInt64 (Int32.toInt64 1)) &&& Int64.toUInt64 63)).toInt64) &&& (6148914691236517205 : Int64)))) >>> ((Int64.toUInt64 (Int32.toInt64 2)) &&& Int64.toUInt64 63)).toInt64) &&& (3689348814741910323 : Int64)))) >>> ((Int64.toUInt64 (Int32.toInt64 4)) &&& Int64.toUInt64 63)).toInt64)) &&& (1085102592571150095 : Int64)) + (((Int64.toUInt64 (((((x0 - ((((Int64.toUInt64 x0) >>> ((Int64.toUInt64 (Int32.toInt64 1)) &&& Int64.toUInt64 63)).toInt64) &&& (6148914691236517205 : Int64))) &&& (3689348814741910323 : Int64)) + ((((Int64.toUInt64 (x0 - ((((Int64.toUInt64 x0) >>> ((Int64.toUInt64 (Int32.toInt64 1)) &&& Int64.toUInt64 63)).toInt64) &&& (6148914691236517205 : Int64)))) >>> ((Int64.toUInt64 (Int32.toInt64 2)) &&& Int64.toUInt64 63)).toInt64) &&& (3689348814741910323 : Int64))) + (((Int64.toUInt64 (((x0 - ((((Int64.toUInt64 x0) >>> ((Int64.toUInt64 (Int32.toInt64 1)) &&& Int64.toUInt64 63)).toInt64) &&& (6148914691236517205 : Int64))) &&& (3689348814741910323 : Int64)) + ((((Int64.toUInt64 (x0 - ((((Int64.toUInt64 x0) >>> ((Int64.toUInt64 (Int32.toInt64 1)) &&& Int64.toUInt64 63)).toInt64) &&& (6148914691236517205 : Int64)))) >>> ((Int64.toUInt64 (Int32.toInt64 2)) &&& Int64.toUInt64 63)).toInt64) &&& (3689348814741910323 : Int64)))) >>> ((Int64.toUInt64 (Int32.toInt64 4)) &&& Int64.toUInt64 63)).toInt64)) &&& (1085102592571150095 : Int64))) >>> ((Int64.toUInt64 (Int32.toInt64 8)) &&& Int64.toUInt64 63)).toInt64)))]) hx hb dJ13_bitCount_95d88_40 rfl hl (by decide) rfl (fun ls hl => ?_)
  refine lv_lload_n hx hb dJ13_bitCount_95d88_41 rfl (lv_at hl 0 rfl) ?_
  refine lv_lload_n hx hb dJ13_bitCount_95d88_42 rfl (lv_at hl 0 rfl) ?_
  refine lv_bipush (v := 16) hx hb dJ13_bitCount_95d88_43 (by decide) ?_
  refine lv_lushr hx hb dJ13_bitCount_95d88_45 rfl ?_
  refine lv_ladd hx hb dJ13_bitCount_95d88_46 ?_
  refine lv_lstore_n (lv' := [(0, .long (((((((x0 - ((((Int64.toUInt64 x0) >>> ((Int64.toUInt64 (Int32.toInt64 1)) &&& Int64.toUInt64 63)).toInt64) &&& (6148914691236517205 : Int64))) &&& (3689348814741910323 : Int64)) + ((((Int64.toUInt64 (x0 - ((((Int64.toUInt64 x0) >>> ((Int64.toUInt64 (Int32.toInt64 1)) &&& Int64.toUInt64 63)).toInt64) &&& (6148914691236517205 : Int64)))) >>> ((Int64.toUInt64 (Int32.toInt64 2)) &&& Int64.toUInt64 63)).toInt64) &&& (3689348814741910323 : Int64))) + (((Int64.toUInt64 (((x0 - ((((Int64.toUInt64 x0) >>> ((Int64.toUInt64 (Int32.toInt64 1)) &&& Int64.toUInt64 63)).toInt64) &&& (6148914691236517205 : Int64))) &&& (3689348814741910323 : Int64)) + ((((Int64.toUInt64 (x0 - ((((Int64.toUInt64 x0) >>> ((Int64.toUInt64 (Int32.toInt64 1)) &&& Int64.toUInt64 63)).toInt64) &&& (6148914691236517205 : Int64)))) >>> ((Int64.toUInt64 (Int32.toInt64 2)) &&& Int64.toUInt64 63)).toInt64) &&& (3689348814741910323 : Int64)))) >>> ((Int64.toUInt64 (Int32.toInt64 4)) &&& Int64.toUInt64 63)).toInt64)) &&& (1085102592571150095 : Int64)) + (((Int64.toUInt64 (((((x0 - ((((Int64.toUInt64 x0) >>> ((Int64.toUInt64 (Int32.toInt64 1)) &&& Int64.toUInt64 63)).toInt64) &&& (6148914691236517205 : Int64))) &&& (3689348814741910323 : Int64)) + ((((Int64.toUInt64 (x0 - ((((Int64.toUInt64 x0) >>> ((Int64.toUInt64 (Int32.toInt64 1)) &&& Int64.toUInt64 63)).toInt64) &&& (6148914691236517205 : Int64)))) >>> ((Int64.toUInt64 (Int32.toInt64 2)) &&& Int64.toUInt64 63)).toInt64) &&& (3689348814741910323 : Int64))) + (((Int64.toUInt64 (((x0 - ((((Int64.toUInt64 x0) >>> ((Int64.toUInt64 (Int32.toInt64 1)) &&& Int64.toUInt64 63)).toInt64) &&& (6148914691236517205 : Int64))) &&& (3689348814741910323 : Int64)) + ((((Int64.toUInt64 (x0 - ((((Int64.toUInt64 x0) >>> ((Int64.toUInt64 (Int32.toInt64 1)) &&& Int64.toUInt64 63)).toInt64) &&& (6148914691236517205 : Int64)))) >>> ((Int64.toUInt64 (Int32.toInt64 2)) &&& Int64.toUInt64 63)).toInt64) &&& (3689348814741910323 : Int64)))) >>> ((Int64.toUInt64 (Int32.toInt64 4)) &&& Int64.toUInt64 63)).toInt64)) &&& (1085102592571150095 : Int64))) >>> ((Int64.toUInt64 (Int32.toInt64 8)) &&& Int64.toUInt64 63)).toInt64)) + (((Int64.toUInt64 ((((((x0 - ((((Int64.toUInt64 x0) >>> ((Int64.toUInt64 (Int32.toInt64 1)) &&& Int64.toUInt64 63)).toInt64) &&& (6148914691236517205 : Int64))) &&& (3689348814741910323 : Int64)) + ((((Int64.toUInt64 (x0 - ((((Int64.toUInt64 x0) >>> ((Int64.toUInt64 (Int32.toInt64 1)) &&& Int64.toUInt64 63)).toInt64) &&& (6148914691236517205 : Int64)))) >>> ((Int64.toUInt64 (Int32.toInt64 2)) &&& Int64.toUInt64 63)).toInt64) &&& (3689348814741910323 : Int64))) + (((Int64.toUInt64 (((x0 - ((((Int64.toUInt64 x0) >>> ((Int64.toUInt64 (Int32.toInt64 1)) &&& Int64.toUInt64 63)).toInt64) &&& (6148914691236517205 : Int64))) &&& (3689348814741910323 : Int64)) + ((((Int64.toUInt64 (x0 - ((((Int64.toUInt64 x0) >>> ((Int64.toUInt64 (Int32.toInt64 1)) &&& Int64.toUInt64 63)).toInt64) &&& (6148914691236517205 : Int64)))) >>> ((Int64.toUInt64 (Int32.toInt64 2)) &&& Int64.toUInt64 63)).toInt64) &&& (3689348814741910323 : Int64)))) >>> ((Int64.toUInt64 (Int32.toInt64 4)) &&& Int64.toUInt64 63)).toInt64)) &&& (1085102592571150095 : Int64)) + (((Int64.toUInt64 (((((x0 - ((((Int64.toUInt64 x0) >>> ((Int64.toUInt64 (Int32.toInt64 1)) &&& Int64.toUInt64 63)).toInt64) &&& (6148914691236517205 : Int64))) &&& (3689348814741910323 : Int64)) + ((((Int64.toUInt64 (x0 - ((((Int64.toUInt64 x0) >>> ((Int64.toUInt64 (Int32.toInt64 1)) &&& Int64.toUInt64 63)).toInt64) &&& (6148914691236517205 : Int64)))) >>> ((Int64.toUInt64 (Int32.toInt64 2)) &&& Int64.toUInt64 63)).toInt64) &&& (3689348814741910323 : Int64))) + (((Int64.toUInt64 (((x0 - ((((Int64.toUInt64 x0) >>> ((Int64.toUInt64 (Int32.toInt64 1)) &&& Int64.toUInt64 63)).toInt64) &&& (6148914691236517205 : Int64))) &&& (3689348814741910323 : Int64)) + ((((Int64.toUInt64 (x0 - ((((Int64.toUInt64 x0) >>> ((Int64.toUInt64 (Int32.toInt64 1)) &&& Int64.toUInt64 63)).toInt64) &&& (6148914691236517205 : Int64)))) >>> ((Int64.toUInt64 (Int32.toInt64 2)) &&& Int64.toUInt64 63)).toInt64) &&& (3689348814741910323 : Int64)))) >>> ((Int64.toUInt64 (Int32.toInt64 4)) &&& Int64.toUInt64 63)).toInt64)) &&& (1085102592571150095 : Int64))) >>> ((Int64.toUInt64 (Int32.toInt64 8)) &&& Int64.toUInt64 63)).toInt64))) >>> ((Int64.toUInt64 (Int32.toInt64 16)) &&& Int64.toUInt64 63)).toInt64)))]) hx hb dJ13_bitCount_95d88_47 rfl hl (by decide) rfl (fun ls hl => ?_)
  refine lv_lload_n hx hb dJ13_bitCount_95d88_48 rfl (lv_at hl 0 rfl) ?_
  refine lv_lload_n hx hb dJ13_bitCount_95d88_49 rfl (lv_at hl 0 rfl) ?_
  refine lv_bipush (v := 32) hx hb dJ13_bitCount_95d88_50 (by decide) ?_
  refine lv_lushr hx hb dJ13_bitCount_95d88_52 rfl ?_
  refine lv_ladd hx hb dJ13_bitCount_95d88_53 ?_
  refine lv_lstore_n (lv' := [(0, .long ((((((((x0 - ((((Int64.toUInt64 x0) >>> ((Int64.toUInt64 (Int32.toInt64 1)) &&& Int64.toUInt64 63)).toInt64) &&& (6148914691236517205 : Int64))) &&& (3689348814741910323 : Int64)) + ((((Int64.toUInt64 (x0 - ((((Int64.toUInt64 x0) >>> ((Int64.toUInt64 (Int32.toInt64 1)) &&& Int64.toUInt64 63)).toInt64) &&& (6148914691236517205 : Int64)))) >>> ((Int64.toUInt64 (Int32.toInt64 2)) &&& Int64.toUInt64 63)).toInt64) &&& (3689348814741910323 : Int64))) + (((Int64.toUInt64 (((x0 - ((((Int64.toUInt64 x0) >>> ((Int64.toUInt64 (Int32.toInt64 1)) &&& Int64.toUInt64 63)).toInt64) &&& (6148914691236517205 : Int64))) &&& (3689348814741910323 : Int64)) + ((((Int64.toUInt64 (x0 - ((((Int64.toUInt64 x0) >>> ((Int64.toUInt64 (Int32.toInt64 1)) &&& Int64.toUInt64 63)).toInt64) &&& (6148914691236517205 : Int64)))) >>> ((Int64.toUInt64 (Int32.toInt64 2)) &&& Int64.toUInt64 63)).toInt64) &&& (3689348814741910323 : Int64)))) >>> ((Int64.toUInt64 (Int32.toInt64 4)) &&& Int64.toUInt64 63)).toInt64)) &&& (1085102592571150095 : Int64)) + (((Int64.toUInt64 (((((x0 - ((((Int64.toUInt64 x0) >>> ((Int64.toUInt64 (Int32.toInt64 1)) &&& Int64.toUInt64 63)).toInt64) &&& (6148914691236517205 : Int64))) &&& (3689348814741910323 : Int64)) + ((((Int64.toUInt64 (x0 - ((((Int64.toUInt64 x0) >>> ((Int64.toUInt64 (Int32.toInt64 1)) &&& Int64.toUInt64 63)).toInt64) &&& (6148914691236517205 : Int64)))) >>> ((Int64.toUInt64 (Int32.toInt64 2)) &&& Int64.toUInt64 63)).toInt64) &&& (3689348814741910323 : Int64))) + (((Int64.toUInt64 (((x0 - ((((Int64.toUInt64 x0) >>> ((Int64.toUInt64 (Int32.toInt64 1)) &&& Int64.toUInt64 63)).toInt64) &&& (6148914691236517205 : Int64))) &&& (3689348814741910323 : Int64)) + ((((Int64.toUInt64 (x0 - ((((Int64.toUInt64 x0) >>> ((Int64.toUInt64 (Int32.toInt64 1)) &&& Int64.toUInt64 63)).toInt64) &&& (6148914691236517205 : Int64)))) >>> ((Int64.toUInt64 (Int32.toInt64 2)) &&& Int64.toUInt64 63)).toInt64) &&& (3689348814741910323 : Int64)))) >>> ((Int64.toUInt64 (Int32.toInt64 4)) &&& Int64.toUInt64 63)).toInt64)) &&& (1085102592571150095 : Int64))) >>> ((Int64.toUInt64 (Int32.toInt64 8)) &&& Int64.toUInt64 63)).toInt64)) + (((Int64.toUInt64 ((((((x0 - ((((Int64.toUInt64 x0) >>> ((Int64.toUInt64 (Int32.toInt64 1)) &&& Int64.toUInt64 63)).toInt64) &&& (6148914691236517205 : Int64))) &&& (3689348814741910323 : Int64)) + ((((Int64.toUInt64 (x0 - ((((Int64.toUInt64 x0) >>> ((Int64.toUInt64 (Int32.toInt64 1)) &&& Int64.toUInt64 63)).toInt64) &&& (6148914691236517205 : Int64)))) >>> ((Int64.toUInt64 (Int32.toInt64 2)) &&& Int64.toUInt64 63)).toInt64) &&& (3689348814741910323 : Int64))) + (((Int64.toUInt64 (((x0 - ((((Int64.toUInt64 x0) >>> ((Int64.toUInt64 (Int32.toInt64 1)) &&& Int64.toUInt64 63)).toInt64) &&& (6148914691236517205 : Int64))) &&& (3689348814741910323 : Int64)) + ((((Int64.toUInt64 (x0 - ((((Int64.toUInt64 x0) >>> ((Int64.toUInt64 (Int32.toInt64 1)) &&& Int64.toUInt64 63)).toInt64) &&& (6148914691236517205 : Int64)))) >>> ((Int64.toUInt64 (Int32.toInt64 2)) &&& Int64.toUInt64 63)).toInt64) &&& (3689348814741910323 : Int64)))) >>> ((Int64.toUInt64 (Int32.toInt64 4)) &&& Int64.toUInt64 63)).toInt64)) &&& (1085102592571150095 : Int64)) + (((Int64.toUInt64 (((((x0 - ((((Int64.toUInt64 x0) >>> ((Int64.toUInt64 (Int32.toInt64 1)) &&& Int64.toUInt64 63)).toInt64) &&& (6148914691236517205 : Int64))) &&& (3689348814741910323 : Int64)) + ((((Int64.toUInt64 (x0 - ((((Int64.toUInt64 x0) >>> ((Int64.toUInt64 (Int32.toInt64 1)) &&& Int64.toUInt64 63)).toInt64) &&& (6148914691236517205 : Int64)))) >>> ((Int64.toUInt64 (Int32.toInt64 2)) &&& Int64.toUInt64 63)).toInt64) &&& (3689348814741910323 : Int64))) + (((Int64.toUInt64 (((x0 - ((((Int64.toUInt64 x0) >>> ((Int64.toUInt64 (Int32.toInt64 1)) &&& Int64.toUInt64 63)).toInt64) &&& (6148914691236517205 : Int64))) &&& (3689348814741910323 : Int64)) + ((((Int64.toUInt64 (x0 - ((((Int64.toUInt64 x0) >>> ((Int64.toUInt64 (Int32.toInt64 1)) &&& Int64.toUInt64 63)).toInt64) &&& (6148914691236517205 : Int64)))) >>> ((Int64.toUInt64 (Int32.toInt64 2)) &&& Int64.toUInt64 63)).toInt64) &&& (3689348814741910323 : Int64)))) >>> ((Int64.toUInt64 (Int32.toInt64 4)) &&& Int64.toUInt64 63)).toInt64)) &&& (1085102592571150095 : Int64))) >>> ((Int64.toUInt64 (Int32.toInt64 8)) &&& Int64.toUInt64 63)).toInt64))) >>> ((Int64.toUInt64 (Int32.toInt64 16)) &&& Int64.toUInt64 63)).toInt64)) + (((Int64.toUInt64 (((((((x0 - ((((Int64.toUInt64 x0) >>> ((Int64.toUInt64 (Int32.toInt64 1)) &&& Int64.toUInt64 63)).toInt64) &&& (6148914691236517205 : Int64))) &&& (3689348814741910323 : Int64)) + ((((Int64.toUInt64 (x0 - ((((Int64.toUInt64 x0) >>> ((Int64.toUInt64 (Int32.toInt64 1)) &&& Int64.toUInt64 63)).toInt64) &&& (6148914691236517205 : Int64)))) >>> ((Int64.toUInt64 (Int32.toInt64 2)) &&& Int64.toUInt64 63)).toInt64) &&& (3689348814741910323 : Int64))) + (((Int64.toUInt64 (((x0 - ((((Int64.toUInt64 x0) >>> ((Int64.toUInt64 (Int32.toInt64 1)) &&& Int64.toUInt64 63)).toInt64) &&& (6148914691236517205 : Int64))) &&& (3689348814741910323 : Int64)) + ((((Int64.toUInt64 (x0 - ((((Int64.toUInt64 x0) >>> ((Int64.toUInt64 (Int32.toInt64 1)) &&& Int64.toUInt64 63)).toInt64) &&& (6148914691236517205 : Int64)))) >>> ((Int64.toUInt64 (Int32.toInt64 2)) &&& Int64.toUInt64 63)).toInt64) &&& (3689348814741910323 : Int64)))) >>> ((Int64.toUInt64 (Int32.toInt64 4)) &&& Int64.toUInt64 63)).toInt64)) &&& (1085102592571150095 : Int64)) + (((Int64.toUInt64 (((((x0 - ((((Int64.toUInt64 x0) >>> ((Int64.toUInt64 (Int32.toInt64 1)) &&& Int64.toUInt64 63)).toInt64) &&& (6148914691236517205 : Int64))) &&& (3689348814741910323 : Int64)) + ((((Int64.toUInt64 (x0 - ((((Int64.toUInt64 x0) >>> ((Int64.toUInt64 (Int32.toInt64 1)) &&& Int64.toUInt64 63)).toInt64) &&& (6148914691236517205 : Int64)))) >>> ((Int64.toUInt64 (Int32.toInt64 2)) &&& Int64.toUInt64 63)).toInt64) &&& (3689348814741910323 : Int64))) + (((Int64.toUInt64 (((x0 - ((((Int64.toUInt64 x0) >>> ((Int64.toUInt64 (Int32.toInt64 1)) &&& Int64.toUInt64 63)).toInt64) &&& (6148914691236517205 : Int64))) &&& (3689348814741910323 : Int64)) + ((((Int64.toUInt64 (x0 - ((((Int64.toUInt64 x0) >>> ((Int64.toUInt64 (Int32.toInt64 1)) &&& Int64.toUInt64 63)).toInt64) &&& (6148914691236517205 : Int64)))) >>> ((Int64.toUInt64 (Int32.toInt64 2)) &&& Int64.toUInt64 63)).toInt64) &&& (3689348814741910323 : Int64)))) >>> ((Int64.toUInt64 (Int32.toInt64 4)) &&& Int64.toUInt64 63)).toInt64)) &&& (1085102592571150095 : Int64))) >>> ((Int64.toUInt64 (Int32.toInt64 8)) &&& Int64.toUInt64 63)).toInt64)) + (((Int64.toUInt64 ((((((x0 - ((((Int64.toUInt64 x0) >>> ((Int64.toUInt64 (Int32.toInt64 1)) &&& Int64.toUInt64 63)).toInt64) &&& (6148914691236517205 : Int64))) &&& (3689348814741910323 : Int64)) + ((((Int64.toUInt64 (x0 - ((((Int64.toUInt64 x0) >>> ((Int64.toUInt64 (Int32.toInt64 1)) &&& Int64.toUInt64 63)).toInt64) &&& (6148914691236517205 : Int64)))) >>> ((Int64.toUInt64 (Int32.toInt64 2)) &&& Int64.toUInt64 63)).toInt64) &&& (3689348814741910323 : Int64))) + (((Int64.toUInt64 (((x0 - ((((Int64.toUInt64 x0) >>> ((Int64.toUInt64 (Int32.toInt64 1)) &&& Int64.toUInt64 63)).toInt64) &&& (6148914691236517205 : Int64))) &&& (3689348814741910323 : Int64)) + ((((Int64.toUInt64 (x0 - ((((Int64.toUInt64 x0) >>> ((Int64.toUInt64 (Int32.toInt64 1)) &&& Int64.toUInt64 63)).toInt64) &&& (6148914691236517205 : Int64)))) >>> ((Int64.toUInt64 (Int32.toInt64 2)) &&& Int64.toUInt64 63)).toInt64) &&& (3689348814741910323 : Int64)))) >>> ((Int64.toUInt64 (Int32.toInt64 4)) &&& Int64.toUInt64 63)).toInt64)) &&& (1085102592571150095 : Int64)) + (((Int64.toUInt64 (((((x0 - ((((Int64.toUInt64 x0) >>> ((Int64.toUInt64 (Int32.toInt64 1)) &&& Int64.toUInt64 63)).toInt64) &&& (6148914691236517205 : Int64))) &&& (3689348814741910323 : Int64)) + ((((Int64.toUInt64 (x0 - ((((Int64.toUInt64 x0) >>> ((Int64.toUInt64 (Int32.toInt64 1)) &&& Int64.toUInt64 63)).toInt64) &&& (6148914691236517205 : Int64)))) >>> ((Int64.toUInt64 (Int32.toInt64 2)) &&& Int64.toUInt64 63)).toInt64) &&& (3689348814741910323 : Int64))) + (((Int64.toUInt64 (((x0 - ((((Int64.toUInt64 x0) >>> ((Int64.toUInt64 (Int32.toInt64 1)) &&& Int64.toUInt64 63)).toInt64) &&& (6148914691236517205 : Int64))) &&& (3689348814741910323 : Int64)) + ((((Int64.toUInt64 (x0 - ((((Int64.toUInt64 x0) >>> ((Int64.toUInt64 (Int32.toInt64 1)) &&& Int64.toUInt64 63)).toInt64) &&& (6148914691236517205 : Int64)))) >>> ((Int64.toUInt64 (Int32.toInt64 2)) &&& Int64.toUInt64 63)).toInt64) &&& (3689348814741910323 : Int64)))) >>> ((Int64.toUInt64 (Int32.toInt64 4)) &&& Int64.toUInt64 63)).toInt64)) &&& (1085102592571150095 : Int64))) >>> ((Int64.toUInt64 (Int32.toInt64 8)) &&& Int64.toUInt64 63)).toInt64))) >>> ((Int64.toUInt64 (Int32.toInt64 16)) &&& Int64.toUInt64 63)).toInt64))) >>> ((Int64.toUInt64 (Int32.toInt64 32)) &&& Int64.toUInt64 63)).toInt64)))]) hx hb dJ13_bitCount_95d88_54 rfl hl (by decide) rfl (fun ls hl => ?_)
  refine lv_lload_n hx hb dJ13_bitCount_95d88_55 rfl (lv_at hl 0 rfl) ?_
  refine lv_l2i hx hb dJ13_bitCount_95d88_56 rfl ?_
  refine lv_bipush (v := 127) hx hb dJ13_bitCount_95d88_57 (by decide) ?_
  refine lv_iand hx hb dJ13_bitCount_95d88_59 ?_
  obtain ⟨rfl, rfl⟩ := js_rt h
  exact js_iret C hT hr hk dJ13_bitCount_95d88_60
set_option maxHeartbeats 4000000 in
set_option maxRecDepth 20000 in
theorem kJ6_compare_7cf53 {x0 : Int32} {x1 : Int32} {σ σ0 : js_S} {r0 : Int32} (h : fJ6_compare_7cf53 fu x0 x1 σ = some (r0, σ0)) : js_M l D B g nn yJ6_compare_7cf53 cJ6_compare_7cf53 2 (some .int) 0 [.int x0, .int x1] σ (js_QI D B g nn r0 σ0) := by
  refine js_enter (by decide) (Nat.le_of_ble_eq_true rfl) ?_
  intro p e s m args below meth c C hr hk ls hl hT
  have hl : lv_has ls 2 [(0, .int x0), (1, .int x1)] := hl
  obtain ⟨hx, hb, hml, hown, ht, hK, hNw⟩ := id C
  obtain ⟨H, eH⟩ : ∃ H, H = s.heap := ⟨_, rfl⟩
  obtain ⟨locs, eL⟩ : ∃ z : List Loc, z = [] := ⟨_, rfl⟩
  rw [← eH, ← eL]
  rw [← eH, ← eL] at hT
  clear eH eL
  unfold fJ6_compare_7cf53 at h
  refine lv_iload_n hx hb dJ6_compare_7cf53_0 rfl (lv_at hl 0 rfl) ?_
  refine lv_iload_n hx hb dJ6_compare_7cf53_1 rfl (lv_at hl 1 rfl) ?_
  refine lv_icmp_ge (tgt := 9) hx hb dJ6_compare_7cf53_2 (by decide) (fun c1 => ?_) (fun c1 => ?_)
  · rw [if_pos c1] at h
    refine lv_iload_n hx hb dJ6_compare_7cf53_9 rfl (lv_at hl 0 rfl) ?_
    refine lv_iload_n hx hb dJ6_compare_7cf53_10 rfl (lv_at hl 1 rfl) ?_
    refine lv_icmp_ne (tgt := 18) hx hb dJ6_compare_7cf53_11 (by decide) (fun c2 => ?_) (fun c2 => ?_)
    · rw [if_neg c2] at h
      refine lv_iconst (v := 1) hx hb dJ6_compare_7cf53_18 (by decide) ?_
      obtain ⟨rfl, rfl⟩ := js_rt h
      exact js_iret C hT hr hk dJ6_compare_7cf53_19
    · rw [if_pos c2] at h
      refine lv_iconst (v := 0) hx hb dJ6_compare_7cf53_14 (by decide) ?_
      refine lv_goto (tgt := 19) hx hb dJ6_compare_7cf53_15 (by decide) ?_
      obtain ⟨rfl, rfl⟩ := js_rt h
      exact js_iret C hT hr hk dJ6_compare_7cf53_19
  · rw [if_neg c1] at h
    refine lv_iconst (v := (-1)) hx hb dJ6_compare_7cf53_5 (by decide) ?_
    refine lv_goto (tgt := 19) hx hb dJ6_compare_7cf53_6 (by decide) ?_
    obtain ⟨rfl, rfl⟩ := js_rt h
    exact js_iret C hT hr hk dJ6_compare_7cf53_19
set_option maxHeartbeats 4000000 in
set_option maxRecDepth 20000 in
theorem kX11_relationIn {x0 : Int32} {x1 : Int32} {x2 : Int32} {σ σ0 : js_S} {r0 : Int32} (h : fX11_relationIn fu x0 x1 x2 σ = some (r0, σ0)) : js_M l D B g nn yX11_relationIn cX11_relationIn 3 (some .int) 0 [.int x0, .int x1, .int x2] σ (js_QI D B g nn r0 σ0) := by
  refine js_enter (by decide) (Nat.le_of_ble_eq_true rfl) ?_
  intro p e s m args below meth c C hr hk ls hl hT
  have hl : lv_has ls 3 [(0, .int x0), (1, .int x1), (2, .int x2)] := hl
  obtain ⟨hx, hb, hml, hown, ht, hK, hNw⟩ := id C
  obtain ⟨H, eH⟩ : ∃ H, H = s.heap := ⟨_, rfl⟩
  obtain ⟨locs, eL⟩ : ∃ z : List Loc, z = [] := ⟨_, rfl⟩
  rw [← eH, ← eL]
  rw [← eH, ← eL] at hT
  clear eH eL
  unfold fX11_relationIn at h
  refine lv_iload_n hx hb dX11_relationIn_0 rfl (lv_at hl 0 rfl) ?_
  refine lv_iconst (v := 2) hx hb dX11_relationIn_1 (by decide) ?_
  refine lv_iconst (v := 3) hx hb dX11_relationIn_2 (by decide) ?_
  refine lv_iload_n hx hb dX11_relationIn_3 rfl (lv_at hl 1 rfl) ?_
  refine lv_imul hx hb dX11_relationIn_4 ?_
  refine lv_iload_n hx hb dX11_relationIn_5 rfl (lv_at hl 2 rfl) ?_
  refine lv_iadd hx hb dX11_relationIn_6 ?_
  refine lv_imul hx hb dX11_relationIn_7 ?_
  refine lv_ishr hx hb dX11_relationIn_8 ?_
  refine lv_iconst (v := 3) hx hb dX11_relationIn_9 (by decide) ?_
  refine lv_iand hx hb dX11_relationIn_10 ?_
  obtain ⟨rfl, rfl⟩ := js_rt h
  exact js_iret C hT hr hk dX11_relationIn_11
set_option maxHeartbeats 4000000 in
set_option maxRecDepth 20000 in
theorem wX0_decreases_2b (C : js_C D g p m c cX0_decreases 2 s args RX0) (hr : meth.sig.returnType = (some .boolean)) (hk : meth.locks = false) (rc2 : Int32 → Int32 → js_S → Option (Int32 × js_S)) (hrc2 : ∀ (x0 : Int32) (x1 : Int32) (σ : js_S) (r0 : Int32) (σ0 : js_S), rc2 x0 x1 σ = some (r0, σ0) → js_at p l e 1 s m args below meth c D B g nn 2 2 [(0, .int x0), (1, .int x1)] [] σ (js_QI D B g nn r0 σ0)) : ∀ (x0 : Int32) (x1 : Int32) (σ : js_S) (r0 : Int32) (σ0 : js_S), fX0_decreases_2b fu rc2 x0 x1 σ = some (r0, σ0) → js_at p l e 1 s m args below meth c D B g nn 2 2 [(0, .int x0), (1, .int x1)] [] σ (js_QI D B g nn r0 σ0) := by
  obtain ⟨hx, hb, hml, hown, ht, hK, hNw⟩ := id C
  intro x0 x1 σ r0 σ0 h H locs hT ls hl
  unfold fX0_decreases_2b at h
  refine lv_iload_n hx hb dX0_decreases_2 rfl (lv_at hl 1 rfl) ?_
  refine lv_iconst (v := 3) hx hb dX0_decreases_3 (by decide) ?_
  refine lv_icmp_ge (tgt := 25) hx hb dX0_decreases_4 (by decide) (fun c1 => ?_) (fun c1 => ?_)
  · rw [if_pos c1] at h
    refine lv_iconst (v := 0) hx hb dX0_decreases_25 (by decide) ?_
    obtain ⟨rfl, rfl⟩ := js_rt h
    exact js_zret C hT hr hk rfl dX0_decreases_26
  · rw [if_neg c1] at h
    refine lv_iload_n hx hb dX0_decreases_7 rfl (lv_at hl 0 rfl) ?_
    refine lv_iload_n hx hb dX0_decreases_8 rfl (lv_at hl 1 rfl) ?_
    refine lv_iload_n hx hb dX0_decreases_9 rfl (lv_at hl 1 rfl) ?_
    obtain ⟨r2, σ2, hc2, h⟩ := bd_some h
    refine js_backI hT (js_runSN C hT mfX11_relationIn lk_X0_64 (kX11_relationIn  hc2) ⟨Nat.le_of_ble_eq_true rfl, Nat.le_of_ble_eq_true rfl⟩ rfl hl.1 rfl (Nat.le_of_ble_eq_true rfl) ⟨Nat.zero_le _, Nat.zero_le _⟩ dX0_decreases_10) (fun H locs hT => ?_)
    refine lv_iconst (v := 2) hx hb dX0_decreases_13 (by decide) ?_
    refine lv_icmp_ne (tgt := 19) hx hb dX0_decreases_14 (by decide) (fun c3 => ?_) (fun c3 => ?_)
    · rw [if_neg c3] at h
      refine lv_iinc (v := x1 + 1) (lv' := [(1, .int (x1 + 1)), (0, .int x0)]) hx hb dX0_decreases_19 hl (k := 1) rfl rfl (by decide) rfl (fun ls hl => ?_)
      refine lv_goto (tgt := 2) hx hb dX0_decreases_22 (by decide) ?_
      exact hrc2 _ _ _ _ _ h  H locs hT ls (lv_sub hl [1, 0] rfl)
    · rw [if_pos c3] at h
      refine lv_iconst (v := 1) hx hb dX0_decreases_17 (by decide) ?_
      obtain ⟨rfl, rfl⟩ := js_rt h
      exact js_zret C hT hr hk rfl dX0_decreases_18
set_option maxHeartbeats 4000000 in
set_option maxRecDepth 20000 in
theorem wX0_decreases_2 (C : js_C D g p m c cX0_decreases 2 s args RX0) (hr : meth.sig.returnType = (some .boolean)) (hk : meth.locks = false) : ∀ (k : Nat), ∀ (x0 : Int32) (x1 : Int32) (σ : js_S) (r0 : Int32) (σ0 : js_S), fX0_decreases_2 fu k x0 x1 σ = some (r0, σ0) → js_at p l e 1 s m args below meth c D B g nn 2 2 [(0, .int x0), (1, .int x1)] [] σ (js_QI D B g nn r0 σ0) := by
  intro k
  induction k with
  | zero =>
    intro x0 x1 σ r0 σ0 h
    cases h
  | succ k ih =>
    intro x0 x1 σ r0 σ0 h
    exact wX0_decreases_2b C hr hk (fX0_decreases_2 fu k) ih x0 x1 σ r0 σ0 h
set_option maxHeartbeats 4000000 in
set_option maxRecDepth 20000 in
theorem kX0_decreases {x0 : Int32} {σ σ0 : js_S} {r0 : Int32} (h : fX0_decreases fu x0 σ = some (r0, σ0)) : js_M l D B g nn yX0_decreases cX0_decreases 2 (some .boolean) 1 [.int x0] σ (js_QI D B g nn r0 σ0) := by
  refine js_enter (by decide) (Nat.le_of_ble_eq_true rfl) ?_
  intro p e s m args below meth c C hr hk ls hl hT
  have hl : lv_has ls 2 [(0, .int x0)] := hl
  obtain ⟨hx, hb, hml, hown, ht, hK, hNw⟩ := id C
  obtain ⟨H, eH⟩ : ∃ H, H = s.heap := ⟨_, rfl⟩
  obtain ⟨locs, eL⟩ : ∃ z : List Loc, z = [] := ⟨_, rfl⟩
  rw [← eH, ← eL]
  rw [← eH, ← eL] at hT
  clear eH eL
  unfold fX0_decreases at h
  refine lv_iconst (v := 0) hx hb dX0_decreases_0 (by decide) ?_
  refine lv_istore_n (lv' := [(1, .int 0), (0, .int x0)]) hx hb dX0_decreases_1 rfl hl (by decide) rfl (fun ls hl => ?_)
  exact wX0_decreases_2 C hr hk _ _ _ _ _ _ h  H locs hT ls (lv_sub hl [1, 0] rfl)
set_option maxHeartbeats 4000000 in
set_option maxRecDepth 20000 in
theorem wX0_slotOf_10b (C : js_C D g p m c cX0_slotOf 4 s args RX0) (hr : meth.sig.returnType = (some .int)) (hk : meth.locks = false) (rc10 : Nat → Int32 → Int32 → Int32 → js_S → Option (Int32 × js_S)) (hrc10 : ∀ (x0 : Nat) (x1 : Int32) (x2 : Int32) (x3 : Int32) (σ : js_S) (r0 : Int32) (σ0 : js_S), rc10 x0 x1 x2 x3 σ = some (r0, σ0) → ob_ nn 0 x0 → js_at p l e 0 s m args below meth c D B g nn 10 4 [(0, .ref (B + x0)), (1, .int x1), (2, .int x2), (3, .int x3)] [] σ (js_QI D B g nn r0 σ0)) : ∀ (x0 : Nat) (x1 : Int32) (x2 : Int32) (x3 : Int32) (σ : js_S) (r0 : Int32) (σ0 : js_S), fX0_slotOf_10b fu rc10 x0 x1 x2 x3 σ = some (r0, σ0) → ob_ nn 0 x0 → js_at p l e 0 s m args below meth c D B g nn 10 4 [(0, .ref (B + x0)), (1, .int x1), (2, .int x2), (3, .int x3)] [] σ (js_QI D B g nn r0 σ0) := by
  obtain ⟨hx, hb, hml, hown, ht, hK, hNw⟩ := id C
  intro x0 x1 x2 x3 σ r0 σ0 h t0 H locs hT ls hl
  unfold fX0_slotOf_10b at h
  refine lv_iload_n hx hb dX0_slotOf_10 rfl (lv_at hl 3 rfl) ?_
  refine lv_sipush (v := 1024) hx hb dX0_slotOf_11 (by decide) ?_
  refine lv_icmp_ge (tgt := 54) hx hb dX0_slotOf_14 (by decide) (fun c1 => ?_) (fun c1 => ?_)
  · rw [if_pos c1] at h
    refine lv_iload_n hx hb dX0_slotOf_54 rfl (lv_at hl 2 rfl) ?_
    obtain ⟨rfl, rfl⟩ := js_rt h
    exact js_iret C hT hr hk dX0_slotOf_55
  · rw [if_neg c1] at h
    refine lv_aload_n hx hb dX0_slotOf_17 rfl (lv_at hl 0 rfl) ?_
    refine js_gR C hT cfX0 t0 1 (by decide) (q := 20) rfl (by decide) lk_X0_15 dX0_slotOf_18 (fun t2a => ?_)
    refine lv_iload_n hx hb dX0_slotOf_21 rfl (lv_at hl 2 rfl) ?_
    obtain ⟨g3, h⟩ := gd_some _ h
    refine js_iald C hT t2a g3 dX0_slotOf_22 ?_
    refine lv_if_eq (tgt := 38) hx hb dX0_slotOf_23 (by decide) (fun c4 => ?_) (fun c4 => ?_)
    · rw [if_pos c4] at h
      refine lv_iload_n hx hb dX0_slotOf_38 rfl (lv_at hl 2 rfl) ?_
      obtain ⟨rfl, rfl⟩ := js_rt h
      exact js_iret C hT hr hk dX0_slotOf_39
    · rw [if_neg c4] at h
      refine lv_aload_n hx hb dX0_slotOf_26 rfl (lv_at hl 0 rfl) ?_
      refine js_gR C hT cfX0 t0 1 (by decide) (q := 20) rfl (by decide) lk_X0_15 dX0_slotOf_27 (fun t5a => ?_)
      refine lv_iload_n hx hb dX0_slotOf_30 rfl (lv_at hl 2 rfl) ?_
      obtain ⟨g6, h⟩ := gd_some _ h
      refine js_iald C hT t5a g6 dX0_slotOf_31 ?_
      refine lv_iload_n hx hb dX0_slotOf_32 rfl (lv_at hl 1 rfl) ?_
      refine lv_iconst (v := 1) hx hb dX0_slotOf_33 (by decide) ?_
      refine lv_iadd hx hb dX0_slotOf_34 ?_
      refine lv_icmp_ne (tgt := 40) hx hb dX0_slotOf_35 (by decide) (fun c7 => ?_) (fun c7 => ?_)
      · rw [if_neg c7] at h
        refine lv_iload_n hx hb dX0_slotOf_40 rfl (lv_at hl 2 rfl) ?_
        refine lv_iconst (v := 1) hx hb dX0_slotOf_41 (by decide) ?_
        refine lv_iadd hx hb dX0_slotOf_42 ?_
        refine lv_sipush (v := 1023) hx hb dX0_slotOf_43 (by decide) ?_
        refine lv_iand hx hb dX0_slotOf_46 ?_
        refine lv_istore_n (lv' := [(2, .int ((x2 + 1) &&& 1023)), (0, .ref (B + x0)), (1, .int x1), (3, .int x3)]) hx hb dX0_slotOf_47 rfl hl (by decide) rfl (fun ls hl => ?_)
        refine lv_iinc (v := x3 + 1) (lv' := [(3, .int (x3 + 1)), (2, .int ((x2 + 1) &&& 1023)), (0, .ref (B + x0)), (1, .int x1)]) hx hb dX0_slotOf_48 hl (k := 3) rfl rfl (by decide) rfl (fun ls hl => ?_)
        refine lv_goto (tgt := 10) hx hb dX0_slotOf_51 (by decide) ?_
        exact hrc10 _ _ _ _ _ _ _ h t0 H locs hT ls (lv_sub hl [2, 3, 1, 0] rfl)
      · rw [if_pos c7] at h
        refine lv_iload_n hx hb dX0_slotOf_38 rfl (lv_at hl 2 rfl) ?_
        obtain ⟨rfl, rfl⟩ := js_rt h
        exact js_iret C hT hr hk dX0_slotOf_39
set_option maxHeartbeats 4000000 in
set_option maxRecDepth 20000 in
theorem wX0_slotOf_10 (C : js_C D g p m c cX0_slotOf 4 s args RX0) (hr : meth.sig.returnType = (some .int)) (hk : meth.locks = false) : ∀ (k : Nat), ∀ (x0 : Nat) (x1 : Int32) (x2 : Int32) (x3 : Int32) (σ : js_S) (r0 : Int32) (σ0 : js_S), fX0_slotOf_10 fu k x0 x1 x2 x3 σ = some (r0, σ0) → ob_ nn 0 x0 → js_at p l e 0 s m args below meth c D B g nn 10 4 [(0, .ref (B + x0)), (1, .int x1), (2, .int x2), (3, .int x3)] [] σ (js_QI D B g nn r0 σ0) := by
  intro k
  induction k with
  | zero =>
    intro x0 x1 x2 x3 σ r0 σ0 h
    cases h
  | succ k ih =>
    intro x0 x1 x2 x3 σ r0 σ0 h
    exact wX0_slotOf_10b C hr hk (fX0_slotOf_10 fu k) ih x0 x1 x2 x3 σ r0 σ0 h
set_option maxHeartbeats 4000000 in
set_option maxRecDepth 20000 in
theorem kX0_slotOf {x0 : Nat} {x1 : Int32} {σ σ0 : js_S} {r0 : Int32} (t0 : ob_ nn 0 x0) (h : fX0_slotOf fu x0 x1 σ = some (r0, σ0)) : js_M l D B g nn yX0_slotOf cX0_slotOf 4 (some .int) 0 [.ref (B + x0), .int x1] σ (js_QI D B g nn r0 σ0) := by
  refine js_enter (by decide) (Nat.le_of_ble_eq_true rfl) ?_
  intro p e s m args below meth c C hr hk ls hl hT
  have hl : lv_has ls 4 [(0, .ref (B + x0)), (1, .int x1)] := hl
  obtain ⟨hx, hb, hml, hown, ht, hK, hNw⟩ := id C
  obtain ⟨H, eH⟩ : ∃ H, H = s.heap := ⟨_, rfl⟩
  obtain ⟨locs, eL⟩ : ∃ z : List Loc, z = [] := ⟨_, rfl⟩
  rw [← eH, ← eL]
  rw [← eH, ← eL] at hT
  clear eH eL
  unfold fX0_slotOf at h
  refine lv_iload_n hx hb dX0_slotOf_0 rfl (lv_at hl 1 rfl) ?_
  refine lv_ldc hx hb hown (ht _ lk_X0_53) dX0_slotOf_1 ?_
  refine lv_imul hx hb dX0_slotOf_3 ?_
  refine lv_bipush (v := 22) hx hb dX0_slotOf_4 (by decide) ?_
  refine lv_iushr hx hb dX0_slotOf_6 rfl ?_
  refine lv_istore_n (lv' := [(2, .int (((Int32.toUInt32 (x1 * (-1640531535))) >>> ((Int32.toUInt32 22) &&& Int32.toUInt32 31)).toInt32)), (0, .ref (B + x0)), (1, .int x1)]) hx hb dX0_slotOf_7 rfl hl (by decide) rfl (fun ls hl => ?_)
  refine lv_iconst (v := 0) hx hb dX0_slotOf_8 (by decide) ?_
  refine lv_istore_n (lv' := [(3, .int 0), (2, .int (((Int32.toUInt32 (x1 * (-1640531535))) >>> ((Int32.toUInt32 22) &&& Int32.toUInt32 31)).toInt32)), (0, .ref (B + x0)), (1, .int x1)]) hx hb dX0_slotOf_9 rfl hl (by decide) rfl (fun ls hl => ?_)
  exact wX0_slotOf_10 C hr hk _ _ _ _ _ _ _ _ h t0 H locs hT ls (lv_sub hl [2, 3, 1, 0] rfl)
set_option maxHeartbeats 4000000 in
set_option maxRecDepth 20000 in
theorem wX0_include_36 (C : js_C D g p m c cX0_include 3 s args RX0) (hr : meth.sig.returnType = none) (hk : meth.locks = false) : ∀ (x0 : Nat) (σ : js_S) (r0 : Unit) (σ0 : js_S), fX0_include_36 fu x0 σ = some (r0, σ0) → ob_ nn 0 x0 → js_at p l e 1 s m args below meth c D B g nn 36 3 [(0, .ref (B + x0))] [] σ (js_QV D B g nn σ0) := by
  obtain ⟨hx, hb, hml, hown, ht, hK, hNw⟩ := id C
  intro x0 σ r0 σ0 h t0 H locs hT ls hl
  unfold fX0_include_36 at h
  refine lv_aload_n hx hb dX0_include_36 rfl (lv_at hl 0 rfl) ?_
  refine lv_iconst (v := 1) hx hb dX0_include_37 (by decide) ?_
  obtain ⟨σ1, e1, h⟩ := lt_some h
  refine js_pI C hT cfX0 t0 5 (by decide) rfl rfl rfl rfl lk_X0_22 dX0_include_38 (fun H locs hT => ?_)
  rw [e1] at hT
  obtain ⟨rfl, rfl⟩ := js_rt h
  exact js_vret C hT hr hk dX0_include_41
set_option maxHeartbeats 4000000 in
set_option maxRecDepth 20000 in
theorem kX0_include {x0 : Nat} {x1 : Int32} {σ σ0 : js_S} {r0 : Unit} (t0 : ob_ nn 0 x0) (h : fX0_include fu x0 x1 σ = some (r0, σ0)) : js_M l D B g nn yX0_include cX0_include 3 none 1 [.ref (B + x0), .int x1] σ (js_QV D B g nn σ0) := by
  refine js_enter (by decide) (Nat.le_of_ble_eq_true rfl) ?_
  intro p e s m args below meth c C hr hk ls hl hT
  have hl : lv_has ls 3 [(0, .ref (B + x0)), (1, .int x1)] := hl
  obtain ⟨hx, hb, hml, hown, ht, hK, hNw⟩ := id C
  obtain ⟨H, eH⟩ : ∃ H, H = s.heap := ⟨_, rfl⟩
  obtain ⟨locs, eL⟩ : ∃ z : List Loc, z = [] := ⟨_, rfl⟩
  rw [← eH, ← eL]
  rw [← eH, ← eL] at hT
  clear eH eL
  unfold fX0_include at h
  refine lv_aload_n hx hb dX0_include_0 rfl (lv_at hl 0 rfl) ?_
  refine lv_iload_n hx hb dX0_include_1 rfl (lv_at hl 1 rfl) ?_
  obtain ⟨r1, σ1, hc1, h⟩ := bd_some h
  refine js_backI hT (js_runV C hT cfX0 t0 rfl mfX0_slotOf lk_X0_50 (kX0_slotOf t0 hc1) ⟨Nat.le_of_ble_eq_true rfl, Nat.le_of_ble_eq_true rfl⟩ rfl hl.1 rfl (Nat.le_of_ble_eq_true rfl) ⟨Nat.zero_le _, Nat.zero_le _⟩ dX0_include_2) (fun H locs hT => ?_)
  refine lv_istore_n (lv' := [(2, .int r1), (0, .ref (B + x0)), (1, .int x1)]) hx hb dX0_include_5 rfl hl (by decide) rfl (fun ls hl => ?_)
  refine lv_aload_n hx hb dX0_include_6 rfl (lv_at hl 1 rfl) ?_
  refine js_gR C hT cfX0 t0 1 (by decide) (q := 20) rfl (by decide) lk_X0_15 dX0_include_7 (fun t2a => ?_)
  refine lv_iload_n hx hb dX0_include_10 rfl (lv_at hl 0 rfl) ?_
  obtain ⟨g3, h⟩ := gd_some _ h
  refine js_iald C hT t2a g3 dX0_include_11 ?_
  refine lv_iload_n hx hb dX0_include_12 rfl (lv_at hl 2 rfl) ?_
  refine lv_iconst (v := 1) hx hb dX0_include_13 (by decide) ?_
  refine lv_iadd hx hb dX0_include_14 ?_
  refine lv_icmp_ne (tgt := 19) hx hb dX0_include_15 (by decide) (fun c4 => ?_) (fun c4 => ?_)
  · rw [if_neg c4] at h
    refine lv_aload_n hx hb dX0_include_19 rfl (lv_at hl 1 rfl) ?_
    refine js_gI C hT cfX0 t0 2 (by decide) rfl lk_X0_18 dX0_include_20 ?_
    refine lv_if_lt (tgt := 36) hx hb dX0_include_23 (by decide) (fun c5 => ?_) (fun c5 => ?_)
    · rw [if_pos c5] at h
      exact wX0_include_36 C hr hk _ _ _ _ h t0 H locs hT ls (lv_sub hl [1] rfl)
    · rw [if_neg c5] at h
      refine lv_aload_n hx hb dX0_include_26 rfl (lv_at hl 1 rfl) ?_
      refine js_gI C hT cfX0 t0 2 (by decide) rfl lk_X0_18 dX0_include_27 ?_
      refine lv_sipush (v := 400) hx hb dX0_include_30 (by decide) ?_
      refine lv_icmp_lt (tgt := 42) hx hb dX0_include_33 (by decide) (fun c6 => ?_) (fun c6 => ?_)
      · rw [if_pos c6] at h
        refine lv_aload_n hx hb dX0_include_42 rfl (lv_at hl 1 rfl) ?_
        refine js_gR C hT cfX0 t0 1 (by decide) (q := 20) rfl (by decide) lk_X0_15 dX0_include_43 (fun t7a => ?_)
        refine lv_iload_n hx hb dX0_include_46 rfl (lv_at hl 0 rfl) ?_
        refine lv_iload_n hx hb dX0_include_47 rfl (lv_at hl 2 rfl) ?_
        refine lv_iconst (v := 1) hx hb dX0_include_48 (by decide) ?_
        refine lv_iadd hx hb dX0_include_49 ?_
        obtain ⟨g8, h⟩ := gd_some _ h
        obtain ⟨σ8, e8, h⟩ := lt_some h
        refine js_iast C hT t7a g8 dX0_include_50 (fun H locs hT => ?_)
        rw [e8] at hT
        refine lv_aload_n hx hb dX0_include_51 rfl (lv_at hl 1 rfl) ?_
        refine js_gR C hT cfX0 t0 0 (by decide) (q := 20) rfl (by decide) lk_X0_9 dX0_include_52 (fun t9a => ?_)
        refine lv_aload_n hx hb dX0_include_55 rfl (lv_at hl 1 rfl) ?_
        refine js_gI C hT cfX0 t0 2 (by decide) rfl lk_X0_18 dX0_include_56 ?_
        refine lv_iload_n hx hb dX0_include_59 rfl (lv_at hl 2 rfl) ?_
        obtain ⟨g10, h⟩ := gd_some _ h
        obtain ⟨σ10, e10, h⟩ := lt_some h
        refine js_iast C hT t9a g10 dX0_include_60 (fun H locs hT => ?_)
        rw [e10] at hT
        refine lv_aload_n hx hb dX0_include_61 rfl (lv_at hl 1 rfl) ?_
        refine lv_dup hx hb dX0_include_62 rfl ?_
        refine js_gI C hT cfX0 t0 2 (by decide) rfl lk_X0_18 dX0_include_63 ?_
        refine lv_iconst (v := 1) hx hb dX0_include_66 (by decide) ?_
        refine lv_iadd hx hb dX0_include_67 ?_
        obtain ⟨σ11, e11, h⟩ := lt_some h
        refine js_pI C hT cfX0 t0 2 (by decide) rfl rfl rfl rfl lk_X0_18 dX0_include_68 (fun H locs hT => ?_)
        rw [e11] at hT
        obtain ⟨rfl, rfl⟩ := js_rt h
        exact js_vret C hT hr hk dX0_include_71
      · rw [if_neg c6] at h
        exact wX0_include_36 C hr hk _ _ _ _ h t0 H locs hT ls (lv_sub hl [1] rfl)
  · rw [if_pos c4] at h
    obtain ⟨rfl, rfl⟩ := js_rt h
    exact js_vret C hT hr hk dX0_include_18
set_option maxHeartbeats 4000000 in
set_option maxRecDepth 20000 in
theorem wX11_chained_8 (C : js_C D g p m c cX11_chained 2 s args RX11) (hr : meth.sig.returnType = (some .int)) (hk : meth.locks = false) : ∀  (σ : js_S) (r0 : Int32) (σ0 : js_S), fX11_chained_8 fu  σ = some (r0, σ0) → js_at p l e 0 s m args below meth c D B g nn 8 2 [] [] σ (js_QI D B g nn r0 σ0) := by
  obtain ⟨hx, hb, hml, hown, ht, hK, hNw⟩ := id C
  intro  σ r0 σ0 h H locs hT ls hl
  unfold fX11_chained_8 at h
  refine lv_iconst (v := 0) hx hb dX11_chained_8 (by decide) ?_
  refine lv_goto (tgt := 17) hx hb dX11_chained_9 (by decide) ?_
  obtain ⟨rfl, rfl⟩ := js_rt h
  exact js_iret C hT hr hk dX11_chained_17
set_option maxHeartbeats 4000000 in
set_option maxRecDepth 20000 in
theorem kX11_chained {x0 : Int32} {x1 : Int32} {σ σ0 : js_S} {r0 : Int32} (h : fX11_chained fu x0 x1 σ = some (r0, σ0)) : js_M l D B g nn yX11_chained cX11_chained 2 (some .int) 0 [.int x0, .int x1] σ (js_QI D B g nn r0 σ0) := by
  refine js_enter (by decide) (Nat.le_of_ble_eq_true rfl) ?_
  intro p e s m args below meth c C hr hk ls hl hT
  have hl : lv_has ls 2 [(0, .int x0), (1, .int x1)] := hl
  obtain ⟨hx, hb, hml, hown, ht, hK, hNw⟩ := id C
  obtain ⟨H, eH⟩ : ∃ H, H = s.heap := ⟨_, rfl⟩
  obtain ⟨locs, eL⟩ : ∃ z : List Loc, z = [] := ⟨_, rfl⟩
  rw [← eH, ← eL]
  rw [← eH, ← eL] at hT
  clear eH eL
  unfold fX11_chained at h
  refine lv_iload_n hx hb dX11_chained_0 rfl (lv_at hl 0 rfl) ?_
  refine lv_if_eq (tgt := 8) hx hb dX11_chained_1 (by decide) (fun c1 => ?_) (fun c1 => ?_)
  · rw [if_pos c1] at h
    exact wX11_chained_8 C hr hk  _ _ _ h  H locs hT ls (lv_sub hl [] rfl)
  · rw [if_neg c1] at h
    refine lv_iload_n hx hb dX11_chained_4 rfl (lv_at hl 1 rfl) ?_
    refine lv_if_ne (tgt := 12) hx hb dX11_chained_5 (by decide) (fun c2 => ?_) (fun c2 => ?_)
    · rw [if_neg c2] at h
      refine lv_iload_n hx hb dX11_chained_12 rfl (lv_at hl 0 rfl) ?_
      refine lv_iload_n hx hb dX11_chained_13 rfl (lv_at hl 1 rfl) ?_
      refine va_mmax hx hb (hml.trans hl.1.symm) hown (ht _ lk_X11_365) (ht _ js_mmax1) (ht _ js_mth) (ht _ js_mmax2) (Nat.le_of_ble_eq_true rfl) (Nat.le_of_ble_eq_true rfl) (Nat.zero_le _) (Nat.zero_le _) dX11_chained_14 ?_
      obtain ⟨rfl, rfl⟩ := js_rt h
      exact js_iret C hT hr hk dX11_chained_17
    · rw [if_pos c2] at h
      exact wX11_chained_8 C hr hk  _ _ _ h  H locs hT ls (lv_sub hl [] rfl)
set_option maxHeartbeats 4000000 in
set_option maxRecDepth 20000 in
theorem kX11_emptyGraph {x0 : Int32} {x1 : Int32} {σ σ0 : js_S} {r0 : Int32} (h : fX11_emptyGraph fu x0 x1 σ = some (r0, σ0)) : js_M l D B g nn yX11_emptyGraph cX11_emptyGraph 2 (some .int) 0 [.int x0, .int x1] σ (js_QI D B g nn r0 σ0) := by
  refine js_enter (by decide) (Nat.le_of_ble_eq_true rfl) ?_
  intro p e s m args below meth c C hr hk ls hl hT
  have hl : lv_has ls 2 [(0, .int x0), (1, .int x1)] := hl
  obtain ⟨hx, hb, hml, hown, ht, hK, hNw⟩ := id C
  obtain ⟨H, eH⟩ : ∃ H, H = s.heap := ⟨_, rfl⟩
  obtain ⟨locs, eL⟩ : ∃ z : List Loc, z = [] := ⟨_, rfl⟩
  rw [← eH, ← eL]
  rw [← eH, ← eL] at hT
  clear eH eL
  unfold fX11_emptyGraph at h
  refine lv_iload_n hx hb dX11_emptyGraph_0 rfl (lv_at hl 0 rfl) ?_
  refine lv_bipush (v := 18) hx hb dX11_emptyGraph_1 (by decide) ?_
  refine lv_ishl hx hb dX11_emptyGraph_3 ?_
  refine lv_iload_n hx hb dX11_emptyGraph_4 rfl (lv_at hl 1 rfl) ?_
  refine lv_bipush (v := 20) hx hb dX11_emptyGraph_5 (by decide) ?_
  refine lv_ishl hx hb dX11_emptyGraph_7 ?_
  refine lv_ior hx hb dX11_emptyGraph_8 ?_
  obtain ⟨rfl, rfl⟩ := js_rt h
  exact js_iret C hT hr hk dX11_emptyGraph_9
set_option maxHeartbeats 4000000 in
set_option maxRecDepth 20000 in
theorem kX11_sourceOf {x0 : Int32} {σ σ0 : js_S} {r0 : Int32} (h : fX11_sourceOf fu x0 σ = some (r0, σ0)) : js_M l D B g nn yX11_sourceOf cX11_sourceOf 1 (some .int) 0 [.int x0] σ (js_QI D B g nn r0 σ0) := by
  refine js_enter (by decide) (Nat.le_of_ble_eq_true rfl) ?_
  intro p e s m args below meth c C hr hk ls hl hT
  have hl : lv_has ls 1 [(0, .int x0)] := hl
  obtain ⟨hx, hb, hml, hown, ht, hK, hNw⟩ := id C
  obtain ⟨H, eH⟩ : ∃ H, H = s.heap := ⟨_, rfl⟩
  obtain ⟨locs, eL⟩ : ∃ z : List Loc, z = [] := ⟨_, rfl⟩
  rw [← eH, ← eL]
  rw [← eH, ← eL] at hT
  clear eH eL
  unfold fX11_sourceOf at h
  refine lv_iload_n hx hb dX11_sourceOf_0 rfl (lv_at hl 0 rfl) ?_
  refine lv_bipush (v := 18) hx hb dX11_sourceOf_1 (by decide) ?_
  refine lv_ishr hx hb dX11_sourceOf_3 ?_
  refine lv_iconst (v := 3) hx hb dX11_sourceOf_4 (by decide) ?_
  refine lv_iand hx hb dX11_sourceOf_5 ?_
  obtain ⟨rfl, rfl⟩ := js_rt h
  exact js_iret C hT hr hk dX11_sourceOf_6
set_option maxHeartbeats 4000000 in
set_option maxRecDepth 20000 in
theorem kX11_targetOf {x0 : Int32} {σ σ0 : js_S} {r0 : Int32} (h : fX11_targetOf fu x0 σ = some (r0, σ0)) : js_M l D B g nn yX11_targetOf cX11_targetOf 1 (some .int) 0 [.int x0] σ (js_QI D B g nn r0 σ0) := by
  refine js_enter (by decide) (Nat.le_of_ble_eq_true rfl) ?_
  intro p e s m args below meth c C hr hk ls hl hT
  have hl : lv_has ls 1 [(0, .int x0)] := hl
  obtain ⟨hx, hb, hml, hown, ht, hK, hNw⟩ := id C
  obtain ⟨H, eH⟩ : ∃ H, H = s.heap := ⟨_, rfl⟩
  obtain ⟨locs, eL⟩ : ∃ z : List Loc, z = [] := ⟨_, rfl⟩
  rw [← eH, ← eL]
  rw [← eH, ← eL] at hT
  clear eH eL
  unfold fX11_targetOf at h
  refine lv_iload_n hx hb dX11_targetOf_0 rfl (lv_at hl 0 rfl) ?_
  refine lv_bipush (v := 20) hx hb dX11_targetOf_1 (by decide) ?_
  refine lv_ishr hx hb dX11_targetOf_3 ?_
  refine lv_iconst (v := 3) hx hb dX11_targetOf_4 (by decide) ?_
  refine lv_iand hx hb dX11_targetOf_5 ?_
  obtain ⟨rfl, rfl⟩ := js_rt h
  exact js_iret C hT hr hk dX11_targetOf_6
set_option maxHeartbeats 4000000 in
set_option maxRecDepth 20000 in
theorem kX11_withRelation {x0 : Int32} {x1 : Int32} {x2 : Int32} {x3 : Int32} {σ σ0 : js_S} {r0 : Int32} (h : fX11_withRelation fu x0 x1 x2 x3 σ = some (r0, σ0)) : js_M l D B g nn yX11_withRelation cX11_withRelation 4 (some .int) 0 [.int x0, .int x1, .int x2, .int x3] σ (js_QI D B g nn r0 σ0) := by
  refine js_enter (by decide) (Nat.le_of_ble_eq_true rfl) ?_
  intro p e s m args below meth c C hr hk ls hl hT
  have hl : lv_has ls 4 [(0, .int x0), (1, .int x1), (2, .int x2), (3, .int x3)] := hl
  obtain ⟨hx, hb, hml, hown, ht, hK, hNw⟩ := id C
  obtain ⟨H, eH⟩ : ∃ H, H = s.heap := ⟨_, rfl⟩
  obtain ⟨locs, eL⟩ : ∃ z : List Loc, z = [] := ⟨_, rfl⟩
  rw [← eH, ← eL]
  rw [← eH, ← eL] at hT
  clear eH eL
  unfold fX11_withRelation at h
  refine lv_iload_n hx hb dX11_withRelation_0 rfl (lv_at hl 0 rfl) ?_
  refine lv_iload_n hx hb dX11_withRelation_1 rfl (lv_at hl 3 rfl) ?_
  refine lv_iconst (v := 2) hx hb dX11_withRelation_2 (by decide) ?_
  refine lv_iconst (v := 3) hx hb dX11_withRelation_3 (by decide) ?_
  refine lv_iload_n hx hb dX11_withRelation_4 rfl (lv_at hl 1 rfl) ?_
  refine lv_imul hx hb dX11_withRelation_5 ?_
  refine lv_iload_n hx hb dX11_withRelation_6 rfl (lv_at hl 2 rfl) ?_
  refine lv_iadd hx hb dX11_withRelation_7 ?_
  refine lv_imul hx hb dX11_withRelation_8 ?_
  refine lv_ishl hx hb dX11_withRelation_9 ?_
  refine lv_ior hx hb dX11_withRelation_10 ?_
  obtain ⟨rfl, rfl⟩ := js_rt h
  exact js_iret C hT hr hk dX11_withRelation_11
set_option maxHeartbeats 4000000 in
set_option maxRecDepth 20000 in
theorem wX11_composed_34b (C : js_C D g p m c cX11_composed 7 s args RX11) (hr : meth.sig.returnType = (some .int)) (hk : meth.locks = false) (rc14 : Int32 → Int32 → Int32 → Int32 → js_S → Option (Int32 × js_S)) (hrc14 : ∀ (x0 : Int32) (x1 : Int32) (x2 : Int32) (x3 : Int32) (σ : js_S) (r0 : Int32) (σ0 : js_S), rc14 x0 x1 x2 x3 σ = some (r0, σ0) → js_at p l e 1 s m args below meth c D B g nn 14 7 [(0, .int x0), (1, .int x1), (2, .int x2), (3, .int x3)] [] σ (js_QI D B g nn r0 σ0)) (rc22 : Int32 → Int32 → Int32 → Int32 → Int32 → js_S → Option (Int32 × js_S)) (hrc22 : ∀ (x0 : Int32) (x1 : Int32) (x2 : Int32) (x3 : Int32) (x4 : Int32) (σ : js_S) (r0 : Int32) (σ0 : js_S), rc22 x0 x1 x2 x3 x4 σ = some (r0, σ0) → js_at p l e 1 s m args below meth c D B g nn 22 7 [(0, .int x0), (1, .int x1), (2, .int x2), (3, .int x3), (4, .int x4)] [] σ (js_QI D B g nn r0 σ0)) (rc34 : Int32 → Int32 → Int32 → Int32 → Int32 → Int32 → Int32 → js_S → Option (Int32 × js_S)) (hrc34 : ∀ (x0 : Int32) (x1 : Int32) (x2 : Int32) (x3 : Int32) (x4 : Int32) (x5 : Int32) (x6 : Int32) (σ : js_S) (r0 : Int32) (σ0 : js_S), rc34 x0 x1 x2 x3 x4 x5 x6 σ = some (r0, σ0) → js_at p l e 1 s m args below meth c D B g nn 34 7 [(0, .int x0), (1, .int x1), (2, .int x2), (3, .int x3), (4, .int x4), (5, .int x5), (6, .int x6)] [] σ (js_QI D B g nn r0 σ0)) : ∀ (x0 : Int32) (x1 : Int32) (x2 : Int32) (x3 : Int32) (x4 : Int32) (x5 : Int32) (x6 : Int32) (σ : js_S) (r0 : Int32) (σ0 : js_S), fX11_composed_34b fu rc14 rc22 rc34 x0 x1 x2 x3 x4 x5 x6 σ = some (r0, σ0) → js_at p l e 1 s m args below meth c D B g nn 34 7 [(0, .int x0), (1, .int x1), (2, .int x2), (3, .int x3), (4, .int x4), (5, .int x5), (6, .int x6)] [] σ (js_QI D B g nn r0 σ0) := by
  obtain ⟨hx, hb, hml, hown, ht, hK, hNw⟩ := id C
  intro x0 x1 x2 x3 x4 x5 x6 σ r0 σ0 h H locs hT ls hl
  unfold fX11_composed_34b at h
  refine lv_iload hx hb dX11_composed_34 (lv_at hl 6 rfl) ?_
  refine lv_iconst (v := 3) hx hb dX11_composed_36 (by decide) ?_
  refine lv_icmp_ge (tgt := 71) hx hb dX11_composed_37 (by decide) (fun c1 => ?_) (fun c1 => ?_)
  · rw [if_pos c1] at h
    refine lv_iload_n hx hb dX11_composed_71 rfl (lv_at hl 2 rfl) ?_
    refine lv_iload_n hx hb dX11_composed_72 rfl (lv_at hl 3 rfl) ?_
    refine lv_iload hx hb dX11_composed_73 (lv_at hl 4 rfl) ?_
    refine lv_iload hx hb dX11_composed_75 (lv_at hl 5 rfl) ?_
    obtain ⟨r2, σ2, hc2, h⟩ := bd_some h
    refine js_backI hT (js_runS C hT mfX11_withRelation lk_X11_370 (kX11_withRelation  hc2) ⟨Nat.le_of_ble_eq_true rfl, Nat.le_of_ble_eq_true rfl⟩ rfl hl.1 rfl (Nat.le_of_ble_eq_true rfl) ⟨Nat.zero_le _, Nat.zero_le _⟩ dX11_composed_77) (fun H locs hT => ?_)
    refine lv_istore_n (lv' := [(2, .int r2), (0, .int x0), (1, .int x1), (3, .int x3), (4, .int x4), (5, .int x5), (6, .int x6)]) hx hb dX11_composed_80 rfl hl (by decide) rfl (fun ls hl => ?_)
    refine lv_iinc (v := x4 + 1) (lv' := [(4, .int (x4 + 1)), (2, .int r2), (0, .int x0), (1, .int x1), (3, .int x3), (5, .int x5), (6, .int x6)]) hx hb dX11_composed_81 hl (k := 4) rfl rfl (by decide) rfl (fun ls hl => ?_)
    refine lv_goto (tgt := 22) hx hb dX11_composed_84 (by decide) ?_
    exact hrc22 _ _ _ _ _ _ _ _ h  H locs hT ls (lv_sub hl [2, 3, 1, 4, 0] rfl)
  · rw [if_neg c1] at h
    refine lv_iload hx hb dX11_composed_40 (lv_at hl 5 rfl) ?_
    refine lv_iload_n hx hb dX11_composed_42 rfl (lv_at hl 0 rfl) ?_
    refine lv_iload_n hx hb dX11_composed_43 rfl (lv_at hl 3 rfl) ?_
    refine lv_iload hx hb dX11_composed_44 (lv_at hl 6 rfl) ?_
    obtain ⟨r3, σ3, hc3, h⟩ := bd_some h
    refine js_backI hT (js_runS C hT mfX11_relationIn lk_X11_187 (kX11_relationIn  hc3) ⟨Nat.le_of_ble_eq_true rfl, Nat.le_of_ble_eq_true rfl⟩ rfl hl.1 rfl (Nat.le_of_ble_eq_true rfl) ⟨Nat.zero_le _, Nat.zero_le _⟩ dX11_composed_46) (fun H locs hT => ?_)
    refine lv_iload_n hx hb dX11_composed_49 rfl (lv_at hl 1 rfl) ?_
    refine lv_iload hx hb dX11_composed_50 (lv_at hl 6 rfl) ?_
    refine lv_iload hx hb dX11_composed_52 (lv_at hl 4 rfl) ?_
    obtain ⟨r4, σ4, hc4, h⟩ := bd_some h
    refine js_backI hT (js_runS C hT mfX11_relationIn lk_X11_187 (kX11_relationIn  hc4) ⟨Nat.le_of_ble_eq_true rfl, Nat.le_of_ble_eq_true rfl⟩ rfl hl.1 rfl (Nat.le_of_ble_eq_true rfl) ⟨Nat.zero_le _, Nat.zero_le _⟩ dX11_composed_54) (fun H locs hT => ?_)
    obtain ⟨r5, σ5, hc5, h⟩ := bd_some h
    refine js_backI hT (js_runS C hT mfX11_chained lk_X11_362 (kX11_chained  hc5) ⟨Nat.le_of_ble_eq_true rfl, Nat.le_of_ble_eq_true rfl⟩ rfl hl.1 rfl (Nat.le_of_ble_eq_true rfl) ⟨Nat.zero_le _, Nat.zero_le _⟩ dX11_composed_57) (fun H locs hT => ?_)
    refine va_mmax hx hb (hml.trans hl.1.symm) hown (ht _ lk_X11_365) (ht _ js_mmax1) (ht _ js_mth) (ht _ js_mmax2) (Nat.le_of_ble_eq_true rfl) (Nat.le_of_ble_eq_true rfl) (Nat.zero_le _) (Nat.zero_le _) dX11_composed_60 ?_
    refine lv_istore (lv' := [(5, .int (if x5 < r5 then r5 else x5)), (0, .int x0), (1, .int x1), (2, .int x2), (3, .int x3), (4, .int x4), (6, .int x6)]) hx hb dX11_composed_63 hl (by decide) rfl (fun ls hl => ?_)
    refine lv_iinc (v := x6 + 1) (lv' := [(6, .int (x6 + 1)), (5, .int (if x5 < r5 then r5 else x5)), (0, .int x0), (1, .int x1), (2, .int x2), (3, .int x3), (4, .int x4)]) hx hb dX11_composed_65 hl (k := 6) rfl rfl (by decide) rfl (fun ls hl => ?_)
    refine lv_goto (tgt := 34) hx hb dX11_composed_68 (by decide) ?_
    exact hrc34 _ _ _ _ _ _ _ _ _ _ h  H locs hT ls (lv_sub hl [2, 3, 4, 5, 6, 1, 0] rfl)
set_option maxHeartbeats 4000000 in
set_option maxRecDepth 20000 in
theorem wX11_composed_34 (C : js_C D g p m c cX11_composed 7 s args RX11) (hr : meth.sig.returnType = (some .int)) (hk : meth.locks = false) (rc14 : Int32 → Int32 → Int32 → Int32 → js_S → Option (Int32 × js_S)) (hrc14 : ∀ (x0 : Int32) (x1 : Int32) (x2 : Int32) (x3 : Int32) (σ : js_S) (r0 : Int32) (σ0 : js_S), rc14 x0 x1 x2 x3 σ = some (r0, σ0) → js_at p l e 1 s m args below meth c D B g nn 14 7 [(0, .int x0), (1, .int x1), (2, .int x2), (3, .int x3)] [] σ (js_QI D B g nn r0 σ0)) (rc22 : Int32 → Int32 → Int32 → Int32 → Int32 → js_S → Option (Int32 × js_S)) (hrc22 : ∀ (x0 : Int32) (x1 : Int32) (x2 : Int32) (x3 : Int32) (x4 : Int32) (σ : js_S) (r0 : Int32) (σ0 : js_S), rc22 x0 x1 x2 x3 x4 σ = some (r0, σ0) → js_at p l e 1 s m args below meth c D B g nn 22 7 [(0, .int x0), (1, .int x1), (2, .int x2), (3, .int x3), (4, .int x4)] [] σ (js_QI D B g nn r0 σ0)) : ∀ (k : Nat), ∀ (x0 : Int32) (x1 : Int32) (x2 : Int32) (x3 : Int32) (x4 : Int32) (x5 : Int32) (x6 : Int32) (σ : js_S) (r0 : Int32) (σ0 : js_S), fX11_composed_34 fu rc14 rc22 k x0 x1 x2 x3 x4 x5 x6 σ = some (r0, σ0) → js_at p l e 1 s m args below meth c D B g nn 34 7 [(0, .int x0), (1, .int x1), (2, .int x2), (3, .int x3), (4, .int x4), (5, .int x5), (6, .int x6)] [] σ (js_QI D B g nn r0 σ0) := by
  intro k
  induction k with
  | zero =>
    intro x0 x1 x2 x3 x4 x5 x6 σ r0 σ0 h
    cases h
  | succ k ih =>
    intro x0 x1 x2 x3 x4 x5 x6 σ r0 σ0 h
    exact wX11_composed_34b C hr hk rc14 hrc14 rc22 hrc22 (fX11_composed_34 fu rc14 rc22 k) ih x0 x1 x2 x3 x4 x5 x6 σ r0 σ0 h
set_option maxHeartbeats 4000000 in
set_option maxRecDepth 20000 in
theorem wX11_composed_22b (C : js_C D g p m c cX11_composed 7 s args RX11) (hr : meth.sig.returnType = (some .int)) (hk : meth.locks = false) (rc14 : Int32 → Int32 → Int32 → Int32 → js_S → Option (Int32 × js_S)) (hrc14 : ∀ (x0 : Int32) (x1 : Int32) (x2 : Int32) (x3 : Int32) (σ : js_S) (r0 : Int32) (σ0 : js_S), rc14 x0 x1 x2 x3 σ = some (r0, σ0) → js_at p l e 1 s m args below meth c D B g nn 14 7 [(0, .int x0), (1, .int x1), (2, .int x2), (3, .int x3)] [] σ (js_QI D B g nn r0 σ0)) (rc22 : Int32 → Int32 → Int32 → Int32 → Int32 → js_S → Option (Int32 × js_S)) (hrc22 : ∀ (x0 : Int32) (x1 : Int32) (x2 : Int32) (x3 : Int32) (x4 : Int32) (σ : js_S) (r0 : Int32) (σ0 : js_S), rc22 x0 x1 x2 x3 x4 σ = some (r0, σ0) → js_at p l e 1 s m args below meth c D B g nn 22 7 [(0, .int x0), (1, .int x1), (2, .int x2), (3, .int x3), (4, .int x4)] [] σ (js_QI D B g nn r0 σ0)) : ∀ (x0 : Int32) (x1 : Int32) (x2 : Int32) (x3 : Int32) (x4 : Int32) (σ : js_S) (r0 : Int32) (σ0 : js_S), fX11_composed_22b fu rc14 rc22 x0 x1 x2 x3 x4 σ = some (r0, σ0) → js_at p l e 1 s m args below meth c D B g nn 22 7 [(0, .int x0), (1, .int x1), (2, .int x2), (3, .int x3), (4, .int x4)] [] σ (js_QI D B g nn r0 σ0) := by
  obtain ⟨hx, hb, hml, hown, ht, hK, hNw⟩ := id C
  intro x0 x1 x2 x3 x4 σ r0 σ0 h H locs hT ls hl
  unfold fX11_composed_22b at h
  refine lv_iload hx hb dX11_composed_22 (lv_at hl 4 rfl) ?_
  refine lv_iconst (v := 3) hx hb dX11_composed_24 (by decide) ?_
  refine lv_icmp_ge (tgt := 87) hx hb dX11_composed_25 (by decide) (fun c1 => ?_) (fun c1 => ?_)
  · rw [if_pos c1] at h
    refine lv_iinc (v := x3 + 1) (lv' := [(3, .int (x3 + 1)), (0, .int x0), (1, .int x1), (2, .int x2), (4, .int x4)]) hx hb dX11_composed_87 hl (k := 3) rfl rfl (by decide) rfl (fun ls hl => ?_)
    refine lv_goto (tgt := 14) hx hb dX11_composed_90 (by decide) ?_
    exact hrc14 _ _ _ _ _ _ _ h  H locs hT ls (lv_sub hl [1, 2, 3, 0] rfl)
  · rw [if_neg c1] at h
    refine lv_iconst (v := 0) hx hb dX11_composed_28 (by decide) ?_
    refine lv_istore (lv' := [(5, .int 0), (0, .int x0), (1, .int x1), (2, .int x2), (3, .int x3), (4, .int x4)]) hx hb dX11_composed_29 hl (by decide) rfl (fun ls hl => ?_)
    refine lv_iconst (v := 0) hx hb dX11_composed_31 (by decide) ?_
    refine lv_istore (lv' := [(6, .int 0), (5, .int 0), (0, .int x0), (1, .int x1), (2, .int x2), (3, .int x3), (4, .int x4)]) hx hb dX11_composed_32 hl (by decide) rfl (fun ls hl => ?_)
    exact wX11_composed_34 C hr hk rc14 hrc14 rc22 hrc22 _ _ _ _ _ _ _ _ _ _ _ h  H locs hT ls (lv_sub hl [2, 3, 4, 5, 6, 1, 0] rfl)
set_option maxHeartbeats 4000000 in
set_option maxRecDepth 20000 in
theorem wX11_composed_22 (C : js_C D g p m c cX11_composed 7 s args RX11) (hr : meth.sig.returnType = (some .int)) (hk : meth.locks = false) (rc14 : Int32 → Int32 → Int32 → Int32 → js_S → Option (Int32 × js_S)) (hrc14 : ∀ (x0 : Int32) (x1 : Int32) (x2 : Int32) (x3 : Int32) (σ : js_S) (r0 : Int32) (σ0 : js_S), rc14 x0 x1 x2 x3 σ = some (r0, σ0) → js_at p l e 1 s m args below meth c D B g nn 14 7 [(0, .int x0), (1, .int x1), (2, .int x2), (3, .int x3)] [] σ (js_QI D B g nn r0 σ0)) : ∀ (k : Nat), ∀ (x0 : Int32) (x1 : Int32) (x2 : Int32) (x3 : Int32) (x4 : Int32) (σ : js_S) (r0 : Int32) (σ0 : js_S), fX11_composed_22 fu rc14 k x0 x1 x2 x3 x4 σ = some (r0, σ0) → js_at p l e 1 s m args below meth c D B g nn 22 7 [(0, .int x0), (1, .int x1), (2, .int x2), (3, .int x3), (4, .int x4)] [] σ (js_QI D B g nn r0 σ0) := by
  intro k
  induction k with
  | zero =>
    intro x0 x1 x2 x3 x4 σ r0 σ0 h
    cases h
  | succ k ih =>
    intro x0 x1 x2 x3 x4 σ r0 σ0 h
    exact wX11_composed_22b C hr hk rc14 hrc14 (fX11_composed_22 fu rc14 k) ih x0 x1 x2 x3 x4 σ r0 σ0 h
set_option maxHeartbeats 4000000 in
set_option maxRecDepth 20000 in
theorem wX11_composed_14b (C : js_C D g p m c cX11_composed 7 s args RX11) (hr : meth.sig.returnType = (some .int)) (hk : meth.locks = false) (rc14 : Int32 → Int32 → Int32 → Int32 → js_S → Option (Int32 × js_S)) (hrc14 : ∀ (x0 : Int32) (x1 : Int32) (x2 : Int32) (x3 : Int32) (σ : js_S) (r0 : Int32) (σ0 : js_S), rc14 x0 x1 x2 x3 σ = some (r0, σ0) → js_at p l e 1 s m args below meth c D B g nn 14 7 [(0, .int x0), (1, .int x1), (2, .int x2), (3, .int x3)] [] σ (js_QI D B g nn r0 σ0)) : ∀ (x0 : Int32) (x1 : Int32) (x2 : Int32) (x3 : Int32) (σ : js_S) (r0 : Int32) (σ0 : js_S), fX11_composed_14b fu rc14 x0 x1 x2 x3 σ = some (r0, σ0) → js_at p l e 1 s m args below meth c D B g nn 14 7 [(0, .int x0), (1, .int x1), (2, .int x2), (3, .int x3)] [] σ (js_QI D B g nn r0 σ0) := by
  obtain ⟨hx, hb, hml, hown, ht, hK, hNw⟩ := id C
  intro x0 x1 x2 x3 σ r0 σ0 h H locs hT ls hl
  unfold fX11_composed_14b at h
  refine lv_iload_n hx hb dX11_composed_14 rfl (lv_at hl 3 rfl) ?_
  refine lv_iconst (v := 3) hx hb dX11_composed_15 (by decide) ?_
  refine lv_icmp_ge (tgt := 93) hx hb dX11_composed_16 (by decide) (fun c1 => ?_) (fun c1 => ?_)
  · rw [if_pos c1] at h
    refine lv_iload_n hx hb dX11_composed_93 rfl (lv_at hl 2 rfl) ?_
    obtain ⟨rfl, rfl⟩ := js_rt h
    exact js_iret C hT hr hk dX11_composed_94
  · rw [if_neg c1] at h
    refine lv_iconst (v := 0) hx hb dX11_composed_19 (by decide) ?_
    refine lv_istore (lv' := [(4, .int 0), (0, .int x0), (1, .int x1), (2, .int x2), (3, .int x3)]) hx hb dX11_composed_20 hl (by decide) rfl (fun ls hl => ?_)
    exact wX11_composed_22 C hr hk rc14 hrc14 _ _ _ _ _ _ _ _ _ h  H locs hT ls (lv_sub hl [1, 2, 3, 4, 0] rfl)
set_option maxHeartbeats 4000000 in
set_option maxRecDepth 20000 in
theorem wX11_composed_14 (C : js_C D g p m c cX11_composed 7 s args RX11) (hr : meth.sig.returnType = (some .int)) (hk : meth.locks = false) : ∀ (k : Nat), ∀ (x0 : Int32) (x1 : Int32) (x2 : Int32) (x3 : Int32) (σ : js_S) (r0 : Int32) (σ0 : js_S), fX11_composed_14 fu k x0 x1 x2 x3 σ = some (r0, σ0) → js_at p l e 1 s m args below meth c D B g nn 14 7 [(0, .int x0), (1, .int x1), (2, .int x2), (3, .int x3)] [] σ (js_QI D B g nn r0 σ0) := by
  intro k
  induction k with
  | zero =>
    intro x0 x1 x2 x3 σ r0 σ0 h
    cases h
  | succ k ih =>
    intro x0 x1 x2 x3 σ r0 σ0 h
    exact wX11_composed_14b C hr hk (fX11_composed_14 fu k) ih x0 x1 x2 x3 σ r0 σ0 h
set_option maxHeartbeats 4000000 in
set_option maxRecDepth 20000 in
theorem kX11_composed {x0 : Int32} {x1 : Int32} {σ σ0 : js_S} {r0 : Int32} (h : fX11_composed fu x0 x1 σ = some (r0, σ0)) : js_M l D B g nn yX11_composed cX11_composed 7 (some .int) 1 [.int x0, .int x1] σ (js_QI D B g nn r0 σ0) := by
  refine js_enter (by decide) (Nat.le_of_ble_eq_true rfl) ?_
  intro p e s m args below meth c C hr hk ls hl hT
  have hl : lv_has ls 7 [(0, .int x0), (1, .int x1)] := hl
  obtain ⟨hx, hb, hml, hown, ht, hK, hNw⟩ := id C
  obtain ⟨H, eH⟩ : ∃ H, H = s.heap := ⟨_, rfl⟩
  obtain ⟨locs, eL⟩ : ∃ z : List Loc, z = [] := ⟨_, rfl⟩
  rw [← eH, ← eL]
  rw [← eH, ← eL] at hT
  clear eH eL
  unfold fX11_composed at h
  refine lv_iload_n hx hb dX11_composed_0 rfl (lv_at hl 0 rfl) ?_
  obtain ⟨r1, σ1, hc1, h⟩ := bd_some h
  refine js_backI hT (js_runS C hT mfX11_sourceOf lk_X11_159 (kX11_sourceOf  hc1) ⟨Nat.le_of_ble_eq_true rfl, Nat.le_of_ble_eq_true rfl⟩ rfl hl.1 rfl (Nat.le_of_ble_eq_true rfl) ⟨Nat.zero_le _, Nat.zero_le _⟩ dX11_composed_1) (fun H locs hT => ?_)
  refine lv_iload_n hx hb dX11_composed_4 rfl (lv_at hl 1 rfl) ?_
  obtain ⟨r2, σ2, hc2, h⟩ := bd_some h
  refine js_backI hT (js_runS C hT mfX11_targetOf lk_X11_162 (kX11_targetOf  hc2) ⟨Nat.le_of_ble_eq_true rfl, Nat.le_of_ble_eq_true rfl⟩ rfl hl.1 rfl (Nat.le_of_ble_eq_true rfl) ⟨Nat.zero_le _, Nat.zero_le _⟩ dX11_composed_5) (fun H locs hT => ?_)
  obtain ⟨r3, σ3, hc3, h⟩ := bd_some h
  refine js_backI hT (js_runS C hT mfX11_emptyGraph lk_X11_358 (kX11_emptyGraph  hc3) ⟨Nat.le_of_ble_eq_true rfl, Nat.le_of_ble_eq_true rfl⟩ rfl hl.1 rfl (Nat.le_of_ble_eq_true rfl) ⟨Nat.zero_le _, Nat.zero_le _⟩ dX11_composed_8) (fun H locs hT => ?_)
  refine lv_istore_n (lv' := [(2, .int r3), (0, .int x0), (1, .int x1)]) hx hb dX11_composed_11 rfl hl (by decide) rfl (fun ls hl => ?_)
  refine lv_iconst (v := 0) hx hb dX11_composed_12 (by decide) ?_
  refine lv_istore_n (lv' := [(3, .int 0), (2, .int r3), (0, .int x0), (1, .int x1)]) hx hb dX11_composed_13 rfl hl (by decide) rfl (fun ls hl => ?_)
  exact wX11_composed_14 C hr hk _ _ _ _ _ _ _ _ h  H locs hT ls (lv_sub hl [2, 3, 1, 0] rfl)
set_option maxHeartbeats 4000000 in
set_option maxRecDepth 20000 in
theorem wX0_judge_81 (C : js_C D g p m c cX0_judge 3 s args RX0) (hr : meth.sig.returnType = none) (hk : meth.locks = false) (rc12 : Nat → Int32 → js_S → Option (Unit × js_S)) (hrc12 : ∀ (x0 : Nat) (x1 : Int32) (σ : js_S) (r0 : Unit) (σ0 : js_S), rc12 x0 x1 σ = some (r0, σ0) → ob_ nn 0 x0 → js_at p l e 2 s m args below meth c D B g nn 12 3 [(0, .ref (B + x0)), (1, .int x1)] [] σ (js_QV D B g nn σ0)) : ∀ (x0 : Nat) (x1 : Int32) (σ : js_S) (r0 : Unit) (σ0 : js_S), fX0_judge_81 fu rc12 x0 x1 σ = some (r0, σ0) → ob_ nn 0 x0 → js_at p l e 2 s m args below meth c D B g nn 81 3 [(0, .ref (B + x0)), (1, .int x1)] [] σ (js_QV D B g nn σ0) := by
  obtain ⟨hx, hb, hml, hown, ht, hK, hNw⟩ := id C
  intro x0 x1 σ r0 σ0 h t0 H locs hT ls hl
  unfold fX0_judge_81 at h
  refine lv_iinc (v := x1 + 1) (lv' := [(1, .int (x1 + 1)), (0, .ref (B + x0))]) hx hb dX0_judge_81 hl (k := 1) rfl rfl (by decide) rfl (fun ls hl => ?_)
  refine lv_goto (tgt := 12) hx hb dX0_judge_84 (by decide) ?_
  exact hrc12 _ _ _ _ _ h t0 H locs hT ls (lv_sub hl [1, 0] rfl)
set_option maxHeartbeats 4000000 in
set_option maxRecDepth 20000 in
theorem wX0_judge_12b (C : js_C D g p m c cX0_judge 3 s args RX0) (hr : meth.sig.returnType = none) (hk : meth.locks = false) (rc12 : Nat → Int32 → js_S → Option (Unit × js_S)) (hrc12 : ∀ (x0 : Nat) (x1 : Int32) (σ : js_S) (r0 : Unit) (σ0 : js_S), rc12 x0 x1 σ = some (r0, σ0) → ob_ nn 0 x0 → js_at p l e 2 s m args below meth c D B g nn 12 3 [(0, .ref (B + x0)), (1, .int x1)] [] σ (js_QV D B g nn σ0)) : ∀ (x0 : Nat) (x1 : Int32) (σ : js_S) (r0 : Unit) (σ0 : js_S), fX0_judge_12b fu rc12 x0 x1 σ = some (r0, σ0) → ob_ nn 0 x0 → js_at p l e 2 s m args below meth c D B g nn 12 3 [(0, .ref (B + x0)), (1, .int x1)] [] σ (js_QV D B g nn σ0) := by
  obtain ⟨hx, hb, hml, hown, ht, hK, hNw⟩ := id C
  intro x0 x1 σ r0 σ0 h t0 H locs hT ls hl
  unfold fX0_judge_12b at h
  refine lv_iload_n hx hb dX0_judge_12 rfl (lv_at hl 1 rfl) ?_
  refine lv_aload_n hx hb dX0_judge_13 rfl (lv_at hl 0 rfl) ?_
  refine js_gI C hT cfX0 t0 2 (by decide) rfl lk_X0_18 dX0_judge_14 ?_
  refine lv_icmp_ge (tgt := 87) hx hb dX0_judge_17 (by decide) (fun c1 => ?_) (fun c1 => ?_)
  · rw [if_pos c1] at h
    obtain ⟨rfl, rfl⟩ := js_rt h
    exact js_vret C hT hr hk dX0_judge_87
  · rw [if_neg c1] at h
    refine lv_iload_n hx hb dX0_judge_20 rfl (lv_at hl 1 rfl) ?_
    refine lv_sipush (v := 400) hx hb dX0_judge_21 (by decide) ?_
    refine lv_icmp_ge (tgt := 87) hx hb dX0_judge_24 (by decide) (fun c2 => ?_) (fun c2 => ?_)
    · rw [if_pos c2] at h
      obtain ⟨rfl, rfl⟩ := js_rt h
      exact js_vret C hT hr hk dX0_judge_87
    · rw [if_neg c2] at h
      refine lv_aload_n hx hb dX0_judge_27 rfl (lv_at hl 0 rfl) ?_
      refine js_gR C hT cfX0 t0 0 (by decide) (q := 20) rfl (by decide) lk_X0_9 dX0_judge_28 (fun t3a => ?_)
      refine lv_iload_n hx hb dX0_judge_31 rfl (lv_at hl 1 rfl) ?_
      obtain ⟨g4, h⟩ := gd_some _ h
      refine js_iald C hT t3a g4 dX0_judge_32 ?_
      refine lv_istore_n (lv' := [(2, .int (σ.1 (σ.2.2 x0 0) (Int32.toNatClampNeg x1))), (0, .ref (B + x0)), (1, .int x1)]) hx hb dX0_judge_33 rfl hl (by decide) rfl (fun ls hl => ?_)
      refine lv_iload_n hx hb dX0_judge_34 rfl (lv_at hl 0 rfl) ?_
      obtain ⟨r5, σ5, hc5, h⟩ := bd_some h
      refine js_backI hT (js_runSN C hT mfX11_sourceOf lk_X0_40 (kX11_sourceOf  hc5) ⟨Nat.le_of_ble_eq_true rfl, Nat.le_of_ble_eq_true rfl⟩ rfl hl.1 rfl (Nat.le_of_ble_eq_true rfl) ⟨Nat.zero_le _, Nat.zero_le _⟩ dX0_judge_35) (fun H locs hT => ?_)
      refine lv_iload_n hx hb dX0_judge_38 rfl (lv_at hl 0 rfl) ?_
      obtain ⟨r6, σ6, hc6, h⟩ := bd_some h
      refine js_backI hT (js_runSN C hT mfX11_targetOf lk_X0_37 (kX11_targetOf  hc6) ⟨Nat.le_of_ble_eq_true rfl, Nat.le_of_ble_eq_true rfl⟩ rfl hl.1 rfl (Nat.le_of_ble_eq_true rfl) ⟨Nat.zero_le _, Nat.zero_le _⟩ dX0_judge_39) (fun H locs hT => ?_)
      refine lv_icmp_ne (tgt := 81) hx hb dX0_judge_42 (by decide) (fun c7 => ?_) (fun c7 => ?_)
      · rw [if_neg c7] at h
        exact wX0_judge_81 C hr hk rc12 hrc12 _ _ _ _ _ h t0 H locs hT ls (lv_sub hl [1, 2] rfl)
      · rw [if_pos c7] at h
        refine lv_iload_n hx hb dX0_judge_45 rfl (lv_at hl 0 rfl) ?_
        refine lv_iload_n hx hb dX0_judge_46 rfl (lv_at hl 0 rfl) ?_
        obtain ⟨r8, σ8, hc8, h⟩ := bd_some h
        refine js_backI hT (js_runSN C hT mfX11_composed lk_X0_43 (kX11_composed  hc8) ⟨Nat.le_of_ble_eq_true rfl, Nat.le_of_ble_eq_true rfl⟩ rfl hl.1 rfl (Nat.le_of_ble_eq_true rfl) ⟨Nat.zero_le _, Nat.zero_le _⟩ dX0_judge_47) (fun H locs hT => ?_)
        refine lv_iload_n hx hb dX0_judge_50 rfl (lv_at hl 0 rfl) ?_
        refine lv_icmp_ne (tgt := 81) hx hb dX0_judge_51 (by decide) (fun c9 => ?_) (fun c9 => ?_)
        · rw [if_neg c9] at h
          exact wX0_judge_81 C hr hk rc12 hrc12 _ _ _ _ _ h t0 H locs hT ls (lv_sub hl [1, 2] rfl)
        · rw [if_pos c9] at h
          refine lv_aload_n hx hb dX0_judge_54 rfl (lv_at hl 1 rfl) ?_
          refine lv_dup hx hb dX0_judge_55 rfl ?_
          refine js_gI C hT cfX0 t0 3 (by decide) rfl lk_X0_54 dX0_judge_56 ?_
          refine lv_iconst (v := 1) hx hb dX0_judge_59 (by decide) ?_
          refine lv_iadd hx hb dX0_judge_60 ?_
          obtain ⟨σ10, e10, h⟩ := lt_some h
          refine js_pI C hT cfX0 t0 3 (by decide) rfl rfl rfl rfl lk_X0_54 dX0_judge_61 (fun H locs hT => ?_)
          rw [e10] at hT
          refine lv_iload_n hx hb dX0_judge_64 rfl (lv_at hl 0 rfl) ?_
          obtain ⟨r11, σ11, hc11, h⟩ := bd_some h
          refine js_backI hT (js_runS C hT mfX0_decreases lk_X0_60 (kX0_decreases  hc11) ⟨Nat.le_of_ble_eq_true rfl, Nat.le_of_ble_eq_true rfl⟩ rfl hl.1 rfl (Nat.le_of_ble_eq_true rfl) ⟨Nat.zero_le _, Nat.zero_le _⟩ dX0_judge_65) (fun H locs hT => ?_)
          refine lv_if_eq (tgt := 81) hx hb dX0_judge_68 (by decide) (fun c12 => ?_) (fun c12 => ?_)
          · rw [if_pos c12] at h
            exact wX0_judge_81 C hr hk rc12 hrc12 _ _ _ _ _ h t0 H locs hT ls (lv_sub hl [1, 2] rfl)
          · rw [if_neg c12] at h
            refine lv_aload_n hx hb dX0_judge_71 rfl (lv_at hl 1 rfl) ?_
            refine lv_dup hx hb dX0_judge_72 rfl ?_
            refine js_gI C hT cfX0 t0 4 (by decide) rfl lk_X0_57 dX0_judge_73 ?_
            refine lv_iconst (v := 1) hx hb dX0_judge_76 (by decide) ?_
            refine lv_iadd hx hb dX0_judge_77 ?_
            obtain ⟨σ13, e13, h⟩ := lt_some h
            refine js_pI C hT cfX0 t0 4 (by decide) rfl rfl rfl rfl lk_X0_57 dX0_judge_78 (fun H locs hT => ?_)
            rw [e13] at hT
            exact wX0_judge_81 C hr hk rc12 hrc12 _ _ _ _ _ h t0 H locs hT ls (lv_sub hl [1, 2] rfl)
set_option maxHeartbeats 4000000 in
set_option maxRecDepth 20000 in
theorem wX0_judge_12 (C : js_C D g p m c cX0_judge 3 s args RX0) (hr : meth.sig.returnType = none) (hk : meth.locks = false) : ∀ (k : Nat), ∀ (x0 : Nat) (x1 : Int32) (σ : js_S) (r0 : Unit) (σ0 : js_S), fX0_judge_12 fu k x0 x1 σ = some (r0, σ0) → ob_ nn 0 x0 → js_at p l e 2 s m args below meth c D B g nn 12 3 [(0, .ref (B + x0)), (1, .int x1)] [] σ (js_QV D B g nn σ0) := by
  intro k
  induction k with
  | zero =>
    intro x0 x1 σ r0 σ0 h
    cases h
  | succ k ih =>
    intro x0 x1 σ r0 σ0 h
    exact wX0_judge_12b C hr hk (fX0_judge_12 fu k) ih x0 x1 σ r0 σ0 h
set_option maxHeartbeats 4000000 in
set_option maxRecDepth 20000 in
theorem kX0_judge {x0 : Nat} {σ σ0 : js_S} {r0 : Unit} (t0 : ob_ nn 0 x0) (h : fX0_judge fu x0 σ = some (r0, σ0)) : js_M l D B g nn yX0_judge cX0_judge 3 none 2 [.ref (B + x0)] σ (js_QV D B g nn σ0) := by
  refine js_enter (by decide) (Nat.le_of_ble_eq_true rfl) ?_
  intro p e s m args below meth c C hr hk ls hl hT
  have hl : lv_has ls 3 [(0, .ref (B + x0))] := hl
  obtain ⟨hx, hb, hml, hown, ht, hK, hNw⟩ := id C
  obtain ⟨H, eH⟩ : ∃ H, H = s.heap := ⟨_, rfl⟩
  obtain ⟨locs, eL⟩ : ∃ z : List Loc, z = [] := ⟨_, rfl⟩
  rw [← eH, ← eL]
  rw [← eH, ← eL] at hT
  clear eH eL
  unfold fX0_judge at h
  refine lv_aload_n hx hb dX0_judge_0 rfl (lv_at hl 0 rfl) ?_
  refine lv_iconst (v := 0) hx hb dX0_judge_1 (by decide) ?_
  obtain ⟨σ1, e1, h⟩ := lt_some h
  refine js_pI C hT cfX0 t0 3 (by decide) rfl rfl rfl rfl lk_X0_54 dX0_judge_2 (fun H locs hT => ?_)
  rw [e1] at hT
  refine lv_aload_n hx hb dX0_judge_5 rfl (lv_at hl 0 rfl) ?_
  refine lv_iconst (v := 0) hx hb dX0_judge_6 (by decide) ?_
  obtain ⟨σ2, e2, h⟩ := lt_some h
  refine js_pI C hT cfX0 t0 4 (by decide) rfl rfl rfl rfl lk_X0_57 dX0_judge_7 (fun H locs hT => ?_)
  rw [e2] at hT
  refine lv_iconst (v := 0) hx hb dX0_judge_10 (by decide) ?_
  refine lv_istore_n (lv' := [(1, .int 0), (0, .ref (B + x0))]) hx hb dX0_judge_11 rfl hl (by decide) rfl (fun ls hl => ?_)
  exact wX0_judge_12 C hr hk _ _ _ _ _ _ h t0 H locs hT ls (lv_sub hl [1, 0] rfl)
set_option maxHeartbeats 4000000 in
set_option maxRecDepth 20000 in
theorem kX5_graph {x0 : Nat} {x1 : Int32} {σ σ0 : js_S} {r0 : Int32} (t0 : ob_ nn 5 x0) (h : fX5_graph fu x0 x1 σ = some (r0, σ0)) : js_M l D B g nn yX5_graph cX5_graph 2 (some .int) 0 [.ref (B + x0), .int x1] σ (js_QI D B g nn r0 σ0) := by
  refine js_enter (by decide) (Nat.le_of_ble_eq_true rfl) ?_
  intro p e s m args below meth c C hr hk ls hl hT
  have hl : lv_has ls 2 [(0, .ref (B + x0)), (1, .int x1)] := hl
  obtain ⟨hx, hb, hml, hown, ht, hK, hNw⟩ := id C
  obtain ⟨H, eH⟩ : ∃ H, H = s.heap := ⟨_, rfl⟩
  obtain ⟨locs, eL⟩ : ∃ z : List Loc, z = [] := ⟨_, rfl⟩
  rw [← eH, ← eL]
  rw [← eH, ← eL] at hT
  clear eH eL
  unfold fX5_graph at h
  refine lv_iload_n hx hb dX5_graph_0 rfl (lv_at hl 1 rfl) ?_
  refine lv_if_lt (tgt := 22) hx hb dX5_graph_1 (by decide) (fun c1 => ?_) (fun c1 => ?_)
  · rw [if_pos c1] at h
    refine lv_iconst (v := 0) hx hb dX5_graph_22 (by decide) ?_
    obtain ⟨rfl, rfl⟩ := js_rt h
    exact js_iret C hT hr hk dX5_graph_23
  · rw [if_neg c1] at h
    refine lv_iload_n hx hb dX5_graph_4 rfl (lv_at hl 1 rfl) ?_
    refine lv_aload_n hx hb dX5_graph_5 rfl (lv_at hl 0 rfl) ?_
    refine js_gR C hT cfX5 t0 2 (by decide) (q := 20) rfl (by decide) lk_X5_18 dX5_graph_6 (fun t2a => ?_)
    refine js_alen C hT t2a (Or.inl rfl) dX5_graph_9 ?_
    refine lv_icmp_ge (tgt := 22) hx hb dX5_graph_10 (by decide) (fun c3 => ?_) (fun c3 => ?_)
    · rw [if_pos c3] at h
      refine lv_iconst (v := 0) hx hb dX5_graph_22 (by decide) ?_
      obtain ⟨rfl, rfl⟩ := js_rt h
      exact js_iret C hT hr hk dX5_graph_23
    · rw [if_neg c3] at h
      refine lv_aload_n hx hb dX5_graph_13 rfl (lv_at hl 0 rfl) ?_
      refine js_gR C hT cfX5 t0 2 (by decide) (q := 20) rfl (by decide) lk_X5_18 dX5_graph_14 (fun t4a => ?_)
      refine lv_iload_n hx hb dX5_graph_17 rfl (lv_at hl 1 rfl) ?_
      obtain ⟨g5, h⟩ := gd_some _ h
      refine js_iald C hT t4a g5 dX5_graph_18 ?_
      refine lv_goto (tgt := 23) hx hb dX5_graph_19 (by decide) ?_
      obtain ⟨rfl, rfl⟩ := js_rt h
      exact js_iret C hT hr hk dX5_graph_23
set_option maxHeartbeats 4000000 in
set_option maxRecDepth 20000 in
theorem wX0_rebuild_151 (C : js_C D g p m c cX0_rebuild 5 s args RX0) (hr : meth.sig.returnType = none) (hk : meth.locks = false) : ∀ (x0 : Nat) (σ : js_S) (r0 : Unit) (σ0 : js_S), fX0_rebuild_151 fu x0 σ = some (r0, σ0) → ob_ nn 0 x0 → js_at p l e 3 s m args below meth c D B g nn 151 5 [(0, .ref (B + x0))] [] σ (js_QV D B g nn σ0) := by
  obtain ⟨hx, hb, hml, hown, ht, hK, hNw⟩ := id C
  intro x0 σ r0 σ0 h t0 H locs hT ls hl
  unfold fX0_rebuild_151 at h
  refine lv_aload_n hx hb dX0_rebuild_151 rfl (lv_at hl 0 rfl) ?_
  obtain ⟨z1, σ1, hc1, h⟩ := bd_some h
  refine js_backV hT (js_runV C hT cfX0 t0 rfl mfX0_judge lk_X0_47 (kX0_judge t0 hc1) ⟨Nat.le_of_ble_eq_true rfl, Nat.le_of_ble_eq_true rfl⟩ rfl hl.1 rfl (Nat.le_of_ble_eq_true rfl) ⟨Nat.zero_le _, Nat.zero_le _⟩ dX0_rebuild_152) (fun H locs hT => ?_)
  obtain ⟨rfl, rfl⟩ := js_rt h
  exact js_vret C hT hr hk dX0_rebuild_155
set_option maxHeartbeats 4000000 in
set_option maxRecDepth 20000 in
theorem wX0_rebuild_139 (C : js_C D g p m c cX0_rebuild 5 s args RX0) (hr : meth.sig.returnType = none) (hk : meth.locks = false) (rc66 : Nat → Int32 → Int32 → js_S → Option (Unit × js_S)) (hrc66 : ∀ (x0 : Nat) (x2 : Int32) (x3 : Int32) (σ : js_S) (r0 : Unit) (σ0 : js_S), rc66 x0 x2 x3 σ = some (r0, σ0) → ob_ nn 0 x0 → js_at p l e 3 s m args below meth c D B g nn 66 5 [(0, .ref (B + x0)), (2, .int x2), (3, .int x3)] [] σ (js_QV D B g nn σ0)) (rc91 : Nat → Int32 → Int32 → Int32 → js_S → Option (Unit × js_S)) (hrc91 : ∀ (x0 : Nat) (x2 : Int32) (x3 : Int32) (x4 : Int32) (σ : js_S) (r0 : Unit) (σ0 : js_S), rc91 x0 x2 x3 x4 σ = some (r0, σ0) → ob_ nn 0 x0 → js_at p l e 3 s m args below meth c D B g nn 91 5 [(0, .ref (B + x0)), (2, .int x2), (3, .int x3), (4, .int x4)] [] σ (js_QV D B g nn σ0)) : ∀ (x0 : Nat) (x2 : Int32) (x3 : Int32) (x4 : Int32) (σ : js_S) (r0 : Unit) (σ0 : js_S), fX0_rebuild_139 fu rc66 rc91 x0 x2 x3 x4 σ = some (r0, σ0) → ob_ nn 0 x0 → js_at p l e 3 s m args below meth c D B g nn 139 5 [(0, .ref (B + x0)), (2, .int x2), (3, .int x3), (4, .int x4)] [] σ (js_QV D B g nn σ0) := by
  obtain ⟨hx, hb, hml, hown, ht, hK, hNw⟩ := id C
  intro x0 x2 x3 x4 σ r0 σ0 h t0 H locs hT ls hl
  unfold fX0_rebuild_139 at h
  refine lv_iinc (v := x4 + 1) (lv' := [(4, .int (x4 + 1)), (0, .ref (B + x0)), (2, .int x2), (3, .int x3)]) hx hb dX0_rebuild_139 hl (k := 3) rfl rfl (by decide) rfl (fun ls hl => ?_)
  refine lv_goto (tgt := 91) hx hb dX0_rebuild_142 (by decide) ?_
  exact hrc91 _ _ _ _ _ _ _ h t0 H locs hT ls (lv_sub hl [1, 2, 3, 0] rfl)
set_option maxHeartbeats 4000000 in
set_option maxRecDepth 20000 in
theorem wX0_rebuild_91b (C : js_C D g p m c cX0_rebuild 5 s args RX0) (hr : meth.sig.returnType = none) (hk : meth.locks = false) (rc66 : Nat → Int32 → Int32 → js_S → Option (Unit × js_S)) (hrc66 : ∀ (x0 : Nat) (x2 : Int32) (x3 : Int32) (σ : js_S) (r0 : Unit) (σ0 : js_S), rc66 x0 x2 x3 σ = some (r0, σ0) → ob_ nn 0 x0 → js_at p l e 3 s m args below meth c D B g nn 66 5 [(0, .ref (B + x0)), (2, .int x2), (3, .int x3)] [] σ (js_QV D B g nn σ0)) (rc91 : Nat → Int32 → Int32 → Int32 → js_S → Option (Unit × js_S)) (hrc91 : ∀ (x0 : Nat) (x2 : Int32) (x3 : Int32) (x4 : Int32) (σ : js_S) (r0 : Unit) (σ0 : js_S), rc91 x0 x2 x3 x4 σ = some (r0, σ0) → ob_ nn 0 x0 → js_at p l e 3 s m args below meth c D B g nn 91 5 [(0, .ref (B + x0)), (2, .int x2), (3, .int x3), (4, .int x4)] [] σ (js_QV D B g nn σ0)) : ∀ (x0 : Nat) (x2 : Int32) (x3 : Int32) (x4 : Int32) (σ : js_S) (r0 : Unit) (σ0 : js_S), fX0_rebuild_91b fu rc66 rc91 x0 x2 x3 x4 σ = some (r0, σ0) → ob_ nn 0 x0 → js_at p l e 3 s m args below meth c D B g nn 91 5 [(0, .ref (B + x0)), (2, .int x2), (3, .int x3), (4, .int x4)] [] σ (js_QV D B g nn σ0) := by
  obtain ⟨hx, hb, hml, hown, ht, hK, hNw⟩ := id C
  intro x0 x2 x3 x4 σ r0 σ0 h t0 H locs hT ls hl
  unfold fX0_rebuild_91b at h
  refine lv_iload hx hb dX0_rebuild_91 (lv_at hl 3 rfl) ?_
  refine lv_iload_n hx hb dX0_rebuild_93 rfl (lv_at hl 1 rfl) ?_
  refine lv_icmp_ge (tgt := 145) hx hb dX0_rebuild_94 (by decide) (fun c1 => ?_) (fun c1 => ?_)
  · rw [if_pos c1] at h
    refine lv_iinc (v := x3 + 1) (lv' := [(3, .int (x3 + 1)), (0, .ref (B + x0)), (2, .int x2), (4, .int x4)]) hx hb dX0_rebuild_145 hl (k := 2) rfl rfl (by decide) rfl (fun ls hl => ?_)
    refine lv_goto (tgt := 66) hx hb dX0_rebuild_148 (by decide) ?_
    exact hrc66 _ _ _ _ _ _ h t0 H locs hT ls (lv_sub hl [1, 2, 0] rfl)
  · rw [if_neg c1] at h
    refine lv_aload_n hx hb dX0_rebuild_97 rfl (lv_at hl 0 rfl) ?_
    refine js_gR C hT cfX0 t0 0 (by decide) (q := 20) rfl (by decide) lk_X0_9 dX0_rebuild_98 (fun t2a => ?_)
    refine lv_iload_n hx hb dX0_rebuild_101 rfl (lv_at hl 2 rfl) ?_
    obtain ⟨g3, h⟩ := gd_some _ h
    refine js_iald C hT t2a g3 dX0_rebuild_102 ?_
    obtain ⟨r4, σ4, hc4, h⟩ := bd_some h
    refine js_backI hT (js_runSN C hT mfX11_targetOf lk_X0_37 (kX11_targetOf  hc4) ⟨Nat.le_of_ble_eq_true rfl, Nat.le_of_ble_eq_true rfl⟩ rfl hl.1 rfl (Nat.le_of_ble_eq_true rfl) ⟨Nat.zero_le _, Nat.zero_le _⟩ dX0_rebuild_103) (fun H locs hT => ?_)
    refine lv_aload_n hx hb dX0_rebuild_106 rfl (lv_at hl 0 rfl) ?_
    refine js_gR C hT cfX0 t0 0 (by decide) (q := 20) rfl (by decide) lk_X0_9 dX0_rebuild_107 (fun t5a => ?_)
    refine lv_iload hx hb dX0_rebuild_110 (lv_at hl 3 rfl) ?_
    obtain ⟨g6, h⟩ := gd_some _ h
    refine js_iald C hT t5a g6 dX0_rebuild_112 ?_
    obtain ⟨r7, σ7, hc7, h⟩ := bd_some h
    refine js_backI hT (js_runSN C hT mfX11_sourceOf lk_X0_40 (kX11_sourceOf  hc7) ⟨Nat.le_of_ble_eq_true rfl, Nat.le_of_ble_eq_true rfl⟩ rfl hl.1 rfl (Nat.le_of_ble_eq_true rfl) ⟨Nat.zero_le _, Nat.zero_le _⟩ dX0_rebuild_113) (fun H locs hT => ?_)
    refine lv_icmp_ne (tgt := 139) hx hb dX0_rebuild_116 (by decide) (fun c8 => ?_) (fun c8 => ?_)
    · rw [if_neg c8] at h
      exact wX0_rebuild_139 C hr hk rc66 hrc66 rc91 hrc91 _ _ _ _ _ _ _ h t0 H locs hT ls (lv_sub hl [0, 1, 2, 3] rfl)
    · rw [if_pos c8] at h
      refine lv_aload_n hx hb dX0_rebuild_119 rfl (lv_at hl 0 rfl) ?_
      refine lv_aload_n hx hb dX0_rebuild_120 rfl (lv_at hl 0 rfl) ?_
      refine js_gR C hT cfX0 t0 0 (by decide) (q := 20) rfl (by decide) lk_X0_9 dX0_rebuild_121 (fun t9a => ?_)
      refine lv_iload_n hx hb dX0_rebuild_124 rfl (lv_at hl 2 rfl) ?_
      obtain ⟨g10, h⟩ := gd_some _ h
      refine js_iald C hT t9a g10 dX0_rebuild_125 ?_
      refine lv_aload_n hx hb dX0_rebuild_126 rfl (lv_at hl 0 rfl) ?_
      refine js_gR C hT cfX0 t0 0 (by decide) (q := 20) rfl (by decide) lk_X0_9 dX0_rebuild_127 (fun t11a => ?_)
      refine lv_iload hx hb dX0_rebuild_130 (lv_at hl 3 rfl) ?_
      obtain ⟨g12, h⟩ := gd_some _ h
      refine js_iald C hT t11a g12 dX0_rebuild_132 ?_
      obtain ⟨r13, σ13, hc13, h⟩ := bd_some h
      refine js_backI hT (js_runSN C hT mfX11_composed lk_X0_43 (kX11_composed  hc13) ⟨Nat.le_of_ble_eq_true rfl, Nat.le_of_ble_eq_true rfl⟩ rfl hl.1 rfl (Nat.le_of_ble_eq_true rfl) ⟨Nat.zero_le _, Nat.zero_le _⟩ dX0_rebuild_133) (fun H locs hT => ?_)
      obtain ⟨z14, σ14, hc14, h⟩ := bd_some h
      refine js_backV hT (js_runV C hT cfX0 t0 rfl mfX0_include lk_X0_33 (kX0_include t0 hc14) ⟨Nat.le_of_ble_eq_true rfl, Nat.le_of_ble_eq_true rfl⟩ rfl hl.1 rfl (Nat.le_of_ble_eq_true rfl) ⟨Nat.zero_le _, Nat.zero_le _⟩ dX0_rebuild_136) (fun H locs hT => ?_)
      exact wX0_rebuild_139 C hr hk rc66 hrc66 rc91 hrc91 _ _ _ _ _ _ _ h t0 H locs hT ls (lv_sub hl [0, 1, 2, 3] rfl)
set_option maxHeartbeats 4000000 in
set_option maxRecDepth 20000 in
theorem wX0_rebuild_91 (C : js_C D g p m c cX0_rebuild 5 s args RX0) (hr : meth.sig.returnType = none) (hk : meth.locks = false) (rc66 : Nat → Int32 → Int32 → js_S → Option (Unit × js_S)) (hrc66 : ∀ (x0 : Nat) (x2 : Int32) (x3 : Int32) (σ : js_S) (r0 : Unit) (σ0 : js_S), rc66 x0 x2 x3 σ = some (r0, σ0) → ob_ nn 0 x0 → js_at p l e 3 s m args below meth c D B g nn 66 5 [(0, .ref (B + x0)), (2, .int x2), (3, .int x3)] [] σ (js_QV D B g nn σ0)) : ∀ (k : Nat), ∀ (x0 : Nat) (x2 : Int32) (x3 : Int32) (x4 : Int32) (σ : js_S) (r0 : Unit) (σ0 : js_S), fX0_rebuild_91 fu rc66 k x0 x2 x3 x4 σ = some (r0, σ0) → ob_ nn 0 x0 → js_at p l e 3 s m args below meth c D B g nn 91 5 [(0, .ref (B + x0)), (2, .int x2), (3, .int x3), (4, .int x4)] [] σ (js_QV D B g nn σ0) := by
  intro k
  induction k with
  | zero =>
    intro x0 x2 x3 x4 σ r0 σ0 h
    cases h
  | succ k ih =>
    intro x0 x2 x3 x4 σ r0 σ0 h
    exact wX0_rebuild_91b C hr hk rc66 hrc66 (fX0_rebuild_91 fu rc66 k) ih x0 x2 x3 x4 σ r0 σ0 h
set_option maxHeartbeats 4000000 in
set_option maxRecDepth 20000 in
theorem wX0_rebuild_66b (C : js_C D g p m c cX0_rebuild 5 s args RX0) (hr : meth.sig.returnType = none) (hk : meth.locks = false) (rc66 : Nat → Int32 → Int32 → js_S → Option (Unit × js_S)) (hrc66 : ∀ (x0 : Nat) (x2 : Int32) (x3 : Int32) (σ : js_S) (r0 : Unit) (σ0 : js_S), rc66 x0 x2 x3 σ = some (r0, σ0) → ob_ nn 0 x0 → js_at p l e 3 s m args below meth c D B g nn 66 5 [(0, .ref (B + x0)), (2, .int x2), (3, .int x3)] [] σ (js_QV D B g nn σ0)) : ∀ (x0 : Nat) (x2 : Int32) (x3 : Int32) (σ : js_S) (r0 : Unit) (σ0 : js_S), fX0_rebuild_66b fu rc66 x0 x2 x3 σ = some (r0, σ0) → ob_ nn 0 x0 → js_at p l e 3 s m args below meth c D B g nn 66 5 [(0, .ref (B + x0)), (2, .int x2), (3, .int x3)] [] σ (js_QV D B g nn σ0) := by
  obtain ⟨hx, hb, hml, hown, ht, hK, hNw⟩ := id C
  intro x0 x2 x3 σ r0 σ0 h t0 H locs hT ls hl
  unfold fX0_rebuild_66b at h
  refine lv_iload_n hx hb dX0_rebuild_66 rfl (lv_at hl 2 rfl) ?_
  refine lv_aload_n hx hb dX0_rebuild_67 rfl (lv_at hl 0 rfl) ?_
  refine js_gI C hT cfX0 t0 2 (by decide) rfl lk_X0_18 dX0_rebuild_68 ?_
  refine lv_icmp_ge (tgt := 151) hx hb dX0_rebuild_71 (by decide) (fun c1 => ?_) (fun c1 => ?_)
  · rw [if_pos c1] at h
    exact wX0_rebuild_151 C hr hk _ _ _ _ h t0 H locs hT ls (lv_sub hl [0] rfl)
  · rw [if_neg c1] at h
    refine lv_iload_n hx hb dX0_rebuild_74 rfl (lv_at hl 2 rfl) ?_
    refine lv_sipush (v := 400) hx hb dX0_rebuild_75 (by decide) ?_
    refine lv_icmp_ge (tgt := 151) hx hb dX0_rebuild_78 (by decide) (fun c2 => ?_) (fun c2 => ?_)
    · rw [if_pos c2] at h
      exact wX0_rebuild_151 C hr hk _ _ _ _ h t0 H locs hT ls (lv_sub hl [0] rfl)
    · rw [if_neg c2] at h
      refine lv_aload_n hx hb dX0_rebuild_81 rfl (lv_at hl 0 rfl) ?_
      refine js_gI C hT cfX0 t0 5 (by decide) rfl lk_X0_22 dX0_rebuild_82 ?_
      refine lv_if_ne (tgt := 151) hx hb dX0_rebuild_85 (by decide) (fun c3 => ?_) (fun c3 => ?_)
      · rw [if_neg c3] at h
        exact wX0_rebuild_151 C hr hk _ _ _ _ h t0 H locs hT ls (lv_sub hl [0] rfl)
      · rw [if_pos c3] at h
        refine lv_iconst (v := 0) hx hb dX0_rebuild_88 (by decide) ?_
        refine lv_istore (lv' := [(4, .int 0), (0, .ref (B + x0)), (2, .int x2), (3, .int x3)]) hx hb dX0_rebuild_89 hl (by decide) rfl (fun ls hl => ?_)
        exact wX0_rebuild_91 C hr hk rc66 hrc66 _ _ _ _ _ _ _ _ h t0 H locs hT ls (lv_sub hl [1, 2, 3, 0] rfl)
set_option maxHeartbeats 4000000 in
set_option maxRecDepth 20000 in
theorem wX0_rebuild_66 (C : js_C D g p m c cX0_rebuild 5 s args RX0) (hr : meth.sig.returnType = none) (hk : meth.locks = false) : ∀ (k : Nat), ∀ (x0 : Nat) (x2 : Int32) (x3 : Int32) (σ : js_S) (r0 : Unit) (σ0 : js_S), fX0_rebuild_66 fu k x0 x2 x3 σ = some (r0, σ0) → ob_ nn 0 x0 → js_at p l e 3 s m args below meth c D B g nn 66 5 [(0, .ref (B + x0)), (2, .int x2), (3, .int x3)] [] σ (js_QV D B g nn σ0) := by
  intro k
  induction k with
  | zero =>
    intro x0 x2 x3 σ r0 σ0 h
    cases h
  | succ k ih =>
    intro x0 x2 x3 σ r0 σ0 h
    exact wX0_rebuild_66b C hr hk (fX0_rebuild_66 fu k) ih x0 x2 x3 σ r0 σ0 h
set_option maxHeartbeats 4000000 in
set_option maxRecDepth 20000 in
theorem wX0_rebuild_36b (C : js_C D g p m c cX0_rebuild 5 s args RX0) (hr : meth.sig.returnType = none) (hk : meth.locks = false) (rc36 : Nat → Nat → Int32 → js_S → Option (Unit × js_S)) (hrc36 : ∀ (x0 : Nat) (x1 : Nat) (x2 : Int32) (σ : js_S) (r0 : Unit) (σ0 : js_S), rc36 x0 x1 x2 σ = some (r0, σ0) → ob_ nn 0 x0 → ob_ nn 5 x1 → js_at p l e 3 s m args below meth c D B g nn 36 5 [(0, .ref (B + x0)), (1, .ref (B + x1)), (2, .int x2)] [] σ (js_QV D B g nn σ0)) : ∀ (x0 : Nat) (x1 : Nat) (x2 : Int32) (σ : js_S) (r0 : Unit) (σ0 : js_S), fX0_rebuild_36b fu rc36 x0 x1 x2 σ = some (r0, σ0) → ob_ nn 0 x0 → ob_ nn 5 x1 → js_at p l e 3 s m args below meth c D B g nn 36 5 [(0, .ref (B + x0)), (1, .ref (B + x1)), (2, .int x2)] [] σ (js_QV D B g nn σ0) := by
  obtain ⟨hx, hb, hml, hown, ht, hK, hNw⟩ := id C
  intro x0 x1 x2 σ r0 σ0 h t0 t1 H locs hT ls hl
  unfold fX0_rebuild_36b at h
  refine lv_iload_n hx hb dX0_rebuild_36 rfl (lv_at hl 2 rfl) ?_
  refine lv_aload_n hx hb dX0_rebuild_37 rfl (lv_at hl 1 rfl) ?_
  refine js_gIN C hT cfX5 t1 4 (by decide) rfl lk_X0_26 dX0_rebuild_38 ?_
  refine lv_icmp_ge (tgt := 59) hx hb dX0_rebuild_41 (by decide) (fun c1 => ?_) (fun c1 => ?_)
  · rw [if_pos c1] at h
    refine lv_aload_n hx hb dX0_rebuild_59 rfl (lv_at hl 0 rfl) ?_
    refine js_gI C hT cfX0 t0 2 (by decide) rfl lk_X0_18 dX0_rebuild_60 ?_
    refine lv_istore_n (lv' := [(2, .int (σ.1 x0 2)), (0, .ref (B + x0)), (1, .ref (B + x1))]) hx hb dX0_rebuild_63 rfl hl (by decide) rfl (fun ls hl => ?_)
    refine lv_iconst (v := 0) hx hb dX0_rebuild_64 (by decide) ?_
    refine lv_istore_n (lv' := [(3, .int 0), (2, .int (σ.1 x0 2)), (0, .ref (B + x0)), (1, .ref (B + x1))]) hx hb dX0_rebuild_65 rfl hl (by decide) rfl (fun ls hl => ?_)
    exact wX0_rebuild_66 C hr hk _ _ _ _ _ _ _ h t0 H locs hT ls (lv_sub hl [2, 1, 0] rfl)
  · rw [if_neg c1] at h
    refine lv_aload_n hx hb dX0_rebuild_44 rfl (lv_at hl 0 rfl) ?_
    refine lv_aload_n hx hb dX0_rebuild_45 rfl (lv_at hl 1 rfl) ?_
    refine lv_iload_n hx hb dX0_rebuild_46 rfl (lv_at hl 2 rfl) ?_
    obtain ⟨r2, σ2, hc2, h⟩ := bd_some h
    refine js_backI hT (js_runV C hT cfX5 t1 rfl mfX5_graph lk_X0_29 (kX5_graph t1 hc2) ⟨Nat.le_of_ble_eq_true rfl, Nat.le_of_ble_eq_true rfl⟩ rfl hl.1 rfl (Nat.le_of_ble_eq_true rfl) ⟨Nat.zero_le _, Nat.zero_le _⟩ dX0_rebuild_47) (fun H locs hT => ?_)
    obtain ⟨z3, σ3, hc3, h⟩ := bd_some h
    refine js_backV hT (js_runV C hT cfX0 t0 rfl mfX0_include lk_X0_33 (kX0_include t0 hc3) ⟨Nat.le_of_ble_eq_true rfl, Nat.le_of_ble_eq_true rfl⟩ rfl hl.1 rfl (Nat.le_of_ble_eq_true rfl) ⟨Nat.zero_le _, Nat.zero_le _⟩ dX0_rebuild_50) (fun H locs hT => ?_)
    refine lv_iinc (v := x2 + 1) (lv' := [(2, .int (x2 + 1)), (0, .ref (B + x0)), (1, .ref (B + x1))]) hx hb dX0_rebuild_53 hl (k := 2) rfl rfl (by decide) rfl (fun ls hl => ?_)
    refine lv_goto (tgt := 36) hx hb dX0_rebuild_56 (by decide) ?_
    exact hrc36 _ _ _ _ _ _ h t0 t1 H locs hT ls (lv_sub hl [1, 2, 0] rfl)
set_option maxHeartbeats 4000000 in
set_option maxRecDepth 20000 in
theorem wX0_rebuild_36 (C : js_C D g p m c cX0_rebuild 5 s args RX0) (hr : meth.sig.returnType = none) (hk : meth.locks = false) : ∀ (k : Nat), ∀ (x0 : Nat) (x1 : Nat) (x2 : Int32) (σ : js_S) (r0 : Unit) (σ0 : js_S), fX0_rebuild_36 fu k x0 x1 x2 σ = some (r0, σ0) → ob_ nn 0 x0 → ob_ nn 5 x1 → js_at p l e 3 s m args below meth c D B g nn 36 5 [(0, .ref (B + x0)), (1, .ref (B + x1)), (2, .int x2)] [] σ (js_QV D B g nn σ0) := by
  intro k
  induction k with
  | zero =>
    intro x0 x1 x2 σ r0 σ0 h
    cases h
  | succ k ih =>
    intro x0 x1 x2 σ r0 σ0 h
    exact wX0_rebuild_36b C hr hk (fX0_rebuild_36 fu k) ih x0 x1 x2 σ r0 σ0 h
set_option maxHeartbeats 4000000 in
set_option maxRecDepth 20000 in
theorem wX0_rebuild_12b (C : js_C D g p m c cX0_rebuild 5 s args RX0) (hr : meth.sig.returnType = none) (hk : meth.locks = false) (rc12 : Nat → Nat → Int32 → js_S → Option (Unit × js_S)) (hrc12 : ∀ (x0 : Nat) (x1 : Nat) (x2 : Int32) (σ : js_S) (r0 : Unit) (σ0 : js_S), rc12 x0 x1 x2 σ = some (r0, σ0) → ob_ nn 0 x0 → ob_ nn 5 x1 → js_at p l e 3 s m args below meth c D B g nn 12 5 [(0, .ref (B + x0)), (1, .ref (B + x1)), (2, .int x2)] [] σ (js_QV D B g nn σ0)) : ∀ (x0 : Nat) (x1 : Nat) (x2 : Int32) (σ : js_S) (r0 : Unit) (σ0 : js_S), fX0_rebuild_12b fu rc12 x0 x1 x2 σ = some (r0, σ0) → ob_ nn 0 x0 → ob_ nn 5 x1 → js_at p l e 3 s m args below meth c D B g nn 12 5 [(0, .ref (B + x0)), (1, .ref (B + x1)), (2, .int x2)] [] σ (js_QV D B g nn σ0) := by
  obtain ⟨hx, hb, hml, hown, ht, hK, hNw⟩ := id C
  intro x0 x1 x2 σ r0 σ0 h t0 t1 H locs hT ls hl
  unfold fX0_rebuild_12b at h
  refine lv_iload_n hx hb dX0_rebuild_12 rfl (lv_at hl 2 rfl) ?_
  refine lv_aload_n hx hb dX0_rebuild_13 rfl (lv_at hl 0 rfl) ?_
  refine js_gR C hT cfX0 t0 1 (by decide) (q := 20) rfl (by decide) lk_X0_15 dX0_rebuild_14 (fun t1a => ?_)
  refine js_alen C hT t1a (Or.inl rfl) dX0_rebuild_17 ?_
  refine lv_icmp_ge (tgt := 34) hx hb dX0_rebuild_18 (by decide) (fun c2 => ?_) (fun c2 => ?_)
  · rw [if_pos c2] at h
    refine lv_iconst (v := 0) hx hb dX0_rebuild_34 (by decide) ?_
    refine lv_istore_n (lv' := [(2, .int 0), (0, .ref (B + x0)), (1, .ref (B + x1))]) hx hb dX0_rebuild_35 rfl hl (by decide) rfl (fun ls hl => ?_)
    exact wX0_rebuild_36 C hr hk _ _ _ _ _ _ _ h t0 t1 H locs hT ls (lv_sub hl [1, 2, 0] rfl)
  · rw [if_neg c2] at h
    refine lv_aload_n hx hb dX0_rebuild_21 rfl (lv_at hl 0 rfl) ?_
    refine js_gR C hT cfX0 t0 1 (by decide) (q := 20) rfl (by decide) lk_X0_15 dX0_rebuild_22 (fun t3a => ?_)
    refine lv_iload_n hx hb dX0_rebuild_25 rfl (lv_at hl 2 rfl) ?_
    refine lv_iconst (v := 0) hx hb dX0_rebuild_26 (by decide) ?_
    obtain ⟨g4, h⟩ := gd_some _ h
    obtain ⟨σ4, e4, h⟩ := lt_some h
    refine js_iast C hT t3a g4 dX0_rebuild_27 (fun H locs hT => ?_)
    rw [e4] at hT
    refine lv_iinc (v := x2 + 1) (lv' := [(2, .int (x2 + 1)), (0, .ref (B + x0)), (1, .ref (B + x1))]) hx hb dX0_rebuild_28 hl (k := 2) rfl rfl (by decide) rfl (fun ls hl => ?_)
    refine lv_goto (tgt := 12) hx hb dX0_rebuild_31 (by decide) ?_
    exact hrc12 _ _ _ _ _ _ h t0 t1 H locs hT ls (lv_sub hl [1, 2, 0] rfl)
set_option maxHeartbeats 4000000 in
set_option maxRecDepth 20000 in
theorem wX0_rebuild_12 (C : js_C D g p m c cX0_rebuild 5 s args RX0) (hr : meth.sig.returnType = none) (hk : meth.locks = false) : ∀ (k : Nat), ∀ (x0 : Nat) (x1 : Nat) (x2 : Int32) (σ : js_S) (r0 : Unit) (σ0 : js_S), fX0_rebuild_12 fu k x0 x1 x2 σ = some (r0, σ0) → ob_ nn 0 x0 → ob_ nn 5 x1 → js_at p l e 3 s m args below meth c D B g nn 12 5 [(0, .ref (B + x0)), (1, .ref (B + x1)), (2, .int x2)] [] σ (js_QV D B g nn σ0) := by
  intro k
  induction k with
  | zero =>
    intro x0 x1 x2 σ r0 σ0 h
    cases h
  | succ k ih =>
    intro x0 x1 x2 σ r0 σ0 h
    exact wX0_rebuild_12b C hr hk (fX0_rebuild_12 fu k) ih x0 x1 x2 σ r0 σ0 h
set_option maxHeartbeats 4000000 in
set_option maxRecDepth 20000 in
theorem kX0_rebuild {x0 : Nat} {x1 : Nat} {σ σ0 : js_S} {r0 : Unit} (t0 : ob_ nn 0 x0) (t1 : ob_ nn 5 x1) (h : fX0_rebuild fu x0 x1 σ = some (r0, σ0)) : js_M l D B g nn yX0_rebuild cX0_rebuild 5 none 3 [.ref (B + x0), .ref (B + x1)] σ (js_QV D B g nn σ0) := by
  refine js_enter (by decide) (Nat.le_of_ble_eq_true rfl) ?_
  intro p e s m args below meth c C hr hk ls hl hT
  have hl : lv_has ls 5 [(0, .ref (B + x0)), (1, .ref (B + x1))] := hl
  obtain ⟨hx, hb, hml, hown, ht, hK, hNw⟩ := id C
  obtain ⟨H, eH⟩ : ∃ H, H = s.heap := ⟨_, rfl⟩
  obtain ⟨locs, eL⟩ : ∃ z : List Loc, z = [] := ⟨_, rfl⟩
  rw [← eH, ← eL]
  rw [← eH, ← eL] at hT
  clear eH eL
  unfold fX0_rebuild at h
  refine lv_aload_n hx hb dX0_rebuild_0 rfl (lv_at hl 0 rfl) ?_
  refine lv_iconst (v := 0) hx hb dX0_rebuild_1 (by decide) ?_
  obtain ⟨σ1, e1, h⟩ := lt_some h
  refine js_pI C hT cfX0 t0 2 (by decide) rfl rfl rfl rfl lk_X0_18 dX0_rebuild_2 (fun H locs hT => ?_)
  rw [e1] at hT
  refine lv_aload_n hx hb dX0_rebuild_5 rfl (lv_at hl 0 rfl) ?_
  refine lv_iconst (v := 0) hx hb dX0_rebuild_6 (by decide) ?_
  obtain ⟨σ2, e2, h⟩ := lt_some h
  refine js_pI C hT cfX0 t0 5 (by decide) rfl rfl rfl rfl lk_X0_22 dX0_rebuild_7 (fun H locs hT => ?_)
  rw [e2] at hT
  refine lv_iconst (v := 0) hx hb dX0_rebuild_10 (by decide) ?_
  refine lv_istore_n (lv' := [(2, .int 0), (0, .ref (B + x0)), (1, .ref (B + x1))]) hx hb dX0_rebuild_11 rfl hl (by decide) rfl (fun ls hl => ?_)
  exact wX0_rebuild_12 C hr hk _ _ _ _ _ _ _ h t0 t1 H locs hT ls (lv_sub hl [1, 2, 0] rfl)
set_option maxHeartbeats 4000000 in
set_option maxRecDepth 20000 in
theorem kX1_number {x0 : Nat} {x1 : Int32} {σ σ0 : js_S} {r0 : Int32} (t0 : ob_ nn 1 x0) (h : fX1_number fu x0 x1 σ = some (r0, σ0)) : js_M l D B g nn yX1_number cX1_number 2 (some .int) 0 [.ref (B + x0), .int x1] σ (js_QI D B g nn r0 σ0) := by
  refine js_enter (by decide) (Nat.le_of_ble_eq_true rfl) ?_
  intro p e s m args below meth c C hr hk ls hl hT
  have hl : lv_has ls 2 [(0, .ref (B + x0)), (1, .int x1)] := hl
  obtain ⟨hx, hb, hml, hown, ht, hK, hNw⟩ := id C
  obtain ⟨H, eH⟩ : ∃ H, H = s.heap := ⟨_, rfl⟩
  obtain ⟨locs, eL⟩ : ∃ z : List Loc, z = [] := ⟨_, rfl⟩
  rw [← eH, ← eL]
  rw [← eH, ← eL] at hT
  clear eH eL
  unfold fX1_number at h
  refine lv_iload_n hx hb dX1_number_0 rfl (lv_at hl 1 rfl) ?_
  refine lv_if_lt (tgt := 22) hx hb dX1_number_1 (by decide) (fun c1 => ?_) (fun c1 => ?_)
  · rw [if_pos c1] at h
    refine lv_iconst (v := (-1)) hx hb dX1_number_22 (by decide) ?_
    obtain ⟨rfl, rfl⟩ := js_rt h
    exact js_iret C hT hr hk dX1_number_23
  · rw [if_neg c1] at h
    refine lv_iload_n hx hb dX1_number_4 rfl (lv_at hl 1 rfl) ?_
    refine lv_aload_n hx hb dX1_number_5 rfl (lv_at hl 0 rfl) ?_
    refine js_gR C hT cfX1 t0 2 (by decide) (q := 20) rfl (by decide) lk_X1_21 dX1_number_6 (fun t2a => ?_)
    refine js_alen C hT t2a (Or.inl rfl) dX1_number_9 ?_
    refine lv_icmp_ge (tgt := 22) hx hb dX1_number_10 (by decide) (fun c3 => ?_) (fun c3 => ?_)
    · rw [if_pos c3] at h
      refine lv_iconst (v := (-1)) hx hb dX1_number_22 (by decide) ?_
      obtain ⟨rfl, rfl⟩ := js_rt h
      exact js_iret C hT hr hk dX1_number_23
    · rw [if_neg c3] at h
      refine lv_aload_n hx hb dX1_number_13 rfl (lv_at hl 0 rfl) ?_
      refine js_gR C hT cfX1 t0 2 (by decide) (q := 20) rfl (by decide) lk_X1_21 dX1_number_14 (fun t4a => ?_)
      refine lv_iload_n hx hb dX1_number_17 rfl (lv_at hl 1 rfl) ?_
      obtain ⟨g5, h⟩ := gd_some _ h
      refine js_iald C hT t4a g5 dX1_number_18 ?_
      refine lv_goto (tgt := 23) hx hb dX1_number_19 (by decide) ?_
      obtain ⟨rfl, rfl⟩ := js_rt h
      exact js_iret C hT hr hk dX1_number_23
set_option maxHeartbeats 4000000 in
set_option maxRecDepth 20000 in
theorem kX4_covers {x0 : Int32} {x1 : Int32} {σ σ0 : js_S} {r0 : Int32} (h : fX4_covers fu x0 x1 σ = some (r0, σ0)) : js_M l D B g nn yX4_covers cX4_covers 2 (some .boolean) 0 [.int x0, .int x1] σ (js_QI D B g nn r0 σ0) := by
  refine js_enter (by decide) (Nat.le_of_ble_eq_true rfl) ?_
  intro p e s m args below meth c C hr hk ls hl hT
  have hl : lv_has ls 2 [(0, .int x0), (1, .int x1)] := hl
  obtain ⟨hx, hb, hml, hown, ht, hK, hNw⟩ := id C
  obtain ⟨H, eH⟩ : ∃ H, H = s.heap := ⟨_, rfl⟩
  obtain ⟨locs, eL⟩ : ∃ z : List Loc, z = [] := ⟨_, rfl⟩
  rw [← eH, ← eL]
  rw [← eH, ← eL] at hT
  clear eH eL
  unfold fX4_covers at h
  refine lv_iload_n hx hb dX4_covers_0 rfl (lv_at hl 0 rfl) ?_
  refine lv_if_lt (tgt := 26) hx hb dX4_covers_1 (by decide) (fun c1 => ?_) (fun c1 => ?_)
  · rw [if_pos c1] at h
    refine lv_iconst (v := 0) hx hb dX4_covers_26 (by decide) ?_
    obtain ⟨rfl, rfl⟩ := js_rt h
    exact js_zret C hT hr hk rfl dX4_covers_27
  · rw [if_neg c1] at h
    refine lv_iload_n hx hb dX4_covers_4 rfl (lv_at hl 0 rfl) ?_
    refine lv_sipush (v := 240) hx hb dX4_covers_5 (by decide) ?_
    refine lv_icmp_ge (tgt := 26) hx hb dX4_covers_8 (by decide) (fun c2 => ?_) (fun c2 => ?_)
    · rw [if_pos c2] at h
      refine lv_iconst (v := 0) hx hb dX4_covers_26 (by decide) ?_
      obtain ⟨rfl, rfl⟩ := js_rt h
      exact js_zret C hT hr hk rfl dX4_covers_27
    · rw [if_neg c2] at h
      refine lv_iload_n hx hb dX4_covers_11 rfl (lv_at hl 1 rfl) ?_
      refine lv_if_lt (tgt := 26) hx hb dX4_covers_12 (by decide) (fun c3 => ?_) (fun c3 => ?_)
      · rw [if_pos c3] at h
        refine lv_iconst (v := 0) hx hb dX4_covers_26 (by decide) ?_
        obtain ⟨rfl, rfl⟩ := js_rt h
        exact js_zret C hT hr hk rfl dX4_covers_27
      · rw [if_neg c3] at h
        refine lv_iload_n hx hb dX4_covers_15 rfl (lv_at hl 1 rfl) ?_
        refine lv_sipush (v := 240) hx hb dX4_covers_16 (by decide) ?_
        refine lv_icmp_ge (tgt := 26) hx hb dX4_covers_19 (by decide) (fun c4 => ?_) (fun c4 => ?_)
        · rw [if_pos c4] at h
          refine lv_iconst (v := 0) hx hb dX4_covers_26 (by decide) ?_
          obtain ⟨rfl, rfl⟩ := js_rt h
          exact js_zret C hT hr hk rfl dX4_covers_27
        · rw [if_neg c4] at h
          refine lv_iconst (v := 1) hx hb dX4_covers_22 (by decide) ?_
          refine lv_goto (tgt := 27) hx hb dX4_covers_23 (by decide) ?_
          obtain ⟨rfl, rfl⟩ := js_rt h
          exact js_zret C hT hr hk rfl dX4_covers_27
set_option maxHeartbeats 4000000 in
set_option maxRecDepth 20000 in
theorem kX4_has {x0 : Nat} {x1 : Int32} {x2 : Int32} {σ σ0 : js_S} {r0 : Int32} (t0 : ob_ nn 4 x0) (h : fX4_has fu x0 x1 x2 σ = some (r0, σ0)) : js_M l D B g nn yX4_has cX4_has 3 (some .boolean) 1 [.ref (B + x0), .int x1, .int x2] σ (js_QI D B g nn r0 σ0) := by
  refine js_enter (by decide) (Nat.le_of_ble_eq_true rfl) ?_
  intro p e s m args below meth c C hr hk ls hl hT
  have hl : lv_has ls 3 [(0, .ref (B + x0)), (1, .int x1), (2, .int x2)] := hl
  obtain ⟨hx, hb, hml, hown, ht, hK, hNw⟩ := id C
  obtain ⟨H, eH⟩ : ∃ H, H = s.heap := ⟨_, rfl⟩
  obtain ⟨locs, eL⟩ : ∃ z : List Loc, z = [] := ⟨_, rfl⟩
  rw [← eH, ← eL]
  rw [← eH, ← eL] at hT
  clear eH eL
  unfold fX4_has at h
  refine lv_iload_n hx hb dX4_has_0 rfl (lv_at hl 1 rfl) ?_
  refine lv_iload_n hx hb dX4_has_1 rfl (lv_at hl 2 rfl) ?_
  obtain ⟨r1, σ1, hc1, h⟩ := bd_some h
  refine js_backI hT (js_runS C hT mfX4_covers lk_X4_21 (kX4_covers  hc1) ⟨Nat.le_of_ble_eq_true rfl, Nat.le_of_ble_eq_true rfl⟩ rfl hl.1 rfl (Nat.le_of_ble_eq_true rfl) ⟨Nat.zero_le _, Nat.zero_le _⟩ dX4_has_2) (fun H locs hT => ?_)
  refine lv_if_eq (tgt := 37) hx hb dX4_has_5 (by decide) (fun c2 => ?_) (fun c2 => ?_)
  · rw [if_pos c2] at h
    refine lv_iconst (v := 0) hx hb dX4_has_37 (by decide) ?_
    obtain ⟨rfl, rfl⟩ := js_rt h
    exact js_zret C hT hr hk rfl dX4_has_38
  · rw [if_neg c2] at h
    refine lv_aload_n hx hb dX4_has_8 rfl (lv_at hl 0 rfl) ?_
    refine js_gR C hT cfX4 t0 0 (by decide) (q := 21) rfl (by decide) lk_X4_11 dX4_has_9 (fun t3a => ?_)
    refine lv_iload_n hx hb dX4_has_12 rfl (lv_at hl 1 rfl) ?_
    refine lv_iconst (v := 4) hx hb dX4_has_13 (by decide) ?_
    refine lv_imul hx hb dX4_has_14 ?_
    refine lv_iload_n hx hb dX4_has_15 rfl (lv_at hl 2 rfl) ?_
    refine lv_bipush (v := 64) hx hb dX4_has_16 (by decide) ?_
    refine lv_idiv hx hb dX4_has_18 (by decide) ?_
    refine lv_iadd hx hb dX4_has_19 ?_
    obtain ⟨g4, h⟩ := gd_some _ h
    refine js_lald C hT t3a g4 dX4_has_20 ?_
    refine lv_iload_n hx hb dX4_has_21 rfl (lv_at hl 2 rfl) ?_
    refine lv_bipush (v := 64) hx hb dX4_has_22 (by decide) ?_
    refine lv_irem hx hb dX4_has_24 (by decide) ?_
    refine lv_lshr hx hb dX4_has_25 rfl ?_
    refine lv_lconst (v := 1) hx hb dX4_has_26 (by decide) ?_
    refine lv_land hx hb dX4_has_27 ?_
    refine lv_lconst (v := 0) hx hb dX4_has_28 (by decide) ?_
    refine W.lcmp hx hb dX4_has_29 ?_
    refine lv_if_eq (tgt := 37) hx hb dX4_has_30 (by decide) (fun c5 => ?_) (fun c5 => ?_)
    · rw [if_pos c5] at h
      refine lv_iconst (v := 0) hx hb dX4_has_37 (by decide) ?_
      obtain ⟨rfl, rfl⟩ := js_rt h
      exact js_zret C hT hr hk rfl dX4_has_38
    · rw [if_neg c5] at h
      refine lv_iconst (v := 1) hx hb dX4_has_33 (by decide) ?_
      refine lv_goto (tgt := 38) hx hb dX4_has_34 (by decide) ?_
      obtain ⟨rfl, rfl⟩ := js_rt h
      exact js_zret C hT hr hk rfl dX4_has_38
set_option maxHeartbeats 4000000 in
set_option maxRecDepth 20000 in
theorem wX1_numberFor_51 (C : js_C D g p m c cX1_numberFor 3 s args RX1) (hr : meth.sig.returnType = (some .int)) (hk : meth.locks = false) (rc16 : Nat → Int32 → Int32 → js_S → Option (Int32 × js_S)) (hrc16 : ∀ (x0 : Nat) (x1 : Int32) (x2 : Int32) (σ : js_S) (r0 : Int32) (σ0 : js_S), rc16 x0 x1 x2 σ = some (r0, σ0) → ob_ nn 1 x0 → js_at p l e 2 s m args below meth c D B g nn 16 3 [(0, .ref (B + x0)), (1, .int x1), (2, .int x2)] [] σ (js_QI D B g nn r0 σ0)) : ∀ (x0 : Nat) (x1 : Int32) (x2 : Int32) (σ : js_S) (r0 : Int32) (σ0 : js_S), fX1_numberFor_51 fu rc16 x0 x1 x2 σ = some (r0, σ0) → ob_ nn 1 x0 → js_at p l e 2 s m args below meth c D B g nn 51 3 [(0, .ref (B + x0)), (1, .int x1), (2, .int x2)] [] σ (js_QI D B g nn r0 σ0) := by
  obtain ⟨hx, hb, hml, hown, ht, hK, hNw⟩ := id C
  intro x0 x1 x2 σ r0 σ0 h t0 H locs hT ls hl
  unfold fX1_numberFor_51 at h
  refine lv_iinc (v := x2 + 1) (lv' := [(2, .int (x2 + 1)), (0, .ref (B + x0)), (1, .int x1)]) hx hb dX1_numberFor_51 hl (k := 2) rfl rfl (by decide) rfl (fun ls hl => ?_)
  refine lv_goto (tgt := 16) hx hb dX1_numberFor_54 (by decide) ?_
  exact hrc16 _ _ _ _ _ _ h t0 H locs hT ls (lv_sub hl [1, 2, 0] rfl)
set_option maxHeartbeats 4000000 in
set_option maxRecDepth 20000 in
theorem wX1_numberFor_16b (C : js_C D g p m c cX1_numberFor 3 s args RX1) (hr : meth.sig.returnType = (some .int)) (hk : meth.locks = false) (rc16 : Nat → Int32 → Int32 → js_S → Option (Int32 × js_S)) (hrc16 : ∀ (x0 : Nat) (x1 : Int32) (x2 : Int32) (σ : js_S) (r0 : Int32) (σ0 : js_S), rc16 x0 x1 x2 σ = some (r0, σ0) → ob_ nn 1 x0 → js_at p l e 2 s m args below meth c D B g nn 16 3 [(0, .ref (B + x0)), (1, .int x1), (2, .int x2)] [] σ (js_QI D B g nn r0 σ0)) : ∀ (x0 : Nat) (x1 : Int32) (x2 : Int32) (σ : js_S) (r0 : Int32) (σ0 : js_S), fX1_numberFor_16b fu rc16 x0 x1 x2 σ = some (r0, σ0) → ob_ nn 1 x0 → js_at p l e 2 s m args below meth c D B g nn 16 3 [(0, .ref (B + x0)), (1, .int x1), (2, .int x2)] [] σ (js_QI D B g nn r0 σ0) := by
  obtain ⟨hx, hb, hml, hown, ht, hK, hNw⟩ := id C
  intro x0 x1 x2 σ r0 σ0 h t0 H locs hT ls hl
  unfold fX1_numberFor_16b at h
  refine lv_iload_n hx hb dX1_numberFor_16 rfl (lv_at hl 2 rfl) ?_
  refine lv_iload_n hx hb dX1_numberFor_17 rfl (lv_at hl 1 rfl) ?_
  refine lv_icmp_ge (tgt := 57) hx hb dX1_numberFor_18 (by decide) (fun c1 => ?_) (fun c1 => ?_)
  · rw [if_pos c1] at h
    refine lv_aload_n hx hb dX1_numberFor_57 rfl (lv_at hl 0 rfl) ?_
    refine lv_dup hx hb dX1_numberFor_58 rfl ?_
    refine js_gI C hT cfX1 t0 3 (by decide) rfl lk_X1_45 dX1_numberFor_59 ?_
    refine lv_iconst (v := 1) hx hb dX1_numberFor_62 (by decide) ?_
    refine lv_iadd hx hb dX1_numberFor_63 ?_
    obtain ⟨σ2, e2, h⟩ := lt_some h
    refine js_pI C hT cfX1 t0 3 (by decide) rfl rfl rfl rfl lk_X1_45 dX1_numberFor_64 (fun H locs hT => ?_)
    rw [e2] at hT
    refine lv_aload_n hx hb dX1_numberFor_67 rfl (lv_at hl 0 rfl) ?_
    refine js_gI C hT cfX1 t0 3 (by decide) rfl lk_X1_45 dX1_numberFor_68 ?_
    refine lv_iconst (v := 1) hx hb dX1_numberFor_71 (by decide) ?_
    refine lv_isub hx hb dX1_numberFor_72 ?_
    obtain ⟨rfl, rfl⟩ := js_rt h
    exact js_iret C hT hr hk dX1_numberFor_73
  · rw [if_neg c1] at h
    refine lv_aload_n hx hb dX1_numberFor_21 rfl (lv_at hl 0 rfl) ?_
    refine js_gR C hT cfX1 t0 1 (by decide) (q := 4) rfl (by decide) lk_X1_18 dX1_numberFor_22 (fun t3a => ?_)
    refine lv_iload_n hx hb dX1_numberFor_25 rfl (lv_at hl 1 rfl) ?_
    refine lv_iload_n hx hb dX1_numberFor_26 rfl (lv_at hl 2 rfl) ?_
    obtain ⟨r4, σ4, hc4, h⟩ := bd_some h
    refine js_backI hT (js_runV C hT cfX4 t3a rfl mfX4_has lk_X1_53 (kX4_has t3a hc4) ⟨Nat.le_of_ble_eq_true rfl, Nat.le_of_ble_eq_true rfl⟩ rfl hl.1 rfl (Nat.le_of_ble_eq_true rfl) ⟨Nat.zero_le _, Nat.zero_le _⟩ dX1_numberFor_27) (fun H locs hT => ?_)
    refine lv_if_eq (tgt := 51) hx hb dX1_numberFor_30 (by decide) (fun c5 => ?_) (fun c5 => ?_)
    · rw [if_pos c5] at h
      exact wX1_numberFor_51 C hr hk rc16 hrc16 _ _ _ _ _ _ h t0 H locs hT ls (lv_sub hl [0, 1, 2] rfl)
    · rw [if_neg c5] at h
      refine lv_aload_n hx hb dX1_numberFor_33 rfl (lv_at hl 0 rfl) ?_
      refine js_gR C hT cfX1 t0 1 (by decide) (q := 4) rfl (by decide) lk_X1_18 dX1_numberFor_34 (fun t6a => ?_)
      refine lv_iload_n hx hb dX1_numberFor_37 rfl (lv_at hl 2 rfl) ?_
      refine lv_iload_n hx hb dX1_numberFor_38 rfl (lv_at hl 1 rfl) ?_
      obtain ⟨r7, σ7, hc7, h⟩ := bd_some h
      refine js_backI hT (js_runV C hT cfX4 t6a rfl mfX4_has lk_X1_53 (kX4_has t6a hc7) ⟨Nat.le_of_ble_eq_true rfl, Nat.le_of_ble_eq_true rfl⟩ rfl hl.1 rfl (Nat.le_of_ble_eq_true rfl) ⟨Nat.zero_le _, Nat.zero_le _⟩ dX1_numberFor_39) (fun H locs hT => ?_)
      refine lv_if_eq (tgt := 51) hx hb dX1_numberFor_42 (by decide) (fun c8 => ?_) (fun c8 => ?_)
      · rw [if_pos c8] at h
        exact wX1_numberFor_51 C hr hk rc16 hrc16 _ _ _ _ _ _ h t0 H locs hT ls (lv_sub hl [0, 1, 2] rfl)
      · rw [if_neg c8] at h
        refine lv_aload_n hx hb dX1_numberFor_45 rfl (lv_at hl 0 rfl) ?_
        refine lv_iload_n hx hb dX1_numberFor_46 rfl (lv_at hl 2 rfl) ?_
        obtain ⟨r9, σ9, hc9, h⟩ := bd_some h
        refine js_backI hT (js_runV C hT cfX1 t0 rfl mfX1_number lk_X1_57 (kX1_number t0 hc9) ⟨Nat.le_of_ble_eq_true rfl, Nat.le_of_ble_eq_true rfl⟩ rfl hl.1 rfl (Nat.le_of_ble_eq_true rfl) ⟨Nat.zero_le _, Nat.zero_le _⟩ dX1_numberFor_47) (fun H locs hT => ?_)
        obtain ⟨rfl, rfl⟩ := js_rt h
        exact js_iret C hT hr hk dX1_numberFor_50
set_option maxHeartbeats 4000000 in
set_option maxRecDepth 20000 in
theorem wX1_numberFor_16 (C : js_C D g p m c cX1_numberFor 3 s args RX1) (hr : meth.sig.returnType = (some .int)) (hk : meth.locks = false) : ∀ (k : Nat), ∀ (x0 : Nat) (x1 : Int32) (x2 : Int32) (σ : js_S) (r0 : Int32) (σ0 : js_S), fX1_numberFor_16 fu k x0 x1 x2 σ = some (r0, σ0) → ob_ nn 1 x0 → js_at p l e 2 s m args below meth c D B g nn 16 3 [(0, .ref (B + x0)), (1, .int x1), (2, .int x2)] [] σ (js_QI D B g nn r0 σ0) := by
  intro k
  induction k with
  | zero =>
    intro x0 x1 x2 σ r0 σ0 h
    cases h
  | succ k ih =>
    intro x0 x1 x2 σ r0 σ0 h
    exact wX1_numberFor_16b C hr hk (fX1_numberFor_16 fu k) ih x0 x1 x2 σ r0 σ0 h
set_option maxHeartbeats 4000000 in
set_option maxRecDepth 20000 in
theorem kX1_numberFor {x0 : Nat} {x1 : Int32} {σ σ0 : js_S} {r0 : Int32} (t0 : ob_ nn 1 x0) (h : fX1_numberFor fu x0 x1 σ = some (r0, σ0)) : js_M l D B g nn yX1_numberFor cX1_numberFor 3 (some .int) 2 [.ref (B + x0), .int x1] σ (js_QI D B g nn r0 σ0) := by
  refine js_enter (by decide) (Nat.le_of_ble_eq_true rfl) ?_
  intro p e s m args below meth c C hr hk ls hl hT
  have hl : lv_has ls 3 [(0, .ref (B + x0)), (1, .int x1)] := hl
  obtain ⟨hx, hb, hml, hown, ht, hK, hNw⟩ := id C
  obtain ⟨H, eH⟩ : ∃ H, H = s.heap := ⟨_, rfl⟩
  obtain ⟨locs, eL⟩ : ∃ z : List Loc, z = [] := ⟨_, rfl⟩
  rw [← eH, ← eL]
  rw [← eH, ← eL] at hT
  clear eH eL
  unfold fX1_numberFor at h
  refine lv_aload_n hx hb dX1_numberFor_0 rfl (lv_at hl 0 rfl) ?_
  refine js_gR C hT cfX1 t0 1 (by decide) (q := 4) rfl (by decide) lk_X1_18 dX1_numberFor_1 (fun t1a => ?_)
  refine lv_iload_n hx hb dX1_numberFor_4 rfl (lv_at hl 1 rfl) ?_
  refine lv_iload_n hx hb dX1_numberFor_5 rfl (lv_at hl 1 rfl) ?_
  obtain ⟨r2, σ2, hc2, h⟩ := bd_some h
  refine js_backI hT (js_runV C hT cfX4 t1a rfl mfX4_has lk_X1_53 (kX4_has t1a hc2) ⟨Nat.le_of_ble_eq_true rfl, Nat.le_of_ble_eq_true rfl⟩ rfl hl.1 rfl (Nat.le_of_ble_eq_true rfl) ⟨Nat.zero_le _, Nat.zero_le _⟩ dX1_numberFor_6) (fun H locs hT => ?_)
  refine lv_if_ne (tgt := 14) hx hb dX1_numberFor_9 (by decide) (fun c3 => ?_) (fun c3 => ?_)
  · rw [if_neg c3] at h
    refine lv_iconst (v := 0) hx hb dX1_numberFor_14 (by decide) ?_
    refine lv_istore_n (lv' := [(2, .int 0), (0, .ref (B + x0)), (1, .int x1)]) hx hb dX1_numberFor_15 rfl hl (by decide) rfl (fun ls hl => ?_)
    exact wX1_numberFor_16 C hr hk _ _ _ _ _ _ _ h t0 H locs hT ls (lv_sub hl [1, 2, 0] rfl)
  · rw [if_pos c3] at h
    refine lv_iconst (v := (-1)) hx hb dX1_numberFor_12 (by decide) ?_
    obtain ⟨rfl, rfl⟩ := js_rt h
    exact js_iret C hT hr hk dX1_numberFor_13
set_option maxHeartbeats 4000000 in
set_option maxRecDepth 20000 in
theorem wX4_addRow_10b (C : js_C D g p m c cX4_addRow 4 s args RX4) (hr : meth.sig.returnType = none) (hk : meth.locks = false) (rc10 : Nat → Int32 → Int32 → Int32 → js_S → Option (Unit × js_S)) (hrc10 : ∀ (x0 : Nat) (x1 : Int32) (x2 : Int32) (x3 : Int32) (σ : js_S) (r0 : Unit) (σ0 : js_S), rc10 x0 x1 x2 x3 σ = some (r0, σ0) → ob_ nn 4 x0 → js_at p l e 1 s m args below meth c D B g nn 10 4 [(0, .ref (B + x0)), (1, .int x1), (2, .int x2), (3, .int x3)] [] σ (js_QV D B g nn σ0)) : ∀ (x0 : Nat) (x1 : Int32) (x2 : Int32) (x3 : Int32) (σ : js_S) (r0 : Unit) (σ0 : js_S), fX4_addRow_10b fu rc10 x0 x1 x2 x3 σ = some (r0, σ0) → ob_ nn 4 x0 → js_at p l e 1 s m args below meth c D B g nn 10 4 [(0, .ref (B + x0)), (1, .int x1), (2, .int x2), (3, .int x3)] [] σ (js_QV D B g nn σ0) := by
  obtain ⟨hx, hb, hml, hown, ht, hK, hNw⟩ := id C
  intro x0 x1 x2 x3 σ r0 σ0 h t0 H locs hT ls hl
  unfold fX4_addRow_10b at h
  refine lv_iload_n hx hb dX4_addRow_10 rfl (lv_at hl 3 rfl) ?_
  refine lv_iconst (v := 4) hx hb dX4_addRow_11 (by decide) ?_
  refine lv_icmp_ge (tgt := 44) hx hb dX4_addRow_12 (by decide) (fun c1 => ?_) (fun c1 => ?_)
  · rw [if_pos c1] at h
    obtain ⟨rfl, rfl⟩ := js_rt h
    exact js_vret C hT hr hk dX4_addRow_44
  · rw [if_neg c1] at h
    refine lv_aload_n hx hb dX4_addRow_15 rfl (lv_at hl 0 rfl) ?_
    refine js_gR C hT cfX4 t0 0 (by decide) (q := 21) rfl (by decide) lk_X4_11 dX4_addRow_16 (fun t2a => ?_)
    refine lv_iload_n hx hb dX4_addRow_19 rfl (lv_at hl 1 rfl) ?_
    refine lv_iconst (v := 4) hx hb dX4_addRow_20 (by decide) ?_
    refine lv_imul hx hb dX4_addRow_21 ?_
    refine lv_iload_n hx hb dX4_addRow_22 rfl (lv_at hl 3 rfl) ?_
    refine lv_iadd hx hb dX4_addRow_23 ?_
    refine lv_dup2_11 hx hb dX4_addRow_24 rfl rfl ?_
    obtain ⟨g3, h⟩ := gd_some _ h
    refine js_lald C hT t2a g3 dX4_addRow_25 ?_
    refine lv_aload_n hx hb dX4_addRow_26 rfl (lv_at hl 0 rfl) ?_
    refine js_gR C hT cfX4 t0 0 (by decide) (q := 21) rfl (by decide) lk_X4_11 dX4_addRow_27 (fun t4a => ?_)
    refine lv_iload_n hx hb dX4_addRow_30 rfl (lv_at hl 2 rfl) ?_
    refine lv_iconst (v := 4) hx hb dX4_addRow_31 (by decide) ?_
    refine lv_imul hx hb dX4_addRow_32 ?_
    refine lv_iload_n hx hb dX4_addRow_33 rfl (lv_at hl 3 rfl) ?_
    refine lv_iadd hx hb dX4_addRow_34 ?_
    obtain ⟨g5, h⟩ := gd_some _ h
    refine js_lald C hT t4a g5 dX4_addRow_35 ?_
    refine lv_lor hx hb dX4_addRow_36 ?_
    obtain ⟨g6, h⟩ := gd_some _ h
    obtain ⟨σ6, e6, h⟩ := lt_some h
    refine js_last C hT t2a g6 dX4_addRow_37 (fun H locs hT => ?_)
    rw [e6] at hT
    refine lv_iinc (v := x3 + 1) (lv' := [(3, .int (x3 + 1)), (0, .ref (B + x0)), (1, .int x1), (2, .int x2)]) hx hb dX4_addRow_38 hl (k := 3) rfl rfl (by decide) rfl (fun ls hl => ?_)
    refine lv_goto (tgt := 10) hx hb dX4_addRow_41 (by decide) ?_
    exact hrc10 _ _ _ _ _ _ _ h t0 H locs hT ls (lv_sub hl [1, 2, 3, 0] rfl)
set_option maxHeartbeats 4000000 in
set_option maxRecDepth 20000 in
theorem wX4_addRow_10 (C : js_C D g p m c cX4_addRow 4 s args RX4) (hr : meth.sig.returnType = none) (hk : meth.locks = false) : ∀ (k : Nat), ∀ (x0 : Nat) (x1 : Int32) (x2 : Int32) (x3 : Int32) (σ : js_S) (r0 : Unit) (σ0 : js_S), fX4_addRow_10 fu k x0 x1 x2 x3 σ = some (r0, σ0) → ob_ nn 4 x0 → js_at p l e 1 s m args below meth c D B g nn 10 4 [(0, .ref (B + x0)), (1, .int x1), (2, .int x2), (3, .int x3)] [] σ (js_QV D B g nn σ0) := by
  intro k
  induction k with
  | zero =>
    intro x0 x1 x2 x3 σ r0 σ0 h
    cases h
  | succ k ih =>
    intro x0 x1 x2 x3 σ r0 σ0 h
    exact wX4_addRow_10b C hr hk (fX4_addRow_10 fu k) ih x0 x1 x2 x3 σ r0 σ0 h
set_option maxHeartbeats 4000000 in
set_option maxRecDepth 20000 in
theorem kX4_addRow {x0 : Nat} {x1 : Int32} {x2 : Int32} {σ σ0 : js_S} {r0 : Unit} (t0 : ob_ nn 4 x0) (h : fX4_addRow fu x0 x1 x2 σ = some (r0, σ0)) : js_M l D B g nn yX4_addRow cX4_addRow 4 none 1 [.ref (B + x0), .int x1, .int x2] σ (js_QV D B g nn σ0) := by
  refine js_enter (by decide) (Nat.le_of_ble_eq_true rfl) ?_
  intro p e s m args below meth c C hr hk ls hl hT
  have hl : lv_has ls 4 [(0, .ref (B + x0)), (1, .int x1), (2, .int x2)] := hl
  obtain ⟨hx, hb, hml, hown, ht, hK, hNw⟩ := id C
  obtain ⟨H, eH⟩ : ∃ H, H = s.heap := ⟨_, rfl⟩
  obtain ⟨locs, eL⟩ : ∃ z : List Loc, z = [] := ⟨_, rfl⟩
  rw [← eH, ← eL]
  rw [← eH, ← eL] at hT
  clear eH eL
  unfold fX4_addRow at h
  refine lv_iload_n hx hb dX4_addRow_0 rfl (lv_at hl 1 rfl) ?_
  refine lv_iload_n hx hb dX4_addRow_1 rfl (lv_at hl 2 rfl) ?_
  obtain ⟨r1, σ1, hc1, h⟩ := bd_some h
  refine js_backI hT (js_runS C hT mfX4_covers lk_X4_21 (kX4_covers  hc1) ⟨Nat.le_of_ble_eq_true rfl, Nat.le_of_ble_eq_true rfl⟩ rfl hl.1 rfl (Nat.le_of_ble_eq_true rfl) ⟨Nat.zero_le _, Nat.zero_le _⟩ dX4_addRow_2) (fun H locs hT => ?_)
  refine lv_if_eq (tgt := 44) hx hb dX4_addRow_5 (by decide) (fun c2 => ?_) (fun c2 => ?_)
  · rw [if_pos c2] at h
    obtain ⟨rfl, rfl⟩ := js_rt h
    exact js_vret C hT hr hk dX4_addRow_44
  · rw [if_neg c2] at h
    refine lv_iconst (v := 0) hx hb dX4_addRow_8 (by decide) ?_
    refine lv_istore_n (lv' := [(3, .int 0), (0, .ref (B + x0)), (1, .int x1), (2, .int x2)]) hx hb dX4_addRow_9 rfl hl (by decide) rfl (fun ls hl => ?_)
    exact wX4_addRow_10 C hr hk _ _ _ _ _ _ _ _ h t0 H locs hT ls (lv_sub hl [1, 2, 3, 0] rfl)
set_option maxHeartbeats 4000000 in
set_option maxRecDepth 20000 in
theorem wX4_addPaths_29 (C : js_C D g p m c cX4_addPaths 4 s args RX4) (hr : meth.sig.returnType = none) (hk : meth.locks = false) (rc2 : Nat → Int32 → Int32 → js_S → Option (Unit × js_S)) (hrc2 : ∀ (x0 : Nat) (x1 : Int32) (x2 : Int32) (σ : js_S) (r0 : Unit) (σ0 : js_S), rc2 x0 x1 x2 σ = some (r0, σ0) → ob_ nn 4 x0 → js_at p l e 2 s m args below meth c D B g nn 2 4 [(0, .ref (B + x0)), (1, .int x1), (2, .int x2)] [] σ (js_QV D B g nn σ0)) (rc9 : Nat → Int32 → Int32 → Int32 → js_S → Option (Unit × js_S)) (hrc9 : ∀ (x0 : Nat) (x1 : Int32) (x2 : Int32) (x3 : Int32) (σ : js_S) (r0 : Unit) (σ0 : js_S), rc9 x0 x1 x2 x3 σ = some (r0, σ0) → ob_ nn 4 x0 → js_at p l e 2 s m args below meth c D B g nn 9 4 [(0, .ref (B + x0)), (1, .int x1), (2, .int x2), (3, .int x3)] [] σ (js_QV D B g nn σ0)) : ∀ (x0 : Nat) (x1 : Int32) (x2 : Int32) (x3 : Int32) (σ : js_S) (r0 : Unit) (σ0 : js_S), fX4_addPaths_29 fu rc2 rc9 x0 x1 x2 x3 σ = some (r0, σ0) → ob_ nn 4 x0 → js_at p l e 2 s m args below meth c D B g nn 29 4 [(0, .ref (B + x0)), (1, .int x1), (2, .int x2), (3, .int x3)] [] σ (js_QV D B g nn σ0) := by
  obtain ⟨hx, hb, hml, hown, ht, hK, hNw⟩ := id C
  intro x0 x1 x2 x3 σ r0 σ0 h t0 H locs hT ls hl
  unfold fX4_addPaths_29 at h
  refine lv_iinc (v := x3 + 1) (lv' := [(3, .int (x3 + 1)), (0, .ref (B + x0)), (1, .int x1), (2, .int x2)]) hx hb dX4_addPaths_29 hl (k := 3) rfl rfl (by decide) rfl (fun ls hl => ?_)
  refine lv_goto (tgt := 9) hx hb dX4_addPaths_32 (by decide) ?_
  exact hrc9 _ _ _ _ _ _ _ h t0 H locs hT ls (lv_sub hl [1, 2, 3, 0] rfl)
set_option maxHeartbeats 4000000 in
set_option maxRecDepth 20000 in
theorem wX4_addPaths_9b (C : js_C D g p m c cX4_addPaths 4 s args RX4) (hr : meth.sig.returnType = none) (hk : meth.locks = false) (rc2 : Nat → Int32 → Int32 → js_S → Option (Unit × js_S)) (hrc2 : ∀ (x0 : Nat) (x1 : Int32) (x2 : Int32) (σ : js_S) (r0 : Unit) (σ0 : js_S), rc2 x0 x1 x2 σ = some (r0, σ0) → ob_ nn 4 x0 → js_at p l e 2 s m args below meth c D B g nn 2 4 [(0, .ref (B + x0)), (1, .int x1), (2, .int x2)] [] σ (js_QV D B g nn σ0)) (rc9 : Nat → Int32 → Int32 → Int32 → js_S → Option (Unit × js_S)) (hrc9 : ∀ (x0 : Nat) (x1 : Int32) (x2 : Int32) (x3 : Int32) (σ : js_S) (r0 : Unit) (σ0 : js_S), rc9 x0 x1 x2 x3 σ = some (r0, σ0) → ob_ nn 4 x0 → js_at p l e 2 s m args below meth c D B g nn 9 4 [(0, .ref (B + x0)), (1, .int x1), (2, .int x2), (3, .int x3)] [] σ (js_QV D B g nn σ0)) : ∀ (x0 : Nat) (x1 : Int32) (x2 : Int32) (x3 : Int32) (σ : js_S) (r0 : Unit) (σ0 : js_S), fX4_addPaths_9b fu rc2 rc9 x0 x1 x2 x3 σ = some (r0, σ0) → ob_ nn 4 x0 → js_at p l e 2 s m args below meth c D B g nn 9 4 [(0, .ref (B + x0)), (1, .int x1), (2, .int x2), (3, .int x3)] [] σ (js_QV D B g nn σ0) := by
  obtain ⟨hx, hb, hml, hown, ht, hK, hNw⟩ := id C
  intro x0 x1 x2 x3 σ r0 σ0 h t0 H locs hT ls hl
  unfold fX4_addPaths_9b at h
  refine lv_iload_n hx hb dX4_addPaths_9 rfl (lv_at hl 3 rfl) ?_
  refine lv_iload_n hx hb dX4_addPaths_10 rfl (lv_at hl 1 rfl) ?_
  refine lv_icmp_ge (tgt := 35) hx hb dX4_addPaths_11 (by decide) (fun c1 => ?_) (fun c1 => ?_)
  · rw [if_pos c1] at h
    refine lv_iinc (v := x2 + 1) (lv' := [(2, .int (x2 + 1)), (0, .ref (B + x0)), (1, .int x1), (3, .int x3)]) hx hb dX4_addPaths_35 hl (k := 2) rfl rfl (by decide) rfl (fun ls hl => ?_)
    refine lv_goto (tgt := 2) hx hb dX4_addPaths_38 (by decide) ?_
    exact hrc2 _ _ _ _ _ _ h t0 H locs hT ls (lv_sub hl [1, 2, 0] rfl)
  · rw [if_neg c1] at h
    refine lv_aload_n hx hb dX4_addPaths_14 rfl (lv_at hl 0 rfl) ?_
    refine lv_iload_n hx hb dX4_addPaths_15 rfl (lv_at hl 3 rfl) ?_
    refine lv_iload_n hx hb dX4_addPaths_16 rfl (lv_at hl 2 rfl) ?_
    obtain ⟨r2, σ2, hc2, h⟩ := bd_some h
    refine js_backI hT (js_runV C hT cfX4 t0 rfl mfX4_has lk_X4_31 (kX4_has t0 hc2) ⟨Nat.le_of_ble_eq_true rfl, Nat.le_of_ble_eq_true rfl⟩ rfl hl.1 rfl (Nat.le_of_ble_eq_true rfl) ⟨Nat.zero_le _, Nat.zero_le _⟩ dX4_addPaths_17) (fun H locs hT => ?_)
    refine lv_if_eq (tgt := 29) hx hb dX4_addPaths_20 (by decide) (fun c3 => ?_) (fun c3 => ?_)
    · rw [if_pos c3] at h
      exact wX4_addPaths_29 C hr hk rc2 hrc2 rc9 hrc9 _ _ _ _ _ _ _ h t0 H locs hT ls (lv_sub hl [0, 1, 2, 3] rfl)
    · rw [if_neg c3] at h
      refine lv_aload_n hx hb dX4_addPaths_23 rfl (lv_at hl 0 rfl) ?_
      refine lv_iload_n hx hb dX4_addPaths_24 rfl (lv_at hl 3 rfl) ?_
      refine lv_iload_n hx hb dX4_addPaths_25 rfl (lv_at hl 2 rfl) ?_
      obtain ⟨z4, σ4, hc4, h⟩ := bd_some h
      refine js_backV hT (js_runV C hT cfX4 t0 rfl mfX4_addRow lk_X4_34 (kX4_addRow t0 hc4) ⟨Nat.le_of_ble_eq_true rfl, Nat.le_of_ble_eq_true rfl⟩ rfl hl.1 rfl (Nat.le_of_ble_eq_true rfl) ⟨Nat.zero_le _, Nat.zero_le _⟩ dX4_addPaths_26) (fun H locs hT => ?_)
      exact wX4_addPaths_29 C hr hk rc2 hrc2 rc9 hrc9 _ _ _ _ _ _ _ h t0 H locs hT ls (lv_sub hl [0, 1, 2, 3] rfl)
set_option maxHeartbeats 4000000 in
set_option maxRecDepth 20000 in
theorem wX4_addPaths_9 (C : js_C D g p m c cX4_addPaths 4 s args RX4) (hr : meth.sig.returnType = none) (hk : meth.locks = false) (rc2 : Nat → Int32 → Int32 → js_S → Option (Unit × js_S)) (hrc2 : ∀ (x0 : Nat) (x1 : Int32) (x2 : Int32) (σ : js_S) (r0 : Unit) (σ0 : js_S), rc2 x0 x1 x2 σ = some (r0, σ0) → ob_ nn 4 x0 → js_at p l e 2 s m args below meth c D B g nn 2 4 [(0, .ref (B + x0)), (1, .int x1), (2, .int x2)] [] σ (js_QV D B g nn σ0)) : ∀ (k : Nat), ∀ (x0 : Nat) (x1 : Int32) (x2 : Int32) (x3 : Int32) (σ : js_S) (r0 : Unit) (σ0 : js_S), fX4_addPaths_9 fu rc2 k x0 x1 x2 x3 σ = some (r0, σ0) → ob_ nn 4 x0 → js_at p l e 2 s m args below meth c D B g nn 9 4 [(0, .ref (B + x0)), (1, .int x1), (2, .int x2), (3, .int x3)] [] σ (js_QV D B g nn σ0) := by
  intro k
  induction k with
  | zero =>
    intro x0 x1 x2 x3 σ r0 σ0 h
    cases h
  | succ k ih =>
    intro x0 x1 x2 x3 σ r0 σ0 h
    exact wX4_addPaths_9b C hr hk rc2 hrc2 (fX4_addPaths_9 fu rc2 k) ih x0 x1 x2 x3 σ r0 σ0 h
set_option maxHeartbeats 4000000 in
set_option maxRecDepth 20000 in
theorem wX4_addPaths_2b (C : js_C D g p m c cX4_addPaths 4 s args RX4) (hr : meth.sig.returnType = none) (hk : meth.locks = false) (rc2 : Nat → Int32 → Int32 → js_S → Option (Unit × js_S)) (hrc2 : ∀ (x0 : Nat) (x1 : Int32) (x2 : Int32) (σ : js_S) (r0 : Unit) (σ0 : js_S), rc2 x0 x1 x2 σ = some (r0, σ0) → ob_ nn 4 x0 → js_at p l e 2 s m args below meth c D B g nn 2 4 [(0, .ref (B + x0)), (1, .int x1), (2, .int x2)] [] σ (js_QV D B g nn σ0)) : ∀ (x0 : Nat) (x1 : Int32) (x2 : Int32) (σ : js_S) (r0 : Unit) (σ0 : js_S), fX4_addPaths_2b fu rc2 x0 x1 x2 σ = some (r0, σ0) → ob_ nn 4 x0 → js_at p l e 2 s m args below meth c D B g nn 2 4 [(0, .ref (B + x0)), (1, .int x1), (2, .int x2)] [] σ (js_QV D B g nn σ0) := by
  obtain ⟨hx, hb, hml, hown, ht, hK, hNw⟩ := id C
  intro x0 x1 x2 σ r0 σ0 h t0 H locs hT ls hl
  unfold fX4_addPaths_2b at h
  refine lv_iload_n hx hb dX4_addPaths_2 rfl (lv_at hl 2 rfl) ?_
  refine lv_iload_n hx hb dX4_addPaths_3 rfl (lv_at hl 1 rfl) ?_
  refine lv_icmp_ge (tgt := 41) hx hb dX4_addPaths_4 (by decide) (fun c1 => ?_) (fun c1 => ?_)
  · rw [if_pos c1] at h
    obtain ⟨rfl, rfl⟩ := js_rt h
    exact js_vret C hT hr hk dX4_addPaths_41
  · rw [if_neg c1] at h
    refine lv_iconst (v := 0) hx hb dX4_addPaths_7 (by decide) ?_
    refine lv_istore_n (lv' := [(3, .int 0), (0, .ref (B + x0)), (1, .int x1), (2, .int x2)]) hx hb dX4_addPaths_8 rfl hl (by decide) rfl (fun ls hl => ?_)
    exact wX4_addPaths_9 C hr hk rc2 hrc2 _ _ _ _ _ _ _ _ h t0 H locs hT ls (lv_sub hl [1, 2, 3, 0] rfl)
set_option maxHeartbeats 4000000 in
set_option maxRecDepth 20000 in
theorem wX4_addPaths_2 (C : js_C D g p m c cX4_addPaths 4 s args RX4) (hr : meth.sig.returnType = none) (hk : meth.locks = false) : ∀ (k : Nat), ∀ (x0 : Nat) (x1 : Int32) (x2 : Int32) (σ : js_S) (r0 : Unit) (σ0 : js_S), fX4_addPaths_2 fu k x0 x1 x2 σ = some (r0, σ0) → ob_ nn 4 x0 → js_at p l e 2 s m args below meth c D B g nn 2 4 [(0, .ref (B + x0)), (1, .int x1), (2, .int x2)] [] σ (js_QV D B g nn σ0) := by
  intro k
  induction k with
  | zero =>
    intro x0 x1 x2 σ r0 σ0 h
    cases h
  | succ k ih =>
    intro x0 x1 x2 σ r0 σ0 h
    exact wX4_addPaths_2b C hr hk (fX4_addPaths_2 fu k) ih x0 x1 x2 σ r0 σ0 h
set_option maxHeartbeats 4000000 in
set_option maxRecDepth 20000 in
theorem kX4_addPaths {x0 : Nat} {x1 : Int32} {σ σ0 : js_S} {r0 : Unit} (t0 : ob_ nn 4 x0) (h : fX4_addPaths fu x0 x1 σ = some (r0, σ0)) : js_M l D B g nn yX4_addPaths cX4_addPaths 4 none 2 [.ref (B + x0), .int x1] σ (js_QV D B g nn σ0) := by
  refine js_enter (by decide) (Nat.le_of_ble_eq_true rfl) ?_
  intro p e s m args below meth c C hr hk ls hl hT
  have hl : lv_has ls 4 [(0, .ref (B + x0)), (1, .int x1)] := hl
  obtain ⟨hx, hb, hml, hown, ht, hK, hNw⟩ := id C
  obtain ⟨H, eH⟩ : ∃ H, H = s.heap := ⟨_, rfl⟩
  obtain ⟨locs, eL⟩ : ∃ z : List Loc, z = [] := ⟨_, rfl⟩
  rw [← eH, ← eL]
  rw [← eH, ← eL] at hT
  clear eH eL
  unfold fX4_addPaths at h
  refine lv_iconst (v := 0) hx hb dX4_addPaths_0 (by decide) ?_
  refine lv_istore_n (lv' := [(2, .int 0), (0, .ref (B + x0)), (1, .int x1)]) hx hb dX4_addPaths_1 rfl hl (by decide) rfl (fun ls hl => ?_)
  exact wX4_addPaths_2 C hr hk _ _ _ _ _ _ _ h t0 H locs hT ls (lv_sub hl [1, 2, 0] rfl)
set_option maxHeartbeats 4000000 in
set_option maxRecDepth 20000 in
theorem kX4_copyFrom {x0 : Nat} {x1 : Nat} {σ σ0 : js_S} {r0 : Unit} (t0 : ob_ nn 4 x0) (t1 : ob_ nn 4 x1) (h : fX4_copyFrom fu x0 x1 σ = some (r0, σ0)) : js_M l D B g nn yX4_copyFrom cX4_copyFrom 2 none 0 [.ref (B + x0), .ref (B + x1)] σ (js_QV D B g nn σ0) := by
  refine js_enter (by decide) (Nat.le_of_ble_eq_true rfl) ?_
  intro p e s m args below meth c C hr hk ls hl hT
  have hl : lv_has ls 2 [(0, .ref (B + x0)), (1, .ref (B + x1))] := hl
  obtain ⟨hx, hb, hml, hown, ht, hK, hNw⟩ := id C
  obtain ⟨H, eH⟩ : ∃ H, H = s.heap := ⟨_, rfl⟩
  obtain ⟨locs, eL⟩ : ∃ z : List Loc, z = [] := ⟨_, rfl⟩
  rw [← eH, ← eL]
  rw [← eH, ← eL] at hT
  clear eH eL
  unfold fX4_copyFrom at h
  refine lv_aload_n hx hb dX4_copyFrom_0 rfl (lv_at hl 1 rfl) ?_
  refine js_gR C hT cfX4 t1 0 (by decide) (q := 21) rfl (by decide) lk_X4_11 dX4_copyFrom_1 (fun t1a => ?_)
  refine lv_iconst (v := 0) hx hb dX4_copyFrom_4 (by decide) ?_
  refine lv_aload_n hx hb dX4_copyFrom_5 rfl (lv_at hl 0 rfl) ?_
  refine js_gR C hT cfX4 t0 0 (by decide) (q := 21) rfl (by decide) lk_X4_11 dX4_copyFrom_6 (fun t2a => ?_)
  refine lv_iconst (v := 0) hx hb dX4_copyFrom_9 (by decide) ?_
  refine lv_aload_n hx hb dX4_copyFrom_10 rfl (lv_at hl 0 rfl) ?_
  refine js_gR C hT cfX4 t0 0 (by decide) (q := 21) rfl (by decide) lk_X4_11 dX4_copyFrom_11 (fun t3a => ?_)
  refine js_alen C hT t3a (Or.inr (Or.inl rfl)) dX4_copyFrom_14 ?_
  obtain ⟨g4, h⟩ := gd_some _ h
  obtain ⟨σ4, e4, h⟩ := lt_some h
  refine js_copyl C hT t1a t2a hl.1 g4 lk_X4_15 js_ac1 js_ac2 js_ac3 (Nat.le_of_ble_eq_true rfl) (Nat.le_of_ble_eq_true rfl) dX4_copyFrom_15 (fun H locs hT => ?_)
  rw [e4] at hT
  obtain ⟨rfl, rfl⟩ := js_rt h
  exact js_vret C hT hr hk dX4_copyFrom_18
set_option maxHeartbeats 4000000 in
set_option maxRecDepth 20000 in
theorem wX1_rebuild_81 (C : js_C D g p m c cX1_rebuild 3 s args RX1) (hr : meth.sig.returnType = none) (hk : meth.locks = false) (rc34 : Nat → Nat → Int32 → js_S → Option (Unit × js_S)) (hrc34 : ∀ (x0 : Nat) (x1 : Nat) (x2 : Int32) (σ : js_S) (r0 : Unit) (σ0 : js_S), rc34 x0 x1 x2 σ = some (r0, σ0) → ob_ nn 1 x0 → ob_ nn 5 x1 → js_at p l e 3 s m args below meth c D B g nn 34 3 [(0, .ref (B + x0)), (1, .ref (B + x1)), (2, .int x2)] [] σ (js_QV D B g nn σ0)) : ∀ (x0 : Nat) (x1 : Nat) (x2 : Int32) (σ : js_S) (r0 : Unit) (σ0 : js_S), fX1_rebuild_81 fu rc34 x0 x1 x2 σ = some (r0, σ0) → ob_ nn 1 x0 → ob_ nn 5 x1 → js_at p l e 3 s m args below meth c D B g nn 81 3 [(0, .ref (B + x0)), (1, .ref (B + x1)), (2, .int x2)] [] σ (js_QV D B g nn σ0) := by
  obtain ⟨hx, hb, hml, hown, ht, hK, hNw⟩ := id C
  intro x0 x1 x2 σ r0 σ0 h t0 t1 H locs hT ls hl
  unfold fX1_rebuild_81 at h
  refine lv_iinc (v := x2 + 1) (lv' := [(2, .int (x2 + 1)), (0, .ref (B + x0)), (1, .ref (B + x1))]) hx hb dX1_rebuild_81 hl (k := 2) rfl rfl (by decide) rfl (fun ls hl => ?_)
  refine lv_goto (tgt := 34) hx hb dX1_rebuild_84 (by decide) ?_
  exact hrc34 _ _ _ _ _ _ h t0 t1 H locs hT ls (lv_sub hl [1, 2, 0] rfl)
set_option maxHeartbeats 4000000 in
set_option maxRecDepth 20000 in
theorem wX1_rebuild_34b (C : js_C D g p m c cX1_rebuild 3 s args RX1) (hr : meth.sig.returnType = none) (hk : meth.locks = false) (rc34 : Nat → Nat → Int32 → js_S → Option (Unit × js_S)) (hrc34 : ∀ (x0 : Nat) (x1 : Nat) (x2 : Int32) (σ : js_S) (r0 : Unit) (σ0 : js_S), rc34 x0 x1 x2 σ = some (r0, σ0) → ob_ nn 1 x0 → ob_ nn 5 x1 → js_at p l e 3 s m args below meth c D B g nn 34 3 [(0, .ref (B + x0)), (1, .ref (B + x1)), (2, .int x2)] [] σ (js_QV D B g nn σ0)) : ∀ (x0 : Nat) (x1 : Nat) (x2 : Int32) (σ : js_S) (r0 : Unit) (σ0 : js_S), fX1_rebuild_34b fu rc34 x0 x1 x2 σ = some (r0, σ0) → ob_ nn 1 x0 → ob_ nn 5 x1 → js_at p l e 3 s m args below meth c D B g nn 34 3 [(0, .ref (B + x0)), (1, .ref (B + x1)), (2, .int x2)] [] σ (js_QV D B g nn σ0) := by
  obtain ⟨hx, hb, hml, hown, ht, hK, hNw⟩ := id C
  intro x0 x1 x2 σ r0 σ0 h t0 t1 H locs hT ls hl
  unfold fX1_rebuild_34b at h
  refine lv_iload_n hx hb dX1_rebuild_34 rfl (lv_at hl 2 rfl) ?_
  refine lv_aload_n hx hb dX1_rebuild_35 rfl (lv_at hl 1 rfl) ?_
  refine js_gIN C hT cfX5 t1 4 (by decide) rfl lk_X1_38 dX1_rebuild_36 ?_
  refine lv_icmp_ge (tgt := 87) hx hb dX1_rebuild_39 (by decide) (fun c1 => ?_) (fun c1 => ?_)
  · rw [if_pos c1] at h
    obtain ⟨rfl, rfl⟩ := js_rt h
    exact js_vret C hT hr hk dX1_rebuild_87
  · rw [if_neg c1] at h
    refine lv_iload_n hx hb dX1_rebuild_42 rfl (lv_at hl 2 rfl) ?_
    refine lv_aload_n hx hb dX1_rebuild_43 rfl (lv_at hl 0 rfl) ?_
    refine js_gR C hT cfX1 t0 2 (by decide) (q := 20) rfl (by decide) lk_X1_21 dX1_rebuild_44 (fun t2a => ?_)
    refine js_alen C hT t2a (Or.inl rfl) dX1_rebuild_47 ?_
    refine lv_icmp_ge (tgt := 87) hx hb dX1_rebuild_48 (by decide) (fun c3 => ?_) (fun c3 => ?_)
    · rw [if_pos c3] at h
      obtain ⟨rfl, rfl⟩ := js_rt h
      exact js_vret C hT hr hk dX1_rebuild_87
    · rw [if_neg c3] at h
      refine lv_aload_n hx hb dX1_rebuild_51 rfl (lv_at hl 0 rfl) ?_
      refine js_gR C hT cfX1 t0 2 (by decide) (q := 20) rfl (by decide) lk_X1_21 dX1_rebuild_52 (fun t4a => ?_)
      refine lv_iload_n hx hb dX1_rebuild_55 rfl (lv_at hl 2 rfl) ?_
      refine lv_aload_n hx hb dX1_rebuild_56 rfl (lv_at hl 0 rfl) ?_
      refine lv_iload_n hx hb dX1_rebuild_57 rfl (lv_at hl 2 rfl) ?_
      obtain ⟨r5, σ5, hc5, h⟩ := bd_some h
      refine js_backI hT (js_runV C hT cfX1 t0 rfl mfX1_numberFor lk_X1_49 (kX1_numberFor t0 hc5) ⟨Nat.le_of_ble_eq_true rfl, Nat.le_of_ble_eq_true rfl⟩ rfl hl.1 rfl (Nat.le_of_ble_eq_true rfl) ⟨Nat.zero_le _, Nat.zero_le _⟩ dX1_rebuild_58) (fun H locs hT => ?_)
      obtain ⟨g6, h⟩ := gd_some _ h
      obtain ⟨σ6, e6, h⟩ := lt_some h
      refine js_iast C hT t4a g6 dX1_rebuild_61 (fun H locs hT => ?_)
      rw [e6] at hT
      refine lv_aload_n hx hb dX1_rebuild_62 rfl (lv_at hl 0 rfl) ?_
      refine js_gR C hT cfX1 t0 2 (by decide) (q := 20) rfl (by decide) lk_X1_21 dX1_rebuild_63 (fun t7a => ?_)
      refine lv_iload_n hx hb dX1_rebuild_66 rfl (lv_at hl 2 rfl) ?_
      obtain ⟨g8, h⟩ := gd_some _ h
      refine js_iald C hT t7a g8 dX1_rebuild_67 ?_
      refine lv_if_lt (tgt := 81) hx hb dX1_rebuild_68 (by decide) (fun c9 => ?_) (fun c9 => ?_)
      · rw [if_pos c9] at h
        exact wX1_rebuild_81 C hr hk rc34 hrc34 _ _ _ _ _ _ h t0 t1 H locs hT ls (lv_sub hl [0, 1, 2] rfl)
      · rw [if_neg c9] at h
        refine lv_aload_n hx hb dX1_rebuild_71 rfl (lv_at hl 0 rfl) ?_
        refine lv_dup hx hb dX1_rebuild_72 rfl ?_
        refine js_gI C hT cfX1 t0 4 (by decide) rfl lk_X1_46 dX1_rebuild_73 ?_
        refine lv_iconst (v := 1) hx hb dX1_rebuild_76 (by decide) ?_
        refine lv_iadd hx hb dX1_rebuild_77 ?_
        obtain ⟨σ10, e10, h⟩ := lt_some h
        refine js_pI C hT cfX1 t0 4 (by decide) rfl rfl rfl rfl lk_X1_46 dX1_rebuild_78 (fun H locs hT => ?_)
        rw [e10] at hT
        exact wX1_rebuild_81 C hr hk rc34 hrc34 _ _ _ _ _ _ h t0 t1 H locs hT ls (lv_sub hl [0, 1, 2] rfl)
set_option maxHeartbeats 4000000 in
set_option maxRecDepth 20000 in
theorem wX1_rebuild_34 (C : js_C D g p m c cX1_rebuild 3 s args RX1) (hr : meth.sig.returnType = none) (hk : meth.locks = false) : ∀ (k : Nat), ∀ (x0 : Nat) (x1 : Nat) (x2 : Int32) (σ : js_S) (r0 : Unit) (σ0 : js_S), fX1_rebuild_34 fu k x0 x1 x2 σ = some (r0, σ0) → ob_ nn 1 x0 → ob_ nn 5 x1 → js_at p l e 3 s m args below meth c D B g nn 34 3 [(0, .ref (B + x0)), (1, .ref (B + x1)), (2, .int x2)] [] σ (js_QV D B g nn σ0) := by
  intro k
  induction k with
  | zero =>
    intro x0 x1 x2 σ r0 σ0 h
    cases h
  | succ k ih =>
    intro x0 x1 x2 σ r0 σ0 h
    exact wX1_rebuild_34b C hr hk (fX1_rebuild_34 fu k) ih x0 x1 x2 σ r0 σ0 h
set_option maxHeartbeats 4000000 in
set_option maxRecDepth 20000 in
theorem kX1_rebuild {x0 : Nat} {x1 : Nat} {σ σ0 : js_S} {r0 : Unit} (t0 : ob_ nn 1 x0) (t1 : ob_ nn 5 x1) (h : fX1_rebuild fu x0 x1 σ = some (r0, σ0)) : js_M l D B g nn yX1_rebuild cX1_rebuild 3 none 3 [.ref (B + x0), .ref (B + x1)] σ (js_QV D B g nn σ0) := by
  refine js_enter (by decide) (Nat.le_of_ble_eq_true rfl) ?_
  intro p e s m args below meth c C hr hk ls hl hT
  have hl : lv_has ls 3 [(0, .ref (B + x0)), (1, .ref (B + x1))] := hl
  obtain ⟨hx, hb, hml, hown, ht, hK, hNw⟩ := id C
  obtain ⟨H, eH⟩ : ∃ H, H = s.heap := ⟨_, rfl⟩
  obtain ⟨locs, eL⟩ : ∃ z : List Loc, z = [] := ⟨_, rfl⟩
  rw [← eH, ← eL]
  rw [← eH, ← eL] at hT
  clear eH eL
  unfold fX1_rebuild at h
  refine lv_aload_n hx hb dX1_rebuild_0 rfl (lv_at hl 0 rfl) ?_
  refine js_gR C hT cfX1 t0 1 (by decide) (q := 4) rfl (by decide) lk_X1_18 dX1_rebuild_1 (fun t1a => ?_)
  refine lv_aload_n hx hb dX1_rebuild_4 rfl (lv_at hl 0 rfl) ?_
  refine js_gR C hT cfX1 t0 0 (by decide) (q := 4) rfl (by decide) lk_X1_12 dX1_rebuild_5 (fun t2a => ?_)
  obtain ⟨z3, σ3, hc3, h⟩ := bd_some h
  refine js_backV hT (js_runV C hT cfX4 t1a rfl mfX4_copyFrom lk_X1_30 (kX4_copyFrom t1a t2a hc3) ⟨Nat.le_of_ble_eq_true rfl, Nat.le_of_ble_eq_true rfl⟩ rfl hl.1 rfl (Nat.le_of_ble_eq_true rfl) ⟨Nat.zero_le _, Nat.zero_le _⟩ dX1_rebuild_8) (fun H locs hT => ?_)
  refine lv_aload_n hx hb dX1_rebuild_11 rfl (lv_at hl 0 rfl) ?_
  refine js_gR C hT cfX1 t0 1 (by decide) (q := 4) rfl (by decide) lk_X1_18 dX1_rebuild_12 (fun t4a => ?_)
  refine lv_aload_n hx hb dX1_rebuild_15 rfl (lv_at hl 1 rfl) ?_
  refine js_gIN C hT cfX5 t1 4 (by decide) rfl lk_X1_38 dX1_rebuild_16 ?_
  obtain ⟨z5, σ5, hc5, h⟩ := bd_some h
  refine js_backV hT (js_runV C hT cfX4 t4a rfl mfX4_addPaths lk_X1_42 (kX4_addPaths t4a hc5) ⟨Nat.le_of_ble_eq_true rfl, Nat.le_of_ble_eq_true rfl⟩ rfl hl.1 rfl (Nat.le_of_ble_eq_true rfl) ⟨Nat.zero_le _, Nat.zero_le _⟩ dX1_rebuild_19) (fun H locs hT => ?_)
  refine lv_aload_n hx hb dX1_rebuild_22 rfl (lv_at hl 0 rfl) ?_
  refine lv_iconst (v := 0) hx hb dX1_rebuild_23 (by decide) ?_
  obtain ⟨σ6, e6, h⟩ := lt_some h
  refine js_pI C hT cfX1 t0 3 (by decide) rfl rfl rfl rfl lk_X1_45 dX1_rebuild_24 (fun H locs hT => ?_)
  rw [e6] at hT
  refine lv_aload_n hx hb dX1_rebuild_27 rfl (lv_at hl 0 rfl) ?_
  refine lv_iconst (v := 0) hx hb dX1_rebuild_28 (by decide) ?_
  obtain ⟨σ7, e7, h⟩ := lt_some h
  refine js_pI C hT cfX1 t0 4 (by decide) rfl rfl rfl rfl lk_X1_46 dX1_rebuild_29 (fun H locs hT => ?_)
  rw [e7] at hT
  refine lv_iconst (v := 0) hx hb dX1_rebuild_32 (by decide) ?_
  refine lv_istore_n (lv' := [(2, .int 0), (0, .ref (B + x0)), (1, .ref (B + x1))]) hx hb dX1_rebuild_33 rfl hl (by decide) rfl (fun ls hl => ?_)
  exact wX1_rebuild_34 C hr hk _ _ _ _ _ _ _ h t0 t1 H locs hT ls (lv_sub hl [1, 2, 0] rfl)
set_option maxHeartbeats 4000000 in
set_option maxRecDepth 20000 in
theorem wX4_removeEdgesFrom_10b (C : js_C D g p m c cX4_removeEdgesFrom 3 s args RX4) (hr : meth.sig.returnType = none) (hk : meth.locks = false) (rc10 : Nat → Int32 → Int32 → js_S → Option (Unit × js_S)) (hrc10 : ∀ (x0 : Nat) (x1 : Int32) (x2 : Int32) (σ : js_S) (r0 : Unit) (σ0 : js_S), rc10 x0 x1 x2 σ = some (r0, σ0) → ob_ nn 4 x0 → js_at p l e 1 s m args below meth c D B g nn 10 3 [(0, .ref (B + x0)), (1, .int x1), (2, .int x2)] [] σ (js_QV D B g nn σ0)) : ∀ (x0 : Nat) (x1 : Int32) (x2 : Int32) (σ : js_S) (r0 : Unit) (σ0 : js_S), fX4_removeEdgesFrom_10b fu rc10 x0 x1 x2 σ = some (r0, σ0) → ob_ nn 4 x0 → js_at p l e 1 s m args below meth c D B g nn 10 3 [(0, .ref (B + x0)), (1, .int x1), (2, .int x2)] [] σ (js_QV D B g nn σ0) := by
  obtain ⟨hx, hb, hml, hown, ht, hK, hNw⟩ := id C
  intro x0 x1 x2 σ r0 σ0 h t0 H locs hT ls hl
  unfold fX4_removeEdgesFrom_10b at h
  refine lv_iload_n hx hb dX4_removeEdgesFrom_10 rfl (lv_at hl 2 rfl) ?_
  refine lv_iconst (v := 4) hx hb dX4_removeEdgesFrom_11 (by decide) ?_
  refine lv_icmp_ge (tgt := 32) hx hb dX4_removeEdgesFrom_12 (by decide) (fun c1 => ?_) (fun c1 => ?_)
  · rw [if_pos c1] at h
    obtain ⟨rfl, rfl⟩ := js_rt h
    exact js_vret C hT hr hk dX4_removeEdgesFrom_32
  · rw [if_neg c1] at h
    refine lv_aload_n hx hb dX4_removeEdgesFrom_15 rfl (lv_at hl 0 rfl) ?_
    refine js_gR C hT cfX4 t0 0 (by decide) (q := 21) rfl (by decide) lk_X4_11 dX4_removeEdgesFrom_16 (fun t2a => ?_)
    refine lv_iload_n hx hb dX4_removeEdgesFrom_19 rfl (lv_at hl 1 rfl) ?_
    refine lv_iconst (v := 4) hx hb dX4_removeEdgesFrom_20 (by decide) ?_
    refine lv_imul hx hb dX4_removeEdgesFrom_21 ?_
    refine lv_iload_n hx hb dX4_removeEdgesFrom_22 rfl (lv_at hl 2 rfl) ?_
    refine lv_iadd hx hb dX4_removeEdgesFrom_23 ?_
    refine lv_lconst (v := 0) hx hb dX4_removeEdgesFrom_24 (by decide) ?_
    obtain ⟨g3, h⟩ := gd_some _ h
    obtain ⟨σ3, e3, h⟩ := lt_some h
    refine js_last C hT t2a g3 dX4_removeEdgesFrom_25 (fun H locs hT => ?_)
    rw [e3] at hT
    refine lv_iinc (v := x2 + 1) (lv' := [(2, .int (x2 + 1)), (0, .ref (B + x0)), (1, .int x1)]) hx hb dX4_removeEdgesFrom_26 hl (k := 2) rfl rfl (by decide) rfl (fun ls hl => ?_)
    refine lv_goto (tgt := 10) hx hb dX4_removeEdgesFrom_29 (by decide) ?_
    exact hrc10 _ _ _ _ _ _ h t0 H locs hT ls (lv_sub hl [1, 2, 0] rfl)
set_option maxHeartbeats 4000000 in
set_option maxRecDepth 20000 in
theorem wX4_removeEdgesFrom_10 (C : js_C D g p m c cX4_removeEdgesFrom 3 s args RX4) (hr : meth.sig.returnType = none) (hk : meth.locks = false) : ∀ (k : Nat), ∀ (x0 : Nat) (x1 : Int32) (x2 : Int32) (σ : js_S) (r0 : Unit) (σ0 : js_S), fX4_removeEdgesFrom_10 fu k x0 x1 x2 σ = some (r0, σ0) → ob_ nn 4 x0 → js_at p l e 1 s m args below meth c D B g nn 10 3 [(0, .ref (B + x0)), (1, .int x1), (2, .int x2)] [] σ (js_QV D B g nn σ0) := by
  intro k
  induction k with
  | zero =>
    intro x0 x1 x2 σ r0 σ0 h
    cases h
  | succ k ih =>
    intro x0 x1 x2 σ r0 σ0 h
    exact wX4_removeEdgesFrom_10b C hr hk (fX4_removeEdgesFrom_10 fu k) ih x0 x1 x2 σ r0 σ0 h
set_option maxHeartbeats 4000000 in
set_option maxRecDepth 20000 in
theorem kX4_removeEdgesFrom {x0 : Nat} {x1 : Int32} {σ σ0 : js_S} {r0 : Unit} (t0 : ob_ nn 4 x0) (h : fX4_removeEdgesFrom fu x0 x1 σ = some (r0, σ0)) : js_M l D B g nn yX4_removeEdgesFrom cX4_removeEdgesFrom 3 none 1 [.ref (B + x0), .int x1] σ (js_QV D B g nn σ0) := by
  refine js_enter (by decide) (Nat.le_of_ble_eq_true rfl) ?_
  intro p e s m args below meth c C hr hk ls hl hT
  have hl : lv_has ls 3 [(0, .ref (B + x0)), (1, .int x1)] := hl
  obtain ⟨hx, hb, hml, hown, ht, hK, hNw⟩ := id C
  obtain ⟨H, eH⟩ : ∃ H, H = s.heap := ⟨_, rfl⟩
  obtain ⟨locs, eL⟩ : ∃ z : List Loc, z = [] := ⟨_, rfl⟩
  rw [← eH, ← eL]
  rw [← eH, ← eL] at hT
  clear eH eL
  unfold fX4_removeEdgesFrom at h
  refine lv_iload_n hx hb dX4_removeEdgesFrom_0 rfl (lv_at hl 1 rfl) ?_
  refine lv_iload_n hx hb dX4_removeEdgesFrom_1 rfl (lv_at hl 1 rfl) ?_
  obtain ⟨r1, σ1, hc1, h⟩ := bd_some h
  refine js_backI hT (js_runS C hT mfX4_covers lk_X4_21 (kX4_covers  hc1) ⟨Nat.le_of_ble_eq_true rfl, Nat.le_of_ble_eq_true rfl⟩ rfl hl.1 rfl (Nat.le_of_ble_eq_true rfl) ⟨Nat.zero_le _, Nat.zero_le _⟩ dX4_removeEdgesFrom_2) (fun H locs hT => ?_)
  refine lv_if_eq (tgt := 32) hx hb dX4_removeEdgesFrom_5 (by decide) (fun c2 => ?_) (fun c2 => ?_)
  · rw [if_pos c2] at h
    obtain ⟨rfl, rfl⟩ := js_rt h
    exact js_vret C hT hr hk dX4_removeEdgesFrom_32
  · rw [if_neg c2] at h
    refine lv_iconst (v := 0) hx hb dX4_removeEdgesFrom_8 (by decide) ?_
    refine lv_istore_n (lv' := [(2, .int 0), (0, .ref (B + x0)), (1, .int x1)]) hx hb dX4_removeEdgesFrom_9 rfl hl (by decide) rfl (fun ls hl => ?_)
    exact wX4_removeEdgesFrom_10 C hr hk _ _ _ _ _ _ _ h t0 H locs hT ls (lv_sub hl [1, 2, 0] rfl)
set_option maxHeartbeats 4000000 in
set_option maxRecDepth 20000 in
theorem kX1_remove {x0 : Nat} {x1 : Int32} {σ σ0 : js_S} {r0 : Unit} (t0 : ob_ nn 1 x0) (h : fX1_remove fu x0 x1 σ = some (r0, σ0)) : js_M l D B g nn yX1_remove cX1_remove 2 none 2 [.ref (B + x0), .int x1] σ (js_QV D B g nn σ0) := by
  refine js_enter (by decide) (Nat.le_of_ble_eq_true rfl) ?_
  intro p e s m args below meth c C hr hk ls hl hT
  have hl : lv_has ls 2 [(0, .ref (B + x0)), (1, .int x1)] := hl
  obtain ⟨hx, hb, hml, hown, ht, hK, hNw⟩ := id C
  obtain ⟨H, eH⟩ : ∃ H, H = s.heap := ⟨_, rfl⟩
  obtain ⟨locs, eL⟩ : ∃ z : List Loc, z = [] := ⟨_, rfl⟩
  rw [← eH, ← eL]
  rw [← eH, ← eL] at hT
  clear eH eL
  unfold fX1_remove at h
  refine lv_aload_n hx hb dX1_remove_0 rfl (lv_at hl 0 rfl) ?_
  refine js_gR C hT cfX1 t0 0 (by decide) (q := 4) rfl (by decide) lk_X1_12 dX1_remove_1 (fun t1a => ?_)
  refine lv_iload_n hx hb dX1_remove_4 rfl (lv_at hl 1 rfl) ?_
  obtain ⟨z2, σ2, hc2, h⟩ := bd_some h
  refine js_backV hT (js_runV C hT cfX4 t1a rfl mfX4_removeEdgesFrom lk_X1_34 (kX4_removeEdgesFrom t1a hc2) ⟨Nat.le_of_ble_eq_true rfl, Nat.le_of_ble_eq_true rfl⟩ rfl hl.1 rfl (Nat.le_of_ble_eq_true rfl) ⟨Nat.zero_le _, Nat.zero_le _⟩ dX1_remove_5) (fun H locs hT => ?_)
  obtain ⟨rfl, rfl⟩ := js_rt h
  exact js_vret C hT hr hk dX1_remove_8
set_option maxHeartbeats 4000000 in
set_option maxRecDepth 20000 in
theorem kX1_reset {x0 : Nat} {x1 : Nat} {σ σ0 : js_S} {r0 : Unit} (t0 : ob_ nn 1 x0) (t1 : ob_ nn 5 x1) (h : fX1_reset fu x0 x1 σ = some (r0, σ0)) : js_M l D B g nn yX1_reset cX1_reset 2 none 1 [.ref (B + x0), .ref (B + x1)] σ (js_QV D B g nn σ0) := by
  refine js_enter (by decide) (Nat.le_of_ble_eq_true rfl) ?_
  intro p e s m args below meth c C hr hk ls hl hT
  have hl : lv_has ls 2 [(0, .ref (B + x0)), (1, .ref (B + x1))] := hl
  obtain ⟨hx, hb, hml, hown, ht, hK, hNw⟩ := id C
  obtain ⟨H, eH⟩ : ∃ H, H = s.heap := ⟨_, rfl⟩
  obtain ⟨locs, eL⟩ : ∃ z : List Loc, z = [] := ⟨_, rfl⟩
  rw [← eH, ← eL]
  rw [← eH, ← eL] at hT
  clear eH eL
  unfold fX1_reset at h
  refine lv_aload_n hx hb dX1_reset_0 rfl (lv_at hl 0 rfl) ?_
  refine js_gR C hT cfX1 t0 0 (by decide) (q := 4) rfl (by decide) lk_X1_12 dX1_reset_1 (fun t1a => ?_)
  refine lv_aload_n hx hb dX1_reset_4 rfl (lv_at hl 1 rfl) ?_
  refine js_gRN C hT cfX5 t1 3 (by decide) (q := 4) rfl (by decide) lk_X1_25 dX1_reset_5 (fun t2a => ?_)
  obtain ⟨z3, σ3, hc3, h⟩ := bd_some h
  refine js_backV hT (js_runV C hT cfX4 t1a rfl mfX4_copyFrom lk_X1_30 (kX4_copyFrom t1a t2a hc3) ⟨Nat.le_of_ble_eq_true rfl, Nat.le_of_ble_eq_true rfl⟩ rfl hl.1 rfl (Nat.le_of_ble_eq_true rfl) ⟨Nat.zero_le _, Nat.zero_le _⟩ dX1_reset_8) (fun H locs hT => ?_)
  obtain ⟨rfl, rfl⟩ := js_rt h
  exact js_vret C hT hr hk dX1_reset_11
set_option maxHeartbeats 4000000 in
set_option maxRecDepth 20000 in
theorem kX11_isFunctionNumber {x0 : Int32} {σ σ0 : js_S} {r0 : Int32} (h : fX11_isFunctionNumber fu x0 σ = some (r0, σ0)) : js_M l D B g nn yX11_isFunctionNumber cX11_isFunctionNumber 1 (some .boolean) 0 [.int x0] σ (js_QI D B g nn r0 σ0) := by
  refine js_enter (by decide) (Nat.le_of_ble_eq_true rfl) ?_
  intro p e s m args below meth c C hr hk ls hl hT
  have hl : lv_has ls 1 [(0, .int x0)] := hl
  obtain ⟨hx, hb, hml, hown, ht, hK, hNw⟩ := id C
  obtain ⟨H, eH⟩ : ∃ H, H = s.heap := ⟨_, rfl⟩
  obtain ⟨locs, eL⟩ : ∃ z : List Loc, z = [] := ⟨_, rfl⟩
  rw [← eH, ← eL]
  rw [← eH, ← eL] at hT
  clear eH eL
  unfold fX11_isFunctionNumber at h
  refine lv_iload_n hx hb dX11_isFunctionNumber_0 rfl (lv_at hl 0 rfl) ?_
  refine lv_if_lt (tgt := 13) hx hb dX11_isFunctionNumber_1 (by decide) (fun c1 => ?_) (fun c1 => ?_)
  · rw [if_pos c1] at h
    refine lv_iconst (v := 0) hx hb dX11_isFunctionNumber_13 (by decide) ?_
    obtain ⟨rfl, rfl⟩ := js_rt h
    exact js_zret C hT hr hk rfl dX11_isFunctionNumber_14
  · rw [if_neg c1] at h
    refine lv_iload_n hx hb dX11_isFunctionNumber_4 rfl (lv_at hl 0 rfl) ?_
    refine lv_iconst (v := 3) hx hb dX11_isFunctionNumber_5 (by decide) ?_
    refine lv_icmp_ge (tgt := 13) hx hb dX11_isFunctionNumber_6 (by decide) (fun c2 => ?_) (fun c2 => ?_)
    · rw [if_pos c2] at h
      refine lv_iconst (v := 0) hx hb dX11_isFunctionNumber_13 (by decide) ?_
      obtain ⟨rfl, rfl⟩ := js_rt h
      exact js_zret C hT hr hk rfl dX11_isFunctionNumber_14
    · rw [if_neg c2] at h
      refine lv_iconst (v := 1) hx hb dX11_isFunctionNumber_9 (by decide) ?_
      refine lv_goto (tgt := 14) hx hb dX11_isFunctionNumber_10 (by decide) ?_
      obtain ⟨rfl, rfl⟩ := js_rt h
      exact js_zret C hT hr hk rfl dX11_isFunctionNumber_14
set_option maxHeartbeats 4000000 in
set_option maxRecDepth 20000 in
theorem kX8_ofFunction {x0 : Nat} {x1 : Int32} {σ σ0 : js_S} {r0 : Int32} (t0 : ob_ nn 8 x0) (h : fX8_ofFunction fu x0 x1 σ = some (r0, σ0)) : js_M l D B g nn yX8_ofFunction cX8_ofFunction 2 (some .int) 0 [.ref (B + x0), .int x1] σ (js_QI D B g nn r0 σ0) := by
  refine js_enter (by decide) (Nat.le_of_ble_eq_true rfl) ?_
  intro p e s m args below meth c C hr hk ls hl hT
  have hl : lv_has ls 2 [(0, .ref (B + x0)), (1, .int x1)] := hl
  obtain ⟨hx, hb, hml, hown, ht, hK, hNw⟩ := id C
  obtain ⟨H, eH⟩ : ∃ H, H = s.heap := ⟨_, rfl⟩
  obtain ⟨locs, eL⟩ : ∃ z : List Loc, z = [] := ⟨_, rfl⟩
  rw [← eH, ← eL]
  rw [← eH, ← eL] at hT
  clear eH eL
  unfold fX8_ofFunction at h
  refine lv_iload_n hx hb dX8_ofFunction_0 rfl (lv_at hl 1 rfl) ?_
  refine lv_if_lt (tgt := 21) hx hb dX8_ofFunction_1 (by decide) (fun c1 => ?_) (fun c1 => ?_)
  · rw [if_pos c1] at h
    refine lv_iconst (v := 0) hx hb dX8_ofFunction_21 (by decide) ?_
    obtain ⟨rfl, rfl⟩ := js_rt h
    exact js_iret C hT hr hk dX8_ofFunction_22
  · rw [if_neg c1] at h
    refine lv_iload_n hx hb dX8_ofFunction_4 rfl (lv_at hl 1 rfl) ?_
    refine lv_iconst (v := 3) hx hb dX8_ofFunction_5 (by decide) ?_
    refine lv_icmp_ge (tgt := 21) hx hb dX8_ofFunction_6 (by decide) (fun c2 => ?_) (fun c2 => ?_)
    · rw [if_pos c2] at h
      refine lv_iconst (v := 0) hx hb dX8_ofFunction_21 (by decide) ?_
      obtain ⟨rfl, rfl⟩ := js_rt h
      exact js_iret C hT hr hk dX8_ofFunction_22
    · rw [if_neg c2] at h
      refine lv_aload_n hx hb dX8_ofFunction_9 rfl (lv_at hl 0 rfl) ?_
      refine js_gR C hT cfX8 t0 0 (by decide) (q := 20) rfl (by decide) lk_X8_9 dX8_ofFunction_10 (fun t3a => ?_)
      refine lv_bipush (v := 102) hx hb dX8_ofFunction_13 (by decide) ?_
      refine lv_iload_n hx hb dX8_ofFunction_15 rfl (lv_at hl 1 rfl) ?_
      refine lv_iadd hx hb dX8_ofFunction_16 ?_
      obtain ⟨g4, h⟩ := gd_some _ h
      refine js_iald C hT t3a g4 dX8_ofFunction_17 ?_
      refine lv_goto (tgt := 22) hx hb dX8_ofFunction_18 (by decide) ?_
      obtain ⟨rfl, rfl⟩ := js_rt h
      exact js_iret C hT hr hk dX8_ofFunction_22
set_option maxHeartbeats 4000000 in
set_option maxRecDepth 20000 in
theorem kX2_allowChoices {x0 : Nat} {x1 : Int32} {x2 : Nat} {σ σ0 : js_S} {r0 : Unit} (t0 : ob_ nn 2 x0) (t2 : ob_ nn 8 x2) (h : fX2_allowChoices fu x0 x1 x2 σ = some (r0, σ0)) : js_M l D B g nn yX2_allowChoices cX2_allowChoices 3 none 1 [.ref (B + x0), .int x1, .ref (B + x2)] σ (js_QV D B g nn σ0) := by
  refine js_enter (by decide) (Nat.le_of_ble_eq_true rfl) ?_
  intro p e s m args below meth c C hr hk ls hl hT
  have hl : lv_has ls 3 [(0, .ref (B + x0)), (1, .int x1), (2, .ref (B + x2))] := hl
  obtain ⟨hx, hb, hml, hown, ht, hK, hNw⟩ := id C
  obtain ⟨H, eH⟩ : ∃ H, H = s.heap := ⟨_, rfl⟩
  obtain ⟨locs, eL⟩ : ∃ z : List Loc, z = [] := ⟨_, rfl⟩
  rw [← eH, ← eL]
  rw [← eH, ← eL] at hT
  clear eH eL
  unfold fX2_allowChoices at h
  refine lv_iload_n hx hb dX2_allowChoices_0 rfl (lv_at hl 1 rfl) ?_
  obtain ⟨r1, σ1, hc1, h⟩ := bd_some h
  refine js_backI hT (js_runSN C hT mfX11_isFunctionNumber lk_X2_86 (kX11_isFunctionNumber  hc1) ⟨Nat.le_of_ble_eq_true rfl, Nat.le_of_ble_eq_true rfl⟩ rfl hl.1 rfl (Nat.le_of_ble_eq_true rfl) ⟨Nat.zero_le _, Nat.zero_le _⟩ dX2_allowChoices_1) (fun H locs hT => ?_)
  refine lv_if_eq (tgt := 18) hx hb dX2_allowChoices_4 (by decide) (fun c2 => ?_) (fun c2 => ?_)
  · rw [if_pos c2] at h
    obtain ⟨rfl, rfl⟩ := js_rt h
    exact js_vret C hT hr hk dX2_allowChoices_18
  · rw [if_neg c2] at h
    refine lv_aload_n hx hb dX2_allowChoices_7 rfl (lv_at hl 0 rfl) ?_
    refine js_gR C hT cfX2 t0 2 (by decide) (q := 20) rfl (by decide) lk_X2_22 dX2_allowChoices_8 (fun t3a => ?_)
    refine lv_iload_n hx hb dX2_allowChoices_11 rfl (lv_at hl 1 rfl) ?_
    refine lv_aload_n hx hb dX2_allowChoices_12 rfl (lv_at hl 2 rfl) ?_
    refine lv_iload_n hx hb dX2_allowChoices_13 rfl (lv_at hl 1 rfl) ?_
    obtain ⟨r4, σ4, hc4, h⟩ := bd_some h
    refine js_backI hT (js_runV C hT cfX8 t2 rfl mfX8_ofFunction lk_X2_90 (kX8_ofFunction t2 hc4) ⟨Nat.le_of_ble_eq_true rfl, Nat.le_of_ble_eq_true rfl⟩ rfl hl.1 rfl (Nat.le_of_ble_eq_true rfl) ⟨Nat.zero_le _, Nat.zero_le _⟩ dX2_allowChoices_14) (fun H locs hT => ?_)
    obtain ⟨g5, h⟩ := gd_some _ h
    obtain ⟨σ5, e5, h⟩ := lt_some h
    refine js_iast C hT t3a g5 dX2_allowChoices_17 (fun H locs hT => ?_)
    rw [e5] at hT
    obtain ⟨rfl, rfl⟩ := js_rt h
    exact js_vret C hT hr hk dX2_allowChoices_18
set_option maxHeartbeats 4000000 in
set_option maxRecDepth 20000 in
theorem kX2_choiceOf {x0 : Nat} {x1 : Int32} {σ σ0 : js_S} {r0 : Int32} (t0 : ob_ nn 2 x0) (h : fX2_choiceOf fu x0 x1 σ = some (r0, σ0)) : js_M l D B g nn yX2_choiceOf cX2_choiceOf 2 (some .int) 0 [.ref (B + x0), .int x1] σ (js_QI D B g nn r0 σ0) := by
  refine js_enter (by decide) (Nat.le_of_ble_eq_true rfl) ?_
  intro p e s m args below meth c C hr hk ls hl hT
  have hl : lv_has ls 2 [(0, .ref (B + x0)), (1, .int x1)] := hl
  obtain ⟨hx, hb, hml, hown, ht, hK, hNw⟩ := id C
  obtain ⟨H, eH⟩ : ∃ H, H = s.heap := ⟨_, rfl⟩
  obtain ⟨locs, eL⟩ : ∃ z : List Loc, z = [] := ⟨_, rfl⟩
  rw [← eH, ← eL]
  rw [← eH, ← eL] at hT
  clear eH eL
  unfold fX2_choiceOf at h
  refine lv_iload_n hx hb dX2_choiceOf_0 rfl (lv_at hl 1 rfl) ?_
  refine lv_if_lt (tgt := 22) hx hb dX2_choiceOf_1 (by decide) (fun c1 => ?_) (fun c1 => ?_)
  · rw [if_pos c1] at h
    refine lv_iconst (v := 0) hx hb dX2_choiceOf_22 (by decide) ?_
    obtain ⟨rfl, rfl⟩ := js_rt h
    exact js_iret C hT hr hk dX2_choiceOf_23
  · rw [if_neg c1] at h
    refine lv_iload_n hx hb dX2_choiceOf_4 rfl (lv_at hl 1 rfl) ?_
    refine lv_aload_n hx hb dX2_choiceOf_5 rfl (lv_at hl 0 rfl) ?_
    refine js_gR C hT cfX2 t0 1 (by decide) (q := 20) rfl (by decide) lk_X2_18 dX2_choiceOf_6 (fun t2a => ?_)
    refine js_alen C hT t2a (Or.inl rfl) dX2_choiceOf_9 ?_
    refine lv_icmp_ge (tgt := 22) hx hb dX2_choiceOf_10 (by decide) (fun c3 => ?_) (fun c3 => ?_)
    · rw [if_pos c3] at h
      refine lv_iconst (v := 0) hx hb dX2_choiceOf_22 (by decide) ?_
      obtain ⟨rfl, rfl⟩ := js_rt h
      exact js_iret C hT hr hk dX2_choiceOf_23
    · rw [if_neg c3] at h
      refine lv_aload_n hx hb dX2_choiceOf_13 rfl (lv_at hl 0 rfl) ?_
      refine js_gR C hT cfX2 t0 1 (by decide) (q := 20) rfl (by decide) lk_X2_18 dX2_choiceOf_14 (fun t4a => ?_)
      refine lv_iload_n hx hb dX2_choiceOf_17 rfl (lv_at hl 1 rfl) ?_
      obtain ⟨g5, h⟩ := gd_some _ h
      refine js_iald C hT t4a g5 dX2_choiceOf_18 ?_
      refine lv_goto (tgt := 23) hx hb dX2_choiceOf_19 (by decide) ?_
      obtain ⟨rfl, rfl⟩ := js_rt h
      exact js_iret C hT hr hk dX2_choiceOf_23
set_option maxHeartbeats 4000000 in
set_option maxRecDepth 20000 in
theorem wX2_countChoices_75 (C : js_C D g p m c cX2_countChoices 6 s args RX2) (hr : meth.sig.returnType = none) (hk : meth.locks = false) (rc26 : Nat → Nat → Nat → Int32 → Nat → Int32 → js_S → Option (Unit × js_S)) (hrc26 : ∀ (x0 : Nat) (x1 : Nat) (x2 : Nat) (x3 : Int32) (x4 : Nat) (x5 : Int32) (σ : js_S) (r0 : Unit) (σ0 : js_S), rc26 x0 x1 x2 x3 x4 x5 σ = some (r0, σ0) → ob_ nn 2 x0 → ob_ nn 5 x1 → ob_ nn 1 x2 → ob_ nn 8 x4 → js_at p l e 2 s m args below meth c D B g nn 26 6 [(0, .ref (B + x0)), (1, .ref (B + x1)), (2, .ref (B + x2)), (3, .int x3), (4, .ref (B + x4)), (5, .int x5)] [] σ (js_QV D B g nn σ0)) : ∀ (x0 : Nat) (x1 : Nat) (x2 : Nat) (x3 : Int32) (x4 : Nat) (x5 : Int32) (σ : js_S) (r0 : Unit) (σ0 : js_S), fX2_countChoices_75 fu rc26 x0 x1 x2 x3 x4 x5 σ = some (r0, σ0) → ob_ nn 2 x0 → ob_ nn 5 x1 → ob_ nn 1 x2 → ob_ nn 8 x4 → js_at p l e 2 s m args below meth c D B g nn 75 6 [(0, .ref (B + x0)), (1, .ref (B + x1)), (2, .ref (B + x2)), (3, .int x3), (4, .ref (B + x4)), (5, .int x5)] [] σ (js_QV D B g nn σ0) := by
  obtain ⟨hx, hb, hml, hown, ht, hK, hNw⟩ := id C
  intro x0 x1 x2 x3 x4 x5 σ r0 σ0 h t0 t1 t2 t4 H locs hT ls hl
  unfold fX2_countChoices_75 at h
  refine lv_iinc (v := x5 + 1) (lv' := [(5, .int (x5 + 1)), (0, .ref (B + x0)), (1, .ref (B + x1)), (2, .ref (B + x2)), (3, .int x3), (4, .ref (B + x4))]) hx hb dX2_countChoices_75 hl (k := 5) rfl rfl (by decide) rfl (fun ls hl => ?_)
  refine lv_goto (tgt := 26) hx hb dX2_countChoices_78 (by decide) ?_
  exact hrc26 _ _ _ _ _ _ _ _ _ h t0 t1 t2 t4 H locs hT ls (lv_sub hl [1, 2, 3, 4, 5, 0] rfl)
set_option maxHeartbeats 4000000 in
set_option maxRecDepth 20000 in
theorem wX2_countChoices_26b (C : js_C D g p m c cX2_countChoices 6 s args RX2) (hr : meth.sig.returnType = none) (hk : meth.locks = false) (rc26 : Nat → Nat → Nat → Int32 → Nat → Int32 → js_S → Option (Unit × js_S)) (hrc26 : ∀ (x0 : Nat) (x1 : Nat) (x2 : Nat) (x3 : Int32) (x4 : Nat) (x5 : Int32) (σ : js_S) (r0 : Unit) (σ0 : js_S), rc26 x0 x1 x2 x3 x4 x5 σ = some (r0, σ0) → ob_ nn 2 x0 → ob_ nn 5 x1 → ob_ nn 1 x2 → ob_ nn 8 x4 → js_at p l e 2 s m args below meth c D B g nn 26 6 [(0, .ref (B + x0)), (1, .ref (B + x1)), (2, .ref (B + x2)), (3, .int x3), (4, .ref (B + x4)), (5, .int x5)] [] σ (js_QV D B g nn σ0)) : ∀ (x0 : Nat) (x1 : Nat) (x2 : Nat) (x3 : Int32) (x4 : Nat) (x5 : Int32) (σ : js_S) (r0 : Unit) (σ0 : js_S), fX2_countChoices_26b fu rc26 x0 x1 x2 x3 x4 x5 σ = some (r0, σ0) → ob_ nn 2 x0 → ob_ nn 5 x1 → ob_ nn 1 x2 → ob_ nn 8 x4 → js_at p l e 2 s m args below meth c D B g nn 26 6 [(0, .ref (B + x0)), (1, .ref (B + x1)), (2, .ref (B + x2)), (3, .int x3), (4, .ref (B + x4)), (5, .int x5)] [] σ (js_QV D B g nn σ0) := by
  obtain ⟨hx, hb, hml, hown, ht, hK, hNw⟩ := id C
  intro x0 x1 x2 x3 x4 x5 σ r0 σ0 h t0 t1 t2 t4 H locs hT ls hl
  unfold fX2_countChoices_26b at h
  refine lv_iload hx hb dX2_countChoices_26 (lv_at hl 5 rfl) ?_
  refine lv_aload_n hx hb dX2_countChoices_28 rfl (lv_at hl 1 rfl) ?_
  refine js_gIN C hT cfX5 t1 4 (by decide) rfl lk_X2_51 dX2_countChoices_29 ?_
  refine lv_icmp_ge (tgt := 81) hx hb dX2_countChoices_32 (by decide) (fun c1 => ?_) (fun c1 => ?_)
  · rw [if_pos c1] at h
    obtain ⟨rfl, rfl⟩ := js_rt h
    exact js_vret C hT hr hk dX2_countChoices_81
  · rw [if_neg c1] at h
    refine lv_aload_n hx hb dX2_countChoices_35 rfl (lv_at hl 2 rfl) ?_
    refine lv_iload hx hb dX2_countChoices_36 (lv_at hl 5 rfl) ?_
    obtain ⟨r2, σ2, hc2, h⟩ := bd_some h
    refine js_backI hT (js_runV C hT cfX1 t2 rfl mfX1_number lk_X2_54 (kX1_number t2 hc2) ⟨Nat.le_of_ble_eq_true rfl, Nat.le_of_ble_eq_true rfl⟩ rfl hl.1 rfl (Nat.le_of_ble_eq_true rfl) ⟨Nat.zero_le _, Nat.zero_le _⟩ dX2_countChoices_38) (fun H locs hT => ?_)
    refine lv_iload_n hx hb dX2_countChoices_41 rfl (lv_at hl 3 rfl) ?_
    refine lv_icmp_ne (tgt := 75) hx hb dX2_countChoices_42 (by decide) (fun c3 => ?_) (fun c3 => ?_)
    · rw [if_neg c3] at h
      exact wX2_countChoices_75 C hr hk rc26 hrc26 _ _ _ _ _ _ _ _ _ h t0 t1 t2 t4 H locs hT ls (lv_sub hl [0, 1, 2, 3, 4, 5] rfl)
    · rw [if_pos c3] at h
      refine lv_aload_n hx hb dX2_countChoices_45 rfl (lv_at hl 0 rfl) ?_
      refine lv_aload_n hx hb dX2_countChoices_46 rfl (lv_at hl 1 rfl) ?_
      refine lv_iload hx hb dX2_countChoices_47 (lv_at hl 5 rfl) ?_
      obtain ⟨r4, σ4, hc4, h⟩ := bd_some h
      refine js_backI hT (js_runV C hT cfX5 t1 rfl mfX5_graph lk_X2_58 (kX5_graph t1 hc4) ⟨Nat.le_of_ble_eq_true rfl, Nat.le_of_ble_eq_true rfl⟩ rfl hl.1 rfl (Nat.le_of_ble_eq_true rfl) ⟨Nat.zero_le _, Nat.zero_le _⟩ dX2_countChoices_49) (fun H locs hT => ?_)
      obtain ⟨r5, σ5, hc5, h⟩ := bd_some h
      refine js_backI hT (js_runSN C hT mfX11_sourceOf lk_X2_76 (kX11_sourceOf  hc5) ⟨Nat.le_of_ble_eq_true rfl, Nat.le_of_ble_eq_true rfl⟩ rfl hl.1 rfl (Nat.le_of_ble_eq_true rfl) ⟨Nat.zero_le _, Nat.zero_le _⟩ dX2_countChoices_52) (fun H locs hT => ?_)
      refine lv_aload hx hb dX2_countChoices_55 (lv_at hl 4 rfl) ?_
      obtain ⟨z6, σ6, hc6, h⟩ := bd_some h
      refine js_backV hT (js_runV C hT cfX2 t0 rfl mfX2_allowChoices lk_X2_79 (kX2_allowChoices t0 t4 hc6) ⟨Nat.le_of_ble_eq_true rfl, Nat.le_of_ble_eq_true rfl⟩ rfl hl.1 rfl (Nat.le_of_ble_eq_true rfl) ⟨Nat.zero_le _, Nat.zero_le _⟩ dX2_countChoices_57) (fun H locs hT => ?_)
      refine lv_aload_n hx hb dX2_countChoices_60 rfl (lv_at hl 0 rfl) ?_
      refine lv_aload_n hx hb dX2_countChoices_61 rfl (lv_at hl 1 rfl) ?_
      refine lv_iload hx hb dX2_countChoices_62 (lv_at hl 5 rfl) ?_
      obtain ⟨r7, σ7, hc7, h⟩ := bd_some h
      refine js_backI hT (js_runV C hT cfX5 t1 rfl mfX5_graph lk_X2_58 (kX5_graph t1 hc7) ⟨Nat.le_of_ble_eq_true rfl, Nat.le_of_ble_eq_true rfl⟩ rfl hl.1 rfl (Nat.le_of_ble_eq_true rfl) ⟨Nat.zero_le _, Nat.zero_le _⟩ dX2_countChoices_64) (fun H locs hT => ?_)
      obtain ⟨r8, σ8, hc8, h⟩ := bd_some h
      refine js_backI hT (js_runSN C hT mfX11_targetOf lk_X2_83 (kX11_targetOf  hc8) ⟨Nat.le_of_ble_eq_true rfl, Nat.le_of_ble_eq_true rfl⟩ rfl hl.1 rfl (Nat.le_of_ble_eq_true rfl) ⟨Nat.zero_le _, Nat.zero_le _⟩ dX2_countChoices_67) (fun H locs hT => ?_)
      refine lv_aload hx hb dX2_countChoices_70 (lv_at hl 4 rfl) ?_
      obtain ⟨z9, σ9, hc9, h⟩ := bd_some h
      refine js_backV hT (js_runV C hT cfX2 t0 rfl mfX2_allowChoices lk_X2_79 (kX2_allowChoices t0 t4 hc9) ⟨Nat.le_of_ble_eq_true rfl, Nat.le_of_ble_eq_true rfl⟩ rfl hl.1 rfl (Nat.le_of_ble_eq_true rfl) ⟨Nat.zero_le _, Nat.zero_le _⟩ dX2_countChoices_72) (fun H locs hT => ?_)
      exact wX2_countChoices_75 C hr hk rc26 hrc26 _ _ _ _ _ _ _ _ _ h t0 t1 t2 t4 H locs hT ls (lv_sub hl [0, 1, 2, 3, 4, 5] rfl)
set_option maxHeartbeats 4000000 in
set_option maxRecDepth 20000 in
theorem wX2_countChoices_26 (C : js_C D g p m c cX2_countChoices 6 s args RX2) (hr : meth.sig.returnType = none) (hk : meth.locks = false) : ∀ (k : Nat), ∀ (x0 : Nat) (x1 : Nat) (x2 : Nat) (x3 : Int32) (x4 : Nat) (x5 : Int32) (σ : js_S) (r0 : Unit) (σ0 : js_S), fX2_countChoices_26 fu k x0 x1 x2 x3 x4 x5 σ = some (r0, σ0) → ob_ nn 2 x0 → ob_ nn 5 x1 → ob_ nn 1 x2 → ob_ nn 8 x4 → js_at p l e 2 s m args below meth c D B g nn 26 6 [(0, .ref (B + x0)), (1, .ref (B + x1)), (2, .ref (B + x2)), (3, .int x3), (4, .ref (B + x4)), (5, .int x5)] [] σ (js_QV D B g nn σ0) := by
  intro k
  induction k with
  | zero =>
    intro x0 x1 x2 x3 x4 x5 σ r0 σ0 h
    cases h
  | succ k ih =>
    intro x0 x1 x2 x3 x4 x5 σ r0 σ0 h
    exact wX2_countChoices_26b C hr hk (fX2_countChoices_26 fu k) ih x0 x1 x2 x3 x4 x5 σ r0 σ0 h
set_option maxHeartbeats 4000000 in
set_option maxRecDepth 20000 in
theorem wX2_countChoices_3b (C : js_C D g p m c cX2_countChoices 6 s args RX2) (hr : meth.sig.returnType = none) (hk : meth.locks = false) (rc3 : Nat → Nat → Nat → Int32 → Nat → Int32 → js_S → Option (Unit × js_S)) (hrc3 : ∀ (x0 : Nat) (x1 : Nat) (x2 : Nat) (x3 : Int32) (x4 : Nat) (x5 : Int32) (σ : js_S) (r0 : Unit) (σ0 : js_S), rc3 x0 x1 x2 x3 x4 x5 σ = some (r0, σ0) → ob_ nn 2 x0 → ob_ nn 5 x1 → ob_ nn 1 x2 → ob_ nn 8 x4 → js_at p l e 2 s m args below meth c D B g nn 3 6 [(0, .ref (B + x0)), (1, .ref (B + x1)), (2, .ref (B + x2)), (3, .int x3), (4, .ref (B + x4)), (5, .int x5)] [] σ (js_QV D B g nn σ0)) : ∀ (x0 : Nat) (x1 : Nat) (x2 : Nat) (x3 : Int32) (x4 : Nat) (x5 : Int32) (σ : js_S) (r0 : Unit) (σ0 : js_S), fX2_countChoices_3b fu rc3 x0 x1 x2 x3 x4 x5 σ = some (r0, σ0) → ob_ nn 2 x0 → ob_ nn 5 x1 → ob_ nn 1 x2 → ob_ nn 8 x4 → js_at p l e 2 s m args below meth c D B g nn 3 6 [(0, .ref (B + x0)), (1, .ref (B + x1)), (2, .ref (B + x2)), (3, .int x3), (4, .ref (B + x4)), (5, .int x5)] [] σ (js_QV D B g nn σ0) := by
  obtain ⟨hx, hb, hml, hown, ht, hK, hNw⟩ := id C
  intro x0 x1 x2 x3 x4 x5 σ r0 σ0 h t0 t1 t2 t4 H locs hT ls hl
  unfold fX2_countChoices_3b at h
  refine lv_iload hx hb dX2_countChoices_3 (lv_at hl 5 rfl) ?_
  refine lv_iconst (v := 3) hx hb dX2_countChoices_5 (by decide) ?_
  refine lv_icmp_ge (tgt := 23) hx hb dX2_countChoices_6 (by decide) (fun c1 => ?_) (fun c1 => ?_)
  · rw [if_pos c1] at h
    refine lv_iconst (v := 0) hx hb dX2_countChoices_23 (by decide) ?_
    refine lv_istore (lv' := [(5, .int 0), (0, .ref (B + x0)), (1, .ref (B + x1)), (2, .ref (B + x2)), (3, .int x3), (4, .ref (B + x4))]) hx hb dX2_countChoices_24 hl (by decide) rfl (fun ls hl => ?_)
    exact wX2_countChoices_26 C hr hk _ _ _ _ _ _ _ _ _ _ h t0 t1 t2 t4 H locs hT ls (lv_sub hl [1, 2, 3, 4, 5, 0] rfl)
  · rw [if_neg c1] at h
    refine lv_aload_n hx hb dX2_countChoices_9 rfl (lv_at hl 0 rfl) ?_
    refine js_gR C hT cfX2 t0 2 (by decide) (q := 20) rfl (by decide) lk_X2_22 dX2_countChoices_10 (fun t2a => ?_)
    refine lv_iload hx hb dX2_countChoices_13 (lv_at hl 5 rfl) ?_
    refine lv_iconst (v := 1) hx hb dX2_countChoices_15 (by decide) ?_
    obtain ⟨g3, h⟩ := gd_some _ h
    obtain ⟨σ3, e3, h⟩ := lt_some h
    refine js_iast C hT t2a g3 dX2_countChoices_16 (fun H locs hT => ?_)
    rw [e3] at hT
    refine lv_iinc (v := x5 + 1) (lv' := [(5, .int (x5 + 1)), (0, .ref (B + x0)), (1, .ref (B + x1)), (2, .ref (B + x2)), (3, .int x3), (4, .ref (B + x4))]) hx hb dX2_countChoices_17 hl (k := 5) rfl rfl (by decide) rfl (fun ls hl => ?_)
    refine lv_goto (tgt := 3) hx hb dX2_countChoices_20 (by decide) ?_
    exact hrc3 _ _ _ _ _ _ _ _ _ h t0 t1 t2 t4 H locs hT ls (lv_sub hl [1, 2, 3, 4, 5, 0] rfl)
set_option maxHeartbeats 4000000 in
set_option maxRecDepth 20000 in
theorem wX2_countChoices_3 (C : js_C D g p m c cX2_countChoices 6 s args RX2) (hr : meth.sig.returnType = none) (hk : meth.locks = false) : ∀ (k : Nat), ∀ (x0 : Nat) (x1 : Nat) (x2 : Nat) (x3 : Int32) (x4 : Nat) (x5 : Int32) (σ : js_S) (r0 : Unit) (σ0 : js_S), fX2_countChoices_3 fu k x0 x1 x2 x3 x4 x5 σ = some (r0, σ0) → ob_ nn 2 x0 → ob_ nn 5 x1 → ob_ nn 1 x2 → ob_ nn 8 x4 → js_at p l e 2 s m args below meth c D B g nn 3 6 [(0, .ref (B + x0)), (1, .ref (B + x1)), (2, .ref (B + x2)), (3, .int x3), (4, .ref (B + x4)), (5, .int x5)] [] σ (js_QV D B g nn σ0) := by
  intro k
  induction k with
  | zero =>
    intro x0 x1 x2 x3 x4 x5 σ r0 σ0 h
    cases h
  | succ k ih =>
    intro x0 x1 x2 x3 x4 x5 σ r0 σ0 h
    exact wX2_countChoices_3b C hr hk (fX2_countChoices_3 fu k) ih x0 x1 x2 x3 x4 x5 σ r0 σ0 h
set_option maxHeartbeats 4000000 in
set_option maxRecDepth 20000 in
theorem kX2_countChoices {x0 : Nat} {x1 : Nat} {x2 : Nat} {x3 : Int32} {x4 : Nat} {σ σ0 : js_S} {r0 : Unit} (t0 : ob_ nn 2 x0) (t1 : ob_ nn 5 x1) (t2 : ob_ nn 1 x2) (t4 : ob_ nn 8 x4) (h : fX2_countChoices fu x0 x1 x2 x3 x4 σ = some (r0, σ0)) : js_M l D B g nn yX2_countChoices cX2_countChoices 6 none 2 [.ref (B + x0), .ref (B + x1), .ref (B + x2), .int x3, .ref (B + x4)] σ (js_QV D B g nn σ0) := by
  refine js_enter (by decide) (Nat.le_of_ble_eq_true rfl) ?_
  intro p e s m args below meth c C hr hk ls hl hT
  have hl : lv_has ls 6 [(0, .ref (B + x0)), (1, .ref (B + x1)), (2, .ref (B + x2)), (3, .int x3), (4, .ref (B + x4))] := hl
  obtain ⟨hx, hb, hml, hown, ht, hK, hNw⟩ := id C
  obtain ⟨H, eH⟩ : ∃ H, H = s.heap := ⟨_, rfl⟩
  obtain ⟨locs, eL⟩ : ∃ z : List Loc, z = [] := ⟨_, rfl⟩
  rw [← eH, ← eL]
  rw [← eH, ← eL] at hT
  clear eH eL
  unfold fX2_countChoices at h
  refine lv_iconst (v := 0) hx hb dX2_countChoices_0 (by decide) ?_
  refine lv_istore (lv' := [(5, .int 0), (0, .ref (B + x0)), (1, .ref (B + x1)), (2, .ref (B + x2)), (3, .int x3), (4, .ref (B + x4))]) hx hb dX2_countChoices_1 hl (by decide) rfl (fun ls hl => ?_)
  exact wX2_countChoices_3 C hr hk _ _ _ _ _ _ _ _ _ _ h t0 t1 t2 t4 H locs hT ls (lv_sub hl [1, 2, 3, 4, 5, 0] rfl)
set_option maxHeartbeats 4000000 in
set_option maxRecDepth 20000 in
theorem kX2_projected {x0 : Nat} {x1 : Int32} {σ σ0 : js_S} {r0 : Int32} (t0 : ob_ nn 2 x0) (h : fX2_projected fu x0 x1 σ = some (r0, σ0)) : js_M l D B g nn yX2_projected cX2_projected 2 (some .int) 1 [.ref (B + x0), .int x1] σ (js_QI D B g nn r0 σ0) := by
  refine js_enter (by decide) (Nat.le_of_ble_eq_true rfl) ?_
  intro p e s m args below meth c C hr hk ls hl hT
  have hl : lv_has ls 2 [(0, .ref (B + x0)), (1, .int x1)] := hl
  obtain ⟨hx, hb, hml, hown, ht, hK, hNw⟩ := id C
  obtain ⟨H, eH⟩ : ∃ H, H = s.heap := ⟨_, rfl⟩
  obtain ⟨locs, eL⟩ : ∃ z : List Loc, z = [] := ⟨_, rfl⟩
  rw [← eH, ← eL]
  rw [← eH, ← eL] at hT
  clear eH eL
  unfold fX2_projected at h
  refine lv_iload_n hx hb dX2_projected_0 rfl (lv_at hl 1 rfl) ?_
  refine lv_aload_n hx hb dX2_projected_1 rfl (lv_at hl 0 rfl) ?_
  refine lv_iload_n hx hb dX2_projected_2 rfl (lv_at hl 1 rfl) ?_
  obtain ⟨r1, σ1, hc1, h⟩ := bd_some h
  refine js_backI hT (js_runSN C hT mfX11_sourceOf lk_X2_76 (kX11_sourceOf  hc1) ⟨Nat.le_of_ble_eq_true rfl, Nat.le_of_ble_eq_true rfl⟩ rfl hl.1 rfl (Nat.le_of_ble_eq_true rfl) ⟨Nat.zero_le _, Nat.zero_le _⟩ dX2_projected_3) (fun H locs hT => ?_)
  obtain ⟨r2, σ2, hc2, h⟩ := bd_some h
  refine js_backI hT (js_runV C hT cfX2 t0 rfl mfX2_choiceOf lk_X2_95 (kX2_choiceOf t0 hc2) ⟨Nat.le_of_ble_eq_true rfl, Nat.le_of_ble_eq_true rfl⟩ rfl hl.1 rfl (Nat.le_of_ble_eq_true rfl) ⟨Nat.zero_le _, Nat.zero_le _⟩ dX2_projected_6) (fun H locs hT => ?_)
  refine lv_aload_n hx hb dX2_projected_9 rfl (lv_at hl 0 rfl) ?_
  refine lv_iload_n hx hb dX2_projected_10 rfl (lv_at hl 1 rfl) ?_
  obtain ⟨r3, σ3, hc3, h⟩ := bd_some h
  refine js_backI hT (js_runSN C hT mfX11_targetOf lk_X2_83 (kX11_targetOf  hc3) ⟨Nat.le_of_ble_eq_true rfl, Nat.le_of_ble_eq_true rfl⟩ rfl hl.1 rfl (Nat.le_of_ble_eq_true rfl) ⟨Nat.zero_le _, Nat.zero_le _⟩ dX2_projected_11) (fun H locs hT => ?_)
  obtain ⟨r4, σ4, hc4, h⟩ := bd_some h
  refine js_backI hT (js_runV C hT cfX2 t0 rfl mfX2_choiceOf lk_X2_95 (kX2_choiceOf t0 hc4) ⟨Nat.le_of_ble_eq_true rfl, Nat.le_of_ble_eq_true rfl⟩ rfl hl.1 rfl (Nat.le_of_ble_eq_true rfl) ⟨Nat.zero_le _, Nat.zero_le _⟩ dX2_projected_14) (fun H locs hT => ?_)
  obtain ⟨r5, σ5, hc5, h⟩ := bd_some h
  refine js_backI hT (js_runSN C hT mfX11_relationIn lk_X2_98 (kX11_relationIn  hc5) ⟨Nat.le_of_ble_eq_true rfl, Nat.le_of_ble_eq_true rfl⟩ rfl hl.1 rfl (Nat.le_of_ble_eq_true rfl) ⟨Nat.zero_le _, Nat.zero_le _⟩ dX2_projected_17) (fun H locs hT => ?_)
  obtain ⟨rfl, rfl⟩ := js_rt h
  exact js_iret C hT hr hk dX2_projected_20
set_option maxHeartbeats 4000000 in
set_option maxRecDepth 20000 in
theorem wX2_isValid_62 (C : js_C D g p m c cX2_isValid 7 s args RX2) (hr : meth.sig.returnType = (some .boolean)) (hk : meth.locks = false) (rc6 : Nat → Nat → Nat → Int32 → Int32 → Int32 → js_S → Option (Int32 × js_S)) (hrc6 : ∀ (x0 : Nat) (x1 : Nat) (x2 : Nat) (x3 : Int32) (x4 : Int32) (x5 : Int32) (σ : js_S) (r0 : Int32) (σ0 : js_S), rc6 x0 x1 x2 x3 x4 x5 σ = some (r0, σ0) → ob_ nn 2 x0 → ob_ nn 5 x1 → ob_ nn 1 x2 → js_at p l e 2 s m args below meth c D B g nn 6 7 [(0, .ref (B + x0)), (1, .ref (B + x1)), (2, .ref (B + x2)), (3, .int x3), (4, .int x4), (5, .int x5)] [] σ (js_QI D B g nn r0 σ0)) : ∀ (x0 : Nat) (x1 : Nat) (x2 : Nat) (x3 : Int32) (x4 : Int32) (x5 : Int32) (σ : js_S) (r0 : Int32) (σ0 : js_S), fX2_isValid_62 fu rc6 x0 x1 x2 x3 x4 x5 σ = some (r0, σ0) → ob_ nn 2 x0 → ob_ nn 5 x1 → ob_ nn 1 x2 → js_at p l e 2 s m args below meth c D B g nn 62 7 [(0, .ref (B + x0)), (1, .ref (B + x1)), (2, .ref (B + x2)), (3, .int x3), (4, .int x4), (5, .int x5)] [] σ (js_QI D B g nn r0 σ0) := by
  obtain ⟨hx, hb, hml, hown, ht, hK, hNw⟩ := id C
  intro x0 x1 x2 x3 x4 x5 σ r0 σ0 h t0 t1 t2 H locs hT ls hl
  unfold fX2_isValid_62 at h
  refine lv_iinc (v := x5 + 1) (lv' := [(5, .int (x5 + 1)), (0, .ref (B + x0)), (1, .ref (B + x1)), (2, .ref (B + x2)), (3, .int x3), (4, .int x4)]) hx hb dX2_isValid_62 hl (k := 5) rfl rfl (by decide) rfl (fun ls hl => ?_)
  refine lv_goto (tgt := 6) hx hb dX2_isValid_65 (by decide) ?_
  exact hrc6 _ _ _ _ _ _ _ _ _ h t0 t1 t2 H locs hT ls (lv_sub hl [1, 2, 3, 4, 5, 0] rfl)
set_option maxHeartbeats 4000000 in
set_option maxRecDepth 20000 in
theorem wX2_isValid_60 (C : js_C D g p m c cX2_isValid 7 s args RX2) (hr : meth.sig.returnType = (some .boolean)) (hk : meth.locks = false) (rc6 : Nat → Nat → Nat → Int32 → Int32 → Int32 → js_S → Option (Int32 × js_S)) (hrc6 : ∀ (x0 : Nat) (x1 : Nat) (x2 : Nat) (x3 : Int32) (x4 : Int32) (x5 : Int32) (σ : js_S) (r0 : Int32) (σ0 : js_S), rc6 x0 x1 x2 x3 x4 x5 σ = some (r0, σ0) → ob_ nn 2 x0 → ob_ nn 5 x1 → ob_ nn 1 x2 → js_at p l e 2 s m args below meth c D B g nn 6 7 [(0, .ref (B + x0)), (1, .ref (B + x1)), (2, .ref (B + x2)), (3, .int x3), (4, .int x4), (5, .int x5)] [] σ (js_QI D B g nn r0 σ0)) : ∀ (x0 : Nat) (x1 : Nat) (x2 : Nat) (x3 : Int32) (x5 : Int32) (y0 : Int32) (σ : js_S) (r0 : Int32) (σ0 : js_S), fX2_isValid_60 fu rc6 x0 x1 x2 x3 x5 y0 σ = some (r0, σ0) → ob_ nn 2 x0 → ob_ nn 5 x1 → ob_ nn 1 x2 → js_at p l e 2 s m args below meth c D B g nn 60 7 [(0, .ref (B + x0)), (1, .ref (B + x1)), (2, .ref (B + x2)), (3, .int x3), (5, .int x5)] [.int y0] σ (js_QI D B g nn r0 σ0) := by
  obtain ⟨hx, hb, hml, hown, ht, hK, hNw⟩ := id C
  intro x0 x1 x2 x3 x5 y0 σ r0 σ0 h t0 t1 t2 H locs hT ls hl
  unfold fX2_isValid_60 at h
  refine lv_istore (lv' := [(4, .int y0), (0, .ref (B + x0)), (1, .ref (B + x1)), (2, .ref (B + x2)), (3, .int x3), (5, .int x5)]) hx hb dX2_isValid_60 hl (by decide) rfl (fun ls hl => ?_)
  exact wX2_isValid_62 C hr hk rc6 hrc6 _ _ _ _ _ _ _ _ _ h t0 t1 t2 H locs hT ls (lv_sub hl [1, 2, 3, 4, 0, 5] rfl)
set_option maxHeartbeats 4000000 in
set_option maxRecDepth 20000 in
theorem wX2_isValid_55 (C : js_C D g p m c cX2_isValid 7 s args RX2) (hr : meth.sig.returnType = (some .boolean)) (hk : meth.locks = false) (rc6 : Nat → Nat → Nat → Int32 → Int32 → Int32 → js_S → Option (Int32 × js_S)) (hrc6 : ∀ (x0 : Nat) (x1 : Nat) (x2 : Nat) (x3 : Int32) (x4 : Int32) (x5 : Int32) (σ : js_S) (r0 : Int32) (σ0 : js_S), rc6 x0 x1 x2 x3 x4 x5 σ = some (r0, σ0) → ob_ nn 2 x0 → ob_ nn 5 x1 → ob_ nn 1 x2 → js_at p l e 2 s m args below meth c D B g nn 6 7 [(0, .ref (B + x0)), (1, .ref (B + x1)), (2, .ref (B + x2)), (3, .int x3), (4, .int x4), (5, .int x5)] [] σ (js_QI D B g nn r0 σ0)) : ∀ (x0 : Nat) (x1 : Nat) (x2 : Nat) (x3 : Int32) (x5 : Int32) (σ : js_S) (r0 : Int32) (σ0 : js_S), fX2_isValid_55 fu rc6 x0 x1 x2 x3 x5 σ = some (r0, σ0) → ob_ nn 2 x0 → ob_ nn 5 x1 → ob_ nn 1 x2 → js_at p l e 2 s m args below meth c D B g nn 55 7 [(0, .ref (B + x0)), (1, .ref (B + x1)), (2, .ref (B + x2)), (3, .int x3), (5, .int x5)] [] σ (js_QI D B g nn r0 σ0) := by
  obtain ⟨hx, hb, hml, hown, ht, hK, hNw⟩ := id C
  intro x0 x1 x2 x3 x5 σ r0 σ0 h t0 t1 t2 H locs hT ls hl
  unfold fX2_isValid_55 at h
  refine lv_iconst (v := 1) hx hb dX2_isValid_55 (by decide) ?_
  refine lv_goto (tgt := 60) hx hb dX2_isValid_56 (by decide) ?_
  exact wX2_isValid_60 C hr hk rc6 hrc6 _ _ _ _ _ _ _ _ _ h t0 t1 t2 H locs hT ls (lv_sub hl [0, 1, 2, 3, 4] rfl)
set_option maxHeartbeats 4000000 in
set_option maxRecDepth 20000 in
theorem wX2_isValid_6b (C : js_C D g p m c cX2_isValid 7 s args RX2) (hr : meth.sig.returnType = (some .boolean)) (hk : meth.locks = false) (rc6 : Nat → Nat → Nat → Int32 → Int32 → Int32 → js_S → Option (Int32 × js_S)) (hrc6 : ∀ (x0 : Nat) (x1 : Nat) (x2 : Nat) (x3 : Int32) (x4 : Int32) (x5 : Int32) (σ : js_S) (r0 : Int32) (σ0 : js_S), rc6 x0 x1 x2 x3 x4 x5 σ = some (r0, σ0) → ob_ nn 2 x0 → ob_ nn 5 x1 → ob_ nn 1 x2 → js_at p l e 2 s m args below meth c D B g nn 6 7 [(0, .ref (B + x0)), (1, .ref (B + x1)), (2, .ref (B + x2)), (3, .int x3), (4, .int x4), (5, .int x5)] [] σ (js_QI D B g nn r0 σ0)) : ∀ (x0 : Nat) (x1 : Nat) (x2 : Nat) (x3 : Int32) (x4 : Int32) (x5 : Int32) (σ : js_S) (r0 : Int32) (σ0 : js_S), fX2_isValid_6b fu rc6 x0 x1 x2 x3 x4 x5 σ = some (r0, σ0) → ob_ nn 2 x0 → ob_ nn 5 x1 → ob_ nn 1 x2 → js_at p l e 2 s m args below meth c D B g nn 6 7 [(0, .ref (B + x0)), (1, .ref (B + x1)), (2, .ref (B + x2)), (3, .int x3), (4, .int x4), (5, .int x5)] [] σ (js_QI D B g nn r0 σ0) := by
  obtain ⟨hx, hb, hml, hown, ht, hK, hNw⟩ := id C
  intro x0 x1 x2 x3 x4 x5 σ r0 σ0 h t0 t1 t2 H locs hT ls hl
  unfold fX2_isValid_6b at h
  refine lv_iload hx hb dX2_isValid_6 (lv_at hl 5 rfl) ?_
  refine lv_aload_n hx hb dX2_isValid_8 rfl (lv_at hl 1 rfl) ?_
  refine js_gIN C hT cfX5 t1 4 (by decide) rfl lk_X2_51 dX2_isValid_9 ?_
  refine lv_icmp_ge (tgt := 68) hx hb dX2_isValid_12 (by decide) (fun c1 => ?_) (fun c1 => ?_)
  · rw [if_pos c1] at h
    refine lv_iload hx hb dX2_isValid_68 (lv_at hl 4 rfl) ?_
    obtain ⟨g2, h⟩ := gd_some _ h
    obtain ⟨rfl, rfl⟩ := js_rt h
    exact js_zret C hT hr hk g2 dX2_isValid_70
  · rw [if_neg c1] at h
    refine lv_aload_n hx hb dX2_isValid_15 rfl (lv_at hl 2 rfl) ?_
    refine lv_iload hx hb dX2_isValid_16 (lv_at hl 5 rfl) ?_
    obtain ⟨r3, σ3, hc3, h⟩ := bd_some h
    refine js_backI hT (js_runV C hT cfX1 t2 rfl mfX1_number lk_X2_54 (kX1_number t2 hc3) ⟨Nat.le_of_ble_eq_true rfl, Nat.le_of_ble_eq_true rfl⟩ rfl hl.1 rfl (Nat.le_of_ble_eq_true rfl) ⟨Nat.zero_le _, Nat.zero_le _⟩ dX2_isValid_18) (fun H locs hT => ?_)
    refine lv_iload_n hx hb dX2_isValid_21 rfl (lv_at hl 3 rfl) ?_
    refine lv_icmp_ne (tgt := 62) hx hb dX2_isValid_22 (by decide) (fun c4 => ?_) (fun c4 => ?_)
    · rw [if_neg c4] at h
      exact wX2_isValid_62 C hr hk rc6 hrc6 _ _ _ _ _ _ _ _ _ h t0 t1 t2 H locs hT ls (lv_sub hl [0, 1, 2, 3, 4, 5] rfl)
    · rw [if_pos c4] at h
      refine lv_aload_n hx hb dX2_isValid_25 rfl (lv_at hl 0 rfl) ?_
      refine lv_aload_n hx hb dX2_isValid_26 rfl (lv_at hl 1 rfl) ?_
      refine lv_iload hx hb dX2_isValid_27 (lv_at hl 5 rfl) ?_
      obtain ⟨r5, σ5, hc5, h⟩ := bd_some h
      refine js_backI hT (js_runV C hT cfX5 t1 rfl mfX5_graph lk_X2_58 (kX5_graph t1 hc5) ⟨Nat.le_of_ble_eq_true rfl, Nat.le_of_ble_eq_true rfl⟩ rfl hl.1 rfl (Nat.le_of_ble_eq_true rfl) ⟨Nat.zero_le _, Nat.zero_le _⟩ dX2_isValid_29) (fun H locs hT => ?_)
      obtain ⟨r6, σ6, hc6, h⟩ := bd_some h
      refine js_backI hT (js_runV C hT cfX2 t0 rfl mfX2_projected lk_X2_61 (kX2_projected t0 hc6) ⟨Nat.le_of_ble_eq_true rfl, Nat.le_of_ble_eq_true rfl⟩ rfl hl.1 rfl (Nat.le_of_ble_eq_true rfl) ⟨Nat.zero_le _, Nat.zero_le _⟩ dX2_isValid_32) (fun H locs hT => ?_)
      refine lv_istore (lv' := [(6, .int r6), (0, .ref (B + x0)), (1, .ref (B + x1)), (2, .ref (B + x2)), (3, .int x3), (4, .int x4), (5, .int x5)]) hx hb dX2_isValid_35 hl (by decide) rfl (fun ls hl => ?_)
      refine lv_iload hx hb dX2_isValid_37 (lv_at hl 0 rfl) ?_
      refine lv_if_ne (tgt := 44) hx hb dX2_isValid_39 (by decide) (fun c7 => ?_) (fun c7 => ?_)
      · rw [if_neg c7] at h
        refine lv_iload hx hb dX2_isValid_44 (lv_at hl 5 rfl) ?_
        refine lv_if_ne (tgt := 55) hx hb dX2_isValid_46 (by decide) (fun c8 => ?_) (fun c8 => ?_)
        · rw [if_neg c8] at h
          exact wX2_isValid_55 C hr hk rc6 hrc6 _ _ _ _ _ _ _ _ h t0 t1 t2 H locs hT ls (lv_sub hl [1, 2, 3, 4, 6] rfl)
        · rw [if_pos c8] at h
          refine lv_iload hx hb dX2_isValid_49 (lv_at hl 0 rfl) ?_
          refine lv_iconst (v := 2) hx hb dX2_isValid_51 (by decide) ?_
          refine lv_icmp_ne (tgt := 59) hx hb dX2_isValid_52 (by decide) (fun c9 => ?_) (fun c9 => ?_)
          · rw [if_neg c9] at h
            refine lv_iconst (v := 0) hx hb dX2_isValid_59 (by decide) ?_
            exact wX2_isValid_60 C hr hk rc6 hrc6 _ _ _ _ _ _ _ _ _ h t0 t1 t2 H locs hT ls (lv_sub hl [1, 2, 3, 4, 6] rfl)
          · rw [if_pos c9] at h
            exact wX2_isValid_55 C hr hk rc6 hrc6 _ _ _ _ _ _ _ _ h t0 t1 t2 H locs hT ls (lv_sub hl [1, 2, 3, 4, 6] rfl)
      · rw [if_pos c7] at h
        refine lv_iconst (v := 0) hx hb dX2_isValid_42 (by decide) ?_
        obtain ⟨rfl, rfl⟩ := js_rt h
        exact js_zret C hT hr hk rfl dX2_isValid_43
set_option maxHeartbeats 4000000 in
set_option maxRecDepth 20000 in
theorem wX2_isValid_6 (C : js_C D g p m c cX2_isValid 7 s args RX2) (hr : meth.sig.returnType = (some .boolean)) (hk : meth.locks = false) : ∀ (k : Nat), ∀ (x0 : Nat) (x1 : Nat) (x2 : Nat) (x3 : Int32) (x4 : Int32) (x5 : Int32) (σ : js_S) (r0 : Int32) (σ0 : js_S), fX2_isValid_6 fu k x0 x1 x2 x3 x4 x5 σ = some (r0, σ0) → ob_ nn 2 x0 → ob_ nn 5 x1 → ob_ nn 1 x2 → js_at p l e 2 s m args below meth c D B g nn 6 7 [(0, .ref (B + x0)), (1, .ref (B + x1)), (2, .ref (B + x2)), (3, .int x3), (4, .int x4), (5, .int x5)] [] σ (js_QI D B g nn r0 σ0) := by
  intro k
  induction k with
  | zero =>
    intro x0 x1 x2 x3 x4 x5 σ r0 σ0 h
    cases h
  | succ k ih =>
    intro x0 x1 x2 x3 x4 x5 σ r0 σ0 h
    exact wX2_isValid_6b C hr hk (fX2_isValid_6 fu k) ih x0 x1 x2 x3 x4 x5 σ r0 σ0 h
set_option maxHeartbeats 4000000 in
set_option maxRecDepth 20000 in
theorem kX2_isValid {x0 : Nat} {x1 : Nat} {x2 : Nat} {x3 : Int32} {σ σ0 : js_S} {r0 : Int32} (t0 : ob_ nn 2 x0) (t1 : ob_ nn 5 x1) (t2 : ob_ nn 1 x2) (h : fX2_isValid fu x0 x1 x2 x3 σ = some (r0, σ0)) : js_M l D B g nn yX2_isValid cX2_isValid 7 (some .boolean) 2 [.ref (B + x0), .ref (B + x1), .ref (B + x2), .int x3] σ (js_QI D B g nn r0 σ0) := by
  refine js_enter (by decide) (Nat.le_of_ble_eq_true rfl) ?_
  intro p e s m args below meth c C hr hk ls hl hT
  have hl : lv_has ls 7 [(0, .ref (B + x0)), (1, .ref (B + x1)), (2, .ref (B + x2)), (3, .int x3)] := hl
  obtain ⟨hx, hb, hml, hown, ht, hK, hNw⟩ := id C
  obtain ⟨H, eH⟩ : ∃ H, H = s.heap := ⟨_, rfl⟩
  obtain ⟨locs, eL⟩ : ∃ z : List Loc, z = [] := ⟨_, rfl⟩
  rw [← eH, ← eL]
  rw [← eH, ← eL] at hT
  clear eH eL
  unfold fX2_isValid at h
  refine lv_iconst (v := 0) hx hb dX2_isValid_0 (by decide) ?_
  refine lv_istore (lv' := [(4, .int 0), (0, .ref (B + x0)), (1, .ref (B + x1)), (2, .ref (B + x2)), (3, .int x3)]) hx hb dX2_isValid_1 hl (by decide) rfl (fun ls hl => ?_)
  refine lv_iconst (v := 0) hx hb dX2_isValid_3 (by decide) ?_
  refine lv_istore (lv' := [(5, .int 0), (4, .int 0), (0, .ref (B + x0)), (1, .ref (B + x1)), (2, .ref (B + x2)), (3, .int x3)]) hx hb dX2_isValid_4 hl (by decide) rfl (fun ls hl => ?_)
  exact wX2_isValid_6 C hr hk _ _ _ _ _ _ _ _ _ _ h t0 t1 t2 H locs hT ls (lv_sub hl [2, 3, 4, 5, 1, 0] rfl)
set_option maxHeartbeats 4000000 in
set_option maxRecDepth 20000 in
theorem wX2_findProjection_40b (C : js_C D g p m c cX2_findProjection 8 s args RX2) (hr : meth.sig.returnType = (some .boolean)) (hk : meth.locks = false) (rc12 : Nat → Nat → Nat → Int32 → Int32 → js_S → Option (Int32 × js_S)) (hrc12 : ∀ (x0 : Nat) (x1 : Nat) (x2 : Nat) (x3 : Int32) (x5 : Int32) (σ : js_S) (r0 : Int32) (σ0 : js_S), rc12 x0 x1 x2 x3 x5 σ = some (r0, σ0) → ob_ nn 2 x0 → ob_ nn 5 x1 → ob_ nn 1 x2 → js_at p l e 3 s m args below meth c D B g nn 12 8 [(0, .ref (B + x0)), (1, .ref (B + x1)), (2, .ref (B + x2)), (3, .int x3), (5, .int x5)] [] σ (js_QI D B g nn r0 σ0)) (rc26 : Nat → Nat → Nat → Int32 → Int32 → Int32 → js_S → Option (Int32 × js_S)) (hrc26 : ∀ (x0 : Nat) (x1 : Nat) (x2 : Nat) (x3 : Int32) (x5 : Int32) (x6 : Int32) (σ : js_S) (r0 : Int32) (σ0 : js_S), rc26 x0 x1 x2 x3 x5 x6 σ = some (r0, σ0) → ob_ nn 2 x0 → ob_ nn 5 x1 → ob_ nn 1 x2 → js_at p l e 3 s m args below meth c D B g nn 26 8 [(0, .ref (B + x0)), (1, .ref (B + x1)), (2, .ref (B + x2)), (3, .int x3), (5, .int x5), (6, .int x6)] [] σ (js_QI D B g nn r0 σ0)) (rc40 : Nat → Nat → Nat → Int32 → Int32 → Int32 → Int32 → js_S → Option (Int32 × js_S)) (hrc40 : ∀ (x0 : Nat) (x1 : Nat) (x2 : Nat) (x3 : Int32) (x5 : Int32) (x6 : Int32) (x7 : Int32) (σ : js_S) (r0 : Int32) (σ0 : js_S), rc40 x0 x1 x2 x3 x5 x6 x7 σ = some (r0, σ0) → ob_ nn 2 x0 → ob_ nn 5 x1 → ob_ nn 1 x2 → js_at p l e 3 s m args below meth c D B g nn 40 8 [(0, .ref (B + x0)), (1, .ref (B + x1)), (2, .ref (B + x2)), (3, .int x3), (5, .int x5), (6, .int x6), (7, .int x7)] [] σ (js_QI D B g nn r0 σ0)) : ∀ (x0 : Nat) (x1 : Nat) (x2 : Nat) (x3 : Int32) (x5 : Int32) (x6 : Int32) (x7 : Int32) (σ : js_S) (r0 : Int32) (σ0 : js_S), fX2_findProjection_40b fu rc12 rc26 rc40 x0 x1 x2 x3 x5 x6 x7 σ = some (r0, σ0) → ob_ nn 2 x0 → ob_ nn 5 x1 → ob_ nn 1 x2 → js_at p l e 3 s m args below meth c D B g nn 40 8 [(0, .ref (B + x0)), (1, .ref (B + x1)), (2, .ref (B + x2)), (3, .int x3), (5, .int x5), (6, .int x6), (7, .int x7)] [] σ (js_QI D B g nn r0 σ0) := by
  obtain ⟨hx, hb, hml, hown, ht, hK, hNw⟩ := id C
  intro x0 x1 x2 x3 x5 x6 x7 σ r0 σ0 h t0 t1 t2 H locs hT ls hl
  unfold fX2_findProjection_40b at h
  refine lv_iload hx hb dX2_findProjection_40 (lv_at hl 6 rfl) ?_
  refine lv_aload_n hx hb dX2_findProjection_42 rfl (lv_at hl 0 rfl) ?_
  refine js_gR C hT cfX2 t0 2 (by decide) (q := 20) rfl (by decide) lk_X2_22 dX2_findProjection_43 (fun t1a => ?_)
  refine lv_iconst (v := 2) hx hb dX2_findProjection_46 (by decide) ?_
  obtain ⟨g2, h⟩ := gd_some _ h
  refine js_iald C hT t1a g2 dX2_findProjection_47 ?_
  refine lv_icmp_ge (tgt := 93) hx hb dX2_findProjection_48 (by decide) (fun c3 => ?_) (fun c3 => ?_)
  · rw [if_pos c3] at h
    refine lv_iinc (v := x6 + 1) (lv' := [(6, .int (x6 + 1)), (0, .ref (B + x0)), (1, .ref (B + x1)), (2, .ref (B + x2)), (3, .int x3), (5, .int x5), (7, .int x7)]) hx hb dX2_findProjection_93 hl (k := 5) rfl rfl (by decide) rfl (fun ls hl => ?_)
    refine lv_goto (tgt := 26) hx hb dX2_findProjection_96 (by decide) ?_
    exact hrc26 _ _ _ _ _ _ _ _ _ h t0 t1 t2 H locs hT ls (lv_sub hl [1, 2, 3, 4, 5, 0] rfl)
  · rw [if_neg c3] at h
    refine lv_aload_n hx hb dX2_findProjection_51 rfl (lv_at hl 0 rfl) ?_
    refine js_gR C hT cfX2 t0 1 (by decide) (q := 20) rfl (by decide) lk_X2_18 dX2_findProjection_52 (fun t4a => ?_)
    refine lv_iconst (v := 0) hx hb dX2_findProjection_55 (by decide) ?_
    refine lv_iload hx hb dX2_findProjection_56 (lv_at hl 4 rfl) ?_
    obtain ⟨g5, h⟩ := gd_some _ h
    obtain ⟨σ5, e5, h⟩ := lt_some h
    refine js_iast C hT t4a g5 dX2_findProjection_58 (fun H locs hT => ?_)
    rw [e5] at hT
    refine lv_aload_n hx hb dX2_findProjection_59 rfl (lv_at hl 0 rfl) ?_
    refine js_gR C hT cfX2 t0 1 (by decide) (q := 20) rfl (by decide) lk_X2_18 dX2_findProjection_60 (fun t6a => ?_)
    refine lv_iconst (v := 1) hx hb dX2_findProjection_63 (by decide) ?_
    refine lv_iload hx hb dX2_findProjection_64 (lv_at hl 5 rfl) ?_
    obtain ⟨g7, h⟩ := gd_some _ h
    obtain ⟨σ7, e7, h⟩ := lt_some h
    refine js_iast C hT t6a g7 dX2_findProjection_66 (fun H locs hT => ?_)
    rw [e7] at hT
    refine lv_aload_n hx hb dX2_findProjection_67 rfl (lv_at hl 0 rfl) ?_
    refine js_gR C hT cfX2 t0 1 (by decide) (q := 20) rfl (by decide) lk_X2_18 dX2_findProjection_68 (fun t8a => ?_)
    refine lv_iconst (v := 2) hx hb dX2_findProjection_71 (by decide) ?_
    refine lv_iload hx hb dX2_findProjection_72 (lv_at hl 6 rfl) ?_
    obtain ⟨g9, h⟩ := gd_some _ h
    obtain ⟨σ9, e9, h⟩ := lt_some h
    refine js_iast C hT t8a g9 dX2_findProjection_74 (fun H locs hT => ?_)
    rw [e9] at hT
    refine lv_aload_n hx hb dX2_findProjection_75 rfl (lv_at hl 0 rfl) ?_
    refine lv_aload_n hx hb dX2_findProjection_76 rfl (lv_at hl 1 rfl) ?_
    refine lv_aload_n hx hb dX2_findProjection_77 rfl (lv_at hl 2 rfl) ?_
    refine lv_iload_n hx hb dX2_findProjection_78 rfl (lv_at hl 3 rfl) ?_
    obtain ⟨r10, σ10, hc10, h⟩ := bd_some h
    refine js_backI hT (js_runV C hT cfX2 t0 rfl mfX2_isValid lk_X2_72 (kX2_isValid t0 t1 t2 hc10) ⟨Nat.le_of_ble_eq_true rfl, Nat.le_of_ble_eq_true rfl⟩ rfl hl.1 rfl (Nat.le_of_ble_eq_true rfl) ⟨Nat.zero_le _, Nat.zero_le _⟩ dX2_findProjection_79) (fun H locs hT => ?_)
    refine lv_if_eq (tgt := 87) hx hb dX2_findProjection_82 (by decide) (fun c11 => ?_) (fun c11 => ?_)
    · rw [if_pos c11] at h
      refine lv_iinc (v := x7 + 1) (lv' := [(7, .int (x7 + 1)), (0, .ref (B + x0)), (1, .ref (B + x1)), (2, .ref (B + x2)), (3, .int x3), (5, .int x5), (6, .int x6)]) hx hb dX2_findProjection_87 hl (k := 6) rfl rfl (by decide) rfl (fun ls hl => ?_)
      refine lv_goto (tgt := 40) hx hb dX2_findProjection_90 (by decide) ?_
      exact hrc40 _ _ _ _ _ _ _ _ _ _ h t0 t1 t2 H locs hT ls (lv_sub hl [1, 2, 3, 4, 5, 6, 0] rfl)
    · rw [if_neg c11] at h
      refine lv_iconst (v := 1) hx hb dX2_findProjection_85 (by decide) ?_
      obtain ⟨rfl, rfl⟩ := js_rt h
      exact js_zret C hT hr hk rfl dX2_findProjection_86
set_option maxHeartbeats 4000000 in
set_option maxRecDepth 20000 in
theorem wX2_findProjection_40 (C : js_C D g p m c cX2_findProjection 8 s args RX2) (hr : meth.sig.returnType = (some .boolean)) (hk : meth.locks = false) (rc12 : Nat → Nat → Nat → Int32 → Int32 → js_S → Option (Int32 × js_S)) (hrc12 : ∀ (x0 : Nat) (x1 : Nat) (x2 : Nat) (x3 : Int32) (x5 : Int32) (σ : js_S) (r0 : Int32) (σ0 : js_S), rc12 x0 x1 x2 x3 x5 σ = some (r0, σ0) → ob_ nn 2 x0 → ob_ nn 5 x1 → ob_ nn 1 x2 → js_at p l e 3 s m args below meth c D B g nn 12 8 [(0, .ref (B + x0)), (1, .ref (B + x1)), (2, .ref (B + x2)), (3, .int x3), (5, .int x5)] [] σ (js_QI D B g nn r0 σ0)) (rc26 : Nat → Nat → Nat → Int32 → Int32 → Int32 → js_S → Option (Int32 × js_S)) (hrc26 : ∀ (x0 : Nat) (x1 : Nat) (x2 : Nat) (x3 : Int32) (x5 : Int32) (x6 : Int32) (σ : js_S) (r0 : Int32) (σ0 : js_S), rc26 x0 x1 x2 x3 x5 x6 σ = some (r0, σ0) → ob_ nn 2 x0 → ob_ nn 5 x1 → ob_ nn 1 x2 → js_at p l e 3 s m args below meth c D B g nn 26 8 [(0, .ref (B + x0)), (1, .ref (B + x1)), (2, .ref (B + x2)), (3, .int x3), (5, .int x5), (6, .int x6)] [] σ (js_QI D B g nn r0 σ0)) : ∀ (k : Nat), ∀ (x0 : Nat) (x1 : Nat) (x2 : Nat) (x3 : Int32) (x5 : Int32) (x6 : Int32) (x7 : Int32) (σ : js_S) (r0 : Int32) (σ0 : js_S), fX2_findProjection_40 fu rc12 rc26 k x0 x1 x2 x3 x5 x6 x7 σ = some (r0, σ0) → ob_ nn 2 x0 → ob_ nn 5 x1 → ob_ nn 1 x2 → js_at p l e 3 s m args below meth c D B g nn 40 8 [(0, .ref (B + x0)), (1, .ref (B + x1)), (2, .ref (B + x2)), (3, .int x3), (5, .int x5), (6, .int x6), (7, .int x7)] [] σ (js_QI D B g nn r0 σ0) := by
  intro k
  induction k with
  | zero =>
    intro x0 x1 x2 x3 x5 x6 x7 σ r0 σ0 h
    cases h
  | succ k ih =>
    intro x0 x1 x2 x3 x5 x6 x7 σ r0 σ0 h
    exact wX2_findProjection_40b C hr hk rc12 hrc12 rc26 hrc26 (fX2_findProjection_40 fu rc12 rc26 k) ih x0 x1 x2 x3 x5 x6 x7 σ r0 σ0 h
set_option maxHeartbeats 4000000 in
set_option maxRecDepth 20000 in
theorem wX2_findProjection_26b (C : js_C D g p m c cX2_findProjection 8 s args RX2) (hr : meth.sig.returnType = (some .boolean)) (hk : meth.locks = false) (rc12 : Nat → Nat → Nat → Int32 → Int32 → js_S → Option (Int32 × js_S)) (hrc12 : ∀ (x0 : Nat) (x1 : Nat) (x2 : Nat) (x3 : Int32) (x5 : Int32) (σ : js_S) (r0 : Int32) (σ0 : js_S), rc12 x0 x1 x2 x3 x5 σ = some (r0, σ0) → ob_ nn 2 x0 → ob_ nn 5 x1 → ob_ nn 1 x2 → js_at p l e 3 s m args below meth c D B g nn 12 8 [(0, .ref (B + x0)), (1, .ref (B + x1)), (2, .ref (B + x2)), (3, .int x3), (5, .int x5)] [] σ (js_QI D B g nn r0 σ0)) (rc26 : Nat → Nat → Nat → Int32 → Int32 → Int32 → js_S → Option (Int32 × js_S)) (hrc26 : ∀ (x0 : Nat) (x1 : Nat) (x2 : Nat) (x3 : Int32) (x5 : Int32) (x6 : Int32) (σ : js_S) (r0 : Int32) (σ0 : js_S), rc26 x0 x1 x2 x3 x5 x6 σ = some (r0, σ0) → ob_ nn 2 x0 → ob_ nn 5 x1 → ob_ nn 1 x2 → js_at p l e 3 s m args below meth c D B g nn 26 8 [(0, .ref (B + x0)), (1, .ref (B + x1)), (2, .ref (B + x2)), (3, .int x3), (5, .int x5), (6, .int x6)] [] σ (js_QI D B g nn r0 σ0)) : ∀ (x0 : Nat) (x1 : Nat) (x2 : Nat) (x3 : Int32) (x5 : Int32) (x6 : Int32) (σ : js_S) (r0 : Int32) (σ0 : js_S), fX2_findProjection_26b fu rc12 rc26 x0 x1 x2 x3 x5 x6 σ = some (r0, σ0) → ob_ nn 2 x0 → ob_ nn 5 x1 → ob_ nn 1 x2 → js_at p l e 3 s m args below meth c D B g nn 26 8 [(0, .ref (B + x0)), (1, .ref (B + x1)), (2, .ref (B + x2)), (3, .int x3), (5, .int x5), (6, .int x6)] [] σ (js_QI D B g nn r0 σ0) := by
  obtain ⟨hx, hb, hml, hown, ht, hK, hNw⟩ := id C
  intro x0 x1 x2 x3 x5 x6 σ r0 σ0 h t0 t1 t2 H locs hT ls hl
  unfold fX2_findProjection_26b at h
  refine lv_iload hx hb dX2_findProjection_26 (lv_at hl 5 rfl) ?_
  refine lv_aload_n hx hb dX2_findProjection_28 rfl (lv_at hl 0 rfl) ?_
  refine js_gR C hT cfX2 t0 2 (by decide) (q := 20) rfl (by decide) lk_X2_22 dX2_findProjection_29 (fun t1a => ?_)
  refine lv_iconst (v := 1) hx hb dX2_findProjection_32 (by decide) ?_
  obtain ⟨g2, h⟩ := gd_some _ h
  refine js_iald C hT t1a g2 dX2_findProjection_33 ?_
  refine lv_icmp_ge (tgt := 99) hx hb dX2_findProjection_34 (by decide) (fun c3 => ?_) (fun c3 => ?_)
  · rw [if_pos c3] at h
    refine lv_iinc (v := x5 + 1) (lv' := [(5, .int (x5 + 1)), (0, .ref (B + x0)), (1, .ref (B + x1)), (2, .ref (B + x2)), (3, .int x3), (6, .int x6)]) hx hb dX2_findProjection_99 hl (k := 4) rfl rfl (by decide) rfl (fun ls hl => ?_)
    refine lv_goto (tgt := 12) hx hb dX2_findProjection_102 (by decide) ?_
    exact hrc12 _ _ _ _ _ _ _ _ h t0 t1 t2 H locs hT ls (lv_sub hl [1, 2, 3, 4, 0] rfl)
  · rw [if_neg c3] at h
    refine lv_iconst (v := 0) hx hb dX2_findProjection_37 (by decide) ?_
    refine lv_istore (lv' := [(7, .int 0), (0, .ref (B + x0)), (1, .ref (B + x1)), (2, .ref (B + x2)), (3, .int x3), (5, .int x5), (6, .int x6)]) hx hb dX2_findProjection_38 hl (by decide) rfl (fun ls hl => ?_)
    exact wX2_findProjection_40 C hr hk rc12 hrc12 rc26 hrc26 _ _ _ _ _ _ _ _ _ _ _ h t0 t1 t2 H locs hT ls (lv_sub hl [1, 2, 3, 4, 5, 6, 0] rfl)
set_option maxHeartbeats 4000000 in
set_option maxRecDepth 20000 in
theorem wX2_findProjection_26 (C : js_C D g p m c cX2_findProjection 8 s args RX2) (hr : meth.sig.returnType = (some .boolean)) (hk : meth.locks = false) (rc12 : Nat → Nat → Nat → Int32 → Int32 → js_S → Option (Int32 × js_S)) (hrc12 : ∀ (x0 : Nat) (x1 : Nat) (x2 : Nat) (x3 : Int32) (x5 : Int32) (σ : js_S) (r0 : Int32) (σ0 : js_S), rc12 x0 x1 x2 x3 x5 σ = some (r0, σ0) → ob_ nn 2 x0 → ob_ nn 5 x1 → ob_ nn 1 x2 → js_at p l e 3 s m args below meth c D B g nn 12 8 [(0, .ref (B + x0)), (1, .ref (B + x1)), (2, .ref (B + x2)), (3, .int x3), (5, .int x5)] [] σ (js_QI D B g nn r0 σ0)) : ∀ (k : Nat), ∀ (x0 : Nat) (x1 : Nat) (x2 : Nat) (x3 : Int32) (x5 : Int32) (x6 : Int32) (σ : js_S) (r0 : Int32) (σ0 : js_S), fX2_findProjection_26 fu rc12 k x0 x1 x2 x3 x5 x6 σ = some (r0, σ0) → ob_ nn 2 x0 → ob_ nn 5 x1 → ob_ nn 1 x2 → js_at p l e 3 s m args below meth c D B g nn 26 8 [(0, .ref (B + x0)), (1, .ref (B + x1)), (2, .ref (B + x2)), (3, .int x3), (5, .int x5), (6, .int x6)] [] σ (js_QI D B g nn r0 σ0) := by
  intro k
  induction k with
  | zero =>
    intro x0 x1 x2 x3 x5 x6 σ r0 σ0 h
    cases h
  | succ k ih =>
    intro x0 x1 x2 x3 x5 x6 σ r0 σ0 h
    exact wX2_findProjection_26b C hr hk rc12 hrc12 (fX2_findProjection_26 fu rc12 k) ih x0 x1 x2 x3 x5 x6 σ r0 σ0 h
set_option maxHeartbeats 4000000 in
set_option maxRecDepth 20000 in
theorem wX2_findProjection_12b (C : js_C D g p m c cX2_findProjection 8 s args RX2) (hr : meth.sig.returnType = (some .boolean)) (hk : meth.locks = false) (rc12 : Nat → Nat → Nat → Int32 → Int32 → js_S → Option (Int32 × js_S)) (hrc12 : ∀ (x0 : Nat) (x1 : Nat) (x2 : Nat) (x3 : Int32) (x5 : Int32) (σ : js_S) (r0 : Int32) (σ0 : js_S), rc12 x0 x1 x2 x3 x5 σ = some (r0, σ0) → ob_ nn 2 x0 → ob_ nn 5 x1 → ob_ nn 1 x2 → js_at p l e 3 s m args below meth c D B g nn 12 8 [(0, .ref (B + x0)), (1, .ref (B + x1)), (2, .ref (B + x2)), (3, .int x3), (5, .int x5)] [] σ (js_QI D B g nn r0 σ0)) : ∀ (x0 : Nat) (x1 : Nat) (x2 : Nat) (x3 : Int32) (x5 : Int32) (σ : js_S) (r0 : Int32) (σ0 : js_S), fX2_findProjection_12b fu rc12 x0 x1 x2 x3 x5 σ = some (r0, σ0) → ob_ nn 2 x0 → ob_ nn 5 x1 → ob_ nn 1 x2 → js_at p l e 3 s m args below meth c D B g nn 12 8 [(0, .ref (B + x0)), (1, .ref (B + x1)), (2, .ref (B + x2)), (3, .int x3), (5, .int x5)] [] σ (js_QI D B g nn r0 σ0) := by
  obtain ⟨hx, hb, hml, hown, ht, hK, hNw⟩ := id C
  intro x0 x1 x2 x3 x5 σ r0 σ0 h t0 t1 t2 H locs hT ls hl
  unfold fX2_findProjection_12b at h
  refine lv_iload hx hb dX2_findProjection_12 (lv_at hl 4 rfl) ?_
  refine lv_aload_n hx hb dX2_findProjection_14 rfl (lv_at hl 0 rfl) ?_
  refine js_gR C hT cfX2 t0 2 (by decide) (q := 20) rfl (by decide) lk_X2_22 dX2_findProjection_15 (fun t1a => ?_)
  refine lv_iconst (v := 0) hx hb dX2_findProjection_18 (by decide) ?_
  obtain ⟨g2, h⟩ := gd_some _ h
  refine js_iald C hT t1a g2 dX2_findProjection_19 ?_
  refine lv_icmp_ge (tgt := 105) hx hb dX2_findProjection_20 (by decide) (fun c3 => ?_) (fun c3 => ?_)
  · rw [if_pos c3] at h
    refine lv_iconst (v := 0) hx hb dX2_findProjection_105 (by decide) ?_
    obtain ⟨rfl, rfl⟩ := js_rt h
    exact js_zret C hT hr hk rfl dX2_findProjection_106
  · rw [if_neg c3] at h
    refine lv_iconst (v := 0) hx hb dX2_findProjection_23 (by decide) ?_
    refine lv_istore (lv' := [(6, .int 0), (0, .ref (B + x0)), (1, .ref (B + x1)), (2, .ref (B + x2)), (3, .int x3), (5, .int x5)]) hx hb dX2_findProjection_24 hl (by decide) rfl (fun ls hl => ?_)
    exact wX2_findProjection_26 C hr hk rc12 hrc12 _ _ _ _ _ _ _ _ _ _ h t0 t1 t2 H locs hT ls (lv_sub hl [1, 2, 3, 4, 5, 0] rfl)
set_option maxHeartbeats 4000000 in
set_option maxRecDepth 20000 in
theorem wX2_findProjection_12 (C : js_C D g p m c cX2_findProjection 8 s args RX2) (hr : meth.sig.returnType = (some .boolean)) (hk : meth.locks = false) : ∀ (k : Nat), ∀ (x0 : Nat) (x1 : Nat) (x2 : Nat) (x3 : Int32) (x5 : Int32) (σ : js_S) (r0 : Int32) (σ0 : js_S), fX2_findProjection_12 fu k x0 x1 x2 x3 x5 σ = some (r0, σ0) → ob_ nn 2 x0 → ob_ nn 5 x1 → ob_ nn 1 x2 → js_at p l e 3 s m args below meth c D B g nn 12 8 [(0, .ref (B + x0)), (1, .ref (B + x1)), (2, .ref (B + x2)), (3, .int x3), (5, .int x5)] [] σ (js_QI D B g nn r0 σ0) := by
  intro k
  induction k with
  | zero =>
    intro x0 x1 x2 x3 x5 σ r0 σ0 h
    cases h
  | succ k ih =>
    intro x0 x1 x2 x3 x5 σ r0 σ0 h
    exact wX2_findProjection_12b C hr hk (fX2_findProjection_12 fu k) ih x0 x1 x2 x3 x5 σ r0 σ0 h
set_option maxHeartbeats 4000000 in
set_option maxRecDepth 20000 in
theorem kX2_findProjection {x0 : Nat} {x1 : Nat} {x2 : Nat} {x3 : Int32} {x4 : Nat} {σ σ0 : js_S} {r0 : Int32} (t0 : ob_ nn 2 x0) (t1 : ob_ nn 5 x1) (t2 : ob_ nn 1 x2) (t4 : ob_ nn 8 x4) (h : fX2_findProjection fu x0 x1 x2 x3 x4 σ = some (r0, σ0)) : js_M l D B g nn yX2_findProjection cX2_findProjection 8 (some .boolean) 3 [.ref (B + x0), .ref (B + x1), .ref (B + x2), .int x3, .ref (B + x4)] σ (js_QI D B g nn r0 σ0) := by
  refine js_enter (by decide) (Nat.le_of_ble_eq_true rfl) ?_
  intro p e s m args below meth c C hr hk ls hl hT
  have hl : lv_has ls 8 [(0, .ref (B + x0)), (1, .ref (B + x1)), (2, .ref (B + x2)), (3, .int x3), (4, .ref (B + x4))] := hl
  obtain ⟨hx, hb, hml, hown, ht, hK, hNw⟩ := id C
  obtain ⟨H, eH⟩ : ∃ H, H = s.heap := ⟨_, rfl⟩
  obtain ⟨locs, eL⟩ : ∃ z : List Loc, z = [] := ⟨_, rfl⟩
  rw [← eH, ← eL]
  rw [← eH, ← eL] at hT
  clear eH eL
  unfold fX2_findProjection at h
  refine lv_aload_n hx hb dX2_findProjection_0 rfl (lv_at hl 0 rfl) ?_
  refine lv_aload_n hx hb dX2_findProjection_1 rfl (lv_at hl 1 rfl) ?_
  refine lv_aload_n hx hb dX2_findProjection_2 rfl (lv_at hl 2 rfl) ?_
  refine lv_iload_n hx hb dX2_findProjection_3 rfl (lv_at hl 3 rfl) ?_
  refine lv_aload hx hb dX2_findProjection_4 (lv_at hl 4 rfl) ?_
  obtain ⟨z1, σ1, hc1, h⟩ := bd_some h
  refine js_backV hT (js_runV C hT cfX2 t0 rfl mfX2_countChoices lk_X2_68 (kX2_countChoices t0 t1 t2 t4 hc1) ⟨Nat.le_of_ble_eq_true rfl, Nat.le_of_ble_eq_true rfl⟩ rfl hl.1 rfl (Nat.le_of_ble_eq_true rfl) ⟨Nat.zero_le _, Nat.zero_le _⟩ dX2_findProjection_6) (fun H locs hT => ?_)
  refine lv_iconst (v := 0) hx hb dX2_findProjection_9 (by decide) ?_
  refine lv_istore (lv' := [(5, .int 0), (0, .ref (B + x0)), (1, .ref (B + x1)), (2, .ref (B + x2)), (3, .int x3), (4, .ref (B + x4))]) hx hb dX2_findProjection_10 hl (by decide) rfl (fun ls hl => ?_)
  exact wX2_findProjection_12 C hr hk _ _ _ _ _ _ _ _ _ h t0 t1 t2 H locs hT ls (lv_sub hl [1, 2, 3, 4, 0] rfl)
set_option maxHeartbeats 4000000 in
set_option maxRecDepth 20000 in
theorem kX2_projectionNumber {x0 : Nat} {σ σ0 : js_S} {r0 : Int32} (t0 : ob_ nn 2 x0) (h : fX2_projectionNumber fu x0 σ = some (r0, σ0)) : js_M l D B g nn yX2_projectionNumber cX2_projectionNumber 1 (some .int) 0 [.ref (B + x0)] σ (js_QI D B g nn r0 σ0) := by
  refine js_enter (by decide) (Nat.le_of_ble_eq_true rfl) ?_
  intro p e s m args below meth c C hr hk ls hl hT
  have hl : lv_has ls 1 [(0, .ref (B + x0))] := hl
  obtain ⟨hx, hb, hml, hown, ht, hK, hNw⟩ := id C
  obtain ⟨H, eH⟩ : ∃ H, H = s.heap := ⟨_, rfl⟩
  obtain ⟨locs, eL⟩ : ∃ z : List Loc, z = [] := ⟨_, rfl⟩
  rw [← eH, ← eL]
  rw [← eH, ← eL] at hT
  clear eH eL
  unfold fX2_projectionNumber at h
  refine lv_bipush (v := 100) hx hb dX2_projectionNumber_0 (by decide) ?_
  refine lv_aload_n hx hb dX2_projectionNumber_2 rfl (lv_at hl 0 rfl) ?_
  refine js_gR C hT cfX2 t0 1 (by decide) (q := 20) rfl (by decide) lk_X2_18 dX2_projectionNumber_3 (fun t1a => ?_)
  refine lv_iconst (v := 0) hx hb dX2_projectionNumber_6 (by decide) ?_
  obtain ⟨g2, h⟩ := gd_some _ h
  refine js_iald C hT t1a g2 dX2_projectionNumber_7 ?_
  refine lv_iconst (v := 1) hx hb dX2_projectionNumber_8 (by decide) ?_
  refine lv_iadd hx hb dX2_projectionNumber_9 ?_
  refine lv_imul hx hb dX2_projectionNumber_10 ?_
  refine lv_bipush (v := 10) hx hb dX2_projectionNumber_11 (by decide) ?_
  refine lv_aload_n hx hb dX2_projectionNumber_13 rfl (lv_at hl 0 rfl) ?_
  refine js_gR C hT cfX2 t0 1 (by decide) (q := 20) rfl (by decide) lk_X2_18 dX2_projectionNumber_14 (fun t3a => ?_)
  refine lv_iconst (v := 1) hx hb dX2_projectionNumber_17 (by decide) ?_
  obtain ⟨g4, h⟩ := gd_some _ h
  refine js_iald C hT t3a g4 dX2_projectionNumber_18 ?_
  refine lv_iconst (v := 1) hx hb dX2_projectionNumber_19 (by decide) ?_
  refine lv_iadd hx hb dX2_projectionNumber_20 ?_
  refine lv_imul hx hb dX2_projectionNumber_21 ?_
  refine lv_iadd hx hb dX2_projectionNumber_22 ?_
  refine lv_aload_n hx hb dX2_projectionNumber_23 rfl (lv_at hl 0 rfl) ?_
  refine js_gR C hT cfX2 t0 1 (by decide) (q := 20) rfl (by decide) lk_X2_18 dX2_projectionNumber_24 (fun t5a => ?_)
  refine lv_iconst (v := 2) hx hb dX2_projectionNumber_27 (by decide) ?_
  obtain ⟨g6, h⟩ := gd_some _ h
  refine js_iald C hT t5a g6 dX2_projectionNumber_28 ?_
  refine lv_iadd hx hb dX2_projectionNumber_29 ?_
  refine lv_iconst (v := 1) hx hb dX2_projectionNumber_30 (by decide) ?_
  refine lv_iadd hx hb dX2_projectionNumber_31 ?_
  obtain ⟨rfl, rfl⟩ := js_rt h
  exact js_iret C hT hr hk dX2_projectionNumber_32
set_option maxHeartbeats 4000000 in
set_option maxRecDepth 20000 in
theorem wX2_removeStrict_43 (C : js_C D g p m c cX2_removeStrict 4 s args RX2) (hr : meth.sig.returnType = none) (hk : meth.locks = false) (rc2 : Nat → Nat → Int32 → Int32 → js_S → Option (Unit × js_S)) (hrc2 : ∀ (x0 : Nat) (x1 : Nat) (x2 : Int32) (x3 : Int32) (σ : js_S) (r0 : Unit) (σ0 : js_S), rc2 x0 x1 x2 x3 σ = some (r0, σ0) → ob_ nn 2 x0 → ob_ nn 5 x1 → js_at p l e 3 s m args below meth c D B g nn 2 4 [(0, .ref (B + x0)), (1, .ref (B + x1)), (2, .int x2), (3, .int x3)] [] σ (js_QV D B g nn σ0)) : ∀ (x0 : Nat) (x1 : Nat) (x2 : Int32) (x3 : Int32) (σ : js_S) (r0 : Unit) (σ0 : js_S), fX2_removeStrict_43 fu rc2 x0 x1 x2 x3 σ = some (r0, σ0) → ob_ nn 2 x0 → ob_ nn 5 x1 → js_at p l e 3 s m args below meth c D B g nn 43 4 [(0, .ref (B + x0)), (1, .ref (B + x1)), (2, .int x2), (3, .int x3)] [] σ (js_QV D B g nn σ0) := by
  obtain ⟨hx, hb, hml, hown, ht, hK, hNw⟩ := id C
  intro x0 x1 x2 x3 σ r0 σ0 h t0 t1 H locs hT ls hl
  unfold fX2_removeStrict_43 at h
  refine lv_iinc (v := x3 + 1) (lv' := [(3, .int (x3 + 1)), (0, .ref (B + x0)), (1, .ref (B + x1)), (2, .int x2)]) hx hb dX2_removeStrict_43 hl (k := 3) rfl rfl (by decide) rfl (fun ls hl => ?_)
  refine lv_goto (tgt := 2) hx hb dX2_removeStrict_46 (by decide) ?_
  exact hrc2 _ _ _ _ _ _ _ h t0 t1 H locs hT ls (lv_sub hl [1, 2, 3, 0] rfl)
set_option maxHeartbeats 4000000 in
set_option maxRecDepth 20000 in
theorem wX2_removeStrict_2b (C : js_C D g p m c cX2_removeStrict 4 s args RX2) (hr : meth.sig.returnType = none) (hk : meth.locks = false) (rc2 : Nat → Nat → Int32 → Int32 → js_S → Option (Unit × js_S)) (hrc2 : ∀ (x0 : Nat) (x1 : Nat) (x2 : Int32) (x3 : Int32) (σ : js_S) (r0 : Unit) (σ0 : js_S), rc2 x0 x1 x2 x3 σ = some (r0, σ0) → ob_ nn 2 x0 → ob_ nn 5 x1 → js_at p l e 3 s m args below meth c D B g nn 2 4 [(0, .ref (B + x0)), (1, .ref (B + x1)), (2, .int x2), (3, .int x3)] [] σ (js_QV D B g nn σ0)) : ∀ (x0 : Nat) (x1 : Nat) (x2 : Int32) (x3 : Int32) (σ : js_S) (r0 : Unit) (σ0 : js_S), fX2_removeStrict_2b fu rc2 x0 x1 x2 x3 σ = some (r0, σ0) → ob_ nn 2 x0 → ob_ nn 5 x1 → js_at p l e 3 s m args below meth c D B g nn 2 4 [(0, .ref (B + x0)), (1, .ref (B + x1)), (2, .int x2), (3, .int x3)] [] σ (js_QV D B g nn σ0) := by
  obtain ⟨hx, hb, hml, hown, ht, hK, hNw⟩ := id C
  intro x0 x1 x2 x3 σ r0 σ0 h t0 t1 H locs hT ls hl
  unfold fX2_removeStrict_2b at h
  refine lv_iload_n hx hb dX2_removeStrict_2 rfl (lv_at hl 3 rfl) ?_
  refine lv_aload_n hx hb dX2_removeStrict_3 rfl (lv_at hl 1 rfl) ?_
  refine js_gIN C hT cfX5 t1 4 (by decide) rfl lk_X2_51 dX2_removeStrict_4 ?_
  refine lv_icmp_ge (tgt := 49) hx hb dX2_removeStrict_7 (by decide) (fun c1 => ?_) (fun c1 => ?_)
  · rw [if_pos c1] at h
    obtain ⟨rfl, rfl⟩ := js_rt h
    exact js_vret C hT hr hk dX2_removeStrict_49
  · rw [if_neg c1] at h
    refine lv_aload_n hx hb dX2_removeStrict_10 rfl (lv_at hl 0 rfl) ?_
    refine js_gR C hT cfX2 t0 0 (by decide) (q := 1) rfl (by decide) lk_X2_12 dX2_removeStrict_11 (fun t2a => ?_)
    refine lv_iload_n hx hb dX2_removeStrict_14 rfl (lv_at hl 3 rfl) ?_
    obtain ⟨r3, σ3, hc3, h⟩ := bd_some h
    refine js_backI hT (js_runV C hT cfX1 t2a rfl mfX1_number lk_X2_54 (kX1_number t2a hc3) ⟨Nat.le_of_ble_eq_true rfl, Nat.le_of_ble_eq_true rfl⟩ rfl hl.1 rfl (Nat.le_of_ble_eq_true rfl) ⟨Nat.zero_le _, Nat.zero_le _⟩ dX2_removeStrict_15) (fun H locs hT => ?_)
    refine lv_iload_n hx hb dX2_removeStrict_18 rfl (lv_at hl 2 rfl) ?_
    refine lv_icmp_ne (tgt := 43) hx hb dX2_removeStrict_19 (by decide) (fun c4 => ?_) (fun c4 => ?_)
    · rw [if_neg c4] at h
      exact wX2_removeStrict_43 C hr hk rc2 hrc2 _ _ _ _ _ _ _ h t0 t1 H locs hT ls (lv_sub hl [0, 1, 2, 3] rfl)
    · rw [if_pos c4] at h
      refine lv_aload_n hx hb dX2_removeStrict_22 rfl (lv_at hl 0 rfl) ?_
      refine lv_aload_n hx hb dX2_removeStrict_23 rfl (lv_at hl 1 rfl) ?_
      refine lv_iload_n hx hb dX2_removeStrict_24 rfl (lv_at hl 3 rfl) ?_
      obtain ⟨r5, σ5, hc5, h⟩ := bd_some h
      refine js_backI hT (js_runV C hT cfX5 t1 rfl mfX5_graph lk_X2_58 (kX5_graph t1 hc5) ⟨Nat.le_of_ble_eq_true rfl, Nat.le_of_ble_eq_true rfl⟩ rfl hl.1 rfl (Nat.le_of_ble_eq_true rfl) ⟨Nat.zero_le _, Nat.zero_le _⟩ dX2_removeStrict_25) (fun H locs hT => ?_)
      obtain ⟨r6, σ6, hc6, h⟩ := bd_some h
      refine js_backI hT (js_runV C hT cfX2 t0 rfl mfX2_projected lk_X2_61 (kX2_projected t0 hc6) ⟨Nat.le_of_ble_eq_true rfl, Nat.le_of_ble_eq_true rfl⟩ rfl hl.1 rfl (Nat.le_of_ble_eq_true rfl) ⟨Nat.zero_le _, Nat.zero_le _⟩ dX2_removeStrict_28) (fun H locs hT => ?_)
      refine lv_iconst (v := 2) hx hb dX2_removeStrict_31 (by decide) ?_
      refine lv_icmp_ne (tgt := 43) hx hb dX2_removeStrict_32 (by decide) (fun c7 => ?_) (fun c7 => ?_)
      · rw [if_neg c7] at h
        exact wX2_removeStrict_43 C hr hk rc2 hrc2 _ _ _ _ _ _ _ h t0 t1 H locs hT ls (lv_sub hl [0, 1, 2, 3] rfl)
      · rw [if_pos c7] at h
        refine lv_aload_n hx hb dX2_removeStrict_35 rfl (lv_at hl 0 rfl) ?_
        refine js_gR C hT cfX2 t0 0 (by decide) (q := 1) rfl (by decide) lk_X2_12 dX2_removeStrict_36 (fun t8a => ?_)
        refine lv_iload_n hx hb dX2_removeStrict_39 rfl (lv_at hl 3 rfl) ?_
        obtain ⟨z9, σ9, hc9, h⟩ := bd_some h
        refine js_backV hT (js_runV C hT cfX1 t8a rfl mfX1_remove lk_X2_64 (kX1_remove t8a hc9) ⟨Nat.le_of_ble_eq_true rfl, Nat.le_of_ble_eq_true rfl⟩ rfl hl.1 rfl (Nat.le_of_ble_eq_true rfl) ⟨Nat.zero_le _, Nat.zero_le _⟩ dX2_removeStrict_40) (fun H locs hT => ?_)
        exact wX2_removeStrict_43 C hr hk rc2 hrc2 _ _ _ _ _ _ _ h t0 t1 H locs hT ls (lv_sub hl [0, 1, 2, 3] rfl)
set_option maxHeartbeats 4000000 in
set_option maxRecDepth 20000 in
theorem wX2_removeStrict_2 (C : js_C D g p m c cX2_removeStrict 4 s args RX2) (hr : meth.sig.returnType = none) (hk : meth.locks = false) : ∀ (k : Nat), ∀ (x0 : Nat) (x1 : Nat) (x2 : Int32) (x3 : Int32) (σ : js_S) (r0 : Unit) (σ0 : js_S), fX2_removeStrict_2 fu k x0 x1 x2 x3 σ = some (r0, σ0) → ob_ nn 2 x0 → ob_ nn 5 x1 → js_at p l e 3 s m args below meth c D B g nn 2 4 [(0, .ref (B + x0)), (1, .ref (B + x1)), (2, .int x2), (3, .int x3)] [] σ (js_QV D B g nn σ0) := by
  intro k
  induction k with
  | zero =>
    intro x0 x1 x2 x3 σ r0 σ0 h
    cases h
  | succ k ih =>
    intro x0 x1 x2 x3 σ r0 σ0 h
    exact wX2_removeStrict_2b C hr hk (fX2_removeStrict_2 fu k) ih x0 x1 x2 x3 σ r0 σ0 h
set_option maxHeartbeats 4000000 in
set_option maxRecDepth 20000 in
theorem kX2_removeStrict {x0 : Nat} {x1 : Nat} {x2 : Int32} {σ σ0 : js_S} {r0 : Unit} (t0 : ob_ nn 2 x0) (t1 : ob_ nn 5 x1) (h : fX2_removeStrict fu x0 x1 x2 σ = some (r0, σ0)) : js_M l D B g nn yX2_removeStrict cX2_removeStrict 4 none 3 [.ref (B + x0), .ref (B + x1), .int x2] σ (js_QV D B g nn σ0) := by
  refine js_enter (by decide) (Nat.le_of_ble_eq_true rfl) ?_
  intro p e s m args below meth c C hr hk ls hl hT
  have hl : lv_has ls 4 [(0, .ref (B + x0)), (1, .ref (B + x1)), (2, .int x2)] := hl
  obtain ⟨hx, hb, hml, hown, ht, hK, hNw⟩ := id C
  obtain ⟨H, eH⟩ : ∃ H, H = s.heap := ⟨_, rfl⟩
  obtain ⟨locs, eL⟩ : ∃ z : List Loc, z = [] := ⟨_, rfl⟩
  rw [← eH, ← eL]
  rw [← eH, ← eL] at hT
  clear eH eL
  unfold fX2_removeStrict at h
  refine lv_iconst (v := 0) hx hb dX2_removeStrict_0 (by decide) ?_
  refine lv_istore_n (lv' := [(3, .int 0), (0, .ref (B + x0)), (1, .ref (B + x1)), (2, .int x2)]) hx hb dX2_removeStrict_1 rfl hl (by decide) rfl (fun ls hl => ?_)
  exact wX2_removeStrict_2 C hr hk _ _ _ _ _ _ _ _ h t0 t1 H locs hT ls (lv_sub hl [1, 2, 3, 0] rfl)
set_option maxHeartbeats 4000000 in
set_option maxRecDepth 20000 in
theorem wX2_removeDecreasing_41 (C : js_C D g p m c cX2_removeDecreasing 5 s args RX2) (hr : meth.sig.returnType = (some .boolean)) (hk : meth.locks = false) (rc5 : Nat → Nat → Nat → Int32 → Int32 → js_S → Option (Int32 × js_S)) (hrc5 : ∀ (x0 : Nat) (x1 : Nat) (x2 : Nat) (x3 : Int32) (x4 : Int32) (σ : js_S) (r0 : Int32) (σ0 : js_S), rc5 x0 x1 x2 x3 x4 σ = some (r0, σ0) → ob_ nn 2 x0 → ob_ nn 5 x1 → ob_ nn 8 x2 → js_at p l e 4 s m args below meth c D B g nn 5 5 [(0, .ref (B + x0)), (1, .ref (B + x1)), (2, .ref (B + x2)), (3, .int x3), (4, .int x4)] [] σ (js_QI D B g nn r0 σ0)) : ∀ (x0 : Nat) (x1 : Nat) (x2 : Nat) (x3 : Int32) (x4 : Int32) (σ : js_S) (r0 : Int32) (σ0 : js_S), fX2_removeDecreasing_41 fu rc5 x0 x1 x2 x3 x4 σ = some (r0, σ0) → ob_ nn 2 x0 → ob_ nn 5 x1 → ob_ nn 8 x2 → js_at p l e 4 s m args below meth c D B g nn 41 5 [(0, .ref (B + x0)), (1, .ref (B + x1)), (2, .ref (B + x2)), (3, .int x3), (4, .int x4)] [] σ (js_QI D B g nn r0 σ0) := by
  obtain ⟨hx, hb, hml, hown, ht, hK, hNw⟩ := id C
  intro x0 x1 x2 x3 x4 σ r0 σ0 h t0 t1 t2 H locs hT ls hl
  unfold fX2_removeDecreasing_41 at h
  refine lv_iinc (v := x4 + 1) (lv' := [(4, .int (x4 + 1)), (0, .ref (B + x0)), (1, .ref (B + x1)), (2, .ref (B + x2)), (3, .int x3)]) hx hb dX2_removeDecreasing_41 hl (k := 4) rfl rfl (by decide) rfl (fun ls hl => ?_)
  refine lv_goto (tgt := 5) hx hb dX2_removeDecreasing_44 (by decide) ?_
  exact hrc5 _ _ _ _ _ _ _ _ h t0 t1 t2 H locs hT ls (lv_sub hl [1, 2, 3, 4, 0] rfl)
set_option maxHeartbeats 4000000 in
set_option maxRecDepth 20000 in
theorem wX2_removeDecreasing_5b (C : js_C D g p m c cX2_removeDecreasing 5 s args RX2) (hr : meth.sig.returnType = (some .boolean)) (hk : meth.locks = false) (rc5 : Nat → Nat → Nat → Int32 → Int32 → js_S → Option (Int32 × js_S)) (hrc5 : ∀ (x0 : Nat) (x1 : Nat) (x2 : Nat) (x3 : Int32) (x4 : Int32) (σ : js_S) (r0 : Int32) (σ0 : js_S), rc5 x0 x1 x2 x3 x4 σ = some (r0, σ0) → ob_ nn 2 x0 → ob_ nn 5 x1 → ob_ nn 8 x2 → js_at p l e 4 s m args below meth c D B g nn 5 5 [(0, .ref (B + x0)), (1, .ref (B + x1)), (2, .ref (B + x2)), (3, .int x3), (4, .int x4)] [] σ (js_QI D B g nn r0 σ0)) : ∀ (x0 : Nat) (x1 : Nat) (x2 : Nat) (x3 : Int32) (x4 : Int32) (σ : js_S) (r0 : Int32) (σ0 : js_S), fX2_removeDecreasing_5b fu rc5 x0 x1 x2 x3 x4 σ = some (r0, σ0) → ob_ nn 2 x0 → ob_ nn 5 x1 → ob_ nn 8 x2 → js_at p l e 4 s m args below meth c D B g nn 5 5 [(0, .ref (B + x0)), (1, .ref (B + x1)), (2, .ref (B + x2)), (3, .int x3), (4, .int x4)] [] σ (js_QI D B g nn r0 σ0) := by
  obtain ⟨hx, hb, hml, hown, ht, hK, hNw⟩ := id C
  intro x0 x1 x2 x3 x4 σ r0 σ0 h t0 t1 t2 H locs hT ls hl
  unfold fX2_removeDecreasing_5b at h
  refine lv_iload hx hb dX2_removeDecreasing_5 (lv_at hl 4 rfl) ?_
  refine lv_aload_n hx hb dX2_removeDecreasing_7 rfl (lv_at hl 0 rfl) ?_
  refine js_gR C hT cfX2 t0 0 (by decide) (q := 1) rfl (by decide) lk_X2_12 dX2_removeDecreasing_8 (fun t1a => ?_)
  refine js_gIN C hT cfX1 t1a 3 (by decide) rfl lk_X2_40 dX2_removeDecreasing_11 ?_
  refine lv_icmp_ge (tgt := 47) hx hb dX2_removeDecreasing_14 (by decide) (fun c2 => ?_) (fun c2 => ?_)
  · rw [if_pos c2] at h
    refine lv_iload_n hx hb dX2_removeDecreasing_47 rfl (lv_at hl 3 rfl) ?_
    obtain ⟨g3, h⟩ := gd_some _ h
    obtain ⟨rfl, rfl⟩ := js_rt h
    exact js_zret C hT hr hk g3 dX2_removeDecreasing_48
  · rw [if_neg c2] at h
    refine lv_aload_n hx hb dX2_removeDecreasing_17 rfl (lv_at hl 0 rfl) ?_
    refine lv_aload_n hx hb dX2_removeDecreasing_18 rfl (lv_at hl 1 rfl) ?_
    refine lv_aload_n hx hb dX2_removeDecreasing_19 rfl (lv_at hl 0 rfl) ?_
    refine js_gR C hT cfX2 t0 0 (by decide) (q := 1) rfl (by decide) lk_X2_12 dX2_removeDecreasing_20 (fun t4a => ?_)
    refine lv_iload hx hb dX2_removeDecreasing_23 (lv_at hl 4 rfl) ?_
    refine lv_aload_n hx hb dX2_removeDecreasing_25 rfl (lv_at hl 2 rfl) ?_
    obtain ⟨r5, σ5, hc5, h⟩ := bd_some h
    refine js_backI hT (js_runV C hT cfX2 t0 rfl mfX2_findProjection lk_X2_43 (kX2_findProjection t0 t1 t4a t2 hc5) ⟨Nat.le_of_ble_eq_true rfl, Nat.le_of_ble_eq_true rfl⟩ rfl hl.1 rfl (Nat.le_of_ble_eq_true rfl) ⟨Nat.zero_le _, Nat.zero_le _⟩ dX2_removeDecreasing_26) (fun H locs hT => ?_)
    refine lv_if_eq (tgt := 41) hx hb dX2_removeDecreasing_29 (by decide) (fun c6 => ?_) (fun c6 => ?_)
    · rw [if_pos c6] at h
      exact wX2_removeDecreasing_41 C hr hk rc5 hrc5 _ _ _ _ _ _ _ _ h t0 t1 t2 H locs hT ls (lv_sub hl [0, 1, 2, 3, 4] rfl)
    · rw [if_neg c6] at h
      refine lv_aload_n hx hb dX2_removeDecreasing_32 rfl (lv_at hl 0 rfl) ?_
      refine lv_aload_n hx hb dX2_removeDecreasing_33 rfl (lv_at hl 1 rfl) ?_
      refine lv_iload hx hb dX2_removeDecreasing_34 (lv_at hl 4 rfl) ?_
      obtain ⟨z7, σ7, hc7, h⟩ := bd_some h
      refine js_backV hT (js_runV C hT cfX2 t0 rfl mfX2_removeStrict lk_X2_47 (kX2_removeStrict t0 t1 hc7) ⟨Nat.le_of_ble_eq_true rfl, Nat.le_of_ble_eq_true rfl⟩ rfl hl.1 rfl (Nat.le_of_ble_eq_true rfl) ⟨Nat.zero_le _, Nat.zero_le _⟩ dX2_removeDecreasing_36) (fun H locs hT => ?_)
      refine lv_iconst (v := 1) hx hb dX2_removeDecreasing_39 (by decide) ?_
      refine lv_istore_n (lv' := [(3, .int 1), (0, .ref (B + x0)), (1, .ref (B + x1)), (2, .ref (B + x2)), (4, .int x4)]) hx hb dX2_removeDecreasing_40 rfl hl (by decide) rfl (fun ls hl => ?_)
      exact wX2_removeDecreasing_41 C hr hk rc5 hrc5 _ _ _ _ _ _ _ _ h t0 t1 t2 H locs hT ls (lv_sub hl [1, 2, 3, 0, 4] rfl)
set_option maxHeartbeats 4000000 in
set_option maxRecDepth 20000 in
theorem wX2_removeDecreasing_5 (C : js_C D g p m c cX2_removeDecreasing 5 s args RX2) (hr : meth.sig.returnType = (some .boolean)) (hk : meth.locks = false) : ∀ (k : Nat), ∀ (x0 : Nat) (x1 : Nat) (x2 : Nat) (x3 : Int32) (x4 : Int32) (σ : js_S) (r0 : Int32) (σ0 : js_S), fX2_removeDecreasing_5 fu k x0 x1 x2 x3 x4 σ = some (r0, σ0) → ob_ nn 2 x0 → ob_ nn 5 x1 → ob_ nn 8 x2 → js_at p l e 4 s m args below meth c D B g nn 5 5 [(0, .ref (B + x0)), (1, .ref (B + x1)), (2, .ref (B + x2)), (3, .int x3), (4, .int x4)] [] σ (js_QI D B g nn r0 σ0) := by
  intro k
  induction k with
  | zero =>
    intro x0 x1 x2 x3 x4 σ r0 σ0 h
    cases h
  | succ k ih =>
    intro x0 x1 x2 x3 x4 σ r0 σ0 h
    exact wX2_removeDecreasing_5b C hr hk (fX2_removeDecreasing_5 fu k) ih x0 x1 x2 x3 x4 σ r0 σ0 h
set_option maxHeartbeats 4000000 in
set_option maxRecDepth 20000 in
theorem kX2_removeDecreasing {x0 : Nat} {x1 : Nat} {x2 : Nat} {σ σ0 : js_S} {r0 : Int32} (t0 : ob_ nn 2 x0) (t1 : ob_ nn 5 x1) (t2 : ob_ nn 8 x2) (h : fX2_removeDecreasing fu x0 x1 x2 σ = some (r0, σ0)) : js_M l D B g nn yX2_removeDecreasing cX2_removeDecreasing 5 (some .boolean) 4 [.ref (B + x0), .ref (B + x1), .ref (B + x2)] σ (js_QI D B g nn r0 σ0) := by
  refine js_enter (by decide) (Nat.le_of_ble_eq_true rfl) ?_
  intro p e s m args below meth c C hr hk ls hl hT
  have hl : lv_has ls 5 [(0, .ref (B + x0)), (1, .ref (B + x1)), (2, .ref (B + x2))] := hl
  obtain ⟨hx, hb, hml, hown, ht, hK, hNw⟩ := id C
  obtain ⟨H, eH⟩ : ∃ H, H = s.heap := ⟨_, rfl⟩
  obtain ⟨locs, eL⟩ : ∃ z : List Loc, z = [] := ⟨_, rfl⟩
  rw [← eH, ← eL]
  rw [← eH, ← eL] at hT
  clear eH eL
  unfold fX2_removeDecreasing at h
  refine lv_iconst (v := 0) hx hb dX2_removeDecreasing_0 (by decide) ?_
  refine lv_istore_n (lv' := [(3, .int 0), (0, .ref (B + x0)), (1, .ref (B + x1)), (2, .ref (B + x2))]) hx hb dX2_removeDecreasing_1 rfl hl (by decide) rfl (fun ls hl => ?_)
  refine lv_iconst (v := 0) hx hb dX2_removeDecreasing_2 (by decide) ?_
  refine lv_istore (lv' := [(4, .int 0), (3, .int 0), (0, .ref (B + x0)), (1, .ref (B + x1)), (2, .ref (B + x2))]) hx hb dX2_removeDecreasing_3 hl (by decide) rfl (fun ls hl => ?_)
  exact wX2_removeDecreasing_5 C hr hk _ _ _ _ _ _ _ _ _ h t0 t1 t2 H locs hT ls (lv_sub hl [2, 3, 4, 1, 0] rfl)
set_option maxHeartbeats 4000000 in
set_option maxRecDepth 20000 in
theorem wX2_run_23b (C : js_C D g p m c cX2_run 4 s args RX2) (hr : meth.sig.returnType = none) (hk : meth.locks = false) (rc23 : Nat → Nat → Nat → Int32 → js_S → Option (Unit × js_S)) (hrc23 : ∀ (x0 : Nat) (x1 : Nat) (x2 : Nat) (x3 : Int32) (σ : js_S) (r0 : Unit) (σ0 : js_S), rc23 x0 x1 x2 x3 σ = some (r0, σ0) → ob_ nn 2 x0 → ob_ nn 5 x1 → ob_ nn 8 x2 → js_at p l e 5 s m args below meth c D B g nn 23 4 [(0, .ref (B + x0)), (1, .ref (B + x1)), (2, .ref (B + x2)), (3, .int x3)] [] σ (js_QV D B g nn σ0)) : ∀ (x0 : Nat) (x1 : Nat) (x2 : Nat) (x3 : Int32) (σ : js_S) (r0 : Unit) (σ0 : js_S), fX2_run_23b fu rc23 x0 x1 x2 x3 σ = some (r0, σ0) → ob_ nn 2 x0 → ob_ nn 5 x1 → ob_ nn 8 x2 → js_at p l e 5 s m args below meth c D B g nn 23 4 [(0, .ref (B + x0)), (1, .ref (B + x1)), (2, .ref (B + x2)), (3, .int x3)] [] σ (js_QV D B g nn σ0) := by
  obtain ⟨hx, hb, hml, hown, ht, hK, hNw⟩ := id C
  intro x0 x1 x2 x3 σ r0 σ0 h t0 t1 t2 H locs hT ls hl
  unfold fX2_run_23b at h
  refine lv_iload_n hx hb dX2_run_23 rfl (lv_at hl 3 rfl) ?_
  refine lv_sipush (v := 240) hx hb dX2_run_24 (by decide) ?_
  refine lv_icmp_ge (tgt := 64) hx hb dX2_run_27 (by decide) (fun c1 => ?_) (fun c1 => ?_)
  · rw [if_pos c1] at h
    obtain ⟨rfl, rfl⟩ := js_rt h
    exact js_vret C hT hr hk dX2_run_64
  · rw [if_neg c1] at h
    refine lv_aload_n hx hb dX2_run_30 rfl (lv_at hl 0 rfl) ?_
    refine lv_aload_n hx hb dX2_run_31 rfl (lv_at hl 1 rfl) ?_
    refine lv_aload_n hx hb dX2_run_32 rfl (lv_at hl 2 rfl) ?_
    obtain ⟨r2, σ2, hc2, h⟩ := bd_some h
    refine js_backI hT (js_runV C hT cfX2 t0 rfl mfX2_removeDecreasing lk_X2_36 (kX2_removeDecreasing t0 t1 t2 hc2) ⟨Nat.le_of_ble_eq_true rfl, Nat.le_of_ble_eq_true rfl⟩ rfl hl.1 rfl (Nat.le_of_ble_eq_true rfl) ⟨Nat.zero_le _, Nat.zero_le _⟩ dX2_run_33) (fun H locs hT => ?_)
    refine lv_if_ne (tgt := 40) hx hb dX2_run_36 (by decide) (fun c3 => ?_) (fun c3 => ?_)
    · rw [if_neg c3] at h
      refine lv_aload_n hx hb dX2_run_40 rfl (lv_at hl 0 rfl) ?_
      refine lv_dup hx hb dX2_run_41 rfl ?_
      refine js_gI C hT cfX2 t0 3 (by decide) rfl lk_X2_25 dX2_run_42 ?_
      refine lv_iconst (v := 1) hx hb dX2_run_45 (by decide) ?_
      refine lv_iadd hx hb dX2_run_46 ?_
      obtain ⟨σ4, e4, h⟩ := lt_some h
      refine js_pI C hT cfX2 t0 3 (by decide) rfl rfl rfl rfl lk_X2_25 dX2_run_47 (fun H locs hT => ?_)
      rw [e4] at hT
      refine lv_aload_n hx hb dX2_run_50 rfl (lv_at hl 0 rfl) ?_
      refine js_gR C hT cfX2 t0 0 (by decide) (q := 1) rfl (by decide) lk_X2_12 dX2_run_51 (fun t5a => ?_)
      refine lv_aload_n hx hb dX2_run_54 rfl (lv_at hl 1 rfl) ?_
      obtain ⟨z6, σ6, hc6, h⟩ := bd_some h
      refine js_backV hT (js_runV C hT cfX1 t5a rfl mfX1_rebuild lk_X2_33 (kX1_rebuild t5a t1 hc6) ⟨Nat.le_of_ble_eq_true rfl, Nat.le_of_ble_eq_true rfl⟩ rfl hl.1 rfl (Nat.le_of_ble_eq_true rfl) ⟨Nat.zero_le _, Nat.zero_le _⟩ dX2_run_55) (fun H locs hT => ?_)
      refine lv_iinc (v := x3 + 1) (lv' := [(3, .int (x3 + 1)), (0, .ref (B + x0)), (1, .ref (B + x1)), (2, .ref (B + x2))]) hx hb dX2_run_58 hl (k := 3) rfl rfl (by decide) rfl (fun ls hl => ?_)
      refine lv_goto (tgt := 23) hx hb dX2_run_61 (by decide) ?_
      exact hrc23 _ _ _ _ _ _ _ h t0 t1 t2 H locs hT ls (lv_sub hl [1, 2, 3, 0] rfl)
    · rw [if_pos c3] at h
      obtain ⟨rfl, rfl⟩ := js_rt h
      exact js_vret C hT hr hk dX2_run_39
set_option maxHeartbeats 4000000 in
set_option maxRecDepth 20000 in
theorem wX2_run_23 (C : js_C D g p m c cX2_run 4 s args RX2) (hr : meth.sig.returnType = none) (hk : meth.locks = false) : ∀ (k : Nat), ∀ (x0 : Nat) (x1 : Nat) (x2 : Nat) (x3 : Int32) (σ : js_S) (r0 : Unit) (σ0 : js_S), fX2_run_23 fu k x0 x1 x2 x3 σ = some (r0, σ0) → ob_ nn 2 x0 → ob_ nn 5 x1 → ob_ nn 8 x2 → js_at p l e 5 s m args below meth c D B g nn 23 4 [(0, .ref (B + x0)), (1, .ref (B + x1)), (2, .ref (B + x2)), (3, .int x3)] [] σ (js_QV D B g nn σ0) := by
  intro k
  induction k with
  | zero =>
    intro x0 x1 x2 x3 σ r0 σ0 h
    cases h
  | succ k ih =>
    intro x0 x1 x2 x3 σ r0 σ0 h
    exact wX2_run_23b C hr hk (fX2_run_23 fu k) ih x0 x1 x2 x3 σ r0 σ0 h
set_option maxHeartbeats 4000000 in
set_option maxRecDepth 20000 in
theorem kX2_run {x0 : Nat} {x1 : Nat} {x2 : Nat} {σ σ0 : js_S} {r0 : Unit} (t0 : ob_ nn 2 x0) (t1 : ob_ nn 5 x1) (t2 : ob_ nn 8 x2) (h : fX2_run fu x0 x1 x2 σ = some (r0, σ0)) : js_M l D B g nn yX2_run cX2_run 4 none 5 [.ref (B + x0), .ref (B + x1), .ref (B + x2)] σ (js_QV D B g nn σ0) := by
  refine js_enter (by decide) (Nat.le_of_ble_eq_true rfl) ?_
  intro p e s m args below meth c C hr hk ls hl hT
  have hl : lv_has ls 4 [(0, .ref (B + x0)), (1, .ref (B + x1)), (2, .ref (B + x2))] := hl
  obtain ⟨hx, hb, hml, hown, ht, hK, hNw⟩ := id C
  obtain ⟨H, eH⟩ : ∃ H, H = s.heap := ⟨_, rfl⟩
  obtain ⟨locs, eL⟩ : ∃ z : List Loc, z = [] := ⟨_, rfl⟩
  rw [← eH, ← eL]
  rw [← eH, ← eL] at hT
  clear eH eL
  unfold fX2_run at h
  refine lv_aload_n hx hb dX2_run_0 rfl (lv_at hl 0 rfl) ?_
  refine lv_iconst (v := 0) hx hb dX2_run_1 (by decide) ?_
  obtain ⟨σ1, e1, h⟩ := lt_some h
  refine js_pI C hT cfX2 t0 3 (by decide) rfl rfl rfl rfl lk_X2_25 dX2_run_2 (fun H locs hT => ?_)
  rw [e1] at hT
  refine lv_aload_n hx hb dX2_run_5 rfl (lv_at hl 0 rfl) ?_
  refine js_gR C hT cfX2 t0 0 (by decide) (q := 1) rfl (by decide) lk_X2_12 dX2_run_6 (fun t2a => ?_)
  refine lv_aload_n hx hb dX2_run_9 rfl (lv_at hl 1 rfl) ?_
  obtain ⟨z3, σ3, hc3, h⟩ := bd_some h
  refine js_backV hT (js_runV C hT cfX1 t2a rfl mfX1_reset lk_X2_29 (kX1_reset t2a t1 hc3) ⟨Nat.le_of_ble_eq_true rfl, Nat.le_of_ble_eq_true rfl⟩ rfl hl.1 rfl (Nat.le_of_ble_eq_true rfl) ⟨Nat.zero_le _, Nat.zero_le _⟩ dX2_run_10) (fun H locs hT => ?_)
  refine lv_aload_n hx hb dX2_run_13 rfl (lv_at hl 0 rfl) ?_
  refine js_gR C hT cfX2 t0 0 (by decide) (q := 1) rfl (by decide) lk_X2_12 dX2_run_14 (fun t4a => ?_)
  refine lv_aload_n hx hb dX2_run_17 rfl (lv_at hl 1 rfl) ?_
  obtain ⟨z5, σ5, hc5, h⟩ := bd_some h
  refine js_backV hT (js_runV C hT cfX1 t4a rfl mfX1_rebuild lk_X2_33 (kX1_rebuild t4a t1 hc5) ⟨Nat.le_of_ble_eq_true rfl, Nat.le_of_ble_eq_true rfl⟩ rfl hl.1 rfl (Nat.le_of_ble_eq_true rfl) ⟨Nat.zero_le _, Nat.zero_le _⟩ dX2_run_18) (fun H locs hT => ?_)
  refine lv_iconst (v := 0) hx hb dX2_run_21 (by decide) ?_
  refine lv_istore_n (lv' := [(3, .int 0), (0, .ref (B + x0)), (1, .ref (B + x1)), (2, .ref (B + x2))]) hx hb dX2_run_22 rfl hl (by decide) rfl (fun ls hl => ?_)
  exact wX2_run_23 C hr hk _ _ _ _ _ _ _ _ h t0 t1 t2 H locs hT ls (lv_sub hl [1, 2, 3, 0] rfl)
set_option maxHeartbeats 4000000 in
set_option maxRecDepth 20000 in
theorem kX9_copyFrom {x0 : Nat} {x1 : Nat} {σ σ0 : js_S} {r0 : Unit} (t0 : ob_ nn 9 x0) (t1 : ob_ nn 9 x1) (h : fX9_copyFrom fu x0 x1 σ = some (r0, σ0)) : js_M l D B g nn yX9_copyFrom cX9_copyFrom 2 none 0 [.ref (B + x0), .ref (B + x1)] σ (js_QV D B g nn σ0) := by
  refine js_enter (by decide) (Nat.le_of_ble_eq_true rfl) ?_
  intro p e s m args below meth c C hr hk ls hl hT
  have hl : lv_has ls 2 [(0, .ref (B + x0)), (1, .ref (B + x1))] := hl
  obtain ⟨hx, hb, hml, hown, ht, hK, hNw⟩ := id C
  obtain ⟨H, eH⟩ : ∃ H, H = s.heap := ⟨_, rfl⟩
  obtain ⟨locs, eL⟩ : ∃ z : List Loc, z = [] := ⟨_, rfl⟩
  rw [← eH, ← eL]
  rw [← eH, ← eL] at hT
  clear eH eL
  unfold fX9_copyFrom at h
  refine lv_aload_n hx hb dX9_copyFrom_0 rfl (lv_at hl 1 rfl) ?_
  refine js_gR C hT cfX9 t1 0 (by decide) (q := 20) rfl (by decide) lk_X9_9 dX9_copyFrom_1 (fun t1a => ?_)
  refine lv_iconst (v := 0) hx hb dX9_copyFrom_4 (by decide) ?_
  refine lv_aload_n hx hb dX9_copyFrom_5 rfl (lv_at hl 0 rfl) ?_
  refine js_gR C hT cfX9 t0 0 (by decide) (q := 20) rfl (by decide) lk_X9_9 dX9_copyFrom_6 (fun t2a => ?_)
  refine lv_iconst (v := 0) hx hb dX9_copyFrom_9 (by decide) ?_
  refine lv_aload_n hx hb dX9_copyFrom_10 rfl (lv_at hl 0 rfl) ?_
  refine js_gR C hT cfX9 t0 0 (by decide) (q := 20) rfl (by decide) lk_X9_9 dX9_copyFrom_11 (fun t3a => ?_)
  refine js_alen C hT t3a (Or.inl rfl) dX9_copyFrom_14 ?_
  obtain ⟨g4, h⟩ := gd_some _ h
  obtain ⟨σ4, e4, h⟩ := lt_some h
  refine js_copyi C hT t1a t2a hl.1 g4 lk_X9_27 js_ac1 js_ac2 js_ac3 (Nat.le_of_ble_eq_true rfl) (Nat.le_of_ble_eq_true rfl) dX9_copyFrom_15 (fun H locs hT => ?_)
  rw [e4] at hT
  refine lv_aload_n hx hb dX9_copyFrom_18 rfl (lv_at hl 0 rfl) ?_
  refine lv_aload_n hx hb dX9_copyFrom_19 rfl (lv_at hl 1 rfl) ?_
  refine js_gI C hT cfX9 t1 1 (by decide) rfl lk_X9_15 dX9_copyFrom_20 ?_
  obtain ⟨σ5, e5, h⟩ := lt_some h
  refine js_pI C hT cfX9 t0 1 (by decide) rfl rfl rfl rfl lk_X9_15 dX9_copyFrom_23 (fun H locs hT => ?_)
  rw [e5] at hT
  obtain ⟨rfl, rfl⟩ := js_rt h
  exact js_vret C hT hr hk dX9_copyFrom_26
set_option maxHeartbeats 4000000 in
set_option maxRecDepth 20000 in
theorem wX3_insert_21b (C : js_C D g p m c cX3_insert 6 s args RX3) (hr : meth.sig.returnType = none) (hk : meth.locks = false) (rc21 : Nat → Nat → Int32 → Nat → Int32 → js_S → Option (Unit × js_S)) (hrc21 : ∀ (x0 : Nat) (x1 : Nat) (x2 : Int32) (x4 : Nat) (x5 : Int32) (σ : js_S) (r0 : Unit) (σ0 : js_S), rc21 x0 x1 x2 x4 x5 σ = some (r0, σ0) → ob_ nn 3 x0 → ob_ nn 9 x1 → ob_ nn 9 x4 → js_at p l e 1 s m args below meth c D B g nn 21 6 [(0, .ref (B + x0)), (1, .ref (B + x1)), (2, .int x2), (4, .ref (B + x4)), (5, .int x5)] [] σ (js_QV D B g nn σ0)) : ∀ (x0 : Nat) (x1 : Nat) (x2 : Int32) (x4 : Nat) (x5 : Int32) (σ : js_S) (r0 : Unit) (σ0 : js_S), fX3_insert_21b fu rc21 x0 x1 x2 x4 x5 σ = some (r0, σ0) → ob_ nn 3 x0 → ob_ nn 9 x1 → ob_ nn 9 x4 → js_at p l e 1 s m args below meth c D B g nn 21 6 [(0, .ref (B + x0)), (1, .ref (B + x1)), (2, .int x2), (4, .ref (B + x4)), (5, .int x5)] [] σ (js_QV D B g nn σ0) := by
  obtain ⟨hx, hb, hml, hown, ht, hK, hNw⟩ := id C
  intro x0 x1 x2 x4 x5 σ r0 σ0 h t0 t1 t4 H locs hT ls hl
  unfold fX3_insert_21b at h
  refine lv_iload hx hb dX3_insert_21 (lv_at hl 4 rfl) ?_
  refine lv_iload_n hx hb dX3_insert_23 rfl (lv_at hl 2 rfl) ?_
  refine lv_icmp_le (tgt := 65) hx hb dX3_insert_24 (by decide) (fun c1 => ?_) (fun c1 => ?_)
  · rw [if_pos c1] at h
    refine lv_aload hx hb dX3_insert_65 (lv_at hl 3 rfl) ?_
    refine lv_aload_n hx hb dX3_insert_67 rfl (lv_at hl 1 rfl) ?_
    obtain ⟨z2, σ2, hc2, h⟩ := bd_some h
    refine js_backV hT (js_runV C hT cfX9 t4 rfl mfX9_copyFrom lk_X3_64 (kX9_copyFrom t4 t1 hc2) ⟨Nat.le_of_ble_eq_true rfl, Nat.le_of_ble_eq_true rfl⟩ rfl hl.1 rfl (Nat.le_of_ble_eq_true rfl) ⟨Nat.zero_le _, Nat.zero_le _⟩ dX3_insert_68) (fun H locs hT => ?_)
    refine lv_aload_n hx hb dX3_insert_71 rfl (lv_at hl 0 rfl) ?_
    refine js_gR C hT cfX3 t0 0 (by decide) (q := 23) rfl (by decide) lk_X3_13 dX3_insert_72 (fun t3a => ?_)
    refine lv_iload_n hx hb dX3_insert_75 rfl (lv_at hl 2 rfl) ?_
    refine lv_aload hx hb dX3_insert_76 (lv_at hl 3 rfl) ?_
    obtain ⟨g4, h⟩ := gd_some _ h
    obtain ⟨σ4, e4, h⟩ := lt_some h
    refine js_aast C hT t3a t4 g4 dX3_insert_78 (fun H locs hT => ?_)
    rw [e4] at hT
    refine lv_aload_n hx hb dX3_insert_79 rfl (lv_at hl 0 rfl) ?_
    refine js_gR C hT cfX3 t0 1 (by decide) (q := 22) rfl (by decide) lk_X3_17 dX3_insert_80 (fun t5a => ?_)
    refine lv_iload_n hx hb dX3_insert_83 rfl (lv_at hl 2 rfl) ?_
    refine lv_iconst (v := 0) hx hb dX3_insert_84 (by decide) ?_
    obtain ⟨g6, h⟩ := gd_some _ h
    obtain ⟨σ6, e6, h⟩ := lt_some h
    refine js_zast C hT t5a g6 dX3_insert_85 (fun H locs hT => ?_)
    rw [e6] at hT
    refine lv_aload_n hx hb dX3_insert_86 rfl (lv_at hl 0 rfl) ?_
    refine lv_aload_n hx hb dX3_insert_87 rfl (lv_at hl 0 rfl) ?_
    refine js_gI C hT cfX3 t0 5 (by decide) rfl lk_X3_36 dX3_insert_88 ?_
    refine lv_iconst (v := 1) hx hb dX3_insert_91 (by decide) ?_
    refine lv_iadd hx hb dX3_insert_92 ?_
    refine lv_bipush (v := 30) hx hb dX3_insert_93 (by decide) ?_
    refine va_mmin hx hb (hml.trans hl.1.symm) hown (ht _ lk_X3_87) (ht _ js_mmin1) (ht _ js_mth) (ht _ js_mmin2) (Nat.le_of_ble_eq_true rfl) (Nat.le_of_ble_eq_true rfl) (Nat.zero_le _) (Nat.zero_le _) dX3_insert_95 ?_
    obtain ⟨σ7, e7, h⟩ := lt_some h
    refine js_pI C hT cfX3 t0 5 (by decide) rfl rfl rfl rfl lk_X3_36 dX3_insert_98 (fun H locs hT => ?_)
    rw [e7] at hT
    obtain ⟨rfl, rfl⟩ := js_rt h
    exact js_vret C hT hr hk dX3_insert_101
  · rw [if_neg c1] at h
    refine lv_aload_n hx hb dX3_insert_27 rfl (lv_at hl 0 rfl) ?_
    refine js_gR C hT cfX3 t0 0 (by decide) (q := 23) rfl (by decide) lk_X3_13 dX3_insert_28 (fun t8a => ?_)
    refine lv_iload hx hb dX3_insert_31 (lv_at hl 4 rfl) ?_
    refine lv_aload_n hx hb dX3_insert_33 rfl (lv_at hl 0 rfl) ?_
    refine js_gR C hT cfX3 t0 0 (by decide) (q := 23) rfl (by decide) lk_X3_13 dX3_insert_34 (fun t9a => ?_)
    refine lv_iload hx hb dX3_insert_37 (lv_at hl 4 rfl) ?_
    refine lv_iconst (v := 1) hx hb dX3_insert_39 (by decide) ?_
    refine lv_isub hx hb dX3_insert_40 ?_
    obtain ⟨g10, h⟩ := gd_some _ h
    refine js_aald C hT t9a g10 dX3_insert_41 (fun t10a => ?_)
    obtain ⟨g11, h⟩ := gd_some _ h
    obtain ⟨σ11, e11, h⟩ := lt_some h
    refine js_aast C hT t8a t10a g11 dX3_insert_42 (fun H locs hT => ?_)
    rw [e11] at hT
    refine lv_aload_n hx hb dX3_insert_43 rfl (lv_at hl 0 rfl) ?_
    refine js_gR C hT cfX3 t0 1 (by decide) (q := 22) rfl (by decide) lk_X3_17 dX3_insert_44 (fun t12a => ?_)
    refine lv_iload hx hb dX3_insert_47 (lv_at hl 4 rfl) ?_
    refine lv_aload_n hx hb dX3_insert_49 rfl (lv_at hl 0 rfl) ?_
    refine js_gR C hT cfX3 t0 1 (by decide) (q := 22) rfl (by decide) lk_X3_17 dX3_insert_50 (fun t13a => ?_)
    refine lv_iload hx hb dX3_insert_53 (lv_at hl 4 rfl) ?_
    refine lv_iconst (v := 1) hx hb dX3_insert_55 (by decide) ?_
    refine lv_isub hx hb dX3_insert_56 ?_
    obtain ⟨g14, h⟩ := gd_some _ h
    refine js_zald C hT t13a g14 dX3_insert_57 ?_
    obtain ⟨g15, h⟩ := gd_some _ h
    obtain ⟨σ15, e15, h⟩ := lt_some h
    refine js_zast C hT t12a g15 dX3_insert_58 (fun H locs hT => ?_)
    rw [e15] at hT
    refine lv_iinc (v := x5 + (-1)) (lv' := [(5, .int (x5 + (-1))), (0, .ref (B + x0)), (1, .ref (B + x1)), (2, .int x2), (4, .ref (B + x4))]) hx hb dX3_insert_59 hl (k := 4) rfl rfl (by decide) rfl (fun ls hl => ?_)
    refine lv_goto (tgt := 21) hx hb dX3_insert_62 (by decide) ?_
    exact hrc21 _ _ _ _ _ _ _ _ h t0 t1 t4 H locs hT ls (lv_sub hl [1, 2, 3, 4, 0] rfl)
set_option maxHeartbeats 4000000 in
set_option maxRecDepth 20000 in
theorem wX3_insert_21 (C : js_C D g p m c cX3_insert 6 s args RX3) (hr : meth.sig.returnType = none) (hk : meth.locks = false) : ∀ (k : Nat), ∀ (x0 : Nat) (x1 : Nat) (x2 : Int32) (x4 : Nat) (x5 : Int32) (σ : js_S) (r0 : Unit) (σ0 : js_S), fX3_insert_21 fu k x0 x1 x2 x4 x5 σ = some (r0, σ0) → ob_ nn 3 x0 → ob_ nn 9 x1 → ob_ nn 9 x4 → js_at p l e 1 s m args below meth c D B g nn 21 6 [(0, .ref (B + x0)), (1, .ref (B + x1)), (2, .int x2), (4, .ref (B + x4)), (5, .int x5)] [] σ (js_QV D B g nn σ0) := by
  intro k
  induction k with
  | zero =>
    intro x0 x1 x2 x4 x5 σ r0 σ0 h
    cases h
  | succ k ih =>
    intro x0 x1 x2 x4 x5 σ r0 σ0 h
    exact wX3_insert_21b C hr hk (fX3_insert_21 fu k) ih x0 x1 x2 x4 x5 σ r0 σ0 h
set_option maxHeartbeats 4000000 in
set_option maxRecDepth 20000 in
theorem kX3_insert {x0 : Nat} {x1 : Nat} {x2 : Int32} {σ σ0 : js_S} {r0 : Unit} (t0 : ob_ nn 3 x0) (t1 : ob_ nn 9 x1) (h : fX3_insert fu x0 x1 x2 σ = some (r0, σ0)) : js_M l D B g nn yX3_insert cX3_insert 6 none 1 [.ref (B + x0), .ref (B + x1), .int x2] σ (js_QV D B g nn σ0) := by
  refine js_enter (by decide) (Nat.le_of_ble_eq_true rfl) ?_
  intro p e s m args below meth c C hr hk ls hl hT
  have hl : lv_has ls 6 [(0, .ref (B + x0)), (1, .ref (B + x1)), (2, .int x2)] := hl
  obtain ⟨hx, hb, hml, hown, ht, hK, hNw⟩ := id C
  obtain ⟨H, eH⟩ : ∃ H, H = s.heap := ⟨_, rfl⟩
  obtain ⟨locs, eL⟩ : ∃ z : List Loc, z = [] := ⟨_, rfl⟩
  rw [← eH, ← eL]
  rw [← eH, ← eL] at hT
  clear eH eL
  unfold fX3_insert at h
  refine lv_aload_n hx hb dX3_insert_0 rfl (lv_at hl 0 rfl) ?_
  refine js_gI C hT cfX3 t0 5 (by decide) rfl lk_X3_36 dX3_insert_1 ?_
  refine lv_bipush (v := 30) hx hb dX3_insert_4 (by decide) ?_
  refine va_mmin hx hb (hml.trans hl.1.symm) hown (ht _ lk_X3_87) (ht _ js_mmin1) (ht _ js_mth) (ht _ js_mmin2) (Nat.le_of_ble_eq_true rfl) (Nat.le_of_ble_eq_true rfl) (Nat.zero_le _) (Nat.zero_le _) dX3_insert_6 ?_
  refine lv_istore_n (lv' := [(3, .int (if 30 < (σ.1 x0 5) then 30 else (σ.1 x0 5))), (0, .ref (B + x0)), (1, .ref (B + x1)), (2, .int x2)]) hx hb dX3_insert_9 rfl hl (by decide) rfl (fun ls hl => ?_)
  refine lv_aload_n hx hb dX3_insert_10 rfl (lv_at hl 1 rfl) ?_
  refine js_gR C hT cfX3 t0 0 (by decide) (q := 23) rfl (by decide) lk_X3_13 dX3_insert_11 (fun t1a => ?_)
  refine lv_iload_n hx hb dX3_insert_14 rfl (lv_at hl 0 rfl) ?_
  obtain ⟨g2, h⟩ := gd_some _ h
  refine js_aald C hT t1a g2 dX3_insert_15 (fun t2a => ?_)
  refine lv_astore (lv' := [(4, .ref (B + (σ.2.2 (σ.2.2 x0 0) (Int32.toNatClampNeg (if 30 < (σ.1 x0 5) then 30 else (σ.1 x0 5)))))), (3, .int (if 30 < (σ.1 x0 5) then 30 else (σ.1 x0 5))), (0, .ref (B + x0)), (1, .ref (B + x1)), (2, .int x2)]) hx hb dX3_insert_16 hl (by decide) rfl (fun ls hl => ?_)
  refine lv_iload_n hx hb dX3_insert_18 rfl (lv_at hl 1 rfl) ?_
  refine lv_istore (lv' := [(5, .int (if 30 < (σ.1 x0 5) then 30 else (σ.1 x0 5))), (4, .ref (B + (σ.2.2 (σ.2.2 x0 0) (Int32.toNatClampNeg (if 30 < (σ.1 x0 5) then 30 else (σ.1 x0 5)))))), (3, .int (if 30 < (σ.1 x0 5) then 30 else (σ.1 x0 5))), (0, .ref (B + x0)), (1, .ref (B + x1)), (2, .int x2)]) hx hb dX3_insert_19 hl (by decide) rfl (fun ls hl => ?_)
  exact wX3_insert_21 C hr hk _ _ _ _ _ _ _ _ _ h t0 t1 t2a H locs hT ls (lv_sub hl [3, 4, 5, 1, 0] rfl)
set_option maxHeartbeats 4000000 in
set_option maxRecDepth 20000 in
theorem kX9_symbolAt {x0 : Nat} {x1 : Int32} {σ σ0 : js_S} {r0 : Int32} (t0 : ob_ nn 9 x0) (h : fX9_symbolAt fu x0 x1 σ = some (r0, σ0)) : js_M l D B g nn yX9_symbolAt cX9_symbolAt 2 (some .int) 0 [.ref (B + x0), .int x1] σ (js_QI D B g nn r0 σ0) := by
  refine js_enter (by decide) (Nat.le_of_ble_eq_true rfl) ?_
  intro p e s m args below meth c C hr hk ls hl hT
  have hl : lv_has ls 2 [(0, .ref (B + x0)), (1, .int x1)] := hl
  obtain ⟨hx, hb, hml, hown, ht, hK, hNw⟩ := id C
  obtain ⟨H, eH⟩ : ∃ H, H = s.heap := ⟨_, rfl⟩
  obtain ⟨locs, eL⟩ : ∃ z : List Loc, z = [] := ⟨_, rfl⟩
  rw [← eH, ← eL]
  rw [← eH, ← eL] at hT
  clear eH eL
  unfold fX9_symbolAt at h
  refine lv_iload_n hx hb dX9_symbolAt_0 rfl (lv_at hl 1 rfl) ?_
  refine lv_if_lt (tgt := 30) hx hb dX9_symbolAt_1 (by decide) (fun c1 => ?_) (fun c1 => ?_)
  · rw [if_pos c1] at h
    refine lv_iconst (v := 0) hx hb dX9_symbolAt_30 (by decide) ?_
    obtain ⟨rfl, rfl⟩ := js_rt h
    exact js_iret C hT hr hk dX9_symbolAt_31
  · rw [if_neg c1] at h
    refine lv_iload_n hx hb dX9_symbolAt_4 rfl (lv_at hl 1 rfl) ?_
    refine lv_aload_n hx hb dX9_symbolAt_5 rfl (lv_at hl 0 rfl) ?_
    refine js_gI C hT cfX9 t0 1 (by decide) rfl lk_X9_15 dX9_symbolAt_6 ?_
    refine lv_icmp_ge (tgt := 30) hx hb dX9_symbolAt_9 (by decide) (fun c2 => ?_) (fun c2 => ?_)
    · rw [if_pos c2] at h
      refine lv_iconst (v := 0) hx hb dX9_symbolAt_30 (by decide) ?_
      obtain ⟨rfl, rfl⟩ := js_rt h
      exact js_iret C hT hr hk dX9_symbolAt_31
    · rw [if_neg c2] at h
      refine lv_iload_n hx hb dX9_symbolAt_12 rfl (lv_at hl 1 rfl) ?_
      refine lv_aload_n hx hb dX9_symbolAt_13 rfl (lv_at hl 0 rfl) ?_
      refine js_gR C hT cfX9 t0 0 (by decide) (q := 20) rfl (by decide) lk_X9_9 dX9_symbolAt_14 (fun t3a => ?_)
      refine js_alen C hT t3a (Or.inl rfl) dX9_symbolAt_17 ?_
      refine lv_icmp_ge (tgt := 30) hx hb dX9_symbolAt_18 (by decide) (fun c4 => ?_) (fun c4 => ?_)
      · rw [if_pos c4] at h
        refine lv_iconst (v := 0) hx hb dX9_symbolAt_30 (by decide) ?_
        obtain ⟨rfl, rfl⟩ := js_rt h
        exact js_iret C hT hr hk dX9_symbolAt_31
      · rw [if_neg c4] at h
        refine lv_aload_n hx hb dX9_symbolAt_21 rfl (lv_at hl 0 rfl) ?_
        refine js_gR C hT cfX9 t0 0 (by decide) (q := 20) rfl (by decide) lk_X9_9 dX9_symbolAt_22 (fun t5a => ?_)
        refine lv_iload_n hx hb dX9_symbolAt_25 rfl (lv_at hl 1 rfl) ?_
        obtain ⟨g6, h⟩ := gd_some _ h
        refine js_iald C hT t5a g6 dX9_symbolAt_26 ?_
        refine lv_goto (tgt := 31) hx hb dX9_symbolAt_27 (by decide) ?_
        obtain ⟨rfl, rfl⟩ := js_rt h
        exact js_iret C hT hr hk dX9_symbolAt_31
set_option maxHeartbeats 4000000 in
set_option maxRecDepth 20000 in
theorem wX9_orderAgainst_25b (C : js_C D g p m c cX9_orderAgainst 4 s args RX9) (hr : meth.sig.returnType = (some .int)) (hk : meth.locks = false) (rc25 : Nat → Nat → Int32 → js_S → Option (Int32 × js_S)) (hrc25 : ∀ (x0 : Nat) (x1 : Nat) (x2 : Int32) (σ : js_S) (r0 : Int32) (σ0 : js_S), rc25 x0 x1 x2 σ = some (r0, σ0) → ob_ nn 9 x0 → ob_ nn 9 x1 → js_at p l e 1 s m args below meth c D B g nn 25 4 [(0, .ref (B + x0)), (1, .ref (B + x1)), (2, .int x2)] [] σ (js_QI D B g nn r0 σ0)) : ∀ (x0 : Nat) (x1 : Nat) (x2 : Int32) (σ : js_S) (r0 : Int32) (σ0 : js_S), fX9_orderAgainst_25b fu rc25 x0 x1 x2 σ = some (r0, σ0) → ob_ nn 9 x0 → ob_ nn 9 x1 → js_at p l e 1 s m args below meth c D B g nn 25 4 [(0, .ref (B + x0)), (1, .ref (B + x1)), (2, .int x2)] [] σ (js_QI D B g nn r0 σ0) := by
  obtain ⟨hx, hb, hml, hown, ht, hK, hNw⟩ := id C
  intro x0 x1 x2 σ r0 σ0 h t0 t1 H locs hT ls hl
  unfold fX9_orderAgainst_25b at h
  refine lv_iload_n hx hb dX9_orderAgainst_25 rfl (lv_at hl 2 rfl) ?_
  refine lv_aload_n hx hb dX9_orderAgainst_26 rfl (lv_at hl 0 rfl) ?_
  refine js_gI C hT cfX9 t0 1 (by decide) rfl lk_X9_15 dX9_orderAgainst_27 ?_
  refine lv_icmp_ge (tgt := 59) hx hb dX9_orderAgainst_30 (by decide) (fun c1 => ?_) (fun c1 => ?_)
  · rw [if_pos c1] at h
    refine lv_iconst (v := 0) hx hb dX9_orderAgainst_59 (by decide) ?_
    obtain ⟨rfl, rfl⟩ := js_rt h
    exact js_iret C hT hr hk dX9_orderAgainst_60
  · rw [if_neg c1] at h
    refine lv_aload_n hx hb dX9_orderAgainst_33 rfl (lv_at hl 0 rfl) ?_
    refine lv_iload_n hx hb dX9_orderAgainst_34 rfl (lv_at hl 2 rfl) ?_
    obtain ⟨r2, σ2, hc2, h⟩ := bd_some h
    refine js_backI hT (js_runV C hT cfX9 t0 rfl mfX9_symbolAt lk_X9_23 (kX9_symbolAt t0 hc2) ⟨Nat.le_of_ble_eq_true rfl, Nat.le_of_ble_eq_true rfl⟩ rfl hl.1 rfl (Nat.le_of_ble_eq_true rfl) ⟨Nat.zero_le _, Nat.zero_le _⟩ dX9_orderAgainst_35) (fun H locs hT => ?_)
    refine lv_aload_n hx hb dX9_orderAgainst_38 rfl (lv_at hl 1 rfl) ?_
    refine lv_iload_n hx hb dX9_orderAgainst_39 rfl (lv_at hl 2 rfl) ?_
    obtain ⟨r3, σ3, hc3, h⟩ := bd_some h
    refine js_backI hT (js_runV C hT cfX9 t1 rfl mfX9_symbolAt lk_X9_23 (kX9_symbolAt t1 hc3) ⟨Nat.le_of_ble_eq_true rfl, Nat.le_of_ble_eq_true rfl⟩ rfl hl.1 rfl (Nat.le_of_ble_eq_true rfl) ⟨Nat.zero_le _, Nat.zero_le _⟩ dX9_orderAgainst_40) (fun H locs hT => ?_)
    obtain ⟨r4, σ4, hc4, h⟩ := bd_some h
    refine js_backI hT (js_runS C hT mfJ6_compare_7cf53 lk_X9_33 (kJ6_compare_7cf53  hc4) ⟨Nat.le_of_ble_eq_true rfl, Nat.le_of_ble_eq_true rfl⟩ rfl hl.1 rfl (Nat.le_of_ble_eq_true rfl) ⟨Nat.zero_le _, Nat.zero_le _⟩ dX9_orderAgainst_43) (fun H locs hT => ?_)
    refine lv_istore_n (lv' := [(3, .int r4), (0, .ref (B + x0)), (1, .ref (B + x1)), (2, .int x2)]) hx hb dX9_orderAgainst_46 rfl hl (by decide) rfl (fun ls hl => ?_)
    refine lv_iload_n hx hb dX9_orderAgainst_47 rfl (lv_at hl 0 rfl) ?_
    refine lv_if_eq (tgt := 53) hx hb dX9_orderAgainst_48 (by decide) (fun c5 => ?_) (fun c5 => ?_)
    · rw [if_pos c5] at h
      refine lv_iinc (v := x2 + 1) (lv' := [(2, .int (x2 + 1)), (3, .int r4), (0, .ref (B + x0)), (1, .ref (B + x1))]) hx hb dX9_orderAgainst_53 hl (k := 3) rfl rfl (by decide) rfl (fun ls hl => ?_)
      refine lv_goto (tgt := 25) hx hb dX9_orderAgainst_56 (by decide) ?_
      exact hrc25 _ _ _ _ _ _ h t0 t1 H locs hT ls (lv_sub hl [2, 3, 0] rfl)
    · rw [if_neg c5] at h
      refine lv_iload_n hx hb dX9_orderAgainst_51 rfl (lv_at hl 0 rfl) ?_
      obtain ⟨rfl, rfl⟩ := js_rt h
      exact js_iret C hT hr hk dX9_orderAgainst_52
set_option maxHeartbeats 4000000 in
set_option maxRecDepth 20000 in
theorem wX9_orderAgainst_25 (C : js_C D g p m c cX9_orderAgainst 4 s args RX9) (hr : meth.sig.returnType = (some .int)) (hk : meth.locks = false) : ∀ (k : Nat), ∀ (x0 : Nat) (x1 : Nat) (x2 : Int32) (σ : js_S) (r0 : Int32) (σ0 : js_S), fX9_orderAgainst_25 fu k x0 x1 x2 σ = some (r0, σ0) → ob_ nn 9 x0 → ob_ nn 9 x1 → js_at p l e 1 s m args below meth c D B g nn 25 4 [(0, .ref (B + x0)), (1, .ref (B + x1)), (2, .int x2)] [] σ (js_QI D B g nn r0 σ0) := by
  intro k
  induction k with
  | zero =>
    intro x0 x1 x2 σ r0 σ0 h
    cases h
  | succ k ih =>
    intro x0 x1 x2 σ r0 σ0 h
    exact wX9_orderAgainst_25b C hr hk (fX9_orderAgainst_25 fu k) ih x0 x1 x2 σ r0 σ0 h
set_option maxHeartbeats 4000000 in
set_option maxRecDepth 20000 in
theorem kX9_orderAgainst {x0 : Nat} {x1 : Nat} {σ σ0 : js_S} {r0 : Int32} (t0 : ob_ nn 9 x0) (t1 : ob_ nn 9 x1) (h : fX9_orderAgainst fu x0 x1 σ = some (r0, σ0)) : js_M l D B g nn yX9_orderAgainst cX9_orderAgainst 4 (some .int) 1 [.ref (B + x0), .ref (B + x1)] σ (js_QI D B g nn r0 σ0) := by
  refine js_enter (by decide) (Nat.le_of_ble_eq_true rfl) ?_
  intro p e s m args below meth c C hr hk ls hl hT
  have hl : lv_has ls 4 [(0, .ref (B + x0)), (1, .ref (B + x1))] := hl
  obtain ⟨hx, hb, hml, hown, ht, hK, hNw⟩ := id C
  obtain ⟨H, eH⟩ : ∃ H, H = s.heap := ⟨_, rfl⟩
  obtain ⟨locs, eL⟩ : ∃ z : List Loc, z = [] := ⟨_, rfl⟩
  rw [← eH, ← eL]
  rw [← eH, ← eL] at hT
  clear eH eL
  unfold fX9_orderAgainst at h
  refine lv_aload_n hx hb dX9_orderAgainst_0 rfl (lv_at hl 0 rfl) ?_
  refine js_gI C hT cfX9 t0 1 (by decide) rfl lk_X9_15 dX9_orderAgainst_1 ?_
  refine lv_aload_n hx hb dX9_orderAgainst_4 rfl (lv_at hl 1 rfl) ?_
  refine js_gI C hT cfX9 t1 1 (by decide) rfl lk_X9_15 dX9_orderAgainst_5 ?_
  refine lv_icmp_eq (tgt := 23) hx hb dX9_orderAgainst_8 (by decide) (fun c1 => ?_) (fun c1 => ?_)
  · rw [if_pos c1] at h
    refine lv_iconst (v := 0) hx hb dX9_orderAgainst_23 (by decide) ?_
    refine lv_istore_n (lv' := [(2, .int 0), (0, .ref (B + x0)), (1, .ref (B + x1))]) hx hb dX9_orderAgainst_24 rfl hl (by decide) rfl (fun ls hl => ?_)
    exact wX9_orderAgainst_25 C hr hk _ _ _ _ _ _ _ h t0 t1 H locs hT ls (lv_sub hl [1, 2, 0] rfl)
  · rw [if_neg c1] at h
    refine lv_aload_n hx hb dX9_orderAgainst_11 rfl (lv_at hl 0 rfl) ?_
    refine js_gI C hT cfX9 t0 1 (by decide) rfl lk_X9_15 dX9_orderAgainst_12 ?_
    refine lv_aload_n hx hb dX9_orderAgainst_15 rfl (lv_at hl 1 rfl) ?_
    refine js_gI C hT cfX9 t1 1 (by decide) rfl lk_X9_15 dX9_orderAgainst_16 ?_
    obtain ⟨r2, σ2, hc2, h⟩ := bd_some h
    refine js_backI hT (js_runS C hT mfJ6_compare_7cf53 lk_X9_33 (kJ6_compare_7cf53  hc2) ⟨Nat.le_of_ble_eq_true rfl, Nat.le_of_ble_eq_true rfl⟩ rfl hl.1 rfl (Nat.le_of_ble_eq_true rfl) ⟨Nat.zero_le _, Nat.zero_le _⟩ dX9_orderAgainst_19) (fun H locs hT => ?_)
    obtain ⟨rfl, rfl⟩ := js_rt h
    exact js_iret C hT hr hk dX9_orderAgainst_22
set_option maxHeartbeats 4000000 in
set_option maxRecDepth 20000 in
theorem wX3_discover_49 (C : js_C D g p m c cX3_discover 4 s args RX3) (hr : meth.sig.returnType = none) (hk : meth.locks = false) : ∀ (x0 : Nat) (x1 : Nat) (σ : js_S) (r0 : Unit) (σ0 : js_S), fX3_discover_49 fu x0 x1 σ = some (r0, σ0) → ob_ nn 3 x0 → ob_ nn 9 x1 → js_at p l e 2 s m args below meth c D B g nn 49 4 [(0, .ref (B + x0)), (1, .ref (B + x1))] [] σ (js_QV D B g nn σ0) := by
  obtain ⟨hx, hb, hml, hown, ht, hK, hNw⟩ := id C
  intro x0 x1 σ r0 σ0 h t0 t1 H locs hT ls hl
  unfold fX3_discover_49 at h
  refine lv_aload_n hx hb dX3_discover_49 rfl (lv_at hl 0 rfl) ?_
  refine js_gI C hT cfX3 t0 5 (by decide) rfl lk_X3_36 dX3_discover_50 ?_
  refine lv_bipush (v := 30) hx hb dX3_discover_53 (by decide) ?_
  refine lv_icmp_ge (tgt := 67) hx hb dX3_discover_55 (by decide) (fun c1 => ?_) (fun c1 => ?_)
  · rw [if_pos c1] at h
    obtain ⟨rfl, rfl⟩ := js_rt h
    exact js_vret C hT hr hk dX3_discover_67
  · rw [if_neg c1] at h
    refine lv_aload_n hx hb dX3_discover_58 rfl (lv_at hl 0 rfl) ?_
    refine lv_aload_n hx hb dX3_discover_59 rfl (lv_at hl 1 rfl) ?_
    refine lv_aload_n hx hb dX3_discover_60 rfl (lv_at hl 0 rfl) ?_
    refine js_gI C hT cfX3 t0 5 (by decide) rfl lk_X3_36 dX3_discover_61 ?_
    obtain ⟨z2, σ2, hc2, h⟩ := bd_some h
    refine js_backV hT (js_runV C hT cfX3 t0 rfl mfX3_insert lk_X3_83 (kX3_insert t0 t1 hc2) ⟨Nat.le_of_ble_eq_true rfl, Nat.le_of_ble_eq_true rfl⟩ rfl hl.1 rfl (Nat.le_of_ble_eq_true rfl) ⟨Nat.zero_le _, Nat.zero_le _⟩ dX3_discover_64) (fun H locs hT => ?_)
    obtain ⟨rfl, rfl⟩ := js_rt h
    exact js_vret C hT hr hk dX3_discover_67
set_option maxHeartbeats 4000000 in
set_option maxRecDepth 20000 in
theorem wX3_discover_2b (C : js_C D g p m c cX3_discover 4 s args RX3) (hr : meth.sig.returnType = none) (hk : meth.locks = false) (rc2 : Nat → Nat → Int32 → js_S → Option (Unit × js_S)) (hrc2 : ∀ (x0 : Nat) (x1 : Nat) (x2 : Int32) (σ : js_S) (r0 : Unit) (σ0 : js_S), rc2 x0 x1 x2 σ = some (r0, σ0) → ob_ nn 3 x0 → ob_ nn 9 x1 → js_at p l e 2 s m args below meth c D B g nn 2 4 [(0, .ref (B + x0)), (1, .ref (B + x1)), (2, .int x2)] [] σ (js_QV D B g nn σ0)) : ∀ (x0 : Nat) (x1 : Nat) (x2 : Int32) (σ : js_S) (r0 : Unit) (σ0 : js_S), fX3_discover_2b fu rc2 x0 x1 x2 σ = some (r0, σ0) → ob_ nn 3 x0 → ob_ nn 9 x1 → js_at p l e 2 s m args below meth c D B g nn 2 4 [(0, .ref (B + x0)), (1, .ref (B + x1)), (2, .int x2)] [] σ (js_QV D B g nn σ0) := by
  obtain ⟨hx, hb, hml, hown, ht, hK, hNw⟩ := id C
  intro x0 x1 x2 σ r0 σ0 h t0 t1 H locs hT ls hl
  unfold fX3_discover_2b at h
  refine lv_iload_n hx hb dX3_discover_2 rfl (lv_at hl 2 rfl) ?_
  refine lv_aload_n hx hb dX3_discover_3 rfl (lv_at hl 0 rfl) ?_
  refine js_gI C hT cfX3 t0 5 (by decide) rfl lk_X3_36 dX3_discover_4 ?_
  refine lv_icmp_ge (tgt := 49) hx hb dX3_discover_7 (by decide) (fun c1 => ?_) (fun c1 => ?_)
  · rw [if_pos c1] at h
    exact wX3_discover_49 C hr hk _ _ _ _ _ h t0 t1 H locs hT ls (lv_sub hl [0, 1] rfl)
  · rw [if_neg c1] at h
    refine lv_iload_n hx hb dX3_discover_10 rfl (lv_at hl 2 rfl) ?_
    refine lv_bipush (v := 30) hx hb dX3_discover_11 (by decide) ?_
    refine lv_icmp_ge (tgt := 49) hx hb dX3_discover_13 (by decide) (fun c2 => ?_) (fun c2 => ?_)
    · rw [if_pos c2] at h
      exact wX3_discover_49 C hr hk _ _ _ _ _ h t0 t1 H locs hT ls (lv_sub hl [0, 1] rfl)
    · rw [if_neg c2] at h
      refine lv_aload_n hx hb dX3_discover_16 rfl (lv_at hl 1 rfl) ?_
      refine lv_aload_n hx hb dX3_discover_17 rfl (lv_at hl 0 rfl) ?_
      refine js_gR C hT cfX3 t0 0 (by decide) (q := 23) rfl (by decide) lk_X3_13 dX3_discover_18 (fun t3a => ?_)
      refine lv_iload_n hx hb dX3_discover_21 rfl (lv_at hl 2 rfl) ?_
      obtain ⟨g4, h⟩ := gd_some _ h
      refine js_aald C hT t3a g4 dX3_discover_22 (fun t4a => ?_)
      obtain ⟨r5, σ5, hc5, h⟩ := bd_some h
      refine js_backI hT (js_runV C hT cfX9 t1 rfl mfX9_orderAgainst lk_X3_79 (kX9_orderAgainst t1 t4a hc5) ⟨Nat.le_of_ble_eq_true rfl, Nat.le_of_ble_eq_true rfl⟩ rfl hl.1 rfl (Nat.le_of_ble_eq_true rfl) ⟨Nat.zero_le _, Nat.zero_le _⟩ dX3_discover_23) (fun H locs hT => ?_)
      refine lv_istore_n (lv' := [(3, .int r5), (0, .ref (B + x0)), (1, .ref (B + x1)), (2, .int x2)]) hx hb dX3_discover_26 rfl hl (by decide) rfl (fun ls hl => ?_)
      refine lv_iload_n hx hb dX3_discover_27 rfl (lv_at hl 0 rfl) ?_
      refine lv_if_ne (tgt := 32) hx hb dX3_discover_28 (by decide) (fun c6 => ?_) (fun c6 => ?_)
      · rw [if_neg c6] at h
        refine lv_iload_n hx hb dX3_discover_32 rfl (lv_at hl 0 rfl) ?_
        refine lv_if_ge (tgt := 43) hx hb dX3_discover_33 (by decide) (fun c7 => ?_) (fun c7 => ?_)
        · rw [if_pos c7] at h
          refine lv_iinc (v := x2 + 1) (lv' := [(2, .int (x2 + 1)), (3, .int r5), (0, .ref (B + x0)), (1, .ref (B + x1))]) hx hb dX3_discover_43 hl (k := 3) rfl rfl (by decide) rfl (fun ls hl => ?_)
          refine lv_goto (tgt := 2) hx hb dX3_discover_46 (by decide) ?_
          exact hrc2 _ _ _ _ _ _ h t0 t1 H locs hT ls (lv_sub hl [2, 3, 0] rfl)
        · rw [if_neg c7] at h
          refine lv_aload_n hx hb dX3_discover_36 rfl (lv_at hl 1 rfl) ?_
          refine lv_aload_n hx hb dX3_discover_37 rfl (lv_at hl 2 rfl) ?_
          refine lv_iload_n hx hb dX3_discover_38 rfl (lv_at hl 3 rfl) ?_
          obtain ⟨z8, σ8, hc8, h⟩ := bd_some h
          refine js_backV hT (js_runV C hT cfX3 t0 rfl mfX3_insert lk_X3_83 (kX3_insert t0 t1 hc8) ⟨Nat.le_of_ble_eq_true rfl, Nat.le_of_ble_eq_true rfl⟩ rfl hl.1 rfl (Nat.le_of_ble_eq_true rfl) ⟨Nat.zero_le _, Nat.zero_le _⟩ dX3_discover_39) (fun H locs hT => ?_)
          obtain ⟨rfl, rfl⟩ := js_rt h
          exact js_vret C hT hr hk dX3_discover_42
      · rw [if_pos c6] at h
        obtain ⟨rfl, rfl⟩ := js_rt h
        exact js_vret C hT hr hk dX3_discover_31
set_option maxHeartbeats 4000000 in
set_option maxRecDepth 20000 in
theorem wX3_discover_2 (C : js_C D g p m c cX3_discover 4 s args RX3) (hr : meth.sig.returnType = none) (hk : meth.locks = false) : ∀ (k : Nat), ∀ (x0 : Nat) (x1 : Nat) (x2 : Int32) (σ : js_S) (r0 : Unit) (σ0 : js_S), fX3_discover_2 fu k x0 x1 x2 σ = some (r0, σ0) → ob_ nn 3 x0 → ob_ nn 9 x1 → js_at p l e 2 s m args below meth c D B g nn 2 4 [(0, .ref (B + x0)), (1, .ref (B + x1)), (2, .int x2)] [] σ (js_QV D B g nn σ0) := by
  intro k
  induction k with
  | zero =>
    intro x0 x1 x2 σ r0 σ0 h
    cases h
  | succ k ih =>
    intro x0 x1 x2 σ r0 σ0 h
    exact wX3_discover_2b C hr hk (fX3_discover_2 fu k) ih x0 x1 x2 σ r0 σ0 h
set_option maxHeartbeats 4000000 in
set_option maxRecDepth 20000 in
theorem kX3_discover {x0 : Nat} {x1 : Nat} {σ σ0 : js_S} {r0 : Unit} (t0 : ob_ nn 3 x0) (t1 : ob_ nn 9 x1) (h : fX3_discover fu x0 x1 σ = some (r0, σ0)) : js_M l D B g nn yX3_discover cX3_discover 4 none 2 [.ref (B + x0), .ref (B + x1)] σ (js_QV D B g nn σ0) := by
  refine js_enter (by decide) (Nat.le_of_ble_eq_true rfl) ?_
  intro p e s m args below meth c C hr hk ls hl hT
  have hl : lv_has ls 4 [(0, .ref (B + x0)), (1, .ref (B + x1))] := hl
  obtain ⟨hx, hb, hml, hown, ht, hK, hNw⟩ := id C
  obtain ⟨H, eH⟩ : ∃ H, H = s.heap := ⟨_, rfl⟩
  obtain ⟨locs, eL⟩ : ∃ z : List Loc, z = [] := ⟨_, rfl⟩
  rw [← eH, ← eL]
  rw [← eH, ← eL] at hT
  clear eH eL
  unfold fX3_discover at h
  refine lv_iconst (v := 0) hx hb dX3_discover_0 (by decide) ?_
  refine lv_istore_n (lv' := [(2, .int 0), (0, .ref (B + x0)), (1, .ref (B + x1))]) hx hb dX3_discover_1 rfl hl (by decide) rfl (fun ls hl => ?_)
  exact wX3_discover_2 C hr hk _ _ _ _ _ _ _ h t0 t1 H locs hT ls (lv_sub hl [1, 2, 0] rfl)
set_option maxHeartbeats 4000000 in
set_option maxRecDepth 20000 in
theorem wX3_noteNormalForm_32 (C : js_C D g p m c cX3_noteNormalForm 1 s args RX3) (hr : meth.sig.returnType = none) (hk : meth.locks = false) : ∀ (x0 : Nat) (σ : js_S) (r0 : Unit) (σ0 : js_S), fX3_noteNormalForm_32 fu x0 σ = some (r0, σ0) → ob_ nn 3 x0 → js_at p l e 2 s m args below meth c D B g nn 32 1 [(0, .ref (B + x0))] [] σ (js_QV D B g nn σ0) := by
  obtain ⟨hx, hb, hml, hown, ht, hK, hNw⟩ := id C
  intro x0 σ r0 σ0 h t0 H locs hT ls hl
  unfold fX3_noteNormalForm_32 at h
  refine lv_aload_n hx hb dX3_noteNormalForm_32 rfl (lv_at hl 0 rfl) ?_
  refine lv_dup hx hb dX3_noteNormalForm_33 rfl ?_
  refine js_gI C hT cfX3 t0 7 (by decide) rfl lk_X3_43 dX3_noteNormalForm_34 ?_
  refine lv_iconst (v := 1) hx hb dX3_noteNormalForm_37 (by decide) ?_
  refine lv_iadd hx hb dX3_noteNormalForm_38 ?_
  obtain ⟨σ1, e1, h⟩ := lt_some h
  refine js_pI C hT cfX3 t0 7 (by decide) rfl rfl rfl rfl lk_X3_43 dX3_noteNormalForm_39 (fun H locs hT => ?_)
  rw [e1] at hT
  obtain ⟨rfl, rfl⟩ := js_rt h
  exact js_vret C hT hr hk dX3_noteNormalForm_42
set_option maxHeartbeats 4000000 in
set_option maxRecDepth 20000 in
theorem wX3_noteNormalForm_21 (C : js_C D g p m c cX3_noteNormalForm 1 s args RX3) (hr : meth.sig.returnType = none) (hk : meth.locks = false) : ∀ (x0 : Nat) (σ : js_S) (r0 : Unit) (σ0 : js_S), fX3_noteNormalForm_21 fu x0 σ = some (r0, σ0) → ob_ nn 3 x0 → js_at p l e 2 s m args below meth c D B g nn 21 1 [(0, .ref (B + x0))] [] σ (js_QV D B g nn σ0) := by
  obtain ⟨hx, hb, hml, hown, ht, hK, hNw⟩ := id C
  intro x0 σ r0 σ0 h t0 H locs hT ls hl
  unfold fX3_noteNormalForm_21 at h
  refine lv_aload_n hx hb dX3_noteNormalForm_21 rfl (lv_at hl 0 rfl) ?_
  refine js_gR C hT cfX3 t0 4 (by decide) (q := 9) rfl (by decide) lk_X3_29 dX3_noteNormalForm_22 (fun t1a => ?_)
  refine lv_aload_n hx hb dX3_noteNormalForm_25 rfl (lv_at hl 0 rfl) ?_
  refine js_gR C hT cfX3 t0 3 (by decide) (q := 9) rfl (by decide) lk_X3_26 dX3_noteNormalForm_26 (fun t2a => ?_)
  obtain ⟨z3, σ3, hc3, h⟩ := bd_some h
  refine js_backV hT (js_runV C hT cfX9 t1a rfl mfX9_copyFrom lk_X3_64 (kX9_copyFrom t1a t2a hc3) ⟨Nat.le_of_ble_eq_true rfl, Nat.le_of_ble_eq_true rfl⟩ rfl hl.1 rfl (Nat.le_of_ble_eq_true rfl) ⟨Nat.zero_le _, Nat.zero_le _⟩ dX3_noteNormalForm_29) (fun H locs hT => ?_)
  exact wX3_noteNormalForm_32 C hr hk _ _ _ _ h t0 H locs hT ls (lv_sub hl [0] rfl)
set_option maxHeartbeats 4000000 in
set_option maxRecDepth 20000 in
theorem kX3_noteNormalForm {x0 : Nat} {σ σ0 : js_S} {r0 : Unit} (t0 : ob_ nn 3 x0) (h : fX3_noteNormalForm fu x0 σ = some (r0, σ0)) : js_M l D B g nn yX3_noteNormalForm cX3_noteNormalForm 1 none 2 [.ref (B + x0)] σ (js_QV D B g nn σ0) := by
  refine js_enter (by decide) (Nat.le_of_ble_eq_true rfl) ?_
  intro p e s m args below meth c C hr hk ls hl hT
  have hl : lv_has ls 1 [(0, .ref (B + x0))] := hl
  obtain ⟨hx, hb, hml, hown, ht, hK, hNw⟩ := id C
  obtain ⟨H, eH⟩ : ∃ H, H = s.heap := ⟨_, rfl⟩
  obtain ⟨locs, eL⟩ : ∃ z : List Loc, z = [] := ⟨_, rfl⟩
  rw [← eH, ← eL]
  rw [← eH, ← eL] at hT
  clear eH eL
  unfold fX3_noteNormalForm at h
  refine lv_aload_n hx hb dX3_noteNormalForm_0 rfl (lv_at hl 0 rfl) ?_
  refine js_gI C hT cfX3 t0 7 (by decide) rfl lk_X3_43 dX3_noteNormalForm_1 ?_
  refine lv_if_eq (tgt := 21) hx hb dX3_noteNormalForm_4 (by decide) (fun c1 => ?_) (fun c1 => ?_)
  · rw [if_pos c1] at h
    exact wX3_noteNormalForm_21 C hr hk _ _ _ _ h t0 H locs hT ls (lv_sub hl [0] rfl)
  · rw [if_neg c1] at h
    refine lv_aload_n hx hb dX3_noteNormalForm_7 rfl (lv_at hl 0 rfl) ?_
    refine js_gR C hT cfX3 t0 3 (by decide) (q := 9) rfl (by decide) lk_X3_26 dX3_noteNormalForm_8 (fun t2a => ?_)
    refine lv_aload_n hx hb dX3_noteNormalForm_11 rfl (lv_at hl 0 rfl) ?_
    refine js_gR C hT cfX3 t0 4 (by decide) (q := 9) rfl (by decide) lk_X3_29 dX3_noteNormalForm_12 (fun t3a => ?_)
    obtain ⟨r4, σ4, hc4, h⟩ := bd_some h
    refine js_backI hT (js_runV C hT cfX9 t2a rfl mfX9_orderAgainst lk_X3_79 (kX9_orderAgainst t2a t3a hc4) ⟨Nat.le_of_ble_eq_true rfl, Nat.le_of_ble_eq_true rfl⟩ rfl hl.1 rfl (Nat.le_of_ble_eq_true rfl) ⟨Nat.zero_le _, Nat.zero_le _⟩ dX3_noteNormalForm_15) (fun H locs hT => ?_)
    refine lv_if_ge (tgt := 32) hx hb dX3_noteNormalForm_18 (by decide) (fun c5 => ?_) (fun c5 => ?_)
    · rw [if_pos c5] at h
      exact wX3_noteNormalForm_32 C hr hk _ _ _ _ h t0 H locs hT ls (lv_sub hl [0] rfl)
    · rw [if_neg c5] at h
      exact wX3_noteNormalForm_21 C hr hk _ _ _ _ h t0 H locs hT ls (lv_sub hl [0] rfl)
set_option maxHeartbeats 4000000 in
set_option maxRecDepth 20000 in
theorem kX11_variableNumber {x0 : Int32} {σ σ0 : js_S} {r0 : Int32} (h : fX11_variableNumber fu x0 σ = some (r0, σ0)) : js_M l D B g nn yX11_variableNumber cX11_variableNumber 1 (some .int) 0 [.int x0] σ (js_QI D B g nn r0 σ0) := by
  refine js_enter (by decide) (Nat.le_of_ble_eq_true rfl) ?_
  intro p e s m args below meth c C hr hk ls hl hT
  have hl : lv_has ls 1 [(0, .int x0)] := hl
  obtain ⟨hx, hb, hml, hown, ht, hK, hNw⟩ := id C
  obtain ⟨H, eH⟩ : ∃ H, H = s.heap := ⟨_, rfl⟩
  obtain ⟨locs, eL⟩ : ∃ z : List Loc, z = [] := ⟨_, rfl⟩
  rw [← eH, ← eL]
  rw [← eH, ← eL] at hT
  clear eH eL
  unfold fX11_variableNumber at h
  refine lv_iload_n hx hb dX11_variableNumber_0 rfl (lv_at hl 0 rfl) ?_
  by_cases c1 : x0 = 119
  · rw [if_pos c1] at h
    refine lv_tableIn (tgt := 32) hx hb dX11_variableNumber_1 (by rw [c1]; decide) (by rw [c1]; decide) (by rw [c1]; rfl) (by decide) ?_
    refine lv_iconst (v := 2) hx hb dX11_variableNumber_32 (by decide) ?_
    obtain ⟨rfl, rfl⟩ := js_rt h
    exact js_iret C hT hr hk dX11_variableNumber_33
  · rw [if_neg c1] at h
    by_cases c2 : x0 = 120
    · rw [if_pos c2] at h
      refine lv_tableIn (tgt := 28) hx hb dX11_variableNumber_1 (by rw [c2]; decide) (by rw [c2]; decide) (by rw [c2]; rfl) (by decide) ?_
      refine lv_iconst (v := 0) hx hb dX11_variableNumber_28 (by decide) ?_
      obtain ⟨rfl, rfl⟩ := js_rt h
      exact js_iret C hT hr hk dX11_variableNumber_29
    · rw [if_neg c2] at h
      by_cases c3 : x0 = 121
      · rw [if_pos c3] at h
        refine lv_tableIn (tgt := 30) hx hb dX11_variableNumber_1 (by rw [c3]; decide) (by rw [c3]; decide) (by rw [c3]; rfl) (by decide) ?_
        refine lv_iconst (v := 1) hx hb dX11_variableNumber_30 (by decide) ?_
        obtain ⟨rfl, rfl⟩ := js_rt h
        exact js_iret C hT hr hk dX11_variableNumber_31
      · rw [if_neg c3] at h
        refine lv_tableOut (tgt := 34) hx hb dX11_variableNumber_1 (js_sw (x := x0) (lo := 119) (hi := 121) (fun v h1 h2 => ?_)) (by decide) ?_
        · exact js_sw119_121 c1 c2 c3 h1 h2
        · skip
          refine lv_iconst (v := (-1)) hx hb dX11_variableNumber_34 (by decide) ?_
          obtain ⟨rfl, rfl⟩ := js_rt h
          exact js_iret C hT hr hk dX11_variableNumber_35
set_option maxHeartbeats 4000000 in
set_option maxRecDepth 20000 in
theorem kX11_isVariable {x0 : Int32} {σ σ0 : js_S} {r0 : Int32} (h : fX11_isVariable fu x0 σ = some (r0, σ0)) : js_M l D B g nn yX11_isVariable cX11_isVariable 1 (some .boolean) 1 [.int x0] σ (js_QI D B g nn r0 σ0) := by
  refine js_enter (by decide) (Nat.le_of_ble_eq_true rfl) ?_
  intro p e s m args below meth c C hr hk ls hl hT
  have hl : lv_has ls 1 [(0, .int x0)] := hl
  obtain ⟨hx, hb, hml, hown, ht, hK, hNw⟩ := id C
  obtain ⟨H, eH⟩ : ∃ H, H = s.heap := ⟨_, rfl⟩
  obtain ⟨locs, eL⟩ : ∃ z : List Loc, z = [] := ⟨_, rfl⟩
  rw [← eH, ← eL]
  rw [← eH, ← eL] at hT
  clear eH eL
  unfold fX11_isVariable at h
  refine lv_iload_n hx hb dX11_isVariable_0 rfl (lv_at hl 0 rfl) ?_
  obtain ⟨r1, σ1, hc1, h⟩ := bd_some h
  refine js_backI hT (js_runS C hT mfX11_variableNumber lk_X11_355 (kX11_variableNumber  hc1) ⟨Nat.le_of_ble_eq_true rfl, Nat.le_of_ble_eq_true rfl⟩ rfl hl.1 rfl (Nat.le_of_ble_eq_true rfl) ⟨Nat.zero_le _, Nat.zero_le _⟩ dX11_isVariable_1) (fun H locs hT => ?_)
  refine lv_if_lt (tgt := 11) hx hb dX11_isVariable_4 (by decide) (fun c2 => ?_) (fun c2 => ?_)
  · rw [if_pos c2] at h
    refine lv_iconst (v := 0) hx hb dX11_isVariable_11 (by decide) ?_
    obtain ⟨rfl, rfl⟩ := js_rt h
    exact js_zret C hT hr hk rfl dX11_isVariable_12
  · rw [if_neg c2] at h
    refine lv_iconst (v := 1) hx hb dX11_isVariable_7 (by decide) ?_
    refine lv_goto (tgt := 12) hx hb dX11_isVariable_8 (by decide) ?_
    obtain ⟨rfl, rfl⟩ := js_rt h
    exact js_zret C hT hr hk rfl dX11_isVariable_12
set_option maxHeartbeats 4000000 in
set_option maxRecDepth 20000 in
theorem kX6_right {x0 : Nat} {x1 : Int32} {σ σ0 : js_S} {r0 : Nat} (t0 : ob_ nn 6 x0) (h : fX6_right fu x0 x1 σ = some (r0, σ0)) : js_M l D B g nn yX6_right cX6_right 2 (some (.object "DependencyPairAnalyzer$Term")) 0 [.ref (B + x0), .int x1] σ (js_QR D B g nn 9 r0 σ0) := by
  refine js_enter (by decide) (Nat.le_of_ble_eq_true rfl) ?_
  intro p e s m args below meth c C hr hk ls hl hT
  have hl : lv_has ls 2 [(0, .ref (B + x0)), (1, .int x1)] := hl
  obtain ⟨hx, hb, hml, hown, ht, hK, hNw⟩ := id C
  obtain ⟨H, eH⟩ : ∃ H, H = s.heap := ⟨_, rfl⟩
  obtain ⟨locs, eL⟩ : ∃ z : List Loc, z = [] := ⟨_, rfl⟩
  rw [← eH, ← eL]
  rw [← eH, ← eL] at hT
  clear eH eL
  unfold fX6_right at h
  refine lv_iload_n hx hb dX6_right_0 rfl (lv_at hl 1 rfl) ?_
  refine lv_if_lt (tgt := 22) hx hb dX6_right_1 (by decide) (fun c1 => ?_) (fun c1 => ?_)
  · rw [if_pos c1] at h
    refine lv_aload_n hx hb dX6_right_22 rfl (lv_at hl 0 rfl) ?_
    refine js_gR C hT cfX6 t0 4 (by decide) (q := 9) rfl (by decide) lk_X6_31 dX6_right_23 (fun t2a => ?_)
    obtain ⟨rfl, rfl⟩ := js_rt h
    exact js_aret C hT t2a hr hk dX6_right_26
  · rw [if_neg c1] at h
    refine lv_iload_n hx hb dX6_right_4 rfl (lv_at hl 1 rfl) ?_
    refine lv_aload_n hx hb dX6_right_5 rfl (lv_at hl 0 rfl) ?_
    refine js_gR C hT cfX6 t0 2 (by decide) (q := 23) rfl (by decide) lk_X6_24 dX6_right_6 (fun t3a => ?_)
    refine js_alen C hT t3a (Or.inr (Or.inr (Or.inr rfl))) dX6_right_9 ?_
    refine lv_icmp_ge (tgt := 22) hx hb dX6_right_10 (by decide) (fun c4 => ?_) (fun c4 => ?_)
    · rw [if_pos c4] at h
      refine lv_aload_n hx hb dX6_right_22 rfl (lv_at hl 0 rfl) ?_
      refine js_gR C hT cfX6 t0 4 (by decide) (q := 9) rfl (by decide) lk_X6_31 dX6_right_23 (fun t5a => ?_)
      obtain ⟨rfl, rfl⟩ := js_rt h
      exact js_aret C hT t5a hr hk dX6_right_26
    · rw [if_neg c4] at h
      refine lv_aload_n hx hb dX6_right_13 rfl (lv_at hl 0 rfl) ?_
      refine js_gR C hT cfX6 t0 2 (by decide) (q := 23) rfl (by decide) lk_X6_24 dX6_right_14 (fun t6a => ?_)
      refine lv_iload_n hx hb dX6_right_17 rfl (lv_at hl 1 rfl) ?_
      obtain ⟨g7, h⟩ := gd_some _ h
      refine js_aald C hT t6a g7 dX6_right_18 (fun t7a => ?_)
      refine lv_goto (tgt := 26) hx hb dX6_right_19 (by decide) ?_
      obtain ⟨rfl, rfl⟩ := js_rt h
      exact js_aret C hT t7a hr hk dX6_right_26
set_option maxHeartbeats 4000000 in
set_option maxRecDepth 20000 in
theorem kX7_bindingOf {x0 : Nat} {x1 : Int32} {σ σ0 : js_S} {r0 : Int32} (t0 : ob_ nn 7 x0) (h : fX7_bindingOf fu x0 x1 σ = some (r0, σ0)) : js_M l D B g nn yX7_bindingOf cX7_bindingOf 2 (some .int) 0 [.ref (B + x0), .int x1] σ (js_QI D B g nn r0 σ0) := by
  refine js_enter (by decide) (Nat.le_of_ble_eq_true rfl) ?_
  intro p e s m args below meth c C hr hk ls hl hT
  have hl : lv_has ls 2 [(0, .ref (B + x0)), (1, .int x1)] := hl
  obtain ⟨hx, hb, hml, hown, ht, hK, hNw⟩ := id C
  obtain ⟨H, eH⟩ : ∃ H, H = s.heap := ⟨_, rfl⟩
  obtain ⟨locs, eL⟩ : ∃ z : List Loc, z = [] := ⟨_, rfl⟩
  rw [← eH, ← eL]
  rw [← eH, ← eL] at hT
  clear eH eL
  unfold fX7_bindingOf at h
  refine lv_iload_n hx hb dX7_bindingOf_0 rfl (lv_at hl 1 rfl) ?_
  refine lv_if_lt (tgt := 22) hx hb dX7_bindingOf_1 (by decide) (fun c1 => ?_) (fun c1 => ?_)
  · rw [if_pos c1] at h
    refine lv_iconst (v := (-1)) hx hb dX7_bindingOf_22 (by decide) ?_
    obtain ⟨rfl, rfl⟩ := js_rt h
    exact js_iret C hT hr hk dX7_bindingOf_23
  · rw [if_neg c1] at h
    refine lv_iload_n hx hb dX7_bindingOf_4 rfl (lv_at hl 1 rfl) ?_
    refine lv_aload_n hx hb dX7_bindingOf_5 rfl (lv_at hl 0 rfl) ?_
    refine js_gR C hT cfX7 t0 0 (by decide) (q := 20) rfl (by decide) lk_X7_9 dX7_bindingOf_6 (fun t2a => ?_)
    refine js_alen C hT t2a (Or.inl rfl) dX7_bindingOf_9 ?_
    refine lv_icmp_ge (tgt := 22) hx hb dX7_bindingOf_10 (by decide) (fun c3 => ?_) (fun c3 => ?_)
    · rw [if_pos c3] at h
      refine lv_iconst (v := (-1)) hx hb dX7_bindingOf_22 (by decide) ?_
      obtain ⟨rfl, rfl⟩ := js_rt h
      exact js_iret C hT hr hk dX7_bindingOf_23
    · rw [if_neg c3] at h
      refine lv_aload_n hx hb dX7_bindingOf_13 rfl (lv_at hl 0 rfl) ?_
      refine js_gR C hT cfX7 t0 0 (by decide) (q := 20) rfl (by decide) lk_X7_9 dX7_bindingOf_14 (fun t4a => ?_)
      refine lv_iload_n hx hb dX7_bindingOf_17 rfl (lv_at hl 1 rfl) ?_
      obtain ⟨g5, h⟩ := gd_some _ h
      refine js_iald C hT t4a g5 dX7_bindingOf_18 ?_
      refine lv_goto (tgt := 23) hx hb dX7_bindingOf_19 (by decide) ?_
      obtain ⟨rfl, rfl⟩ := js_rt h
      exact js_iret C hT hr hk dX7_bindingOf_23
set_option maxHeartbeats 4000000 in
set_option maxRecDepth 20000 in
theorem kX6_left {x0 : Nat} {x1 : Int32} {σ σ0 : js_S} {r0 : Nat} (t0 : ob_ nn 6 x0) (h : fX6_left fu x0 x1 σ = some (r0, σ0)) : js_M l D B g nn yX6_left cX6_left 2 (some (.object "DependencyPairAnalyzer$Term")) 0 [.ref (B + x0), .int x1] σ (js_QR D B g nn 9 r0 σ0) := by
  refine js_enter (by decide) (Nat.le_of_ble_eq_true rfl) ?_
  intro p e s m args below meth c C hr hk ls hl hT
  have hl : lv_has ls 2 [(0, .ref (B + x0)), (1, .int x1)] := hl
  obtain ⟨hx, hb, hml, hown, ht, hK, hNw⟩ := id C
  obtain ⟨H, eH⟩ : ∃ H, H = s.heap := ⟨_, rfl⟩
  obtain ⟨locs, eL⟩ : ∃ z : List Loc, z = [] := ⟨_, rfl⟩
  rw [← eH, ← eL]
  rw [← eH, ← eL] at hT
  clear eH eL
  unfold fX6_left at h
  refine lv_iload_n hx hb dX6_left_0 rfl (lv_at hl 1 rfl) ?_
  refine lv_if_lt (tgt := 22) hx hb dX6_left_1 (by decide) (fun c1 => ?_) (fun c1 => ?_)
  · rw [if_pos c1] at h
    refine lv_aload_n hx hb dX6_left_22 rfl (lv_at hl 0 rfl) ?_
    refine js_gR C hT cfX6 t0 4 (by decide) (q := 9) rfl (by decide) lk_X6_31 dX6_left_23 (fun t2a => ?_)
    obtain ⟨rfl, rfl⟩ := js_rt h
    exact js_aret C hT t2a hr hk dX6_left_26
  · rw [if_neg c1] at h
    refine lv_iload_n hx hb dX6_left_4 rfl (lv_at hl 1 rfl) ?_
    refine lv_aload_n hx hb dX6_left_5 rfl (lv_at hl 0 rfl) ?_
    refine js_gR C hT cfX6 t0 1 (by decide) (q := 23) rfl (by decide) lk_X6_20 dX6_left_6 (fun t3a => ?_)
    refine js_alen C hT t3a (Or.inr (Or.inr (Or.inr rfl))) dX6_left_9 ?_
    refine lv_icmp_ge (tgt := 22) hx hb dX6_left_10 (by decide) (fun c4 => ?_) (fun c4 => ?_)
    · rw [if_pos c4] at h
      refine lv_aload_n hx hb dX6_left_22 rfl (lv_at hl 0 rfl) ?_
      refine js_gR C hT cfX6 t0 4 (by decide) (q := 9) rfl (by decide) lk_X6_31 dX6_left_23 (fun t5a => ?_)
      obtain ⟨rfl, rfl⟩ := js_rt h
      exact js_aret C hT t5a hr hk dX6_left_26
    · rw [if_neg c4] at h
      refine lv_aload_n hx hb dX6_left_13 rfl (lv_at hl 0 rfl) ?_
      refine js_gR C hT cfX6 t0 1 (by decide) (q := 23) rfl (by decide) lk_X6_20 dX6_left_14 (fun t6a => ?_)
      refine lv_iload_n hx hb dX6_left_17 rfl (lv_at hl 1 rfl) ?_
      obtain ⟨g7, h⟩ := gd_some _ h
      refine js_aald C hT t6a g7 dX6_left_18 (fun t7a => ?_)
      refine lv_goto (tgt := 26) hx hb dX6_left_19 (by decide) ?_
      obtain ⟨rfl, rfl⟩ := js_rt h
      exact js_aret C hT t7a hr hk dX6_left_26
set_option maxHeartbeats 4000000 in
set_option maxRecDepth 20000 in
theorem wX7_unbind_2b (C : js_C D g p m c cX7_unbind 2 s args RX7) (hr : meth.sig.returnType = none) (hk : meth.locks = false) (rc2 : Nat → Int32 → js_S → Option (Unit × js_S)) (hrc2 : ∀ (x0 : Nat) (x1 : Int32) (σ : js_S) (r0 : Unit) (σ0 : js_S), rc2 x0 x1 σ = some (r0, σ0) → ob_ nn 7 x0 → js_at p l e 0 s m args below meth c D B g nn 2 2 [(0, .ref (B + x0)), (1, .int x1)] [] σ (js_QV D B g nn σ0)) : ∀ (x0 : Nat) (x1 : Int32) (σ : js_S) (r0 : Unit) (σ0 : js_S), fX7_unbind_2b fu rc2 x0 x1 σ = some (r0, σ0) → ob_ nn 7 x0 → js_at p l e 0 s m args below meth c D B g nn 2 2 [(0, .ref (B + x0)), (1, .int x1)] [] σ (js_QV D B g nn σ0) := by
  obtain ⟨hx, hb, hml, hown, ht, hK, hNw⟩ := id C
  intro x0 x1 σ r0 σ0 h t0 H locs hT ls hl
  unfold fX7_unbind_2b at h
  refine lv_iload_n hx hb dX7_unbind_2 rfl (lv_at hl 1 rfl) ?_
  refine lv_aload_n hx hb dX7_unbind_3 rfl (lv_at hl 0 rfl) ?_
  refine js_gR C hT cfX7 t0 0 (by decide) (q := 20) rfl (by decide) lk_X7_9 dX7_unbind_4 (fun t1a => ?_)
  refine js_alen C hT t1a (Or.inl rfl) dX7_unbind_7 ?_
  refine lv_icmp_ge (tgt := 24) hx hb dX7_unbind_8 (by decide) (fun c2 => ?_) (fun c2 => ?_)
  · rw [if_pos c2] at h
    obtain ⟨rfl, rfl⟩ := js_rt h
    exact js_vret C hT hr hk dX7_unbind_24
  · rw [if_neg c2] at h
    refine lv_aload_n hx hb dX7_unbind_11 rfl (lv_at hl 0 rfl) ?_
    refine js_gR C hT cfX7 t0 0 (by decide) (q := 20) rfl (by decide) lk_X7_9 dX7_unbind_12 (fun t3a => ?_)
    refine lv_iload_n hx hb dX7_unbind_15 rfl (lv_at hl 1 rfl) ?_
    refine lv_iconst (v := (-1)) hx hb dX7_unbind_16 (by decide) ?_
    obtain ⟨g4, h⟩ := gd_some _ h
    obtain ⟨σ4, e4, h⟩ := lt_some h
    refine js_iast C hT t3a g4 dX7_unbind_17 (fun H locs hT => ?_)
    rw [e4] at hT
    refine lv_iinc (v := x1 + 1) (lv' := [(1, .int (x1 + 1)), (0, .ref (B + x0))]) hx hb dX7_unbind_18 hl (k := 1) rfl rfl (by decide) rfl (fun ls hl => ?_)
    refine lv_goto (tgt := 2) hx hb dX7_unbind_21 (by decide) ?_
    exact hrc2 _ _ _ _ _ h t0 H locs hT ls (lv_sub hl [1, 0] rfl)
set_option maxHeartbeats 4000000 in
set_option maxRecDepth 20000 in
theorem wX7_unbind_2 (C : js_C D g p m c cX7_unbind 2 s args RX7) (hr : meth.sig.returnType = none) (hk : meth.locks = false) : ∀ (k : Nat), ∀ (x0 : Nat) (x1 : Int32) (σ : js_S) (r0 : Unit) (σ0 : js_S), fX7_unbind_2 fu k x0 x1 σ = some (r0, σ0) → ob_ nn 7 x0 → js_at p l e 0 s m args below meth c D B g nn 2 2 [(0, .ref (B + x0)), (1, .int x1)] [] σ (js_QV D B g nn σ0) := by
  intro k
  induction k with
  | zero =>
    intro x0 x1 σ r0 σ0 h
    cases h
  | succ k ih =>
    intro x0 x1 σ r0 σ0 h
    exact wX7_unbind_2b C hr hk (fX7_unbind_2 fu k) ih x0 x1 σ r0 σ0 h
set_option maxHeartbeats 4000000 in
set_option maxRecDepth 20000 in
theorem kX7_unbind {x0 : Nat} {σ σ0 : js_S} {r0 : Unit} (t0 : ob_ nn 7 x0) (h : fX7_unbind fu x0 σ = some (r0, σ0)) : js_M l D B g nn yX7_unbind cX7_unbind 2 none 0 [.ref (B + x0)] σ (js_QV D B g nn σ0) := by
  refine js_enter (by decide) (Nat.le_of_ble_eq_true rfl) ?_
  intro p e s m args below meth c C hr hk ls hl hT
  have hl : lv_has ls 2 [(0, .ref (B + x0))] := hl
  obtain ⟨hx, hb, hml, hown, ht, hK, hNw⟩ := id C
  obtain ⟨H, eH⟩ : ∃ H, H = s.heap := ⟨_, rfl⟩
  obtain ⟨locs, eL⟩ : ∃ z : List Loc, z = [] := ⟨_, rfl⟩
  rw [← eH, ← eL]
  rw [← eH, ← eL] at hT
  clear eH eL
  unfold fX7_unbind at h
  refine lv_iconst (v := 0) hx hb dX7_unbind_0 (by decide) ?_
  refine lv_istore_n (lv' := [(1, .int 0), (0, .ref (B + x0))]) hx hb dX7_unbind_1 rfl hl (by decide) rfl (fun ls hl => ?_)
  exact wX7_unbind_2 C hr hk _ _ _ _ _ _ h t0 H locs hT ls (lv_sub hl [1, 0] rfl)
set_option maxHeartbeats 4000000 in
set_option maxRecDepth 20000 in
theorem kX8_ofSymbol {x0 : Nat} {x1 : Int32} {σ σ0 : js_S} {r0 : Int32} (t0 : ob_ nn 8 x0) (h : fX8_ofSymbol fu x0 x1 σ = some (r0, σ0)) : js_M l D B g nn yX8_ofSymbol cX8_ofSymbol 2 (some .int) 0 [.ref (B + x0), .int x1] σ (js_QI D B g nn r0 σ0) := by
  refine js_enter (by decide) (Nat.le_of_ble_eq_true rfl) ?_
  intro p e s m args below meth c C hr hk ls hl hT
  have hl : lv_has ls 2 [(0, .ref (B + x0)), (1, .int x1)] := hl
  obtain ⟨hx, hb, hml, hown, ht, hK, hNw⟩ := id C
  obtain ⟨H, eH⟩ : ∃ H, H = s.heap := ⟨_, rfl⟩
  obtain ⟨locs, eL⟩ : ∃ z : List Loc, z = [] := ⟨_, rfl⟩
  rw [← eH, ← eL]
  rw [← eH, ← eL] at hT
  clear eH eL
  unfold fX8_ofSymbol at h
  refine lv_iload_n hx hb dX8_ofSymbol_0 rfl (lv_at hl 1 rfl) ?_
  refine lv_if_lt (tgt := 22) hx hb dX8_ofSymbol_1 (by decide) (fun c1 => ?_) (fun c1 => ?_)
  · rw [if_pos c1] at h
    refine lv_iconst (v := 0) hx hb dX8_ofSymbol_22 (by decide) ?_
    obtain ⟨rfl, rfl⟩ := js_rt h
    exact js_iret C hT hr hk dX8_ofSymbol_23
  · rw [if_neg c1] at h
    refine lv_iload_n hx hb dX8_ofSymbol_4 rfl (lv_at hl 1 rfl) ?_
    refine lv_aload_n hx hb dX8_ofSymbol_5 rfl (lv_at hl 0 rfl) ?_
    refine js_gR C hT cfX8 t0 0 (by decide) (q := 20) rfl (by decide) lk_X8_9 dX8_ofSymbol_6 (fun t2a => ?_)
    refine js_alen C hT t2a (Or.inl rfl) dX8_ofSymbol_9 ?_
    refine lv_icmp_ge (tgt := 22) hx hb dX8_ofSymbol_10 (by decide) (fun c3 => ?_) (fun c3 => ?_)
    · rw [if_pos c3] at h
      refine lv_iconst (v := 0) hx hb dX8_ofSymbol_22 (by decide) ?_
      obtain ⟨rfl, rfl⟩ := js_rt h
      exact js_iret C hT hr hk dX8_ofSymbol_23
    · rw [if_neg c3] at h
      refine lv_aload_n hx hb dX8_ofSymbol_13 rfl (lv_at hl 0 rfl) ?_
      refine js_gR C hT cfX8 t0 0 (by decide) (q := 20) rfl (by decide) lk_X8_9 dX8_ofSymbol_14 (fun t4a => ?_)
      refine lv_iload_n hx hb dX8_ofSymbol_17 rfl (lv_at hl 1 rfl) ?_
      obtain ⟨g5, h⟩ := gd_some _ h
      refine js_iald C hT t4a g5 dX8_ofSymbol_18 ?_
      refine lv_goto (tgt := 23) hx hb dX8_ofSymbol_19 (by decide) ?_
      obtain ⟨rfl, rfl⟩ := js_rt h
      exact js_iret C hT hr hk dX8_ofSymbol_23
set_option maxHeartbeats 4000000 in
set_option maxRecDepth 20000 in
theorem wX8_endOf_5b (C : js_C D g p m c cX8_endOf 5 s args RX8) (hr : meth.sig.returnType = (some .int)) (hk : meth.locks = false) (rc5 : Nat → Nat → Int32 → Int32 → js_S → Option (Int32 × js_S)) (hrc5 : ∀ (x0 : Nat) (x1 : Nat) (x3 : Int32) (x4 : Int32) (σ : js_S) (r0 : Int32) (σ0 : js_S), rc5 x0 x1 x3 x4 σ = some (r0, σ0) → ob_ nn 8 x0 → ob_ nn 9 x1 → js_at p l e 1 s m args below meth c D B g nn 5 5 [(0, .ref (B + x0)), (1, .ref (B + x1)), (3, .int x3), (4, .int x4)] [] σ (js_QI D B g nn r0 σ0)) : ∀ (x0 : Nat) (x1 : Nat) (x3 : Int32) (x4 : Int32) (σ : js_S) (r0 : Int32) (σ0 : js_S), fX8_endOf_5b fu rc5 x0 x1 x3 x4 σ = some (r0, σ0) → ob_ nn 8 x0 → ob_ nn 9 x1 → js_at p l e 1 s m args below meth c D B g nn 5 5 [(0, .ref (B + x0)), (1, .ref (B + x1)), (3, .int x3), (4, .int x4)] [] σ (js_QI D B g nn r0 σ0) := by
  obtain ⟨hx, hb, hml, hown, ht, hK, hNw⟩ := id C
  intro x0 x1 x3 x4 σ r0 σ0 h t0 t1 H locs hT ls hl
  unfold fX8_endOf_5b at h
  refine lv_iload hx hb dX8_endOf_5 (lv_at hl 3 rfl) ?_
  refine lv_aload_n hx hb dX8_endOf_7 rfl (lv_at hl 1 rfl) ?_
  refine js_gIN C hT cfX9 t1 1 (by decide) rfl lk_X8_21 dX8_endOf_8 ?_
  refine lv_icmp_ge (tgt := 39) hx hb dX8_endOf_11 (by decide) (fun c1 => ?_) (fun c1 => ?_)
  · rw [if_pos c1] at h
    refine lv_iload hx hb dX8_endOf_39 (lv_at hl 3 rfl) ?_
    obtain ⟨rfl, rfl⟩ := js_rt h
    exact js_iret C hT hr hk dX8_endOf_41
  · rw [if_neg c1] at h
    refine lv_iload_n hx hb dX8_endOf_14 rfl (lv_at hl 2 rfl) ?_
    refine lv_if_le (tgt := 39) hx hb dX8_endOf_15 (by decide) (fun c2 => ?_) (fun c2 => ?_)
    · rw [if_pos c2] at h
      refine lv_iload hx hb dX8_endOf_39 (lv_at hl 3 rfl) ?_
      obtain ⟨rfl, rfl⟩ := js_rt h
      exact js_iret C hT hr hk dX8_endOf_41
    · rw [if_neg c2] at h
      refine lv_iload_n hx hb dX8_endOf_18 rfl (lv_at hl 2 rfl) ?_
      refine lv_aload_n hx hb dX8_endOf_19 rfl (lv_at hl 0 rfl) ?_
      refine lv_aload_n hx hb dX8_endOf_20 rfl (lv_at hl 1 rfl) ?_
      refine lv_iload hx hb dX8_endOf_21 (lv_at hl 3 rfl) ?_
      obtain ⟨r3, σ3, hc3, h⟩ := bd_some h
      refine js_backI hT (js_runV C hT cfX9 t1 rfl mfX9_symbolAt lk_X8_27 (kX9_symbolAt t1 hc3) ⟨Nat.le_of_ble_eq_true rfl, Nat.le_of_ble_eq_true rfl⟩ rfl hl.1 rfl (Nat.le_of_ble_eq_true rfl) ⟨Nat.zero_le _, Nat.zero_le _⟩ dX8_endOf_23) (fun H locs hT => ?_)
      obtain ⟨r4, σ4, hc4, h⟩ := bd_some h
      refine js_backI hT (js_runV C hT cfX8 t0 rfl mfX8_ofSymbol lk_X8_31 (kX8_ofSymbol t0 hc4) ⟨Nat.le_of_ble_eq_true rfl, Nat.le_of_ble_eq_true rfl⟩ rfl hl.1 rfl (Nat.le_of_ble_eq_true rfl) ⟨Nat.zero_le _, Nat.zero_le _⟩ dX8_endOf_26) (fun H locs hT => ?_)
      refine lv_iconst (v := 1) hx hb dX8_endOf_29 (by decide) ?_
      refine lv_isub hx hb dX8_endOf_30 ?_
      refine lv_iadd hx hb dX8_endOf_31 ?_
      refine lv_istore_n (lv' := [(3, .int (x3 + (r4 - 1))), (0, .ref (B + x0)), (1, .ref (B + x1)), (4, .int x4)]) hx hb dX8_endOf_32 rfl hl (by decide) rfl (fun ls hl => ?_)
      refine lv_iinc (v := x4 + 1) (lv' := [(4, .int (x4 + 1)), (3, .int (x3 + (r4 - 1))), (0, .ref (B + x0)), (1, .ref (B + x1))]) hx hb dX8_endOf_33 hl (k := 3) rfl rfl (by decide) rfl (fun ls hl => ?_)
      refine lv_goto (tgt := 5) hx hb dX8_endOf_36 (by decide) ?_
      exact hrc5 _ _ _ _ _ _ _ h t0 t1 H locs hT ls (lv_sub hl [2, 3, 1, 0] rfl)
set_option maxHeartbeats 4000000 in
set_option maxRecDepth 20000 in
theorem wX8_endOf_5 (C : js_C D g p m c cX8_endOf 5 s args RX8) (hr : meth.sig.returnType = (some .int)) (hk : meth.locks = false) : ∀ (k : Nat), ∀ (x0 : Nat) (x1 : Nat) (x3 : Int32) (x4 : Int32) (σ : js_S) (r0 : Int32) (σ0 : js_S), fX8_endOf_5 fu k x0 x1 x3 x4 σ = some (r0, σ0) → ob_ nn 8 x0 → ob_ nn 9 x1 → js_at p l e 1 s m args below meth c D B g nn 5 5 [(0, .ref (B + x0)), (1, .ref (B + x1)), (3, .int x3), (4, .int x4)] [] σ (js_QI D B g nn r0 σ0) := by
  intro k
  induction k with
  | zero =>
    intro x0 x1 x3 x4 σ r0 σ0 h
    cases h
  | succ k ih =>
    intro x0 x1 x3 x4 σ r0 σ0 h
    exact wX8_endOf_5b C hr hk (fX8_endOf_5 fu k) ih x0 x1 x3 x4 σ r0 σ0 h
set_option maxHeartbeats 4000000 in
set_option maxRecDepth 20000 in
theorem kX8_endOf {x0 : Nat} {x1 : Nat} {x2 : Int32} {σ σ0 : js_S} {r0 : Int32} (t0 : ob_ nn 8 x0) (t1 : ob_ nn 9 x1) (h : fX8_endOf fu x0 x1 x2 σ = some (r0, σ0)) : js_M l D B g nn yX8_endOf cX8_endOf 5 (some .int) 1 [.ref (B + x0), .ref (B + x1), .int x2] σ (js_QI D B g nn r0 σ0) := by
  refine js_enter (by decide) (Nat.le_of_ble_eq_true rfl) ?_
  intro p e s m args below meth c C hr hk ls hl hT
  have hl : lv_has ls 5 [(0, .ref (B + x0)), (1, .ref (B + x1)), (2, .int x2)] := hl
  obtain ⟨hx, hb, hml, hown, ht, hK, hNw⟩ := id C
  obtain ⟨H, eH⟩ : ∃ H, H = s.heap := ⟨_, rfl⟩
  obtain ⟨locs, eL⟩ : ∃ z : List Loc, z = [] := ⟨_, rfl⟩
  rw [← eH, ← eL]
  rw [← eH, ← eL] at hT
  clear eH eL
  unfold fX8_endOf at h
  refine lv_iconst (v := 1) hx hb dX8_endOf_0 (by decide) ?_
  refine lv_istore_n (lv' := [(3, .int 1), (0, .ref (B + x0)), (1, .ref (B + x1)), (2, .int x2)]) hx hb dX8_endOf_1 rfl hl (by decide) rfl (fun ls hl => ?_)
  refine lv_iload_n hx hb dX8_endOf_2 rfl (lv_at hl 3 rfl) ?_
  refine lv_istore (lv' := [(4, .int x2), (3, .int 1), (0, .ref (B + x0)), (1, .ref (B + x1)), (2, .int x2)]) hx hb dX8_endOf_3 hl (by decide) rfl (fun ls hl => ?_)
  exact wX8_endOf_5 C hr hk _ _ _ _ _ _ _ _ h t0 t1 H locs hT ls (lv_sub hl [2, 3, 1, 0] rfl)
set_option maxHeartbeats 4000000 in
set_option maxRecDepth 20000 in
theorem wX8_sameSubterms_6b (C : js_C D g p m c cX8_sameSubterms 8 s args RX8) (hr : meth.sig.returnType = (some .boolean)) (hk : meth.locks = false) (rc6 : Nat → Nat → Int32 → Nat → Int32 → Int32 → Int32 → js_S → Option (Int32 × js_S)) (hrc6 : ∀ (x0 : Nat) (x1 : Nat) (x2 : Int32) (x3 : Nat) (x4 : Int32) (x5 : Int32) (x6 : Int32) (σ : js_S) (r0 : Int32) (σ0 : js_S), rc6 x0 x1 x2 x3 x4 x5 x6 σ = some (r0, σ0) → ob_ nn 8 x0 → ob_ nn 9 x1 → ob_ nn 9 x3 → js_at p l e 1 s m args below meth c D B g nn 6 8 [(0, .ref (B + x0)), (1, .ref (B + x1)), (2, .int x2), (3, .ref (B + x3)), (4, .int x4), (5, .int x5), (6, .int x6)] [] σ (js_QI D B g nn r0 σ0)) : ∀ (x0 : Nat) (x1 : Nat) (x2 : Int32) (x3 : Nat) (x4 : Int32) (x5 : Int32) (x6 : Int32) (σ : js_S) (r0 : Int32) (σ0 : js_S), fX8_sameSubterms_6b fu rc6 x0 x1 x2 x3 x4 x5 x6 σ = some (r0, σ0) → ob_ nn 8 x0 → ob_ nn 9 x1 → ob_ nn 9 x3 → js_at p l e 1 s m args below meth c D B g nn 6 8 [(0, .ref (B + x0)), (1, .ref (B + x1)), (2, .int x2), (3, .ref (B + x3)), (4, .int x4), (5, .int x5), (6, .int x6)] [] σ (js_QI D B g nn r0 σ0) := by
  obtain ⟨hx, hb, hml, hown, ht, hK, hNw⟩ := id C
  intro x0 x1 x2 x3 x4 x5 x6 σ r0 σ0 h t0 t1 t3 H locs hT ls hl
  unfold fX8_sameSubterms_6b at h
  refine lv_iload_n hx hb dX8_sameSubterms_6 rfl (lv_at hl 2 rfl) ?_
  refine lv_iload hx hb dX8_sameSubterms_7 (lv_at hl 6 rfl) ?_
  refine lv_iadd hx hb dX8_sameSubterms_9 ?_
  refine lv_aload_n hx hb dX8_sameSubterms_10 rfl (lv_at hl 1 rfl) ?_
  refine js_gIN C hT cfX9 t1 1 (by decide) rfl lk_X8_21 dX8_sameSubterms_11 ?_
  refine lv_icmp_ge (tgt := 67) hx hb dX8_sameSubterms_14 (by decide) (fun c1 => ?_) (fun c1 => ?_)
  · rw [if_pos c1] at h
    refine lv_iconst (v := 1) hx hb dX8_sameSubterms_67 (by decide) ?_
    obtain ⟨rfl, rfl⟩ := js_rt h
    exact js_zret C hT hr hk rfl dX8_sameSubterms_68
  · rw [if_neg c1] at h
    refine lv_iload hx hb dX8_sameSubterms_17 (lv_at hl 5 rfl) ?_
    refine lv_if_le (tgt := 67) hx hb dX8_sameSubterms_19 (by decide) (fun c2 => ?_) (fun c2 => ?_)
    · rw [if_pos c2] at h
      refine lv_iconst (v := 1) hx hb dX8_sameSubterms_67 (by decide) ?_
      obtain ⟨rfl, rfl⟩ := js_rt h
      exact js_zret C hT hr hk rfl dX8_sameSubterms_68
    · rw [if_neg c2] at h
      refine lv_aload_n hx hb dX8_sameSubterms_22 rfl (lv_at hl 1 rfl) ?_
      refine lv_iload_n hx hb dX8_sameSubterms_23 rfl (lv_at hl 2 rfl) ?_
      refine lv_iload hx hb dX8_sameSubterms_24 (lv_at hl 6 rfl) ?_
      refine lv_iadd hx hb dX8_sameSubterms_26 ?_
      obtain ⟨r3, σ3, hc3, h⟩ := bd_some h
      refine js_backI hT (js_runV C hT cfX9 t1 rfl mfX9_symbolAt lk_X8_27 (kX9_symbolAt t1 hc3) ⟨Nat.le_of_ble_eq_true rfl, Nat.le_of_ble_eq_true rfl⟩ rfl hl.1 rfl (Nat.le_of_ble_eq_true rfl) ⟨Nat.zero_le _, Nat.zero_le _⟩ dX8_sameSubterms_27) (fun H locs hT => ?_)
      refine lv_istore (lv' := [(7, .int r3), (0, .ref (B + x0)), (1, .ref (B + x1)), (2, .int x2), (3, .ref (B + x3)), (4, .int x4), (5, .int x5), (6, .int x6)]) hx hb dX8_sameSubterms_30 hl (by decide) rfl (fun ls hl => ?_)
      refine lv_iload hx hb dX8_sameSubterms_32 (lv_at hl 0 rfl) ?_
      refine lv_aload_n hx hb dX8_sameSubterms_34 rfl (lv_at hl 4 rfl) ?_
      refine lv_iload hx hb dX8_sameSubterms_35 (lv_at hl 5 rfl) ?_
      refine lv_iload hx hb dX8_sameSubterms_37 (lv_at hl 7 rfl) ?_
      refine lv_iadd hx hb dX8_sameSubterms_39 ?_
      obtain ⟨r4, σ4, hc4, h⟩ := bd_some h
      refine js_backI hT (js_runV C hT cfX9 t3 rfl mfX9_symbolAt lk_X8_27 (kX9_symbolAt t3 hc4) ⟨Nat.le_of_ble_eq_true rfl, Nat.le_of_ble_eq_true rfl⟩ rfl hl.1 rfl (Nat.le_of_ble_eq_true rfl) ⟨Nat.zero_le _, Nat.zero_le _⟩ dX8_sameSubterms_40) (fun H locs hT => ?_)
      refine lv_icmp_eq (tgt := 48) hx hb dX8_sameSubterms_43 (by decide) (fun c5 => ?_) (fun c5 => ?_)
      · rw [if_pos c5] at h
        refine lv_iload hx hb dX8_sameSubterms_48 (lv_at hl 6 rfl) ?_
        refine lv_aload_n hx hb dX8_sameSubterms_50 rfl (lv_at hl 1 rfl) ?_
        refine lv_iload hx hb dX8_sameSubterms_51 (lv_at hl 0 rfl) ?_
        obtain ⟨r6, σ6, hc6, h⟩ := bd_some h
        refine js_backI hT (js_runV C hT cfX8 t0 rfl mfX8_ofSymbol lk_X8_31 (kX8_ofSymbol t0 hc6) ⟨Nat.le_of_ble_eq_true rfl, Nat.le_of_ble_eq_true rfl⟩ rfl hl.1 rfl (Nat.le_of_ble_eq_true rfl) ⟨Nat.zero_le _, Nat.zero_le _⟩ dX8_sameSubterms_53) (fun H locs hT => ?_)
        refine lv_iconst (v := 1) hx hb dX8_sameSubterms_56 (by decide) ?_
        refine lv_isub hx hb dX8_sameSubterms_57 ?_
        refine lv_iadd hx hb dX8_sameSubterms_58 ?_
        refine lv_istore (lv' := [(5, .int (x5 + (r6 - 1))), (7, .int r3), (0, .ref (B + x0)), (1, .ref (B + x1)), (2, .int x2), (3, .ref (B + x3)), (4, .int x4), (6, .int x6)]) hx hb dX8_sameSubterms_59 hl (by decide) rfl (fun ls hl => ?_)
        refine lv_iinc (v := x6 + 1) (lv' := [(6, .int (x6 + 1)), (5, .int (x5 + (r6 - 1))), (7, .int r3), (0, .ref (B + x0)), (1, .ref (B + x1)), (2, .int x2), (3, .ref (B + x3)), (4, .int x4)]) hx hb dX8_sameSubterms_61 hl (k := 7) rfl rfl (by decide) rfl (fun ls hl => ?_)
        refine lv_goto (tgt := 6) hx hb dX8_sameSubterms_64 (by decide) ?_
        exact hrc6 _ _ _ _ _ _ _ _ _ _ h t0 t1 t3 H locs hT ls (lv_sub hl [3, 4, 5, 6, 7, 1, 0] rfl)
      · rw [if_neg c5] at h
        refine lv_iconst (v := 0) hx hb dX8_sameSubterms_46 (by decide) ?_
        obtain ⟨rfl, rfl⟩ := js_rt h
        exact js_zret C hT hr hk rfl dX8_sameSubterms_47
set_option maxHeartbeats 4000000 in
set_option maxRecDepth 20000 in
theorem wX8_sameSubterms_6 (C : js_C D g p m c cX8_sameSubterms 8 s args RX8) (hr : meth.sig.returnType = (some .boolean)) (hk : meth.locks = false) : ∀ (k : Nat), ∀ (x0 : Nat) (x1 : Nat) (x2 : Int32) (x3 : Nat) (x4 : Int32) (x5 : Int32) (x6 : Int32) (σ : js_S) (r0 : Int32) (σ0 : js_S), fX8_sameSubterms_6 fu k x0 x1 x2 x3 x4 x5 x6 σ = some (r0, σ0) → ob_ nn 8 x0 → ob_ nn 9 x1 → ob_ nn 9 x3 → js_at p l e 1 s m args below meth c D B g nn 6 8 [(0, .ref (B + x0)), (1, .ref (B + x1)), (2, .int x2), (3, .ref (B + x3)), (4, .int x4), (5, .int x5), (6, .int x6)] [] σ (js_QI D B g nn r0 σ0) := by
  intro k
  induction k with
  | zero =>
    intro x0 x1 x2 x3 x4 x5 x6 σ r0 σ0 h
    cases h
  | succ k ih =>
    intro x0 x1 x2 x3 x4 x5 x6 σ r0 σ0 h
    exact wX8_sameSubterms_6b C hr hk (fX8_sameSubterms_6 fu k) ih x0 x1 x2 x3 x4 x5 x6 σ r0 σ0 h
set_option maxHeartbeats 4000000 in
set_option maxRecDepth 20000 in
theorem kX8_sameSubterms {x0 : Nat} {x1 : Nat} {x2 : Int32} {x3 : Nat} {x4 : Int32} {σ σ0 : js_S} {r0 : Int32} (t0 : ob_ nn 8 x0) (t1 : ob_ nn 9 x1) (t3 : ob_ nn 9 x3) (h : fX8_sameSubterms fu x0 x1 x2 x3 x4 σ = some (r0, σ0)) : js_M l D B g nn yX8_sameSubterms cX8_sameSubterms 8 (some .boolean) 1 [.ref (B + x0), .ref (B + x1), .int x2, .ref (B + x3), .int x4] σ (js_QI D B g nn r0 σ0) := by
  refine js_enter (by decide) (Nat.le_of_ble_eq_true rfl) ?_
  intro p e s m args below meth c C hr hk ls hl hT
  have hl : lv_has ls 8 [(0, .ref (B + x0)), (1, .ref (B + x1)), (2, .int x2), (3, .ref (B + x3)), (4, .int x4)] := hl
  obtain ⟨hx, hb, hml, hown, ht, hK, hNw⟩ := id C
  obtain ⟨H, eH⟩ : ∃ H, H = s.heap := ⟨_, rfl⟩
  obtain ⟨locs, eL⟩ : ∃ z : List Loc, z = [] := ⟨_, rfl⟩
  rw [← eH, ← eL]
  rw [← eH, ← eL] at hT
  clear eH eL
  unfold fX8_sameSubterms at h
  refine lv_iconst (v := 1) hx hb dX8_sameSubterms_0 (by decide) ?_
  refine lv_istore (lv' := [(5, .int 1), (0, .ref (B + x0)), (1, .ref (B + x1)), (2, .int x2), (3, .ref (B + x3)), (4, .int x4)]) hx hb dX8_sameSubterms_1 hl (by decide) rfl (fun ls hl => ?_)
  refine lv_iconst (v := 0) hx hb dX8_sameSubterms_3 (by decide) ?_
  refine lv_istore (lv' := [(6, .int 0), (5, .int 1), (0, .ref (B + x0)), (1, .ref (B + x1)), (2, .int x2), (3, .ref (B + x3)), (4, .int x4)]) hx hb dX8_sameSubterms_4 hl (by decide) rfl (fun ls hl => ?_)
  exact wX8_sameSubterms_6 C hr hk _ _ _ _ _ _ _ _ _ _ _ h t0 t1 t3 H locs hT ls (lv_sub hl [2, 3, 4, 5, 6, 1, 0] rfl)
set_option maxHeartbeats 4000000 in
set_option maxRecDepth 20000 in
theorem wX7_ruleFits_134 (C : js_C D g p m c cX7_ruleFits 11 s args RX7) (hr : meth.sig.returnType = (some .boolean)) (hk : meth.locks = false) (rc18 : Nat → Nat → Nat → Nat → Int32 → Int32 → js_S → Option (Int32 × js_S)) (hrc18 : ∀ (x0 : Nat) (x1 : Nat) (x3 : Nat) (x5 : Nat) (x6 : Int32) (x7 : Int32) (σ : js_S) (r0 : Int32) (σ0 : js_S), rc18 x0 x1 x3 x5 x6 x7 σ = some (r0, σ0) → ob_ nn 7 x0 → ob_ nn 6 x1 → ob_ nn 9 x3 → ob_ nn 9 x5 → js_at p l e 2 s m args below meth c D B g nn 18 11 [(0, .ref (B + x0)), (1, .ref (B + x1)), (3, .ref (B + x3)), (5, .ref (B + x5)), (6, .int x6), (7, .int x7)] [] σ (js_QI D B g nn r0 σ0)) : ∀ (x0 : Nat) (x1 : Nat) (x3 : Nat) (x5 : Nat) (x6 : Int32) (x7 : Int32) (σ : js_S) (r0 : Int32) (σ0 : js_S), fX7_ruleFits_134 fu rc18 x0 x1 x3 x5 x6 x7 σ = some (r0, σ0) → ob_ nn 7 x0 → ob_ nn 6 x1 → ob_ nn 9 x3 → ob_ nn 9 x5 → js_at p l e 2 s m args below meth c D B g nn 134 11 [(0, .ref (B + x0)), (1, .ref (B + x1)), (3, .ref (B + x3)), (5, .ref (B + x5)), (6, .int x6), (7, .int x7)] [] σ (js_QI D B g nn r0 σ0) := by
  obtain ⟨hx, hb, hml, hown, ht, hK, hNw⟩ := id C
  intro x0 x1 x3 x5 x6 x7 σ r0 σ0 h t0 t1 t3 t5 H locs hT ls hl
  unfold fX7_ruleFits_134 at h
  refine lv_iinc (v := x7 + 1) (lv' := [(7, .int (x7 + 1)), (0, .ref (B + x0)), (1, .ref (B + x1)), (3, .ref (B + x3)), (5, .ref (B + x5)), (6, .int x6)]) hx hb dX7_ruleFits_134 hl (k := 5) rfl rfl (by decide) rfl (fun ls hl => ?_)
  refine lv_goto (tgt := 18) hx hb dX7_ruleFits_137 (by decide) ?_
  exact hrc18 _ _ _ _ _ _ _ _ _ h t0 t1 t3 t5 H locs hT ls (lv_sub hl [1, 2, 3, 4, 5, 0] rfl)
set_option maxHeartbeats 4000000 in
set_option maxRecDepth 20000 in
theorem wX7_ruleFits_115 (C : js_C D g p m c cX7_ruleFits 11 s args RX7) (hr : meth.sig.returnType = (some .boolean)) (hk : meth.locks = false) (rc18 : Nat → Nat → Nat → Nat → Int32 → Int32 → js_S → Option (Int32 × js_S)) (hrc18 : ∀ (x0 : Nat) (x1 : Nat) (x3 : Nat) (x5 : Nat) (x6 : Int32) (x7 : Int32) (σ : js_S) (r0 : Int32) (σ0 : js_S), rc18 x0 x1 x3 x5 x6 x7 σ = some (r0, σ0) → ob_ nn 7 x0 → ob_ nn 6 x1 → ob_ nn 9 x3 → ob_ nn 9 x5 → js_at p l e 2 s m args below meth c D B g nn 18 11 [(0, .ref (B + x0)), (1, .ref (B + x1)), (3, .ref (B + x3)), (5, .ref (B + x5)), (6, .int x6), (7, .int x7)] [] σ (js_QI D B g nn r0 σ0)) : ∀ (x0 : Nat) (x1 : Nat) (x3 : Nat) (x5 : Nat) (x6 : Int32) (x7 : Int32) (x8 : Int32) (σ : js_S) (r0 : Int32) (σ0 : js_S), fX7_ruleFits_115 fu rc18 x0 x1 x3 x5 x6 x7 x8 σ = some (r0, σ0) → ob_ nn 7 x0 → ob_ nn 6 x1 → ob_ nn 9 x3 → ob_ nn 9 x5 → js_at p l e 2 s m args below meth c D B g nn 115 11 [(0, .ref (B + x0)), (1, .ref (B + x1)), (3, .ref (B + x3)), (5, .ref (B + x5)), (6, .int x6), (7, .int x7), (8, .int x8)] [] σ (js_QI D B g nn r0 σ0) := by
  obtain ⟨hx, hb, hml, hown, ht, hK, hNw⟩ := id C
  intro x0 x1 x3 x5 x6 x7 x8 σ r0 σ0 h t0 t1 t3 t5 H locs hT ls hl
  unfold fX7_ruleFits_115 at h
  refine lv_aload_n hx hb dX7_ruleFits_115 rfl (lv_at hl 2 rfl) ?_
  refine lv_iload hx hb dX7_ruleFits_116 (lv_at hl 4 rfl) ?_
  obtain ⟨r1, σ1, hc1, h⟩ := bd_some h
  refine js_backI hT (js_runV C hT cfX9 t3 rfl mfX9_symbolAt lk_X7_35 (kX9_symbolAt t3 hc1) ⟨Nat.le_of_ble_eq_true rfl, Nat.le_of_ble_eq_true rfl⟩ rfl hl.1 rfl (Nat.le_of_ble_eq_true rfl) ⟨Nat.zero_le _, Nat.zero_le _⟩ dX7_ruleFits_118) (fun H locs hT => ?_)
  refine lv_iload hx hb dX7_ruleFits_121 (lv_at hl 6 rfl) ?_
  refine lv_icmp_ne (tgt := 132) hx hb dX7_ruleFits_123 (by decide) (fun c2 => ?_) (fun c2 => ?_)
  · rw [if_neg c2] at h
    refine lv_iconst (v := 0) hx hb dX7_ruleFits_132 (by decide) ?_
    obtain ⟨rfl, rfl⟩ := js_rt h
    exact js_zret C hT hr hk rfl dX7_ruleFits_133
  · rw [if_pos c2] at h
    refine lv_iinc (v := x6 + 1) (lv' := [(6, .int (x6 + 1)), (0, .ref (B + x0)), (1, .ref (B + x1)), (3, .ref (B + x3)), (5, .ref (B + x5)), (7, .int x7), (8, .int x8)]) hx hb dX7_ruleFits_126 hl (k := 4) rfl rfl (by decide) rfl (fun ls hl => ?_)
    refine lv_goto (tgt := 134) hx hb dX7_ruleFits_129 (by decide) ?_
    exact wX7_ruleFits_134 C hr hk rc18 hrc18 _ _ _ _ _ _ _ _ _ h t0 t1 t3 t5 H locs hT ls (lv_sub hl [1, 2, 3, 4, 0, 5] rfl)
set_option maxHeartbeats 4000000 in
set_option maxRecDepth 20000 in
theorem wX7_ruleFits_91 (C : js_C D g p m c cX7_ruleFits 11 s args RX7) (hr : meth.sig.returnType = (some .boolean)) (hk : meth.locks = false) (rc18 : Nat → Nat → Nat → Nat → Int32 → Int32 → js_S → Option (Int32 × js_S)) (hrc18 : ∀ (x0 : Nat) (x1 : Nat) (x3 : Nat) (x5 : Nat) (x6 : Int32) (x7 : Int32) (σ : js_S) (r0 : Int32) (σ0 : js_S), rc18 x0 x1 x3 x5 x6 x7 σ = some (r0, σ0) → ob_ nn 7 x0 → ob_ nn 6 x1 → ob_ nn 9 x3 → ob_ nn 9 x5 → js_at p l e 2 s m args below meth c D B g nn 18 11 [(0, .ref (B + x0)), (1, .ref (B + x1)), (3, .ref (B + x3)), (5, .ref (B + x5)), (6, .int x6), (7, .int x7)] [] σ (js_QI D B g nn r0 σ0)) : ∀ (x0 : Nat) (x1 : Nat) (x3 : Nat) (x5 : Nat) (x6 : Int32) (x7 : Int32) (x9 : Int32) (σ : js_S) (r0 : Int32) (σ0 : js_S), fX7_ruleFits_91 fu rc18 x0 x1 x3 x5 x6 x7 x9 σ = some (r0, σ0) → ob_ nn 7 x0 → ob_ nn 6 x1 → ob_ nn 9 x3 → ob_ nn 9 x5 → js_at p l e 2 s m args below meth c D B g nn 91 11 [(0, .ref (B + x0)), (1, .ref (B + x1)), (3, .ref (B + x3)), (5, .ref (B + x5)), (6, .int x6), (7, .int x7), (9, .int x9)] [] σ (js_QI D B g nn r0 σ0) := by
  obtain ⟨hx, hb, hml, hown, ht, hK, hNw⟩ := id C
  intro x0 x1 x3 x5 x6 x7 x9 σ r0 σ0 h t0 t1 t3 t5 H locs hT ls hl
  unfold fX7_ruleFits_91 at h
  refine lv_aload_n hx hb dX7_ruleFits_91 rfl (lv_at hl 0 rfl) ?_
  refine js_gR C hT cfX7 t0 0 (by decide) (q := 20) rfl (by decide) lk_X7_9 dX7_ruleFits_92 (fun t1a => ?_)
  refine lv_iload hx hb dX7_ruleFits_95 (lv_at hl 6 rfl) ?_
  refine lv_iload hx hb dX7_ruleFits_97 (lv_at hl 4 rfl) ?_
  obtain ⟨g2, h⟩ := gd_some _ h
  obtain ⟨σ2, e2, h⟩ := lt_some h
  refine js_iast C hT t1a g2 dX7_ruleFits_99 (fun H locs hT => ?_)
  rw [e2] at hT
  refine lv_aload_n hx hb dX7_ruleFits_100 rfl (lv_at hl 1 rfl) ?_
  refine js_gRN C hT cfX6 t1 0 (by decide) (q := 8) rfl (by decide) lk_X7_42 dX7_ruleFits_101 (fun t3a => ?_)
  refine lv_aload_n hx hb dX7_ruleFits_104 rfl (lv_at hl 2 rfl) ?_
  refine lv_iload hx hb dX7_ruleFits_105 (lv_at hl 4 rfl) ?_
  obtain ⟨r4, σ4, hc4, h⟩ := bd_some h
  refine js_backI hT (js_runV C hT cfX8 t3a rfl mfX8_endOf lk_X7_52 (kX8_endOf t3a t3 hc4) ⟨Nat.le_of_ble_eq_true rfl, Nat.le_of_ble_eq_true rfl⟩ rfl hl.1 rfl (Nat.le_of_ble_eq_true rfl) ⟨Nat.zero_le _, Nat.zero_le _⟩ dX7_ruleFits_107) (fun H locs hT => ?_)
  refine lv_istore (lv' := [(6, .int r4), (0, .ref (B + x0)), (1, .ref (B + x1)), (3, .ref (B + x3)), (5, .ref (B + x5)), (7, .int x7), (9, .int x9)]) hx hb dX7_ruleFits_110 hl (by decide) rfl (fun ls hl => ?_)
  refine lv_goto (tgt := 134) hx hb dX7_ruleFits_112 (by decide) ?_
  exact wX7_ruleFits_134 C hr hk rc18 hrc18 _ _ _ _ _ _ _ _ _ h t0 t1 t3 t5 H locs hT ls (lv_sub hl [1, 2, 3, 4, 0, 5] rfl)
set_option maxHeartbeats 4000000 in
set_option maxRecDepth 20000 in
theorem wX7_ruleFits_18b (C : js_C D g p m c cX7_ruleFits 11 s args RX7) (hr : meth.sig.returnType = (some .boolean)) (hk : meth.locks = false) (rc18 : Nat → Nat → Nat → Nat → Int32 → Int32 → js_S → Option (Int32 × js_S)) (hrc18 : ∀ (x0 : Nat) (x1 : Nat) (x3 : Nat) (x5 : Nat) (x6 : Int32) (x7 : Int32) (σ : js_S) (r0 : Int32) (σ0 : js_S), rc18 x0 x1 x3 x5 x6 x7 σ = some (r0, σ0) → ob_ nn 7 x0 → ob_ nn 6 x1 → ob_ nn 9 x3 → ob_ nn 9 x5 → js_at p l e 2 s m args below meth c D B g nn 18 11 [(0, .ref (B + x0)), (1, .ref (B + x1)), (3, .ref (B + x3)), (5, .ref (B + x5)), (6, .int x6), (7, .int x7)] [] σ (js_QI D B g nn r0 σ0)) : ∀ (x0 : Nat) (x1 : Nat) (x3 : Nat) (x5 : Nat) (x6 : Int32) (x7 : Int32) (σ : js_S) (r0 : Int32) (σ0 : js_S), fX7_ruleFits_18b fu rc18 x0 x1 x3 x5 x6 x7 σ = some (r0, σ0) → ob_ nn 7 x0 → ob_ nn 6 x1 → ob_ nn 9 x3 → ob_ nn 9 x5 → js_at p l e 2 s m args below meth c D B g nn 18 11 [(0, .ref (B + x0)), (1, .ref (B + x1)), (3, .ref (B + x3)), (5, .ref (B + x5)), (6, .int x6), (7, .int x7)] [] σ (js_QI D B g nn r0 σ0) := by
  obtain ⟨hx, hb, hml, hown, ht, hK, hNw⟩ := id C
  intro x0 x1 x3 x5 x6 x7 σ r0 σ0 h t0 t1 t3 t5 H locs hT ls hl
  unfold fX7_ruleFits_18b at h
  refine lv_iload hx hb dX7_ruleFits_18 (lv_at hl 5 rfl) ?_
  refine lv_aload hx hb dX7_ruleFits_20 (lv_at hl 3 rfl) ?_
  refine js_gIN C hT cfX9 t5 1 (by decide) rfl lk_X7_31 dX7_ruleFits_22 ?_
  refine lv_icmp_ge (tgt := 140) hx hb dX7_ruleFits_25 (by decide) (fun c1 => ?_) (fun c1 => ?_)
  · rw [if_pos c1] at h
    refine lv_iconst (v := 1) hx hb dX7_ruleFits_140 (by decide) ?_
    obtain ⟨rfl, rfl⟩ := js_rt h
    exact js_zret C hT hr hk rfl dX7_ruleFits_141
  · rw [if_neg c1] at h
    refine lv_aload hx hb dX7_ruleFits_28 (lv_at hl 3 rfl) ?_
    refine lv_iload hx hb dX7_ruleFits_30 (lv_at hl 5 rfl) ?_
    obtain ⟨r2, σ2, hc2, h⟩ := bd_some h
    refine js_backI hT (js_runV C hT cfX9 t5 rfl mfX9_symbolAt lk_X7_35 (kX9_symbolAt t5 hc2) ⟨Nat.le_of_ble_eq_true rfl, Nat.le_of_ble_eq_true rfl⟩ rfl hl.1 rfl (Nat.le_of_ble_eq_true rfl) ⟨Nat.zero_le _, Nat.zero_le _⟩ dX7_ruleFits_32) (fun H locs hT => ?_)
    refine lv_istore (lv' := [(8, .int r2), (0, .ref (B + x0)), (1, .ref (B + x1)), (3, .ref (B + x3)), (5, .ref (B + x5)), (6, .int x6), (7, .int x7)]) hx hb dX7_ruleFits_35 hl (by decide) rfl (fun ls hl => ?_)
    refine lv_iload hx hb dX7_ruleFits_37 (lv_at hl 0 rfl) ?_
    obtain ⟨r3, σ3, hc3, h⟩ := bd_some h
    refine js_backI hT (js_runSN C hT mfX11_variableNumber lk_X7_39 (kX11_variableNumber  hc3) ⟨Nat.le_of_ble_eq_true rfl, Nat.le_of_ble_eq_true rfl⟩ rfl hl.1 rfl (Nat.le_of_ble_eq_true rfl) ⟨Nat.zero_le _, Nat.zero_le _⟩ dX7_ruleFits_39) (fun H locs hT => ?_)
    refine lv_istore (lv' := [(9, .int r3), (8, .int r2), (0, .ref (B + x0)), (1, .ref (B + x1)), (3, .ref (B + x3)), (5, .ref (B + x5)), (6, .int x6), (7, .int x7)]) hx hb dX7_ruleFits_42 hl (by decide) rfl (fun ls hl => ?_)
    refine lv_iload hx hb dX7_ruleFits_44 (lv_at hl 0 rfl) ?_
    refine lv_if_lt (tgt := 115) hx hb dX7_ruleFits_46 (by decide) (fun c4 => ?_) (fun c4 => ?_)
    · rw [if_pos c4] at h
      exact wX7_ruleFits_115 C hr hk rc18 hrc18 _ _ _ _ _ _ _ _ _ _ h t0 t1 t3 t5 H locs hT ls (lv_sub hl [2, 3, 4, 5, 6, 7, 1] rfl)
    · rw [if_neg c4] at h
      refine lv_iload hx hb dX7_ruleFits_49 (lv_at hl 0 rfl) ?_
      refine lv_aload_n hx hb dX7_ruleFits_51 rfl (lv_at hl 2 rfl) ?_
      refine js_gR C hT cfX7 t0 0 (by decide) (q := 20) rfl (by decide) lk_X7_9 dX7_ruleFits_52 (fun t5a => ?_)
      refine js_alen C hT t5a (Or.inl rfl) dX7_ruleFits_55 ?_
      refine lv_icmp_ge (tgt := 115) hx hb dX7_ruleFits_56 (by decide) (fun c6 => ?_) (fun c6 => ?_)
      · rw [if_pos c6] at h
        exact wX7_ruleFits_115 C hr hk rc18 hrc18 _ _ _ _ _ _ _ _ _ _ h t0 t1 t3 t5 H locs hT ls (lv_sub hl [2, 3, 4, 5, 6, 7, 1] rfl)
      · rw [if_neg c6] at h
        refine lv_aload_n hx hb dX7_ruleFits_59 rfl (lv_at hl 2 rfl) ?_
        refine js_gR C hT cfX7 t0 0 (by decide) (q := 20) rfl (by decide) lk_X7_9 dX7_ruleFits_60 (fun t7a => ?_)
        refine lv_iload hx hb dX7_ruleFits_63 (lv_at hl 0 rfl) ?_
        obtain ⟨g8, h⟩ := gd_some _ h
        refine js_iald C hT t7a g8 dX7_ruleFits_65 ?_
        refine lv_istore (lv' := [(10, .int (σ3.1 (σ3.2.2 x0 0) (Int32.toNatClampNeg r3))), (9, .int r3), (8, .int r2), (0, .ref (B + x0)), (1, .ref (B + x1)), (3, .ref (B + x3)), (5, .ref (B + x5)), (6, .int x6), (7, .int x7)]) hx hb dX7_ruleFits_66 hl (by decide) rfl (fun ls hl => ?_)
        refine lv_iload hx hb dX7_ruleFits_68 (lv_at hl 0 rfl) ?_
        refine lv_if_lt (tgt := 91) hx hb dX7_ruleFits_70 (by decide) (fun c9 => ?_) (fun c9 => ?_)
        · rw [if_pos c9] at h
          exact wX7_ruleFits_91 C hr hk rc18 hrc18 _ _ _ _ _ _ _ _ _ _ h t0 t1 t3 t5 H locs hT ls (lv_sub hl [3, 4, 5, 6, 7, 8, 1] rfl)
        · rw [if_neg c9] at h
          refine lv_aload_n hx hb dX7_ruleFits_73 rfl (lv_at hl 4 rfl) ?_
          refine js_gRN C hT cfX6 t1 0 (by decide) (q := 8) rfl (by decide) lk_X7_42 dX7_ruleFits_74 (fun t10a => ?_)
          refine lv_aload_n hx hb dX7_ruleFits_77 rfl (lv_at hl 5 rfl) ?_
          refine lv_iload hx hb dX7_ruleFits_78 (lv_at hl 0 rfl) ?_
          refine lv_aload_n hx hb dX7_ruleFits_80 rfl (lv_at hl 5 rfl) ?_
          refine lv_iload hx hb dX7_ruleFits_81 (lv_at hl 7 rfl) ?_
          obtain ⟨r11, σ11, hc11, h⟩ := bd_some h
          refine js_backI hT (js_runV C hT cfX8 t10a rfl mfX8_sameSubterms lk_X7_46 (kX8_sameSubterms t10a t3 t3 hc11) ⟨Nat.le_of_ble_eq_true rfl, Nat.le_of_ble_eq_true rfl⟩ rfl hl.1 rfl (Nat.le_of_ble_eq_true rfl) ⟨Nat.zero_le _, Nat.zero_le _⟩ dX7_ruleFits_83) (fun H locs hT => ?_)
          refine lv_if_ne (tgt := 91) hx hb dX7_ruleFits_86 (by decide) (fun c12 => ?_) (fun c12 => ?_)
          · rw [if_neg c12] at h
            exact wX7_ruleFits_91 C hr hk rc18 hrc18 _ _ _ _ _ _ _ _ _ _ h t0 t1 t3 t5 H locs hT ls (lv_sub hl [3, 4, 5, 6, 7, 8, 1] rfl)
          · rw [if_pos c12] at h
            refine lv_iconst (v := 0) hx hb dX7_ruleFits_89 (by decide) ?_
            obtain ⟨rfl, rfl⟩ := js_rt h
            exact js_zret C hT hr hk rfl dX7_ruleFits_90
set_option maxHeartbeats 4000000 in
set_option maxRecDepth 20000 in
theorem wX7_ruleFits_18 (C : js_C D g p m c cX7_ruleFits 11 s args RX7) (hr : meth.sig.returnType = (some .boolean)) (hk : meth.locks = false) : ∀ (k : Nat), ∀ (x0 : Nat) (x1 : Nat) (x3 : Nat) (x5 : Nat) (x6 : Int32) (x7 : Int32) (σ : js_S) (r0 : Int32) (σ0 : js_S), fX7_ruleFits_18 fu k x0 x1 x3 x5 x6 x7 σ = some (r0, σ0) → ob_ nn 7 x0 → ob_ nn 6 x1 → ob_ nn 9 x3 → ob_ nn 9 x5 → js_at p l e 2 s m args below meth c D B g nn 18 11 [(0, .ref (B + x0)), (1, .ref (B + x1)), (3, .ref (B + x3)), (5, .ref (B + x5)), (6, .int x6), (7, .int x7)] [] σ (js_QI D B g nn r0 σ0) := by
  intro k
  induction k with
  | zero =>
    intro x0 x1 x3 x5 x6 x7 σ r0 σ0 h
    cases h
  | succ k ih =>
    intro x0 x1 x3 x5 x6 x7 σ r0 σ0 h
    exact wX7_ruleFits_18b C hr hk (fX7_ruleFits_18 fu k) ih x0 x1 x3 x5 x6 x7 σ r0 σ0 h
set_option maxHeartbeats 4000000 in
set_option maxRecDepth 20000 in
theorem kX7_ruleFits {x0 : Nat} {x1 : Nat} {x2 : Int32} {x3 : Nat} {x4 : Int32} {σ σ0 : js_S} {r0 : Int32} (t0 : ob_ nn 7 x0) (t1 : ob_ nn 6 x1) (t3 : ob_ nn 9 x3) (h : fX7_ruleFits fu x0 x1 x2 x3 x4 σ = some (r0, σ0)) : js_M l D B g nn yX7_ruleFits cX7_ruleFits 11 (some .boolean) 2 [.ref (B + x0), .ref (B + x1), .int x2, .ref (B + x3), .int x4] σ (js_QI D B g nn r0 σ0) := by
  refine js_enter (by decide) (Nat.le_of_ble_eq_true rfl) ?_
  intro p e s m args below meth c C hr hk ls hl hT
  have hl : lv_has ls 11 [(0, .ref (B + x0)), (1, .ref (B + x1)), (2, .int x2), (3, .ref (B + x3)), (4, .int x4)] := hl
  obtain ⟨hx, hb, hml, hown, ht, hK, hNw⟩ := id C
  obtain ⟨H, eH⟩ : ∃ H, H = s.heap := ⟨_, rfl⟩
  obtain ⟨locs, eL⟩ : ∃ z : List Loc, z = [] := ⟨_, rfl⟩
  rw [← eH, ← eL]
  rw [← eH, ← eL] at hT
  clear eH eL
  unfold fX7_ruleFits at h
  refine lv_aload_n hx hb dX7_ruleFits_0 rfl (lv_at hl 1 rfl) ?_
  refine lv_iload_n hx hb dX7_ruleFits_1 rfl (lv_at hl 2 rfl) ?_
  obtain ⟨r1, σ1, hc1, h⟩ := bd_some h
  refine js_backR hT (js_runV C hT cfX6 t1 rfl mfX6_left lk_X7_22 (kX6_left t1 hc1) ⟨Nat.le_of_ble_eq_true rfl, Nat.le_of_ble_eq_true rfl⟩ rfl hl.1 rfl (Nat.le_of_ble_eq_true rfl) ⟨Nat.zero_le _, Nat.zero_le _⟩ dX7_ruleFits_2) (fun H locs hT t1a => ?_)
  refine lv_astore (lv' := [(5, .ref (B + r1)), (0, .ref (B + x0)), (1, .ref (B + x1)), (2, .int x2), (3, .ref (B + x3)), (4, .int x4)]) hx hb dX7_ruleFits_5 hl (by decide) rfl (fun ls hl => ?_)
  refine lv_iload hx hb dX7_ruleFits_7 (lv_at hl 5 rfl) ?_
  refine lv_istore (lv' := [(6, .int x4), (5, .ref (B + r1)), (0, .ref (B + x0)), (1, .ref (B + x1)), (2, .int x2), (3, .ref (B + x3)), (4, .int x4)]) hx hb dX7_ruleFits_9 hl (by decide) rfl (fun ls hl => ?_)
  refine lv_aload_n hx hb dX7_ruleFits_11 rfl (lv_at hl 2 rfl) ?_
  obtain ⟨z2, σ2, hc2, h⟩ := bd_some h
  refine js_backV hT (js_runV C hT cfX7 t0 rfl mfX7_unbind lk_X7_28 (kX7_unbind t0 hc2) ⟨Nat.le_of_ble_eq_true rfl, Nat.le_of_ble_eq_true rfl⟩ rfl hl.1 rfl (Nat.le_of_ble_eq_true rfl) ⟨Nat.zero_le _, Nat.zero_le _⟩ dX7_ruleFits_12) (fun H locs hT => ?_)
  refine lv_iconst (v := 0) hx hb dX7_ruleFits_15 (by decide) ?_
  refine lv_istore (lv' := [(7, .int 0), (6, .int x4), (5, .ref (B + r1)), (0, .ref (B + x0)), (1, .ref (B + x1)), (2, .int x2), (3, .ref (B + x3)), (4, .int x4)]) hx hb dX7_ruleFits_16 hl (by decide) rfl (fun ls hl => ?_)
  exact wX7_ruleFits_18 C hr hk _ _ _ _ _ _ _ _ _ _ h t0 t1 t3 t1a H locs hT ls (lv_sub hl [3, 4, 6, 2, 1, 0] rfl)
set_option maxHeartbeats 4000000 in
set_option maxRecDepth 20000 in
theorem wX7_lowestRuleAt_3b (C : js_C D g p m c cX7_lowestRuleAt 5 s args RX7) (hr : meth.sig.returnType = (some .int)) (hk : meth.locks = false) (rc3 : Nat → Nat → Nat → Int32 → Int32 → js_S → Option (Int32 × js_S)) (hrc3 : ∀ (x0 : Nat) (x1 : Nat) (x2 : Nat) (x3 : Int32) (x4 : Int32) (σ : js_S) (r0 : Int32) (σ0 : js_S), rc3 x0 x1 x2 x3 x4 σ = some (r0, σ0) → ob_ nn 7 x0 → ob_ nn 6 x1 → ob_ nn 9 x2 → js_at p l e 3 s m args below meth c D B g nn 3 5 [(0, .ref (B + x0)), (1, .ref (B + x1)), (2, .ref (B + x2)), (3, .int x3), (4, .int x4)] [] σ (js_QI D B g nn r0 σ0)) : ∀ (x0 : Nat) (x1 : Nat) (x2 : Nat) (x3 : Int32) (x4 : Int32) (σ : js_S) (r0 : Int32) (σ0 : js_S), fX7_lowestRuleAt_3b fu rc3 x0 x1 x2 x3 x4 σ = some (r0, σ0) → ob_ nn 7 x0 → ob_ nn 6 x1 → ob_ nn 9 x2 → js_at p l e 3 s m args below meth c D B g nn 3 5 [(0, .ref (B + x0)), (1, .ref (B + x1)), (2, .ref (B + x2)), (3, .int x3), (4, .int x4)] [] σ (js_QI D B g nn r0 σ0) := by
  obtain ⟨hx, hb, hml, hown, ht, hK, hNw⟩ := id C
  intro x0 x1 x2 x3 x4 σ r0 σ0 h t0 t1 t2 H locs hT ls hl
  unfold fX7_lowestRuleAt_3b at h
  refine lv_iload hx hb dX7_lowestRuleAt_3 (lv_at hl 4 rfl) ?_
  refine lv_aload_n hx hb dX7_lowestRuleAt_5 rfl (lv_at hl 1 rfl) ?_
  refine js_gIN C hT cfX6 t1 5 (by decide) rfl lk_X7_56 dX7_lowestRuleAt_6 ?_
  refine lv_icmp_ge (tgt := 33) hx hb dX7_lowestRuleAt_9 (by decide) (fun c1 => ?_) (fun c1 => ?_)
  · rw [if_pos c1] at h
    refine lv_iconst (v := (-1)) hx hb dX7_lowestRuleAt_33 (by decide) ?_
    obtain ⟨rfl, rfl⟩ := js_rt h
    exact js_iret C hT hr hk dX7_lowestRuleAt_34
  · rw [if_neg c1] at h
    refine lv_aload_n hx hb dX7_lowestRuleAt_12 rfl (lv_at hl 0 rfl) ?_
    refine lv_aload_n hx hb dX7_lowestRuleAt_13 rfl (lv_at hl 1 rfl) ?_
    refine lv_iload hx hb dX7_lowestRuleAt_14 (lv_at hl 4 rfl) ?_
    refine lv_aload_n hx hb dX7_lowestRuleAt_16 rfl (lv_at hl 2 rfl) ?_
    refine lv_iload_n hx hb dX7_lowestRuleAt_17 rfl (lv_at hl 3 rfl) ?_
    obtain ⟨r2, σ2, hc2, h⟩ := bd_some h
    refine js_backI hT (js_runV C hT cfX7 t0 rfl mfX7_ruleFits lk_X7_59 (kX7_ruleFits t0 t1 t2 hc2) ⟨Nat.le_of_ble_eq_true rfl, Nat.le_of_ble_eq_true rfl⟩ rfl hl.1 rfl (Nat.le_of_ble_eq_true rfl) ⟨Nat.zero_le _, Nat.zero_le _⟩ dX7_lowestRuleAt_18) (fun H locs hT => ?_)
    refine lv_if_eq (tgt := 27) hx hb dX7_lowestRuleAt_21 (by decide) (fun c3 => ?_) (fun c3 => ?_)
    · rw [if_pos c3] at h
      refine lv_iinc (v := x4 + 1) (lv' := [(4, .int (x4 + 1)), (0, .ref (B + x0)), (1, .ref (B + x1)), (2, .ref (B + x2)), (3, .int x3)]) hx hb dX7_lowestRuleAt_27 hl (k := 4) rfl rfl (by decide) rfl (fun ls hl => ?_)
      refine lv_goto (tgt := 3) hx hb dX7_lowestRuleAt_30 (by decide) ?_
      exact hrc3 _ _ _ _ _ _ _ _ h t0 t1 t2 H locs hT ls (lv_sub hl [1, 2, 3, 4, 0] rfl)
    · rw [if_neg c3] at h
      refine lv_iload hx hb dX7_lowestRuleAt_24 (lv_at hl 4 rfl) ?_
      obtain ⟨rfl, rfl⟩ := js_rt h
      exact js_iret C hT hr hk dX7_lowestRuleAt_26
set_option maxHeartbeats 4000000 in
set_option maxRecDepth 20000 in
theorem wX7_lowestRuleAt_3 (C : js_C D g p m c cX7_lowestRuleAt 5 s args RX7) (hr : meth.sig.returnType = (some .int)) (hk : meth.locks = false) : ∀ (k : Nat), ∀ (x0 : Nat) (x1 : Nat) (x2 : Nat) (x3 : Int32) (x4 : Int32) (σ : js_S) (r0 : Int32) (σ0 : js_S), fX7_lowestRuleAt_3 fu k x0 x1 x2 x3 x4 σ = some (r0, σ0) → ob_ nn 7 x0 → ob_ nn 6 x1 → ob_ nn 9 x2 → js_at p l e 3 s m args below meth c D B g nn 3 5 [(0, .ref (B + x0)), (1, .ref (B + x1)), (2, .ref (B + x2)), (3, .int x3), (4, .int x4)] [] σ (js_QI D B g nn r0 σ0) := by
  intro k
  induction k with
  | zero =>
    intro x0 x1 x2 x3 x4 σ r0 σ0 h
    cases h
  | succ k ih =>
    intro x0 x1 x2 x3 x4 σ r0 σ0 h
    exact wX7_lowestRuleAt_3b C hr hk (fX7_lowestRuleAt_3 fu k) ih x0 x1 x2 x3 x4 σ r0 σ0 h
set_option maxHeartbeats 4000000 in
set_option maxRecDepth 20000 in
theorem kX7_lowestRuleAt {x0 : Nat} {x1 : Nat} {x2 : Nat} {x3 : Int32} {σ σ0 : js_S} {r0 : Int32} (t0 : ob_ nn 7 x0) (t1 : ob_ nn 6 x1) (t2 : ob_ nn 9 x2) (h : fX7_lowestRuleAt fu x0 x1 x2 x3 σ = some (r0, σ0)) : js_M l D B g nn yX7_lowestRuleAt cX7_lowestRuleAt 5 (some .int) 3 [.ref (B + x0), .ref (B + x1), .ref (B + x2), .int x3] σ (js_QI D B g nn r0 σ0) := by
  refine js_enter (by decide) (Nat.le_of_ble_eq_true rfl) ?_
  intro p e s m args below meth c C hr hk ls hl hT
  have hl : lv_has ls 5 [(0, .ref (B + x0)), (1, .ref (B + x1)), (2, .ref (B + x2)), (3, .int x3)] := hl
  obtain ⟨hx, hb, hml, hown, ht, hK, hNw⟩ := id C
  obtain ⟨H, eH⟩ : ∃ H, H = s.heap := ⟨_, rfl⟩
  obtain ⟨locs, eL⟩ : ∃ z : List Loc, z = [] := ⟨_, rfl⟩
  rw [← eH, ← eL]
  rw [← eH, ← eL] at hT
  clear eH eL
  unfold fX7_lowestRuleAt at h
  refine lv_iconst (v := 0) hx hb dX7_lowestRuleAt_0 (by decide) ?_
  refine lv_istore (lv' := [(4, .int 0), (0, .ref (B + x0)), (1, .ref (B + x1)), (2, .ref (B + x2)), (3, .int x3)]) hx hb dX7_lowestRuleAt_1 hl (by decide) rfl (fun ls hl => ?_)
  exact wX7_lowestRuleAt_3 C hr hk _ _ _ _ _ _ _ _ _ h t0 t1 t2 H locs hT ls (lv_sub hl [1, 2, 3, 4, 0] rfl)
set_option maxHeartbeats 4000000 in
set_option maxRecDepth 20000 in
theorem wX9_append_29 (C : js_C D g p m c cX9_append 2 s args RX9) (hr : meth.sig.returnType = none) (hk : meth.locks = false) : ∀ (x0 : Nat) (σ : js_S) (r0 : Unit) (σ0 : js_S), fX9_append_29 fu x0 σ = some (r0, σ0) → ob_ nn 9 x0 → js_at p l e 0 s m args below meth c D B g nn 29 2 [(0, .ref (B + x0))] [] σ (js_QV D B g nn σ0) := by
  obtain ⟨hx, hb, hml, hown, ht, hK, hNw⟩ := id C
  intro x0 σ r0 σ0 h t0 H locs hT ls hl
  unfold fX9_append_29 at h
  refine lv_aload_n hx hb dX9_append_29 rfl (lv_at hl 0 rfl) ?_
  refine lv_dup hx hb dX9_append_30 rfl ?_
  refine js_gI C hT cfX9 t0 1 (by decide) rfl lk_X9_15 dX9_append_31 ?_
  refine lv_iconst (v := 1) hx hb dX9_append_34 (by decide) ?_
  refine lv_iadd hx hb dX9_append_35 ?_
  obtain ⟨σ1, e1, h⟩ := lt_some h
  refine js_pI C hT cfX9 t0 1 (by decide) rfl rfl rfl rfl lk_X9_15 dX9_append_36 (fun H locs hT => ?_)
  rw [e1] at hT
  obtain ⟨rfl, rfl⟩ := js_rt h
  exact js_vret C hT hr hk dX9_append_39
set_option maxHeartbeats 4000000 in
set_option maxRecDepth 20000 in
theorem kX9_append {x0 : Nat} {x1 : Int32} {σ σ0 : js_S} {r0 : Unit} (t0 : ob_ nn 9 x0) (h : fX9_append fu x0 x1 σ = some (r0, σ0)) : js_M l D B g nn yX9_append cX9_append 2 none 0 [.ref (B + x0), .int x1] σ (js_QV D B g nn σ0) := by
  refine js_enter (by decide) (Nat.le_of_ble_eq_true rfl) ?_
  intro p e s m args below meth c C hr hk ls hl hT
  have hl : lv_has ls 2 [(0, .ref (B + x0)), (1, .int x1)] := hl
  obtain ⟨hx, hb, hml, hown, ht, hK, hNw⟩ := id C
  obtain ⟨H, eH⟩ : ∃ H, H = s.heap := ⟨_, rfl⟩
  obtain ⟨locs, eL⟩ : ∃ z : List Loc, z = [] := ⟨_, rfl⟩
  rw [← eH, ← eL]
  rw [← eH, ← eL] at hT
  clear eH eL
  unfold fX9_append at h
  refine lv_aload_n hx hb dX9_append_0 rfl (lv_at hl 0 rfl) ?_
  refine js_gI C hT cfX9 t0 1 (by decide) rfl lk_X9_15 dX9_append_1 ?_
  refine lv_if_lt (tgt := 29) hx hb dX9_append_4 (by decide) (fun c1 => ?_) (fun c1 => ?_)
  · rw [if_pos c1] at h
    exact wX9_append_29 C hr hk _ _ _ _ h t0 H locs hT ls (lv_sub hl [0] rfl)
  · rw [if_neg c1] at h
    refine lv_aload_n hx hb dX9_append_7 rfl (lv_at hl 0 rfl) ?_
    refine js_gI C hT cfX9 t0 1 (by decide) rfl lk_X9_15 dX9_append_8 ?_
    refine lv_aload_n hx hb dX9_append_11 rfl (lv_at hl 0 rfl) ?_
    refine js_gR C hT cfX9 t0 0 (by decide) (q := 20) rfl (by decide) lk_X9_9 dX9_append_12 (fun t2a => ?_)
    refine js_alen C hT t2a (Or.inl rfl) dX9_append_15 ?_
    refine lv_icmp_ge (tgt := 29) hx hb dX9_append_16 (by decide) (fun c3 => ?_) (fun c3 => ?_)
    · rw [if_pos c3] at h
      exact wX9_append_29 C hr hk _ _ _ _ h t0 H locs hT ls (lv_sub hl [0] rfl)
    · rw [if_neg c3] at h
      refine lv_aload_n hx hb dX9_append_19 rfl (lv_at hl 0 rfl) ?_
      refine js_gR C hT cfX9 t0 0 (by decide) (q := 20) rfl (by decide) lk_X9_9 dX9_append_20 (fun t4a => ?_)
      refine lv_aload_n hx hb dX9_append_23 rfl (lv_at hl 0 rfl) ?_
      refine js_gI C hT cfX9 t0 1 (by decide) rfl lk_X9_15 dX9_append_24 ?_
      refine lv_iload_n hx hb dX9_append_27 rfl (lv_at hl 1 rfl) ?_
      obtain ⟨g5, h⟩ := gd_some _ h
      obtain ⟨σ5, e5, h⟩ := lt_some h
      refine js_iast C hT t4a g5 dX9_append_28 (fun H locs hT => ?_)
      rw [e5] at hT
      exact wX9_append_29 C hr hk _ _ _ _ h t0 H locs hT ls (lv_sub hl [0] rfl)
set_option maxHeartbeats 4000000 in
set_option maxRecDepth 20000 in
theorem wX9_appendRange_3b (C : js_C D g p m c cX9_appendRange 5 s args RX9) (hr : meth.sig.returnType = none) (hk : meth.locks = false) (rc3 : Nat → Nat → Int32 → Int32 → js_S → Option (Unit × js_S)) (hrc3 : ∀ (x0 : Nat) (x1 : Nat) (x3 : Int32) (x4 : Int32) (σ : js_S) (r0 : Unit) (σ0 : js_S), rc3 x0 x1 x3 x4 σ = some (r0, σ0) → ob_ nn 9 x0 → ob_ nn 9 x1 → js_at p l e 1 s m args below meth c D B g nn 3 5 [(0, .ref (B + x0)), (1, .ref (B + x1)), (3, .int x3), (4, .int x4)] [] σ (js_QV D B g nn σ0)) : ∀ (x0 : Nat) (x1 : Nat) (x3 : Int32) (x4 : Int32) (σ : js_S) (r0 : Unit) (σ0 : js_S), fX9_appendRange_3b fu rc3 x0 x1 x3 x4 σ = some (r0, σ0) → ob_ nn 9 x0 → ob_ nn 9 x1 → js_at p l e 1 s m args below meth c D B g nn 3 5 [(0, .ref (B + x0)), (1, .ref (B + x1)), (3, .int x3), (4, .int x4)] [] σ (js_QV D B g nn σ0) := by
  obtain ⟨hx, hb, hml, hown, ht, hK, hNw⟩ := id C
  intro x0 x1 x3 x4 σ r0 σ0 h t0 t1 H locs hT ls hl
  unfold fX9_appendRange_3b at h
  refine lv_iload hx hb dX9_appendRange_3 (lv_at hl 3 rfl) ?_
  refine lv_iload_n hx hb dX9_appendRange_5 rfl (lv_at hl 2 rfl) ?_
  refine lv_icmp_ge (tgt := 25) hx hb dX9_appendRange_6 (by decide) (fun c1 => ?_) (fun c1 => ?_)
  · rw [if_pos c1] at h
    obtain ⟨rfl, rfl⟩ := js_rt h
    exact js_vret C hT hr hk dX9_appendRange_25
  · rw [if_neg c1] at h
    refine lv_aload_n hx hb dX9_appendRange_9 rfl (lv_at hl 0 rfl) ?_
    refine lv_aload_n hx hb dX9_appendRange_10 rfl (lv_at hl 1 rfl) ?_
    refine lv_iload hx hb dX9_appendRange_11 (lv_at hl 3 rfl) ?_
    obtain ⟨r2, σ2, hc2, h⟩ := bd_some h
    refine js_backI hT (js_runV C hT cfX9 t1 rfl mfX9_symbolAt lk_X9_23 (kX9_symbolAt t1 hc2) ⟨Nat.le_of_ble_eq_true rfl, Nat.le_of_ble_eq_true rfl⟩ rfl hl.1 rfl (Nat.le_of_ble_eq_true rfl) ⟨Nat.zero_le _, Nat.zero_le _⟩ dX9_appendRange_13) (fun H locs hT => ?_)
    obtain ⟨z3, σ3, hc3, h⟩ := bd_some h
    refine js_backV hT (js_runV C hT cfX9 t0 rfl mfX9_append lk_X9_19 (kX9_append t0 hc3) ⟨Nat.le_of_ble_eq_true rfl, Nat.le_of_ble_eq_true rfl⟩ rfl hl.1 rfl (Nat.le_of_ble_eq_true rfl) ⟨Nat.zero_le _, Nat.zero_le _⟩ dX9_appendRange_16) (fun H locs hT => ?_)
    refine lv_iinc (v := x4 + 1) (lv' := [(4, .int (x4 + 1)), (0, .ref (B + x0)), (1, .ref (B + x1)), (3, .int x3)]) hx hb dX9_appendRange_19 hl (k := 3) rfl rfl (by decide) rfl (fun ls hl => ?_)
    refine lv_goto (tgt := 3) hx hb dX9_appendRange_22 (by decide) ?_
    exact hrc3 _ _ _ _ _ _ _ h t0 t1 H locs hT ls (lv_sub hl [1, 2, 3, 0] rfl)
set_option maxHeartbeats 4000000 in
set_option maxRecDepth 20000 in
theorem wX9_appendRange_3 (C : js_C D g p m c cX9_appendRange 5 s args RX9) (hr : meth.sig.returnType = none) (hk : meth.locks = false) : ∀ (k : Nat), ∀ (x0 : Nat) (x1 : Nat) (x3 : Int32) (x4 : Int32) (σ : js_S) (r0 : Unit) (σ0 : js_S), fX9_appendRange_3 fu k x0 x1 x3 x4 σ = some (r0, σ0) → ob_ nn 9 x0 → ob_ nn 9 x1 → js_at p l e 1 s m args below meth c D B g nn 3 5 [(0, .ref (B + x0)), (1, .ref (B + x1)), (3, .int x3), (4, .int x4)] [] σ (js_QV D B g nn σ0) := by
  intro k
  induction k with
  | zero =>
    intro x0 x1 x3 x4 σ r0 σ0 h
    cases h
  | succ k ih =>
    intro x0 x1 x3 x4 σ r0 σ0 h
    exact wX9_appendRange_3b C hr hk (fX9_appendRange_3 fu k) ih x0 x1 x3 x4 σ r0 σ0 h
set_option maxHeartbeats 4000000 in
set_option maxRecDepth 20000 in
theorem kX9_appendRange {x0 : Nat} {x1 : Nat} {x2 : Int32} {x3 : Int32} {σ σ0 : js_S} {r0 : Unit} (t0 : ob_ nn 9 x0) (t1 : ob_ nn 9 x1) (h : fX9_appendRange fu x0 x1 x2 x3 σ = some (r0, σ0)) : js_M l D B g nn yX9_appendRange cX9_appendRange 5 none 1 [.ref (B + x0), .ref (B + x1), .int x2, .int x3] σ (js_QV D B g nn σ0) := by
  refine js_enter (by decide) (Nat.le_of_ble_eq_true rfl) ?_
  intro p e s m args below meth c C hr hk ls hl hT
  have hl : lv_has ls 5 [(0, .ref (B + x0)), (1, .ref (B + x1)), (2, .int x2), (3, .int x3)] := hl
  obtain ⟨hx, hb, hml, hown, ht, hK, hNw⟩ := id C
  obtain ⟨H, eH⟩ : ∃ H, H = s.heap := ⟨_, rfl⟩
  obtain ⟨locs, eL⟩ : ∃ z : List Loc, z = [] := ⟨_, rfl⟩
  rw [← eH, ← eL]
  rw [← eH, ← eL] at hT
  clear eH eL
  unfold fX9_appendRange at h
  refine lv_iload_n hx hb dX9_appendRange_0 rfl (lv_at hl 2 rfl) ?_
  refine lv_istore (lv' := [(4, .int x2), (0, .ref (B + x0)), (1, .ref (B + x1)), (2, .int x2), (3, .int x3)]) hx hb dX9_appendRange_1 hl (by decide) rfl (fun ls hl => ?_)
  exact wX9_appendRange_3 C hr hk _ _ _ _ _ _ _ _ h t0 t1 H locs hT ls (lv_sub hl [1, 2, 4, 0] rfl)
set_option maxHeartbeats 4000000 in
set_option maxRecDepth 20000 in
theorem kX9_empty {x0 : Nat} {σ σ0 : js_S} {r0 : Unit} (t0 : ob_ nn 9 x0) (h : fX9_empty fu x0 σ = some (r0, σ0)) : js_M l D B g nn yX9_empty cX9_empty 1 none 0 [.ref (B + x0)] σ (js_QV D B g nn σ0) := by
  refine js_enter (by decide) (Nat.le_of_ble_eq_true rfl) ?_
  intro p e s m args below meth c C hr hk ls hl hT
  have hl : lv_has ls 1 [(0, .ref (B + x0))] := hl
  obtain ⟨hx, hb, hml, hown, ht, hK, hNw⟩ := id C
  obtain ⟨H, eH⟩ : ∃ H, H = s.heap := ⟨_, rfl⟩
  obtain ⟨locs, eL⟩ : ∃ z : List Loc, z = [] := ⟨_, rfl⟩
  rw [← eH, ← eL]
  rw [← eH, ← eL] at hT
  clear eH eL
  unfold fX9_empty at h
  refine lv_aload_n hx hb dX9_empty_0 rfl (lv_at hl 0 rfl) ?_
  refine lv_iconst (v := 0) hx hb dX9_empty_1 (by decide) ?_
  obtain ⟨σ1, e1, h⟩ := lt_some h
  refine js_pI C hT cfX9 t0 1 (by decide) rfl rfl rfl rfl lk_X9_15 dX9_empty_2 (fun H locs hT => ?_)
  rw [e1] at hT
  obtain ⟨rfl, rfl⟩ := js_rt h
  exact js_vret C hT hr hk dX9_empty_5
set_option maxHeartbeats 4000000 in
set_option maxRecDepth 20000 in
theorem wX7_step_107 (C : js_C D g p m c cX7_step 10 s args RX7) (hr : meth.sig.returnType = (some .int)) (hk : meth.locks = false) (rc41 : Nat → Nat → Nat → Int32 → Nat → Nat → Int32 → js_S → Option (Int32 × js_S)) (hrc41 : ∀ (x0 : Nat) (x1 : Nat) (x2 : Nat) (x3 : Int32) (x4 : Nat) (x6 : Nat) (x7 : Int32) (σ : js_S) (r0 : Int32) (σ0 : js_S), rc41 x0 x1 x2 x3 x4 x6 x7 σ = some (r0, σ0) → ob_ nn 7 x0 → ob_ nn 6 x1 → ob_ nn 9 x2 → ob_ nn 9 x4 → ob_ nn 9 x6 → js_at p l e 4 s m args below meth c D B g nn 41 10 [(0, .ref (B + x0)), (1, .ref (B + x1)), (2, .ref (B + x2)), (3, .int x3), (4, .ref (B + x4)), (6, .ref (B + x6)), (7, .int x7)] [] σ (js_QI D B g nn r0 σ0)) : ∀ (x0 : Nat) (x1 : Nat) (x2 : Nat) (x3 : Int32) (x4 : Nat) (x6 : Nat) (x7 : Int32) (σ : js_S) (r0 : Int32) (σ0 : js_S), fX7_step_107 fu rc41 x0 x1 x2 x3 x4 x6 x7 σ = some (r0, σ0) → ob_ nn 7 x0 → ob_ nn 6 x1 → ob_ nn 9 x2 → ob_ nn 9 x4 → ob_ nn 9 x6 → js_at p l e 4 s m args below meth c D B g nn 107 10 [(0, .ref (B + x0)), (1, .ref (B + x1)), (2, .ref (B + x2)), (3, .int x3), (4, .ref (B + x4)), (6, .ref (B + x6)), (7, .int x7)] [] σ (js_QI D B g nn r0 σ0) := by
  obtain ⟨hx, hb, hml, hown, ht, hK, hNw⟩ := id C
  intro x0 x1 x2 x3 x4 x6 x7 σ r0 σ0 h t0 t1 t2 t4 t6 H locs hT ls hl
  unfold fX7_step_107 at h
  refine lv_iinc (v := x7 + 1) (lv' := [(7, .int (x7 + 1)), (0, .ref (B + x0)), (1, .ref (B + x1)), (2, .ref (B + x2)), (3, .int x3), (4, .ref (B + x4)), (6, .ref (B + x6))]) hx hb dX7_step_107 hl (k := 6) rfl rfl (by decide) rfl (fun ls hl => ?_)
  refine lv_goto (tgt := 41) hx hb dX7_step_110 (by decide) ?_
  exact hrc41 _ _ _ _ _ _ _ _ _ _ h t0 t1 t2 t4 t6 H locs hT ls (lv_sub hl [1, 2, 3, 4, 5, 6, 0] rfl)
set_option maxHeartbeats 4000000 in
set_option maxRecDepth 20000 in
theorem wX7_step_41b (C : js_C D g p m c cX7_step 10 s args RX7) (hr : meth.sig.returnType = (some .int)) (hk : meth.locks = false) (rc41 : Nat → Nat → Nat → Int32 → Nat → Nat → Int32 → js_S → Option (Int32 × js_S)) (hrc41 : ∀ (x0 : Nat) (x1 : Nat) (x2 : Nat) (x3 : Int32) (x4 : Nat) (x6 : Nat) (x7 : Int32) (σ : js_S) (r0 : Int32) (σ0 : js_S), rc41 x0 x1 x2 x3 x4 x6 x7 σ = some (r0, σ0) → ob_ nn 7 x0 → ob_ nn 6 x1 → ob_ nn 9 x2 → ob_ nn 9 x4 → ob_ nn 9 x6 → js_at p l e 4 s m args below meth c D B g nn 41 10 [(0, .ref (B + x0)), (1, .ref (B + x1)), (2, .ref (B + x2)), (3, .int x3), (4, .ref (B + x4)), (6, .ref (B + x6)), (7, .int x7)] [] σ (js_QI D B g nn r0 σ0)) : ∀ (x0 : Nat) (x1 : Nat) (x2 : Nat) (x3 : Int32) (x4 : Nat) (x6 : Nat) (x7 : Int32) (σ : js_S) (r0 : Int32) (σ0 : js_S), fX7_step_41b fu rc41 x0 x1 x2 x3 x4 x6 x7 σ = some (r0, σ0) → ob_ nn 7 x0 → ob_ nn 6 x1 → ob_ nn 9 x2 → ob_ nn 9 x4 → ob_ nn 9 x6 → js_at p l e 4 s m args below meth c D B g nn 41 10 [(0, .ref (B + x0)), (1, .ref (B + x1)), (2, .ref (B + x2)), (3, .int x3), (4, .ref (B + x4)), (6, .ref (B + x6)), (7, .int x7)] [] σ (js_QI D B g nn r0 σ0) := by
  obtain ⟨hx, hb, hml, hown, ht, hK, hNw⟩ := id C
  intro x0 x1 x2 x3 x4 x6 x7 σ r0 σ0 h t0 t1 t2 t4 t6 H locs hT ls hl
  unfold fX7_step_41b at h
  refine lv_iload hx hb dX7_step_41 (lv_at hl 6 rfl) ?_
  refine lv_aload hx hb dX7_step_43 (lv_at hl 5 rfl) ?_
  refine js_gIN C hT cfX9 t6 1 (by decide) rfl lk_X7_31 dX7_step_45 ?_
  refine lv_icmp_ge (tgt := 113) hx hb dX7_step_48 (by decide) (fun c1 => ?_) (fun c1 => ?_)
  · rw [if_pos c1] at h
    refine lv_aload hx hb dX7_step_113 (lv_at hl 4 rfl) ?_
    refine lv_aload_n hx hb dX7_step_115 rfl (lv_at hl 2 rfl) ?_
    refine lv_aload_n hx hb dX7_step_116 rfl (lv_at hl 1 rfl) ?_
    refine js_gRN C hT cfX6 t1 0 (by decide) (q := 8) rfl (by decide) lk_X7_42 dX7_step_117 (fun t2a => ?_)
    refine lv_aload_n hx hb dX7_step_120 rfl (lv_at hl 2 rfl) ?_
    refine lv_iload_n hx hb dX7_step_121 rfl (lv_at hl 3 rfl) ?_
    obtain ⟨r3, σ3, hc3, h⟩ := bd_some h
    refine js_backI hT (js_runV C hT cfX8 t2a rfl mfX8_endOf lk_X7_52 (kX8_endOf t2a t2 hc3) ⟨Nat.le_of_ble_eq_true rfl, Nat.le_of_ble_eq_true rfl⟩ rfl hl.1 rfl (Nat.le_of_ble_eq_true rfl) ⟨Nat.zero_le _, Nat.zero_le _⟩ dX7_step_122) (fun H locs hT => ?_)
    refine lv_aload_n hx hb dX7_step_125 rfl (lv_at hl 2 rfl) ?_
    refine js_gIN C hT cfX9 t2 1 (by decide) rfl lk_X7_31 dX7_step_126 ?_
    obtain ⟨z4, σ4, hc4, h⟩ := bd_some h
    refine js_backV hT (js_runV C hT cfX9 t4 rfl mfX9_appendRange lk_X7_70 (kX9_appendRange t4 t2 hc4) ⟨Nat.le_of_ble_eq_true rfl, Nat.le_of_ble_eq_true rfl⟩ rfl hl.1 rfl (Nat.le_of_ble_eq_true rfl) ⟨Nat.zero_le _, Nat.zero_le _⟩ dX7_step_129) (fun H locs hT => ?_)
    refine lv_aload hx hb dX7_step_132 (lv_at hl 4 rfl) ?_
    refine js_gIN C hT cfX9 t4 1 (by decide) rfl lk_X7_31 dX7_step_134 ?_
    refine lv_bipush (v := 40) hx hb dX7_step_137 (by decide) ?_
    refine lv_icmp_gt (tgt := 150) hx hb dX7_step_139 (by decide) (fun c5 => ?_) (fun c5 => ?_)
    · rw [if_pos c5] at h
      refine lv_bipush (v := (-8)) hx hb dX7_step_150 (by decide) ?_
      obtain ⟨rfl, rfl⟩ := js_rt h
      exact js_iret C hT hr hk dX7_step_152
    · rw [if_neg c5] at h
      refine lv_aload hx hb dX7_step_142 (lv_at hl 4 rfl) ?_
      refine js_gIN C hT cfX9 t4 1 (by decide) rfl lk_X7_31 dX7_step_144 ?_
      refine lv_goto (tgt := 152) hx hb dX7_step_147 (by decide) ?_
      obtain ⟨rfl, rfl⟩ := js_rt h
      exact js_iret C hT hr hk dX7_step_152
  · rw [if_neg c1] at h
    refine lv_aload hx hb dX7_step_51 (lv_at hl 5 rfl) ?_
    refine lv_iload hx hb dX7_step_53 (lv_at hl 6 rfl) ?_
    obtain ⟨r6, σ6, hc6, h⟩ := bd_some h
    refine js_backI hT (js_runV C hT cfX9 t6 rfl mfX9_symbolAt lk_X7_35 (kX9_symbolAt t6 hc6) ⟨Nat.le_of_ble_eq_true rfl, Nat.le_of_ble_eq_true rfl⟩ rfl hl.1 rfl (Nat.le_of_ble_eq_true rfl) ⟨Nat.zero_le _, Nat.zero_le _⟩ dX7_step_55) (fun H locs hT => ?_)
    refine lv_istore (lv' := [(8, .int r6), (0, .ref (B + x0)), (1, .ref (B + x1)), (2, .ref (B + x2)), (3, .int x3), (4, .ref (B + x4)), (6, .ref (B + x6)), (7, .int x7)]) hx hb dX7_step_58 hl (by decide) rfl (fun ls hl => ?_)
    refine lv_iload hx hb dX7_step_60 (lv_at hl 0 rfl) ?_
    obtain ⟨r7, σ7, hc7, h⟩ := bd_some h
    refine js_backI hT (js_runSN C hT mfX11_isVariable lk_X7_77 (kX11_isVariable  hc7) ⟨Nat.le_of_ble_eq_true rfl, Nat.le_of_ble_eq_true rfl⟩ rfl hl.1 rfl (Nat.le_of_ble_eq_true rfl) ⟨Nat.zero_le _, Nat.zero_le _⟩ dX7_step_62) (fun H locs hT => ?_)
    refine lv_if_eq (tgt := 100) hx hb dX7_step_65 (by decide) (fun c8 => ?_) (fun c8 => ?_)
    · rw [if_pos c8] at h
      refine lv_aload hx hb dX7_step_100 (lv_at hl 5 rfl) ?_
      refine lv_iload hx hb dX7_step_102 (lv_at hl 0 rfl) ?_
      obtain ⟨z9, σ9, hc9, h⟩ := bd_some h
      refine js_backV hT (js_runV C hT cfX9 t4 rfl mfX9_append lk_X7_84 (kX9_append t4 hc9) ⟨Nat.le_of_ble_eq_true rfl, Nat.le_of_ble_eq_true rfl⟩ rfl hl.1 rfl (Nat.le_of_ble_eq_true rfl) ⟨Nat.zero_le _, Nat.zero_le _⟩ dX7_step_104) (fun H locs hT => ?_)
      exact wX7_step_107 C hr hk rc41 hrc41 _ _ _ _ _ _ _ _ _ _ h t0 t1 t2 t4 t6 H locs hT ls (lv_sub hl [1, 2, 3, 4, 5, 6, 7] rfl)
    · rw [if_neg c8] at h
      refine lv_aload_n hx hb dX7_step_68 rfl (lv_at hl 1 rfl) ?_
      refine lv_iload hx hb dX7_step_69 (lv_at hl 0 rfl) ?_
      obtain ⟨r10, σ10, hc10, h⟩ := bd_some h
      refine js_backI hT (js_runSN C hT mfX11_variableNumber lk_X7_39 (kX11_variableNumber  hc10) ⟨Nat.le_of_ble_eq_true rfl, Nat.le_of_ble_eq_true rfl⟩ rfl hl.1 rfl (Nat.le_of_ble_eq_true rfl) ⟨Nat.zero_le _, Nat.zero_le _⟩ dX7_step_71) (fun H locs hT => ?_)
      obtain ⟨r11, σ11, hc11, h⟩ := bd_some h
      refine js_backI hT (js_runV C hT cfX7 t0 rfl mfX7_bindingOf lk_X7_81 (kX7_bindingOf t0 hc11) ⟨Nat.le_of_ble_eq_true rfl, Nat.le_of_ble_eq_true rfl⟩ rfl hl.1 rfl (Nat.le_of_ble_eq_true rfl) ⟨Nat.zero_le _, Nat.zero_le _⟩ dX7_step_74) (fun H locs hT => ?_)
      refine lv_istore (lv' := [(9, .int r11), (8, .int r6), (0, .ref (B + x0)), (1, .ref (B + x1)), (2, .ref (B + x2)), (3, .int x3), (4, .ref (B + x4)), (6, .ref (B + x6)), (7, .int x7)]) hx hb dX7_step_77 hl (by decide) rfl (fun ls hl => ?_)
      refine lv_aload hx hb dX7_step_79 (lv_at hl 6 rfl) ?_
      refine lv_aload_n hx hb dX7_step_81 rfl (lv_at hl 4 rfl) ?_
      refine lv_iload hx hb dX7_step_82 (lv_at hl 0 rfl) ?_
      refine lv_aload_n hx hb dX7_step_84 rfl (lv_at hl 3 rfl) ?_
      refine js_gRN C hT cfX6 t1 0 (by decide) (q := 8) rfl (by decide) lk_X7_42 dX7_step_85 (fun t12a => ?_)
      refine lv_aload_n hx hb dX7_step_88 rfl (lv_at hl 4 rfl) ?_
      refine lv_iload hx hb dX7_step_89 (lv_at hl 0 rfl) ?_
      obtain ⟨r13, σ13, hc13, h⟩ := bd_some h
      refine js_backI hT (js_runV C hT cfX8 t12a rfl mfX8_endOf lk_X7_52 (kX8_endOf t12a t2 hc13) ⟨Nat.le_of_ble_eq_true rfl, Nat.le_of_ble_eq_true rfl⟩ rfl hl.1 rfl (Nat.le_of_ble_eq_true rfl) ⟨Nat.zero_le _, Nat.zero_le _⟩ dX7_step_91) (fun H locs hT => ?_)
      obtain ⟨z14, σ14, hc14, h⟩ := bd_some h
      refine js_backV hT (js_runV C hT cfX9 t4 rfl mfX9_appendRange lk_X7_70 (kX9_appendRange t4 t2 hc14) ⟨Nat.le_of_ble_eq_true rfl, Nat.le_of_ble_eq_true rfl⟩ rfl hl.1 rfl (Nat.le_of_ble_eq_true rfl) ⟨Nat.zero_le _, Nat.zero_le _⟩ dX7_step_94) (fun H locs hT => ?_)
      refine lv_goto (tgt := 107) hx hb dX7_step_97 (by decide) ?_
      exact wX7_step_107 C hr hk rc41 hrc41 _ _ _ _ _ _ _ _ _ _ h t0 t1 t2 t4 t6 H locs hT ls (lv_sub hl [2, 3, 4, 5, 6, 7, 8] rfl)
set_option maxHeartbeats 4000000 in
set_option maxRecDepth 20000 in
theorem wX7_step_41 (C : js_C D g p m c cX7_step 10 s args RX7) (hr : meth.sig.returnType = (some .int)) (hk : meth.locks = false) : ∀ (k : Nat), ∀ (x0 : Nat) (x1 : Nat) (x2 : Nat) (x3 : Int32) (x4 : Nat) (x6 : Nat) (x7 : Int32) (σ : js_S) (r0 : Int32) (σ0 : js_S), fX7_step_41 fu k x0 x1 x2 x3 x4 x6 x7 σ = some (r0, σ0) → ob_ nn 7 x0 → ob_ nn 6 x1 → ob_ nn 9 x2 → ob_ nn 9 x4 → ob_ nn 9 x6 → js_at p l e 4 s m args below meth c D B g nn 41 10 [(0, .ref (B + x0)), (1, .ref (B + x1)), (2, .ref (B + x2)), (3, .int x3), (4, .ref (B + x4)), (6, .ref (B + x6)), (7, .int x7)] [] σ (js_QI D B g nn r0 σ0) := by
  intro k
  induction k with
  | zero =>
    intro x0 x1 x2 x3 x4 x6 x7 σ r0 σ0 h
    cases h
  | succ k ih =>
    intro x0 x1 x2 x3 x4 x6 x7 σ r0 σ0 h
    exact wX7_step_41b C hr hk (fX7_step_41 fu k) ih x0 x1 x2 x3 x4 x6 x7 σ r0 σ0 h
set_option maxHeartbeats 4000000 in
set_option maxRecDepth 20000 in
theorem kX7_step {x0 : Nat} {x1 : Nat} {x2 : Nat} {x3 : Int32} {x4 : Nat} {σ σ0 : js_S} {r0 : Int32} (t0 : ob_ nn 7 x0) (t1 : ob_ nn 6 x1) (t2 : ob_ nn 9 x2) (t4 : ob_ nn 9 x4) (h : fX7_step fu x0 x1 x2 x3 x4 σ = some (r0, σ0)) : js_M l D B g nn yX7_step cX7_step 10 (some .int) 4 [.ref (B + x0), .ref (B + x1), .ref (B + x2), .int x3, .ref (B + x4)] σ (js_QI D B g nn r0 σ0) := by
  refine js_enter (by decide) (Nat.le_of_ble_eq_true rfl) ?_
  intro p e s m args below meth c C hr hk ls hl hT
  have hl : lv_has ls 10 [(0, .ref (B + x0)), (1, .ref (B + x1)), (2, .ref (B + x2)), (3, .int x3), (4, .ref (B + x4))] := hl
  obtain ⟨hx, hb, hml, hown, ht, hK, hNw⟩ := id C
  obtain ⟨H, eH⟩ : ∃ H, H = s.heap := ⟨_, rfl⟩
  obtain ⟨locs, eL⟩ : ∃ z : List Loc, z = [] := ⟨_, rfl⟩
  rw [← eH, ← eL]
  rw [← eH, ← eL] at hT
  clear eH eL
  unfold fX7_step at h
  refine lv_aload_n hx hb dX7_step_0 rfl (lv_at hl 0 rfl) ?_
  refine lv_aload_n hx hb dX7_step_1 rfl (lv_at hl 1 rfl) ?_
  refine lv_aload_n hx hb dX7_step_2 rfl (lv_at hl 2 rfl) ?_
  refine lv_iload_n hx hb dX7_step_3 rfl (lv_at hl 3 rfl) ?_
  obtain ⟨r1, σ1, hc1, h⟩ := bd_some h
  refine js_backI hT (js_runV C hT cfX7 t0 rfl mfX7_lowestRuleAt lk_X7_63 (kX7_lowestRuleAt t0 t1 t2 hc1) ⟨Nat.le_of_ble_eq_true rfl, Nat.le_of_ble_eq_true rfl⟩ rfl hl.1 rfl (Nat.le_of_ble_eq_true rfl) ⟨Nat.zero_le _, Nat.zero_le _⟩ dX7_step_4) (fun H locs hT => ?_)
  refine lv_istore (lv' := [(5, .int r1), (0, .ref (B + x0)), (1, .ref (B + x1)), (2, .ref (B + x2)), (3, .int x3), (4, .ref (B + x4))]) hx hb dX7_step_7 hl (by decide) rfl (fun ls hl => ?_)
  refine lv_iload hx hb dX7_step_9 (lv_at hl 0 rfl) ?_
  refine lv_if_ge (tgt := 17) hx hb dX7_step_11 (by decide) (fun c2 => ?_) (fun c2 => ?_)
  · rw [if_pos c2] at h
    refine lv_aload hx hb dX7_step_17 (lv_at hl 5 rfl) ?_
    obtain ⟨z3, σ3, hc3, h⟩ := bd_some h
    refine js_backV hT (js_runV C hT cfX9 t4 rfl mfX9_empty lk_X7_67 (kX9_empty t4 hc3) ⟨Nat.le_of_ble_eq_true rfl, Nat.le_of_ble_eq_true rfl⟩ rfl hl.1 rfl (Nat.le_of_ble_eq_true rfl) ⟨Nat.zero_le _, Nat.zero_le _⟩ dX7_step_19) (fun H locs hT => ?_)
    refine lv_aload hx hb dX7_step_22 (lv_at hl 5 rfl) ?_
    refine lv_aload_n hx hb dX7_step_24 rfl (lv_at hl 3 rfl) ?_
    refine lv_iconst (v := 0) hx hb dX7_step_25 (by decide) ?_
    refine lv_iload_n hx hb dX7_step_26 rfl (lv_at hl 4 rfl) ?_
    obtain ⟨z4, σ4, hc4, h⟩ := bd_some h
    refine js_backV hT (js_runV C hT cfX9 t4 rfl mfX9_appendRange lk_X7_70 (kX9_appendRange t4 t2 hc4) ⟨Nat.le_of_ble_eq_true rfl, Nat.le_of_ble_eq_true rfl⟩ rfl hl.1 rfl (Nat.le_of_ble_eq_true rfl) ⟨Nat.zero_le _, Nat.zero_le _⟩ dX7_step_27) (fun H locs hT => ?_)
    refine lv_aload_n hx hb dX7_step_30 rfl (lv_at hl 2 rfl) ?_
    refine lv_iload hx hb dX7_step_31 (lv_at hl 0 rfl) ?_
    obtain ⟨r5, σ5, hc5, h⟩ := bd_some h
    refine js_backR hT (js_runV C hT cfX6 t1 rfl mfX6_right lk_X7_74 (kX6_right t1 hc5) ⟨Nat.le_of_ble_eq_true rfl, Nat.le_of_ble_eq_true rfl⟩ rfl hl.1 rfl (Nat.le_of_ble_eq_true rfl) ⟨Nat.zero_le _, Nat.zero_le _⟩ dX7_step_33) (fun H locs hT t5a => ?_)
    refine lv_astore (lv' := [(6, .ref (B + r5)), (5, .int r1), (0, .ref (B + x0)), (1, .ref (B + x1)), (2, .ref (B + x2)), (3, .int x3), (4, .ref (B + x4))]) hx hb dX7_step_36 hl (by decide) rfl (fun ls hl => ?_)
    refine lv_iconst (v := 0) hx hb dX7_step_38 (by decide) ?_
    refine lv_istore (lv' := [(7, .int 0), (6, .ref (B + r5)), (5, .int r1), (0, .ref (B + x0)), (1, .ref (B + x1)), (2, .ref (B + x2)), (3, .int x3), (4, .ref (B + x4))]) hx hb dX7_step_39 hl (by decide) rfl (fun ls hl => ?_)
    exact wX7_step_41 C hr hk _ _ _ _ _ _ _ _ _ _ _ h t0 t1 t2 t4 t5a H locs hT ls (lv_sub hl [3, 4, 5, 6, 7, 1, 0] rfl)
  · rw [if_neg c2] at h
    refine lv_bipush (v := (-5)) hx hb dX7_step_14 (by decide) ?_
    obtain ⟨rfl, rfl⟩ := js_rt h
    exact js_iret C hT hr hk dX7_step_16
set_option maxHeartbeats 4000000 in
set_option maxRecDepth 20000 in
theorem wX3_expandCurrent_56 (C : js_C D g p m c cX3_expandCurrent 6 s args RX3) (hr : meth.sig.returnType = none) (hk : meth.locks = false) (rc5 : Nat → Nat → Nat → Int32 → Int32 → js_S → Option (Unit × js_S)) (hrc5 : ∀ (x0 : Nat) (x1 : Nat) (x2 : Nat) (x3 : Int32) (x4 : Int32) (σ : js_S) (r0 : Unit) (σ0 : js_S), rc5 x0 x1 x2 x3 x4 σ = some (r0, σ0) → ob_ nn 3 x0 → ob_ nn 6 x1 → ob_ nn 7 x2 → js_at p l e 5 s m args below meth c D B g nn 5 6 [(0, .ref (B + x0)), (1, .ref (B + x1)), (2, .ref (B + x2)), (3, .int x3), (4, .int x4)] [] σ (js_QV D B g nn σ0)) : ∀ (x0 : Nat) (x1 : Nat) (x2 : Nat) (x3 : Int32) (x4 : Int32) (σ : js_S) (r0 : Unit) (σ0 : js_S), fX3_expandCurrent_56 fu rc5 x0 x1 x2 x3 x4 σ = some (r0, σ0) → ob_ nn 3 x0 → ob_ nn 6 x1 → ob_ nn 7 x2 → js_at p l e 5 s m args below meth c D B g nn 56 6 [(0, .ref (B + x0)), (1, .ref (B + x1)), (2, .ref (B + x2)), (3, .int x3), (4, .int x4)] [] σ (js_QV D B g nn σ0) := by
  obtain ⟨hx, hb, hml, hown, ht, hK, hNw⟩ := id C
  intro x0 x1 x2 x3 x4 σ r0 σ0 h t0 t1 t2 H locs hT ls hl
  unfold fX3_expandCurrent_56 at h
  refine lv_iinc (v := x4 + 1) (lv' := [(4, .int (x4 + 1)), (0, .ref (B + x0)), (1, .ref (B + x1)), (2, .ref (B + x2)), (3, .int x3)]) hx hb dX3_expandCurrent_56 hl (k := 4) rfl rfl (by decide) rfl (fun ls hl => ?_)
  refine lv_goto (tgt := 5) hx hb dX3_expandCurrent_59 (by decide) ?_
  exact hrc5 _ _ _ _ _ _ _ _ h t0 t1 t2 H locs hT ls (lv_sub hl [1, 2, 3, 4, 0] rfl)
set_option maxHeartbeats 4000000 in
set_option maxRecDepth 20000 in
theorem wX3_expandCurrent_43 (C : js_C D g p m c cX3_expandCurrent 6 s args RX3) (hr : meth.sig.returnType = none) (hk : meth.locks = false) (rc5 : Nat → Nat → Nat → Int32 → Int32 → js_S → Option (Unit × js_S)) (hrc5 : ∀ (x0 : Nat) (x1 : Nat) (x2 : Nat) (x3 : Int32) (x4 : Int32) (σ : js_S) (r0 : Unit) (σ0 : js_S), rc5 x0 x1 x2 x3 x4 σ = some (r0, σ0) → ob_ nn 3 x0 → ob_ nn 6 x1 → ob_ nn 7 x2 → js_at p l e 5 s m args below meth c D B g nn 5 6 [(0, .ref (B + x0)), (1, .ref (B + x1)), (2, .ref (B + x2)), (3, .int x3), (4, .int x4)] [] σ (js_QV D B g nn σ0)) : ∀ (x0 : Nat) (x1 : Nat) (x2 : Nat) (x3 : Int32) (x4 : Int32) (x5 : Int32) (σ : js_S) (r0 : Unit) (σ0 : js_S), fX3_expandCurrent_43 fu rc5 x0 x1 x2 x3 x4 x5 σ = some (r0, σ0) → ob_ nn 3 x0 → ob_ nn 6 x1 → ob_ nn 7 x2 → js_at p l e 5 s m args below meth c D B g nn 43 6 [(0, .ref (B + x0)), (1, .ref (B + x1)), (2, .ref (B + x2)), (3, .int x3), (4, .int x4), (5, .int x5)] [] σ (js_QV D B g nn σ0) := by
  obtain ⟨hx, hb, hml, hown, ht, hK, hNw⟩ := id C
  intro x0 x1 x2 x3 x4 x5 σ r0 σ0 h t0 t1 t2 H locs hT ls hl
  unfold fX3_expandCurrent_43 at h
  refine lv_iload hx hb dX3_expandCurrent_43 (lv_at hl 5 rfl) ?_
  refine lv_if_lt (tgt := 56) hx hb dX3_expandCurrent_45 (by decide) (fun c1 => ?_) (fun c1 => ?_)
  · rw [if_pos c1] at h
    exact wX3_expandCurrent_56 C hr hk rc5 hrc5 _ _ _ _ _ _ _ _ h t0 t1 t2 H locs hT ls (lv_sub hl [0, 1, 2, 3, 4] rfl)
  · rw [if_neg c1] at h
    refine lv_aload_n hx hb dX3_expandCurrent_48 rfl (lv_at hl 0 rfl) ?_
    refine lv_aload_n hx hb dX3_expandCurrent_49 rfl (lv_at hl 0 rfl) ?_
    refine js_gR C hT cfX3 t0 2 (by decide) (q := 9) rfl (by decide) lk_X3_22 dX3_expandCurrent_50 (fun t2a => ?_)
    obtain ⟨z3, σ3, hc3, h⟩ := bd_some h
    refine js_backV hT (js_runV C hT cfX3 t0 rfl mfX3_discover lk_X3_52 (kX3_discover t0 t2a hc3) ⟨Nat.le_of_ble_eq_true rfl, Nat.le_of_ble_eq_true rfl⟩ rfl hl.1 rfl (Nat.le_of_ble_eq_true rfl) ⟨Nat.zero_le _, Nat.zero_le _⟩ dX3_expandCurrent_53) (fun H locs hT => ?_)
    exact wX3_expandCurrent_56 C hr hk rc5 hrc5 _ _ _ _ _ _ _ _ h t0 t1 t2 H locs hT ls (lv_sub hl [0, 1, 2, 3, 4] rfl)
set_option maxHeartbeats 4000000 in
set_option maxRecDepth 20000 in
theorem wX3_expandCurrent_5b (C : js_C D g p m c cX3_expandCurrent 6 s args RX3) (hr : meth.sig.returnType = none) (hk : meth.locks = false) (rc5 : Nat → Nat → Nat → Int32 → Int32 → js_S → Option (Unit × js_S)) (hrc5 : ∀ (x0 : Nat) (x1 : Nat) (x2 : Nat) (x3 : Int32) (x4 : Int32) (σ : js_S) (r0 : Unit) (σ0 : js_S), rc5 x0 x1 x2 x3 x4 σ = some (r0, σ0) → ob_ nn 3 x0 → ob_ nn 6 x1 → ob_ nn 7 x2 → js_at p l e 5 s m args below meth c D B g nn 5 6 [(0, .ref (B + x0)), (1, .ref (B + x1)), (2, .ref (B + x2)), (3, .int x3), (4, .int x4)] [] σ (js_QV D B g nn σ0)) : ∀ (x0 : Nat) (x1 : Nat) (x2 : Nat) (x3 : Int32) (x4 : Int32) (σ : js_S) (r0 : Unit) (σ0 : js_S), fX3_expandCurrent_5b fu rc5 x0 x1 x2 x3 x4 σ = some (r0, σ0) → ob_ nn 3 x0 → ob_ nn 6 x1 → ob_ nn 7 x2 → js_at p l e 5 s m args below meth c D B g nn 5 6 [(0, .ref (B + x0)), (1, .ref (B + x1)), (2, .ref (B + x2)), (3, .int x3), (4, .int x4)] [] σ (js_QV D B g nn σ0) := by
  obtain ⟨hx, hb, hml, hown, ht, hK, hNw⟩ := id C
  intro x0 x1 x2 x3 x4 σ r0 σ0 h t0 t1 t2 H locs hT ls hl
  unfold fX3_expandCurrent_5b at h
  refine lv_iload hx hb dX3_expandCurrent_5 (lv_at hl 4 rfl) ?_
  refine lv_aload_n hx hb dX3_expandCurrent_7 rfl (lv_at hl 0 rfl) ?_
  refine js_gR C hT cfX3 t0 3 (by decide) (q := 9) rfl (by decide) lk_X3_26 dX3_expandCurrent_8 (fun t1a => ?_)
  refine js_gIN C hT cfX9 t1a 1 (by decide) rfl lk_X3_67 dX3_expandCurrent_11 ?_
  refine lv_icmp_ge (tgt := 62) hx hb dX3_expandCurrent_14 (by decide) (fun c2 => ?_) (fun c2 => ?_)
  · rw [if_pos c2] at h
    refine lv_iload_n hx hb dX3_expandCurrent_62 rfl (lv_at hl 3 rfl) ?_
    refine lv_if_eq (tgt := 70) hx hb dX3_expandCurrent_63 (by decide) (fun c3 => ?_) (fun c3 => ?_)
    · rw [if_pos c3] at h
      obtain ⟨rfl, rfl⟩ := js_rt h
      exact js_vret C hT hr hk dX3_expandCurrent_70
    · rw [if_neg c3] at h
      refine lv_aload_n hx hb dX3_expandCurrent_66 rfl (lv_at hl 0 rfl) ?_
      obtain ⟨z4, σ4, hc4, h⟩ := bd_some h
      refine js_backV hT (js_runV C hT cfX3 t0 rfl mfX3_noteNormalForm lk_X3_76 (kX3_noteNormalForm t0 hc4) ⟨Nat.le_of_ble_eq_true rfl, Nat.le_of_ble_eq_true rfl⟩ rfl hl.1 rfl (Nat.le_of_ble_eq_true rfl) ⟨Nat.zero_le _, Nat.zero_le _⟩ dX3_expandCurrent_67) (fun H locs hT => ?_)
      obtain ⟨rfl, rfl⟩ := js_rt h
      exact js_vret C hT hr hk dX3_expandCurrent_70
  · rw [if_neg c2] at h
    refine lv_aload_n hx hb dX3_expandCurrent_17 rfl (lv_at hl 2 rfl) ?_
    refine lv_aload_n hx hb dX3_expandCurrent_18 rfl (lv_at hl 1 rfl) ?_
    refine lv_aload_n hx hb dX3_expandCurrent_19 rfl (lv_at hl 0 rfl) ?_
    refine js_gR C hT cfX3 t0 3 (by decide) (q := 9) rfl (by decide) lk_X3_26 dX3_expandCurrent_20 (fun t5a => ?_)
    refine lv_iload hx hb dX3_expandCurrent_23 (lv_at hl 4 rfl) ?_
    refine lv_aload_n hx hb dX3_expandCurrent_25 rfl (lv_at hl 0 rfl) ?_
    refine js_gR C hT cfX3 t0 2 (by decide) (q := 9) rfl (by decide) lk_X3_22 dX3_expandCurrent_26 (fun t6a => ?_)
    obtain ⟨r7, σ7, hc7, h⟩ := bd_some h
    refine js_backI hT (js_runV C hT cfX7 t2 rfl mfX7_step lk_X3_70 (kX7_step t2 t1 t5a t6a hc7) ⟨Nat.le_of_ble_eq_true rfl, Nat.le_of_ble_eq_true rfl⟩ rfl hl.1 rfl (Nat.le_of_ble_eq_true rfl) ⟨Nat.zero_le _, Nat.zero_le _⟩ dX3_expandCurrent_29) (fun H locs hT => ?_)
    refine lv_istore (lv' := [(5, .int r7), (0, .ref (B + x0)), (1, .ref (B + x1)), (2, .ref (B + x2)), (3, .int x3), (4, .int x4)]) hx hb dX3_expandCurrent_32 hl (by decide) rfl (fun ls hl => ?_)
    refine lv_iload hx hb dX3_expandCurrent_34 (lv_at hl 0 rfl) ?_
    refine lv_bipush (v := (-5)) hx hb dX3_expandCurrent_36 (by decide) ?_
    refine lv_icmp_eq (tgt := 43) hx hb dX3_expandCurrent_38 (by decide) (fun c8 => ?_) (fun c8 => ?_)
    · rw [if_pos c8] at h
      exact wX3_expandCurrent_43 C hr hk rc5 hrc5 _ _ _ _ _ _ _ _ _ h t0 t1 t2 H locs hT ls (lv_sub hl [1, 2, 3, 4, 5, 0] rfl)
    · rw [if_neg c8] at h
      refine lv_iconst (v := 0) hx hb dX3_expandCurrent_41 (by decide) ?_
      refine lv_istore_n (lv' := [(3, .int 0), (5, .int r7), (0, .ref (B + x0)), (1, .ref (B + x1)), (2, .ref (B + x2)), (4, .int x4)]) hx hb dX3_expandCurrent_42 rfl hl (by decide) rfl (fun ls hl => ?_)
      exact wX3_expandCurrent_43 C hr hk rc5 hrc5 _ _ _ _ _ _ _ _ _ h t0 t1 t2 H locs hT ls (lv_sub hl [2, 3, 4, 0, 5, 1] rfl)
set_option maxHeartbeats 4000000 in
set_option maxRecDepth 20000 in
theorem wX3_expandCurrent_5 (C : js_C D g p m c cX3_expandCurrent 6 s args RX3) (hr : meth.sig.returnType = none) (hk : meth.locks = false) : ∀ (k : Nat), ∀ (x0 : Nat) (x1 : Nat) (x2 : Nat) (x3 : Int32) (x4 : Int32) (σ : js_S) (r0 : Unit) (σ0 : js_S), fX3_expandCurrent_5 fu k x0 x1 x2 x3 x4 σ = some (r0, σ0) → ob_ nn 3 x0 → ob_ nn 6 x1 → ob_ nn 7 x2 → js_at p l e 5 s m args below meth c D B g nn 5 6 [(0, .ref (B + x0)), (1, .ref (B + x1)), (2, .ref (B + x2)), (3, .int x3), (4, .int x4)] [] σ (js_QV D B g nn σ0) := by
  intro k
  induction k with
  | zero =>
    intro x0 x1 x2 x3 x4 σ r0 σ0 h
    cases h
  | succ k ih =>
    intro x0 x1 x2 x3 x4 σ r0 σ0 h
    exact wX3_expandCurrent_5b C hr hk (fX3_expandCurrent_5 fu k) ih x0 x1 x2 x3 x4 σ r0 σ0 h
set_option maxHeartbeats 4000000 in
set_option maxRecDepth 20000 in
theorem kX3_expandCurrent {x0 : Nat} {x1 : Nat} {x2 : Nat} {σ σ0 : js_S} {r0 : Unit} (t0 : ob_ nn 3 x0) (t1 : ob_ nn 6 x1) (t2 : ob_ nn 7 x2) (h : fX3_expandCurrent fu x0 x1 x2 σ = some (r0, σ0)) : js_M l D B g nn yX3_expandCurrent cX3_expandCurrent 6 none 5 [.ref (B + x0), .ref (B + x1), .ref (B + x2)] σ (js_QV D B g nn σ0) := by
  refine js_enter (by decide) (Nat.le_of_ble_eq_true rfl) ?_
  intro p e s m args below meth c C hr hk ls hl hT
  have hl : lv_has ls 6 [(0, .ref (B + x0)), (1, .ref (B + x1)), (2, .ref (B + x2))] := hl
  obtain ⟨hx, hb, hml, hown, ht, hK, hNw⟩ := id C
  obtain ⟨H, eH⟩ : ∃ H, H = s.heap := ⟨_, rfl⟩
  obtain ⟨locs, eL⟩ : ∃ z : List Loc, z = [] := ⟨_, rfl⟩
  rw [← eH, ← eL]
  rw [← eH, ← eL] at hT
  clear eH eL
  unfold fX3_expandCurrent at h
  refine lv_iconst (v := 1) hx hb dX3_expandCurrent_0 (by decide) ?_
  refine lv_istore_n (lv' := [(3, .int 1), (0, .ref (B + x0)), (1, .ref (B + x1)), (2, .ref (B + x2))]) hx hb dX3_expandCurrent_1 rfl hl (by decide) rfl (fun ls hl => ?_)
  refine lv_iconst (v := 0) hx hb dX3_expandCurrent_2 (by decide) ?_
  refine lv_istore (lv' := [(4, .int 0), (3, .int 1), (0, .ref (B + x0)), (1, .ref (B + x1)), (2, .ref (B + x2))]) hx hb dX3_expandCurrent_3 hl (by decide) rfl (fun ls hl => ?_)
  exact wX3_expandCurrent_5 C hr hk _ _ _ _ _ _ _ _ _ h t0 t1 t2 H locs hT ls (lv_sub hl [2, 3, 4, 1, 0] rfl)
set_option maxHeartbeats 4000000 in
set_option maxRecDepth 20000 in
theorem kX11_hasRegister {x0 : Int32} {σ σ0 : js_S} {r0 : Int32} (h : fX11_hasRegister fu x0 σ = some (r0, σ0)) : js_M l D B g nn yX11_hasRegister cX11_hasRegister 1 (some .boolean) 0 [.int x0] σ (js_QI D B g nn r0 σ0) := by
  refine js_enter (by decide) (Nat.le_of_ble_eq_true rfl) ?_
  intro p e s m args below meth c C hr hk ls hl hT
  have hl : lv_has ls 1 [(0, .int x0)] := hl
  obtain ⟨hx, hb, hml, hown, ht, hK, hNw⟩ := id C
  obtain ⟨H, eH⟩ : ∃ H, H = s.heap := ⟨_, rfl⟩
  obtain ⟨locs, eL⟩ : ∃ z : List Loc, z = [] := ⟨_, rfl⟩
  rw [← eH, ← eL]
  rw [← eH, ← eL] at hT
  clear eH eL
  unfold fX11_hasRegister at h
  refine lv_iload_n hx hb dX11_hasRegister_0 rfl (lv_at hl 0 rfl) ?_
  refine lv_if_lt (tgt := 13) hx hb dX11_hasRegister_1 (by decide) (fun c1 => ?_) (fun c1 => ?_)
  · rw [if_pos c1] at h
    refine lv_iconst (v := 0) hx hb dX11_hasRegister_13 (by decide) ?_
    obtain ⟨rfl, rfl⟩ := js_rt h
    exact js_zret C hT hr hk rfl dX11_hasRegister_14
  · rw [if_neg c1] at h
    refine lv_iload_n hx hb dX11_hasRegister_4 rfl (lv_at hl 0 rfl) ?_
    refine lv_iconst (v := 4) hx hb dX11_hasRegister_5 (by decide) ?_
    refine lv_icmp_ge (tgt := 13) hx hb dX11_hasRegister_6 (by decide) (fun c2 => ?_) (fun c2 => ?_)
    · rw [if_pos c2] at h
      refine lv_iconst (v := 0) hx hb dX11_hasRegister_13 (by decide) ?_
      obtain ⟨rfl, rfl⟩ := js_rt h
      exact js_zret C hT hr hk rfl dX11_hasRegister_14
    · rw [if_neg c2] at h
      refine lv_iconst (v := 1) hx hb dX11_hasRegister_9 (by decide) ?_
      refine lv_goto (tgt := 14) hx hb dX11_hasRegister_10 (by decide) ?_
      obtain ⟨rfl, rfl⟩ := js_rt h
      exact js_zret C hT hr hk rfl dX11_hasRegister_14
set_option maxHeartbeats 4000000 in
set_option maxRecDepth 20000 in
theorem wX3_takeLowest_2b (C : js_C D g p m c cX3_takeLowest 2 s args RX3) (hr : meth.sig.returnType = (some .boolean)) (hk : meth.locks = false) (rc2 : Nat → Int32 → js_S → Option (Int32 × js_S)) (hrc2 : ∀ (x0 : Nat) (x1 : Int32) (σ : js_S) (r0 : Int32) (σ0 : js_S), rc2 x0 x1 σ = some (r0, σ0) → ob_ nn 3 x0 → js_at p l e 1 s m args below meth c D B g nn 2 2 [(0, .ref (B + x0)), (1, .int x1)] [] σ (js_QI D B g nn r0 σ0)) : ∀ (x0 : Nat) (x1 : Int32) (σ : js_S) (r0 : Int32) (σ0 : js_S), fX3_takeLowest_2b fu rc2 x0 x1 σ = some (r0, σ0) → ob_ nn 3 x0 → js_at p l e 1 s m args below meth c D B g nn 2 2 [(0, .ref (B + x0)), (1, .int x1)] [] σ (js_QI D B g nn r0 σ0) := by
  obtain ⟨hx, hb, hml, hown, ht, hK, hNw⟩ := id C
  intro x0 x1 σ r0 σ0 h t0 H locs hT ls hl
  unfold fX3_takeLowest_2b at h
  refine lv_iload_n hx hb dX3_takeLowest_2 rfl (lv_at hl 1 rfl) ?_
  refine lv_aload_n hx hb dX3_takeLowest_3 rfl (lv_at hl 0 rfl) ?_
  refine js_gI C hT cfX3 t0 5 (by decide) rfl lk_X3_36 dX3_takeLowest_4 ?_
  refine lv_icmp_ge (tgt := 53) hx hb dX3_takeLowest_7 (by decide) (fun c1 => ?_) (fun c1 => ?_)
  · rw [if_pos c1] at h
    refine lv_iconst (v := 0) hx hb dX3_takeLowest_53 (by decide) ?_
    obtain ⟨rfl, rfl⟩ := js_rt h
    exact js_zret C hT hr hk rfl dX3_takeLowest_54
  · rw [if_neg c1] at h
    refine lv_iload_n hx hb dX3_takeLowest_10 rfl (lv_at hl 1 rfl) ?_
    refine lv_bipush (v := 30) hx hb dX3_takeLowest_11 (by decide) ?_
    refine lv_icmp_ge (tgt := 53) hx hb dX3_takeLowest_13 (by decide) (fun c2 => ?_) (fun c2 => ?_)
    · rw [if_pos c2] at h
      refine lv_iconst (v := 0) hx hb dX3_takeLowest_53 (by decide) ?_
      obtain ⟨rfl, rfl⟩ := js_rt h
      exact js_zret C hT hr hk rfl dX3_takeLowest_54
    · rw [if_neg c2] at h
      refine lv_aload_n hx hb dX3_takeLowest_16 rfl (lv_at hl 0 rfl) ?_
      refine js_gR C hT cfX3 t0 1 (by decide) (q := 22) rfl (by decide) lk_X3_17 dX3_takeLowest_17 (fun t3a => ?_)
      refine lv_iload_n hx hb dX3_takeLowest_20 rfl (lv_at hl 1 rfl) ?_
      obtain ⟨g4, h⟩ := gd_some _ h
      refine js_zald C hT t3a g4 dX3_takeLowest_21 ?_
      refine lv_if_ne (tgt := 47) hx hb dX3_takeLowest_22 (by decide) (fun c5 => ?_) (fun c5 => ?_)
      · rw [if_neg c5] at h
        refine lv_iinc (v := x1 + 1) (lv' := [(1, .int (x1 + 1)), (0, .ref (B + x0))]) hx hb dX3_takeLowest_47 hl (k := 1) rfl rfl (by decide) rfl (fun ls hl => ?_)
        refine lv_goto (tgt := 2) hx hb dX3_takeLowest_50 (by decide) ?_
        exact hrc2 _ _ _ _ _ h t0 H locs hT ls (lv_sub hl [1, 0] rfl)
      · rw [if_pos c5] at h
        refine lv_aload_n hx hb dX3_takeLowest_25 rfl (lv_at hl 0 rfl) ?_
        refine js_gR C hT cfX3 t0 1 (by decide) (q := 22) rfl (by decide) lk_X3_17 dX3_takeLowest_26 (fun t6a => ?_)
        refine lv_iload_n hx hb dX3_takeLowest_29 rfl (lv_at hl 1 rfl) ?_
        refine lv_iconst (v := 1) hx hb dX3_takeLowest_30 (by decide) ?_
        obtain ⟨g7, h⟩ := gd_some _ h
        obtain ⟨σ7, e7, h⟩ := lt_some h
        refine js_zast C hT t6a g7 dX3_takeLowest_31 (fun H locs hT => ?_)
        rw [e7] at hT
        refine lv_aload_n hx hb dX3_takeLowest_32 rfl (lv_at hl 0 rfl) ?_
        refine js_gR C hT cfX3 t0 3 (by decide) (q := 9) rfl (by decide) lk_X3_26 dX3_takeLowest_33 (fun t8a => ?_)
        refine lv_aload_n hx hb dX3_takeLowest_36 rfl (lv_at hl 0 rfl) ?_
        refine js_gR C hT cfX3 t0 0 (by decide) (q := 23) rfl (by decide) lk_X3_13 dX3_takeLowest_37 (fun t9a => ?_)
        refine lv_iload_n hx hb dX3_takeLowest_40 rfl (lv_at hl 1 rfl) ?_
        obtain ⟨g10, h⟩ := gd_some _ h
        refine js_aald C hT t9a g10 dX3_takeLowest_41 (fun t10a => ?_)
        obtain ⟨z11, σ11, hc11, h⟩ := bd_some h
        refine js_backV hT (js_runV C hT cfX9 t8a rfl mfX9_copyFrom lk_X3_64 (kX9_copyFrom t8a t10a hc11) ⟨Nat.le_of_ble_eq_true rfl, Nat.le_of_ble_eq_true rfl⟩ rfl hl.1 rfl (Nat.le_of_ble_eq_true rfl) ⟨Nat.zero_le _, Nat.zero_le _⟩ dX3_takeLowest_42) (fun H locs hT => ?_)
        refine lv_iconst (v := 1) hx hb dX3_takeLowest_45 (by decide) ?_
        obtain ⟨rfl, rfl⟩ := js_rt h
        exact js_zret C hT hr hk rfl dX3_takeLowest_46
set_option maxHeartbeats 4000000 in
set_option maxRecDepth 20000 in
theorem wX3_takeLowest_2 (C : js_C D g p m c cX3_takeLowest 2 s args RX3) (hr : meth.sig.returnType = (some .boolean)) (hk : meth.locks = false) : ∀ (k : Nat), ∀ (x0 : Nat) (x1 : Int32) (σ : js_S) (r0 : Int32) (σ0 : js_S), fX3_takeLowest_2 fu k x0 x1 σ = some (r0, σ0) → ob_ nn 3 x0 → js_at p l e 1 s m args below meth c D B g nn 2 2 [(0, .ref (B + x0)), (1, .int x1)] [] σ (js_QI D B g nn r0 σ0) := by
  intro k
  induction k with
  | zero =>
    intro x0 x1 σ r0 σ0 h
    cases h
  | succ k ih =>
    intro x0 x1 σ r0 σ0 h
    exact wX3_takeLowest_2b C hr hk (fX3_takeLowest_2 fu k) ih x0 x1 σ r0 σ0 h
set_option maxHeartbeats 4000000 in
set_option maxRecDepth 20000 in
theorem kX3_takeLowest {x0 : Nat} {σ σ0 : js_S} {r0 : Int32} (t0 : ob_ nn 3 x0) (h : fX3_takeLowest fu x0 σ = some (r0, σ0)) : js_M l D B g nn yX3_takeLowest cX3_takeLowest 2 (some .boolean) 1 [.ref (B + x0)] σ (js_QI D B g nn r0 σ0) := by
  refine js_enter (by decide) (Nat.le_of_ble_eq_true rfl) ?_
  intro p e s m args below meth c C hr hk ls hl hT
  have hl : lv_has ls 2 [(0, .ref (B + x0))] := hl
  obtain ⟨hx, hb, hml, hown, ht, hK, hNw⟩ := id C
  obtain ⟨H, eH⟩ : ∃ H, H = s.heap := ⟨_, rfl⟩
  obtain ⟨locs, eL⟩ : ∃ z : List Loc, z = [] := ⟨_, rfl⟩
  rw [← eH, ← eL]
  rw [← eH, ← eL] at hT
  clear eH eL
  unfold fX3_takeLowest at h
  refine lv_iconst (v := 0) hx hb dX3_takeLowest_0 (by decide) ?_
  refine lv_istore_n (lv' := [(1, .int 0), (0, .ref (B + x0))]) hx hb dX3_takeLowest_1 rfl hl (by decide) rfl (fun ls hl => ?_)
  exact wX3_takeLowest_2 C hr hk _ _ _ _ _ _ h t0 H locs hT ls (lv_sub hl [1, 0] rfl)
set_option maxHeartbeats 4000000 in
set_option maxRecDepth 20000 in
theorem kX6_register {x0 : Nat} {x1 : Int32} {σ σ0 : js_S} {r0 : Nat} (t0 : ob_ nn 6 x0) (h : fX6_register fu x0 x1 σ = some (r0, σ0)) : js_M l D B g nn yX6_register cX6_register 2 (some (.object "DependencyPairAnalyzer$Term")) 0 [.ref (B + x0), .int x1] σ (js_QR D B g nn 9 r0 σ0) := by
  refine js_enter (by decide) (Nat.le_of_ble_eq_true rfl) ?_
  intro p e s m args below meth c C hr hk ls hl hT
  have hl : lv_has ls 2 [(0, .ref (B + x0)), (1, .int x1)] := hl
  obtain ⟨hx, hb, hml, hown, ht, hK, hNw⟩ := id C
  obtain ⟨H, eH⟩ : ∃ H, H = s.heap := ⟨_, rfl⟩
  obtain ⟨locs, eL⟩ : ∃ z : List Loc, z = [] := ⟨_, rfl⟩
  rw [← eH, ← eL]
  rw [← eH, ← eL] at hT
  clear eH eL
  unfold fX6_register at h
  refine lv_iload_n hx hb dX6_register_0 rfl (lv_at hl 1 rfl) ?_
  refine lv_if_lt (tgt := 22) hx hb dX6_register_1 (by decide) (fun c1 => ?_) (fun c1 => ?_)
  · rw [if_pos c1] at h
    refine lv_aload_n hx hb dX6_register_22 rfl (lv_at hl 0 rfl) ?_
    refine js_gR C hT cfX6 t0 4 (by decide) (q := 9) rfl (by decide) lk_X6_31 dX6_register_23 (fun t2a => ?_)
    obtain ⟨rfl, rfl⟩ := js_rt h
    exact js_aret C hT t2a hr hk dX6_register_26
  · rw [if_neg c1] at h
    refine lv_iload_n hx hb dX6_register_4 rfl (lv_at hl 1 rfl) ?_
    refine lv_aload_n hx hb dX6_register_5 rfl (lv_at hl 0 rfl) ?_
    refine js_gR C hT cfX6 t0 3 (by decide) (q := 23) rfl (by decide) lk_X6_27 dX6_register_6 (fun t3a => ?_)
    refine js_alen C hT t3a (Or.inr (Or.inr (Or.inr rfl))) dX6_register_9 ?_
    refine lv_icmp_ge (tgt := 22) hx hb dX6_register_10 (by decide) (fun c4 => ?_) (fun c4 => ?_)
    · rw [if_pos c4] at h
      refine lv_aload_n hx hb dX6_register_22 rfl (lv_at hl 0 rfl) ?_
      refine js_gR C hT cfX6 t0 4 (by decide) (q := 9) rfl (by decide) lk_X6_31 dX6_register_23 (fun t5a => ?_)
      obtain ⟨rfl, rfl⟩ := js_rt h
      exact js_aret C hT t5a hr hk dX6_register_26
    · rw [if_neg c4] at h
      refine lv_aload_n hx hb dX6_register_13 rfl (lv_at hl 0 rfl) ?_
      refine js_gR C hT cfX6 t0 3 (by decide) (q := 23) rfl (by decide) lk_X6_27 dX6_register_14 (fun t6a => ?_)
      refine lv_iload_n hx hb dX6_register_17 rfl (lv_at hl 1 rfl) ?_
      obtain ⟨g7, h⟩ := gd_some _ h
      refine js_aald C hT t6a g7 dX6_register_18 (fun t7a => ?_)
      refine lv_goto (tgt := 26) hx hb dX6_register_19 (by decide) ?_
      obtain ⟨rfl, rfl⟩ := js_rt h
      exact js_aret C hT t7a hr hk dX6_register_26
set_option maxHeartbeats 4000000 in
set_option maxRecDepth 20000 in
theorem wX3_run_52b (C : js_C D g p m c cX3_run 6 s args RX3) (hr : meth.sig.returnType = (some .int)) (hk : meth.locks = false) (rc52 : Nat → Nat → Nat → Int32 → Int32 → js_S → Option (Int32 × js_S)) (hrc52 : ∀ (x0 : Nat) (x1 : Nat) (x2 : Nat) (x4 : Int32) (x5 : Int32) (σ : js_S) (r0 : Int32) (σ0 : js_S), rc52 x0 x1 x2 x4 x5 σ = some (r0, σ0) → ob_ nn 3 x0 → ob_ nn 6 x1 → ob_ nn 7 x2 → js_at p l e 6 s m args below meth c D B g nn 52 6 [(0, .ref (B + x0)), (1, .ref (B + x1)), (2, .ref (B + x2)), (4, .int x4), (5, .int x5)] [] σ (js_QI D B g nn r0 σ0)) : ∀ (x0 : Nat) (x1 : Nat) (x2 : Nat) (x4 : Int32) (x5 : Int32) (σ : js_S) (r0 : Int32) (σ0 : js_S), fX3_run_52b fu rc52 x0 x1 x2 x4 x5 σ = some (r0, σ0) → ob_ nn 3 x0 → ob_ nn 6 x1 → ob_ nn 7 x2 → js_at p l e 6 s m args below meth c D B g nn 52 6 [(0, .ref (B + x0)), (1, .ref (B + x1)), (2, .ref (B + x2)), (4, .int x4), (5, .int x5)] [] σ (js_QI D B g nn r0 σ0) := by
  obtain ⟨hx, hb, hml, hown, ht, hK, hNw⟩ := id C
  intro x0 x1 x2 x4 x5 σ r0 σ0 h t0 t1 t2 H locs hT ls hl
  unfold fX3_run_52b at h
  refine lv_iload hx hb dX3_run_52 (lv_at hl 4 rfl) ?_
  refine lv_iload hx hb dX3_run_54 (lv_at hl 3 rfl) ?_
  refine lv_icmp_ge (tgt := 88) hx hb dX3_run_56 (by decide) (fun c1 => ?_) (fun c1 => ?_)
  · rw [if_pos c1] at h
    refine lv_iconst (v := 0) hx hb dX3_run_88 (by decide) ?_
    obtain ⟨rfl, rfl⟩ := js_rt h
    exact js_iret C hT hr hk dX3_run_89
  · rw [if_neg c1] at h
    refine lv_aload_n hx hb dX3_run_59 rfl (lv_at hl 0 rfl) ?_
    obtain ⟨r2, σ2, hc2, h⟩ := bd_some h
    refine js_backI hT (js_runV C hT cfX3 t0 rfl mfX3_takeLowest lk_X3_56 (kX3_takeLowest t0 hc2) ⟨Nat.le_of_ble_eq_true rfl, Nat.le_of_ble_eq_true rfl⟩ rfl hl.1 rfl (Nat.le_of_ble_eq_true rfl) ⟨Nat.zero_le _, Nat.zero_le _⟩ dX3_run_60) (fun H locs hT => ?_)
    refine lv_if_eq (tgt := 88) hx hb dX3_run_63 (by decide) (fun c3 => ?_) (fun c3 => ?_)
    · rw [if_pos c3] at h
      refine lv_iconst (v := 0) hx hb dX3_run_88 (by decide) ?_
      obtain ⟨rfl, rfl⟩ := js_rt h
      exact js_iret C hT hr hk dX3_run_89
    · rw [if_neg c3] at h
      refine lv_aload_n hx hb dX3_run_66 rfl (lv_at hl 0 rfl) ?_
      refine lv_dup hx hb dX3_run_67 rfl ?_
      refine js_gI C hT cfX3 t0 6 (by decide) rfl lk_X3_40 dX3_run_68 ?_
      refine lv_iconst (v := 1) hx hb dX3_run_71 (by decide) ?_
      refine lv_iadd hx hb dX3_run_72 ?_
      obtain ⟨σ4, e4, h⟩ := lt_some h
      refine js_pI C hT cfX3 t0 6 (by decide) rfl rfl rfl rfl lk_X3_40 dX3_run_73 (fun H locs hT => ?_)
      rw [e4] at hT
      refine lv_aload_n hx hb dX3_run_76 rfl (lv_at hl 0 rfl) ?_
      refine lv_aload_n hx hb dX3_run_77 rfl (lv_at hl 1 rfl) ?_
      refine lv_aload_n hx hb dX3_run_78 rfl (lv_at hl 2 rfl) ?_
      obtain ⟨z5, σ5, hc5, h⟩ := bd_some h
      refine js_backV hT (js_runV C hT cfX3 t0 rfl mfX3_expandCurrent lk_X3_60 (kX3_expandCurrent t0 t1 t2 hc5) ⟨Nat.le_of_ble_eq_true rfl, Nat.le_of_ble_eq_true rfl⟩ rfl hl.1 rfl (Nat.le_of_ble_eq_true rfl) ⟨Nat.zero_le _, Nat.zero_le _⟩ dX3_run_79) (fun H locs hT => ?_)
      refine lv_iinc (v := x5 + 1) (lv' := [(5, .int (x5 + 1)), (0, .ref (B + x0)), (1, .ref (B + x1)), (2, .ref (B + x2)), (4, .int x4)]) hx hb dX3_run_82 hl (k := 4) rfl rfl (by decide) rfl (fun ls hl => ?_)
      refine lv_goto (tgt := 52) hx hb dX3_run_85 (by decide) ?_
      exact hrc52 _ _ _ _ _ _ _ _ h t0 t1 t2 H locs hT ls (lv_sub hl [1, 2, 3, 4, 0] rfl)
set_option maxHeartbeats 4000000 in
set_option maxRecDepth 20000 in
theorem wX3_run_52 (C : js_C D g p m c cX3_run 6 s args RX3) (hr : meth.sig.returnType = (some .int)) (hk : meth.locks = false) : ∀ (k : Nat), ∀ (x0 : Nat) (x1 : Nat) (x2 : Nat) (x4 : Int32) (x5 : Int32) (σ : js_S) (r0 : Int32) (σ0 : js_S), fX3_run_52 fu k x0 x1 x2 x4 x5 σ = some (r0, σ0) → ob_ nn 3 x0 → ob_ nn 6 x1 → ob_ nn 7 x2 → js_at p l e 6 s m args below meth c D B g nn 52 6 [(0, .ref (B + x0)), (1, .ref (B + x1)), (2, .ref (B + x2)), (4, .int x4), (5, .int x5)] [] σ (js_QI D B g nn r0 σ0) := by
  intro k
  induction k with
  | zero =>
    intro x0 x1 x2 x4 x5 σ r0 σ0 h
    cases h
  | succ k ih =>
    intro x0 x1 x2 x4 x5 σ r0 σ0 h
    exact wX3_run_52b C hr hk (fX3_run_52 fu k) ih x0 x1 x2 x4 x5 σ r0 σ0 h
set_option maxHeartbeats 4000000 in
set_option maxRecDepth 20000 in
theorem kX3_run {x0 : Nat} {x1 : Nat} {x2 : Nat} {x3 : Int32} {x4 : Int32} {σ σ0 : js_S} {r0 : Int32} (t0 : ob_ nn 3 x0) (t1 : ob_ nn 6 x1) (t2 : ob_ nn 7 x2) (h : fX3_run fu x0 x1 x2 x3 x4 σ = some (r0, σ0)) : js_M l D B g nn yX3_run cX3_run 6 (some .int) 6 [.ref (B + x0), .ref (B + x1), .ref (B + x2), .int x3, .int x4] σ (js_QI D B g nn r0 σ0) := by
  refine js_enter (by decide) (Nat.le_of_ble_eq_true rfl) ?_
  intro p e s m args below meth c C hr hk ls hl hT
  have hl : lv_has ls 6 [(0, .ref (B + x0)), (1, .ref (B + x1)), (2, .ref (B + x2)), (3, .int x3), (4, .int x4)] := hl
  obtain ⟨hx, hb, hml, hown, ht, hK, hNw⟩ := id C
  obtain ⟨H, eH⟩ : ∃ H, H = s.heap := ⟨_, rfl⟩
  obtain ⟨locs, eL⟩ : ∃ z : List Loc, z = [] := ⟨_, rfl⟩
  rw [← eH, ← eL]
  rw [← eH, ← eL] at hT
  clear eH eL
  unfold fX3_run at h
  refine lv_iload_n hx hb dX3_run_0 rfl (lv_at hl 3 rfl) ?_
  obtain ⟨r1, σ1, hc1, h⟩ := bd_some h
  refine js_backI hT (js_runSN C hT mfX11_hasRegister lk_X3_32 (kX11_hasRegister  hc1) ⟨Nat.le_of_ble_eq_true rfl, Nat.le_of_ble_eq_true rfl⟩ rfl hl.1 rfl (Nat.le_of_ble_eq_true rfl) ⟨Nat.zero_le _, Nat.zero_le _⟩ dX3_run_1) (fun H locs hT => ?_)
  refine lv_if_ne (tgt := 9) hx hb dX3_run_4 (by decide) (fun c2 => ?_) (fun c2 => ?_)
  · rw [if_neg c2] at h
    refine lv_iload hx hb dX3_run_9 (lv_at hl 4 rfl) ?_
    refine lv_iconst (v := 1) hx hb dX3_run_11 (by decide) ?_
    refine lv_icmp_lt (tgt := 22) hx hb dX3_run_12 (by decide) (fun c3 => ?_) (fun c3 => ?_)
    · rw [if_pos c3] at h
      refine lv_bipush (v := (-2)) hx hb dX3_run_22 (by decide) ?_
      obtain ⟨rfl, rfl⟩ := js_rt h
      exact js_iret C hT hr hk dX3_run_24
    · rw [if_neg c3] at h
      refine lv_iload hx hb dX3_run_15 (lv_at hl 4 rfl) ?_
      refine lv_bipush (v := 30) hx hb dX3_run_17 (by decide) ?_
      refine lv_icmp_le (tgt := 25) hx hb dX3_run_19 (by decide) (fun c4 => ?_) (fun c4 => ?_)
      · rw [if_pos c4] at h
        refine lv_aload_n hx hb dX3_run_25 rfl (lv_at hl 0 rfl) ?_
        refine lv_iconst (v := 0) hx hb dX3_run_26 (by decide) ?_
        obtain ⟨σ5, e5, h⟩ := lt_some h
        refine js_pI C hT cfX3 t0 5 (by decide) rfl rfl rfl rfl lk_X3_36 dX3_run_27 (fun H locs hT => ?_)
        rw [e5] at hT
        refine lv_aload_n hx hb dX3_run_30 rfl (lv_at hl 0 rfl) ?_
        refine lv_iconst (v := 0) hx hb dX3_run_31 (by decide) ?_
        obtain ⟨σ6, e6, h⟩ := lt_some h
        refine js_pI C hT cfX3 t0 6 (by decide) rfl rfl rfl rfl lk_X3_40 dX3_run_32 (fun H locs hT => ?_)
        rw [e6] at hT
        refine lv_aload_n hx hb dX3_run_35 rfl (lv_at hl 0 rfl) ?_
        refine lv_iconst (v := 0) hx hb dX3_run_36 (by decide) ?_
        obtain ⟨σ7, e7, h⟩ := lt_some h
        refine js_pI C hT cfX3 t0 7 (by decide) rfl rfl rfl rfl lk_X3_43 dX3_run_37 (fun H locs hT => ?_)
        rw [e7] at hT
        refine lv_aload_n hx hb dX3_run_40 rfl (lv_at hl 0 rfl) ?_
        refine lv_aload_n hx hb dX3_run_41 rfl (lv_at hl 1 rfl) ?_
        refine lv_iload_n hx hb dX3_run_42 rfl (lv_at hl 3 rfl) ?_
        obtain ⟨r8, σ8, hc8, h⟩ := bd_some h
        refine js_backR hT (js_runV C hT cfX6 t1 rfl mfX6_register lk_X3_46 (kX6_register t1 hc8) ⟨Nat.le_of_ble_eq_true rfl, Nat.le_of_ble_eq_true rfl⟩ rfl hl.1 rfl (Nat.le_of_ble_eq_true rfl) ⟨Nat.zero_le _, Nat.zero_le _⟩ dX3_run_43) (fun H locs hT t8a => ?_)
        obtain ⟨z9, σ9, hc9, h⟩ := bd_some h
        refine js_backV hT (js_runV C hT cfX3 t0 rfl mfX3_discover lk_X3_52 (kX3_discover t0 t8a hc9) ⟨Nat.le_of_ble_eq_true rfl, Nat.le_of_ble_eq_true rfl⟩ rfl hl.1 rfl (Nat.le_of_ble_eq_true rfl) ⟨Nat.zero_le _, Nat.zero_le _⟩ dX3_run_46) (fun H locs hT => ?_)
        refine lv_iconst (v := 0) hx hb dX3_run_49 (by decide) ?_
        refine lv_istore (lv' := [(5, .int 0), (0, .ref (B + x0)), (1, .ref (B + x1)), (2, .ref (B + x2)), (3, .int x3), (4, .int x4)]) hx hb dX3_run_50 hl (by decide) rfl (fun ls hl => ?_)
        exact wX3_run_52 C hr hk _ _ _ _ _ _ _ _ _ h t0 t1 t2 H locs hT ls (lv_sub hl [1, 2, 3, 5, 0] rfl)
      · rw [if_neg c4] at h
        refine lv_bipush (v := (-2)) hx hb dX3_run_22 (by decide) ?_
        obtain ⟨rfl, rfl⟩ := js_rt h
        exact js_iret C hT hr hk dX3_run_24
  · rw [if_pos c2] at h
    refine lv_iconst (v := (-1)) hx hb dX3_run_7 (by decide) ?_
    obtain ⟨rfl, rfl⟩ := js_rt h
    exact js_iret C hT hr hk dX3_run_8
set_option maxHeartbeats 4000000 in
set_option maxRecDepth 20000 in
theorem kX4_connect {x0 : Nat} {x1 : Int32} {x2 : Int32} {σ σ0 : js_S} {r0 : Unit} (t0 : ob_ nn 4 x0) (h : fX4_connect fu x0 x1 x2 σ = some (r0, σ0)) : js_M l D B g nn yX4_connect cX4_connect 3 none 1 [.ref (B + x0), .int x1, .int x2] σ (js_QV D B g nn σ0) := by
  refine js_enter (by decide) (Nat.le_of_ble_eq_true rfl) ?_
  intro p e s m args below meth c C hr hk ls hl hT
  have hl : lv_has ls 3 [(0, .ref (B + x0)), (1, .int x1), (2, .int x2)] := hl
  obtain ⟨hx, hb, hml, hown, ht, hK, hNw⟩ := id C
  obtain ⟨H, eH⟩ : ∃ H, H = s.heap := ⟨_, rfl⟩
  obtain ⟨locs, eL⟩ : ∃ z : List Loc, z = [] := ⟨_, rfl⟩
  rw [← eH, ← eL]
  rw [← eH, ← eL] at hT
  clear eH eL
  unfold fX4_connect at h
  refine lv_iload_n hx hb dX4_connect_0 rfl (lv_at hl 1 rfl) ?_
  refine lv_iload_n hx hb dX4_connect_1 rfl (lv_at hl 2 rfl) ?_
  obtain ⟨r1, σ1, hc1, h⟩ := bd_some h
  refine js_backI hT (js_runS C hT mfX4_covers lk_X4_21 (kX4_covers  hc1) ⟨Nat.le_of_ble_eq_true rfl, Nat.le_of_ble_eq_true rfl⟩ rfl hl.1 rfl (Nat.le_of_ble_eq_true rfl) ⟨Nat.zero_le _, Nat.zero_le _⟩ dX4_connect_2) (fun H locs hT => ?_)
  refine lv_if_eq (tgt := 30) hx hb dX4_connect_5 (by decide) (fun c2 => ?_) (fun c2 => ?_)
  · rw [if_pos c2] at h
    obtain ⟨rfl, rfl⟩ := js_rt h
    exact js_vret C hT hr hk dX4_connect_30
  · rw [if_neg c2] at h
    refine lv_aload_n hx hb dX4_connect_8 rfl (lv_at hl 0 rfl) ?_
    refine js_gR C hT cfX4 t0 0 (by decide) (q := 21) rfl (by decide) lk_X4_11 dX4_connect_9 (fun t3a => ?_)
    refine lv_iload_n hx hb dX4_connect_12 rfl (lv_at hl 1 rfl) ?_
    refine lv_iconst (v := 4) hx hb dX4_connect_13 (by decide) ?_
    refine lv_imul hx hb dX4_connect_14 ?_
    refine lv_iload_n hx hb dX4_connect_15 rfl (lv_at hl 2 rfl) ?_
    refine lv_bipush (v := 64) hx hb dX4_connect_16 (by decide) ?_
    refine lv_idiv hx hb dX4_connect_18 (by decide) ?_
    refine lv_iadd hx hb dX4_connect_19 ?_
    refine lv_dup2_11 hx hb dX4_connect_20 rfl rfl ?_
    obtain ⟨g4, h⟩ := gd_some _ h
    refine js_lald C hT t3a g4 dX4_connect_21 ?_
    refine lv_lconst (v := 1) hx hb dX4_connect_22 (by decide) ?_
    refine lv_iload_n hx hb dX4_connect_23 rfl (lv_at hl 2 rfl) ?_
    refine lv_bipush (v := 64) hx hb dX4_connect_24 (by decide) ?_
    refine lv_irem hx hb dX4_connect_26 (by decide) ?_
    refine lv_lshl hx hb dX4_connect_27 rfl ?_
    refine lv_lor hx hb dX4_connect_28 ?_
    obtain ⟨g5, h⟩ := gd_some _ h
    obtain ⟨σ5, e5, h⟩ := lt_some h
    refine js_last C hT t3a g5 dX4_connect_29 (fun H locs hT => ?_)
    rw [e5] at hT
    obtain ⟨rfl, rfl⟩ := js_rt h
    exact js_vret C hT hr hk dX4_connect_30
set_option maxHeartbeats 4000000 in
set_option maxRecDepth 20000 in
theorem wX4_empty_2b (C : js_C D g p m c cX4_empty 2 s args RX4) (hr : meth.sig.returnType = none) (hk : meth.locks = false) (rc2 : Nat → Int32 → js_S → Option (Unit × js_S)) (hrc2 : ∀ (x0 : Nat) (x1 : Int32) (σ : js_S) (r0 : Unit) (σ0 : js_S), rc2 x0 x1 σ = some (r0, σ0) → ob_ nn 4 x0 → js_at p l e 0 s m args below meth c D B g nn 2 2 [(0, .ref (B + x0)), (1, .int x1)] [] σ (js_QV D B g nn σ0)) : ∀ (x0 : Nat) (x1 : Int32) (σ : js_S) (r0 : Unit) (σ0 : js_S), fX4_empty_2b fu rc2 x0 x1 σ = some (r0, σ0) → ob_ nn 4 x0 → js_at p l e 0 s m args below meth c D B g nn 2 2 [(0, .ref (B + x0)), (1, .int x1)] [] σ (js_QV D B g nn σ0) := by
  obtain ⟨hx, hb, hml, hown, ht, hK, hNw⟩ := id C
  intro x0 x1 σ r0 σ0 h t0 H locs hT ls hl
  unfold fX4_empty_2b at h
  refine lv_iload_n hx hb dX4_empty_2 rfl (lv_at hl 1 rfl) ?_
  refine lv_aload_n hx hb dX4_empty_3 rfl (lv_at hl 0 rfl) ?_
  refine js_gR C hT cfX4 t0 0 (by decide) (q := 21) rfl (by decide) lk_X4_11 dX4_empty_4 (fun t1a => ?_)
  refine js_alen C hT t1a (Or.inr (Or.inl rfl)) dX4_empty_7 ?_
  refine lv_icmp_ge (tgt := 24) hx hb dX4_empty_8 (by decide) (fun c2 => ?_) (fun c2 => ?_)
  · rw [if_pos c2] at h
    obtain ⟨rfl, rfl⟩ := js_rt h
    exact js_vret C hT hr hk dX4_empty_24
  · rw [if_neg c2] at h
    refine lv_aload_n hx hb dX4_empty_11 rfl (lv_at hl 0 rfl) ?_
    refine js_gR C hT cfX4 t0 0 (by decide) (q := 21) rfl (by decide) lk_X4_11 dX4_empty_12 (fun t3a => ?_)
    refine lv_iload_n hx hb dX4_empty_15 rfl (lv_at hl 1 rfl) ?_
    refine lv_lconst (v := 0) hx hb dX4_empty_16 (by decide) ?_
    obtain ⟨g4, h⟩ := gd_some _ h
    obtain ⟨σ4, e4, h⟩ := lt_some h
    refine js_last C hT t3a g4 dX4_empty_17 (fun H locs hT => ?_)
    rw [e4] at hT
    refine lv_iinc (v := x1 + 1) (lv' := [(1, .int (x1 + 1)), (0, .ref (B + x0))]) hx hb dX4_empty_18 hl (k := 1) rfl rfl (by decide) rfl (fun ls hl => ?_)
    refine lv_goto (tgt := 2) hx hb dX4_empty_21 (by decide) ?_
    exact hrc2 _ _ _ _ _ h t0 H locs hT ls (lv_sub hl [1, 0] rfl)
set_option maxHeartbeats 4000000 in
set_option maxRecDepth 20000 in
theorem wX4_empty_2 (C : js_C D g p m c cX4_empty 2 s args RX4) (hr : meth.sig.returnType = none) (hk : meth.locks = false) : ∀ (k : Nat), ∀ (x0 : Nat) (x1 : Int32) (σ : js_S) (r0 : Unit) (σ0 : js_S), fX4_empty_2 fu k x0 x1 σ = some (r0, σ0) → ob_ nn 4 x0 → js_at p l e 0 s m args below meth c D B g nn 2 2 [(0, .ref (B + x0)), (1, .int x1)] [] σ (js_QV D B g nn σ0) := by
  intro k
  induction k with
  | zero =>
    intro x0 x1 σ r0 σ0 h
    cases h
  | succ k ih =>
    intro x0 x1 σ r0 σ0 h
    exact wX4_empty_2b C hr hk (fX4_empty_2 fu k) ih x0 x1 σ r0 σ0 h
set_option maxHeartbeats 4000000 in
set_option maxRecDepth 20000 in
theorem kX4_empty {x0 : Nat} {σ σ0 : js_S} {r0 : Unit} (t0 : ob_ nn 4 x0) (h : fX4_empty fu x0 σ = some (r0, σ0)) : js_M l D B g nn yX4_empty cX4_empty 2 none 0 [.ref (B + x0)] σ (js_QV D B g nn σ0) := by
  refine js_enter (by decide) (Nat.le_of_ble_eq_true rfl) ?_
  intro p e s m args below meth c C hr hk ls hl hT
  have hl : lv_has ls 2 [(0, .ref (B + x0))] := hl
  obtain ⟨hx, hb, hml, hown, ht, hK, hNw⟩ := id C
  obtain ⟨H, eH⟩ : ∃ H, H = s.heap := ⟨_, rfl⟩
  obtain ⟨locs, eL⟩ : ∃ z : List Loc, z = [] := ⟨_, rfl⟩
  rw [← eH, ← eL]
  rw [← eH, ← eL] at hT
  clear eH eL
  unfold fX4_empty at h
  refine lv_iconst (v := 0) hx hb dX4_empty_0 (by decide) ?_
  refine lv_istore_n (lv' := [(1, .int 0), (0, .ref (B + x0))]) hx hb dX4_empty_1 rfl hl (by decide) rfl (fun ls hl => ?_)
  exact wX4_empty_2 C hr hk _ _ _ _ _ _ h t0 H locs hT ls (lv_sub hl [1, 0] rfl)
set_option maxHeartbeats 4000000 in
set_option maxRecDepth 20000 in
theorem wX4_total_4b (C : js_C D g p m c cX4_total 3 s args RX4) (hr : meth.sig.returnType = (some .int)) (hk : meth.locks = false) (rc4 : Nat → Int32 → Int32 → js_S → Option (Int32 × js_S)) (hrc4 : ∀ (x0 : Nat) (x1 : Int32) (x2 : Int32) (σ : js_S) (r0 : Int32) (σ0 : js_S), rc4 x0 x1 x2 σ = some (r0, σ0) → ob_ nn 4 x0 → js_at p l e 1 s m args below meth c D B g nn 4 3 [(0, .ref (B + x0)), (1, .int x1), (2, .int x2)] [] σ (js_QI D B g nn r0 σ0)) : ∀ (x0 : Nat) (x1 : Int32) (x2 : Int32) (σ : js_S) (r0 : Int32) (σ0 : js_S), fX4_total_4b fu rc4 x0 x1 x2 σ = some (r0, σ0) → ob_ nn 4 x0 → js_at p l e 1 s m args below meth c D B g nn 4 3 [(0, .ref (B + x0)), (1, .int x1), (2, .int x2)] [] σ (js_QI D B g nn r0 σ0) := by
  obtain ⟨hx, hb, hml, hown, ht, hK, hNw⟩ := id C
  intro x0 x1 x2 σ r0 σ0 h t0 H locs hT ls hl
  unfold fX4_total_4b at h
  refine lv_iload_n hx hb dX4_total_4 rfl (lv_at hl 2 rfl) ?_
  refine lv_aload_n hx hb dX4_total_5 rfl (lv_at hl 0 rfl) ?_
  refine js_gR C hT cfX4 t0 0 (by decide) (q := 21) rfl (by decide) lk_X4_11 dX4_total_6 (fun t1a => ?_)
  refine js_alen C hT t1a (Or.inr (Or.inl rfl)) dX4_total_9 ?_
  refine lv_icmp_ge (tgt := 31) hx hb dX4_total_10 (by decide) (fun c2 => ?_) (fun c2 => ?_)
  · rw [if_pos c2] at h
    refine lv_iload_n hx hb dX4_total_31 rfl (lv_at hl 1 rfl) ?_
    obtain ⟨rfl, rfl⟩ := js_rt h
    exact js_iret C hT hr hk dX4_total_32
  · rw [if_neg c2] at h
    refine lv_iload_n hx hb dX4_total_13 rfl (lv_at hl 1 rfl) ?_
    refine lv_aload_n hx hb dX4_total_14 rfl (lv_at hl 0 rfl) ?_
    refine js_gR C hT cfX4 t0 0 (by decide) (q := 21) rfl (by decide) lk_X4_11 dX4_total_15 (fun t3a => ?_)
    refine lv_iload_n hx hb dX4_total_18 rfl (lv_at hl 2 rfl) ?_
    obtain ⟨g4, h⟩ := gd_some _ h
    refine js_lald C hT t3a g4 dX4_total_19 ?_
    obtain ⟨r5, σ5, hc5, h⟩ := bd_some h
    refine js_backI hT (js_runS C hT mfJ13_bitCount_95d88 lk_X4_25 (kJ13_bitCount_95d88  hc5) ⟨Nat.le_of_ble_eq_true rfl, Nat.le_of_ble_eq_true rfl⟩ rfl hl.1 rfl (Nat.le_of_ble_eq_true rfl) ⟨Nat.zero_le _, Nat.zero_le _⟩ dX4_total_20) (fun H locs hT => ?_)
    refine lv_iadd hx hb dX4_total_23 ?_
    refine lv_istore_n (lv' := [(1, .int (x1 + r5)), (0, .ref (B + x0)), (2, .int x2)]) hx hb dX4_total_24 rfl hl (by decide) rfl (fun ls hl => ?_)
    refine lv_iinc (v := x2 + 1) (lv' := [(2, .int (x2 + 1)), (1, .int (x1 + r5)), (0, .ref (B + x0))]) hx hb dX4_total_25 hl (k := 2) rfl rfl (by decide) rfl (fun ls hl => ?_)
    refine lv_goto (tgt := 4) hx hb dX4_total_28 (by decide) ?_
    exact hrc4 _ _ _ _ _ _ h t0 H locs hT ls (lv_sub hl [2, 1, 0] rfl)
set_option maxHeartbeats 4000000 in
set_option maxRecDepth 20000 in
theorem wX4_total_4 (C : js_C D g p m c cX4_total 3 s args RX4) (hr : meth.sig.returnType = (some .int)) (hk : meth.locks = false) : ∀ (k : Nat), ∀ (x0 : Nat) (x1 : Int32) (x2 : Int32) (σ : js_S) (r0 : Int32) (σ0 : js_S), fX4_total_4 fu k x0 x1 x2 σ = some (r0, σ0) → ob_ nn 4 x0 → js_at p l e 1 s m args below meth c D B g nn 4 3 [(0, .ref (B + x0)), (1, .int x1), (2, .int x2)] [] σ (js_QI D B g nn r0 σ0) := by
  intro k
  induction k with
  | zero =>
    intro x0 x1 x2 σ r0 σ0 h
    cases h
  | succ k ih =>
    intro x0 x1 x2 σ r0 σ0 h
    exact wX4_total_4b C hr hk (fX4_total_4 fu k) ih x0 x1 x2 σ r0 σ0 h
set_option maxHeartbeats 4000000 in
set_option maxRecDepth 20000 in
theorem kX4_total {x0 : Nat} {σ σ0 : js_S} {r0 : Int32} (t0 : ob_ nn 4 x0) (h : fX4_total fu x0 σ = some (r0, σ0)) : js_M l D B g nn yX4_total cX4_total 3 (some .int) 1 [.ref (B + x0)] σ (js_QI D B g nn r0 σ0) := by
  refine js_enter (by decide) (Nat.le_of_ble_eq_true rfl) ?_
  intro p e s m args below meth c C hr hk ls hl hT
  have hl : lv_has ls 3 [(0, .ref (B + x0))] := hl
  obtain ⟨hx, hb, hml, hown, ht, hK, hNw⟩ := id C
  obtain ⟨H, eH⟩ : ∃ H, H = s.heap := ⟨_, rfl⟩
  obtain ⟨locs, eL⟩ : ∃ z : List Loc, z = [] := ⟨_, rfl⟩
  rw [← eH, ← eL]
  rw [← eH, ← eL] at hT
  clear eH eL
  unfold fX4_total at h
  refine lv_iconst (v := 0) hx hb dX4_total_0 (by decide) ?_
  refine lv_istore_n (lv' := [(1, .int 0), (0, .ref (B + x0))]) hx hb dX4_total_1 rfl hl (by decide) rfl (fun ls hl => ?_)
  refine lv_iconst (v := 0) hx hb dX4_total_2 (by decide) ?_
  refine lv_istore_n (lv' := [(2, .int 0), (1, .int 0), (0, .ref (B + x0))]) hx hb dX4_total_3 rfl hl (by decide) rfl (fun ls hl => ?_)
  exact wX4_total_4 C hr hk _ _ _ _ _ _ _ h t0 H locs hT ls (lv_sub hl [2, 1, 0] rfl)
set_option maxHeartbeats 4000000 in
set_option maxRecDepth 20000 in
theorem kX11_functionOfSymbol {x0 : Int32} {σ σ0 : js_S} {r0 : Int32} (h : fX11_functionOfSymbol fu x0 σ = some (r0, σ0)) : js_M l D B g nn yX11_functionOfSymbol cX11_functionOfSymbol 1 (some .int) 0 [.int x0] σ (js_QI D B g nn r0 σ0) := by
  refine js_enter (by decide) (Nat.le_of_ble_eq_true rfl) ?_
  intro p e s m args below meth c C hr hk ls hl hT
  have hl : lv_has ls 1 [(0, .int x0)] := hl
  obtain ⟨hx, hb, hml, hown, ht, hK, hNw⟩ := id C
  obtain ⟨H, eH⟩ : ∃ H, H = s.heap := ⟨_, rfl⟩
  obtain ⟨locs, eL⟩ : ∃ z : List Loc, z = [] := ⟨_, rfl⟩
  rw [← eH, ← eL]
  rw [← eH, ← eL] at hT
  clear eH eL
  unfold fX11_functionOfSymbol at h
  refine lv_iload_n hx hb dX11_functionOfSymbol_0 rfl (lv_at hl 0 rfl) ?_
  refine lv_bipush (v := 102) hx hb dX11_functionOfSymbol_1 (by decide) ?_
  refine lv_icmp_lt (tgt := 19) hx hb dX11_functionOfSymbol_3 (by decide) (fun c1 => ?_) (fun c1 => ?_)
  · rw [if_pos c1] at h
    refine lv_iconst (v := (-1)) hx hb dX11_functionOfSymbol_19 (by decide) ?_
    obtain ⟨rfl, rfl⟩ := js_rt h
    exact js_iret C hT hr hk dX11_functionOfSymbol_20
  · rw [if_neg c1] at h
    refine lv_iload_n hx hb dX11_functionOfSymbol_6 rfl (lv_at hl 0 rfl) ?_
    refine lv_bipush (v := 105) hx hb dX11_functionOfSymbol_7 (by decide) ?_
    refine lv_icmp_ge (tgt := 19) hx hb dX11_functionOfSymbol_9 (by decide) (fun c2 => ?_) (fun c2 => ?_)
    · rw [if_pos c2] at h
      refine lv_iconst (v := (-1)) hx hb dX11_functionOfSymbol_19 (by decide) ?_
      obtain ⟨rfl, rfl⟩ := js_rt h
      exact js_iret C hT hr hk dX11_functionOfSymbol_20
    · rw [if_neg c2] at h
      refine lv_iload_n hx hb dX11_functionOfSymbol_12 rfl (lv_at hl 0 rfl) ?_
      refine lv_bipush (v := 102) hx hb dX11_functionOfSymbol_13 (by decide) ?_
      refine lv_isub hx hb dX11_functionOfSymbol_15 ?_
      refine lv_goto (tgt := 20) hx hb dX11_functionOfSymbol_16 (by decide) ?_
      obtain ⟨rfl, rfl⟩ := js_rt h
      exact js_iret C hT hr hk dX11_functionOfSymbol_20
set_option maxHeartbeats 4000000 in
set_option maxRecDepth 20000 in
theorem kX11_isFunction {x0 : Int32} {σ σ0 : js_S} {r0 : Int32} (h : fX11_isFunction fu x0 σ = some (r0, σ0)) : js_M l D B g nn yX11_isFunction cX11_isFunction 1 (some .boolean) 1 [.int x0] σ (js_QI D B g nn r0 σ0) := by
  refine js_enter (by decide) (Nat.le_of_ble_eq_true rfl) ?_
  intro p e s m args below meth c C hr hk ls hl hT
  have hl : lv_has ls 1 [(0, .int x0)] := hl
  obtain ⟨hx, hb, hml, hown, ht, hK, hNw⟩ := id C
  obtain ⟨H, eH⟩ : ∃ H, H = s.heap := ⟨_, rfl⟩
  obtain ⟨locs, eL⟩ : ∃ z : List Loc, z = [] := ⟨_, rfl⟩
  rw [← eH, ← eL]
  rw [← eH, ← eL] at hT
  clear eH eL
  unfold fX11_isFunction at h
  refine lv_iload_n hx hb dX11_isFunction_0 rfl (lv_at hl 0 rfl) ?_
  obtain ⟨r1, σ1, hc1, h⟩ := bd_some h
  refine js_backI hT (js_runS C hT mfX11_functionOfSymbol lk_X11_352 (kX11_functionOfSymbol  hc1) ⟨Nat.le_of_ble_eq_true rfl, Nat.le_of_ble_eq_true rfl⟩ rfl hl.1 rfl (Nat.le_of_ble_eq_true rfl) ⟨Nat.zero_le _, Nat.zero_le _⟩ dX11_isFunction_1) (fun H locs hT => ?_)
  refine lv_if_lt (tgt := 11) hx hb dX11_isFunction_4 (by decide) (fun c2 => ?_) (fun c2 => ?_)
  · rw [if_pos c2] at h
    refine lv_iconst (v := 0) hx hb dX11_isFunction_11 (by decide) ?_
    obtain ⟨rfl, rfl⟩ := js_rt h
    exact js_zret C hT hr hk rfl dX11_isFunction_12
  · rw [if_neg c2] at h
    refine lv_iconst (v := 1) hx hb dX11_isFunction_7 (by decide) ?_
    refine lv_goto (tgt := 12) hx hb dX11_isFunction_8 (by decide) ?_
    obtain ⟨rfl, rfl⟩ := js_rt h
    exact js_zret C hT hr hk rfl dX11_isFunction_12
set_option maxHeartbeats 4000000 in
set_option maxRecDepth 20000 in
theorem wX5_leadsTo_118 (C : js_C D g p m c cX5_leadsTo 8 s args RX5) (hr : meth.sig.returnType = (some .boolean)) (hk : meth.locks = false) (rc23 : Nat → Nat → Nat → Int32 → Int32 → js_S → Option (Int32 × js_S)) (hrc23 : ∀ (x0 : Nat) (x1 : Nat) (x3 : Nat) (x4 : Int32) (x5 : Int32) (σ : js_S) (r0 : Int32) (σ0 : js_S), rc23 x0 x1 x3 x4 x5 σ = some (r0, σ0) → ob_ nn 8 x0 → ob_ nn 9 x1 → ob_ nn 9 x3 → js_at p l e 2 s m args below meth c D B g nn 23 8 [(0, .ref (B + x0)), (1, .ref (B + x1)), (3, .ref (B + x3)), (4, .int x4), (5, .int x5)] [] σ (js_QI D B g nn r0 σ0)) : ∀ (x0 : Nat) (x1 : Nat) (x3 : Nat) (x4 : Int32) (x5 : Int32) (σ : js_S) (r0 : Int32) (σ0 : js_S), fX5_leadsTo_118 fu rc23 x0 x1 x3 x4 x5 σ = some (r0, σ0) → ob_ nn 8 x0 → ob_ nn 9 x1 → ob_ nn 9 x3 → js_at p l e 2 s m args below meth c D B g nn 118 8 [(0, .ref (B + x0)), (1, .ref (B + x1)), (3, .ref (B + x3)), (4, .int x4), (5, .int x5)] [] σ (js_QI D B g nn r0 σ0) := by
  obtain ⟨hx, hb, hml, hown, ht, hK, hNw⟩ := id C
  intro x0 x1 x3 x4 x5 σ r0 σ0 h t0 t1 t3 H locs hT ls hl
  unfold fX5_leadsTo_118 at h
  refine lv_goto (tgt := 23) hx hb dX5_leadsTo_118 (by decide) ?_
  exact hrc23 _ _ _ _ _ _ _ _ h t0 t1 t3 H locs hT ls (lv_sub hl [0, 1, 2, 3, 4] rfl)
set_option maxHeartbeats 4000000 in
set_option maxRecDepth 20000 in
theorem wX5_leadsTo_72 (C : js_C D g p m c cX5_leadsTo 8 s args RX5) (hr : meth.sig.returnType = (some .boolean)) (hk : meth.locks = false) (rc23 : Nat → Nat → Nat → Int32 → Int32 → js_S → Option (Int32 × js_S)) (hrc23 : ∀ (x0 : Nat) (x1 : Nat) (x3 : Nat) (x4 : Int32) (x5 : Int32) (σ : js_S) (r0 : Int32) (σ0 : js_S), rc23 x0 x1 x3 x4 x5 σ = some (r0, σ0) → ob_ nn 8 x0 → ob_ nn 9 x1 → ob_ nn 9 x3 → js_at p l e 2 s m args below meth c D B g nn 23 8 [(0, .ref (B + x0)), (1, .ref (B + x1)), (3, .ref (B + x3)), (4, .int x4), (5, .int x5)] [] σ (js_QI D B g nn r0 σ0)) : ∀ (x0 : Nat) (x1 : Nat) (x3 : Nat) (x4 : Int32) (x5 : Int32) (σ : js_S) (r0 : Int32) (σ0 : js_S), fX5_leadsTo_72 fu rc23 x0 x1 x3 x4 x5 σ = some (r0, σ0) → ob_ nn 8 x0 → ob_ nn 9 x1 → ob_ nn 9 x3 → js_at p l e 2 s m args below meth c D B g nn 72 8 [(0, .ref (B + x0)), (1, .ref (B + x1)), (3, .ref (B + x3)), (4, .int x4), (5, .int x5)] [] σ (js_QI D B g nn r0 σ0) := by
  obtain ⟨hx, hb, hml, hown, ht, hK, hNw⟩ := id C
  intro x0 x1 x3 x4 x5 σ r0 σ0 h t0 t1 t3 H locs hT ls hl
  unfold fX5_leadsTo_72 at h
  refine lv_aload_n hx hb dX5_leadsTo_72 rfl (lv_at hl 0 rfl) ?_
  refine lv_aload_n hx hb dX5_leadsTo_73 rfl (lv_at hl 1 rfl) ?_
  refine lv_iload hx hb dX5_leadsTo_74 (lv_at hl 3 rfl) ?_
  obtain ⟨r1, σ1, hc1, h⟩ := bd_some h
  refine js_backI hT (js_runV C hT cfX8 t0 rfl mfX8_endOf lk_X5_93 (kX8_endOf t0 t1 hc1) ⟨Nat.le_of_ble_eq_true rfl, Nat.le_of_ble_eq_true rfl⟩ rfl hl.1 rfl (Nat.le_of_ble_eq_true rfl) ⟨Nat.zero_le _, Nat.zero_le _⟩ dX5_leadsTo_76) (fun H locs hT => ?_)
  refine lv_istore (lv' := [(4, .int r1), (0, .ref (B + x0)), (1, .ref (B + x1)), (3, .ref (B + x3)), (5, .int x5)]) hx hb dX5_leadsTo_79 hl (by decide) rfl (fun ls hl => ?_)
  refine lv_iload hx hb dX5_leadsTo_81 (lv_at hl 4 rfl) ?_
  refine lv_iconst (v := 1) hx hb dX5_leadsTo_83 (by decide) ?_
  refine lv_iadd hx hb dX5_leadsTo_84 ?_
  refine lv_aload_n hx hb dX5_leadsTo_85 rfl (lv_at hl 1 rfl) ?_
  refine lv_aload_n hx hb dX5_leadsTo_86 rfl (lv_at hl 3 rfl) ?_
  refine lv_iload hx hb dX5_leadsTo_87 (lv_at hl 4 rfl) ?_
  obtain ⟨r2, σ2, hc2, h⟩ := bd_some h
  refine js_backI hT (js_runV C hT cfX8 t0 rfl mfX8_endOf lk_X5_93 (kX8_endOf t0 t3 hc2) ⟨Nat.le_of_ble_eq_true rfl, Nat.le_of_ble_eq_true rfl⟩ rfl hl.1 rfl (Nat.le_of_ble_eq_true rfl) ⟨Nat.zero_le _, Nat.zero_le _⟩ dX5_leadsTo_89) (fun H locs hT => ?_)
  refine va_mmax hx hb (hml.trans hl.1.symm) hown (ht _ lk_X5_121) (ht _ js_mmax1) (ht _ js_mth) (ht _ js_mmax2) (Nat.le_of_ble_eq_true rfl) (Nat.le_of_ble_eq_true rfl) (Nat.zero_le _) (Nat.zero_le _) dX5_leadsTo_92 ?_
  refine lv_istore (lv' := [(5, .int (if (x5 + 1) < r2 then r2 else (x5 + 1))), (4, .int r1), (0, .ref (B + x0)), (1, .ref (B + x1)), (3, .ref (B + x3))]) hx hb dX5_leadsTo_95 hl (by decide) rfl (fun ls hl => ?_)
  refine lv_goto (tgt := 118) hx hb dX5_leadsTo_97 (by decide) ?_
  exact wX5_leadsTo_118 C hr hk rc23 hrc23 _ _ _ _ _ _ _ _ h t0 t1 t3 H locs hT ls (lv_sub hl [2, 3, 4, 1, 0] rfl)
set_option maxHeartbeats 4000000 in
set_option maxRecDepth 20000 in
theorem wX5_leadsTo_23b (C : js_C D g p m c cX5_leadsTo 8 s args RX5) (hr : meth.sig.returnType = (some .boolean)) (hk : meth.locks = false) (rc23 : Nat → Nat → Nat → Int32 → Int32 → js_S → Option (Int32 × js_S)) (hrc23 : ∀ (x0 : Nat) (x1 : Nat) (x3 : Nat) (x4 : Int32) (x5 : Int32) (σ : js_S) (r0 : Int32) (σ0 : js_S), rc23 x0 x1 x3 x4 x5 σ = some (r0, σ0) → ob_ nn 8 x0 → ob_ nn 9 x1 → ob_ nn 9 x3 → js_at p l e 2 s m args below meth c D B g nn 23 8 [(0, .ref (B + x0)), (1, .ref (B + x1)), (3, .ref (B + x3)), (4, .int x4), (5, .int x5)] [] σ (js_QI D B g nn r0 σ0)) : ∀ (x0 : Nat) (x1 : Nat) (x3 : Nat) (x4 : Int32) (x5 : Int32) (σ : js_S) (r0 : Int32) (σ0 : js_S), fX5_leadsTo_23b fu rc23 x0 x1 x3 x4 x5 σ = some (r0, σ0) → ob_ nn 8 x0 → ob_ nn 9 x1 → ob_ nn 9 x3 → js_at p l e 2 s m args below meth c D B g nn 23 8 [(0, .ref (B + x0)), (1, .ref (B + x1)), (3, .ref (B + x3)), (4, .int x4), (5, .int x5)] [] σ (js_QI D B g nn r0 σ0) := by
  obtain ⟨hx, hb, hml, hown, ht, hK, hNw⟩ := id C
  intro x0 x1 x3 x4 x5 σ r0 σ0 h t0 t1 t3 H locs hT ls hl
  unfold fX5_leadsTo_23b at h
  refine lv_iload hx hb dX5_leadsTo_23 (lv_at hl 4 rfl) ?_
  refine lv_aload_n hx hb dX5_leadsTo_25 rfl (lv_at hl 2 rfl) ?_
  refine js_gIN C hT cfX9 t3 1 (by decide) rfl lk_X5_41 dX5_leadsTo_26 ?_
  refine lv_icmp_ge (tgt := 121) hx hb dX5_leadsTo_29 (by decide) (fun c1 => ?_) (fun c1 => ?_)
  · rw [if_pos c1] at h
    refine lv_iconst (v := 1) hx hb dX5_leadsTo_121 (by decide) ?_
    obtain ⟨rfl, rfl⟩ := js_rt h
    exact js_zret C hT hr hk rfl dX5_leadsTo_122
  · rw [if_neg c1] at h
    refine lv_aload_n hx hb dX5_leadsTo_32 rfl (lv_at hl 1 rfl) ?_
    refine lv_iload hx hb dX5_leadsTo_33 (lv_at hl 3 rfl) ?_
    obtain ⟨r2, σ2, hc2, h⟩ := bd_some h
    refine js_backI hT (js_runV C hT cfX9 t1 rfl mfX9_symbolAt lk_X5_46 (kX9_symbolAt t1 hc2) ⟨Nat.le_of_ble_eq_true rfl, Nat.le_of_ble_eq_true rfl⟩ rfl hl.1 rfl (Nat.le_of_ble_eq_true rfl) ⟨Nat.zero_le _, Nat.zero_le _⟩ dX5_leadsTo_35) (fun H locs hT => ?_)
    refine lv_istore (lv' := [(6, .int r2), (0, .ref (B + x0)), (1, .ref (B + x1)), (3, .ref (B + x3)), (4, .int x4), (5, .int x5)]) hx hb dX5_leadsTo_38 hl (by decide) rfl (fun ls hl => ?_)
    refine lv_aload_n hx hb dX5_leadsTo_40 rfl (lv_at hl 3 rfl) ?_
    refine lv_iload hx hb dX5_leadsTo_41 (lv_at hl 5 rfl) ?_
    obtain ⟨r3, σ3, hc3, h⟩ := bd_some h
    refine js_backI hT (js_runV C hT cfX9 t3 rfl mfX9_symbolAt lk_X5_46 (kX9_symbolAt t3 hc3) ⟨Nat.le_of_ble_eq_true rfl, Nat.le_of_ble_eq_true rfl⟩ rfl hl.1 rfl (Nat.le_of_ble_eq_true rfl) ⟨Nat.zero_le _, Nat.zero_le _⟩ dX5_leadsTo_43) (fun H locs hT => ?_)
    refine lv_istore (lv' := [(7, .int r3), (6, .int r2), (0, .ref (B + x0)), (1, .ref (B + x1)), (3, .ref (B + x3)), (4, .int x4), (5, .int x5)]) hx hb dX5_leadsTo_46 hl (by decide) rfl (fun ls hl => ?_)
    refine lv_iload hx hb dX5_leadsTo_48 (lv_at hl 1 rfl) ?_
    obtain ⟨r4, σ4, hc4, h⟩ := bd_some h
    refine js_backI hT (js_runSN C hT mfX11_isVariable lk_X5_118 (kX11_isVariable  hc4) ⟨Nat.le_of_ble_eq_true rfl, Nat.le_of_ble_eq_true rfl⟩ rfl hl.1 rfl (Nat.le_of_ble_eq_true rfl) ⟨Nat.zero_le _, Nat.zero_le _⟩ dX5_leadsTo_50) (fun H locs hT => ?_)
    refine lv_if_ne (tgt := 72) hx hb dX5_leadsTo_53 (by decide) (fun c5 => ?_) (fun c5 => ?_)
    · rw [if_neg c5] at h
      exact wX5_leadsTo_72 C hr hk rc23 hrc23 _ _ _ _ _ _ _ _ h t0 t1 t3 H locs hT ls (lv_sub hl [2, 3, 4, 5, 6] rfl)
    · rw [if_pos c5] at h
      refine lv_iload hx hb dX5_leadsTo_56 (lv_at hl 0 rfl) ?_
      obtain ⟨r6, σ6, hc6, h⟩ := bd_some h
      refine js_backI hT (js_runSN C hT mfX11_isVariable lk_X5_118 (kX11_isVariable  hc6) ⟨Nat.le_of_ble_eq_true rfl, Nat.le_of_ble_eq_true rfl⟩ rfl hl.1 rfl (Nat.le_of_ble_eq_true rfl) ⟨Nat.zero_le _, Nat.zero_le _⟩ dX5_leadsTo_58) (fun H locs hT => ?_)
      refine lv_if_ne (tgt := 72) hx hb dX5_leadsTo_61 (by decide) (fun c7 => ?_) (fun c7 => ?_)
      · rw [if_neg c7] at h
        exact wX5_leadsTo_72 C hr hk rc23 hrc23 _ _ _ _ _ _ _ _ h t0 t1 t3 H locs hT ls (lv_sub hl [2, 3, 4, 5, 6] rfl)
      · rw [if_pos c7] at h
        refine lv_iload hx hb dX5_leadsTo_64 (lv_at hl 1 rfl) ?_
        obtain ⟨r8, σ8, hc8, h⟩ := bd_some h
        refine js_backI hT (js_runSN C hT mfX11_isFunction lk_X5_50 (kX11_isFunction  hc8) ⟨Nat.le_of_ble_eq_true rfl, Nat.le_of_ble_eq_true rfl⟩ rfl hl.1 rfl (Nat.le_of_ble_eq_true rfl) ⟨Nat.zero_le _, Nat.zero_le _⟩ dX5_leadsTo_66) (fun H locs hT => ?_)
        refine lv_if_eq (tgt := 100) hx hb dX5_leadsTo_69 (by decide) (fun c9 => ?_) (fun c9 => ?_)
        · rw [if_pos c9] at h
          refine lv_iload hx hb dX5_leadsTo_100 (lv_at hl 1 rfl) ?_
          refine lv_iload hx hb dX5_leadsTo_102 (lv_at hl 0 rfl) ?_
          refine lv_icmp_ne (tgt := 116) hx hb dX5_leadsTo_104 (by decide) (fun c10 => ?_) (fun c10 => ?_)
          · rw [if_neg c10] at h
            refine lv_iconst (v := 0) hx hb dX5_leadsTo_116 (by decide) ?_
            obtain ⟨rfl, rfl⟩ := js_rt h
            exact js_zret C hT hr hk rfl dX5_leadsTo_117
          · rw [if_pos c10] at h
            refine lv_iinc (v := x4 + 1) (lv' := [(4, .int (x4 + 1)), (7, .int r3), (6, .int r2), (0, .ref (B + x0)), (1, .ref (B + x1)), (3, .ref (B + x3)), (5, .int x5)]) hx hb dX5_leadsTo_107 hl (k := 5) rfl rfl (by decide) rfl (fun ls hl => ?_)
            refine lv_iinc (v := x5 + 1) (lv' := [(5, .int (x5 + 1)), (4, .int (x4 + 1)), (7, .int r3), (6, .int r2), (0, .ref (B + x0)), (1, .ref (B + x1)), (3, .ref (B + x3))]) hx hb dX5_leadsTo_110 hl (k := 6) rfl rfl (by decide) rfl (fun ls hl => ?_)
            refine lv_goto (tgt := 118) hx hb dX5_leadsTo_113 (by decide) ?_
            exact wX5_leadsTo_118 C hr hk rc23 hrc23 _ _ _ _ _ _ _ _ h t0 t1 t3 H locs hT ls (lv_sub hl [4, 5, 6, 1, 0] rfl)
        · rw [if_neg c9] at h
          exact wX5_leadsTo_72 C hr hk rc23 hrc23 _ _ _ _ _ _ _ _ h t0 t1 t3 H locs hT ls (lv_sub hl [2, 3, 4, 5, 6] rfl)
set_option maxHeartbeats 4000000 in
set_option maxRecDepth 20000 in
theorem wX5_leadsTo_23 (C : js_C D g p m c cX5_leadsTo 8 s args RX5) (hr : meth.sig.returnType = (some .boolean)) (hk : meth.locks = false) : ∀ (k : Nat), ∀ (x0 : Nat) (x1 : Nat) (x3 : Nat) (x4 : Int32) (x5 : Int32) (σ : js_S) (r0 : Int32) (σ0 : js_S), fX5_leadsTo_23 fu k x0 x1 x3 x4 x5 σ = some (r0, σ0) → ob_ nn 8 x0 → ob_ nn 9 x1 → ob_ nn 9 x3 → js_at p l e 2 s m args below meth c D B g nn 23 8 [(0, .ref (B + x0)), (1, .ref (B + x1)), (3, .ref (B + x3)), (4, .int x4), (5, .int x5)] [] σ (js_QI D B g nn r0 σ0) := by
  intro k
  induction k with
  | zero =>
    intro x0 x1 x3 x4 x5 σ r0 σ0 h
    cases h
  | succ k ih =>
    intro x0 x1 x3 x4 x5 σ r0 σ0 h
    exact wX5_leadsTo_23b C hr hk (fX5_leadsTo_23 fu k) ih x0 x1 x3 x4 x5 σ r0 σ0 h
set_option maxHeartbeats 4000000 in
set_option maxRecDepth 20000 in
theorem kX5_leadsTo {x0 : Nat} {x1 : Nat} {x2 : Int32} {x3 : Nat} {σ σ0 : js_S} {r0 : Int32} (t0 : ob_ nn 8 x0) (t1 : ob_ nn 9 x1) (t3 : ob_ nn 9 x3) (h : fX5_leadsTo fu x0 x1 x2 x3 σ = some (r0, σ0)) : js_M l D B g nn yX5_leadsTo cX5_leadsTo 8 (some .boolean) 2 [.ref (B + x0), .ref (B + x1), .int x2, .ref (B + x3)] σ (js_QI D B g nn r0 σ0) := by
  refine js_enter (by decide) (Nat.le_of_ble_eq_true rfl) ?_
  intro p e s m args below meth c C hr hk ls hl hT
  have hl : lv_has ls 8 [(0, .ref (B + x0)), (1, .ref (B + x1)), (2, .int x2), (3, .ref (B + x3))] := hl
  obtain ⟨hx, hb, hml, hown, ht, hK, hNw⟩ := id C
  obtain ⟨H, eH⟩ : ∃ H, H = s.heap := ⟨_, rfl⟩
  obtain ⟨locs, eL⟩ : ∃ z : List Loc, z = [] := ⟨_, rfl⟩
  rw [← eH, ← eL]
  rw [← eH, ← eL] at hT
  clear eH eL
  unfold fX5_leadsTo at h
  refine lv_aload_n hx hb dX5_leadsTo_0 rfl (lv_at hl 1 rfl) ?_
  refine lv_iload_n hx hb dX5_leadsTo_1 rfl (lv_at hl 2 rfl) ?_
  obtain ⟨r1, σ1, hc1, h⟩ := bd_some h
  refine js_backI hT (js_runV C hT cfX9 t1 rfl mfX9_symbolAt lk_X5_46 (kX9_symbolAt t1 hc1) ⟨Nat.le_of_ble_eq_true rfl, Nat.le_of_ble_eq_true rfl⟩ rfl hl.1 rfl (Nat.le_of_ble_eq_true rfl) ⟨Nat.zero_le _, Nat.zero_le _⟩ dX5_leadsTo_2) (fun H locs hT => ?_)
  refine lv_aload_n hx hb dX5_leadsTo_5 rfl (lv_at hl 3 rfl) ?_
  refine lv_iconst (v := 0) hx hb dX5_leadsTo_6 (by decide) ?_
  obtain ⟨r2, σ2, hc2, h⟩ := bd_some h
  refine js_backI hT (js_runV C hT cfX9 t3 rfl mfX9_symbolAt lk_X5_46 (kX9_symbolAt t3 hc2) ⟨Nat.le_of_ble_eq_true rfl, Nat.le_of_ble_eq_true rfl⟩ rfl hl.1 rfl (Nat.le_of_ble_eq_true rfl) ⟨Nat.zero_le _, Nat.zero_le _⟩ dX5_leadsTo_7) (fun H locs hT => ?_)
  refine lv_icmp_eq (tgt := 15) hx hb dX5_leadsTo_10 (by decide) (fun c3 => ?_) (fun c3 => ?_)
  · rw [if_pos c3] at h
    refine lv_iload_n hx hb dX5_leadsTo_15 rfl (lv_at hl 2 rfl) ?_
    refine lv_iconst (v := 1) hx hb dX5_leadsTo_16 (by decide) ?_
    refine lv_iadd hx hb dX5_leadsTo_17 ?_
    refine lv_istore (lv' := [(4, .int (x2 + 1)), (0, .ref (B + x0)), (1, .ref (B + x1)), (2, .int x2), (3, .ref (B + x3))]) hx hb dX5_leadsTo_18 hl (by decide) rfl (fun ls hl => ?_)
    refine lv_iconst (v := 1) hx hb dX5_leadsTo_20 (by decide) ?_
    refine lv_istore (lv' := [(5, .int 1), (4, .int (x2 + 1)), (0, .ref (B + x0)), (1, .ref (B + x1)), (2, .int x2), (3, .ref (B + x3))]) hx hb dX5_leadsTo_21 hl (by decide) rfl (fun ls hl => ?_)
    exact wX5_leadsTo_23 C hr hk _ _ _ _ _ _ _ _ _ h t0 t1 t3 H locs hT ls (lv_sub hl [2, 3, 5, 1, 0] rfl)
  · rw [if_neg c3] at h
    refine lv_iconst (v := 0) hx hb dX5_leadsTo_13 (by decide) ?_
    obtain ⟨rfl, rfl⟩ := js_rt h
    exact js_zret C hT hr hk rfl dX5_leadsTo_14
set_option maxHeartbeats 4000000 in
set_option maxRecDepth 20000 in
theorem kX5_position {x0 : Nat} {x1 : Int32} {σ σ0 : js_S} {r0 : Int32} (t0 : ob_ nn 5 x0) (h : fX5_position fu x0 x1 σ = some (r0, σ0)) : js_M l D B g nn yX5_position cX5_position 2 (some .int) 0 [.ref (B + x0), .int x1] σ (js_QI D B g nn r0 σ0) := by
  refine js_enter (by decide) (Nat.le_of_ble_eq_true rfl) ?_
  intro p e s m args below meth c C hr hk ls hl hT
  have hl : lv_has ls 2 [(0, .ref (B + x0)), (1, .int x1)] := hl
  obtain ⟨hx, hb, hml, hown, ht, hK, hNw⟩ := id C
  obtain ⟨H, eH⟩ : ∃ H, H = s.heap := ⟨_, rfl⟩
  obtain ⟨locs, eL⟩ : ∃ z : List Loc, z = [] := ⟨_, rfl⟩
  rw [← eH, ← eL]
  rw [← eH, ← eL] at hT
  clear eH eL
  unfold fX5_position at h
  refine lv_iload_n hx hb dX5_position_0 rfl (lv_at hl 1 rfl) ?_
  refine lv_if_lt (tgt := 22) hx hb dX5_position_1 (by decide) (fun c1 => ?_) (fun c1 => ?_)
  · rw [if_pos c1] at h
    refine lv_iconst (v := (-1)) hx hb dX5_position_22 (by decide) ?_
    obtain ⟨rfl, rfl⟩ := js_rt h
    exact js_iret C hT hr hk dX5_position_23
  · rw [if_neg c1] at h
    refine lv_iload_n hx hb dX5_position_4 rfl (lv_at hl 1 rfl) ?_
    refine lv_aload_n hx hb dX5_position_5 rfl (lv_at hl 0 rfl) ?_
    refine js_gR C hT cfX5 t0 1 (by decide) (q := 20) rfl (by decide) lk_X5_15 dX5_position_6 (fun t2a => ?_)
    refine js_alen C hT t2a (Or.inl rfl) dX5_position_9 ?_
    refine lv_icmp_ge (tgt := 22) hx hb dX5_position_10 (by decide) (fun c3 => ?_) (fun c3 => ?_)
    · rw [if_pos c3] at h
      refine lv_iconst (v := (-1)) hx hb dX5_position_22 (by decide) ?_
      obtain ⟨rfl, rfl⟩ := js_rt h
      exact js_iret C hT hr hk dX5_position_23
    · rw [if_neg c3] at h
      refine lv_aload_n hx hb dX5_position_13 rfl (lv_at hl 0 rfl) ?_
      refine js_gR C hT cfX5 t0 1 (by decide) (q := 20) rfl (by decide) lk_X5_15 dX5_position_14 (fun t4a => ?_)
      refine lv_iload_n hx hb dX5_position_17 rfl (lv_at hl 1 rfl) ?_
      obtain ⟨g5, h⟩ := gd_some _ h
      refine js_iald C hT t4a g5 dX5_position_18 ?_
      refine lv_goto (tgt := 23) hx hb dX5_position_19 (by decide) ?_
      obtain ⟨rfl, rfl⟩ := js_rt h
      exact js_iret C hT hr hk dX5_position_23
set_option maxHeartbeats 4000000 in
set_option maxRecDepth 20000 in
theorem kX5_rule {x0 : Nat} {x1 : Int32} {σ σ0 : js_S} {r0 : Int32} (t0 : ob_ nn 5 x0) (h : fX5_rule fu x0 x1 σ = some (r0, σ0)) : js_M l D B g nn yX5_rule cX5_rule 2 (some .int) 0 [.ref (B + x0), .int x1] σ (js_QI D B g nn r0 σ0) := by
  refine js_enter (by decide) (Nat.le_of_ble_eq_true rfl) ?_
  intro p e s m args below meth c C hr hk ls hl hT
  have hl : lv_has ls 2 [(0, .ref (B + x0)), (1, .int x1)] := hl
  obtain ⟨hx, hb, hml, hown, ht, hK, hNw⟩ := id C
  obtain ⟨H, eH⟩ : ∃ H, H = s.heap := ⟨_, rfl⟩
  obtain ⟨locs, eL⟩ : ∃ z : List Loc, z = [] := ⟨_, rfl⟩
  rw [← eH, ← eL]
  rw [← eH, ← eL] at hT
  clear eH eL
  unfold fX5_rule at h
  refine lv_iload_n hx hb dX5_rule_0 rfl (lv_at hl 1 rfl) ?_
  refine lv_if_lt (tgt := 22) hx hb dX5_rule_1 (by decide) (fun c1 => ?_) (fun c1 => ?_)
  · rw [if_pos c1] at h
    refine lv_iconst (v := (-1)) hx hb dX5_rule_22 (by decide) ?_
    obtain ⟨rfl, rfl⟩ := js_rt h
    exact js_iret C hT hr hk dX5_rule_23
  · rw [if_neg c1] at h
    refine lv_iload_n hx hb dX5_rule_4 rfl (lv_at hl 1 rfl) ?_
    refine lv_aload_n hx hb dX5_rule_5 rfl (lv_at hl 0 rfl) ?_
    refine js_gR C hT cfX5 t0 0 (by decide) (q := 20) rfl (by decide) lk_X5_9 dX5_rule_6 (fun t2a => ?_)
    refine js_alen C hT t2a (Or.inl rfl) dX5_rule_9 ?_
    refine lv_icmp_ge (tgt := 22) hx hb dX5_rule_10 (by decide) (fun c3 => ?_) (fun c3 => ?_)
    · rw [if_pos c3] at h
      refine lv_iconst (v := (-1)) hx hb dX5_rule_22 (by decide) ?_
      obtain ⟨rfl, rfl⟩ := js_rt h
      exact js_iret C hT hr hk dX5_rule_23
    · rw [if_neg c3] at h
      refine lv_aload_n hx hb dX5_rule_13 rfl (lv_at hl 0 rfl) ?_
      refine js_gR C hT cfX5 t0 0 (by decide) (q := 20) rfl (by decide) lk_X5_9 dX5_rule_14 (fun t4a => ?_)
      refine lv_iload_n hx hb dX5_rule_17 rfl (lv_at hl 1 rfl) ?_
      obtain ⟨g5, h⟩ := gd_some _ h
      refine js_iald C hT t4a g5 dX5_rule_18 ?_
      refine lv_goto (tgt := 23) hx hb dX5_rule_19 (by decide) ?_
      obtain ⟨rfl, rfl⟩ := js_rt h
      exact js_iret C hT hr hk dX5_rule_23
