set_option maxRecDepth 20000 in
def fX9_initc (x0 : Nat) (nn : Nat) (σ : js_S) : Option (Nat × js_S) := (if (decide ((0 : Int32) ≤ 40) && decide (kd_ (nn + 1) = 20) && decide (ln_ (nn + 1) = Int32.toNatClampNeg 40) && decide (Int32.toNatClampNeg 40 ≤ 40)) = true then (lt_ (zz_ σ (nn + 1)) fun σ1 => (if obB_ (nn + 1) 9 x0 = true then (if 0 < (nn + 1) then (lt_ (uR_ σ1 x0 0 (nn + 1)) fun σ2 => (if obB_ (nn + 1) 9 x0 = true then (if 0 < (σ2.2.2 x0 0) then (if obB_ (nn + 1) 20 (σ2.2.2 x0 0) = true then (if ib_ 0 (ln_ (σ2.2.2 x0 0)) = true then (lt_ (uI_ σ2 (σ2.2.2 x0 0) (Int32.toNatClampNeg 0) 122) fun σ5 => (if obB_ (nn + 1) 9 x0 = true then (lt_ (uI_ σ5 x0 1 1) fun σ6 => (some ((nn + 1), σ6))) else none)) else none) else none) else none) else none)) else none) else none)) else none)
set_option maxRecDepth 20000 in
def fX8_initc (x0 : Nat) (nn : Nat) (σ : js_S) : Option (Nat × js_S) := (if (decide ((0 : Int32) ≤ 128) && decide (kd_ (nn + 1) = 20) && decide (ln_ (nn + 1) = Int32.toNatClampNeg 128) && decide (Int32.toNatClampNeg 128 ≤ 128)) = true then (lt_ (zz_ σ (nn + 1)) fun σ1 => (if obB_ (nn + 1) 8 x0 = true then (if 0 < (nn + 1) then (lt_ (uR_ σ1 x0 0 (nn + 1)) fun σ2 => (if obB_ (nn + 1) 8 x0 = true then (if 0 < (σ2.2.2 x0 0) then (if obB_ (nn + 1) 20 (σ2.2.2 x0 0) = true then (if ib_ 115 (ln_ (σ2.2.2 x0 0)) = true then (lt_ (uI_ σ2 (σ2.2.2 x0 0) (Int32.toNatClampNeg 115) 1) fun σ5 => (if obB_ (nn + 1) 8 x0 = true then (if 0 < (σ5.2.2 x0 0) then (if obB_ (nn + 1) 20 (σ5.2.2 x0 0) = true then (if ib_ 99 (ln_ (σ5.2.2 x0 0)) = true then (lt_ (uI_ σ5 (σ5.2.2 x0 0) (Int32.toNatClampNeg 99) 2) fun σ8 => (if obB_ (nn + 1) 8 x0 = true then (if 0 < (σ8.2.2 x0 0) then (if obB_ (nn + 1) 20 (σ8.2.2 x0 0) = true then (if ib_ 102 (ln_ (σ8.2.2 x0 0)) = true then (lt_ (uI_ σ8 (σ8.2.2 x0 0) (Int32.toNatClampNeg 102) 2) fun σ11 => (if obB_ (nn + 1) 8 x0 = true then (if 0 < (σ11.2.2 x0 0) then (if obB_ (nn + 1) 20 (σ11.2.2 x0 0) = true then (if ib_ 103 (ln_ (σ11.2.2 x0 0)) = true then (lt_ (uI_ σ11 (σ11.2.2 x0 0) (Int32.toNatClampNeg 103) 2) fun σ14 => (if obB_ (nn + 1) 8 x0 = true then (if 0 < (σ14.2.2 x0 0) then (if obB_ (nn + 1) 20 (σ14.2.2 x0 0) = true then (if ib_ 104 (ln_ (σ14.2.2 x0 0)) = true then (lt_ (uI_ σ14 (σ14.2.2 x0 0) (Int32.toNatClampNeg 104) 1) fun σ17 => (some ((nn + 1), σ17))) else none) else none) else none) else none)) else none) else none) else none) else none)) else none) else none) else none) else none)) else none) else none) else none) else none)) else none) else none) else none) else none)) else none) else none)) else none)
set_option maxRecDepth 20000 in
def fX4_initc (x0 : Nat) (nn : Nat) (σ : js_S) : Option (Nat × js_S) := (if (decide ((0 : Int32) ≤ 960) && decide (kd_ (nn + 1) = 21) && decide (ln_ (nn + 1) = Int32.toNatClampNeg 960) && decide (Int32.toNatClampNeg 960 ≤ 960)) = true then (lt_ (zz_ σ (nn + 1)) fun σ1 => (if obB_ (nn + 1) 4 x0 = true then (if 0 < (nn + 1) then (lt_ (uR_ σ1 x0 0 (nn + 1)) fun σ2 => (some ((nn + 1), σ2))) else none) else none)) else none)
set_option maxRecDepth 20000 in
def fX10_initc (x0 : Nat) (x1 : Int32) (nn : Nat) (σ : js_S) : Option (Nat × js_S) := (if (decide ((0 : Int32) ≤ (if x1 < 0 then 0 else x1)) && decide (kd_ (nn + 1) = 20) && decide (ln_ (nn + 1) = Int32.toNatClampNeg (if x1 < 0 then 0 else x1)) && decide (Int32.toNatClampNeg (if x1 < 0 then 0 else x1) ≤ 160)) = true then (lt_ (zz_ σ (nn + 1)) fun σ1 => (if obB_ (nn + 1) 10 x0 = true then (if 0 < (nn + 1) then (lt_ (uR_ σ1 x0 0 (nn + 1)) fun σ2 => (if (decide ((0 : Int32) ≤ (if x1 < 0 then 0 else x1)) && decide (kd_ ((nn + 1) + 1) = 20) && decide (ln_ ((nn + 1) + 1) = Int32.toNatClampNeg (if x1 < 0 then 0 else x1)) && decide (Int32.toNatClampNeg (if x1 < 0 then 0 else x1) ≤ 160)) = true then (lt_ (zz_ σ2 ((nn + 1) + 1)) fun σ3 => (if obB_ ((nn + 1) + 1) 10 x0 = true then (if 0 < ((nn + 1) + 1) then (lt_ (uR_ σ3 x0 1 ((nn + 1) + 1)) fun σ4 => (some (((nn + 1) + 1), σ4))) else none) else none)) else none)) else none) else none)) else none)
set_option maxRecDepth 20000 in
def fX6_initc_94b (rc94 : Nat → Int32 → Nat → js_S → Option (Nat × js_S)) (x0 : Nat) (x1 : Int32) (nn : Nat) (σ : js_S) : Option (Nat × js_S) := (if 4 ≤ x1 then (some (nn, σ)) else (if obB_ nn 6 x0 = true then (if 0 < (σ.2.2 x0 3) then (if kd_ (nn + 1) = 9 then (lt_ (zz_ σ (nn + 1)) fun σ4 => (bd_ (fX9_initc (nn + 1) (nn + 1) σ4) fun r5 σ5 => (if obB_ r5 23 (σ.2.2 x0 3) = true then (if obB_ r5 9 (nn + 1) = true then (if ib_ x1 (ln_ (σ.2.2 x0 3)) = true then (lt_ (uR_ σ5 (σ.2.2 x0 3) (Int32.toNatClampNeg x1) (nn + 1)) fun σ6 => (rc94 x0 (x1 + 1) r5 σ6)) else none) else none) else none))) else none) else none) else none))
set_option maxRecDepth 20000 in
def fX6_initc_94 : Nat → Nat → Int32 → Nat → js_S → Option (Nat × js_S)
  | 0, _, _, _, _ => none
  | k + 1, x0, x1, nn, σ => fX6_initc_94b (fX6_initc_94 k) x0 x1 nn σ
set_option maxRecDepth 20000 in
def fX6_initc_54b (rc54 : Nat → Int32 → Nat → js_S → Option (Nat × js_S)) (x0 : Nat) (x1 : Int32) (nn : Nat) (σ : js_S) : Option (Nat × js_S) := (if 6 ≤ x1 then (fX6_initc_94 5 x0 0 nn σ) else (if obB_ nn 6 x0 = true then (if 0 < (σ.2.2 x0 1) then (if kd_ (nn + 1) = 9 then (lt_ (zz_ σ (nn + 1)) fun σ4 => (bd_ (fX9_initc (nn + 1) (nn + 1) σ4) fun r5 σ5 => (if obB_ r5 23 (σ.2.2 x0 1) = true then (if obB_ r5 9 (nn + 1) = true then (if ib_ x1 (ln_ (σ.2.2 x0 1)) = true then (lt_ (uR_ σ5 (σ.2.2 x0 1) (Int32.toNatClampNeg x1) (nn + 1)) fun σ6 => (if obB_ r5 6 x0 = true then (if 0 < (σ6.2.2 x0 2) then (if kd_ (r5 + 1) = 9 then (lt_ (zz_ σ6 (r5 + 1)) fun σ9 => (bd_ (fX9_initc (r5 + 1) (r5 + 1) σ9) fun r10 σ10 => (if obB_ r10 23 (σ6.2.2 x0 2) = true then (if obB_ r10 9 (r5 + 1) = true then (if ib_ x1 (ln_ (σ6.2.2 x0 2)) = true then (lt_ (uR_ σ10 (σ6.2.2 x0 2) (Int32.toNatClampNeg x1) (r5 + 1)) fun σ11 => (rc54 x0 (x1 + 1) r10 σ11)) else none) else none) else none))) else none) else none) else none)) else none) else none) else none))) else none) else none) else none))
set_option maxRecDepth 20000 in
def fX6_initc_54 : Nat → Nat → Int32 → Nat → js_S → Option (Nat × js_S)
  | 0, _, _, _, _ => none
  | k + 1, x0, x1, nn, σ => fX6_initc_54b (fX6_initc_54 k) x0 x1 nn σ
set_option maxRecDepth 20000 in
def fX6_initc (x0 : Nat) (nn : Nat) (σ : js_S) : Option (Nat × js_S) := (if kd_ (nn + 1) = 8 then (lt_ (zz_ σ (nn + 1)) fun σ1 => (bd_ (fX8_initc (nn + 1) (nn + 1) σ1) fun r2 σ2 => (if obB_ r2 6 x0 = true then (if 0 < (nn + 1) then (lt_ (uR_ σ2 x0 0 (nn + 1)) fun σ3 => (if (decide ((0 : Int32) ≤ 6) && decide (kd_ (r2 + 1) = 23) && decide (ln_ (r2 + 1) = Int32.toNatClampNeg 6) && decide (Int32.toNatClampNeg 6 ≤ 6)) = true then (lt_ (zz_ σ3 (r2 + 1)) fun σ4 => (if obB_ (r2 + 1) 6 x0 = true then (if 0 < (r2 + 1) then (lt_ (uR_ σ4 x0 1 (r2 + 1)) fun σ5 => (if (decide ((0 : Int32) ≤ 6) && decide (kd_ ((r2 + 1) + 1) = 23) && decide (ln_ ((r2 + 1) + 1) = Int32.toNatClampNeg 6) && decide (Int32.toNatClampNeg 6 ≤ 6)) = true then (lt_ (zz_ σ5 ((r2 + 1) + 1)) fun σ6 => (if obB_ ((r2 + 1) + 1) 6 x0 = true then (if 0 < ((r2 + 1) + 1) then (lt_ (uR_ σ6 x0 2 ((r2 + 1) + 1)) fun σ7 => (if (decide ((0 : Int32) ≤ 4) && decide (kd_ (((r2 + 1) + 1) + 1) = 23) && decide (ln_ (((r2 + 1) + 1) + 1) = Int32.toNatClampNeg 4) && decide (Int32.toNatClampNeg 4 ≤ 4)) = true then (lt_ (zz_ σ7 (((r2 + 1) + 1) + 1)) fun σ8 => (if obB_ (((r2 + 1) + 1) + 1) 6 x0 = true then (if 0 < (((r2 + 1) + 1) + 1) then (lt_ (uR_ σ8 x0 3 (((r2 + 1) + 1) + 1)) fun σ9 => (if kd_ ((((r2 + 1) + 1) + 1) + 1) = 9 then (lt_ (zz_ σ9 ((((r2 + 1) + 1) + 1) + 1)) fun σ10 => (bd_ (fX9_initc ((((r2 + 1) + 1) + 1) + 1) ((((r2 + 1) + 1) + 1) + 1) σ10) fun r11 σ11 => (if obB_ r11 6 x0 = true then (if 0 < ((((r2 + 1) + 1) + 1) + 1) then (lt_ (uR_ σ11 x0 4 ((((r2 + 1) + 1) + 1) + 1)) fun σ12 => (fX6_initc_54 7 x0 0 r11 σ12)) else none) else none))) else none)) else none) else none)) else none)) else none) else none)) else none)) else none) else none)) else none)) else none) else none))) else none)
set_option maxRecDepth 20000 in
def fX7_initc_22b (rc22 : Nat → Int32 → Nat → js_S → Option (Nat × js_S)) (x0 : Nat) (x1 : Int32) (nn : Nat) (σ : js_S) : Option (Nat × js_S) := (if 100 < x1 then (some (nn, σ)) else (if obB_ nn 7 x0 = true then (if 0 < (σ.2.2 x0 1) then (if kd_ (nn + 1) = 9 then (lt_ (zz_ σ (nn + 1)) fun σ4 => (bd_ (fX9_initc (nn + 1) (nn + 1) σ4) fun r5 σ5 => (if obB_ r5 23 (σ.2.2 x0 1) = true then (if obB_ r5 9 (nn + 1) = true then (if ib_ x1 (ln_ (σ.2.2 x0 1)) = true then (lt_ (uR_ σ5 (σ.2.2 x0 1) (Int32.toNatClampNeg x1) (nn + 1)) fun σ6 => (rc22 x0 (x1 + 1) r5 σ6)) else none) else none) else none))) else none) else none) else none))
set_option maxRecDepth 20000 in
def fX7_initc_22 : Nat → Nat → Int32 → Nat → js_S → Option (Nat × js_S)
  | 0, _, _, _, _ => none
  | k + 1, x0, x1, nn, σ => fX7_initc_22b (fX7_initc_22 k) x0 x1 nn σ
set_option maxRecDepth 20000 in
def fX7_initc (x0 : Nat) (nn : Nat) (σ : js_S) : Option (Nat × js_S) := (if (decide ((0 : Int32) ≤ 3) && decide (kd_ (nn + 1) = 20) && decide (ln_ (nn + 1) = Int32.toNatClampNeg 3) && decide (Int32.toNatClampNeg 3 ≤ 3)) = true then (lt_ (zz_ σ (nn + 1)) fun σ1 => (if obB_ (nn + 1) 7 x0 = true then (if 0 < (nn + 1) then (lt_ (uR_ σ1 x0 0 (nn + 1)) fun σ2 => (if (decide ((0 : Int32) ≤ 101) && decide (kd_ ((nn + 1) + 1) = 23) && decide (ln_ ((nn + 1) + 1) = Int32.toNatClampNeg 101) && decide (Int32.toNatClampNeg 101 ≤ 101)) = true then (lt_ (zz_ σ2 ((nn + 1) + 1)) fun σ3 => (if obB_ ((nn + 1) + 1) 7 x0 = true then (if 0 < ((nn + 1) + 1) then (lt_ (uR_ σ3 x0 1 ((nn + 1) + 1)) fun σ4 => (fX7_initc_22 102 x0 0 ((nn + 1) + 1) σ4)) else none) else none)) else none)) else none) else none)) else none)
set_option maxRecDepth 20000 in
def fX3_initc_56b (rc56 : Nat → Int32 → Nat → js_S → Option (Nat × js_S)) (x0 : Nat) (x1 : Int32) (nn : Nat) (σ : js_S) : Option (Nat × js_S) := (if 30 < x1 then (some (nn, σ)) else (if obB_ nn 3 x0 = true then (if 0 < (σ.2.2 x0 0) then (if kd_ (nn + 1) = 9 then (lt_ (zz_ σ (nn + 1)) fun σ4 => (bd_ (fX9_initc (nn + 1) (nn + 1) σ4) fun r5 σ5 => (if obB_ r5 23 (σ.2.2 x0 0) = true then (if obB_ r5 9 (nn + 1) = true then (if ib_ x1 (ln_ (σ.2.2 x0 0)) = true then (lt_ (uR_ σ5 (σ.2.2 x0 0) (Int32.toNatClampNeg x1) (nn + 1)) fun σ6 => (rc56 x0 (x1 + 1) r5 σ6)) else none) else none) else none))) else none) else none) else none))
set_option maxRecDepth 20000 in
def fX3_initc_56 : Nat → Nat → Int32 → Nat → js_S → Option (Nat × js_S)
  | 0, _, _, _, _ => none
  | k + 1, x0, x1, nn, σ => fX3_initc_56b (fX3_initc_56 k) x0 x1 nn σ
set_option maxRecDepth 20000 in
def fX3_initc (x0 : Nat) (nn : Nat) (σ : js_S) : Option (Nat × js_S) := (if (decide ((0 : Int32) ≤ 31) && decide (kd_ (nn + 1) = 23) && decide (ln_ (nn + 1) = Int32.toNatClampNeg 31) && decide (Int32.toNatClampNeg 31 ≤ 31)) = true then (lt_ (zz_ σ (nn + 1)) fun σ1 => (if obB_ (nn + 1) 3 x0 = true then (if 0 < (nn + 1) then (lt_ (uR_ σ1 x0 0 (nn + 1)) fun σ2 => (if (decide ((0 : Int32) ≤ 31) && decide (kd_ ((nn + 1) + 1) = 22) && decide (ln_ ((nn + 1) + 1) = Int32.toNatClampNeg 31) && decide (Int32.toNatClampNeg 31 ≤ 31)) = true then (lt_ (zz_ σ2 ((nn + 1) + 1)) fun σ3 => (if obB_ ((nn + 1) + 1) 3 x0 = true then (if 0 < ((nn + 1) + 1) then (lt_ (uR_ σ3 x0 1 ((nn + 1) + 1)) fun σ4 => (if kd_ (((nn + 1) + 1) + 1) = 9 then (lt_ (zz_ σ4 (((nn + 1) + 1) + 1)) fun σ5 => (bd_ (fX9_initc (((nn + 1) + 1) + 1) (((nn + 1) + 1) + 1) σ5) fun r6 σ6 => (if obB_ r6 3 x0 = true then (if 0 < (((nn + 1) + 1) + 1) then (lt_ (uR_ σ6 x0 2 (((nn + 1) + 1) + 1)) fun σ7 => (if kd_ (r6 + 1) = 9 then (lt_ (zz_ σ7 (r6 + 1)) fun σ8 => (bd_ (fX9_initc (r6 + 1) (r6 + 1) σ8) fun r9 σ9 => (if obB_ r9 3 x0 = true then (if 0 < (r6 + 1) then (lt_ (uR_ σ9 x0 3 (r6 + 1)) fun σ10 => (if kd_ (r9 + 1) = 9 then (lt_ (zz_ σ10 (r9 + 1)) fun σ11 => (bd_ (fX9_initc (r9 + 1) (r9 + 1) σ11) fun r12 σ12 => (if obB_ r12 3 x0 = true then (if 0 < (r9 + 1) then (lt_ (uR_ σ12 x0 4 (r9 + 1)) fun σ13 => (fX3_initc_56 32 x0 0 r12 σ13)) else none) else none))) else none)) else none) else none))) else none)) else none) else none))) else none)) else none) else none)) else none)) else none) else none)) else none)
set_option maxRecDepth 20000 in
def fX5_initc (x0 : Nat) (nn : Nat) (σ : js_S) : Option (Nat × js_S) := (if (decide ((0 : Int32) ≤ 240) && decide (kd_ (nn + 1) = 20) && decide (ln_ (nn + 1) = Int32.toNatClampNeg 240) && decide (Int32.toNatClampNeg 240 ≤ 240)) = true then (lt_ (zz_ σ (nn + 1)) fun σ1 => (if obB_ (nn + 1) 5 x0 = true then (if 0 < (nn + 1) then (lt_ (uR_ σ1 x0 0 (nn + 1)) fun σ2 => (if (decide ((0 : Int32) ≤ 240) && decide (kd_ ((nn + 1) + 1) = 20) && decide (ln_ ((nn + 1) + 1) = Int32.toNatClampNeg 240) && decide (Int32.toNatClampNeg 240 ≤ 240)) = true then (lt_ (zz_ σ2 ((nn + 1) + 1)) fun σ3 => (if obB_ ((nn + 1) + 1) 5 x0 = true then (if 0 < ((nn + 1) + 1) then (lt_ (uR_ σ3 x0 1 ((nn + 1) + 1)) fun σ4 => (if (decide ((0 : Int32) ≤ 240) && decide (kd_ (((nn + 1) + 1) + 1) = 20) && decide (ln_ (((nn + 1) + 1) + 1) = Int32.toNatClampNeg 240) && decide (Int32.toNatClampNeg 240 ≤ 240)) = true then (lt_ (zz_ σ4 (((nn + 1) + 1) + 1)) fun σ5 => (if obB_ (((nn + 1) + 1) + 1) 5 x0 = true then (if 0 < (((nn + 1) + 1) + 1) then (lt_ (uR_ σ5 x0 2 (((nn + 1) + 1) + 1)) fun σ6 => (if kd_ ((((nn + 1) + 1) + 1) + 1) = 4 then (lt_ (zz_ σ6 ((((nn + 1) + 1) + 1) + 1)) fun σ7 => (bd_ (fX4_initc ((((nn + 1) + 1) + 1) + 1) ((((nn + 1) + 1) + 1) + 1) σ7) fun r8 σ8 => (if obB_ r8 5 x0 = true then (if 0 < ((((nn + 1) + 1) + 1) + 1) then (lt_ (uR_ σ8 x0 3 ((((nn + 1) + 1) + 1) + 1)) fun σ9 => (some (r8, σ9))) else none) else none))) else none)) else none) else none)) else none)) else none) else none)) else none)) else none) else none)) else none)
set_option maxRecDepth 20000 in
def fX1_initc (x0 : Nat) (nn : Nat) (σ : js_S) : Option (Nat × js_S) := (if kd_ (nn + 1) = 4 then (lt_ (zz_ σ (nn + 1)) fun σ1 => (bd_ (fX4_initc (nn + 1) (nn + 1) σ1) fun r2 σ2 => (if obB_ r2 1 x0 = true then (if 0 < (nn + 1) then (lt_ (uR_ σ2 x0 0 (nn + 1)) fun σ3 => (if kd_ (r2 + 1) = 4 then (lt_ (zz_ σ3 (r2 + 1)) fun σ4 => (bd_ (fX4_initc (r2 + 1) (r2 + 1) σ4) fun r5 σ5 => (if obB_ r5 1 x0 = true then (if 0 < (r2 + 1) then (lt_ (uR_ σ5 x0 1 (r2 + 1)) fun σ6 => (if (decide ((0 : Int32) ≤ 240) && decide (kd_ (r5 + 1) = 20) && decide (ln_ (r5 + 1) = Int32.toNatClampNeg 240) && decide (Int32.toNatClampNeg 240 ≤ 240)) = true then (lt_ (zz_ σ6 (r5 + 1)) fun σ7 => (if obB_ (r5 + 1) 1 x0 = true then (if 0 < (r5 + 1) then (lt_ (uR_ σ7 x0 2 (r5 + 1)) fun σ8 => (some ((r5 + 1), σ8))) else none) else none)) else none)) else none) else none))) else none)) else none) else none))) else none)
set_option maxRecDepth 20000 in
def fX0_initc (x0 : Nat) (nn : Nat) (σ : js_S) : Option (Nat × js_S) := (if (decide ((0 : Int32) ≤ 400) && decide (kd_ (nn + 1) = 20) && decide (ln_ (nn + 1) = Int32.toNatClampNeg 400) && decide (Int32.toNatClampNeg 400 ≤ 400)) = true then (lt_ (zz_ σ (nn + 1)) fun σ1 => (if obB_ (nn + 1) 0 x0 = true then (if 0 < (nn + 1) then (lt_ (uR_ σ1 x0 0 (nn + 1)) fun σ2 => (if (decide ((0 : Int32) ≤ 1024) && decide (kd_ ((nn + 1) + 1) = 20) && decide (ln_ ((nn + 1) + 1) = Int32.toNatClampNeg 1024) && decide (Int32.toNatClampNeg 1024 ≤ 1024)) = true then (lt_ (zz_ σ2 ((nn + 1) + 1)) fun σ3 => (if obB_ ((nn + 1) + 1) 0 x0 = true then (if 0 < ((nn + 1) + 1) then (lt_ (uR_ σ3 x0 1 ((nn + 1) + 1)) fun σ4 => (some (((nn + 1) + 1), σ4))) else none) else none)) else none)) else none) else none)) else none)
set_option maxRecDepth 20000 in
def fX2_initc (x0 : Nat) (nn : Nat) (σ : js_S) : Option (Nat × js_S) := (if kd_ (nn + 1) = 1 then (lt_ (zz_ σ (nn + 1)) fun σ1 => (bd_ (fX1_initc (nn + 1) (nn + 1) σ1) fun r2 σ2 => (if obB_ r2 2 x0 = true then (if 0 < (nn + 1) then (lt_ (uR_ σ2 x0 0 (nn + 1)) fun σ3 => (if (decide ((0 : Int32) ≤ 3) && decide (kd_ (r2 + 1) = 20) && decide (ln_ (r2 + 1) = Int32.toNatClampNeg 3) && decide (Int32.toNatClampNeg 3 ≤ 3)) = true then (lt_ (zz_ σ3 (r2 + 1)) fun σ4 => (if obB_ (r2 + 1) 2 x0 = true then (if 0 < (r2 + 1) then (lt_ (uR_ σ4 x0 1 (r2 + 1)) fun σ5 => (if (decide ((0 : Int32) ≤ 3) && decide (kd_ ((r2 + 1) + 1) = 20) && decide (ln_ ((r2 + 1) + 1) = Int32.toNatClampNeg 3) && decide (Int32.toNatClampNeg 3 ≤ 3)) = true then (lt_ (zz_ σ5 ((r2 + 1) + 1)) fun σ6 => (if obB_ ((r2 + 1) + 1) 2 x0 = true then (if 0 < ((r2 + 1) + 1) then (lt_ (uR_ σ6 x0 2 ((r2 + 1) + 1)) fun σ7 => (some (((r2 + 1) + 1), σ7))) else none) else none)) else none)) else none) else none)) else none)) else none) else none))) else none)
set_option maxRecDepth 20000 in
def fX11_initc (x0 : Nat) (nn : Nat) (σ : js_S) : Option (Nat × js_S) := (if kd_ (nn + 1) = 6 then (lt_ (zz_ σ (nn + 1)) fun σ1 => (bd_ (fX6_initc (nn + 1) (nn + 1) σ1) fun r2 σ2 => (if obB_ r2 11 x0 = true then (if 0 < (nn + 1) then (lt_ (uR_ σ2 x0 0 (nn + 1)) fun σ3 => (if kd_ (r2 + 1) = 6 then (lt_ (zz_ σ3 (r2 + 1)) fun σ4 => (bd_ (fX6_initc (r2 + 1) (r2 + 1) σ4) fun r5 σ5 => (if obB_ r5 11 x0 = true then (if 0 < (r2 + 1) then (lt_ (uR_ σ5 x0 1 (r2 + 1)) fun σ6 => (if kd_ (r5 + 1) = 10 then (lt_ (zz_ σ6 (r5 + 1)) fun σ7 => (bd_ (fX10_initc (r5 + 1) 80 (r5 + 1) σ7) fun r8 σ8 => (if obB_ r8 11 x0 = true then (if 0 < (r5 + 1) then (lt_ (uR_ σ8 x0 3 (r5 + 1)) fun σ9 => (if kd_ (r8 + 1) = 10 then (lt_ (zz_ σ9 (r8 + 1)) fun σ10 => (bd_ (fX10_initc (r8 + 1) 160 (r8 + 1) σ10) fun r11 σ11 => (if obB_ r11 11 x0 = true then (if 0 < (r8 + 1) then (lt_ (uR_ σ11 x0 4 (r8 + 1)) fun σ12 => (if kd_ (r11 + 1) = 7 then (lt_ (zz_ σ12 (r11 + 1)) fun σ13 => (bd_ (fX7_initc (r11 + 1) (r11 + 1) σ13) fun r14 σ14 => (if obB_ r14 11 x0 = true then (if 0 < (r11 + 1) then (lt_ (uR_ σ14 x0 5 (r11 + 1)) fun σ15 => (if kd_ (r14 + 1) = 3 then (lt_ (zz_ σ15 (r14 + 1)) fun σ16 => (bd_ (fX3_initc (r14 + 1) (r14 + 1) σ16) fun r17 σ17 => (if obB_ r17 11 x0 = true then (if 0 < (r14 + 1) then (lt_ (uR_ σ17 x0 6 (r14 + 1)) fun σ18 => (if kd_ (r17 + 1) = 9 then (lt_ (zz_ σ18 (r17 + 1)) fun σ19 => (bd_ (fX9_initc (r17 + 1) (r17 + 1) σ19) fun r20 σ20 => (if obB_ r20 11 x0 = true then (if 0 < (r17 + 1) then (lt_ (uR_ σ20 x0 7 (r17 + 1)) fun σ21 => (if kd_ (r20 + 1) = 5 then (lt_ (zz_ σ21 (r20 + 1)) fun σ22 => (bd_ (fX5_initc (r20 + 1) (r20 + 1) σ22) fun r23 σ23 => (if obB_ r23 11 x0 = true then (if 0 < (r20 + 1) then (lt_ (uR_ σ23 x0 8 (r20 + 1)) fun σ24 => (if kd_ (r23 + 1) = 1 then (lt_ (zz_ σ24 (r23 + 1)) fun σ25 => (bd_ (fX1_initc (r23 + 1) (r23 + 1) σ25) fun r26 σ26 => (if obB_ r26 11 x0 = true then (if 0 < (r23 + 1) then (lt_ (uR_ σ26 x0 10 (r23 + 1)) fun σ27 => (if kd_ (r26 + 1) = 0 then (lt_ (zz_ σ27 (r26 + 1)) fun σ28 => (bd_ (fX0_initc (r26 + 1) (r26 + 1) σ28) fun r29 σ29 => (if obB_ r29 11 x0 = true then (if 0 < (r26 + 1) then (lt_ (uR_ σ29 x0 12 (r26 + 1)) fun σ30 => (if kd_ (r29 + 1) = 2 then (lt_ (zz_ σ30 (r29 + 1)) fun σ31 => (bd_ (fX2_initc (r29 + 1) (r29 + 1) σ31) fun r32 σ32 => (if obB_ r32 11 x0 = true then (if 0 < (r29 + 1) then (lt_ (uR_ σ32 x0 14 (r29 + 1)) fun σ33 => (some (r32, σ33))) else none) else none))) else none)) else none) else none))) else none)) else none) else none))) else none)) else none) else none))) else none)) else none) else none))) else none)) else none) else none))) else none)) else none) else none))) else none)) else none) else none))) else none)) else none) else none))) else none)) else none) else none))) else none)) else none) else none))) else none)
set_option maxRecDepth 20000 in
def fX12_setToZc (x0 : Nat) (x1 : Int32) (nn : Nat) (σ : js_S) : Option (Nat × js_S) := (if obB_ nn 12 x0 = true then (if 0 < (σ.2.2 x0 4) then (if obB_ nn 20 (σ.2.2 x0 4) = true then (if ib_ (96 * x1) (ln_ (σ.2.2 x0 4)) = true then (lt_ (uI_ σ (σ.2.2 x0 4) (Int32.toNatClampNeg (96 * x1)) 1) fun σ3 => (if obB_ nn 12 x0 = true then (if 0 < (σ3.2.2 x0 4) then (if obB_ nn 20 (σ3.2.2 x0 4) = true then (if ib_ ((96 * x1) + 1) (ln_ (σ3.2.2 x0 4)) = true then (lt_ (uI_ σ3 (σ3.2.2 x0 4) (Int32.toNatClampNeg ((96 * x1) + 1)) 122) fun σ6 => (some (nn, σ6))) else none) else none) else none) else none)) else none) else none) else none) else none)
set_option maxRecDepth 20000 in
def fX12_initc_267b (rc267 : Nat → Int32 → Nat → js_S → Option (Nat × js_S)) (x0 : Nat) (x1 : Int32) (nn : Nat) (σ : js_S) : Option (Nat × js_S) := (if 4 ≤ x1 then (some (nn, σ)) else (if obB_ nn 12 x0 = true then (bd_ (fX12_setToZc x0 x1 nn σ) fun r2 σ2 => (rc267 x0 (x1 + 1) r2 σ2)) else none))
set_option maxRecDepth 20000 in
def fX12_initc_267 : Nat → Nat → Int32 → Nat → js_S → Option (Nat × js_S)
  | 0, _, _, _, _ => none
  | k + 1, x0, x1, nn, σ => fX12_initc_267b (fX12_initc_267 k) x0 x1 nn σ
set_option maxRecDepth 20000 in
def fX12_initc (x0 : Nat) (nn : Nat) (σ : js_S) : Option (Nat × js_S) := (if (decide ((0 : Int32) ≤ 3) && decide (kd_ (nn + 1) = 20) && decide (ln_ (nn + 1) = Int32.toNatClampNeg 3) && decide (Int32.toNatClampNeg 3 ≤ 3)) = true then (lt_ (zz_ σ (nn + 1)) fun σ1 => (if obB_ (nn + 1) 12 x0 = true then (if 0 < (nn + 1) then (lt_ (uR_ σ1 x0 0 (nn + 1)) fun σ2 => (if (decide ((0 : Int32) ≤ 3) && decide (kd_ ((nn + 1) + 1) = 20) && decide (ln_ ((nn + 1) + 1) = Int32.toNatClampNeg 3) && decide (Int32.toNatClampNeg 3 ≤ 3)) = true then (lt_ (zz_ σ2 ((nn + 1) + 1)) fun σ3 => (if obB_ ((nn + 1) + 1) 12 x0 = true then (if 0 < ((nn + 1) + 1) then (lt_ (uR_ σ3 x0 1 ((nn + 1) + 1)) fun σ4 => (if (decide ((0 : Int32) ≤ 1152) && decide (kd_ (((nn + 1) + 1) + 1) = 20) && decide (ln_ (((nn + 1) + 1) + 1) = Int32.toNatClampNeg 1152) && decide (Int32.toNatClampNeg 1152 ≤ 1152)) = true then (lt_ (zz_ σ4 (((nn + 1) + 1) + 1)) fun σ5 => (if obB_ (((nn + 1) + 1) + 1) 12 x0 = true then (if 0 < (((nn + 1) + 1) + 1) then (lt_ (uR_ σ5 x0 2 (((nn + 1) + 1) + 1)) fun σ6 => (if (decide ((0 : Int32) ≤ 1152) && decide (kd_ ((((nn + 1) + 1) + 1) + 1) = 20) && decide (ln_ ((((nn + 1) + 1) + 1) + 1) = Int32.toNatClampNeg 1152) && decide (Int32.toNatClampNeg 1152 ≤ 1152)) = true then (lt_ (zz_ σ6 ((((nn + 1) + 1) + 1) + 1)) fun σ7 => (if obB_ ((((nn + 1) + 1) + 1) + 1) 12 x0 = true then (if 0 < ((((nn + 1) + 1) + 1) + 1) then (lt_ (uR_ σ7 x0 3 ((((nn + 1) + 1) + 1) + 1)) fun σ8 => (if (decide ((0 : Int32) ≤ 384) && decide (kd_ (((((nn + 1) + 1) + 1) + 1) + 1) = 20) && decide (ln_ (((((nn + 1) + 1) + 1) + 1) + 1) = Int32.toNatClampNeg 384) && decide (Int32.toNatClampNeg 384 ≤ 384)) = true then (lt_ (zz_ σ8 (((((nn + 1) + 1) + 1) + 1) + 1)) fun σ9 => (if obB_ (((((nn + 1) + 1) + 1) + 1) + 1) 12 x0 = true then (if 0 < (((((nn + 1) + 1) + 1) + 1) + 1) then (lt_ (uR_ σ9 x0 4 (((((nn + 1) + 1) + 1) + 1) + 1)) fun σ10 => (if (decide ((0 : Int32) ≤ 384) && decide (kd_ ((((((nn + 1) + 1) + 1) + 1) + 1) + 1) = 20) && decide (ln_ ((((((nn + 1) + 1) + 1) + 1) + 1) + 1) = Int32.toNatClampNeg 384) && decide (Int32.toNatClampNeg 384 ≤ 384)) = true then (lt_ (zz_ σ10 ((((((nn + 1) + 1) + 1) + 1) + 1) + 1)) fun σ11 => (if obB_ ((((((nn + 1) + 1) + 1) + 1) + 1) + 1) 12 x0 = true then (if 0 < ((((((nn + 1) + 1) + 1) + 1) + 1) + 1) then (lt_ (uR_ σ11 x0 5 ((((((nn + 1) + 1) + 1) + 1) + 1) + 1)) fun σ12 => (if (decide ((0 : Int32) ≤ 3) && decide (kd_ (((((((nn + 1) + 1) + 1) + 1) + 1) + 1) + 1) = 20) && decide (ln_ (((((((nn + 1) + 1) + 1) + 1) + 1) + 1) + 1) = Int32.toNatClampNeg 3) && decide (Int32.toNatClampNeg 3 ≤ 3)) = true then (lt_ (zz_ σ12 (((((((nn + 1) + 1) + 1) + 1) + 1) + 1) + 1)) fun σ13 => (if obB_ (((((((nn + 1) + 1) + 1) + 1) + 1) + 1) + 1) 12 x0 = true then (if 0 < (((((((nn + 1) + 1) + 1) + 1) + 1) + 1) + 1) then (lt_ (uR_ σ13 x0 9 (((((((nn + 1) + 1) + 1) + 1) + 1) + 1) + 1)) fun σ14 => (if (decide ((0 : Int32) ≤ 3) && decide (kd_ ((((((((nn + 1) + 1) + 1) + 1) + 1) + 1) + 1) + 1) = 20) && decide (ln_ ((((((((nn + 1) + 1) + 1) + 1) + 1) + 1) + 1) + 1) = Int32.toNatClampNeg 3) && decide (Int32.toNatClampNeg 3 ≤ 3)) = true then (lt_ (zz_ σ14 ((((((((nn + 1) + 1) + 1) + 1) + 1) + 1) + 1) + 1)) fun σ15 => (if obB_ ((((((((nn + 1) + 1) + 1) + 1) + 1) + 1) + 1) + 1) 12 x0 = true then (if 0 < ((((((((nn + 1) + 1) + 1) + 1) + 1) + 1) + 1) + 1) then (lt_ (uR_ σ15 x0 10 ((((((((nn + 1) + 1) + 1) + 1) + 1) + 1) + 1) + 1)) fun σ16 => (if (decide ((0 : Int32) ≤ 96) && decide (kd_ (((((((((nn + 1) + 1) + 1) + 1) + 1) + 1) + 1) + 1) + 1) = 20) && decide (ln_ (((((((((nn + 1) + 1) + 1) + 1) + 1) + 1) + 1) + 1) + 1) = Int32.toNatClampNeg 96) && decide (Int32.toNatClampNeg 96 ≤ 96)) = true then (lt_ (zz_ σ16 (((((((((nn + 1) + 1) + 1) + 1) + 1) + 1) + 1) + 1) + 1)) fun σ17 => (if obB_ (((((((((nn + 1) + 1) + 1) + 1) + 1) + 1) + 1) + 1) + 1) 12 x0 = true then (if 0 < (((((((((nn + 1) + 1) + 1) + 1) + 1) + 1) + 1) + 1) + 1) then (lt_ (uR_ σ17 x0 11 (((((((((nn + 1) + 1) + 1) + 1) + 1) + 1) + 1) + 1) + 1)) fun σ18 => (if (decide ((0 : Int32) ≤ 80) && decide (kd_ ((((((((((nn + 1) + 1) + 1) + 1) + 1) + 1) + 1) + 1) + 1) + 1) = 20) && decide (ln_ ((((((((((nn + 1) + 1) + 1) + 1) + 1) + 1) + 1) + 1) + 1) + 1) = Int32.toNatClampNeg 80) && decide (Int32.toNatClampNeg 80 ≤ 80)) = true then (lt_ (zz_ σ18 ((((((((((nn + 1) + 1) + 1) + 1) + 1) + 1) + 1) + 1) + 1) + 1)) fun σ19 => (if obB_ ((((((((((nn + 1) + 1) + 1) + 1) + 1) + 1) + 1) + 1) + 1) + 1) 12 x0 = true then (if 0 < ((((((((((nn + 1) + 1) + 1) + 1) + 1) + 1) + 1) + 1) + 1) + 1) then (lt_ (uR_ σ19 x0 12 ((((((((((nn + 1) + 1) + 1) + 1) + 1) + 1) + 1) + 1) + 1) + 1)) fun σ20 => (if (decide ((0 : Int32) ≤ 96) && decide (kd_ (((((((((((nn + 1) + 1) + 1) + 1) + 1) + 1) + 1) + 1) + 1) + 1) + 1) = 20) && decide (ln_ (((((((((((nn + 1) + 1) + 1) + 1) + 1) + 1) + 1) + 1) + 1) + 1) + 1) = Int32.toNatClampNeg 96) && decide (Int32.toNatClampNeg 96 ≤ 96)) = true then (lt_ (zz_ σ20 (((((((((((nn + 1) + 1) + 1) + 1) + 1) + 1) + 1) + 1) + 1) + 1) + 1)) fun σ21 => (if obB_ (((((((((((nn + 1) + 1) + 1) + 1) + 1) + 1) + 1) + 1) + 1) + 1) + 1) 12 x0 = true then (if 0 < (((((((((((nn + 1) + 1) + 1) + 1) + 1) + 1) + 1) + 1) + 1) + 1) + 1) then (lt_ (uR_ σ21 x0 13 (((((((((((nn + 1) + 1) + 1) + 1) + 1) + 1) + 1) + 1) + 1) + 1) + 1)) fun σ22 => (if (decide ((0 : Int32) ≤ 96) && decide (kd_ ((((((((((((nn + 1) + 1) + 1) + 1) + 1) + 1) + 1) + 1) + 1) + 1) + 1) + 1) = 20) && decide (ln_ ((((((((((((nn + 1) + 1) + 1) + 1) + 1) + 1) + 1) + 1) + 1) + 1) + 1) + 1) = Int32.toNatClampNeg 96) && decide (Int32.toNatClampNeg 96 ≤ 96)) = true then (lt_ (zz_ σ22 ((((((((((((nn + 1) + 1) + 1) + 1) + 1) + 1) + 1) + 1) + 1) + 1) + 1) + 1)) fun σ23 => (if obB_ ((((((((((((nn + 1) + 1) + 1) + 1) + 1) + 1) + 1) + 1) + 1) + 1) + 1) + 1) 12 x0 = true then (if 0 < ((((((((((((nn + 1) + 1) + 1) + 1) + 1) + 1) + 1) + 1) + 1) + 1) + 1) + 1) then (lt_ (uR_ σ23 x0 14 ((((((((((((nn + 1) + 1) + 1) + 1) + 1) + 1) + 1) + 1) + 1) + 1) + 1) + 1)) fun σ24 => (if (decide ((0 : Int32) ≤ 240) && decide (kd_ (((((((((((((nn + 1) + 1) + 1) + 1) + 1) + 1) + 1) + 1) + 1) + 1) + 1) + 1) + 1) = 20) && decide (ln_ (((((((((((((nn + 1) + 1) + 1) + 1) + 1) + 1) + 1) + 1) + 1) + 1) + 1) + 1) + 1) = Int32.toNatClampNeg 240) && decide (Int32.toNatClampNeg 240 ≤ 240)) = true then (lt_ (zz_ σ24 (((((((((((((nn + 1) + 1) + 1) + 1) + 1) + 1) + 1) + 1) + 1) + 1) + 1) + 1) + 1)) fun σ25 => (if obB_ (((((((((((((nn + 1) + 1) + 1) + 1) + 1) + 1) + 1) + 1) + 1) + 1) + 1) + 1) + 1) 12 x0 = true then (if 0 < (((((((((((((nn + 1) + 1) + 1) + 1) + 1) + 1) + 1) + 1) + 1) + 1) + 1) + 1) + 1) then (lt_ (uR_ σ25 x0 17 (((((((((((((nn + 1) + 1) + 1) + 1) + 1) + 1) + 1) + 1) + 1) + 1) + 1) + 1) + 1)) fun σ26 => (if (decide ((0 : Int32) ≤ 240) && decide (kd_ ((((((((((((((nn + 1) + 1) + 1) + 1) + 1) + 1) + 1) + 1) + 1) + 1) + 1) + 1) + 1) + 1) = 20) && decide (ln_ ((((((((((((((nn + 1) + 1) + 1) + 1) + 1) + 1) + 1) + 1) + 1) + 1) + 1) + 1) + 1) + 1) = Int32.toNatClampNeg 240) && decide (Int32.toNatClampNeg 240 ≤ 240)) = true then (lt_ (zz_ σ26 ((((((((((((((nn + 1) + 1) + 1) + 1) + 1) + 1) + 1) + 1) + 1) + 1) + 1) + 1) + 1) + 1)) fun σ27 => (if obB_ ((((((((((((((nn + 1) + 1) + 1) + 1) + 1) + 1) + 1) + 1) + 1) + 1) + 1) + 1) + 1) + 1) 12 x0 = true then (if 0 < ((((((((((((((nn + 1) + 1) + 1) + 1) + 1) + 1) + 1) + 1) + 1) + 1) + 1) + 1) + 1) + 1) then (lt_ (uR_ σ27 x0 18 ((((((((((((((nn + 1) + 1) + 1) + 1) + 1) + 1) + 1) + 1) + 1) + 1) + 1) + 1) + 1) + 1)) fun σ28 => (if (decide ((0 : Int32) ≤ 960) && decide (kd_ (((((((((((((((nn + 1) + 1) + 1) + 1) + 1) + 1) + 1) + 1) + 1) + 1) + 1) + 1) + 1) + 1) + 1) = 21) && decide (ln_ (((((((((((((((nn + 1) + 1) + 1) + 1) + 1) + 1) + 1) + 1) + 1) + 1) + 1) + 1) + 1) + 1) + 1) = Int32.toNatClampNeg 960) && decide (Int32.toNatClampNeg 960 ≤ 960)) = true then (lt_ (zz_ σ28 (((((((((((((((nn + 1) + 1) + 1) + 1) + 1) + 1) + 1) + 1) + 1) + 1) + 1) + 1) + 1) + 1) + 1)) fun σ29 => (if obB_ (((((((((((((((nn + 1) + 1) + 1) + 1) + 1) + 1) + 1) + 1) + 1) + 1) + 1) + 1) + 1) + 1) + 1) 12 x0 = true then (if 0 < (((((((((((((((nn + 1) + 1) + 1) + 1) + 1) + 1) + 1) + 1) + 1) + 1) + 1) + 1) + 1) + 1) + 1) then (lt_ (uR_ σ29 x0 19 (((((((((((((((nn + 1) + 1) + 1) + 1) + 1) + 1) + 1) + 1) + 1) + 1) + 1) + 1) + 1) + 1) + 1)) fun σ30 => (if (decide ((0 : Int32) ≤ 960) && decide (kd_ ((((((((((((((((nn + 1) + 1) + 1) + 1) + 1) + 1) + 1) + 1) + 1) + 1) + 1) + 1) + 1) + 1) + 1) + 1) = 21) && decide (ln_ ((((((((((((((((nn + 1) + 1) + 1) + 1) + 1) + 1) + 1) + 1) + 1) + 1) + 1) + 1) + 1) + 1) + 1) + 1) = Int32.toNatClampNeg 960) && decide (Int32.toNatClampNeg 960 ≤ 960)) = true then (lt_ (zz_ σ30 ((((((((((((((((nn + 1) + 1) + 1) + 1) + 1) + 1) + 1) + 1) + 1) + 1) + 1) + 1) + 1) + 1) + 1) + 1)) fun σ31 => (if obB_ ((((((((((((((((nn + 1) + 1) + 1) + 1) + 1) + 1) + 1) + 1) + 1) + 1) + 1) + 1) + 1) + 1) + 1) + 1) 12 x0 = true then (if 0 < ((((((((((((((((nn + 1) + 1) + 1) + 1) + 1) + 1) + 1) + 1) + 1) + 1) + 1) + 1) + 1) + 1) + 1) + 1) then (lt_ (uR_ σ31 x0 20 ((((((((((((((((nn + 1) + 1) + 1) + 1) + 1) + 1) + 1) + 1) + 1) + 1) + 1) + 1) + 1) + 1) + 1) + 1)) fun σ32 => (if (decide ((0 : Int32) ≤ 240) && decide (kd_ (((((((((((((((((nn + 1) + 1) + 1) + 1) + 1) + 1) + 1) + 1) + 1) + 1) + 1) + 1) + 1) + 1) + 1) + 1) + 1) = 22) && decide (ln_ (((((((((((((((((nn + 1) + 1) + 1) + 1) + 1) + 1) + 1) + 1) + 1) + 1) + 1) + 1) + 1) + 1) + 1) + 1) + 1) = Int32.toNatClampNeg 240) && decide (Int32.toNatClampNeg 240 ≤ 240)) = true then (lt_ (zz_ σ32 (((((((((((((((((nn + 1) + 1) + 1) + 1) + 1) + 1) + 1) + 1) + 1) + 1) + 1) + 1) + 1) + 1) + 1) + 1) + 1)) fun σ33 => (if obB_ (((((((((((((((((nn + 1) + 1) + 1) + 1) + 1) + 1) + 1) + 1) + 1) + 1) + 1) + 1) + 1) + 1) + 1) + 1) + 1) 12 x0 = true then (if 0 < (((((((((((((((((nn + 1) + 1) + 1) + 1) + 1) + 1) + 1) + 1) + 1) + 1) + 1) + 1) + 1) + 1) + 1) + 1) + 1) then (lt_ (uR_ σ33 x0 21 (((((((((((((((((nn + 1) + 1) + 1) + 1) + 1) + 1) + 1) + 1) + 1) + 1) + 1) + 1) + 1) + 1) + 1) + 1) + 1)) fun σ34 => (if (decide ((0 : Int32) ≤ 240) && decide (kd_ ((((((((((((((((((nn + 1) + 1) + 1) + 1) + 1) + 1) + 1) + 1) + 1) + 1) + 1) + 1) + 1) + 1) + 1) + 1) + 1) + 1) = 20) && decide (ln_ ((((((((((((((((((nn + 1) + 1) + 1) + 1) + 1) + 1) + 1) + 1) + 1) + 1) + 1) + 1) + 1) + 1) + 1) + 1) + 1) + 1) = Int32.toNatClampNeg 240) && decide (Int32.toNatClampNeg 240 ≤ 240)) = true then (lt_ (zz_ σ34 ((((((((((((((((((nn + 1) + 1) + 1) + 1) + 1) + 1) + 1) + 1) + 1) + 1) + 1) + 1) + 1) + 1) + 1) + 1) + 1) + 1)) fun σ35 => (if obB_ ((((((((((((((((((nn + 1) + 1) + 1) + 1) + 1) + 1) + 1) + 1) + 1) + 1) + 1) + 1) + 1) + 1) + 1) + 1) + 1) + 1) 12 x0 = true then (if 0 < ((((((((((((((((((nn + 1) + 1) + 1) + 1) + 1) + 1) + 1) + 1) + 1) + 1) + 1) + 1) + 1) + 1) + 1) + 1) + 1) + 1) then (lt_ (uR_ σ35 x0 22 ((((((((((((((((((nn + 1) + 1) + 1) + 1) + 1) + 1) + 1) + 1) + 1) + 1) + 1) + 1) + 1) + 1) + 1) + 1) + 1) + 1)) fun σ36 => (if (decide ((0 : Int32) ≤ 401) && decide (kd_ (((((((((((((((((((nn + 1) + 1) + 1) + 1) + 1) + 1) + 1) + 1) + 1) + 1) + 1) + 1) + 1) + 1) + 1) + 1) + 1) + 1) + 1) = 20) && decide (ln_ (((((((((((((((((((nn + 1) + 1) + 1) + 1) + 1) + 1) + 1) + 1) + 1) + 1) + 1) + 1) + 1) + 1) + 1) + 1) + 1) + 1) + 1) = Int32.toNatClampNeg 401) && decide (Int32.toNatClampNeg 401 ≤ 401)) = true then (lt_ (zz_ σ36 (((((((((((((((((((nn + 1) + 1) + 1) + 1) + 1) + 1) + 1) + 1) + 1) + 1) + 1) + 1) + 1) + 1) + 1) + 1) + 1) + 1) + 1)) fun σ37 => (if obB_ (((((((((((((((((((nn + 1) + 1) + 1) + 1) + 1) + 1) + 1) + 1) + 1) + 1) + 1) + 1) + 1) + 1) + 1) + 1) + 1) + 1) + 1) 12 x0 = true then (if 0 < (((((((((((((((((((nn + 1) + 1) + 1) + 1) + 1) + 1) + 1) + 1) + 1) + 1) + 1) + 1) + 1) + 1) + 1) + 1) + 1) + 1) + 1) then (lt_ (uR_ σ37 x0 25 (((((((((((((((((((nn + 1) + 1) + 1) + 1) + 1) + 1) + 1) + 1) + 1) + 1) + 1) + 1) + 1) + 1) + 1) + 1) + 1) + 1) + 1)) fun σ38 => (if (decide ((0 : Int32) ≤ 9) && decide (kd_ ((((((((((((((((((((nn + 1) + 1) + 1) + 1) + 1) + 1) + 1) + 1) + 1) + 1) + 1) + 1) + 1) + 1) + 1) + 1) + 1) + 1) + 1) + 1) = 20) && decide (ln_ ((((((((((((((((((((nn + 1) + 1) + 1) + 1) + 1) + 1) + 1) + 1) + 1) + 1) + 1) + 1) + 1) + 1) + 1) + 1) + 1) + 1) + 1) + 1) = Int32.toNatClampNeg 9) && decide (Int32.toNatClampNeg 9 ≤ 9)) = true then (lt_ (zz_ σ38 ((((((((((((((((((((nn + 1) + 1) + 1) + 1) + 1) + 1) + 1) + 1) + 1) + 1) + 1) + 1) + 1) + 1) + 1) + 1) + 1) + 1) + 1) + 1)) fun σ39 => (if obB_ ((((((((((((((((((((nn + 1) + 1) + 1) + 1) + 1) + 1) + 1) + 1) + 1) + 1) + 1) + 1) + 1) + 1) + 1) + 1) + 1) + 1) + 1) + 1) 12 x0 = true then (if 0 < ((((((((((((((((((((nn + 1) + 1) + 1) + 1) + 1) + 1) + 1) + 1) + 1) + 1) + 1) + 1) + 1) + 1) + 1) + 1) + 1) + 1) + 1) + 1) then (lt_ (uR_ σ39 x0 26 ((((((((((((((((((((nn + 1) + 1) + 1) + 1) + 1) + 1) + 1) + 1) + 1) + 1) + 1) + 1) + 1) + 1) + 1) + 1) + 1) + 1) + 1) + 1)) fun σ40 => (if (decide ((0 : Int32) ≤ 9) && decide (kd_ (((((((((((((((((((((nn + 1) + 1) + 1) + 1) + 1) + 1) + 1) + 1) + 1) + 1) + 1) + 1) + 1) + 1) + 1) + 1) + 1) + 1) + 1) + 1) + 1) = 20) && decide (ln_ (((((((((((((((((((((nn + 1) + 1) + 1) + 1) + 1) + 1) + 1) + 1) + 1) + 1) + 1) + 1) + 1) + 1) + 1) + 1) + 1) + 1) + 1) + 1) + 1) = Int32.toNatClampNeg 9) && decide (Int32.toNatClampNeg 9 ≤ 9)) = true then (lt_ (zz_ σ40 (((((((((((((((((((((nn + 1) + 1) + 1) + 1) + 1) + 1) + 1) + 1) + 1) + 1) + 1) + 1) + 1) + 1) + 1) + 1) + 1) + 1) + 1) + 1) + 1)) fun σ41 => (if obB_ (((((((((((((((((((((nn + 1) + 1) + 1) + 1) + 1) + 1) + 1) + 1) + 1) + 1) + 1) + 1) + 1) + 1) + 1) + 1) + 1) + 1) + 1) + 1) + 1) 12 x0 = true then (if 0 < (((((((((((((((((((((nn + 1) + 1) + 1) + 1) + 1) + 1) + 1) + 1) + 1) + 1) + 1) + 1) + 1) + 1) + 1) + 1) + 1) + 1) + 1) + 1) + 1) then (lt_ (uR_ σ41 x0 27 (((((((((((((((((((((nn + 1) + 1) + 1) + 1) + 1) + 1) + 1) + 1) + 1) + 1) + 1) + 1) + 1) + 1) + 1) + 1) + 1) + 1) + 1) + 1) + 1)) fun σ42 => (if (decide ((0 : Int32) ≤ 177147) && decide (kd_ ((((((((((((((((((((((nn + 1) + 1) + 1) + 1) + 1) + 1) + 1) + 1) + 1) + 1) + 1) + 1) + 1) + 1) + 1) + 1) + 1) + 1) + 1) + 1) + 1) + 1) = 22) && decide (ln_ ((((((((((((((((((((((nn + 1) + 1) + 1) + 1) + 1) + 1) + 1) + 1) + 1) + 1) + 1) + 1) + 1) + 1) + 1) + 1) + 1) + 1) + 1) + 1) + 1) + 1) = Int32.toNatClampNeg 177147) && decide (Int32.toNatClampNeg 177147 ≤ 177147)) = true then (lt_ (zz_ σ42 ((((((((((((((((((((((nn + 1) + 1) + 1) + 1) + 1) + 1) + 1) + 1) + 1) + 1) + 1) + 1) + 1) + 1) + 1) + 1) + 1) + 1) + 1) + 1) + 1) + 1)) fun σ43 => (if obB_ ((((((((((((((((((((((nn + 1) + 1) + 1) + 1) + 1) + 1) + 1) + 1) + 1) + 1) + 1) + 1) + 1) + 1) + 1) + 1) + 1) + 1) + 1) + 1) + 1) + 1) 12 x0 = true then (if 0 < ((((((((((((((((((((((nn + 1) + 1) + 1) + 1) + 1) + 1) + 1) + 1) + 1) + 1) + 1) + 1) + 1) + 1) + 1) + 1) + 1) + 1) + 1) + 1) + 1) + 1) then (lt_ (uR_ σ43 x0 28 ((((((((((((((((((((((nn + 1) + 1) + 1) + 1) + 1) + 1) + 1) + 1) + 1) + 1) + 1) + 1) + 1) + 1) + 1) + 1) + 1) + 1) + 1) + 1) + 1) + 1)) fun σ44 => (if (decide ((0 : Int32) ≤ 9) && decide (kd_ (((((((((((((((((((((((nn + 1) + 1) + 1) + 1) + 1) + 1) + 1) + 1) + 1) + 1) + 1) + 1) + 1) + 1) + 1) + 1) + 1) + 1) + 1) + 1) + 1) + 1) + 1) = 20) && decide (ln_ (((((((((((((((((((((((nn + 1) + 1) + 1) + 1) + 1) + 1) + 1) + 1) + 1) + 1) + 1) + 1) + 1) + 1) + 1) + 1) + 1) + 1) + 1) + 1) + 1) + 1) + 1) = Int32.toNatClampNeg 9) && decide (Int32.toNatClampNeg 9 ≤ 9)) = true then (lt_ (zz_ σ44 (((((((((((((((((((((((nn + 1) + 1) + 1) + 1) + 1) + 1) + 1) + 1) + 1) + 1) + 1) + 1) + 1) + 1) + 1) + 1) + 1) + 1) + 1) + 1) + 1) + 1) + 1)) fun σ45 => (if obB_ (((((((((((((((((((((((nn + 1) + 1) + 1) + 1) + 1) + 1) + 1) + 1) + 1) + 1) + 1) + 1) + 1) + 1) + 1) + 1) + 1) + 1) + 1) + 1) + 1) + 1) + 1) 12 x0 = true then (if 0 < (((((((((((((((((((((((nn + 1) + 1) + 1) + 1) + 1) + 1) + 1) + 1) + 1) + 1) + 1) + 1) + 1) + 1) + 1) + 1) + 1) + 1) + 1) + 1) + 1) + 1) + 1) then (lt_ (uR_ σ45 x0 30 (((((((((((((((((((((((nn + 1) + 1) + 1) + 1) + 1) + 1) + 1) + 1) + 1) + 1) + 1) + 1) + 1) + 1) + 1) + 1) + 1) + 1) + 1) + 1) + 1) + 1) + 1)) fun σ46 => (if (decide ((0 : Int32) ≤ 3) && decide (kd_ ((((((((((((((((((((((((nn + 1) + 1) + 1) + 1) + 1) + 1) + 1) + 1) + 1) + 1) + 1) + 1) + 1) + 1) + 1) + 1) + 1) + 1) + 1) + 1) + 1) + 1) + 1) + 1) = 20) && decide (ln_ ((((((((((((((((((((((((nn + 1) + 1) + 1) + 1) + 1) + 1) + 1) + 1) + 1) + 1) + 1) + 1) + 1) + 1) + 1) + 1) + 1) + 1) + 1) + 1) + 1) + 1) + 1) + 1) = Int32.toNatClampNeg 3) && decide (Int32.toNatClampNeg 3 ≤ 3)) = true then (lt_ (zz_ σ46 ((((((((((((((((((((((((nn + 1) + 1) + 1) + 1) + 1) + 1) + 1) + 1) + 1) + 1) + 1) + 1) + 1) + 1) + 1) + 1) + 1) + 1) + 1) + 1) + 1) + 1) + 1) + 1)) fun σ47 => (if obB_ ((((((((((((((((((((((((nn + 1) + 1) + 1) + 1) + 1) + 1) + 1) + 1) + 1) + 1) + 1) + 1) + 1) + 1) + 1) + 1) + 1) + 1) + 1) + 1) + 1) + 1) + 1) + 1) 12 x0 = true then (if 0 < ((((((((((((((((((((((((nn + 1) + 1) + 1) + 1) + 1) + 1) + 1) + 1) + 1) + 1) + 1) + 1) + 1) + 1) + 1) + 1) + 1) + 1) + 1) + 1) + 1) + 1) + 1) + 1) then (lt_ (uR_ σ47 x0 31 ((((((((((((((((((((((((nn + 1) + 1) + 1) + 1) + 1) + 1) + 1) + 1) + 1) + 1) + 1) + 1) + 1) + 1) + 1) + 1) + 1) + 1) + 1) + 1) + 1) + 1) + 1) + 1)) fun σ48 => (if (decide ((0 : Int32) ≤ 3) && decide (kd_ (((((((((((((((((((((((((nn + 1) + 1) + 1) + 1) + 1) + 1) + 1) + 1) + 1) + 1) + 1) + 1) + 1) + 1) + 1) + 1) + 1) + 1) + 1) + 1) + 1) + 1) + 1) + 1) + 1) = 22) && decide (ln_ (((((((((((((((((((((((((nn + 1) + 1) + 1) + 1) + 1) + 1) + 1) + 1) + 1) + 1) + 1) + 1) + 1) + 1) + 1) + 1) + 1) + 1) + 1) + 1) + 1) + 1) + 1) + 1) + 1) = Int32.toNatClampNeg 3) && decide (Int32.toNatClampNeg 3 ≤ 3)) = true then (lt_ (zz_ σ48 (((((((((((((((((((((((((nn + 1) + 1) + 1) + 1) + 1) + 1) + 1) + 1) + 1) + 1) + 1) + 1) + 1) + 1) + 1) + 1) + 1) + 1) + 1) + 1) + 1) + 1) + 1) + 1) + 1)) fun σ49 => (if obB_ (((((((((((((((((((((((((nn + 1) + 1) + 1) + 1) + 1) + 1) + 1) + 1) + 1) + 1) + 1) + 1) + 1) + 1) + 1) + 1) + 1) + 1) + 1) + 1) + 1) + 1) + 1) + 1) + 1) 12 x0 = true then (if 0 < (((((((((((((((((((((((((nn + 1) + 1) + 1) + 1) + 1) + 1) + 1) + 1) + 1) + 1) + 1) + 1) + 1) + 1) + 1) + 1) + 1) + 1) + 1) + 1) + 1) + 1) + 1) + 1) + 1) then (lt_ (uR_ σ49 x0 32 (((((((((((((((((((((((((nn + 1) + 1) + 1) + 1) + 1) + 1) + 1) + 1) + 1) + 1) + 1) + 1) + 1) + 1) + 1) + 1) + 1) + 1) + 1) + 1) + 1) + 1) + 1) + 1) + 1)) fun σ50 => (if (decide ((0 : Int32) ≤ 240) && decide (kd_ ((((((((((((((((((((((((((nn + 1) + 1) + 1) + 1) + 1) + 1) + 1) + 1) + 1) + 1) + 1) + 1) + 1) + 1) + 1) + 1) + 1) + 1) + 1) + 1) + 1) + 1) + 1) + 1) + 1) + 1) = 22) && decide (ln_ ((((((((((((((((((((((((((nn + 1) + 1) + 1) + 1) + 1) + 1) + 1) + 1) + 1) + 1) + 1) + 1) + 1) + 1) + 1) + 1) + 1) + 1) + 1) + 1) + 1) + 1) + 1) + 1) + 1) + 1) = Int32.toNatClampNeg 240) && decide (Int32.toNatClampNeg 240 ≤ 240)) = true then (lt_ (zz_ σ50 ((((((((((((((((((((((((((nn + 1) + 1) + 1) + 1) + 1) + 1) + 1) + 1) + 1) + 1) + 1) + 1) + 1) + 1) + 1) + 1) + 1) + 1) + 1) + 1) + 1) + 1) + 1) + 1) + 1) + 1)) fun σ51 => (if obB_ ((((((((((((((((((((((((((nn + 1) + 1) + 1) + 1) + 1) + 1) + 1) + 1) + 1) + 1) + 1) + 1) + 1) + 1) + 1) + 1) + 1) + 1) + 1) + 1) + 1) + 1) + 1) + 1) + 1) + 1) 12 x0 = true then (if 0 < ((((((((((((((((((((((((((nn + 1) + 1) + 1) + 1) + 1) + 1) + 1) + 1) + 1) + 1) + 1) + 1) + 1) + 1) + 1) + 1) + 1) + 1) + 1) + 1) + 1) + 1) + 1) + 1) + 1) + 1) then (lt_ (uR_ σ51 x0 33 ((((((((((((((((((((((((((nn + 1) + 1) + 1) + 1) + 1) + 1) + 1) + 1) + 1) + 1) + 1) + 1) + 1) + 1) + 1) + 1) + 1) + 1) + 1) + 1) + 1) + 1) + 1) + 1) + 1) + 1)) fun σ52 => (if (decide ((0 : Int32) ≤ 160) && decide (kd_ (((((((((((((((((((((((((((nn + 1) + 1) + 1) + 1) + 1) + 1) + 1) + 1) + 1) + 1) + 1) + 1) + 1) + 1) + 1) + 1) + 1) + 1) + 1) + 1) + 1) + 1) + 1) + 1) + 1) + 1) + 1) = 20) && decide (ln_ (((((((((((((((((((((((((((nn + 1) + 1) + 1) + 1) + 1) + 1) + 1) + 1) + 1) + 1) + 1) + 1) + 1) + 1) + 1) + 1) + 1) + 1) + 1) + 1) + 1) + 1) + 1) + 1) + 1) + 1) + 1) = Int32.toNatClampNeg 160) && decide (Int32.toNatClampNeg 160 ≤ 160)) = true then (lt_ (zz_ σ52 (((((((((((((((((((((((((((nn + 1) + 1) + 1) + 1) + 1) + 1) + 1) + 1) + 1) + 1) + 1) + 1) + 1) + 1) + 1) + 1) + 1) + 1) + 1) + 1) + 1) + 1) + 1) + 1) + 1) + 1) + 1)) fun σ53 => (if obB_ (((((((((((((((((((((((((((nn + 1) + 1) + 1) + 1) + 1) + 1) + 1) + 1) + 1) + 1) + 1) + 1) + 1) + 1) + 1) + 1) + 1) + 1) + 1) + 1) + 1) + 1) + 1) + 1) + 1) + 1) + 1) 12 x0 = true then (if 0 < (((((((((((((((((((((((((((nn + 1) + 1) + 1) + 1) + 1) + 1) + 1) + 1) + 1) + 1) + 1) + 1) + 1) + 1) + 1) + 1) + 1) + 1) + 1) + 1) + 1) + 1) + 1) + 1) + 1) + 1) + 1) then (lt_ (uR_ σ53 x0 34 (((((((((((((((((((((((((((nn + 1) + 1) + 1) + 1) + 1) + 1) + 1) + 1) + 1) + 1) + 1) + 1) + 1) + 1) + 1) + 1) + 1) + 1) + 1) + 1) + 1) + 1) + 1) + 1) + 1) + 1) + 1)) fun σ54 => (if (decide ((0 : Int32) ≤ 115296) && decide (kd_ ((((((((((((((((((((((((((((nn + 1) + 1) + 1) + 1) + 1) + 1) + 1) + 1) + 1) + 1) + 1) + 1) + 1) + 1) + 1) + 1) + 1) + 1) + 1) + 1) + 1) + 1) + 1) + 1) + 1) + 1) + 1) + 1) = 20) && decide (ln_ ((((((((((((((((((((((((((((nn + 1) + 1) + 1) + 1) + 1) + 1) + 1) + 1) + 1) + 1) + 1) + 1) + 1) + 1) + 1) + 1) + 1) + 1) + 1) + 1) + 1) + 1) + 1) + 1) + 1) + 1) + 1) + 1) = Int32.toNatClampNeg 115296) && decide (Int32.toNatClampNeg 115296 ≤ 115296)) = true then (lt_ (zz_ σ54 ((((((((((((((((((((((((((((nn + 1) + 1) + 1) + 1) + 1) + 1) + 1) + 1) + 1) + 1) + 1) + 1) + 1) + 1) + 1) + 1) + 1) + 1) + 1) + 1) + 1) + 1) + 1) + 1) + 1) + 1) + 1) + 1)) fun σ55 => (if obB_ ((((((((((((((((((((((((((((nn + 1) + 1) + 1) + 1) + 1) + 1) + 1) + 1) + 1) + 1) + 1) + 1) + 1) + 1) + 1) + 1) + 1) + 1) + 1) + 1) + 1) + 1) + 1) + 1) + 1) + 1) + 1) + 1) 12 x0 = true then (if 0 < ((((((((((((((((((((((((((((nn + 1) + 1) + 1) + 1) + 1) + 1) + 1) + 1) + 1) + 1) + 1) + 1) + 1) + 1) + 1) + 1) + 1) + 1) + 1) + 1) + 1) + 1) + 1) + 1) + 1) + 1) + 1) + 1) then (lt_ (uR_ σ55 x0 36 ((((((((((((((((((((((((((((nn + 1) + 1) + 1) + 1) + 1) + 1) + 1) + 1) + 1) + 1) + 1) + 1) + 1) + 1) + 1) + 1) + 1) + 1) + 1) + 1) + 1) + 1) + 1) + 1) + 1) + 1) + 1) + 1)) fun σ56 => (if (decide ((0 : Int32) ≤ 1201) && decide (kd_ (((((((((((((((((((((((((((((nn + 1) + 1) + 1) + 1) + 1) + 1) + 1) + 1) + 1) + 1) + 1) + 1) + 1) + 1) + 1) + 1) + 1) + 1) + 1) + 1) + 1) + 1) + 1) + 1) + 1) + 1) + 1) + 1) + 1) = 22) && decide (ln_ (((((((((((((((((((((((((((((nn + 1) + 1) + 1) + 1) + 1) + 1) + 1) + 1) + 1) + 1) + 1) + 1) + 1) + 1) + 1) + 1) + 1) + 1) + 1) + 1) + 1) + 1) + 1) + 1) + 1) + 1) + 1) + 1) + 1) = Int32.toNatClampNeg 1201) && decide (Int32.toNatClampNeg 1201 ≤ 1201)) = true then (lt_ (zz_ σ56 (((((((((((((((((((((((((((((nn + 1) + 1) + 1) + 1) + 1) + 1) + 1) + 1) + 1) + 1) + 1) + 1) + 1) + 1) + 1) + 1) + 1) + 1) + 1) + 1) + 1) + 1) + 1) + 1) + 1) + 1) + 1) + 1) + 1)) fun σ57 => (if obB_ (((((((((((((((((((((((((((((nn + 1) + 1) + 1) + 1) + 1) + 1) + 1) + 1) + 1) + 1) + 1) + 1) + 1) + 1) + 1) + 1) + 1) + 1) + 1) + 1) + 1) + 1) + 1) + 1) + 1) + 1) + 1) + 1) + 1) 12 x0 = true then (if 0 < (((((((((((((((((((((((((((((nn + 1) + 1) + 1) + 1) + 1) + 1) + 1) + 1) + 1) + 1) + 1) + 1) + 1) + 1) + 1) + 1) + 1) + 1) + 1) + 1) + 1) + 1) + 1) + 1) + 1) + 1) + 1) + 1) + 1) then (lt_ (uR_ σ57 x0 37 (((((((((((((((((((((((((((((nn + 1) + 1) + 1) + 1) + 1) + 1) + 1) + 1) + 1) + 1) + 1) + 1) + 1) + 1) + 1) + 1) + 1) + 1) + 1) + 1) + 1) + 1) + 1) + 1) + 1) + 1) + 1) + 1) + 1)) fun σ58 => (if obB_ (((((((((((((((((((((((((((((nn + 1) + 1) + 1) + 1) + 1) + 1) + 1) + 1) + 1) + 1) + 1) + 1) + 1) + 1) + 1) + 1) + 1) + 1) + 1) + 1) + 1) + 1) + 1) + 1) + 1) + 1) + 1) + 1) + 1) 12 x0 = true then (if 0 < (σ58.2.2 x0 0) then (if obB_ (((((((((((((((((((((((((((((nn + 1) + 1) + 1) + 1) + 1) + 1) + 1) + 1) + 1) + 1) + 1) + 1) + 1) + 1) + 1) + 1) + 1) + 1) + 1) + 1) + 1) + 1) + 1) + 1) + 1) + 1) + 1) + 1) + 1) 20 (σ58.2.2 x0 0) = true then (if ib_ 0 (ln_ (σ58.2.2 x0 0)) = true then (lt_ (uI_ σ58 (σ58.2.2 x0 0) (Int32.toNatClampNeg 0) 2) fun σ61 => (if obB_ (((((((((((((((((((((((((((((nn + 1) + 1) + 1) + 1) + 1) + 1) + 1) + 1) + 1) + 1) + 1) + 1) + 1) + 1) + 1) + 1) + 1) + 1) + 1) + 1) + 1) + 1) + 1) + 1) + 1) + 1) + 1) + 1) + 1) 12 x0 = true then (if 0 < (σ61.2.2 x0 0) then (if obB_ (((((((((((((((((((((((((((((nn + 1) + 1) + 1) + 1) + 1) + 1) + 1) + 1) + 1) + 1) + 1) + 1) + 1) + 1) + 1) + 1) + 1) + 1) + 1) + 1) + 1) + 1) + 1) + 1) + 1) + 1) + 1) + 1) + 1) 20 (σ61.2.2 x0 0) = true then (if ib_ 1 (ln_ (σ61.2.2 x0 0)) = true then (lt_ (uI_ σ61 (σ61.2.2 x0 0) (Int32.toNatClampNeg 1) 2) fun σ64 => (if obB_ (((((((((((((((((((((((((((((nn + 1) + 1) + 1) + 1) + 1) + 1) + 1) + 1) + 1) + 1) + 1) + 1) + 1) + 1) + 1) + 1) + 1) + 1) + 1) + 1) + 1) + 1) + 1) + 1) + 1) + 1) + 1) + 1) + 1) 12 x0 = true then (if 0 < (σ64.2.2 x0 0) then (if obB_ (((((((((((((((((((((((((((((nn + 1) + 1) + 1) + 1) + 1) + 1) + 1) + 1) + 1) + 1) + 1) + 1) + 1) + 1) + 1) + 1) + 1) + 1) + 1) + 1) + 1) + 1) + 1) + 1) + 1) + 1) + 1) + 1) + 1) 20 (σ64.2.2 x0 0) = true then (if ib_ 2 (ln_ (σ64.2.2 x0 0)) = true then (lt_ (uI_ σ64 (σ64.2.2 x0 0) (Int32.toNatClampNeg 2) 1) fun σ67 => (fX12_initc_267 5 x0 0 (((((((((((((((((((((((((((((nn + 1) + 1) + 1) + 1) + 1) + 1) + 1) + 1) + 1) + 1) + 1) + 1) + 1) + 1) + 1) + 1) + 1) + 1) + 1) + 1) + 1) + 1) + 1) + 1) + 1) + 1) + 1) + 1) + 1) σ67)) else none) else none) else none) else none)) else none) else none) else none) else none)) else none) else none) else none) else none)) else none) else none)) else none)) else none) else none)) else none)) else none) else none)) else none)) else none) else none)) else none)) else none) else none)) else none)) else none) else none)) else none)) else none) else none)) else none)) else none) else none)) else none)) else none) else none)) else none)) else none) else none)) else none)) else none) else none)) else none)) else none) else none)) else none)) else none) else none)) else none)) else none) else none)) else none)) else none) else none)) else none)) else none) else none)) else none)) else none) else none)) else none)) else none) else none)) else none)) else none) else none)) else none)) else none) else none)) else none)) else none) else none)) else none)) else none) else none)) else none)) else none) else none)) else none)) else none) else none)) else none)) else none) else none)) else none)) else none) else none)) else none)) else none) else none)) else none)) else none) else none)) else none)) else none) else none)) else none)
variable {p : Program} {l : Launch} {e : Env} {s : State} {m : MethodId} {args : Array Value} {below : List Frame} {meth : Method} {c : Code} {D : va_G} {B : Nat} {g : js_G}
set_option maxHeartbeats 4000000 in
set_option maxRecDepth 20000 in
theorem kX9_initc {x0 : Nat} {nn : Nat} {σ σ0 : js_S} {n0 : Nat} (h : fX9_initc x0 nn σ = some (n0, σ0)) : js_MC l D B g yX9_init cX9_init 1 0 1 40 nn [.ref (B + x0)] σ n0 σ0 := by
  refine jc_enter (by decide) (Nat.le_of_ble_eq_true rfl) ?_
  intro p e s m args below meth c C hr hk hin ls hl hU
  have hl : lv_has ls 1 [(0, .ref (B + x0))] := hl
  obtain ⟨⟨hx, hb, hml, hown, ht, hK, hNw⟩, hao⟩ := id C
  obtain ⟨H, eH⟩ : ∃ H, H = s.heap := ⟨_, rfl⟩
  obtain ⟨locs, eL⟩ : ∃ z : List Loc, z = [] := ⟨_, rfl⟩
  rw [← eH, ← eL]
  rw [← eH, ← eL] at hU
  clear eH eL
  unfold fX9_initc at h
  refine lv_aload_n hx hb dX9_init_0 rfl (lv_at hl 0 rfl) ?_
  refine W.objInit hx hb hown (ht _ lk_X9_3) (ht _ js_oi1) (ht _ js_oi2) rfl (hl.1.trans hml.symm) rfl dX9_init_1 (Nat.le_of_ble_eq_true rfl) (Nat.le_of_ble_eq_true rfl) ?_
  refine W.eq (g2 := F0 m 4 ls []) rfl ?_
  refine lv_aload_n hx hb dX9_init_4 rfl (lv_at hl 0 rfl) ?_
  refine lv_bipush (v := 40) hx hb dX9_init_5 (by decide) ?_
  obtain ⟨g1, h⟩ := gd_some _ h
  obtain ⟨σ1, e1, h⟩ := lt_some h
  refine jc_newI C hU g1 (by decide) js_arI (by simp only [js_rmC]; omega) (by simp only [js_rmC]; omega) dX9_init_7 (fun H hU => ?_)
  rw [e1] at hU
  refine W.widen (k := 1) (n := 40) (by omega) (by omega) ?_
  obtain ⟨g2, h⟩ := gd_some _ h
  obtain ⟨g2a, h⟩ := gd_some _ h
  obtain ⟨σ2, e2, h⟩ := lt_some h
  refine jc_pF C hin hU cfX9 g2 0 (by decide) (by decide) rfl rfl g2a rfl rfl lk_X9_9 dX9_init_9 (fun H locs hU => ?_)
  rw [e2] at hU
  refine lv_aload_n hx hb dX9_init_12 rfl (lv_at hl 0 rfl) ?_
  obtain ⟨g3, h⟩ := gd_some _ h
  obtain ⟨g4, h⟩ := gd_some _ h
  refine jc_gR C hU cfX9 g3 0 (by decide) (by decide) g4 lk_X9_9 dX9_init_13 ?_
  refine lv_iconst (v := 0) hx hb dX9_init_16 (by decide) ?_
  refine lv_bipush (v := 122) hx hb dX9_init_17 (by decide) ?_
  obtain ⟨g5, h⟩ := gd_some _ h
  obtain ⟨g5a, h⟩ := gd_some _ h
  obtain ⟨σ5, e5, h⟩ := lt_some h
  refine jc_iast C hU g5 g5a dX9_init_19 (fun H locs hU => ?_)
  rw [e5] at hU
  refine lv_aload_n hx hb dX9_init_20 rfl (lv_at hl 0 rfl) ?_
  refine lv_iconst (v := 1) hx hb dX9_init_21 (by decide) ?_
  obtain ⟨g6, h⟩ := gd_some _ h
  obtain ⟨σ6, e6, h⟩ := lt_some h
  refine jc_pI C hU cfX9 g6 1 (by decide) rfl rfl rfl rfl lk_X9_15 dX9_init_22 (fun H locs hU => ?_)
  rw [e6] at hU
  obtain ⟨rfl, rfl⟩ := js_rt h
  refine W.widen (k := 1) (n := 40) (by omega) (by omega) ?_
  exact jc_vret C hU hr hk dX9_init_25
set_option maxHeartbeats 4000000 in
set_option maxRecDepth 20000 in
theorem kX8_initc {x0 : Nat} {nn : Nat} {σ σ0 : js_S} {n0 : Nat} (h : fX8_initc x0 nn σ = some (n0, σ0)) : js_MC l D B g yX8_init cX8_init 1 0 1 128 nn [.ref (B + x0)] σ n0 σ0 := by
  refine jc_enter (by decide) (Nat.le_of_ble_eq_true rfl) ?_
  intro p e s m args below meth c C hr hk hin ls hl hU
  have hl : lv_has ls 1 [(0, .ref (B + x0))] := hl
  obtain ⟨⟨hx, hb, hml, hown, ht, hK, hNw⟩, hao⟩ := id C
  obtain ⟨H, eH⟩ : ∃ H, H = s.heap := ⟨_, rfl⟩
  obtain ⟨locs, eL⟩ : ∃ z : List Loc, z = [] := ⟨_, rfl⟩
  rw [← eH, ← eL]
  rw [← eH, ← eL] at hU
  clear eH eL
  unfold fX8_initc at h
  refine lv_aload_n hx hb dX8_init_0 rfl (lv_at hl 0 rfl) ?_
  refine W.objInit hx hb hown (ht _ lk_X8_3) (ht _ js_oi1) (ht _ js_oi2) rfl (hl.1.trans hml.symm) rfl dX8_init_1 (Nat.le_of_ble_eq_true rfl) (Nat.le_of_ble_eq_true rfl) ?_
  refine W.eq (g2 := F0 m 4 ls []) rfl ?_
  refine lv_aload_n hx hb dX8_init_4 rfl (lv_at hl 0 rfl) ?_
  refine lv_sipush (v := 128) hx hb dX8_init_5 (by decide) ?_
  obtain ⟨g1, h⟩ := gd_some _ h
  obtain ⟨σ1, e1, h⟩ := lt_some h
  refine jc_newI C hU g1 (by decide) js_arI (by simp only [js_rmC]; omega) (by simp only [js_rmC]; omega) dX8_init_8 (fun H hU => ?_)
  rw [e1] at hU
  refine W.widen (k := 1) (n := 128) (by omega) (by omega) ?_
  obtain ⟨g2, h⟩ := gd_some _ h
  obtain ⟨g2a, h⟩ := gd_some _ h
  obtain ⟨σ2, e2, h⟩ := lt_some h
  refine jc_pF C hin hU cfX8 g2 0 (by decide) (by decide) rfl rfl g2a rfl rfl lk_X8_9 dX8_init_10 (fun H locs hU => ?_)
  rw [e2] at hU
  refine lv_aload_n hx hb dX8_init_13 rfl (lv_at hl 0 rfl) ?_
  obtain ⟨g3, h⟩ := gd_some _ h
  obtain ⟨g4, h⟩ := gd_some _ h
  refine jc_gR C hU cfX8 g3 0 (by decide) (by decide) g4 lk_X8_9 dX8_init_14 ?_
  refine lv_bipush (v := 115) hx hb dX8_init_17 (by decide) ?_
  refine lv_iconst (v := 1) hx hb dX8_init_19 (by decide) ?_
  obtain ⟨g5, h⟩ := gd_some _ h
  obtain ⟨g5a, h⟩ := gd_some _ h
  obtain ⟨σ5, e5, h⟩ := lt_some h
  refine jc_iast C hU g5 g5a dX8_init_20 (fun H locs hU => ?_)
  rw [e5] at hU
  refine lv_aload_n hx hb dX8_init_21 rfl (lv_at hl 0 rfl) ?_
  obtain ⟨g6, h⟩ := gd_some _ h
  obtain ⟨g7, h⟩ := gd_some _ h
  refine jc_gR C hU cfX8 g6 0 (by decide) (by decide) g7 lk_X8_9 dX8_init_22 ?_
  refine lv_bipush (v := 99) hx hb dX8_init_25 (by decide) ?_
  refine lv_iconst (v := 2) hx hb dX8_init_27 (by decide) ?_
  obtain ⟨g8, h⟩ := gd_some _ h
  obtain ⟨g8a, h⟩ := gd_some _ h
  obtain ⟨σ8, e8, h⟩ := lt_some h
  refine jc_iast C hU g8 g8a dX8_init_28 (fun H locs hU => ?_)
  rw [e8] at hU
  refine lv_aload_n hx hb dX8_init_29 rfl (lv_at hl 0 rfl) ?_
  obtain ⟨g9, h⟩ := gd_some _ h
  obtain ⟨g10, h⟩ := gd_some _ h
  refine jc_gR C hU cfX8 g9 0 (by decide) (by decide) g10 lk_X8_9 dX8_init_30 ?_
  refine lv_bipush (v := 102) hx hb dX8_init_33 (by decide) ?_
  refine lv_iconst (v := 2) hx hb dX8_init_35 (by decide) ?_
  obtain ⟨g11, h⟩ := gd_some _ h
  obtain ⟨g11a, h⟩ := gd_some _ h
  obtain ⟨σ11, e11, h⟩ := lt_some h
  refine jc_iast C hU g11 g11a dX8_init_36 (fun H locs hU => ?_)
  rw [e11] at hU
  refine lv_aload_n hx hb dX8_init_37 rfl (lv_at hl 0 rfl) ?_
  obtain ⟨g12, h⟩ := gd_some _ h
  obtain ⟨g13, h⟩ := gd_some _ h
  refine jc_gR C hU cfX8 g12 0 (by decide) (by decide) g13 lk_X8_9 dX8_init_38 ?_
  refine lv_bipush (v := 103) hx hb dX8_init_41 (by decide) ?_
  refine lv_iconst (v := 2) hx hb dX8_init_43 (by decide) ?_
  obtain ⟨g14, h⟩ := gd_some _ h
  obtain ⟨g14a, h⟩ := gd_some _ h
  obtain ⟨σ14, e14, h⟩ := lt_some h
  refine jc_iast C hU g14 g14a dX8_init_44 (fun H locs hU => ?_)
  rw [e14] at hU
  refine lv_aload_n hx hb dX8_init_45 rfl (lv_at hl 0 rfl) ?_
  obtain ⟨g15, h⟩ := gd_some _ h
  obtain ⟨g16, h⟩ := gd_some _ h
  refine jc_gR C hU cfX8 g15 0 (by decide) (by decide) g16 lk_X8_9 dX8_init_46 ?_
  refine lv_bipush (v := 104) hx hb dX8_init_49 (by decide) ?_
  refine lv_iconst (v := 1) hx hb dX8_init_51 (by decide) ?_
  obtain ⟨g17, h⟩ := gd_some _ h
  obtain ⟨g17a, h⟩ := gd_some _ h
  obtain ⟨σ17, e17, h⟩ := lt_some h
  refine jc_iast C hU g17 g17a dX8_init_52 (fun H locs hU => ?_)
  rw [e17] at hU
  obtain ⟨rfl, rfl⟩ := js_rt h
  refine W.widen (k := 1) (n := 128) (by omega) (by omega) ?_
  exact jc_vret C hU hr hk dX8_init_53
set_option maxHeartbeats 4000000 in
set_option maxRecDepth 20000 in
theorem kX4_initc {x0 : Nat} {nn : Nat} {σ σ0 : js_S} {n0 : Nat} (h : fX4_initc x0 nn σ = some (n0, σ0)) : js_MC l D B g yX4_init cX4_init 1 0 1 960 nn [.ref (B + x0)] σ n0 σ0 := by
  refine jc_enter (by decide) (Nat.le_of_ble_eq_true rfl) ?_
  intro p e s m args below meth c C hr hk hin ls hl hU
  have hl : lv_has ls 1 [(0, .ref (B + x0))] := hl
  obtain ⟨⟨hx, hb, hml, hown, ht, hK, hNw⟩, hao⟩ := id C
  obtain ⟨H, eH⟩ : ∃ H, H = s.heap := ⟨_, rfl⟩
  obtain ⟨locs, eL⟩ : ∃ z : List Loc, z = [] := ⟨_, rfl⟩
  rw [← eH, ← eL]
  rw [← eH, ← eL] at hU
  clear eH eL
  unfold fX4_initc at h
  refine lv_aload_n hx hb dX4_init_0 rfl (lv_at hl 0 rfl) ?_
  refine W.objInit hx hb hown (ht _ lk_X4_5) (ht _ js_oi1) (ht _ js_oi2) rfl (hl.1.trans hml.symm) rfl dX4_init_1 (Nat.le_of_ble_eq_true rfl) (Nat.le_of_ble_eq_true rfl) ?_
  refine W.eq (g2 := F0 m 4 ls []) rfl ?_
  refine lv_aload_n hx hb dX4_init_4 rfl (lv_at hl 0 rfl) ?_
  refine lv_sipush (v := 960) hx hb dX4_init_5 (by decide) ?_
  obtain ⟨g1, h⟩ := gd_some _ h
  obtain ⟨σ1, e1, h⟩ := lt_some h
  refine jc_newJ C hU g1 (by decide) js_arJ (by simp only [js_rmC]; omega) (by simp only [js_rmC]; omega) dX4_init_8 (fun H hU => ?_)
  rw [e1] at hU
  refine W.widen (k := 1) (n := 960) (by omega) (by omega) ?_
  obtain ⟨g2, h⟩ := gd_some _ h
  obtain ⟨g2a, h⟩ := gd_some _ h
  obtain ⟨σ2, e2, h⟩ := lt_some h
  refine jc_pF C hin hU cfX4 g2 0 (by decide) (by decide) rfl rfl g2a rfl rfl lk_X4_11 dX4_init_10 (fun H locs hU => ?_)
  rw [e2] at hU
  obtain ⟨rfl, rfl⟩ := js_rt h
  refine W.widen (k := 1) (n := 960) (by omega) (by omega) ?_
  exact jc_vret C hU hr hk dX4_init_13
set_option maxHeartbeats 4000000 in
set_option maxRecDepth 20000 in
theorem kX10_initc {x0 : Nat} {x1 : Int32} {nn : Nat} {σ σ0 : js_S} {n0 : Nat} (h : fX10_initc x0 x1 nn σ = some (n0, σ0)) : js_MC l D B g yX10_init cX10_init 3 0 2 320 nn [.ref (B + x0), .int x1] σ n0 σ0 := by
  refine jc_enter (by decide) (Nat.le_of_ble_eq_true rfl) ?_
  intro p e s m args below meth c C hr hk hin ls hl hU
  have hl : lv_has ls 3 [(0, .ref (B + x0)), (1, .int x1)] := hl
  obtain ⟨⟨hx, hb, hml, hown, ht, hK, hNw⟩, hao⟩ := id C
  obtain ⟨H, eH⟩ : ∃ H, H = s.heap := ⟨_, rfl⟩
  obtain ⟨locs, eL⟩ : ∃ z : List Loc, z = [] := ⟨_, rfl⟩
  rw [← eH, ← eL]
  rw [← eH, ← eL] at hU
  clear eH eL
  unfold fX10_initc at h
  refine lv_aload_n hx hb dX10_init_0 rfl (lv_at hl 0 rfl) ?_
  refine W.objInit hx hb hown (ht _ lk_X10_3) (ht _ js_oi1) (ht _ js_oi2) rfl (hl.1.trans hml.symm) rfl dX10_init_1 (Nat.le_of_ble_eq_true rfl) (Nat.le_of_ble_eq_true rfl) ?_
  refine W.eq (g2 := F0 m 4 ls []) rfl ?_
  refine lv_iload_n hx hb dX10_init_4 rfl (lv_at hl 1 rfl) ?_
  refine lv_iconst (v := 0) hx hb dX10_init_5 (by decide) ?_
  refine va_mmax hx hb (hml.trans hl.1.symm) hown (ht _ lk_X10_9) (ht _ js_mmax1) (ht _ js_mth) (ht _ js_mmax2) (Nat.le_of_ble_eq_true rfl) (Nat.le_of_ble_eq_true rfl) (by simp only [js_rmC]; omega) (by simp only [js_rmC]; omega) dX10_init_6 ?_
  refine lv_istore_n (lv' := [(2, .int (if x1 < 0 then 0 else x1)), (0, .ref (B + x0)), (1, .int x1)]) hx hb dX10_init_9 rfl hl (by decide) rfl (fun ls hl => ?_)
  refine lv_aload_n hx hb dX10_init_10 rfl (lv_at hl 1 rfl) ?_
  refine lv_iload_n hx hb dX10_init_11 rfl (lv_at hl 0 rfl) ?_
  obtain ⟨g1, h⟩ := gd_some _ h
  obtain ⟨σ1, e1, h⟩ := lt_some h
  refine jc_newI C hU g1 (by decide) js_arI (by simp only [js_rmC]; omega) (by simp only [js_rmC]; omega) dX10_init_12 (fun H hU => ?_)
  rw [e1] at hU
  refine W.widen (k := 1) (n := 160) (by omega) (by omega) ?_
  obtain ⟨g2, h⟩ := gd_some _ h
  obtain ⟨g2a, h⟩ := gd_some _ h
  obtain ⟨σ2, e2, h⟩ := lt_some h
  refine jc_pF C hin hU cfX10 g2 0 (by decide) (by decide) rfl rfl g2a rfl rfl lk_X10_15 dX10_init_14 (fun H locs hU => ?_)
  rw [e2] at hU
  refine lv_aload_n hx hb dX10_init_17 rfl (lv_at hl 1 rfl) ?_
  refine lv_iload_n hx hb dX10_init_18 rfl (lv_at hl 0 rfl) ?_
  obtain ⟨g3, h⟩ := gd_some _ h
  obtain ⟨σ3, e3, h⟩ := lt_some h
  refine jc_newI C hU g3 (by decide) js_arI (by simp only [js_rmC]; omega) (by simp only [js_rmC]; omega) dX10_init_19 (fun H hU => ?_)
  rw [e3] at hU
  refine W.widen (k := 2) (n := 320) (by omega) (by omega) ?_
  obtain ⟨g4, h⟩ := gd_some _ h
  obtain ⟨g4a, h⟩ := gd_some _ h
  obtain ⟨σ4, e4, h⟩ := lt_some h
  refine jc_pF C hin hU cfX10 g4 1 (by decide) (by decide) rfl rfl g4a rfl rfl lk_X10_21 dX10_init_21 (fun H locs hU => ?_)
  rw [e4] at hU
  obtain ⟨rfl, rfl⟩ := js_rt h
  refine W.widen (k := 2) (n := 320) (by omega) (by omega) ?_
  exact jc_vret C hU hr hk dX10_init_24
set_option maxHeartbeats 4000000 in
set_option maxRecDepth 20000 in
theorem uX6_init_94b (C : js_CC D g p m c cX6_init 2 s args RX6) (hr : meth.sig.returnType = none) (hk : meth.locks = false) (hin : meth.name = "<init>") (rc94 : Nat → Int32 → Nat → js_S → Option (Nat × js_S)) {k : Nat} (hrc94 : ∀ (i : Nat), i + k = 5 → ∀ (x0 : Nat) (x1 : Int32) (nn : Nat) (σ : js_S) (n0 : Nat) (σ0 : js_S), rc94 x0 x1 nn σ = some (n0, σ0) → ∀ (H : Heap) (locs : List Loc), js_U D B g nn σ s H locs → ∀ ls : Array Slot, lv_has ls 2 [(0, .ref (B + x0)), (1, .int x1)] → W p l e (js_rmC 1 45 985) s m args below meth c H locs (35 + 2 * i) (775 + 42 * i) (MQ below (js_QC D B g n0 σ0) args s 45 985 (fun q => B < q)) (F0 m 94 ls [])) (i : Nat) (hik : i + (k + 1) = 5) : ∀ (x0 : Nat) (x1 : Int32) (nn : Nat) (σ : js_S) (n0 : Nat) (σ0 : js_S), fX6_initc_94b rc94 x0 x1 nn σ = some (n0, σ0) → ∀ (H : Heap) (locs : List Loc), js_U D B g nn σ s H locs → ∀ ls : Array Slot, lv_has ls 2 [(0, .ref (B + x0)), (1, .int x1)] → W p l e (js_rmC 1 45 985) s m args below meth c H locs (35 + 2 * i) (775 + 42 * i) (MQ below (js_QC D B g n0 σ0) args s 45 985 (fun q => B < q)) (F0 m 94 ls []) := by
  obtain ⟨⟨hx, hb, hml, hown, ht, hK, hNw⟩, hao⟩ := id C
  intro x0 x1 nn σ n0 σ0 h H locs hU ls hl
  unfold fX6_initc_94b at h
  refine lv_iload_n hx hb dX6_init_94 rfl (lv_at hl 1 rfl) ?_
  refine lv_iconst (v := 4) hx hb dX6_init_95 (by decide) ?_
  refine lv_icmp_ge (tgt := 118) hx hb dX6_init_96 (by decide) (fun c1 => ?_) (fun c1 => ?_)
  · rw [if_pos c1] at h
    refine W.widen (k := 45) (n := 985) (by omega) (by omega) ?_
    obtain ⟨rfl, rfl⟩ := js_rt h
    refine W.widen (k := 45) (n := 985) (by omega) (by omega) ?_
    exact jc_vret C hU hr hk dX6_init_118
  · rw [if_neg c1] at h
    refine lv_aload_n hx hb dX6_init_99 rfl (lv_at hl 0 rfl) ?_
    obtain ⟨g2, h⟩ := gd_some _ h
    obtain ⟨g3, h⟩ := gd_some _ h
    refine jc_gR C hU cfX6 g2 3 (by decide) (by decide) g3 lk_X6_27 dX6_init_100 ?_
    refine lv_iload_n hx hb dX6_init_103 rfl (lv_at hl 1 rfl) ?_
    obtain ⟨g4, h⟩ := gd_some _ h
    obtain ⟨σ4, e4, h⟩ := lt_some h
    refine jc_new C hU cfX9 dvX9 g4 lk_X6_18 js_i1X9 js_i2X9 (by simp only [js_rmC]; omega) (by simp only [js_rmC]; omega) dX6_init_104 (fun H hU => ?_)
    rw [e4] at hU
    refine W.widen (k := (36 + 2 * i)) (n := (777 + 42 * i)) (by omega) (by omega) ?_
    refine lv_dup hx hb dX6_init_107 rfl ?_
    obtain ⟨r5, σ5, hc5, h⟩ := bd_some h
    refine jc_back hU (jc_runI C hU mfX9_init lk_X6_30 (kX9_initc hc5) ⟨Nat.le_of_ble_eq_true rfl, Nat.le_of_ble_eq_true rfl⟩ rfl hl.1 rfl (Nat.le_of_ble_eq_true rfl) ⟨(by simp only [js_rmC]; omega), (by simp only [js_rmC]; omega)⟩ dX6_init_108) (fun H locs hU => ?_)
    refine W.widen (k := (37 + 2 * i)) (n := (817 + 42 * i)) (by omega) (by omega) ?_
    obtain ⟨g6, h⟩ := gd_some _ h
    obtain ⟨g6a, h⟩ := gd_some _ h
    obtain ⟨g6b, h⟩ := gd_some _ h
    obtain ⟨σ6, e6, h⟩ := lt_some h
    refine jc_aast C hU g6 g6a g6b dX6_init_111 (fun H locs hU => ?_)
    rw [e6] at hU
    refine lv_iinc (v := x1 + 1) (lv' := [(1, .int (x1 + 1)), (0, .ref (B + x0))]) hx hb dX6_init_112 hl (k := 1) rfl rfl (by decide) rfl (fun ls hl => ?_)
    refine lv_goto (tgt := 94) hx hb dX6_init_115 (by decide) ?_
    refine W.widen (k := 35 + 2 * (i + 1)) (n := 775 + 42 * (i + 1)) (by omega) (by omega) ?_
    exact hrc94 (i + 1) (by omega) _ _ _ _ _ _ h H locs hU ls (lv_sub hl [1, 0] rfl)
set_option maxHeartbeats 4000000 in
set_option maxRecDepth 20000 in
theorem uX6_init_94 (C : js_CC D g p m c cX6_init 2 s args RX6) (hr : meth.sig.returnType = none) (hk : meth.locks = false) (hin : meth.name = "<init>") : ∀ (k i : Nat), i + k = 5 → ∀ (x0 : Nat) (x1 : Int32) (nn : Nat) (σ : js_S) (n0 : Nat) (σ0 : js_S), fX6_initc_94 k x0 x1 nn σ = some (n0, σ0) → ∀ (H : Heap) (locs : List Loc), js_U D B g nn σ s H locs → ∀ ls : Array Slot, lv_has ls 2 [(0, .ref (B + x0)), (1, .int x1)] → W p l e (js_rmC 1 45 985) s m args below meth c H locs (35 + 2 * i) (775 + 42 * i) (MQ below (js_QC D B g n0 σ0) args s 45 985 (fun q => B < q)) (F0 m 94 ls []) := by
  intro k
  induction k with
  | zero =>
    intro i hik x0 x1 nn σ n0 σ0 h
    cases h
  | succ k ih =>
    intro i hik x0 x1 nn σ n0 σ0 h
    exact uX6_init_94b C hr hk hin (fX6_initc_94 k) ih i hik x0 x1 nn σ n0 σ0 h
set_option maxHeartbeats 4000000 in
set_option maxRecDepth 20000 in
theorem uX6_init_54b (C : js_CC D g p m c cX6_init 2 s args RX6) (hr : meth.sig.returnType = none) (hk : meth.locks = false) (hin : meth.name = "<init>") (rc54 : Nat → Int32 → Nat → js_S → Option (Nat × js_S)) {k : Nat} (hrc54 : ∀ (i : Nat), i + k = 7 → ∀ (x0 : Nat) (x1 : Int32) (nn : Nat) (σ : js_S) (n0 : Nat) (σ0 : js_S), rc54 x0 x1 nn σ = some (n0, σ0) → ∀ (H : Heap) (locs : List Loc), js_U D B g nn σ s H locs → ∀ ls : Array Slot, lv_has ls 2 [(0, .ref (B + x0)), (1, .int x1)] → W p l e (js_rmC 1 45 985) s m args below meth c H locs (7 + 4 * i) (187 + 84 * i) (MQ below (js_QC D B g n0 σ0) args s 45 985 (fun q => B < q)) (F0 m 54 ls [])) (i : Nat) (hik : i + (k + 1) = 7) : ∀ (x0 : Nat) (x1 : Int32) (nn : Nat) (σ : js_S) (n0 : Nat) (σ0 : js_S), fX6_initc_54b rc54 x0 x1 nn σ = some (n0, σ0) → ∀ (H : Heap) (locs : List Loc), js_U D B g nn σ s H locs → ∀ ls : Array Slot, lv_has ls 2 [(0, .ref (B + x0)), (1, .int x1)] → W p l e (js_rmC 1 45 985) s m args below meth c H locs (7 + 4 * i) (187 + 84 * i) (MQ below (js_QC D B g n0 σ0) args s 45 985 (fun q => B < q)) (F0 m 54 ls []) := by
  obtain ⟨⟨hx, hb, hml, hown, ht, hK, hNw⟩, hao⟩ := id C
  intro x0 x1 nn σ n0 σ0 h H locs hU ls hl
  unfold fX6_initc_54b at h
  refine lv_iload_n hx hb dX6_init_54 rfl (lv_at hl 1 rfl) ?_
  refine lv_bipush (v := 6) hx hb dX6_init_55 (by decide) ?_
  refine lv_icmp_ge (tgt := 92) hx hb dX6_init_57 (by decide) (fun c1 => ?_) (fun c1 => ?_)
  · rw [if_pos c1] at h
    refine W.widen (k := 35) (n := 775) (by omega) (by omega) ?_
    refine lv_iconst (v := 0) hx hb dX6_init_92 (by decide) ?_
    refine lv_istore_n (lv' := [(1, .int 0), (0, .ref (B + x0))]) hx hb dX6_init_93 rfl hl (by decide) rfl (fun ls hl => ?_)
    refine W.widen (k := 35 + 2 * 0) (n := 775 + 42 * 0) (by omega) (by omega) ?_
    exact uX6_init_94 C hr hk hin 5 0 (by omega) _ _ _ _ _ _ h H locs hU ls (lv_sub hl [1, 0] rfl)
  · rw [if_neg c1] at h
    refine lv_aload_n hx hb dX6_init_60 rfl (lv_at hl 0 rfl) ?_
    obtain ⟨g2, h⟩ := gd_some _ h
    obtain ⟨g3, h⟩ := gd_some _ h
    refine jc_gR C hU cfX6 g2 1 (by decide) (by decide) g3 lk_X6_20 dX6_init_61 ?_
    refine lv_iload_n hx hb dX6_init_64 rfl (lv_at hl 1 rfl) ?_
    obtain ⟨g4, h⟩ := gd_some _ h
    obtain ⟨σ4, e4, h⟩ := lt_some h
    refine jc_new C hU cfX9 dvX9 g4 lk_X6_18 js_i1X9 js_i2X9 (by simp only [js_rmC]; omega) (by simp only [js_rmC]; omega) dX6_init_65 (fun H hU => ?_)
    rw [e4] at hU
    refine W.widen (k := (8 + 4 * i)) (n := (189 + 84 * i)) (by omega) (by omega) ?_
    refine lv_dup hx hb dX6_init_68 rfl ?_
    obtain ⟨r5, σ5, hc5, h⟩ := bd_some h
    refine jc_back hU (jc_runI C hU mfX9_init lk_X6_30 (kX9_initc hc5) ⟨Nat.le_of_ble_eq_true rfl, Nat.le_of_ble_eq_true rfl⟩ rfl hl.1 rfl (Nat.le_of_ble_eq_true rfl) ⟨(by simp only [js_rmC]; omega), (by simp only [js_rmC]; omega)⟩ dX6_init_69) (fun H locs hU => ?_)
    refine W.widen (k := (9 + 4 * i)) (n := (229 + 84 * i)) (by omega) (by omega) ?_
    obtain ⟨g6, h⟩ := gd_some _ h
    obtain ⟨g6a, h⟩ := gd_some _ h
    obtain ⟨g6b, h⟩ := gd_some _ h
    obtain ⟨σ6, e6, h⟩ := lt_some h
    refine jc_aast C hU g6 g6a g6b dX6_init_72 (fun H locs hU => ?_)
    rw [e6] at hU
    refine lv_aload_n hx hb dX6_init_73 rfl (lv_at hl 0 rfl) ?_
    obtain ⟨g7, h⟩ := gd_some _ h
    obtain ⟨g8, h⟩ := gd_some _ h
    refine jc_gR C hU cfX6 g7 2 (by decide) (by decide) g8 lk_X6_24 dX6_init_74 ?_
    refine lv_iload_n hx hb dX6_init_77 rfl (lv_at hl 1 rfl) ?_
    obtain ⟨g9, h⟩ := gd_some _ h
    obtain ⟨σ9, e9, h⟩ := lt_some h
    refine jc_new C hU cfX9 dvX9 g9 lk_X6_18 js_i1X9 js_i2X9 (by simp only [js_rmC]; omega) (by simp only [js_rmC]; omega) dX6_init_78 (fun H hU => ?_)
    rw [e9] at hU
    refine W.widen (k := (10 + 4 * i)) (n := (231 + 84 * i)) (by omega) (by omega) ?_
    refine lv_dup hx hb dX6_init_81 rfl ?_
    obtain ⟨r10, σ10, hc10, h⟩ := bd_some h
    refine jc_back hU (jc_runI C hU mfX9_init lk_X6_30 (kX9_initc hc10) ⟨Nat.le_of_ble_eq_true rfl, Nat.le_of_ble_eq_true rfl⟩ rfl hl.1 rfl (Nat.le_of_ble_eq_true rfl) ⟨(by simp only [js_rmC]; omega), (by simp only [js_rmC]; omega)⟩ dX6_init_82) (fun H locs hU => ?_)
    refine W.widen (k := (11 + 4 * i)) (n := (271 + 84 * i)) (by omega) (by omega) ?_
    obtain ⟨g11, h⟩ := gd_some _ h
    obtain ⟨g11a, h⟩ := gd_some _ h
    obtain ⟨g11b, h⟩ := gd_some _ h
    obtain ⟨σ11, e11, h⟩ := lt_some h
    refine jc_aast C hU g11 g11a g11b dX6_init_85 (fun H locs hU => ?_)
    rw [e11] at hU
    refine lv_iinc (v := x1 + 1) (lv' := [(1, .int (x1 + 1)), (0, .ref (B + x0))]) hx hb dX6_init_86 hl (k := 1) rfl rfl (by decide) rfl (fun ls hl => ?_)
    refine lv_goto (tgt := 54) hx hb dX6_init_89 (by decide) ?_
    refine W.widen (k := 7 + 4 * (i + 1)) (n := 187 + 84 * (i + 1)) (by omega) (by omega) ?_
    exact hrc54 (i + 1) (by omega) _ _ _ _ _ _ h H locs hU ls (lv_sub hl [1, 0] rfl)
set_option maxHeartbeats 4000000 in
set_option maxRecDepth 20000 in
theorem uX6_init_54 (C : js_CC D g p m c cX6_init 2 s args RX6) (hr : meth.sig.returnType = none) (hk : meth.locks = false) (hin : meth.name = "<init>") : ∀ (k i : Nat), i + k = 7 → ∀ (x0 : Nat) (x1 : Int32) (nn : Nat) (σ : js_S) (n0 : Nat) (σ0 : js_S), fX6_initc_54 k x0 x1 nn σ = some (n0, σ0) → ∀ (H : Heap) (locs : List Loc), js_U D B g nn σ s H locs → ∀ ls : Array Slot, lv_has ls 2 [(0, .ref (B + x0)), (1, .int x1)] → W p l e (js_rmC 1 45 985) s m args below meth c H locs (7 + 4 * i) (187 + 84 * i) (MQ below (js_QC D B g n0 σ0) args s 45 985 (fun q => B < q)) (F0 m 54 ls []) := by
  intro k
  induction k with
  | zero =>
    intro i hik x0 x1 nn σ n0 σ0 h
    cases h
  | succ k ih =>
    intro i hik x0 x1 nn σ n0 σ0 h
    exact uX6_init_54b C hr hk hin (fX6_initc_54 k) ih i hik x0 x1 nn σ n0 σ0 h
set_option maxHeartbeats 4000000 in
set_option maxRecDepth 20000 in
theorem kX6_initc {x0 : Nat} {nn : Nat} {σ σ0 : js_S} {n0 : Nat} (h : fX6_initc x0 nn σ = some (n0, σ0)) : js_MC l D B g yX6_init cX6_init 2 1 45 985 nn [.ref (B + x0)] σ n0 σ0 := by
  refine jc_enter (by decide) (Nat.le_of_ble_eq_true rfl) ?_
  intro p e s m args below meth c C hr hk hin ls hl hU
  have hl : lv_has ls 2 [(0, .ref (B + x0))] := hl
  obtain ⟨⟨hx, hb, hml, hown, ht, hK, hNw⟩, hao⟩ := id C
  obtain ⟨H, eH⟩ : ∃ H, H = s.heap := ⟨_, rfl⟩
  obtain ⟨locs, eL⟩ : ∃ z : List Loc, z = [] := ⟨_, rfl⟩
  rw [← eH, ← eL]
  rw [← eH, ← eL] at hU
  clear eH eL
  unfold fX6_initc at h
  refine lv_aload_n hx hb dX6_init_0 rfl (lv_at hl 0 rfl) ?_
  refine W.objInit hx hb hown (ht _ lk_X6_3) (ht _ js_oi1) (ht _ js_oi2) rfl (hl.1.trans hml.symm) rfl dX6_init_1 (Nat.le_of_ble_eq_true rfl) (Nat.le_of_ble_eq_true rfl) ?_
  refine W.eq (g2 := F0 m 4 ls []) rfl ?_
  refine lv_aload_n hx hb dX6_init_4 rfl (lv_at hl 0 rfl) ?_
  obtain ⟨g1, h⟩ := gd_some _ h
  obtain ⟨σ1, e1, h⟩ := lt_some h
  refine jc_new C hU cfX8 dvX8 g1 lk_X6_9 js_i1X8 js_i2X8 (by simp only [js_rmC]; omega) (by simp only [js_rmC]; omega) dX6_init_5 (fun H hU => ?_)
  rw [e1] at hU
  refine W.widen (k := 1) (n := 1) (by omega) (by omega) ?_
  refine lv_dup hx hb dX6_init_8 rfl ?_
  obtain ⟨r2, σ2, hc2, h⟩ := bd_some h
  refine jc_back hU (jc_runI C hU mfX8_init lk_X6_11 (kX8_initc hc2) ⟨Nat.le_of_ble_eq_true rfl, Nat.le_of_ble_eq_true rfl⟩ rfl hl.1 rfl (Nat.le_of_ble_eq_true rfl) ⟨(by simp only [js_rmC]; omega), (by simp only [js_rmC]; omega)⟩ dX6_init_9) (fun H locs hU => ?_)
  refine W.widen (k := 2) (n := 129) (by omega) (by omega) ?_
  obtain ⟨g3, h⟩ := gd_some _ h
  obtain ⟨g3a, h⟩ := gd_some _ h
  obtain ⟨σ3, e3, h⟩ := lt_some h
  refine jc_pF C hin hU cfX6 g3 0 (by decide) (by decide) rfl rfl g3a rfl rfl lk_X6_12 dX6_init_12 (fun H locs hU => ?_)
  rw [e3] at hU
  refine lv_aload_n hx hb dX6_init_15 rfl (lv_at hl 0 rfl) ?_
  refine lv_bipush (v := 6) hx hb dX6_init_16 (by decide) ?_
  obtain ⟨g4, h⟩ := gd_some _ h
  obtain ⟨σ4, e4, h⟩ := lt_some h
  refine jc_anew C hU g4 (by decide) lk_X6_18 (by simp only [js_rmC]; omega) (by simp only [js_rmC]; omega) dX6_init_18 (fun H hU => ?_)
  rw [e4] at hU
  refine W.widen (k := 3) (n := 135) (by omega) (by omega) ?_
  obtain ⟨g5, h⟩ := gd_some _ h
  obtain ⟨g5a, h⟩ := gd_some _ h
  obtain ⟨σ5, e5, h⟩ := lt_some h
  refine jc_pF C hin hU cfX6 g5 1 (by decide) (by decide) rfl rfl g5a rfl rfl lk_X6_20 dX6_init_21 (fun H locs hU => ?_)
  rw [e5] at hU
  refine lv_aload_n hx hb dX6_init_24 rfl (lv_at hl 0 rfl) ?_
  refine lv_bipush (v := 6) hx hb dX6_init_25 (by decide) ?_
  obtain ⟨g6, h⟩ := gd_some _ h
  obtain ⟨σ6, e6, h⟩ := lt_some h
  refine jc_anew C hU g6 (by decide) lk_X6_18 (by simp only [js_rmC]; omega) (by simp only [js_rmC]; omega) dX6_init_27 (fun H hU => ?_)
  rw [e6] at hU
  refine W.widen (k := 4) (n := 141) (by omega) (by omega) ?_
  obtain ⟨g7, h⟩ := gd_some _ h
  obtain ⟨g7a, h⟩ := gd_some _ h
  obtain ⟨σ7, e7, h⟩ := lt_some h
  refine jc_pF C hin hU cfX6 g7 2 (by decide) (by decide) rfl rfl g7a rfl rfl lk_X6_24 dX6_init_30 (fun H locs hU => ?_)
  rw [e7] at hU
  refine lv_aload_n hx hb dX6_init_33 rfl (lv_at hl 0 rfl) ?_
  refine lv_iconst (v := 4) hx hb dX6_init_34 (by decide) ?_
  obtain ⟨g8, h⟩ := gd_some _ h
  obtain ⟨σ8, e8, h⟩ := lt_some h
  refine jc_anew C hU g8 (by decide) lk_X6_18 (by simp only [js_rmC]; omega) (by simp only [js_rmC]; omega) dX6_init_35 (fun H hU => ?_)
  rw [e8] at hU
  refine W.widen (k := 5) (n := 145) (by omega) (by omega) ?_
  obtain ⟨g9, h⟩ := gd_some _ h
  obtain ⟨g9a, h⟩ := gd_some _ h
  obtain ⟨σ9, e9, h⟩ := lt_some h
  refine jc_pF C hin hU cfX6 g9 3 (by decide) (by decide) rfl rfl g9a rfl rfl lk_X6_27 dX6_init_38 (fun H locs hU => ?_)
  rw [e9] at hU
  refine lv_aload_n hx hb dX6_init_41 rfl (lv_at hl 0 rfl) ?_
  obtain ⟨g10, h⟩ := gd_some _ h
  obtain ⟨σ10, e10, h⟩ := lt_some h
  refine jc_new C hU cfX9 dvX9 g10 lk_X6_18 js_i1X9 js_i2X9 (by simp only [js_rmC]; omega) (by simp only [js_rmC]; omega) dX6_init_42 (fun H hU => ?_)
  rw [e10] at hU
  refine W.widen (k := 6) (n := 147) (by omega) (by omega) ?_
  refine lv_dup hx hb dX6_init_45 rfl ?_
  obtain ⟨r11, σ11, hc11, h⟩ := bd_some h
  refine jc_back hU (jc_runI C hU mfX9_init lk_X6_30 (kX9_initc hc11) ⟨Nat.le_of_ble_eq_true rfl, Nat.le_of_ble_eq_true rfl⟩ rfl hl.1 rfl (Nat.le_of_ble_eq_true rfl) ⟨(by simp only [js_rmC]; omega), (by simp only [js_rmC]; omega)⟩ dX6_init_46) (fun H locs hU => ?_)
  refine W.widen (k := 7) (n := 187) (by omega) (by omega) ?_
  obtain ⟨g12, h⟩ := gd_some _ h
  obtain ⟨g12a, h⟩ := gd_some _ h
  obtain ⟨σ12, e12, h⟩ := lt_some h
  refine jc_pF C hin hU cfX6 g12 4 (by decide) (by decide) rfl rfl g12a rfl rfl lk_X6_31 dX6_init_49 (fun H locs hU => ?_)
  rw [e12] at hU
  refine lv_iconst (v := 0) hx hb dX6_init_52 (by decide) ?_
  refine lv_istore_n (lv' := [(1, .int 0), (0, .ref (B + x0))]) hx hb dX6_init_53 rfl hl (by decide) rfl (fun ls hl => ?_)
  refine W.widen (k := 7 + 4 * 0) (n := 187 + 84 * 0) (by omega) (by omega) ?_
  exact uX6_init_54 C hr hk hin 7 0 (by omega) _ _ _ _ _ _ h H locs hU ls (lv_sub hl [1, 0] rfl)
set_option maxHeartbeats 4000000 in
set_option maxRecDepth 20000 in
theorem uX7_init_22b (C : js_CC D g p m c cX7_init 2 s args RX7) (hr : meth.sig.returnType = none) (hk : meth.locks = false) (hin : meth.name = "<init>") (rc22 : Nat → Int32 → Nat → js_S → Option (Nat × js_S)) {k : Nat} (hrc22 : ∀ (i : Nat), i + k = 102 → ∀ (x0 : Nat) (x1 : Int32) (nn : Nat) (σ : js_S) (n0 : Nat) (σ0 : js_S), rc22 x0 x1 nn σ = some (n0, σ0) → ∀ (H : Heap) (locs : List Loc), js_U D B g nn σ s H locs → ∀ ls : Array Slot, lv_has ls 2 [(0, .ref (B + x0)), (1, .int x1)] → W p l e (js_rmC 1 206 4388) s m args below meth c H locs (2 + 2 * i) (104 + 42 * i) (MQ below (js_QC D B g n0 σ0) args s 206 4388 (fun q => B < q)) (F0 m 22 ls [])) (i : Nat) (hik : i + (k + 1) = 102) : ∀ (x0 : Nat) (x1 : Int32) (nn : Nat) (σ : js_S) (n0 : Nat) (σ0 : js_S), fX7_initc_22b rc22 x0 x1 nn σ = some (n0, σ0) → ∀ (H : Heap) (locs : List Loc), js_U D B g nn σ s H locs → ∀ ls : Array Slot, lv_has ls 2 [(0, .ref (B + x0)), (1, .int x1)] → W p l e (js_rmC 1 206 4388) s m args below meth c H locs (2 + 2 * i) (104 + 42 * i) (MQ below (js_QC D B g n0 σ0) args s 206 4388 (fun q => B < q)) (F0 m 22 ls []) := by
  obtain ⟨⟨hx, hb, hml, hown, ht, hK, hNw⟩, hao⟩ := id C
  intro x0 x1 nn σ n0 σ0 h H locs hU ls hl
  unfold fX7_initc_22b at h
  refine lv_iload_n hx hb dX7_init_22 rfl (lv_at hl 1 rfl) ?_
  refine lv_bipush (v := 100) hx hb dX7_init_23 (by decide) ?_
  refine lv_icmp_gt (tgt := 47) hx hb dX7_init_25 (by decide) (fun c1 => ?_) (fun c1 => ?_)
  · rw [if_pos c1] at h
    refine W.widen (k := 206) (n := 4388) (by omega) (by omega) ?_
    obtain ⟨rfl, rfl⟩ := js_rt h
    refine W.widen (k := 206) (n := 4388) (by omega) (by omega) ?_
    exact jc_vret C hU hr hk dX7_init_47
  · rw [if_neg c1] at h
    refine lv_aload_n hx hb dX7_init_28 rfl (lv_at hl 0 rfl) ?_
    obtain ⟨g2, h⟩ := gd_some _ h
    obtain ⟨g3, h⟩ := gd_some _ h
    refine jc_gR C hU cfX7 g2 1 (by decide) (by decide) g3 lk_X7_17 dX7_init_29 ?_
    refine lv_iload_n hx hb dX7_init_32 rfl (lv_at hl 1 rfl) ?_
    obtain ⟨g4, h⟩ := gd_some _ h
    obtain ⟨σ4, e4, h⟩ := lt_some h
    refine jc_new C hU cfX9 dvX9 g4 lk_X7_15 js_i1X9 js_i2X9 (by simp only [js_rmC]; omega) (by simp only [js_rmC]; omega) dX7_init_33 (fun H hU => ?_)
    rw [e4] at hU
    refine W.widen (k := (3 + 2 * i)) (n := (106 + 42 * i)) (by omega) (by omega) ?_
    refine lv_dup hx hb dX7_init_36 rfl ?_
    obtain ⟨r5, σ5, hc5, h⟩ := bd_some h
    refine jc_back hU (jc_runI C hU mfX9_init lk_X7_21 (kX9_initc hc5) ⟨Nat.le_of_ble_eq_true rfl, Nat.le_of_ble_eq_true rfl⟩ rfl hl.1 rfl (Nat.le_of_ble_eq_true rfl) ⟨(by simp only [js_rmC]; omega), (by simp only [js_rmC]; omega)⟩ dX7_init_37) (fun H locs hU => ?_)
    refine W.widen (k := (4 + 2 * i)) (n := (146 + 42 * i)) (by omega) (by omega) ?_
    obtain ⟨g6, h⟩ := gd_some _ h
    obtain ⟨g6a, h⟩ := gd_some _ h
    obtain ⟨g6b, h⟩ := gd_some _ h
    obtain ⟨σ6, e6, h⟩ := lt_some h
    refine jc_aast C hU g6 g6a g6b dX7_init_40 (fun H locs hU => ?_)
    rw [e6] at hU
    refine lv_iinc (v := x1 + 1) (lv' := [(1, .int (x1 + 1)), (0, .ref (B + x0))]) hx hb dX7_init_41 hl (k := 1) rfl rfl (by decide) rfl (fun ls hl => ?_)
    refine lv_goto (tgt := 22) hx hb dX7_init_44 (by decide) ?_
    refine W.widen (k := 2 + 2 * (i + 1)) (n := 104 + 42 * (i + 1)) (by omega) (by omega) ?_
    exact hrc22 (i + 1) (by omega) _ _ _ _ _ _ h H locs hU ls (lv_sub hl [1, 0] rfl)
set_option maxHeartbeats 4000000 in
set_option maxRecDepth 20000 in
theorem uX7_init_22 (C : js_CC D g p m c cX7_init 2 s args RX7) (hr : meth.sig.returnType = none) (hk : meth.locks = false) (hin : meth.name = "<init>") : ∀ (k i : Nat), i + k = 102 → ∀ (x0 : Nat) (x1 : Int32) (nn : Nat) (σ : js_S) (n0 : Nat) (σ0 : js_S), fX7_initc_22 k x0 x1 nn σ = some (n0, σ0) → ∀ (H : Heap) (locs : List Loc), js_U D B g nn σ s H locs → ∀ ls : Array Slot, lv_has ls 2 [(0, .ref (B + x0)), (1, .int x1)] → W p l e (js_rmC 1 206 4388) s m args below meth c H locs (2 + 2 * i) (104 + 42 * i) (MQ below (js_QC D B g n0 σ0) args s 206 4388 (fun q => B < q)) (F0 m 22 ls []) := by
  intro k
  induction k with
  | zero =>
    intro i hik x0 x1 nn σ n0 σ0 h
    cases h
  | succ k ih =>
    intro i hik x0 x1 nn σ n0 σ0 h
    exact uX7_init_22b C hr hk hin (fX7_initc_22 k) ih i hik x0 x1 nn σ n0 σ0 h
set_option maxHeartbeats 4000000 in
set_option maxRecDepth 20000 in
theorem kX7_initc {x0 : Nat} {nn : Nat} {σ σ0 : js_S} {n0 : Nat} (h : fX7_initc x0 nn σ = some (n0, σ0)) : js_MC l D B g yX7_init cX7_init 2 1 206 4388 nn [.ref (B + x0)] σ n0 σ0 := by
  refine jc_enter (by decide) (Nat.le_of_ble_eq_true rfl) ?_
  intro p e s m args below meth c C hr hk hin ls hl hU
  have hl : lv_has ls 2 [(0, .ref (B + x0))] := hl
  obtain ⟨⟨hx, hb, hml, hown, ht, hK, hNw⟩, hao⟩ := id C
  obtain ⟨H, eH⟩ : ∃ H, H = s.heap := ⟨_, rfl⟩
  obtain ⟨locs, eL⟩ : ∃ z : List Loc, z = [] := ⟨_, rfl⟩
  rw [← eH, ← eL]
  rw [← eH, ← eL] at hU
  clear eH eL
  unfold fX7_initc at h
  refine lv_aload_n hx hb dX7_init_0 rfl (lv_at hl 0 rfl) ?_
  refine W.objInit hx hb hown (ht _ lk_X7_3) (ht _ js_oi1) (ht _ js_oi2) rfl (hl.1.trans hml.symm) rfl dX7_init_1 (Nat.le_of_ble_eq_true rfl) (Nat.le_of_ble_eq_true rfl) ?_
  refine W.eq (g2 := F0 m 4 ls []) rfl ?_
  refine lv_aload_n hx hb dX7_init_4 rfl (lv_at hl 0 rfl) ?_
  refine lv_iconst (v := 3) hx hb dX7_init_5 (by decide) ?_
  obtain ⟨g1, h⟩ := gd_some _ h
  obtain ⟨σ1, e1, h⟩ := lt_some h
  refine jc_newI C hU g1 (by decide) js_arI (by simp only [js_rmC]; omega) (by simp only [js_rmC]; omega) dX7_init_6 (fun H hU => ?_)
  rw [e1] at hU
  refine W.widen (k := 1) (n := 3) (by omega) (by omega) ?_
  obtain ⟨g2, h⟩ := gd_some _ h
  obtain ⟨g2a, h⟩ := gd_some _ h
  obtain ⟨σ2, e2, h⟩ := lt_some h
  refine jc_pF C hin hU cfX7 g2 0 (by decide) (by decide) rfl rfl g2a rfl rfl lk_X7_9 dX7_init_8 (fun H locs hU => ?_)
  rw [e2] at hU
  refine lv_aload_n hx hb dX7_init_11 rfl (lv_at hl 0 rfl) ?_
  refine lv_bipush (v := 101) hx hb dX7_init_12 (by decide) ?_
  obtain ⟨g3, h⟩ := gd_some _ h
  obtain ⟨σ3, e3, h⟩ := lt_some h
  refine jc_anew C hU g3 (by decide) lk_X7_15 (by simp only [js_rmC]; omega) (by simp only [js_rmC]; omega) dX7_init_14 (fun H hU => ?_)
  rw [e3] at hU
  refine W.widen (k := 2) (n := 104) (by omega) (by omega) ?_
  obtain ⟨g4, h⟩ := gd_some _ h
  obtain ⟨g4a, h⟩ := gd_some _ h
  obtain ⟨σ4, e4, h⟩ := lt_some h
  refine jc_pF C hin hU cfX7 g4 1 (by decide) (by decide) rfl rfl g4a rfl rfl lk_X7_17 dX7_init_17 (fun H locs hU => ?_)
  rw [e4] at hU
  refine lv_iconst (v := 0) hx hb dX7_init_20 (by decide) ?_
  refine lv_istore_n (lv' := [(1, .int 0), (0, .ref (B + x0))]) hx hb dX7_init_21 rfl hl (by decide) rfl (fun ls hl => ?_)
  refine W.widen (k := 2 + 2 * 0) (n := 104 + 42 * 0) (by omega) (by omega) ?_
  exact uX7_init_22 C hr hk hin 102 0 (by omega) _ _ _ _ _ _ h H locs hU ls (lv_sub hl [1, 0] rfl)
set_option maxHeartbeats 4000000 in
set_option maxRecDepth 20000 in
theorem uX3_init_56b (C : js_CC D g p m c cX3_init 2 s args RX3) (hr : meth.sig.returnType = none) (hk : meth.locks = false) (hin : meth.name = "<init>") (rc56 : Nat → Int32 → Nat → js_S → Option (Nat × js_S)) {k : Nat} (hrc56 : ∀ (i : Nat), i + k = 32 → ∀ (x0 : Nat) (x1 : Int32) (nn : Nat) (σ : js_S) (n0 : Nat) (σ0 : js_S), rc56 x0 x1 nn σ = some (n0, σ0) → ∀ (H : Heap) (locs : List Loc), js_U D B g nn σ s H locs → ∀ ls : Array Slot, lv_has ls 2 [(0, .ref (B + x0)), (1, .int x1)] → W p l e (js_rmC 1 72 1532) s m args below meth c H locs (8 + 2 * i) (188 + 42 * i) (MQ below (js_QC D B g n0 σ0) args s 72 1532 (fun q => B < q)) (F0 m 56 ls [])) (i : Nat) (hik : i + (k + 1) = 32) : ∀ (x0 : Nat) (x1 : Int32) (nn : Nat) (σ : js_S) (n0 : Nat) (σ0 : js_S), fX3_initc_56b rc56 x0 x1 nn σ = some (n0, σ0) → ∀ (H : Heap) (locs : List Loc), js_U D B g nn σ s H locs → ∀ ls : Array Slot, lv_has ls 2 [(0, .ref (B + x0)), (1, .int x1)] → W p l e (js_rmC 1 72 1532) s m args below meth c H locs (8 + 2 * i) (188 + 42 * i) (MQ below (js_QC D B g n0 σ0) args s 72 1532 (fun q => B < q)) (F0 m 56 ls []) := by
  obtain ⟨⟨hx, hb, hml, hown, ht, hK, hNw⟩, hao⟩ := id C
  intro x0 x1 nn σ n0 σ0 h H locs hU ls hl
  unfold fX3_initc_56b at h
  refine lv_iload_n hx hb dX3_init_56 rfl (lv_at hl 1 rfl) ?_
  refine lv_bipush (v := 30) hx hb dX3_init_57 (by decide) ?_
  refine lv_icmp_gt (tgt := 81) hx hb dX3_init_59 (by decide) (fun c1 => ?_) (fun c1 => ?_)
  · rw [if_pos c1] at h
    refine W.widen (k := 72) (n := 1532) (by omega) (by omega) ?_
    obtain ⟨rfl, rfl⟩ := js_rt h
    refine W.widen (k := 72) (n := 1532) (by omega) (by omega) ?_
    exact jc_vret C hU hr hk dX3_init_81
  · rw [if_neg c1] at h
    refine lv_aload_n hx hb dX3_init_62 rfl (lv_at hl 0 rfl) ?_
    obtain ⟨g2, h⟩ := gd_some _ h
    obtain ⟨g3, h⟩ := gd_some _ h
    refine jc_gR C hU cfX3 g2 0 (by decide) (by decide) g3 lk_X3_13 dX3_init_63 ?_
    refine lv_iload_n hx hb dX3_init_66 rfl (lv_at hl 1 rfl) ?_
    obtain ⟨g4, h⟩ := gd_some _ h
    obtain ⟨σ4, e4, h⟩ := lt_some h
    refine jc_new C hU cfX9 dvX9 g4 lk_X3_11 js_i1X9 js_i2X9 (by simp only [js_rmC]; omega) (by simp only [js_rmC]; omega) dX3_init_67 (fun H hU => ?_)
    rw [e4] at hU
    refine W.widen (k := (9 + 2 * i)) (n := (190 + 42 * i)) (by omega) (by omega) ?_
    refine lv_dup hx hb dX3_init_70 rfl ?_
    obtain ⟨r5, σ5, hc5, h⟩ := bd_some h
    refine jc_back hU (jc_runI C hU mfX9_init lk_X3_21 (kX9_initc hc5) ⟨Nat.le_of_ble_eq_true rfl, Nat.le_of_ble_eq_true rfl⟩ rfl hl.1 rfl (Nat.le_of_ble_eq_true rfl) ⟨(by simp only [js_rmC]; omega), (by simp only [js_rmC]; omega)⟩ dX3_init_71) (fun H locs hU => ?_)
    refine W.widen (k := (10 + 2 * i)) (n := (230 + 42 * i)) (by omega) (by omega) ?_
    obtain ⟨g6, h⟩ := gd_some _ h
    obtain ⟨g6a, h⟩ := gd_some _ h
    obtain ⟨g6b, h⟩ := gd_some _ h
    obtain ⟨σ6, e6, h⟩ := lt_some h
    refine jc_aast C hU g6 g6a g6b dX3_init_74 (fun H locs hU => ?_)
    rw [e6] at hU
    refine lv_iinc (v := x1 + 1) (lv' := [(1, .int (x1 + 1)), (0, .ref (B + x0))]) hx hb dX3_init_75 hl (k := 1) rfl rfl (by decide) rfl (fun ls hl => ?_)
    refine lv_goto (tgt := 56) hx hb dX3_init_78 (by decide) ?_
    refine W.widen (k := 8 + 2 * (i + 1)) (n := 188 + 42 * (i + 1)) (by omega) (by omega) ?_
    exact hrc56 (i + 1) (by omega) _ _ _ _ _ _ h H locs hU ls (lv_sub hl [1, 0] rfl)
set_option maxHeartbeats 4000000 in
set_option maxRecDepth 20000 in
theorem uX3_init_56 (C : js_CC D g p m c cX3_init 2 s args RX3) (hr : meth.sig.returnType = none) (hk : meth.locks = false) (hin : meth.name = "<init>") : ∀ (k i : Nat), i + k = 32 → ∀ (x0 : Nat) (x1 : Int32) (nn : Nat) (σ : js_S) (n0 : Nat) (σ0 : js_S), fX3_initc_56 k x0 x1 nn σ = some (n0, σ0) → ∀ (H : Heap) (locs : List Loc), js_U D B g nn σ s H locs → ∀ ls : Array Slot, lv_has ls 2 [(0, .ref (B + x0)), (1, .int x1)] → W p l e (js_rmC 1 72 1532) s m args below meth c H locs (8 + 2 * i) (188 + 42 * i) (MQ below (js_QC D B g n0 σ0) args s 72 1532 (fun q => B < q)) (F0 m 56 ls []) := by
  intro k
  induction k with
  | zero =>
    intro i hik x0 x1 nn σ n0 σ0 h
    cases h
  | succ k ih =>
    intro i hik x0 x1 nn σ n0 σ0 h
    exact uX3_init_56b C hr hk hin (fX3_initc_56 k) ih i hik x0 x1 nn σ n0 σ0 h
set_option maxHeartbeats 4000000 in
set_option maxRecDepth 20000 in
theorem kX3_initc {x0 : Nat} {nn : Nat} {σ σ0 : js_S} {n0 : Nat} (h : fX3_initc x0 nn σ = some (n0, σ0)) : js_MC l D B g yX3_init cX3_init 2 1 72 1532 nn [.ref (B + x0)] σ n0 σ0 := by
  refine jc_enter (by decide) (Nat.le_of_ble_eq_true rfl) ?_
  intro p e s m args below meth c C hr hk hin ls hl hU
  have hl : lv_has ls 2 [(0, .ref (B + x0))] := hl
  obtain ⟨⟨hx, hb, hml, hown, ht, hK, hNw⟩, hao⟩ := id C
  obtain ⟨H, eH⟩ : ∃ H, H = s.heap := ⟨_, rfl⟩
  obtain ⟨locs, eL⟩ : ∃ z : List Loc, z = [] := ⟨_, rfl⟩
  rw [← eH, ← eL]
  rw [← eH, ← eL] at hU
  clear eH eL
  unfold fX3_initc at h
  refine lv_aload_n hx hb dX3_init_0 rfl (lv_at hl 0 rfl) ?_
  refine W.objInit hx hb hown (ht _ lk_X3_3) (ht _ js_oi1) (ht _ js_oi2) rfl (hl.1.trans hml.symm) rfl dX3_init_1 (Nat.le_of_ble_eq_true rfl) (Nat.le_of_ble_eq_true rfl) ?_
  refine W.eq (g2 := F0 m 4 ls []) rfl ?_
  refine lv_aload_n hx hb dX3_init_4 rfl (lv_at hl 0 rfl) ?_
  refine lv_bipush (v := 31) hx hb dX3_init_5 (by decide) ?_
  obtain ⟨g1, h⟩ := gd_some _ h
  obtain ⟨σ1, e1, h⟩ := lt_some h
  refine jc_anew C hU g1 (by decide) lk_X3_11 (by simp only [js_rmC]; omega) (by simp only [js_rmC]; omega) dX3_init_7 (fun H hU => ?_)
  rw [e1] at hU
  refine W.widen (k := 1) (n := 31) (by omega) (by omega) ?_
  obtain ⟨g2, h⟩ := gd_some _ h
  obtain ⟨g2a, h⟩ := gd_some _ h
  obtain ⟨σ2, e2, h⟩ := lt_some h
  refine jc_pF C hin hU cfX3 g2 0 (by decide) (by decide) rfl rfl g2a rfl rfl lk_X3_13 dX3_init_10 (fun H locs hU => ?_)
  rw [e2] at hU
  refine lv_aload_n hx hb dX3_init_13 rfl (lv_at hl 0 rfl) ?_
  refine lv_bipush (v := 31) hx hb dX3_init_14 (by decide) ?_
  obtain ⟨g3, h⟩ := gd_some _ h
  obtain ⟨σ3, e3, h⟩ := lt_some h
  refine jc_newZ C hU g3 (by decide) js_arZ (by simp only [js_rmC]; omega) (by simp only [js_rmC]; omega) dX3_init_16 (fun H hU => ?_)
  rw [e3] at hU
  refine W.widen (k := 2) (n := 62) (by omega) (by omega) ?_
  obtain ⟨g4, h⟩ := gd_some _ h
  obtain ⟨g4a, h⟩ := gd_some _ h
  obtain ⟨σ4, e4, h⟩ := lt_some h
  refine jc_pF C hin hU cfX3 g4 1 (by decide) (by decide) rfl rfl g4a rfl rfl lk_X3_17 dX3_init_18 (fun H locs hU => ?_)
  rw [e4] at hU
  refine lv_aload_n hx hb dX3_init_21 rfl (lv_at hl 0 rfl) ?_
  obtain ⟨g5, h⟩ := gd_some _ h
  obtain ⟨σ5, e5, h⟩ := lt_some h
  refine jc_new C hU cfX9 dvX9 g5 lk_X3_11 js_i1X9 js_i2X9 (by simp only [js_rmC]; omega) (by simp only [js_rmC]; omega) dX3_init_22 (fun H hU => ?_)
  rw [e5] at hU
  refine W.widen (k := 3) (n := 64) (by omega) (by omega) ?_
  refine lv_dup hx hb dX3_init_25 rfl ?_
  obtain ⟨r6, σ6, hc6, h⟩ := bd_some h
  refine jc_back hU (jc_runI C hU mfX9_init lk_X3_21 (kX9_initc hc6) ⟨Nat.le_of_ble_eq_true rfl, Nat.le_of_ble_eq_true rfl⟩ rfl hl.1 rfl (Nat.le_of_ble_eq_true rfl) ⟨(by simp only [js_rmC]; omega), (by simp only [js_rmC]; omega)⟩ dX3_init_26) (fun H locs hU => ?_)
  refine W.widen (k := 4) (n := 104) (by omega) (by omega) ?_
  obtain ⟨g7, h⟩ := gd_some _ h
  obtain ⟨g7a, h⟩ := gd_some _ h
  obtain ⟨σ7, e7, h⟩ := lt_some h
  refine jc_pF C hin hU cfX3 g7 2 (by decide) (by decide) rfl rfl g7a rfl rfl lk_X3_22 dX3_init_29 (fun H locs hU => ?_)
  rw [e7] at hU
  refine lv_aload_n hx hb dX3_init_32 rfl (lv_at hl 0 rfl) ?_
  obtain ⟨g8, h⟩ := gd_some _ h
  obtain ⟨σ8, e8, h⟩ := lt_some h
  refine jc_new C hU cfX9 dvX9 g8 lk_X3_11 js_i1X9 js_i2X9 (by simp only [js_rmC]; omega) (by simp only [js_rmC]; omega) dX3_init_33 (fun H hU => ?_)
  rw [e8] at hU
  refine W.widen (k := 5) (n := 106) (by omega) (by omega) ?_
  refine lv_dup hx hb dX3_init_36 rfl ?_
  obtain ⟨r9, σ9, hc9, h⟩ := bd_some h
  refine jc_back hU (jc_runI C hU mfX9_init lk_X3_21 (kX9_initc hc9) ⟨Nat.le_of_ble_eq_true rfl, Nat.le_of_ble_eq_true rfl⟩ rfl hl.1 rfl (Nat.le_of_ble_eq_true rfl) ⟨(by simp only [js_rmC]; omega), (by simp only [js_rmC]; omega)⟩ dX3_init_37) (fun H locs hU => ?_)
  refine W.widen (k := 6) (n := 146) (by omega) (by omega) ?_
  obtain ⟨g10, h⟩ := gd_some _ h
  obtain ⟨g10a, h⟩ := gd_some _ h
  obtain ⟨σ10, e10, h⟩ := lt_some h
  refine jc_pF C hin hU cfX3 g10 3 (by decide) (by decide) rfl rfl g10a rfl rfl lk_X3_26 dX3_init_40 (fun H locs hU => ?_)
  rw [e10] at hU
  refine lv_aload_n hx hb dX3_init_43 rfl (lv_at hl 0 rfl) ?_
  obtain ⟨g11, h⟩ := gd_some _ h
  obtain ⟨σ11, e11, h⟩ := lt_some h
  refine jc_new C hU cfX9 dvX9 g11 lk_X3_11 js_i1X9 js_i2X9 (by simp only [js_rmC]; omega) (by simp only [js_rmC]; omega) dX3_init_44 (fun H hU => ?_)
  rw [e11] at hU
  refine W.widen (k := 7) (n := 148) (by omega) (by omega) ?_
  refine lv_dup hx hb dX3_init_47 rfl ?_
  obtain ⟨r12, σ12, hc12, h⟩ := bd_some h
  refine jc_back hU (jc_runI C hU mfX9_init lk_X3_21 (kX9_initc hc12) ⟨Nat.le_of_ble_eq_true rfl, Nat.le_of_ble_eq_true rfl⟩ rfl hl.1 rfl (Nat.le_of_ble_eq_true rfl) ⟨(by simp only [js_rmC]; omega), (by simp only [js_rmC]; omega)⟩ dX3_init_48) (fun H locs hU => ?_)
  refine W.widen (k := 8) (n := 188) (by omega) (by omega) ?_
  obtain ⟨g13, h⟩ := gd_some _ h
  obtain ⟨g13a, h⟩ := gd_some _ h
  obtain ⟨σ13, e13, h⟩ := lt_some h
  refine jc_pF C hin hU cfX3 g13 4 (by decide) (by decide) rfl rfl g13a rfl rfl lk_X3_29 dX3_init_51 (fun H locs hU => ?_)
  rw [e13] at hU
  refine lv_iconst (v := 0) hx hb dX3_init_54 (by decide) ?_
  refine lv_istore_n (lv' := [(1, .int 0), (0, .ref (B + x0))]) hx hb dX3_init_55 rfl hl (by decide) rfl (fun ls hl => ?_)
  refine W.widen (k := 8 + 2 * 0) (n := 188 + 42 * 0) (by omega) (by omega) ?_
  exact uX3_init_56 C hr hk hin 32 0 (by omega) _ _ _ _ _ _ h H locs hU ls (lv_sub hl [1, 0] rfl)
set_option maxHeartbeats 4000000 in
set_option maxRecDepth 20000 in
theorem kX5_initc {x0 : Nat} {nn : Nat} {σ σ0 : js_S} {n0 : Nat} (h : fX5_initc x0 nn σ = some (n0, σ0)) : js_MC l D B g yX5_init cX5_init 1 1 5 1681 nn [.ref (B + x0)] σ n0 σ0 := by
  refine jc_enter (by decide) (Nat.le_of_ble_eq_true rfl) ?_
  intro p e s m args below meth c C hr hk hin ls hl hU
  have hl : lv_has ls 1 [(0, .ref (B + x0))] := hl
  obtain ⟨⟨hx, hb, hml, hown, ht, hK, hNw⟩, hao⟩ := id C
  obtain ⟨H, eH⟩ : ∃ H, H = s.heap := ⟨_, rfl⟩
  obtain ⟨locs, eL⟩ : ∃ z : List Loc, z = [] := ⟨_, rfl⟩
  rw [← eH, ← eL]
  rw [← eH, ← eL] at hU
  clear eH eL
  unfold fX5_initc at h
  refine lv_aload_n hx hb dX5_init_0 rfl (lv_at hl 0 rfl) ?_
  refine W.objInit hx hb hown (ht _ lk_X5_3) (ht _ js_oi1) (ht _ js_oi2) rfl (hl.1.trans hml.symm) rfl dX5_init_1 (Nat.le_of_ble_eq_true rfl) (Nat.le_of_ble_eq_true rfl) ?_
  refine W.eq (g2 := F0 m 4 ls []) rfl ?_
  refine lv_aload_n hx hb dX5_init_4 rfl (lv_at hl 0 rfl) ?_
  refine lv_sipush (v := 240) hx hb dX5_init_5 (by decide) ?_
  obtain ⟨g1, h⟩ := gd_some _ h
  obtain ⟨σ1, e1, h⟩ := lt_some h
  refine jc_newI C hU g1 (by decide) js_arI (by simp only [js_rmC]; omega) (by simp only [js_rmC]; omega) dX5_init_8 (fun H hU => ?_)
  rw [e1] at hU
  refine W.widen (k := 1) (n := 240) (by omega) (by omega) ?_
  obtain ⟨g2, h⟩ := gd_some _ h
  obtain ⟨g2a, h⟩ := gd_some _ h
  obtain ⟨σ2, e2, h⟩ := lt_some h
  refine jc_pF C hin hU cfX5 g2 0 (by decide) (by decide) rfl rfl g2a rfl rfl lk_X5_9 dX5_init_10 (fun H locs hU => ?_)
  rw [e2] at hU
  refine lv_aload_n hx hb dX5_init_13 rfl (lv_at hl 0 rfl) ?_
  refine lv_sipush (v := 240) hx hb dX5_init_14 (by decide) ?_
  obtain ⟨g3, h⟩ := gd_some _ h
  obtain ⟨σ3, e3, h⟩ := lt_some h
  refine jc_newI C hU g3 (by decide) js_arI (by simp only [js_rmC]; omega) (by simp only [js_rmC]; omega) dX5_init_17 (fun H hU => ?_)
  rw [e3] at hU
  refine W.widen (k := 2) (n := 480) (by omega) (by omega) ?_
  obtain ⟨g4, h⟩ := gd_some _ h
  obtain ⟨g4a, h⟩ := gd_some _ h
  obtain ⟨σ4, e4, h⟩ := lt_some h
  refine jc_pF C hin hU cfX5 g4 1 (by decide) (by decide) rfl rfl g4a rfl rfl lk_X5_15 dX5_init_19 (fun H locs hU => ?_)
  rw [e4] at hU
  refine lv_aload_n hx hb dX5_init_22 rfl (lv_at hl 0 rfl) ?_
  refine lv_sipush (v := 240) hx hb dX5_init_23 (by decide) ?_
  obtain ⟨g5, h⟩ := gd_some _ h
  obtain ⟨σ5, e5, h⟩ := lt_some h
  refine jc_newI C hU g5 (by decide) js_arI (by simp only [js_rmC]; omega) (by simp only [js_rmC]; omega) dX5_init_26 (fun H hU => ?_)
  rw [e5] at hU
  refine W.widen (k := 3) (n := 720) (by omega) (by omega) ?_
  obtain ⟨g6, h⟩ := gd_some _ h
  obtain ⟨g6a, h⟩ := gd_some _ h
  obtain ⟨σ6, e6, h⟩ := lt_some h
  refine jc_pF C hin hU cfX5 g6 2 (by decide) (by decide) rfl rfl g6a rfl rfl lk_X5_18 dX5_init_28 (fun H locs hU => ?_)
  rw [e6] at hU
  refine lv_aload_n hx hb dX5_init_31 rfl (lv_at hl 0 rfl) ?_
  obtain ⟨g7, h⟩ := gd_some _ h
  obtain ⟨σ7, e7, h⟩ := lt_some h
  refine jc_new C hU cfX4 dvX4 g7 lk_X5_21 js_i1X4 js_i2X4 (by simp only [js_rmC]; omega) (by simp only [js_rmC]; omega) dX5_init_32 (fun H hU => ?_)
  rw [e7] at hU
  refine W.widen (k := 4) (n := 721) (by omega) (by omega) ?_
  refine lv_dup hx hb dX5_init_35 rfl ?_
  obtain ⟨r8, σ8, hc8, h⟩ := bd_some h
  refine jc_back hU (jc_runIN C hU mfX4_init lk_X5_23 (kX4_initc hc8) ⟨Nat.le_of_ble_eq_true rfl, Nat.le_of_ble_eq_true rfl⟩ rfl hl.1 rfl (Nat.le_of_ble_eq_true rfl) ⟨(by simp only [js_rmC]; omega), (by simp only [js_rmC]; omega)⟩ dX5_init_36) (fun H locs hU => ?_)
  refine W.widen (k := 5) (n := 1681) (by omega) (by omega) ?_
  obtain ⟨g9, h⟩ := gd_some _ h
  obtain ⟨g9a, h⟩ := gd_some _ h
  obtain ⟨σ9, e9, h⟩ := lt_some h
  refine jc_pF C hin hU cfX5 g9 3 (by decide) (by decide) rfl rfl g9a rfl rfl lk_X5_24 dX5_init_39 (fun H locs hU => ?_)
  rw [e9] at hU
  obtain ⟨rfl, rfl⟩ := js_rt h
  refine W.widen (k := 5) (n := 1681) (by omega) (by omega) ?_
  exact jc_vret C hU hr hk dX5_init_42
set_option maxHeartbeats 4000000 in
set_option maxRecDepth 20000 in
theorem kX1_initc {x0 : Nat} {nn : Nat} {σ σ0 : js_S} {n0 : Nat} (h : fX1_initc x0 nn σ = some (n0, σ0)) : js_MC l D B g yX1_init cX1_init 1 1 5 2162 nn [.ref (B + x0)] σ n0 σ0 := by
  refine jc_enter (by decide) (Nat.le_of_ble_eq_true rfl) ?_
  intro p e s m args below meth c C hr hk hin ls hl hU
  have hl : lv_has ls 1 [(0, .ref (B + x0))] := hl
  obtain ⟨⟨hx, hb, hml, hown, ht, hK, hNw⟩, hao⟩ := id C
  obtain ⟨H, eH⟩ : ∃ H, H = s.heap := ⟨_, rfl⟩
  obtain ⟨locs, eL⟩ : ∃ z : List Loc, z = [] := ⟨_, rfl⟩
  rw [← eH, ← eL]
  rw [← eH, ← eL] at hU
  clear eH eL
  unfold fX1_initc at h
  refine lv_aload_n hx hb dX1_init_0 rfl (lv_at hl 0 rfl) ?_
  refine W.objInit hx hb hown (ht _ lk_X1_3) (ht _ js_oi1) (ht _ js_oi2) rfl (hl.1.trans hml.symm) rfl dX1_init_1 (Nat.le_of_ble_eq_true rfl) (Nat.le_of_ble_eq_true rfl) ?_
  refine W.eq (g2 := F0 m 4 ls []) rfl ?_
  refine lv_aload_n hx hb dX1_init_4 rfl (lv_at hl 0 rfl) ?_
  obtain ⟨g1, h⟩ := gd_some _ h
  obtain ⟨σ1, e1, h⟩ := lt_some h
  refine jc_new C hU cfX4 dvX4 g1 lk_X1_9 js_i1X4 js_i2X4 (by simp only [js_rmC]; omega) (by simp only [js_rmC]; omega) dX1_init_5 (fun H hU => ?_)
  rw [e1] at hU
  refine W.widen (k := 1) (n := 1) (by omega) (by omega) ?_
  refine lv_dup hx hb dX1_init_8 rfl ?_
  obtain ⟨r2, σ2, hc2, h⟩ := bd_some h
  refine jc_back hU (jc_runIN C hU mfX4_init lk_X1_11 (kX4_initc hc2) ⟨Nat.le_of_ble_eq_true rfl, Nat.le_of_ble_eq_true rfl⟩ rfl hl.1 rfl (Nat.le_of_ble_eq_true rfl) ⟨(by simp only [js_rmC]; omega), (by simp only [js_rmC]; omega)⟩ dX1_init_9) (fun H locs hU => ?_)
  refine W.widen (k := 2) (n := 961) (by omega) (by omega) ?_
  obtain ⟨g3, h⟩ := gd_some _ h
  obtain ⟨g3a, h⟩ := gd_some _ h
  obtain ⟨σ3, e3, h⟩ := lt_some h
  refine jc_pF C hin hU cfX1 g3 0 (by decide) (by decide) rfl rfl g3a rfl rfl lk_X1_12 dX1_init_12 (fun H locs hU => ?_)
  rw [e3] at hU
  refine lv_aload_n hx hb dX1_init_15 rfl (lv_at hl 0 rfl) ?_
  obtain ⟨g4, h⟩ := gd_some _ h
  obtain ⟨σ4, e4, h⟩ := lt_some h
  refine jc_new C hU cfX4 dvX4 g4 lk_X1_9 js_i1X4 js_i2X4 (by simp only [js_rmC]; omega) (by simp only [js_rmC]; omega) dX1_init_16 (fun H hU => ?_)
  rw [e4] at hU
  refine W.widen (k := 3) (n := 962) (by omega) (by omega) ?_
  refine lv_dup hx hb dX1_init_19 rfl ?_
  obtain ⟨r5, σ5, hc5, h⟩ := bd_some h
  refine jc_back hU (jc_runIN C hU mfX4_init lk_X1_11 (kX4_initc hc5) ⟨Nat.le_of_ble_eq_true rfl, Nat.le_of_ble_eq_true rfl⟩ rfl hl.1 rfl (Nat.le_of_ble_eq_true rfl) ⟨(by simp only [js_rmC]; omega), (by simp only [js_rmC]; omega)⟩ dX1_init_20) (fun H locs hU => ?_)
  refine W.widen (k := 4) (n := 1922) (by omega) (by omega) ?_
  obtain ⟨g6, h⟩ := gd_some _ h
  obtain ⟨g6a, h⟩ := gd_some _ h
  obtain ⟨σ6, e6, h⟩ := lt_some h
  refine jc_pF C hin hU cfX1 g6 1 (by decide) (by decide) rfl rfl g6a rfl rfl lk_X1_18 dX1_init_23 (fun H locs hU => ?_)
  rw [e6] at hU
  refine lv_aload_n hx hb dX1_init_26 rfl (lv_at hl 0 rfl) ?_
  refine lv_sipush (v := 240) hx hb dX1_init_27 (by decide) ?_
  obtain ⟨g7, h⟩ := gd_some _ h
  obtain ⟨σ7, e7, h⟩ := lt_some h
  refine jc_newI C hU g7 (by decide) js_arI (by simp only [js_rmC]; omega) (by simp only [js_rmC]; omega) dX1_init_30 (fun H hU => ?_)
  rw [e7] at hU
  refine W.widen (k := 5) (n := 2162) (by omega) (by omega) ?_
  obtain ⟨g8, h⟩ := gd_some _ h
  obtain ⟨g8a, h⟩ := gd_some _ h
  obtain ⟨σ8, e8, h⟩ := lt_some h
  refine jc_pF C hin hU cfX1 g8 2 (by decide) (by decide) rfl rfl g8a rfl rfl lk_X1_21 dX1_init_32 (fun H locs hU => ?_)
  rw [e8] at hU
  obtain ⟨rfl, rfl⟩ := js_rt h
  refine W.widen (k := 5) (n := 2162) (by omega) (by omega) ?_
  exact jc_vret C hU hr hk dX1_init_35
set_option maxHeartbeats 4000000 in
set_option maxRecDepth 20000 in
theorem kX0_initc {x0 : Nat} {nn : Nat} {σ σ0 : js_S} {n0 : Nat} (h : fX0_initc x0 nn σ = some (n0, σ0)) : js_MC l D B g yX0_init cX0_init 1 0 2 1424 nn [.ref (B + x0)] σ n0 σ0 := by
  refine jc_enter (by decide) (Nat.le_of_ble_eq_true rfl) ?_
  intro p e s m args below meth c C hr hk hin ls hl hU
  have hl : lv_has ls 1 [(0, .ref (B + x0))] := hl
  obtain ⟨⟨hx, hb, hml, hown, ht, hK, hNw⟩, hao⟩ := id C
  obtain ⟨H, eH⟩ : ∃ H, H = s.heap := ⟨_, rfl⟩
  obtain ⟨locs, eL⟩ : ∃ z : List Loc, z = [] := ⟨_, rfl⟩
  rw [← eH, ← eL]
  rw [← eH, ← eL] at hU
  clear eH eL
  unfold fX0_initc at h
  refine lv_aload_n hx hb dX0_init_0 rfl (lv_at hl 0 rfl) ?_
  refine W.objInit hx hb hown (ht _ lk_X0_3) (ht _ js_oi1) (ht _ js_oi2) rfl (hl.1.trans hml.symm) rfl dX0_init_1 (Nat.le_of_ble_eq_true rfl) (Nat.le_of_ble_eq_true rfl) ?_
  refine W.eq (g2 := F0 m 4 ls []) rfl ?_
  refine lv_aload_n hx hb dX0_init_4 rfl (lv_at hl 0 rfl) ?_
  refine lv_sipush (v := 400) hx hb dX0_init_5 (by decide) ?_
  obtain ⟨g1, h⟩ := gd_some _ h
  obtain ⟨σ1, e1, h⟩ := lt_some h
  refine jc_newI C hU g1 (by decide) js_arI (by simp only [js_rmC]; omega) (by simp only [js_rmC]; omega) dX0_init_8 (fun H hU => ?_)
  rw [e1] at hU
  refine W.widen (k := 1) (n := 400) (by omega) (by omega) ?_
  obtain ⟨g2, h⟩ := gd_some _ h
  obtain ⟨g2a, h⟩ := gd_some _ h
  obtain ⟨σ2, e2, h⟩ := lt_some h
  refine jc_pF C hin hU cfX0 g2 0 (by decide) (by decide) rfl rfl g2a rfl rfl lk_X0_9 dX0_init_10 (fun H locs hU => ?_)
  rw [e2] at hU
  refine lv_aload_n hx hb dX0_init_13 rfl (lv_at hl 0 rfl) ?_
  refine lv_sipush (v := 1024) hx hb dX0_init_14 (by decide) ?_
  obtain ⟨g3, h⟩ := gd_some _ h
  obtain ⟨σ3, e3, h⟩ := lt_some h
  refine jc_newI C hU g3 (by decide) js_arI (by simp only [js_rmC]; omega) (by simp only [js_rmC]; omega) dX0_init_17 (fun H hU => ?_)
  rw [e3] at hU
  refine W.widen (k := 2) (n := 1424) (by omega) (by omega) ?_
  obtain ⟨g4, h⟩ := gd_some _ h
  obtain ⟨g4a, h⟩ := gd_some _ h
  obtain ⟨σ4, e4, h⟩ := lt_some h
  refine jc_pF C hin hU cfX0 g4 1 (by decide) (by decide) rfl rfl g4a rfl rfl lk_X0_15 dX0_init_19 (fun H locs hU => ?_)
  rw [e4] at hU
  obtain ⟨rfl, rfl⟩ := js_rt h
  refine W.widen (k := 2) (n := 1424) (by omega) (by omega) ?_
  exact jc_vret C hU hr hk dX0_init_22
set_option maxHeartbeats 4000000 in
set_option maxRecDepth 20000 in
theorem kX2_initc {x0 : Nat} {nn : Nat} {σ σ0 : js_S} {n0 : Nat} (h : fX2_initc x0 nn σ = some (n0, σ0)) : js_MC l D B g yX2_init cX2_init 1 2 8 2173 nn [.ref (B + x0)] σ n0 σ0 := by
  refine jc_enter (by decide) (Nat.le_of_ble_eq_true rfl) ?_
  intro p e s m args below meth c C hr hk hin ls hl hU
  have hl : lv_has ls 1 [(0, .ref (B + x0))] := hl
  obtain ⟨⟨hx, hb, hml, hown, ht, hK, hNw⟩, hao⟩ := id C
  obtain ⟨H, eH⟩ : ∃ H, H = s.heap := ⟨_, rfl⟩
  obtain ⟨locs, eL⟩ : ∃ z : List Loc, z = [] := ⟨_, rfl⟩
  rw [← eH, ← eL]
  rw [← eH, ← eL] at hU
  clear eH eL
  unfold fX2_initc at h
  refine lv_aload_n hx hb dX2_init_0 rfl (lv_at hl 0 rfl) ?_
  refine W.objInit hx hb hown (ht _ lk_X2_3) (ht _ js_oi1) (ht _ js_oi2) rfl (hl.1.trans hml.symm) rfl dX2_init_1 (Nat.le_of_ble_eq_true rfl) (Nat.le_of_ble_eq_true rfl) ?_
  refine W.eq (g2 := F0 m 4 ls []) rfl ?_
  refine lv_aload_n hx hb dX2_init_4 rfl (lv_at hl 0 rfl) ?_
  obtain ⟨g1, h⟩ := gd_some _ h
  obtain ⟨σ1, e1, h⟩ := lt_some h
  refine jc_new C hU cfX1 dvX1 g1 lk_X2_9 js_i1X1 js_i2X1 (by simp only [js_rmC]; omega) (by simp only [js_rmC]; omega) dX2_init_5 (fun H hU => ?_)
  rw [e1] at hU
  refine W.widen (k := 1) (n := 5) (by omega) (by omega) ?_
  refine lv_dup hx hb dX2_init_8 rfl ?_
  obtain ⟨r2, σ2, hc2, h⟩ := bd_some h
  refine jc_back hU (jc_runIN C hU mfX1_init lk_X2_11 (kX1_initc hc2) ⟨Nat.le_of_ble_eq_true rfl, Nat.le_of_ble_eq_true rfl⟩ rfl hl.1 rfl (Nat.le_of_ble_eq_true rfl) ⟨(by simp only [js_rmC]; omega), (by simp only [js_rmC]; omega)⟩ dX2_init_9) (fun H locs hU => ?_)
  refine W.widen (k := 6) (n := 2167) (by omega) (by omega) ?_
  obtain ⟨g3, h⟩ := gd_some _ h
  obtain ⟨g3a, h⟩ := gd_some _ h
  obtain ⟨σ3, e3, h⟩ := lt_some h
  refine jc_pF C hin hU cfX2 g3 0 (by decide) (by decide) rfl rfl g3a rfl rfl lk_X2_12 dX2_init_12 (fun H locs hU => ?_)
  rw [e3] at hU
  refine lv_aload_n hx hb dX2_init_15 rfl (lv_at hl 0 rfl) ?_
  refine lv_iconst (v := 3) hx hb dX2_init_16 (by decide) ?_
  obtain ⟨g4, h⟩ := gd_some _ h
  obtain ⟨σ4, e4, h⟩ := lt_some h
  refine jc_newI C hU g4 (by decide) js_arI (by simp only [js_rmC]; omega) (by simp only [js_rmC]; omega) dX2_init_17 (fun H hU => ?_)
  rw [e4] at hU
  refine W.widen (k := 7) (n := 2170) (by omega) (by omega) ?_
  obtain ⟨g5, h⟩ := gd_some _ h
  obtain ⟨g5a, h⟩ := gd_some _ h
  obtain ⟨σ5, e5, h⟩ := lt_some h
  refine jc_pF C hin hU cfX2 g5 1 (by decide) (by decide) rfl rfl g5a rfl rfl lk_X2_18 dX2_init_19 (fun H locs hU => ?_)
  rw [e5] at hU
  refine lv_aload_n hx hb dX2_init_22 rfl (lv_at hl 0 rfl) ?_
  refine lv_iconst (v := 3) hx hb dX2_init_23 (by decide) ?_
  obtain ⟨g6, h⟩ := gd_some _ h
  obtain ⟨σ6, e6, h⟩ := lt_some h
  refine jc_newI C hU g6 (by decide) js_arI (by simp only [js_rmC]; omega) (by simp only [js_rmC]; omega) dX2_init_24 (fun H hU => ?_)
  rw [e6] at hU
  refine W.widen (k := 8) (n := 2173) (by omega) (by omega) ?_
  obtain ⟨g7, h⟩ := gd_some _ h
  obtain ⟨g7a, h⟩ := gd_some _ h
  obtain ⟨σ7, e7, h⟩ := lt_some h
  refine jc_pF C hin hU cfX2 g7 2 (by decide) (by decide) rfl rfl g7a rfl rfl lk_X2_22 dX2_init_26 (fun H locs hU => ?_)
  rw [e7] at hU
  obtain ⟨rfl, rfl⟩ := js_rt h
  refine W.widen (k := 8) (n := 2173) (by omega) (by omega) ?_
  exact jc_vret C hU hr hk dX2_init_29
set_option maxHeartbeats 4000000 in
set_option maxRecDepth 20000 in
theorem kX11_initc {x0 : Nat} {nn : Nat} {σ σ0 : js_S} {n0 : Nat} (h : fX11_initc x0 nn σ = some (n0, σ0)) : js_MC l D B g yX11_init cX11_init 1 3 404 16062 nn [.ref (B + x0)] σ n0 σ0 := by
  refine jc_enter (by decide) (Nat.le_of_ble_eq_true rfl) ?_
  intro p e s m args below meth c C hr hk hin ls hl hU
  have hl : lv_has ls 1 [(0, .ref (B + x0))] := hl
  obtain ⟨⟨hx, hb, hml, hown, ht, hK, hNw⟩, hao⟩ := id C
  obtain ⟨H, eH⟩ : ∃ H, H = s.heap := ⟨_, rfl⟩
  obtain ⟨locs, eL⟩ : ∃ z : List Loc, z = [] := ⟨_, rfl⟩
  rw [← eH, ← eL]
  rw [← eH, ← eL] at hU
  clear eH eL
  unfold fX11_initc at h
  refine lv_aload_n hx hb dX11_init_0 rfl (lv_at hl 0 rfl) ?_
  refine W.objInit hx hb hown (ht _ lk_X11_3) (ht _ js_oi1) (ht _ js_oi2) rfl (hl.1.trans hml.symm) rfl dX11_init_1 (Nat.le_of_ble_eq_true rfl) (Nat.le_of_ble_eq_true rfl) ?_
  refine W.eq (g2 := F0 m 4 ls []) rfl ?_
  refine lv_aload_n hx hb dX11_init_4 rfl (lv_at hl 0 rfl) ?_
  obtain ⟨g1, h⟩ := gd_some _ h
  obtain ⟨σ1, e1, h⟩ := lt_some h
  refine jc_new C hU cfX6 dvX6 g1 lk_X11_9 js_i1X6 js_i2X6 (by simp only [js_rmC]; omega) (by simp only [js_rmC]; omega) dX11_init_5 (fun H hU => ?_)
  rw [e1] at hU
  refine W.widen (k := 1) (n := 6) (by omega) (by omega) ?_
  refine lv_dup hx hb dX11_init_8 rfl ?_
  obtain ⟨r2, σ2, hc2, h⟩ := bd_some h
  refine jc_back hU (jc_runI C hU mfX6_init lk_X11_11 (kX6_initc hc2) ⟨Nat.le_of_ble_eq_true rfl, Nat.le_of_ble_eq_true rfl⟩ rfl hl.1 rfl (Nat.le_of_ble_eq_true rfl) ⟨(by simp only [js_rmC]; omega), (by simp only [js_rmC]; omega)⟩ dX11_init_9) (fun H locs hU => ?_)
  refine W.widen (k := 46) (n := 991) (by omega) (by omega) ?_
  obtain ⟨g3, h⟩ := gd_some _ h
  obtain ⟨g3a, h⟩ := gd_some _ h
  obtain ⟨σ3, e3, h⟩ := lt_some h
  refine jc_pF C hin hU cfX11 g3 0 (by decide) (by decide) rfl rfl g3a rfl rfl lk_X11_12 dX11_init_12 (fun H locs hU => ?_)
  rw [e3] at hU
  refine lv_aload_n hx hb dX11_init_15 rfl (lv_at hl 0 rfl) ?_
  obtain ⟨g4, h⟩ := gd_some _ h
  obtain ⟨σ4, e4, h⟩ := lt_some h
  refine jc_new C hU cfX6 dvX6 g4 lk_X11_9 js_i1X6 js_i2X6 (by simp only [js_rmC]; omega) (by simp only [js_rmC]; omega) dX11_init_16 (fun H hU => ?_)
  rw [e4] at hU
  refine W.widen (k := 47) (n := 997) (by omega) (by omega) ?_
  refine lv_dup hx hb dX11_init_19 rfl ?_
  obtain ⟨r5, σ5, hc5, h⟩ := bd_some h
  refine jc_back hU (jc_runI C hU mfX6_init lk_X11_11 (kX6_initc hc5) ⟨Nat.le_of_ble_eq_true rfl, Nat.le_of_ble_eq_true rfl⟩ rfl hl.1 rfl (Nat.le_of_ble_eq_true rfl) ⟨(by simp only [js_rmC]; omega), (by simp only [js_rmC]; omega)⟩ dX11_init_20) (fun H locs hU => ?_)
  refine W.widen (k := 92) (n := 1982) (by omega) (by omega) ?_
  obtain ⟨g6, h⟩ := gd_some _ h
  obtain ⟨g6a, h⟩ := gd_some _ h
  obtain ⟨σ6, e6, h⟩ := lt_some h
  refine jc_pF C hin hU cfX11 g6 1 (by decide) (by decide) rfl rfl g6a rfl rfl lk_X11_16 dX11_init_23 (fun H locs hU => ?_)
  rw [e6] at hU
  refine lv_aload_n hx hb dX11_init_26 rfl (lv_at hl 0 rfl) ?_
  obtain ⟨g7, h⟩ := gd_some _ h
  obtain ⟨σ7, e7, h⟩ := lt_some h
  refine jc_new C hU cfX10 dvX10 g7 lk_X11_19 js_i1X10 js_i2X10 (by simp only [js_rmC]; omega) (by simp only [js_rmC]; omega) dX11_init_27 (fun H hU => ?_)
  rw [e7] at hU
  refine W.widen (k := 93) (n := 1986) (by omega) (by omega) ?_
  refine lv_dup hx hb dX11_init_30 rfl ?_
  refine lv_bipush (v := 80) hx hb dX11_init_31 (by decide) ?_
  obtain ⟨r8, σ8, hc8, h⟩ := bd_some h
  refine jc_back hU (jc_runI C hU mfX10_init lk_X11_21 (kX10_initc hc8) ⟨Nat.le_of_ble_eq_true rfl, Nat.le_of_ble_eq_true rfl⟩ rfl hl.1 rfl (Nat.le_of_ble_eq_true rfl) ⟨(by simp only [js_rmC]; omega), (by simp only [js_rmC]; omega)⟩ dX11_init_33) (fun H locs hU => ?_)
  refine W.widen (k := 95) (n := 2306) (by omega) (by omega) ?_
  obtain ⟨g9, h⟩ := gd_some _ h
  obtain ⟨g9a, h⟩ := gd_some _ h
  obtain ⟨σ9, e9, h⟩ := lt_some h
  refine jc_pF C hin hU cfX11 g9 3 (by decide) (by decide) rfl rfl g9a rfl rfl lk_X11_24 dX11_init_36 (fun H locs hU => ?_)
  rw [e9] at hU
  refine lv_aload_n hx hb dX11_init_39 rfl (lv_at hl 0 rfl) ?_
  obtain ⟨g10, h⟩ := gd_some _ h
  obtain ⟨σ10, e10, h⟩ := lt_some h
  refine jc_new C hU cfX10 dvX10 g10 lk_X11_19 js_i1X10 js_i2X10 (by simp only [js_rmC]; omega) (by simp only [js_rmC]; omega) dX11_init_40 (fun H hU => ?_)
  rw [e10] at hU
  refine W.widen (k := 96) (n := 2310) (by omega) (by omega) ?_
  refine lv_dup hx hb dX11_init_43 rfl ?_
  refine lv_sipush (v := 160) hx hb dX11_init_44 (by decide) ?_
  obtain ⟨r11, σ11, hc11, h⟩ := bd_some h
  refine jc_back hU (jc_runI C hU mfX10_init lk_X11_21 (kX10_initc hc11) ⟨Nat.le_of_ble_eq_true rfl, Nat.le_of_ble_eq_true rfl⟩ rfl hl.1 rfl (Nat.le_of_ble_eq_true rfl) ⟨(by simp only [js_rmC]; omega), (by simp only [js_rmC]; omega)⟩ dX11_init_47) (fun H locs hU => ?_)
  refine W.widen (k := 98) (n := 2630) (by omega) (by omega) ?_
  obtain ⟨g12, h⟩ := gd_some _ h
  obtain ⟨g12a, h⟩ := gd_some _ h
  obtain ⟨σ12, e12, h⟩ := lt_some h
  refine jc_pF C hin hU cfX11 g12 4 (by decide) (by decide) rfl rfl g12a rfl rfl lk_X11_28 dX11_init_50 (fun H locs hU => ?_)
  rw [e12] at hU
  refine lv_aload_n hx hb dX11_init_53 rfl (lv_at hl 0 rfl) ?_
  obtain ⟨g13, h⟩ := gd_some _ h
  obtain ⟨σ13, e13, h⟩ := lt_some h
  refine jc_new C hU cfX7 dvX7 g13 lk_X11_31 js_i1X7 js_i2X7 (by simp only [js_rmC]; omega) (by simp only [js_rmC]; omega) dX11_init_54 (fun H hU => ?_)
  rw [e13] at hU
  refine W.widen (k := 99) (n := 2632) (by omega) (by omega) ?_
  refine lv_dup hx hb dX11_init_57 rfl ?_
  obtain ⟨r14, σ14, hc14, h⟩ := bd_some h
  refine jc_back hU (jc_runI C hU mfX7_init lk_X11_33 (kX7_initc hc14) ⟨Nat.le_of_ble_eq_true rfl, Nat.le_of_ble_eq_true rfl⟩ rfl hl.1 rfl (Nat.le_of_ble_eq_true rfl) ⟨(by simp only [js_rmC]; omega), (by simp only [js_rmC]; omega)⟩ dX11_init_58) (fun H locs hU => ?_)
  refine W.widen (k := 305) (n := 7020) (by omega) (by omega) ?_
  obtain ⟨g15, h⟩ := gd_some _ h
  obtain ⟨g15a, h⟩ := gd_some _ h
  obtain ⟨σ15, e15, h⟩ := lt_some h
  refine jc_pF C hin hU cfX11 g15 5 (by decide) (by decide) rfl rfl g15a rfl rfl lk_X11_34 dX11_init_61 (fun H locs hU => ?_)
  rw [e15] at hU
  refine lv_aload_n hx hb dX11_init_64 rfl (lv_at hl 0 rfl) ?_
  obtain ⟨g16, h⟩ := gd_some _ h
  obtain ⟨σ16, e16, h⟩ := lt_some h
  refine jc_new C hU cfX3 dvX3 g16 lk_X11_38 js_i1X3 js_i2X3 (by simp only [js_rmC]; omega) (by simp only [js_rmC]; omega) dX11_init_65 (fun H hU => ?_)
  rw [e16] at hU
  refine W.widen (k := 306) (n := 7028) (by omega) (by omega) ?_
  refine lv_dup hx hb dX11_init_68 rfl ?_
  obtain ⟨r17, σ17, hc17, h⟩ := bd_some h
  refine jc_back hU (jc_runI C hU mfX3_init lk_X11_40 (kX3_initc hc17) ⟨Nat.le_of_ble_eq_true rfl, Nat.le_of_ble_eq_true rfl⟩ rfl hl.1 rfl (Nat.le_of_ble_eq_true rfl) ⟨(by simp only [js_rmC]; omega), (by simp only [js_rmC]; omega)⟩ dX11_init_69) (fun H locs hU => ?_)
  refine W.widen (k := 378) (n := 8560) (by omega) (by omega) ?_
  obtain ⟨g18, h⟩ := gd_some _ h
  obtain ⟨g18a, h⟩ := gd_some _ h
  obtain ⟨σ18, e18, h⟩ := lt_some h
  refine jc_pF C hin hU cfX11 g18 6 (by decide) (by decide) rfl rfl g18a rfl rfl lk_X11_41 dX11_init_72 (fun H locs hU => ?_)
  rw [e18] at hU
  refine lv_aload_n hx hb dX11_init_75 rfl (lv_at hl 0 rfl) ?_
  obtain ⟨g19, h⟩ := gd_some _ h
  obtain ⟨σ19, e19, h⟩ := lt_some h
  refine jc_new C hU cfX9 dvX9 g19 lk_X11_45 js_i1X9 js_i2X9 (by simp only [js_rmC]; omega) (by simp only [js_rmC]; omega) dX11_init_76 (fun H hU => ?_)
  rw [e19] at hU
  refine W.widen (k := 379) (n := 8562) (by omega) (by omega) ?_
  refine lv_dup hx hb dX11_init_79 rfl ?_
  obtain ⟨r20, σ20, hc20, h⟩ := bd_some h
  refine jc_back hU (jc_runI C hU mfX9_init lk_X11_47 (kX9_initc hc20) ⟨Nat.le_of_ble_eq_true rfl, Nat.le_of_ble_eq_true rfl⟩ rfl hl.1 rfl (Nat.le_of_ble_eq_true rfl) ⟨(by simp only [js_rmC]; omega), (by simp only [js_rmC]; omega)⟩ dX11_init_80) (fun H locs hU => ?_)
  refine W.widen (k := 380) (n := 8602) (by omega) (by omega) ?_
  obtain ⟨g21, h⟩ := gd_some _ h
  obtain ⟨g21a, h⟩ := gd_some _ h
  obtain ⟨σ21, e21, h⟩ := lt_some h
  refine jc_pF C hin hU cfX11 g21 7 (by decide) (by decide) rfl rfl g21a rfl rfl lk_X11_48 dX11_init_83 (fun H locs hU => ?_)
  rw [e21] at hU
  refine lv_aload_n hx hb dX11_init_86 rfl (lv_at hl 0 rfl) ?_
  obtain ⟨g22, h⟩ := gd_some _ h
  obtain ⟨σ22, e22, h⟩ := lt_some h
  refine jc_new C hU cfX5 dvX5 g22 lk_X11_52 js_i1X5 js_i2X5 (by simp only [js_rmC]; omega) (by simp only [js_rmC]; omega) dX11_init_87 (fun H hU => ?_)
  rw [e22] at hU
  refine W.widen (k := 381) (n := 8607) (by omega) (by omega) ?_
  refine lv_dup hx hb dX11_init_90 rfl ?_
  obtain ⟨r23, σ23, hc23, h⟩ := bd_some h
  refine jc_back hU (jc_runIN C hU mfX5_init lk_X11_54 (kX5_initc hc23) ⟨Nat.le_of_ble_eq_true rfl, Nat.le_of_ble_eq_true rfl⟩ rfl hl.1 rfl (Nat.le_of_ble_eq_true rfl) ⟨(by simp only [js_rmC]; omega), (by simp only [js_rmC]; omega)⟩ dX11_init_91) (fun H locs hU => ?_)
  refine W.widen (k := 386) (n := 10288) (by omega) (by omega) ?_
  obtain ⟨g24, h⟩ := gd_some _ h
  obtain ⟨g24a, h⟩ := gd_some _ h
  obtain ⟨σ24, e24, h⟩ := lt_some h
  refine jc_pF C hin hU cfX11 g24 8 (by decide) (by decide) rfl rfl g24a rfl rfl lk_X11_55 dX11_init_94 (fun H locs hU => ?_)
  rw [e24] at hU
  refine lv_aload_n hx hb dX11_init_97 rfl (lv_at hl 0 rfl) ?_
  obtain ⟨g25, h⟩ := gd_some _ h
  obtain ⟨σ25, e25, h⟩ := lt_some h
  refine jc_new C hU cfX1 dvX1 g25 lk_X11_59 js_i1X1 js_i2X1 (by simp only [js_rmC]; omega) (by simp only [js_rmC]; omega) dX11_init_98 (fun H hU => ?_)
  rw [e25] at hU
  refine W.widen (k := 387) (n := 10293) (by omega) (by omega) ?_
  refine lv_dup hx hb dX11_init_101 rfl ?_
  obtain ⟨r26, σ26, hc26, h⟩ := bd_some h
  refine jc_back hU (jc_runIN C hU mfX1_init lk_X11_61 (kX1_initc hc26) ⟨Nat.le_of_ble_eq_true rfl, Nat.le_of_ble_eq_true rfl⟩ rfl hl.1 rfl (Nat.le_of_ble_eq_true rfl) ⟨(by simp only [js_rmC]; omega), (by simp only [js_rmC]; omega)⟩ dX11_init_102) (fun H locs hU => ?_)
  refine W.widen (k := 392) (n := 12455) (by omega) (by omega) ?_
  obtain ⟨g27, h⟩ := gd_some _ h
  obtain ⟨g27a, h⟩ := gd_some _ h
  obtain ⟨σ27, e27, h⟩ := lt_some h
  refine jc_pF C hin hU cfX11 g27 10 (by decide) (by decide) rfl rfl g27a rfl rfl lk_X11_62 dX11_init_105 (fun H locs hU => ?_)
  rw [e27] at hU
  refine lv_aload_n hx hb dX11_init_108 rfl (lv_at hl 0 rfl) ?_
  obtain ⟨g28, h⟩ := gd_some _ h
  obtain ⟨σ28, e28, h⟩ := lt_some h
  refine jc_new C hU cfX0 dvX0 g28 lk_X11_66 js_i1X0 js_i2X0 (by simp only [js_rmC]; omega) (by simp only [js_rmC]; omega) dX11_init_109 (fun H hU => ?_)
  rw [e28] at hU
  refine W.widen (k := 393) (n := 12461) (by omega) (by omega) ?_
  refine lv_dup hx hb dX11_init_112 rfl ?_
  obtain ⟨r29, σ29, hc29, h⟩ := bd_some h
  refine jc_back hU (jc_runIN C hU mfX0_init lk_X11_68 (kX0_initc hc29) ⟨Nat.le_of_ble_eq_true rfl, Nat.le_of_ble_eq_true rfl⟩ rfl hl.1 rfl (Nat.le_of_ble_eq_true rfl) ⟨(by simp only [js_rmC]; omega), (by simp only [js_rmC]; omega)⟩ dX11_init_113) (fun H locs hU => ?_)
  refine W.widen (k := 395) (n := 13885) (by omega) (by omega) ?_
  obtain ⟨g30, h⟩ := gd_some _ h
  obtain ⟨g30a, h⟩ := gd_some _ h
  obtain ⟨σ30, e30, h⟩ := lt_some h
  refine jc_pF C hin hU cfX11 g30 12 (by decide) (by decide) rfl rfl g30a rfl rfl lk_X11_69 dX11_init_116 (fun H locs hU => ?_)
  rw [e30] at hU
  refine lv_aload_n hx hb dX11_init_119 rfl (lv_at hl 0 rfl) ?_
  obtain ⟨g31, h⟩ := gd_some _ h
  obtain ⟨σ31, e31, h⟩ := lt_some h
  refine jc_new C hU cfX2 dvX2 g31 lk_X11_73 js_i1X2 js_i2X2 (by simp only [js_rmC]; omega) (by simp only [js_rmC]; omega) dX11_init_120 (fun H hU => ?_)
  rw [e31] at hU
  refine W.widen (k := 396) (n := 13889) (by omega) (by omega) ?_
  refine lv_dup hx hb dX11_init_123 rfl ?_
  obtain ⟨r32, σ32, hc32, h⟩ := bd_some h
  refine jc_back hU (jc_runIN C hU mfX2_init lk_X11_75 (kX2_initc hc32) ⟨Nat.le_of_ble_eq_true rfl, Nat.le_of_ble_eq_true rfl⟩ rfl hl.1 rfl (Nat.le_of_ble_eq_true rfl) ⟨(by simp only [js_rmC]; omega), (by simp only [js_rmC]; omega)⟩ dX11_init_124) (fun H locs hU => ?_)
  refine W.widen (k := 404) (n := 16062) (by omega) (by omega) ?_
  obtain ⟨g33, h⟩ := gd_some _ h
  obtain ⟨g33a, h⟩ := gd_some _ h
  obtain ⟨σ33, e33, h⟩ := lt_some h
  refine jc_pF C hin hU cfX11 g33 14 (by decide) (by decide) rfl rfl g33a rfl rfl lk_X11_76 dX11_init_127 (fun H locs hU => ?_)
  rw [e33] at hU
  obtain ⟨rfl, rfl⟩ := js_rt h
  refine W.widen (k := 404) (n := 16062) (by omega) (by omega) ?_
  exact jc_vret C hU hr hk dX11_init_130
set_option maxHeartbeats 4000000 in
set_option maxRecDepth 20000 in
theorem kX12_setToZc {x0 : Nat} {x1 : Int32} {nn : Nat} {σ σ0 : js_S} {n0 : Nat} (h : fX12_setToZc x0 x1 nn σ = some (n0, σ0)) : js_MC l D B g yX12_setToZ cX12_setToZ 2 0 0 0 nn [.ref (B + x0), .int x1] σ n0 σ0 := by
  refine jc_enter (by decide) (Nat.le_of_ble_eq_true rfl) ?_
  intro p e s m args below meth c C hr hk hin ls hl hU
  have hl : lv_has ls 2 [(0, .ref (B + x0)), (1, .int x1)] := hl
  obtain ⟨⟨hx, hb, hml, hown, ht, hK, hNw⟩, hao⟩ := id C
  obtain ⟨H, eH⟩ : ∃ H, H = s.heap := ⟨_, rfl⟩
  obtain ⟨locs, eL⟩ : ∃ z : List Loc, z = [] := ⟨_, rfl⟩
  rw [← eH, ← eL]
  rw [← eH, ← eL] at hU
  clear eH eL
  unfold fX12_setToZc at h
  refine lv_aload_n hx hb dX12_setToZ_0 rfl (lv_at hl 0 rfl) ?_
  obtain ⟨g1, h⟩ := gd_some _ h
  obtain ⟨g2, h⟩ := gd_some _ h
  refine jc_gR C hU cfX12 g1 4 (by decide) (by decide) g2 lk_X12_22 dX12_setToZ_1 ?_
  refine lv_bipush (v := 96) hx hb dX12_setToZ_4 (by decide) ?_
  refine lv_iload_n hx hb dX12_setToZ_6 rfl (lv_at hl 1 rfl) ?_
  refine lv_imul hx hb dX12_setToZ_7 ?_
  refine lv_iconst (v := 1) hx hb dX12_setToZ_8 (by decide) ?_
  obtain ⟨g3, h⟩ := gd_some _ h
  obtain ⟨g3a, h⟩ := gd_some _ h
  obtain ⟨σ3, e3, h⟩ := lt_some h
  refine jc_iast C hU g3 g3a dX12_setToZ_9 (fun H locs hU => ?_)
  rw [e3] at hU
  refine lv_aload_n hx hb dX12_setToZ_10 rfl (lv_at hl 0 rfl) ?_
  obtain ⟨g4, h⟩ := gd_some _ h
  obtain ⟨g5, h⟩ := gd_some _ h
  refine jc_gR C hU cfX12 g4 4 (by decide) (by decide) g5 lk_X12_22 dX12_setToZ_11 ?_
  refine lv_bipush (v := 96) hx hb dX12_setToZ_14 (by decide) ?_
  refine lv_iload_n hx hb dX12_setToZ_16 rfl (lv_at hl 1 rfl) ?_
  refine lv_imul hx hb dX12_setToZ_17 ?_
  refine lv_iconst (v := 1) hx hb dX12_setToZ_18 (by decide) ?_
  refine lv_iadd hx hb dX12_setToZ_19 ?_
  refine lv_bipush (v := 122) hx hb dX12_setToZ_20 (by decide) ?_
  obtain ⟨g6, h⟩ := gd_some _ h
  obtain ⟨g6a, h⟩ := gd_some _ h
  obtain ⟨σ6, e6, h⟩ := lt_some h
  refine jc_iast C hU g6 g6a dX12_setToZ_22 (fun H locs hU => ?_)
  rw [e6] at hU
  obtain ⟨rfl, rfl⟩ := js_rt h
  refine W.widen (k := 0) (n := 0) (by omega) (by omega) ?_
  exact jc_vret C hU hr hk dX12_setToZ_23
set_option maxHeartbeats 4000000 in
set_option maxRecDepth 20000 in
theorem uX12_init_267b (C : js_CC D g p m c cX12_init 2 s args RX12) (hr : meth.sig.returnType = none) (hk : meth.locks = false) (hin : meth.name = "<init>") (rc267 : Nat → Int32 → Nat → js_S → Option (Nat × js_S)) {k : Nat} (hrc267 : ∀ (i : Nat), i + k = 5 → ∀ (x0 : Nat) (x1 : Int32) (nn : Nat) (σ : js_S) (n0 : Nat) (σ0 : js_S), rc267 x0 x1 nn σ = some (n0, σ0) → ∀ (H : Heap) (locs : List Loc), js_U D B g nn σ s H locs → ∀ ls : Array Slot, lv_has ls 2 [(0, .ref (B + x0)), (1, .int x1)] → W p l e (js_rmC 1 29 300810) s m args below meth c H locs (29 + 0 * i) (300810 + 0 * i) (MQ below (js_QC D B g n0 σ0) args s 29 300810 (fun q => B < q)) (F0 m 267 ls [])) (i : Nat) (hik : i + (k + 1) = 5) : ∀ (x0 : Nat) (x1 : Int32) (nn : Nat) (σ : js_S) (n0 : Nat) (σ0 : js_S), fX12_initc_267b rc267 x0 x1 nn σ = some (n0, σ0) → ∀ (H : Heap) (locs : List Loc), js_U D B g nn σ s H locs → ∀ ls : Array Slot, lv_has ls 2 [(0, .ref (B + x0)), (1, .int x1)] → W p l e (js_rmC 1 29 300810) s m args below meth c H locs (29 + 0 * i) (300810 + 0 * i) (MQ below (js_QC D B g n0 σ0) args s 29 300810 (fun q => B < q)) (F0 m 267 ls []) := by
  obtain ⟨⟨hx, hb, hml, hown, ht, hK, hNw⟩, hao⟩ := id C
  intro x0 x1 nn σ n0 σ0 h H locs hU ls hl
  unfold fX12_initc_267b at h
  refine lv_iload_n hx hb dX12_init_267 rfl (lv_at hl 1 rfl) ?_
  refine lv_iconst (v := 4) hx hb dX12_init_268 (by decide) ?_
  refine lv_icmp_ge (tgt := 283) hx hb dX12_init_269 (by decide) (fun c1 => ?_) (fun c1 => ?_)
  · rw [if_pos c1] at h
    refine W.widen (k := 29) (n := 300810) (by omega) (by omega) ?_
    obtain ⟨rfl, rfl⟩ := js_rt h
    refine W.widen (k := 29) (n := 300810) (by omega) (by omega) ?_
    exact jc_vret C hU hr hk dX12_init_283
  · rw [if_neg c1] at h
    refine lv_aload_n hx hb dX12_init_272 rfl (lv_at hl 0 rfl) ?_
    refine lv_iload_n hx hb dX12_init_273 rfl (lv_at hl 1 rfl) ?_
    obtain ⟨g2, h⟩ := gd_some _ h
    obtain ⟨r2, σ2, hc2, h⟩ := bd_some h
    refine jc_back hU (jc_runV C hU cfX12 g2 rfl mfX12_setToZ lk_X12_101 (kX12_setToZc hc2) ⟨Nat.le_of_ble_eq_true rfl, Nat.le_of_ble_eq_true rfl⟩ rfl hl.1 rfl (Nat.le_of_ble_eq_true rfl) ⟨(by simp only [js_rmC]; omega), (by simp only [js_rmC]; omega)⟩ dX12_init_274) (fun H locs hU => ?_)
    refine W.widen (k := 29) (n := 300810) (by omega) (by omega) ?_
    refine lv_iinc (v := x1 + 1) (lv' := [(1, .int (x1 + 1)), (0, .ref (B + x0))]) hx hb dX12_init_277 hl (k := 1) rfl rfl (by decide) rfl (fun ls hl => ?_)
    refine lv_goto (tgt := 267) hx hb dX12_init_280 (by decide) ?_
    refine W.widen (k := 29 + 0 * (i + 1)) (n := 300810 + 0 * (i + 1)) (by omega) (by omega) ?_
    exact hrc267 (i + 1) (by omega) _ _ _ _ _ _ h H locs hU ls (lv_sub hl [1, 0] rfl)
set_option maxHeartbeats 4000000 in
set_option maxRecDepth 20000 in
theorem uX12_init_267 (C : js_CC D g p m c cX12_init 2 s args RX12) (hr : meth.sig.returnType = none) (hk : meth.locks = false) (hin : meth.name = "<init>") : ∀ (k i : Nat), i + k = 5 → ∀ (x0 : Nat) (x1 : Int32) (nn : Nat) (σ : js_S) (n0 : Nat) (σ0 : js_S), fX12_initc_267 k x0 x1 nn σ = some (n0, σ0) → ∀ (H : Heap) (locs : List Loc), js_U D B g nn σ s H locs → ∀ ls : Array Slot, lv_has ls 2 [(0, .ref (B + x0)), (1, .int x1)] → W p l e (js_rmC 1 29 300810) s m args below meth c H locs (29 + 0 * i) (300810 + 0 * i) (MQ below (js_QC D B g n0 σ0) args s 29 300810 (fun q => B < q)) (F0 m 267 ls []) := by
  intro k
  induction k with
  | zero =>
    intro i hik x0 x1 nn σ n0 σ0 h
    cases h
  | succ k ih =>
    intro i hik x0 x1 nn σ n0 σ0 h
    exact uX12_init_267b C hr hk hin (fX12_initc_267 k) ih i hik x0 x1 nn σ n0 σ0 h
set_option maxHeartbeats 4000000 in
set_option maxRecDepth 20000 in
theorem kX12_initc {x0 : Nat} {nn : Nat} {σ σ0 : js_S} {n0 : Nat} (h : fX12_initc x0 nn σ = some (n0, σ0)) : js_MC l D B g yX12_init cX12_init 2 1 29 300810 nn [.ref (B + x0)] σ n0 σ0 := by
  refine jc_enter (by decide) (Nat.le_of_ble_eq_true rfl) ?_
  intro p e s m args below meth c C hr hk hin ls hl hU
  have hl : lv_has ls 2 [(0, .ref (B + x0))] := hl
  obtain ⟨⟨hx, hb, hml, hown, ht, hK, hNw⟩, hao⟩ := id C
  obtain ⟨H, eH⟩ : ∃ H, H = s.heap := ⟨_, rfl⟩
  obtain ⟨locs, eL⟩ : ∃ z : List Loc, z = [] := ⟨_, rfl⟩
  rw [← eH, ← eL]
  rw [← eH, ← eL] at hU
  clear eH eL
  unfold fX12_initc at h
  refine lv_aload_n hx hb dX12_init_0 rfl (lv_at hl 0 rfl) ?_
  refine W.objInit hx hb hown (ht _ lk_X12_3) (ht _ js_oi1) (ht _ js_oi2) rfl (hl.1.trans hml.symm) rfl dX12_init_1 (Nat.le_of_ble_eq_true rfl) (Nat.le_of_ble_eq_true rfl) ?_
  refine W.eq (g2 := F0 m 4 ls []) rfl ?_
  refine lv_aload_n hx hb dX12_init_4 rfl (lv_at hl 0 rfl) ?_
  refine lv_iconst (v := 3) hx hb dX12_init_5 (by decide) ?_
  obtain ⟨g1, h⟩ := gd_some _ h
  obtain ⟨σ1, e1, h⟩ := lt_some h
  refine jc_newI C hU g1 (by decide) js_arI (by simp only [js_rmC]; omega) (by simp only [js_rmC]; omega) dX12_init_6 (fun H hU => ?_)
  rw [e1] at hU
  refine W.widen (k := 1) (n := 3) (by omega) (by omega) ?_
  obtain ⟨g2, h⟩ := gd_some _ h
  obtain ⟨g2a, h⟩ := gd_some _ h
  obtain ⟨σ2, e2, h⟩ := lt_some h
  refine jc_pF C hin hU cfX12 g2 0 (by decide) (by decide) rfl rfl g2a rfl rfl lk_X12_9 dX12_init_8 (fun H locs hU => ?_)
  rw [e2] at hU
  refine lv_aload_n hx hb dX12_init_11 rfl (lv_at hl 0 rfl) ?_
  refine lv_iconst (v := 3) hx hb dX12_init_12 (by decide) ?_
  obtain ⟨g3, h⟩ := gd_some _ h
  obtain ⟨σ3, e3, h⟩ := lt_some h
  refine jc_newI C hU g3 (by decide) js_arI (by simp only [js_rmC]; omega) (by simp only [js_rmC]; omega) dX12_init_13 (fun H hU => ?_)
  rw [e3] at hU
  refine W.widen (k := 2) (n := 6) (by omega) (by omega) ?_
  obtain ⟨g4, h⟩ := gd_some _ h
  obtain ⟨g4a, h⟩ := gd_some _ h
  obtain ⟨σ4, e4, h⟩ := lt_some h
  refine jc_pF C hin hU cfX12 g4 1 (by decide) (by decide) rfl rfl g4a rfl rfl lk_X12_13 dX12_init_15 (fun H locs hU => ?_)
  rw [e4] at hU
  refine lv_aload_n hx hb dX12_init_18 rfl (lv_at hl 0 rfl) ?_
  refine lv_sipush (v := 1152) hx hb dX12_init_19 (by decide) ?_
  obtain ⟨g5, h⟩ := gd_some _ h
  obtain ⟨σ5, e5, h⟩ := lt_some h
  refine jc_newI C hU g5 (by decide) js_arI (by simp only [js_rmC]; omega) (by simp only [js_rmC]; omega) dX12_init_22 (fun H hU => ?_)
  rw [e5] at hU
  refine W.widen (k := 3) (n := 1158) (by omega) (by omega) ?_
  obtain ⟨g6, h⟩ := gd_some _ h
  obtain ⟨g6a, h⟩ := gd_some _ h
  obtain ⟨σ6, e6, h⟩ := lt_some h
  refine jc_pF C hin hU cfX12 g6 2 (by decide) (by decide) rfl rfl g6a rfl rfl lk_X12_16 dX12_init_24 (fun H locs hU => ?_)
  rw [e6] at hU
  refine lv_aload_n hx hb dX12_init_27 rfl (lv_at hl 0 rfl) ?_
  refine lv_sipush (v := 1152) hx hb dX12_init_28 (by decide) ?_
  obtain ⟨g7, h⟩ := gd_some _ h
  obtain ⟨σ7, e7, h⟩ := lt_some h
  refine jc_newI C hU g7 (by decide) js_arI (by simp only [js_rmC]; omega) (by simp only [js_rmC]; omega) dX12_init_31 (fun H hU => ?_)
  rw [e7] at hU
  refine W.widen (k := 4) (n := 2310) (by omega) (by omega) ?_
  obtain ⟨g8, h⟩ := gd_some _ h
  obtain ⟨g8a, h⟩ := gd_some _ h
  obtain ⟨σ8, e8, h⟩ := lt_some h
  refine jc_pF C hin hU cfX12 g8 3 (by decide) (by decide) rfl rfl g8a rfl rfl lk_X12_19 dX12_init_33 (fun H locs hU => ?_)
  rw [e8] at hU
  refine lv_aload_n hx hb dX12_init_36 rfl (lv_at hl 0 rfl) ?_
  refine lv_sipush (v := 384) hx hb dX12_init_37 (by decide) ?_
  obtain ⟨g9, h⟩ := gd_some _ h
  obtain ⟨σ9, e9, h⟩ := lt_some h
  refine jc_newI C hU g9 (by decide) js_arI (by simp only [js_rmC]; omega) (by simp only [js_rmC]; omega) dX12_init_40 (fun H hU => ?_)
  rw [e9] at hU
  refine W.widen (k := 5) (n := 2694) (by omega) (by omega) ?_
  obtain ⟨g10, h⟩ := gd_some _ h
  obtain ⟨g10a, h⟩ := gd_some _ h
  obtain ⟨σ10, e10, h⟩ := lt_some h
  refine jc_pF C hin hU cfX12 g10 4 (by decide) (by decide) rfl rfl g10a rfl rfl lk_X12_22 dX12_init_42 (fun H locs hU => ?_)
  rw [e10] at hU
  refine lv_aload_n hx hb dX12_init_45 rfl (lv_at hl 0 rfl) ?_
  refine lv_sipush (v := 384) hx hb dX12_init_46 (by decide) ?_
  obtain ⟨g11, h⟩ := gd_some _ h
  obtain ⟨σ11, e11, h⟩ := lt_some h
  refine jc_newI C hU g11 (by decide) js_arI (by simp only [js_rmC]; omega) (by simp only [js_rmC]; omega) dX12_init_49 (fun H hU => ?_)
  rw [e11] at hU
  refine W.widen (k := 6) (n := 3078) (by omega) (by omega) ?_
  obtain ⟨g12, h⟩ := gd_some _ h
  obtain ⟨g12a, h⟩ := gd_some _ h
  obtain ⟨σ12, e12, h⟩ := lt_some h
  refine jc_pF C hin hU cfX12 g12 5 (by decide) (by decide) rfl rfl g12a rfl rfl lk_X12_25 dX12_init_51 (fun H locs hU => ?_)
  rw [e12] at hU
  refine lv_aload_n hx hb dX12_init_54 rfl (lv_at hl 0 rfl) ?_
  refine lv_iconst (v := 3) hx hb dX12_init_55 (by decide) ?_
  obtain ⟨g13, h⟩ := gd_some _ h
  obtain ⟨σ13, e13, h⟩ := lt_some h
  refine jc_newI C hU g13 (by decide) js_arI (by simp only [js_rmC]; omega) (by simp only [js_rmC]; omega) dX12_init_56 (fun H hU => ?_)
  rw [e13] at hU
  refine W.widen (k := 7) (n := 3081) (by omega) (by omega) ?_
  obtain ⟨g14, h⟩ := gd_some _ h
  obtain ⟨g14a, h⟩ := gd_some _ h
  obtain ⟨σ14, e14, h⟩ := lt_some h
  refine jc_pF C hin hU cfX12 g14 9 (by decide) (by decide) rfl rfl g14a rfl rfl lk_X12_28 dX12_init_58 (fun H locs hU => ?_)
  rw [e14] at hU
  refine lv_aload_n hx hb dX12_init_61 rfl (lv_at hl 0 rfl) ?_
  refine lv_iconst (v := 3) hx hb dX12_init_62 (by decide) ?_
  obtain ⟨g15, h⟩ := gd_some _ h
  obtain ⟨σ15, e15, h⟩ := lt_some h
  refine jc_newI C hU g15 (by decide) js_arI (by simp only [js_rmC]; omega) (by simp only [js_rmC]; omega) dX12_init_63 (fun H hU => ?_)
  rw [e15] at hU
  refine W.widen (k := 8) (n := 3084) (by omega) (by omega) ?_
  obtain ⟨g16, h⟩ := gd_some _ h
  obtain ⟨g16a, h⟩ := gd_some _ h
  obtain ⟨σ16, e16, h⟩ := lt_some h
  refine jc_pF C hin hU cfX12 g16 10 (by decide) (by decide) rfl rfl g16a rfl rfl lk_X12_31 dX12_init_65 (fun H locs hU => ?_)
  rw [e16] at hU
  refine lv_aload_n hx hb dX12_init_68 rfl (lv_at hl 0 rfl) ?_
  refine lv_bipush (v := 96) hx hb dX12_init_69 (by decide) ?_
  obtain ⟨g17, h⟩ := gd_some _ h
  obtain ⟨σ17, e17, h⟩ := lt_some h
  refine jc_newI C hU g17 (by decide) js_arI (by simp only [js_rmC]; omega) (by simp only [js_rmC]; omega) dX12_init_71 (fun H hU => ?_)
  rw [e17] at hU
  refine W.widen (k := 9) (n := 3180) (by omega) (by omega) ?_
  obtain ⟨g18, h⟩ := gd_some _ h
  obtain ⟨g18a, h⟩ := gd_some _ h
  obtain ⟨σ18, e18, h⟩ := lt_some h
  refine jc_pF C hin hU cfX12 g18 11 (by decide) (by decide) rfl rfl g18a rfl rfl lk_X12_34 dX12_init_73 (fun H locs hU => ?_)
  rw [e18] at hU
  refine lv_aload_n hx hb dX12_init_76 rfl (lv_at hl 0 rfl) ?_
  refine lv_bipush (v := 80) hx hb dX12_init_77 (by decide) ?_
  obtain ⟨g19, h⟩ := gd_some _ h
  obtain ⟨σ19, e19, h⟩ := lt_some h
  refine jc_newI C hU g19 (by decide) js_arI (by simp only [js_rmC]; omega) (by simp only [js_rmC]; omega) dX12_init_79 (fun H hU => ?_)
  rw [e19] at hU
  refine W.widen (k := 10) (n := 3260) (by omega) (by omega) ?_
  obtain ⟨g20, h⟩ := gd_some _ h
  obtain ⟨g20a, h⟩ := gd_some _ h
  obtain ⟨σ20, e20, h⟩ := lt_some h
  refine jc_pF C hin hU cfX12 g20 12 (by decide) (by decide) rfl rfl g20a rfl rfl lk_X12_37 dX12_init_81 (fun H locs hU => ?_)
  rw [e20] at hU
  refine lv_aload_n hx hb dX12_init_84 rfl (lv_at hl 0 rfl) ?_
  refine lv_bipush (v := 96) hx hb dX12_init_85 (by decide) ?_
  obtain ⟨g21, h⟩ := gd_some _ h
  obtain ⟨σ21, e21, h⟩ := lt_some h
  refine jc_newI C hU g21 (by decide) js_arI (by simp only [js_rmC]; omega) (by simp only [js_rmC]; omega) dX12_init_87 (fun H hU => ?_)
  rw [e21] at hU
  refine W.widen (k := 11) (n := 3356) (by omega) (by omega) ?_
  obtain ⟨g22, h⟩ := gd_some _ h
  obtain ⟨g22a, h⟩ := gd_some _ h
  obtain ⟨σ22, e22, h⟩ := lt_some h
  refine jc_pF C hin hU cfX12 g22 13 (by decide) (by decide) rfl rfl g22a rfl rfl lk_X12_40 dX12_init_89 (fun H locs hU => ?_)
  rw [e22] at hU
  refine lv_aload_n hx hb dX12_init_92 rfl (lv_at hl 0 rfl) ?_
  refine lv_bipush (v := 96) hx hb dX12_init_93 (by decide) ?_
  obtain ⟨g23, h⟩ := gd_some _ h
  obtain ⟨σ23, e23, h⟩ := lt_some h
  refine jc_newI C hU g23 (by decide) js_arI (by simp only [js_rmC]; omega) (by simp only [js_rmC]; omega) dX12_init_95 (fun H hU => ?_)
  rw [e23] at hU
  refine W.widen (k := 12) (n := 3452) (by omega) (by omega) ?_
  obtain ⟨g24, h⟩ := gd_some _ h
  obtain ⟨g24a, h⟩ := gd_some _ h
  obtain ⟨σ24, e24, h⟩ := lt_some h
  refine jc_pF C hin hU cfX12 g24 14 (by decide) (by decide) rfl rfl g24a rfl rfl lk_X12_43 dX12_init_97 (fun H locs hU => ?_)
  rw [e24] at hU
  refine lv_aload_n hx hb dX12_init_100 rfl (lv_at hl 0 rfl) ?_
  refine lv_sipush (v := 240) hx hb dX12_init_101 (by decide) ?_
  obtain ⟨g25, h⟩ := gd_some _ h
  obtain ⟨σ25, e25, h⟩ := lt_some h
  refine jc_newI C hU g25 (by decide) js_arI (by simp only [js_rmC]; omega) (by simp only [js_rmC]; omega) dX12_init_104 (fun H hU => ?_)
  rw [e25] at hU
  refine W.widen (k := 13) (n := 3692) (by omega) (by omega) ?_
  obtain ⟨g26, h⟩ := gd_some _ h
  obtain ⟨g26a, h⟩ := gd_some _ h
  obtain ⟨σ26, e26, h⟩ := lt_some h
  refine jc_pF C hin hU cfX12 g26 17 (by decide) (by decide) rfl rfl g26a rfl rfl lk_X12_46 dX12_init_106 (fun H locs hU => ?_)
  rw [e26] at hU
  refine lv_aload_n hx hb dX12_init_109 rfl (lv_at hl 0 rfl) ?_
  refine lv_sipush (v := 240) hx hb dX12_init_110 (by decide) ?_
  obtain ⟨g27, h⟩ := gd_some _ h
  obtain ⟨σ27, e27, h⟩ := lt_some h
  refine jc_newI C hU g27 (by decide) js_arI (by simp only [js_rmC]; omega) (by simp only [js_rmC]; omega) dX12_init_113 (fun H hU => ?_)
  rw [e27] at hU
  refine W.widen (k := 14) (n := 3932) (by omega) (by omega) ?_
  obtain ⟨g28, h⟩ := gd_some _ h
  obtain ⟨g28a, h⟩ := gd_some _ h
  obtain ⟨σ28, e28, h⟩ := lt_some h
  refine jc_pF C hin hU cfX12 g28 18 (by decide) (by decide) rfl rfl g28a rfl rfl lk_X12_49 dX12_init_115 (fun H locs hU => ?_)
  rw [e28] at hU
  refine lv_aload_n hx hb dX12_init_118 rfl (lv_at hl 0 rfl) ?_
  refine lv_sipush (v := 960) hx hb dX12_init_119 (by decide) ?_
  obtain ⟨g29, h⟩ := gd_some _ h
  obtain ⟨σ29, e29, h⟩ := lt_some h
  refine jc_newJ C hU g29 (by decide) js_arJ (by simp only [js_rmC]; omega) (by simp only [js_rmC]; omega) dX12_init_122 (fun H hU => ?_)
  rw [e29] at hU
  refine W.widen (k := 15) (n := 4892) (by omega) (by omega) ?_
  obtain ⟨g30, h⟩ := gd_some _ h
  obtain ⟨g30a, h⟩ := gd_some _ h
  obtain ⟨σ30, e30, h⟩ := lt_some h
  refine jc_pF C hin hU cfX12 g30 19 (by decide) (by decide) rfl rfl g30a rfl rfl lk_X12_52 dX12_init_124 (fun H locs hU => ?_)
  rw [e30] at hU
  refine lv_aload_n hx hb dX12_init_127 rfl (lv_at hl 0 rfl) ?_
  refine lv_sipush (v := 960) hx hb dX12_init_128 (by decide) ?_
  obtain ⟨g31, h⟩ := gd_some _ h
  obtain ⟨σ31, e31, h⟩ := lt_some h
  refine jc_newJ C hU g31 (by decide) js_arJ (by simp only [js_rmC]; omega) (by simp only [js_rmC]; omega) dX12_init_131 (fun H hU => ?_)
  rw [e31] at hU
  refine W.widen (k := 16) (n := 5852) (by omega) (by omega) ?_
  obtain ⟨g32, h⟩ := gd_some _ h
  obtain ⟨g32a, h⟩ := gd_some _ h
  obtain ⟨σ32, e32, h⟩ := lt_some h
  refine jc_pF C hin hU cfX12 g32 20 (by decide) (by decide) rfl rfl g32a rfl rfl lk_X12_56 dX12_init_133 (fun H locs hU => ?_)
  rw [e32] at hU
  refine lv_aload_n hx hb dX12_init_136 rfl (lv_at hl 0 rfl) ?_
  refine lv_sipush (v := 240) hx hb dX12_init_137 (by decide) ?_
  obtain ⟨g33, h⟩ := gd_some _ h
  obtain ⟨σ33, e33, h⟩ := lt_some h
  refine jc_newZ C hU g33 (by decide) js_arZ (by simp only [js_rmC]; omega) (by simp only [js_rmC]; omega) dX12_init_140 (fun H hU => ?_)
  rw [e33] at hU
  refine W.widen (k := 17) (n := 6092) (by omega) (by omega) ?_
  obtain ⟨g34, h⟩ := gd_some _ h
  obtain ⟨g34a, h⟩ := gd_some _ h
  obtain ⟨σ34, e34, h⟩ := lt_some h
  refine jc_pF C hin hU cfX12 g34 21 (by decide) (by decide) rfl rfl g34a rfl rfl lk_X12_59 dX12_init_142 (fun H locs hU => ?_)
  rw [e34] at hU
  refine lv_aload_n hx hb dX12_init_145 rfl (lv_at hl 0 rfl) ?_
  refine lv_sipush (v := 240) hx hb dX12_init_146 (by decide) ?_
  obtain ⟨g35, h⟩ := gd_some _ h
  obtain ⟨σ35, e35, h⟩ := lt_some h
  refine jc_newI C hU g35 (by decide) js_arI (by simp only [js_rmC]; omega) (by simp only [js_rmC]; omega) dX12_init_149 (fun H hU => ?_)
  rw [e35] at hU
  refine W.widen (k := 18) (n := 6332) (by omega) (by omega) ?_
  obtain ⟨g36, h⟩ := gd_some _ h
  obtain ⟨g36a, h⟩ := gd_some _ h
  obtain ⟨σ36, e36, h⟩ := lt_some h
  refine jc_pF C hin hU cfX12 g36 22 (by decide) (by decide) rfl rfl g36a rfl rfl lk_X12_63 dX12_init_151 (fun H locs hU => ?_)
  rw [e36] at hU
  refine lv_aload_n hx hb dX12_init_154 rfl (lv_at hl 0 rfl) ?_
  refine lv_sipush (v := 401) hx hb dX12_init_155 (by decide) ?_
  obtain ⟨g37, h⟩ := gd_some _ h
  obtain ⟨σ37, e37, h⟩ := lt_some h
  refine jc_newI C hU g37 (by decide) js_arI (by simp only [js_rmC]; omega) (by simp only [js_rmC]; omega) dX12_init_158 (fun H hU => ?_)
  rw [e37] at hU
  refine W.widen (k := 19) (n := 6733) (by omega) (by omega) ?_
  obtain ⟨g38, h⟩ := gd_some _ h
  obtain ⟨g38a, h⟩ := gd_some _ h
  obtain ⟨σ38, e38, h⟩ := lt_some h
  refine jc_pF C hin hU cfX12 g38 25 (by decide) (by decide) rfl rfl g38a rfl rfl lk_X12_66 dX12_init_160 (fun H locs hU => ?_)
  rw [e38] at hU
  refine lv_aload_n hx hb dX12_init_163 rfl (lv_at hl 0 rfl) ?_
  refine lv_bipush (v := 9) hx hb dX12_init_164 (by decide) ?_
  obtain ⟨g39, h⟩ := gd_some _ h
  obtain ⟨σ39, e39, h⟩ := lt_some h
  refine jc_newI C hU g39 (by decide) js_arI (by simp only [js_rmC]; omega) (by simp only [js_rmC]; omega) dX12_init_166 (fun H hU => ?_)
  rw [e39] at hU
  refine W.widen (k := 20) (n := 6742) (by omega) (by omega) ?_
  obtain ⟨g40, h⟩ := gd_some _ h
  obtain ⟨g40a, h⟩ := gd_some _ h
  obtain ⟨σ40, e40, h⟩ := lt_some h
  refine jc_pF C hin hU cfX12 g40 26 (by decide) (by decide) rfl rfl g40a rfl rfl lk_X12_69 dX12_init_168 (fun H locs hU => ?_)
  rw [e40] at hU
  refine lv_aload_n hx hb dX12_init_171 rfl (lv_at hl 0 rfl) ?_
  refine lv_bipush (v := 9) hx hb dX12_init_172 (by decide) ?_
  obtain ⟨g41, h⟩ := gd_some _ h
  obtain ⟨σ41, e41, h⟩ := lt_some h
  refine jc_newI C hU g41 (by decide) js_arI (by simp only [js_rmC]; omega) (by simp only [js_rmC]; omega) dX12_init_174 (fun H hU => ?_)
  rw [e41] at hU
  refine W.widen (k := 21) (n := 6751) (by omega) (by omega) ?_
  obtain ⟨g42, h⟩ := gd_some _ h
  obtain ⟨g42a, h⟩ := gd_some _ h
  obtain ⟨σ42, e42, h⟩ := lt_some h
  refine jc_pF C hin hU cfX12 g42 27 (by decide) (by decide) rfl rfl g42a rfl rfl lk_X12_72 dX12_init_176 (fun H locs hU => ?_)
  rw [e42] at hU
  refine lv_aload_n hx hb dX12_init_179 rfl (lv_at hl 0 rfl) ?_
  refine lv_ldc hx hb hown (ht _ lk_X12_75) dX12_init_180 ?_
  obtain ⟨g43, h⟩ := gd_some _ h
  obtain ⟨σ43, e43, h⟩ := lt_some h
  refine jc_newZ C hU g43 (by decide) js_arZ (by simp only [js_rmC]; omega) (by simp only [js_rmC]; omega) dX12_init_182 (fun H hU => ?_)
  rw [e43] at hU
  refine W.widen (k := 22) (n := 183898) (by omega) (by omega) ?_
  obtain ⟨g44, h⟩ := gd_some _ h
  obtain ⟨g44a, h⟩ := gd_some _ h
  obtain ⟨σ44, e44, h⟩ := lt_some h
  refine jc_pF C hin hU cfX12 g44 28 (by decide) (by decide) rfl rfl g44a rfl rfl lk_X12_76 dX12_init_184 (fun H locs hU => ?_)
  rw [e44] at hU
  refine lv_aload_n hx hb dX12_init_187 rfl (lv_at hl 0 rfl) ?_
  refine lv_bipush (v := 9) hx hb dX12_init_188 (by decide) ?_
  obtain ⟨g45, h⟩ := gd_some _ h
  obtain ⟨σ45, e45, h⟩ := lt_some h
  refine jc_newI C hU g45 (by decide) js_arI (by simp only [js_rmC]; omega) (by simp only [js_rmC]; omega) dX12_init_190 (fun H hU => ?_)
  rw [e45] at hU
  refine W.widen (k := 23) (n := 183907) (by omega) (by omega) ?_
  obtain ⟨g46, h⟩ := gd_some _ h
  obtain ⟨g46a, h⟩ := gd_some _ h
  obtain ⟨σ46, e46, h⟩ := lt_some h
  refine jc_pF C hin hU cfX12 g46 30 (by decide) (by decide) rfl rfl g46a rfl rfl lk_X12_79 dX12_init_192 (fun H locs hU => ?_)
  rw [e46] at hU
  refine lv_aload_n hx hb dX12_init_195 rfl (lv_at hl 0 rfl) ?_
  refine lv_iconst (v := 3) hx hb dX12_init_196 (by decide) ?_
  obtain ⟨g47, h⟩ := gd_some _ h
  obtain ⟨σ47, e47, h⟩ := lt_some h
  refine jc_newI C hU g47 (by decide) js_arI (by simp only [js_rmC]; omega) (by simp only [js_rmC]; omega) dX12_init_197 (fun H hU => ?_)
  rw [e47] at hU
  refine W.widen (k := 24) (n := 183910) (by omega) (by omega) ?_
  obtain ⟨g48, h⟩ := gd_some _ h
  obtain ⟨g48a, h⟩ := gd_some _ h
  obtain ⟨σ48, e48, h⟩ := lt_some h
  refine jc_pF C hin hU cfX12 g48 31 (by decide) (by decide) rfl rfl g48a rfl rfl lk_X12_82 dX12_init_199 (fun H locs hU => ?_)
  rw [e48] at hU
  refine lv_aload_n hx hb dX12_init_202 rfl (lv_at hl 0 rfl) ?_
  refine lv_iconst (v := 3) hx hb dX12_init_203 (by decide) ?_
  obtain ⟨g49, h⟩ := gd_some _ h
  obtain ⟨σ49, e49, h⟩ := lt_some h
  refine jc_newZ C hU g49 (by decide) js_arZ (by simp only [js_rmC]; omega) (by simp only [js_rmC]; omega) dX12_init_204 (fun H hU => ?_)
  rw [e49] at hU
  refine W.widen (k := 25) (n := 183913) (by omega) (by omega) ?_
  obtain ⟨g50, h⟩ := gd_some _ h
  obtain ⟨g50a, h⟩ := gd_some _ h
  obtain ⟨σ50, e50, h⟩ := lt_some h
  refine jc_pF C hin hU cfX12 g50 32 (by decide) (by decide) rfl rfl g50a rfl rfl lk_X12_85 dX12_init_206 (fun H locs hU => ?_)
  rw [e50] at hU
  refine lv_aload_n hx hb dX12_init_209 rfl (lv_at hl 0 rfl) ?_
  refine lv_sipush (v := 240) hx hb dX12_init_210 (by decide) ?_
  obtain ⟨g51, h⟩ := gd_some _ h
  obtain ⟨σ51, e51, h⟩ := lt_some h
  refine jc_newZ C hU g51 (by decide) js_arZ (by simp only [js_rmC]; omega) (by simp only [js_rmC]; omega) dX12_init_213 (fun H hU => ?_)
  rw [e51] at hU
  refine W.widen (k := 26) (n := 184153) (by omega) (by omega) ?_
  obtain ⟨g52, h⟩ := gd_some _ h
  obtain ⟨g52a, h⟩ := gd_some _ h
  obtain ⟨σ52, e52, h⟩ := lt_some h
  refine jc_pF C hin hU cfX12 g52 33 (by decide) (by decide) rfl rfl g52a rfl rfl lk_X12_88 dX12_init_215 (fun H locs hU => ?_)
  rw [e52] at hU
  refine lv_aload_n hx hb dX12_init_218 rfl (lv_at hl 0 rfl) ?_
  refine lv_sipush (v := 160) hx hb dX12_init_219 (by decide) ?_
  obtain ⟨g53, h⟩ := gd_some _ h
  obtain ⟨σ53, e53, h⟩ := lt_some h
  refine jc_newI C hU g53 (by decide) js_arI (by simp only [js_rmC]; omega) (by simp only [js_rmC]; omega) dX12_init_222 (fun H hU => ?_)
  rw [e53] at hU
  refine W.widen (k := 27) (n := 184313) (by omega) (by omega) ?_
  obtain ⟨g54, h⟩ := gd_some _ h
  obtain ⟨g54a, h⟩ := gd_some _ h
  obtain ⟨σ54, e54, h⟩ := lt_some h
  refine jc_pF C hin hU cfX12 g54 34 (by decide) (by decide) rfl rfl g54a rfl rfl lk_X12_91 dX12_init_224 (fun H locs hU => ?_)
  rw [e54] at hU
  refine lv_aload_n hx hb dX12_init_227 rfl (lv_at hl 0 rfl) ?_
  refine lv_ldc hx hb hown (ht _ lk_X12_94) dX12_init_228 ?_
  obtain ⟨g55, h⟩ := gd_some _ h
  obtain ⟨σ55, e55, h⟩ := lt_some h
  refine jc_newI C hU g55 (by decide) js_arI (by simp only [js_rmC]; omega) (by simp only [js_rmC]; omega) dX12_init_230 (fun H hU => ?_)
  rw [e55] at hU
  refine W.widen (k := 28) (n := 299609) (by omega) (by omega) ?_
  obtain ⟨g56, h⟩ := gd_some _ h
  obtain ⟨g56a, h⟩ := gd_some _ h
  obtain ⟨σ56, e56, h⟩ := lt_some h
  refine jc_pF C hin hU cfX12 g56 36 (by decide) (by decide) rfl rfl g56a rfl rfl lk_X12_95 dX12_init_232 (fun H locs hU => ?_)
  rw [e56] at hU
  refine lv_aload_n hx hb dX12_init_235 rfl (lv_at hl 0 rfl) ?_
  refine lv_sipush (v := 1201) hx hb dX12_init_236 (by decide) ?_
  obtain ⟨g57, h⟩ := gd_some _ h
  obtain ⟨σ57, e57, h⟩ := lt_some h
  refine jc_newZ C hU g57 (by decide) js_arZ (by simp only [js_rmC]; omega) (by simp only [js_rmC]; omega) dX12_init_239 (fun H hU => ?_)
  rw [e57] at hU
  refine W.widen (k := 29) (n := 300810) (by omega) (by omega) ?_
  obtain ⟨g58, h⟩ := gd_some _ h
  obtain ⟨g58a, h⟩ := gd_some _ h
  obtain ⟨σ58, e58, h⟩ := lt_some h
  refine jc_pF C hin hU cfX12 g58 37 (by decide) (by decide) rfl rfl g58a rfl rfl lk_X12_98 dX12_init_241 (fun H locs hU => ?_)
  rw [e58] at hU
  refine lv_aload_n hx hb dX12_init_244 rfl (lv_at hl 0 rfl) ?_
  obtain ⟨g59, h⟩ := gd_some _ h
  obtain ⟨g60, h⟩ := gd_some _ h
  refine jc_gR C hU cfX12 g59 0 (by decide) (by decide) g60 lk_X12_9 dX12_init_245 ?_
  refine lv_iconst (v := 0) hx hb dX12_init_248 (by decide) ?_
  refine lv_iconst (v := 2) hx hb dX12_init_249 (by decide) ?_
  obtain ⟨g61, h⟩ := gd_some _ h
  obtain ⟨g61a, h⟩ := gd_some _ h
  obtain ⟨σ61, e61, h⟩ := lt_some h
  refine jc_iast C hU g61 g61a dX12_init_250 (fun H locs hU => ?_)
  rw [e61] at hU
  refine lv_aload_n hx hb dX12_init_251 rfl (lv_at hl 0 rfl) ?_
  obtain ⟨g62, h⟩ := gd_some _ h
  obtain ⟨g63, h⟩ := gd_some _ h
  refine jc_gR C hU cfX12 g62 0 (by decide) (by decide) g63 lk_X12_9 dX12_init_252 ?_
  refine lv_iconst (v := 1) hx hb dX12_init_255 (by decide) ?_
  refine lv_iconst (v := 2) hx hb dX12_init_256 (by decide) ?_
  obtain ⟨g64, h⟩ := gd_some _ h
  obtain ⟨g64a, h⟩ := gd_some _ h
  obtain ⟨σ64, e64, h⟩ := lt_some h
  refine jc_iast C hU g64 g64a dX12_init_257 (fun H locs hU => ?_)
  rw [e64] at hU
  refine lv_aload_n hx hb dX12_init_258 rfl (lv_at hl 0 rfl) ?_
  obtain ⟨g65, h⟩ := gd_some _ h
  obtain ⟨g66, h⟩ := gd_some _ h
  refine jc_gR C hU cfX12 g65 0 (by decide) (by decide) g66 lk_X12_9 dX12_init_259 ?_
  refine lv_iconst (v := 2) hx hb dX12_init_262 (by decide) ?_
  refine lv_iconst (v := 1) hx hb dX12_init_263 (by decide) ?_
  obtain ⟨g67, h⟩ := gd_some _ h
  obtain ⟨g67a, h⟩ := gd_some _ h
  obtain ⟨σ67, e67, h⟩ := lt_some h
  refine jc_iast C hU g67 g67a dX12_init_264 (fun H locs hU => ?_)
  rw [e67] at hU
  refine lv_iconst (v := 0) hx hb dX12_init_265 (by decide) ?_
  refine lv_istore_n (lv' := [(1, .int 0), (0, .ref (B + x0))]) hx hb dX12_init_266 rfl hl (by decide) rfl (fun ls hl => ?_)
  refine W.widen (k := 29 + 0 * 0) (n := 300810 + 0 * 0) (by omega) (by omega) ?_
  exact uX12_init_267 C hr hk hin 5 0 (by omega) _ _ _ _ _ _ h H locs hU ls (lv_sub hl [1, 0] rfl)
