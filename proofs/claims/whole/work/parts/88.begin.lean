/-! the two constructors, run -/
def st_all : Option (Nat × Nat × js_S) := bd_ (fX11_initc 1 1 (zz_ js_z 1)) fun r σ => bd_ (fX12_initc 390 390 (zz_ σ 390)) fun r2 σ2 => some (r, r2, σ2)
def a0_ (f : Nat) : Nat := if f = 2 then 1 else 2
def ck_ (q : Nat × Nat × js_S) : Bool := decide (q.1 = 389) && (decide (q.2.1 = 419) && (((List.range 391).all fun o => (List.range (bw2_ o)).all fun j => decide (q.2.2.2.2 o j = R0_ o j)) && (((List.range 128).all fun k => decide (q.2.2.1 4 k = nI (sa_ a0_ (nI k)))) && (([2, 9, 11, 13, 15].all fun j => decide (q.2.2.1 1 j = 0)) && (decide (q.2.2.1 2 5 = 0) && (decide (q.2.2.1 82 2 = 0) && (([6, 8, 15].all fun j => decide (q.2.2.1 390 j = 0)) && (((List.range 4).all fun i => decide (q.2.2.1 (34 + 2 * i) 1 = 1) && (decide (q.2.2.1 (35 + 2 * i) 0 = 122) && (decide (q.2.2.1 395 (96 * i) = 1) && decide (q.2.2.1 395 (96 * i + 1) = 122)))) && ((List.range 3).all fun f => decide (q.2.2.1 391 f = nI (a0_ f)))))))))))
set_option maxRecDepth 100000 in
theorem st_ck : st_all.map ck_ = some true := by decide +kernel
