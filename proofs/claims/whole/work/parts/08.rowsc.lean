/-! rows for what makes cells: the count of cells is part of the state, no word on the references -/
def zz_ (σ : js_S) (o : Nat) : js_S := (fun a b => if a = o then 0 else σ.1 a b, fun a b => if a = o then 0 else σ.2.1 a b, fun a b => if a = o then 0 else σ.2.2 a b)
def obB_ (n k o : Nat) : Bool := decide (0 < o) && decide (o ≤ n) && decide (kd_ o = k)
theorem obB_ob {n k o : Nat} (h : obB_ n k o = true) : ob_ n k o := by
  unfold obB_ at h
  simp only [Bool.and_eq_true, decide_eq_true_eq] at h
  exact ⟨h.1.1, h.1.2, h.2⟩
def js_U (D : va_G) (B : Nat) (g : js_G) (n : Nat) (σ : js_S) (s : State) (H : Heap) (locs : List Loc) : Prop :=
  va_P D js_cls (en_ B g σ n) H ∧ va_S (fun q => B < q) s.heap H locs ∧ H.size = B + n + 1
def js_CC (D : va_G) (g : js_G) (p : Program) (m : MethodId) (c : Code) (cc : ByteArray) (nL : Nat) (s : State) (args : Array Value) (own : String) : Prop := js_C D g p m c cc nL s args own ∧ va_AO RX9 s
def js_rmC (k mc ms : Nat) : Room := { frames := k + 1, cells := mc, slots := ms, locals := 50 * (k + 1) }
def js_PC (D : va_G) (B : Nat) (g : js_G) (n : Nat) (σ : js_S) (av : List Value) : Array Value → State → Prop := va_Pc av (fun U => js_Nw U ∧ va_AO RX9 U ∧ U.heap.size = B + n + 1 ∧ va_P D js_cls (en_ B g σ n) U.heap ∧ va_K D js_cls (js_tys g) U)
def js_QC (D : va_G) (B : Nat) (g : js_G) (n : Nat) (σ : js_S) : Array Value → State → Outcome → State → Prop := va_Qv (fun (u : Nat × js_S) => u = (n, σ)) (fun u t => t.heap.size = B + u.1 + 1 ∧ va_P D js_cls (en_ B g u.2 u.1) t.heap) (fun q => B < q)
def js_MC (l : Launch) (D : va_G) (B : Nat) (g : js_G) (y : MethodName) (b : ByteArray) (nL k mc ms n : Nat) (av : List Value) (σ : js_S) (n' : Nat) (σ' : js_S) : Prop :=
  Met l y (js_ws y b nL none) (js_rmC k mc ms) (js_PC D B g n σ av) (js_QC D B g n' σ') mc ms (fun q => B < q)
theorem js_blindC {D : va_G} {B : Nat} {g : js_G} {n : Nat} {σ : js_S} {av : List Value} : FrameBlind (js_PC D B g n σ av) := by
  intro a U f mk q
  obtain ⟨q0, qN, qA, qS, qP, qK⟩ := q
  exact ⟨q0, fun w hw => va_Nw.same (u := U) (U := U.calling f mk a) (js_isN_on (List.mem_filter.mp hw).2) rfl (qN w hw), va_AO.moved (u := U) (U := U.calling f mk a) (Vm.Alike.refl U.vm) qA, qS, qP, va_K.moved (u := U) (U := U.calling f mk a) (Vm.Alike.refl U.vm) qK⟩
theorem en_zz {B n : Nat} {g : js_G} {σ : js_S} : en_ B g (zz_ σ (n + 1)) n = en_ B g σ n := by
  unfold en_
  apply List.map_congr_left
  intro k hk
  have hk := List.mem_range.mp hk
  have h : ¬ k + 1 = n + 1 := by omega
  rw [ce_same (σ := σ) (σ' := zz_ σ (n + 1)) (by funext b; simp only [zz_, if_neg h]) (by funext b; simp only [zz_, if_neg h]) (by funext b; simp only [zz_, if_neg h])]
section JC
variable {p : Program} {l : Launch} {e : Env} {R : Room} {s : State} {m : MethodId} {args : Array Value} {below : List Frame} {meth : Method} {c : Code} {H : Heap} {locs : List Loc} {cells slots : Nat} {Q : State → Prop}
variable {cc : ByteArray} {pc : Nat} {ls : Array Slot} {rest st : List Value} {D : va_G} {B n nL : Nat} {g : js_G} {σ σ' : js_S} {own : String} {ci index N o : Nat} {Cn : String} {T : u_T} {ty : Nat → FieldType}
theorem jc_push {H1 : Heap} (hU : js_U D B g n σ s H locs) (z1 : H1.size = B + (n + 1) + 1) (o1 : ∀ q, q < B + (n + 1) → H1[q]? = H[q]?) (hv : va_at D js_cls (B + (n + 1), ce_ B g (zz_ σ (n + 1)) (n + 1)) H1) : js_U D B g (n + 1) (zz_ σ (n + 1)) s H1 locs := by
  obtain ⟨hP, hS, hz⟩ := hU
  refine ⟨?_, ⟨by have := hS.1; omega, fun q h1 h2 => ?_, hS.2.2⟩, z1⟩
  · rw [en_push, en_zz]
    refine (hP.kept (fun k x hx => o1 x.1 ?_)).app (fun k x hx => ?_)
    · have := (hP k x hx).lt
      omega
    · have hk : k < 1 := (List.getElem?_eq_some_iff.mp hx).1
      rw [show k = 0 by omega] at hx
      cases hx
      exact hv
  · rw [o1 q (by have := hS.1; omega)]
    exact hS.2.1 q h1 h2
theorem jc_new (C : js_CC D g p m c cc nL s args own) (hU : js_U D B g n σ s H locs) (cf : js_cf ci Cn T ty N) (hd : ∀ j, j < N → defaultValue (ty j) = if fk_ ci j = 30 then Value.int 0 else Value.null) (hk : kd_ (n + 1) = ci) (hl : Cond.classLink own index Cn ∈ js_W) (h1 : Cond.instantiable Cn N ∈ js_W) (h2 : Cond.initialized Cn ∈ js_W) (hcells : cells + 1 ≤ R.cells) (hslots : slots + N ≤ R.slots) (hdg : decode cc pc = .ok (.new index, 3))
    (kk : ∀ H, js_U D B g (n + 1) (zz_ σ (n + 1)) s H locs → W p l e R s m args below meth c H locs (cells + 1) (slots + N) Q (F0 m (pc + 3) ls (.ref (B + (n + 1)) :: rest))) : W p l e R s m args below meth c H locs cells slots Q (F0 m pc ls rest) := by
  obtain ⟨⟨hx, hb, hml, hown, ht, hK, hNw⟩, hao⟩ := C
  obtain ⟨hc, hN, hci, hin, hty, hnm⟩ := cf
  have hKn := hK.1 ci _ hc
  refine W.newcK (h := B + (n + 1)) hx hb hown (ht _ hl) (ht _ h1) (ht _ h2) rfl hdg hcells hslots hKn.2.1 (by have := hU.2.2; omega) fun H1 kC hkC e1 z1 o1 => ?_
  refine kk H1 (jc_push hU z1 o1 ?_)
  rw [ce_obj hk hci]
  refine ⟨_, hc, (u_born ty ht hin hKn hkC e1 hty).to (fun j hj => ?_)⟩
  have hj2 : j < nf_ ci := by rw [← hN]; exact hj
  show defaultValue (ty j) = vp_V (co_ B (zz_ σ (n + 1)) (n + 1) ci) j
  unfold vp_V
  rw [List.getD_eq_getElem?_getD, co_at hj2, hd j hj]
  unfold fv_
  split
  · simp [zz_]
  · simp [zz_, rf_, va_rf]
theorem jc_newI (C : js_CC D g p m c cc nL s args own) (hU : js_U D B g n σ s H locs) {x : Int32} {S : Nat} (hg : (decide (0 ≤ x) && decide (kd_ (n + 1) = 20) && decide (ln_ (n + 1) = x.toNatClampNeg) && decide (x.toNatClampNeg ≤ S)) = true) (hS : S ≤ 200000) (h1 : Cond.arrayClass .int ∈ js_W) (hcells : cells + 1 ≤ R.cells) (hslots : slots + S ≤ R.slots) (hdg : decode cc pc = .ok (.newarray .int, 2))
    (kk : ∀ H, js_U D B g (n + 1) (zz_ σ (n + 1)) s H locs → W p l e R s m args below meth c H locs (cells + 1) (slots + S) Q (F0 m (pc + 2) ls (.ref (B + (n + 1)) :: rest))) : W p l e R s m args below meth c H locs cells slots Q (F0 m pc ls (.int x :: rest)) := by
  obtain ⟨⟨hx, hb, hml, hown, ht, hK, hNw⟩, hao⟩ := C
  simp only [Bool.and_eq_true, decide_eq_true_eq] at hg
  obtain ⟨⟨⟨g1, g2⟩, g3⟩, g4⟩ := hg
  refine va_newaK (atype := .int) (N := x.toNatClampNeg) (h := B + (n + 1)) hx hb (ht _ h1) rfl hdg rfl (js_nneg g1) rfl (by show _ * 4 ≤ _; omega) hcells (by omega) (by have := hU.2.2; omega) fun H1 cA e1 z1 o1 hAr hNm => ?_
  have e : cA = g.1 := Option.some.inj (hNm.symm.trans (hK.2 0 _ rfl).2)
  subst e
  refine W.widen (k := cells + 1) (n := slots + S) (Nat.le_refl _) (by omega) (kk H1 (jc_push hU z1 o1 ?_))
  rw [ce_i g2]
  show H1[B + (n + 1)]? = some (arrV g.1 (ln_ (n + 1)) (fun j => .int ((zz_ σ (n + 1)).1 (n + 1) j)))
  rw [e1, g3]
  congr 2
  funext j
  simp [zz_, newarray.typeOf, defaultValue]
theorem jc_newJ (C : js_CC D g p m c cc nL s args own) (hU : js_U D B g n σ s H locs) {x : Int32} {S : Nat} (hg : (decide (0 ≤ x) && decide (kd_ (n + 1) = 21) && decide (ln_ (n + 1) = x.toNatClampNeg) && decide (x.toNatClampNeg ≤ S)) = true) (hS : S ≤ 200000) (h1 : Cond.arrayClass .long ∈ js_W) (hcells : cells + 1 ≤ R.cells) (hslots : slots + S ≤ R.slots) (hdg : decode cc pc = .ok (.newarray .long, 2))
    (kk : ∀ H, js_U D B g (n + 1) (zz_ σ (n + 1)) s H locs → W p l e R s m args below meth c H locs (cells + 1) (slots + S) Q (F0 m (pc + 2) ls (.ref (B + (n + 1)) :: rest))) : W p l e R s m args below meth c H locs cells slots Q (F0 m pc ls (.int x :: rest)) := by
  obtain ⟨⟨hx, hb, hml, hown, ht, hK, hNw⟩, hao⟩ := C
  simp only [Bool.and_eq_true, decide_eq_true_eq] at hg
  obtain ⟨⟨⟨g1, g2⟩, g3⟩, g4⟩ := hg
  refine va_newaK (atype := .long) (N := x.toNatClampNeg) (h := B + (n + 1)) hx hb (ht _ h1) rfl hdg rfl (js_nneg g1) rfl (by show _ * 8 ≤ _; omega) hcells (by omega) (by have := hU.2.2; omega) fun H1 cA e1 z1 o1 hAr hNm => ?_
  have e : cA = g.2.1 := Option.some.inj (hNm.symm.trans (hK.2 1 _ rfl).2)
  subst e
  refine W.widen (k := cells + 1) (n := slots + S) (Nat.le_refl _) (by omega) (kk H1 (jc_push hU z1 o1 ?_))
  rw [ce_j g2]
  show H1[B + (n + 1)]? = some (arrV g.2.1 (ln_ (n + 1)) (fun j => .long ((zz_ σ (n + 1)).2.1 (n + 1) j)))
  rw [e1, g3]
  congr 2
  funext j
  simp [zz_, newarray.typeOf, defaultValue]
theorem jc_newZ (C : js_CC D g p m c cc nL s args own) (hU : js_U D B g n σ s H locs) {x : Int32} {S : Nat} (hg : (decide (0 ≤ x) && decide (kd_ (n + 1) = 22) && decide (ln_ (n + 1) = x.toNatClampNeg) && decide (x.toNatClampNeg ≤ S)) = true) (hS : S ≤ 200000) (h1 : Cond.arrayClass .boolean ∈ js_W) (hcells : cells + 1 ≤ R.cells) (hslots : slots + S ≤ R.slots) (hdg : decode cc pc = .ok (.newarray .boolean, 2))
    (kk : ∀ H, js_U D B g (n + 1) (zz_ σ (n + 1)) s H locs → W p l e R s m args below meth c H locs (cells + 1) (slots + S) Q (F0 m (pc + 2) ls (.ref (B + (n + 1)) :: rest))) : W p l e R s m args below meth c H locs cells slots Q (F0 m pc ls (.int x :: rest)) := by
  obtain ⟨⟨hx, hb, hml, hown, ht, hK, hNw⟩, hao⟩ := C
  simp only [Bool.and_eq_true, decide_eq_true_eq] at hg
  obtain ⟨⟨⟨g1, g2⟩, g3⟩, g4⟩ := hg
  refine va_newaK (atype := .boolean) (N := x.toNatClampNeg) (h := B + (n + 1)) hx hb (ht _ h1) rfl hdg rfl (js_nneg g1) rfl (by show _ * 1 ≤ _; omega) hcells (by omega) (by have := hU.2.2; omega) fun H1 cA e1 z1 o1 hAr hNm => ?_
  have e : cA = g.2.2.1 := Option.some.inj (hNm.symm.trans (hK.2 2 _ rfl).2)
  subst e
  refine W.widen (k := cells + 1) (n := slots + S) (Nat.le_refl _) (by omega) (kk H1 (jc_push hU z1 o1 ?_))
  rw [ce_z g2]
  show H1[B + (n + 1)]? = some (arrV g.2.2.1 (ln_ (n + 1)) (fun j => .int ((zz_ σ (n + 1)).1 (n + 1) j)))
  rw [e1, g3]
  congr 2
  funext j
  simp [zz_, newarray.typeOf, defaultValue]
theorem jc_anew (C : js_CC D g p m c cc nL s args own) (hU : js_U D B g n σ s H locs) {x : Int32} {S : Nat} (hg : (decide (0 ≤ x) && decide (kd_ (n + 1) = 23) && decide (ln_ (n + 1) = x.toNatClampNeg) && decide (x.toNatClampNeg ≤ S)) = true) (hS : S ≤ 200000) (hl : Cond.classLink own index RX9 ∈ js_W) (hcells : cells + 1 ≤ R.cells) (hslots : slots + S ≤ R.slots) (hdg : decode cc pc = .ok (.anewarray index, 3))
    (kk : ∀ H, js_U D B g (n + 1) (zz_ σ (n + 1)) s H locs → W p l e R s m args below meth c H locs (cells + 1) (slots + S) Q (F0 m (pc + 3) ls (.ref (B + (n + 1)) :: rest))) : W p l e R s m args below meth c H locs cells slots Q (F0 m pc ls (.int x :: rest)) := by
  obtain ⟨⟨hx, hb, hml, hown, ht, hK, hNw⟩, hao⟩ := C
  simp only [Bool.and_eq_true, decide_eq_true_eq] at hg
  obtain ⟨⟨⟨g1, g2⟩, g3⟩, g4⟩ := hg
  have hz := hU.2.2
  refine W.anew hx hb hown (ht _ hl) (va_AO.use hao) rfl hdg rfl (js_nneg g1) (by omega) hcells (by omega) fun cA kA comp a1 a2 a3 a4 => ?_
  have e : cA = g.2.2.2 := by
    obtain ⟨_, _, _, _, _, q⟩ := (hK.2 3 _ rfl).2
    exact Option.some.inj (a1.symm.trans q)
  subst e
  refine W.eq (g2 := F0 m (pc + 3) ls (.ref (B + (n + 1)) :: rest)) (by rw [hz]; rfl) ?_
  refine W.widen (k := cells + 1) (n := slots + S) (Nat.le_refl _) (by omega) (kk _ (jc_push hU (by rw [Array.size_push, hz]; omega) (fun q hq => ?_) ?_))
  · rw [Array.getElem?_push, if_neg (by omega)]
  · rw [ce_t g2]
    show (H.push _)[B + (n + 1)]? = some (arrV g.2.2.2 (ln_ (n + 1)) (fun j => va_rf (rf_ B ((zz_ σ (n + 1)).2.2 (n + 1) j))))
    rw [Array.getElem?_push, if_pos (by omega), arrV_new, g3]
    congr 2
    funext j
    simp [zz_, rf_, va_rf]
theorem jc_gI (C : js_CC D g p m c cc nL s args own) (hU : js_U D B g n σ s H locs) (cf : js_cf ci Cn T ty N) (ho : obB_ n ci o = true) (k : Nat) (hk : k < N) (hf : fk_ ci k = 30) (hl : Cond.fieldLink own index (T k).1 (T k).2.1 (T k).2.2.1 ∈ js_W) (hdg : decode cc pc = .ok (.getfield index, 3))
    (kk : W p l e R s m args below meth c H locs cells slots Q (F0 m (pc + 3) ls (.int (σ.1 o k) :: rest))) : W p l e R s m args below meth c H locs cells slots Q (F0 m pc ls (.ref (B + o) :: rest)) := by
  obtain ⟨⟨hx, hb, hml, hown, ht, hK, hNw⟩, hao⟩ := C
  obtain ⟨hc, hN, hci, hin, -, -⟩ := cf
  have ho := obB_ob ho
  refine va_get (D := D) hx hb ht hin hown hK hU.1 (o - 1) (fs := co_ B σ o ci) ?_ hc k hk (ht _ hl) (fun _ h => h) (v := .int (σ.1 o k)) ?_ hdg kk
  · rw [en_at ho.1 ho.2.1, ce_obj ho.2.2 hci]
  · rw [co_at (by rw [← hN]; exact hk), hf]
    rfl
theorem jc_gR (C : js_CC D g p m c cc nL s args own) (hU : js_U D B g n σ s H locs) (cf : js_cf ci Cn T ty N) (ho : obB_ n ci o = true) (k : Nat) (hk : k < N) (hf : fk_ ci k ≠ 30) (hv : 0 < σ.2.2 o k) (hl : Cond.fieldLink own index (T k).1 (T k).2.1 (T k).2.2.1 ∈ js_W) (hdg : decode cc pc = .ok (.getfield index, 3))
    (kk : W p l e R s m args below meth c H locs cells slots Q (F0 m (pc + 3) ls (.ref (B + σ.2.2 o k) :: rest))) : W p l e R s m args below meth c H locs cells slots Q (F0 m pc ls (.ref (B + o) :: rest)) := by
  obtain ⟨⟨hx, hb, hml, hown, ht, hK, hNw⟩, hao⟩ := C
  obtain ⟨hc, hN, hci, hin, -, -⟩ := cf
  have ho := obB_ob ho
  refine va_get (D := D) hx hb ht hin hown hK hU.1 (o - 1) (fs := co_ B σ o ci) ?_ hc k hk (ht _ hl) (fun _ h => h) (v := .ref (B + σ.2.2 o k)) ?_ hdg kk
  · rw [en_at ho.1 ho.2.1, ce_obj ho.2.2 hci]
  · rw [co_at (by rw [← hN]; exact hk)]
    unfold fv_
    rw [if_neg hf, rf_pos hv]
theorem jc_set {H1 : Heap} {k : Nat} (hU : js_U D B g n σ s H locs) (ho : ob_ n ci o) (hs : ∀ a, a ≠ o → ce_ B g σ' a = ce_ B g σ a) (he : va_at D js_cls (B + o, ce_ B g σ' o) H1) (z : H1.size = H.size) (oq : ∀ q : Nat, q ≠ B + o → H1[q]? = H[q]?) : js_U D B g n σ' s H1 (locs ++ [⟨B + o, k⟩]) := by
  refine ⟨?_, hU.2.1.put z oq (by show B < B + o; have := ho.1; omega), by rw [z]; exact hU.2.2⟩
  have h := hU.1.set (en_D (B := B) (g := g) (σ := σ) (n := n)) (en_at ho.1 ho.2.1) he oq
  rw [en_set ho.1 ho.2.1 hs] at h
  exact h
theorem jc_pI (C : js_CC D g p m c cc nL s args own) (hU : js_U D B g n σ s H locs) (cf : js_cf ci Cn T ty N) (ho : obB_ n ci o = true) (k : Nat) (hk : k < N) (hf : fk_ ci k = 30) (hfin : (T k).2.2.2 = false) {x : Int32} (hn : narrow (ty k) (.int x) = .int x) (hfit : fits (ty k) (.int x) = true) (hl : Cond.fieldLink own index (T k).1 (T k).2.1 (T k).2.2.1 ∈ js_W) (hdg : decode cc pc = .ok (.putfield index, 3))
    (kk : ∀ H locs, js_U D B g n (uI_ σ o k x) s H locs → W p l e R s m args below meth c H locs cells slots Q (F0 m (pc + 3) ls rest)) : W p l e R s m args below meth c H locs cells slots Q (F0 m pc ls (.int x :: .ref (B + o) :: rest)) := by
  obtain ⟨⟨hx, hb, hml, hown, ht, hK, hNw⟩, hao⟩ := C
  obtain ⟨hc, hN, hci, hin, hty, hnm⟩ := cf
  have ho := obB_ob ho
  have hkk : k < nf_ ci := by rw [← hN]; exact hk
  have he : (en_ B g σ n)[o - 1]? = some (B + o, .inr (ci, co_ B σ o ci)) := by rw [en_at ho.1 ho.2.1, ce_obj ho.2.2 hci]
  have hap := va_apart (own := own) ht hin ty hty hnm hK hc
  obtain ⟨r, h1, cell, q1, q2, q3, q4⟩ := hU.1 (o - 1) _ he
  have hr : r = (Cn, T, N) := Option.some.inj (h1.symm.trans hc)
  subst hr
  obtain ⟨hS, hfc, kC, hkC, hkind⟩ := hK.1 ci _ hc
  obtain ⟨cf, kf, fi, f, hi, hsl⟩ := hS k hk
  have hlay := ht _ (hin _ (u_in_lay hk))
  unfold u_lay at hlay
  rw [if_neg (by rw [hfin]; decide)] at hlay
  have hst := (u_facts hfc hkC (u_lays ht hin hk) hi).1
  have h6 := u_store hfc hkC hkind hlay hi (hty k hk) hn hfit
  refine W.putK hx hb (f := f) ⟨hown, ht _ hl, ⟨_, _, _, hi⟩, hst⟩ (by rw [q2]; exact h6) q1 q3 (by rw [hsl]; exact k2_hasslot (q4 k hk)) rfl rfl hdg fun H' e1 e2 e3 => ?_
  rw [hsl] at e1 ⊢
  refine kk H' _ (jc_set hU ho (fun a ha => ce_uI ha) ?_ e2 e3)
  rw [ce_obj ho.2.2 hci, co_uI hkk hf]
  exact ⟨_, hc, t_OB.to (V := updV (vp_V (co_ B σ o ci)) k (.int x)) ⟨_, e1, q2, q3, t_set q4 hap hk (.int x)⟩ (fun j _ => vp_updV_set (by rw [co_len]; exact hkk) (.int x) j)⟩
theorem jc_pF (C : js_CC D g p m c cc nL s args own) (hin2 : meth.name = "<init>") (hU : js_U D B g n σ s H locs) (cf : js_cf ci Cn T ty N) (ho : obB_ n ci o = true) (k : Nat) (hk : k < N) (hf : fk_ ci k ≠ 30) (hfin : (T k).2.2.2 = true) (hdecl : (T k).1 = own) {x : Nat} (hx0 : 0 < x) (hn : narrow (ty k) (.ref (B + x)) = .ref (B + x)) (hfit : fits (ty k) (.ref (B + x)) = true) (hl : Cond.fieldLink own index (T k).1 (T k).2.1 (T k).2.2.1 ∈ js_W) (hdg : decode cc pc = .ok (.putfield index, 3))
    (kk : ∀ H locs, js_U D B g n (uR_ σ o k x) s H locs → W p l e R s m args below meth c H locs cells slots Q (F0 m (pc + 3) ls rest)) : W p l e R s m args below meth c H locs cells slots Q (F0 m pc ls (.ref (B + x) :: .ref (B + o) :: rest)) := by
  obtain ⟨⟨hx, hb, hml, hown, ht, hK, hNw⟩, hao⟩ := C
  obtain ⟨hc, hN, hci, hin, hty, hnm⟩ := cf
  have ho := obB_ob ho
  have hkk : k < nf_ ci := by rw [← hN]; exact hk
  have he : (en_ B g σ n)[o - 1]? = some (B + o, .inr (ci, co_ B σ o ci)) := by rw [en_at ho.1 ho.2.1, ce_obj ho.2.2 hci]
  have hap := va_apart (own := own) ht hin ty hty hnm hK hc
  obtain ⟨r, h1, cell, q1, q2, q3, q4⟩ := hU.1 (o - 1) _ he
  have hr : r = (Cn, T, N) := Option.some.inj (h1.symm.trans hc)
  subst hr
  obtain ⟨hS, hfc, kC, hkC, hkind⟩ := hK.1 ci _ hc
  obtain ⟨cf, kf, fi, f, hi, hsl⟩ := hS k hk
  have hlay := ht _ (hin _ (u_in_lay hk))
  unfold u_lay at hlay
  rw [if_pos hfin] at hlay
  have hst := (u_facts hfc hkC (u_lays ht hin hk) hi).1
  have hcf : m.cls = cf := by
    obtain ⟨_, _, c', _, _, _, -, -, hf', -, -, -, hown2, -⟩ := Cond.laysFinal_spec hlay
    have e1 : c' = cf := by have := hi.symm.trans hf'; simp at this; exact this.1.symm
    rw [hdecl] at hown2
    rw [← e1]; exact Option.some.inj (hown.symm.trans hown2)
  have h6 := u_fits hfc hkC hkind (Or.inr hlay) hi (hty k hk) hn hfit
  refine W.putFinK hx hb hown (ht _ hl) hi hst hcf hin2 (by rw [q2]; exact h6) q1 q3 (by rw [hsl]; exact k2_hasslot (q4 k hk)) rfl rfl hdg fun H' e1 e2 e3 => ?_
  rw [hsl] at e1 ⊢
  refine kk H' _ (jc_set hU ho (fun a ha => ce_uR ha) ?_ e2 e3)
  rw [ce_obj ho.2.2 hci, co_uR hkk hf, rf_pos hx0]
  exact ⟨_, hc, t_OB.to (V := updV (vp_V (co_ B σ o ci)) k (.ref (B + x))) ⟨_, e1, q2, q3, t_set q4 hap hk (.ref (B + x))⟩ (fun j _ => vp_updV_set (by rw [co_len]; exact hkk) (.ref (B + x)) j)⟩
theorem jc_iast (C : js_CC D g p m c cc nL s args own) (hU : js_U D B g n σ s H locs) (ho : obB_ n 20 o = true) {i x : Int32} (hi : ib_ i (ln_ o) = true) (hdg : decode cc pc = .ok (.iastore, 1))
    (kk : ∀ H locs, js_U D B g n (uI_ σ o i.toNatClampNeg x) s H locs → W p l e R s m args below meth c H locs cells slots Q (F0 m (pc + 1) ls rest)) : W p l e R s m args below meth c H locs cells slots Q (F0 m pc ls (.int x :: .int i :: .ref (B + o) :: rest)) := by
  obtain ⟨⟨hx, hb, hml, hown, ht, hK, hNw⟩, hao⟩ := C
  have ho := obB_ob ho
  have he : (en_ B g σ n)[o - 1]? = some (B + o, .inl (g.1, ln_ o, .inl (σ.1 o))) := by rw [en_at ho.1 ho.2.1, ce_i ho.2.2]
  refine W.iast hx hb (hU.1 (o - 1) _ he) ((hK.2 0 _ rfl).1 (ln_ o) (fun j => .int (σ.1 o j))) (fun q => by cases q) (by show ¬ (i < 0 ∨ (arrV _ _ _).slots.size ≤ _); rw [arrV_size]; exact ib_in hi) rfl rfl hdg fun H1 e z oq => ?_
  refine kk H1 _ (jc_set hU ho (fun a ha => ce_uI ha) ?_ z oq)
  rw [ce_i ho.2.2]
  show H1[B + o]? = some (vp_cell _ _)
  rw [e, vp_cell_i, vp_cell_i, arrV_store]
  congr 2
  funext q
  by_cases hq : q = i.toNatClampNeg
  · subst hq
    simp [updV, uI_]
  · simp [updV, uI_, hq]
theorem jc_aast (C : js_CC D g p m c cc nL s args own) (hU : js_U D B g n σ s H locs) (ho : obB_ n 23 o = true) {v : Nat} (hv : obB_ n 9 v = true) {i : Int32} (hi : ib_ i (ln_ o) = true) (hdg : decode cc pc = .ok (.aastore, 1))
    (kk : ∀ H locs, js_U D B g n (uR_ σ o i.toNatClampNeg v) s H locs → W p l e R s m args below meth c H locs cells slots Q (F0 m (pc + 1) ls rest)) : W p l e R s m args below meth c H locs cells slots Q (F0 m pc ls (.ref (B + v) :: .int i :: .ref (B + o) :: rest)) := by
  obtain ⟨⟨hx, hb, hml, hown, ht, hK, hNw⟩, hao⟩ := C
  have ho := obB_ob ho
  have hv := obB_ob hv
  have he : (en_ B g σ n)[o - 1]? = some (B + o, .inl (g.2.2.2, ln_ o, .inr (.inr (.inr (.inr (fun i => rf_ B (σ.2.2 o i))))))) := by rw [en_at ho.1 ho.2.1, ce_t ho.2.2]
  have he2 : (en_ B g σ n)[v - 1]? = some (B + v, .inr (9, co_ B σ v 9)) := by rw [en_at hv.1 hv.2.1, ce_obj hv.2.2 (by omega)]
  have hin := ib_in hi
  have hlt : i.toNatClampNeg < ln_ o := Nat.not_le.mp fun q => hin (Or.inr q)
  have h0 : ¬ i < 0 := fun q => hin (Or.inl q)
  obtain ⟨r', hr', cellV, g1, g2, g3, -⟩ := hU.1 (v - 1) _ he2
  have hcls := (hK.1 9 (RX9, TX9, 2) rfl).2
  obtain ⟨kA, comp, k1, k2, k3, -⟩ := (hK.2 3 _ rfl).2
  have hcomp : comp = D.1 9 := Option.some.inj (k3.symm.trans hcls.1)
  subst hcomp
  obtain ⟨kC, hkC, -⟩ := hcls.2
  refine W.aast hx hb (hU.1 (o - 1) _ he) (fun q h => by cases h) (fun h => by cases h) k1 k2 rfl hkC ⟨h0, by show _ < (arrV _ _ _).slots.size; rw [arrV_size]; exact hlt⟩ g1 (fun q h => by rw [g3] at h; cases h) (by rw [g2]; exact hkC) (by rw [g2]; exact va_assign hcls) rfl rfl hdg fun H1 e z oq => ?_
  refine kk H1 _ (jc_set hU ho (fun a ha => ce_uR ha) ?_ z oq)
  rw [ce_t ho.2.2]
  show H1[B + o]? = some (vp_cell _ _)
  rw [e, vp_cell_q, vp_cell_q, arrV_store]
  congr 2
  funext q
  have hv0 : ¬ v = 0 := by have := hv.1; omega
  by_cases hq : q = i.toNatClampNeg
  · subst hq
    simp [updV, uR_, rf_, hv0, va_rf]
  · simp [updV, uR_, hq]
variable {y : MethodName} {bytes : ByteArray} {maxL np k mc ms n' : Nat} {As : List Value}
def js_mc (y : MethodName) (b : ByteArray) (nL : Nat) (np : Nat) : Prop :=
  Cond.code y b nL none ∈ js_W ∧ Cond.initialized y.cls ∈ js_W ∧ (y.cls ≠ "java/lang/invoke/MethodHandle" ∧ y.cls ≠ "java/lang/invoke/VarHandle" ∧ (parseMethodDescriptor y.desc).map (fun d => d.parameters.length) = some np) ∧ Cond.instanceMethod y ∈ js_W ∧ y.name = "<init>"
theorem jc_back {a : Array Value} (hU : js_U D B g n σ s H locs) (hr : va_Run p l e R s m args below meth c H locs cells slots mc ms (F0 m pc ls st) rest (js_QC D B g n' σ' a) (fun q => B < q))
    (kk : ∀ H locs, js_U D B g n' σ' s H locs → W p l e R s m args below meth c H locs (cells + mc) (slots + ms) Q (F0 m (pc + 3) ls rest)) : W p l e R s m args below meth c H locs cells slots Q (F0 m pc ls st) := by
  refine va_callv hr hU.2.1 (fun _ _ h => h) (fun _ h => h) (fun u t H1 locs1 ht hvm hw hB _ _ hS => ?_)
  subst hw
  obtain ⟨hz, hP⟩ := hB
  rw [ht] at hP hz
  exact kk H1 locs1 ⟨hP, hS, hz⟩
theorem jc_runI (C : js_CC D g p m c cc nL s args own) (hU : js_U D B g n σ s H locs) (mf : js_mc y bytes maxL np) (hl : Cond.methodLink own index y ∈ js_W) (hM : js_MC l D B g y bytes maxL k mc ms n (.ref (B + o) :: As) σ n' σ') (hR : k + 2 ≤ R.frames ∧ 8 + (maxL + 11) + 50 * (k + 1) ≤ R.locals) (hn : As.length = np) (hls : ls.size = nL) (hst : st = As.reverse ++ .ref (B + o) :: rest) (hrm : (rest.map fun v => v.category).sum ≤ 8) (hf : cells + mc ≤ R.cells ∧ slots + ms ≤ R.slots) (hdg : decode cc pc = .ok (.invokespecial index, 3)) :
    va_Run p l e R s m args below meth c H locs cells slots mc ms (F0 m pc ls st) rest (js_QC D B g n' σ' (Value.ref (B + o) :: As).toArray) (fun q => B < q) := by
  obtain ⟨⟨hx, hb, hml, hown, ht, hK, hNw⟩, hao⟩ := C
  obtain ⟨w1, w2, w3, w4, w5⟩ := mf
  exact va_runI ⟨hx, hb, hml, hown, ht⟩ hM ⟨callB_of np ht (js_goodIn w1) rfl rfl rfl (ht _ w2) (ht _ hl) w3 hR, w5, ht _ w4⟩ ⟨js_blindC, fun U hU2 hW => ⟨rfl, js_warm hW hNw, hao.moved hW.alike, by rw [hU2]; exact hU.2.2, by rw [hU2]; exact hU.1, va_K.moved hW.alike hK⟩⟩ rfl hn hls hst (lv_room hrm) hdg hf
theorem jc_runIN (C : js_CC D g p m c cc nL s args own) (hU : js_U D B g n σ s H locs) (mf : js_mc y bytes maxL np) {host : String} (hl : Cond.methodLinkNest own index y host ∈ js_N) (hM : js_MC l D B g y bytes maxL k mc ms n (.ref (B + o) :: As) σ n' σ') (hR : k + 2 ≤ R.frames ∧ 8 + (maxL + 11) + 50 * (k + 1) ≤ R.locals) (hn : As.length = np) (hls : ls.size = nL) (hst : st = As.reverse ++ .ref (B + o) :: rest) (hrm : (rest.map fun v => v.category).sum ≤ 8) (hf : cells + mc ≤ R.cells ∧ slots + ms ≤ R.slots) (hdg : decode cc pc = .ok (.invokespecial index, 3)) :
    va_Run p l e R s m args below meth c H locs cells slots mc ms (F0 m pc ls st) rest (js_QC D B g n' σ' (Value.ref (B + o) :: As).toArray) (fun q => B < q) := by
  obtain ⟨⟨hx, hb, hml, hown, ht, hK, hNw⟩, hao⟩ := C
  obtain ⟨w1, w2, w3, w4, w5⟩ := mf
  have hG := js_goodIn w1
  have hcw : Cond.code y bytes maxL none ∈ js_ws y bytes maxL none := List.mem_cons_self
  refine va_runIN (host := host) ⟨hx, hb, hml, hown, ht⟩ hM ⟨⟨⟨rfl, rfl, hR.1, hR.2, pay_in ht hG, hcw⟩, ht _ w1, ht _ w2, ⟨w3.1, w3.2.1⟩, fun sig h => ?_, va_Nw.use rfl (hNw _ hl)⟩, w5, ht _ w4⟩ ⟨js_blindC, fun U hU2 hW => ⟨rfl, js_warm hW hNw, hao.moved hW.alike, by rw [hU2]; exact hU.2.2, by rw [hU2]; exact hU.1, va_K.moved hW.alike hK⟩⟩ rfl hn hls hst (lv_room hrm) hdg hf
  have h2 := w3.2.2
  rw [h] at h2
  exact (Option.some.inj h2).symm
/-- a plain method, called where cells are made -/
theorem jc_runV (C : js_CC D g p m c cc nL s args own) (hU : js_U D B g n σ s H locs) (cf : js_cf ci Cn T ty N) (ho : obB_ n ci o = true) (hy : y.cls = Cn) (mf : js_mi y bytes maxL none np) (hl : Cond.methodLink own index y ∈ js_W) (hM : js_MC l D B g y bytes maxL k mc ms n (.ref (B + o) :: As) σ n' σ') (hR : k + 2 ≤ R.frames ∧ 8 + (maxL + 11) + 50 * (k + 1) ≤ R.locals) (hn : As.length = np) (hls : ls.size = nL) (hst : st = As.reverse ++ .ref (B + o) :: rest) (hrm : (rest.map fun v => v.category).sum ≤ 8) (hf : cells + mc ≤ R.cells ∧ slots + ms ≤ R.slots) (hdg : decode cc pc = .ok (.invokevirtual index, 3)) :
    va_Run p l e R s m args below meth c H locs cells slots mc ms (F0 m pc ls st) rest (js_QC D B g n' σ' (Value.ref (B + o) :: As).toArray) (fun q => B < q) := by
  obtain ⟨⟨hx, hb, hml, hown, ht, hK, hNw⟩, hao⟩ := C
  obtain ⟨hc, hN, hci, -, -, -⟩ := cf
  obtain ⟨w1, w2, w3, w4, w5⟩ := mf
  have ho := obB_ob ho
  have he : (en_ B g σ n)[o - 1]? = some (B + o, .inr (ci, co_ B σ o ci)) := by rw [en_at ho.1 ho.2.1, ce_obj ho.2.2 hci]
  subst hy
  refine va_runV (C := y.cls) ⟨hx, hb, hml, hown, ht⟩ hM ⟨callB_of np ht (js_goodIn w1) rfl rfl rfl (ht _ w2) (ht _ hl) w3 hR, ht _ w4, ht _ w5⟩ ⟨js_blindC, va_recv hK hU.1 hc he, fun U hU2 hW => ⟨rfl, js_warm hW hNw, hao.moved hW.alike, by rw [hU2]; exact hU.2.2, by rw [hU2]; exact hU.1, va_K.moved hW.alike hK⟩⟩ rfl hn hls hst (lv_room hrm) hdg hf
theorem jc_vret (C : js_CC D g p m c cc nL s args own) (hU : js_U D B g n σ s H locs) (hr : meth.sig.returnType = none) (hk : meth.locks = false) (hdg : decode cc pc = .ok (.return_, 1)) : W p l e R s m args below meth c H locs mc ms (MQ below (js_QC D B g n σ) args s mc ms (fun q => B < q)) (F0 m pc ls []) := by
  obtain ⟨⟨hx, hb, hml, hown, ht, hK, hNw⟩, hao⟩ := C
  exact W.vret hx hb hr (fun t ht hW => ⟨⟨(n, σ), rfl, rfl, by rw [ht]; exact hU.2.2, by rw [ht]; exact hU.1⟩, hU.2.1.F ht⟩) hU.2.1.2.2 hdg hk
end JC
theorem jc_enter {l : Launch} {D : va_G} {B n n' : Nat} {g : js_G} {σ σ' : js_S} {y : MethodName} {bytes : ByteArray} {maxL k mc ms : Nat} {av : List Value} (hy : plainName y.cls = true) (hlen : (lg_sl av).length ≤ maxL)
    (body : ∀ (p : Program) (e : Env) (s : State) (m : MethodId) (args : Array Value) (below : List Frame) (meth : Method) (c : Code), js_CC D g p m c bytes maxL s args y.cls → meth.sig.returnType = none → meth.locks = false → meth.name = y.name → ∀ ls : Array Slot, lv_has ls maxL (lv_args 0 av) → js_U D B g n σ s s.heap [] →
      W p l e (js_rmC k mc ms) s m args below meth c s.heap [] 0 0 (MQ below (js_QC D B g n' σ') args s mc ms (fun q => B < q)) (F0 m 0 ls [])) : js_MC l D B g y bytes maxL k mc ms n av σ n' σ' := by
  refine Met.ofW (cc := bytes) (maxL := maxL) (ret := none) hy rfl ?_
  intro p e s m args below meth c s₁ Bd hml hv
  obtain ⟨rfl, hNw, hA, hz, hP, hK⟩ := hv
  have hts := atoms_spec (ws := js_ws y bytes maxL none) Bd.pre
  have hown : s.vm.findClass y.cls = some m.cls := findClass_of_methodNamed Bd.named
  have hl := lv_entry av (n := maxL) hlen
  rw [lg_entry_eq]
  exact body p e s m av.toArray below meth c ⟨⟨Bd.exec, Bd.bytes, hml, hown, fun w h => hts w (List.mem_cons_of_mem _ h), hK, hNw⟩, hA⟩ Bd.returns Bd.notSynchronized (name_of_methodNamed Bd.named Bd.method).1 _ hl ⟨hP, va_S.rf, hz⟩
