/-! the machine's rows over the store -/
def js_W : List Cond := lw_tbl.filter goodWord
def js_isN : Cond → Bool
  | .fieldLinkNest _ _ _ _ _ _ => true
  | .methodLinkNest _ _ _ _ => true
  | _ => false
def js_N : List Cond := lw_tbl.filter js_isN
def js_Nw (U : State) : Prop := ∀ w ∈ js_N, va_Nw w U
theorem js_isN_on {w : Cond} (h : js_isN w = true) : w.onTables = true := by
  cases w <;> first | rfl | cases h
theorem js_inN {w : Cond} (h : w ∈ lw_tbl) (hg : js_isN w = true) : w ∈ js_N := List.mem_filter.mpr ⟨h, hg⟩
theorem js_warm {s U : State} (hW : s.WarmedH U.vm) (h : js_Nw s) : js_Nw U := by
  intro w hw
  have h1 := h w hw
  have h2 := (List.mem_filter.mp hw).2
  cases w <;> first | exact va_Nw.warmF hW h1 | exact va_Nw.warmM hW h1 | cases h2
def js_C (D : va_G) (g : js_G) (p : Program) (m : MethodId) (c : Code) (cc : ByteArray) (nL : Nat) (s : State) (args : Array Value) (own : String) : Prop :=
  p.tables.exec = Jvm.exec ∧ c.code = cc ∧ c.maxLocals = nL ∧ s.vm.findClass own = some m.cls ∧ (∀ w ∈ js_W, w.before args s = true) ∧ va_K D js_cls (js_tys g) s ∧ js_Nw s
def js_T (D : va_G) (B : Nat) (g : js_G) (n : Nat) (σ : js_S) (s : State) (H : Heap) (locs : List Loc) : Prop :=
  va_P D js_cls (en_ B g σ n) H ∧ va_S (fun q => B < q) s.heap H locs ∧ wf_ n σ.2.2
def js_cf (ci : Nat) (Cn : String) (T : u_T) (ty : Nat → FieldType) (N : Nat) : Prop :=
  js_cls[ci]? = some (Cn, T, N) ∧ N = nf_ ci ∧ ci < 13 ∧ (∀ w ∈ u_ws Cn T N, w ∈ js_W) ∧ (∀ k, k < N → parseFieldDescriptor (T k).2.2.1 = some (ty k)) ∧ ∀ a, a < N → ∀ b, b < N → a ≠ b → (T a).2.1 ≠ (T b).2.1
def js_ws (y : MethodName) (b : ByteArray) (k : Nat) (ret : Option FieldType) : List Cond := Cond.code y b k ret :: js_W
def js_rm (k : Nat) : Room := { frames := k + 1, cells := 0, slots := 0, locals := 50 * (k + 1) }
def js_B (D : va_G) (B : Nat) (g : js_G) (n : Nat) (u : js_S) (t : State) : Prop := va_P D js_cls (en_ B g u n) t.heap ∧ va_K D js_cls (js_tys g) t ∧ wf_ n u.2.2
def js_Pc (D : va_G) (B : Nat) (g : js_G) (n : Nat) (σ : js_S) (av : List Value) : Array Value → State → Prop := va_Pc av (fun U => js_Nw U ∧ js_B D B g n σ U)
def js_QI (D : va_G) (B : Nat) (g : js_G) (n : Nat) (r : Int32) (σ : js_S) : Array Value → State → Outcome → State → Prop := va_Qi (fun a (u : js_S) => a = r ∧ u = σ) (js_B D B g n) (fun q => B < q)
def js_QV (D : va_G) (B : Nat) (g : js_G) (n : Nat) (σ : js_S) : Array Value → State → Outcome → State → Prop := va_Qv (fun (u : js_S) => u = σ) (js_B D B g n) (fun q => B < q)
def js_QR (D : va_G) (B : Nat) (g : js_G) (n : Nat) (k r : Nat) (σ : js_S) : Array Value → State → Outcome → State → Prop := va_Qr (fun (u : js_S) => u = σ ∧ ob_ n k r) (fun u a t => a = B + r ∧ js_B D B g n u t) (fun q => B < q)
def js_M (l : Launch) (D : va_G) (B : Nat) (g : js_G) (n : Nat) (y : MethodName) (b : ByteArray) (nL : Nat) (ret : Option FieldType) (k : Nat) (av : List Value) (σ : js_S) (Qc : Array Value → State → Outcome → State → Prop) : Prop :=
  Met l y (js_ws y b nL ret) (js_rm k) (js_Pc D B g n σ av) Qc 0 0 (fun q => B < q)
theorem js_in {w : Cond} (h : w ∈ lw_tbl) (hg : goodWord w = true) : w ∈ js_W := List.mem_filter.mpr ⟨h, hg⟩
theorem js_goodIn {y : MethodName} {b : ByteArray} {k : Nat} {ret : Option FieldType} (h : Cond.code y b k ret ∈ js_W) : GoodIn js_W (js_ws y b k ret) := by
  intro w hw
  have hm : w ∈ js_W := by
    rcases List.mem_cons.mp hw with q | q
    · rw [q]; exact h
    · exact q
  exact ⟨hm, good_of_word (List.mem_filter.mp hm).2⟩
/-- what stands of a method in the tables -/
def js_mi (y : MethodName) (b : ByteArray) (nL : Nat) (ret : Option FieldType) (np : Nat) : Prop :=
  Cond.code y b nL ret ∈ js_W ∧ Cond.initialized y.cls ∈ js_W ∧ (y.cls ≠ "java/lang/invoke/MethodHandle" ∧ y.cls ≠ "java/lang/invoke/VarHandle" ∧ (parseMethodDescriptor y.desc).map (fun d => d.parameters.length) = some np) ∧ Cond.instanceMethod y ∈ js_W ∧ Cond.selects y.cls y y ∈ js_W
def js_ms (y : MethodName) (b : ByteArray) (nL : Nat) (ret : Option FieldType) (np : Nat) : Prop :=
  Cond.code y b nL ret ∈ js_W ∧ Cond.initialized y.cls ∈ js_W ∧ (y.cls ≠ "java/lang/invoke/MethodHandle" ∧ y.cls ≠ "java/lang/invoke/VarHandle" ∧ (parseMethodDescriptor y.desc).map (fun d => d.parameters.length) = some np) ∧ Cond.static y ∈ js_W
theorem js_blind {D : va_G} {B : Nat} {g : js_G} {n : Nat} {σ : js_S} {av : List Value} : FrameBlind (js_Pc D B g n σ av) := by
  intro a U f mk q
  obtain ⟨q0, qN, qP, qK, qW⟩ := q
  exact ⟨q0, fun w hw => va_Nw.same (u := U) (U := U.calling f mk a) (js_isN_on (List.mem_filter.mp hw).2) rfl (qN w hw), qP, va_K.moved (u := U) (U := U.calling f mk a) (Vm.Alike.refl U.vm) qK, qW⟩
section JR
variable {p : Program} {l : Launch} {e : Env} {R : Room} {s : State} {m : MethodId} {args : Array Value} {below : List Frame} {meth : Method} {c : Code} {H : Heap} {locs : List Loc} {cells slots : Nat} {Q : State → Prop}
variable {cc : ByteArray} {pc : Nat} {ls : Array Slot} {rest st : List Value} {D : va_G} {B n nL : Nat} {g : js_G} {σ σ' : js_S} {own : String} {ci index N o : Nat} {Cn : String} {T : u_T} {ty : Nat → FieldType}
theorem js_gI (C : js_C D g p m c cc nL s args own) (hT : js_T D B g n σ s H locs) (cf : js_cf ci Cn T ty N) (ho : ob_ n ci o) (k : Nat) (hk : k < N) (hf : fk_ ci k = 30) (hl : Cond.fieldLink own index (T k).1 (T k).2.1 (T k).2.2.1 ∈ js_W) (hdg : decode cc pc = .ok (.getfield index, 3))
    (kk : W p l e R s m args below meth c H locs cells slots Q (F0 m (pc + 3) ls (.int (σ.1 o k) :: rest))) : W p l e R s m args below meth c H locs cells slots Q (F0 m pc ls (.ref (B + o) :: rest)) := by
  obtain ⟨hx, hb, -, hown, ht, hK, hNw⟩ := C
  obtain ⟨hc, hN, hci, hin, -, -⟩ := cf
  refine va_get (D := D) hx hb ht hin hown hK hT.1 (o - 1) (fs := co_ B σ o ci) ?_ hc k hk (ht _ hl) (fun _ h => h) (v := .int (σ.1 o k)) ?_ hdg kk
  · rw [en_at ho.1 ho.2.1, ce_obj ho.2.2 hci]
  · rw [co_at (by rw [← hN]; exact hk), hf]
    rfl
theorem js_gIN (C : js_C D g p m c cc nL s args own) (hT : js_T D B g n σ s H locs) (cf : js_cf ci Cn T ty N) (ho : ob_ n ci o) (k : Nat) (hk : k < N) (hf : fk_ ci k = 30) {host : String} (hl : Cond.fieldLinkNest own index (T k).1 (T k).2.1 (T k).2.2.1 host ∈ js_N) (hdg : decode cc pc = .ok (.getfield index, 3))
    (kk : W p l e R s m args below meth c H locs cells slots Q (F0 m (pc + 3) ls (.int (σ.1 o k) :: rest))) : W p l e R s m args below meth c H locs cells slots Q (F0 m pc ls (.ref (B + o) :: rest)) := by
  obtain ⟨hx, hb, -, hown, ht, hK, hNw⟩ := C
  obtain ⟨hc, hN, hci, hin, -, -⟩ := cf
  refine va_getN (D := D) hx hb ht hin hown hK hT.1 (o - 1) (fs := co_ B σ o ci) ?_ hc k hk (va_Nw.use rfl (hNw _ hl)) (fun _ h => h) (v := .int (σ.1 o k)) ?_ hdg kk
  · rw [en_at ho.1 ho.2.1, ce_obj ho.2.2 hci]
  · rw [co_at (by rw [← hN]; exact hk), hf]
    rfl
theorem js_gR (C : js_C D g p m c cc nL s args own) (hT : js_T D B g n σ s H locs) (cf : js_cf ci Cn T ty N) (ho : ob_ n ci o) (k : Nat) (hk : k < N) {q : Nat} (hf : fk_ ci k = q) (hq : q ≠ 30) (hl : Cond.fieldLink own index (T k).1 (T k).2.1 (T k).2.2.1 ∈ js_W) (hdg : decode cc pc = .ok (.getfield index, 3))
    (kk : ob_ n q (σ.2.2 o k) → W p l e R s m args below meth c H locs cells slots Q (F0 m (pc + 3) ls (.ref (B + σ.2.2 o k) :: rest))) : W p l e R s m args below meth c H locs cells slots Q (F0 m pc ls (.ref (B + o) :: rest)) := by
  obtain ⟨hx, hb, -, hown, ht, hK, hNw⟩ := C
  obtain ⟨hc, hN, hci, hin, -, -⟩ := cf
  subst hf
  have hkk : k < nf_ ci := by rw [← hN]; exact hk
  have hv := hT.2.2.1 ci o k ho hci hkk hq
  refine va_get (D := D) hx hb ht hin hown hK hT.1 (o - 1) (fs := co_ B σ o ci) ?_ hc k hk (ht _ hl) (fun _ h => h) (v := .ref (B + σ.2.2 o k)) ?_ hdg (kk hv)
  · rw [en_at ho.1 ho.2.1, ce_obj ho.2.2 hci]
  · rw [co_at hkk]
    unfold fv_
    rw [if_neg hq, rf_pos hv.1]
theorem js_gRN (C : js_C D g p m c cc nL s args own) (hT : js_T D B g n σ s H locs) (cf : js_cf ci Cn T ty N) (ho : ob_ n ci o) (k : Nat) (hk : k < N) {q : Nat} (hf : fk_ ci k = q) (hq : q ≠ 30) {host : String} (hl : Cond.fieldLinkNest own index (T k).1 (T k).2.1 (T k).2.2.1 host ∈ js_N) (hdg : decode cc pc = .ok (.getfield index, 3))
    (kk : ob_ n q (σ.2.2 o k) → W p l e R s m args below meth c H locs cells slots Q (F0 m (pc + 3) ls (.ref (B + σ.2.2 o k) :: rest))) : W p l e R s m args below meth c H locs cells slots Q (F0 m pc ls (.ref (B + o) :: rest)) := by
  obtain ⟨hx, hb, -, hown, ht, hK, hNw⟩ := C
  obtain ⟨hc, hN, hci, hin, -, -⟩ := cf
  subst hf
  have hkk : k < nf_ ci := by rw [← hN]; exact hk
  have hv := hT.2.2.1 ci o k ho hci hkk hq
  refine va_getN (D := D) hx hb ht hin hown hK hT.1 (o - 1) (fs := co_ B σ o ci) ?_ hc k hk (va_Nw.use rfl (hNw _ hl)) (fun _ h => h) (v := .ref (B + σ.2.2 o k)) ?_ hdg (kk hv)
  · rw [en_at ho.1 ho.2.1, ce_obj ho.2.2 hci]
  · rw [co_at hkk]
    unfold fv_
    rw [if_neg hq, rf_pos hv.1]
theorem js_pI (C : js_C D g p m c cc nL s args own) (hT : js_T D B g n σ s H locs) (cf : js_cf ci Cn T ty N) (ho : ob_ n ci o) (k : Nat) (hk : k < N) (hf : fk_ ci k = 30) (hfin : (T k).2.2.2 = false) {x : Int32} (hn : narrow (ty k) (.int x) = .int x) (hfit : fits (ty k) (.int x) = true) (hl : Cond.fieldLink own index (T k).1 (T k).2.1 (T k).2.2.1 ∈ js_W) (hdg : decode cc pc = .ok (.putfield index, 3))
    (kk : ∀ H locs, js_T D B g n (uI_ σ o k x) s H locs → W p l e R s m args below meth c H locs cells slots Q (F0 m (pc + 3) ls rest)) : W p l e R s m args below meth c H locs cells slots Q (F0 m pc ls (.int x :: .ref (B + o) :: rest)) := by
  obtain ⟨hx, hb, -, hown, ht, hK, hNw⟩ := C
  obtain ⟨hc, hN, hci, hin, hty, hnm⟩ := cf
  have hkk : k < nf_ ci := by rw [← hN]; exact hk
  have he : (en_ B g σ n)[o - 1]? = some (B + o, .inr (ci, co_ B σ o ci)) := by rw [en_at ho.1 ho.2.1, ce_obj ho.2.2 hci]
  refine va_put (D := D) hx hb ht hin ty hty hnm hown hK hT.1 en_D hT.2.1 (o - 1) he hc k hk (ht _ hl) (fun _ h => h) hfin (hty k hk) hn hfit (by rw [co_len]; exact hkk) hdg (fun H1 locs1 hP _ hS => ?_)
  refine kk H1 locs1 ⟨?_, hS, hT.2.2⟩
  rw [← co_uI hkk hf, ← ce_obj (g := g) ho.2.2 hci, en_set ho.1 ho.2.1 (fun a ha => ce_uI ha)] at hP
  exact hP
theorem js_pIN (C : js_C D g p m c cc nL s args own) (hT : js_T D B g n σ s H locs) (cf : js_cf ci Cn T ty N) (ho : ob_ n ci o) (k : Nat) (hk : k < N) (hf : fk_ ci k = 30) (hfin : (T k).2.2.2 = false) {x : Int32} (hn : narrow (ty k) (.int x) = .int x) (hfit : fits (ty k) (.int x) = true) {host : String} (hl : Cond.fieldLinkNest own index (T k).1 (T k).2.1 (T k).2.2.1 host ∈ js_N) (hdg : decode cc pc = .ok (.putfield index, 3))
    (kk : ∀ H locs, js_T D B g n (uI_ σ o k x) s H locs → W p l e R s m args below meth c H locs cells slots Q (F0 m (pc + 3) ls rest)) : W p l e R s m args below meth c H locs cells slots Q (F0 m pc ls (.int x :: .ref (B + o) :: rest)) := by
  obtain ⟨hx, hb, -, hown, ht, hK, hNw⟩ := C
  obtain ⟨hc, hN, hci, hin, hty, hnm⟩ := cf
  have hkk : k < nf_ ci := by rw [← hN]; exact hk
  have he : (en_ B g σ n)[o - 1]? = some (B + o, .inr (ci, co_ B σ o ci)) := by rw [en_at ho.1 ho.2.1, ce_obj ho.2.2 hci]
  refine va_putN (D := D) hx hb ht hin ty hty hnm hown hK hT.1 en_D hT.2.1 (o - 1) he hc k hk (va_Nw.use rfl (hNw _ hl)) (fun _ h => h) hfin (hty k hk) hn hfit (by rw [co_len]; exact hkk) hdg (fun H1 locs1 hP _ hS => ?_)
  refine kk H1 locs1 ⟨?_, hS, hT.2.2⟩
  rw [← co_uI hkk hf, ← ce_obj (g := g) ho.2.2 hci, en_set ho.1 ho.2.1 (fun a ha => ce_uI ha)] at hP
  exact hP
theorem js_iald (C : js_C D g p m c cc nL s args own) (hT : js_T D B g n σ s H locs) (ho : ob_ n 20 o) {i : Int32} (hi : ib_ i (ln_ o) = true) (hdg : decode cc pc = .ok (.iaload, 1))
    (kk : W p l e R s m args below meth c H locs cells slots Q (F0 m (pc + 1) ls (.int (σ.1 o i.toNatClampNeg) :: rest))) : W p l e R s m args below meth c H locs cells slots Q (F0 m pc ls (.int i :: .ref (B + o) :: rest)) := by
  obtain ⟨hx, hb, -, hown, ht, hK, hNw⟩ := C
  exact va_iald hx hb hK hT.1 (o - 1) 0 (by rw [en_at ho.1 ho.2.1, ce_i ho.2.2]) rfl (ib_in hi) hdg kk
theorem js_zald (C : js_C D g p m c cc nL s args own) (hT : js_T D B g n σ s H locs) (ho : ob_ n 22 o) {i : Int32} (hi : ib_ i (ln_ o) = true) (hdg : decode cc pc = .ok (.baload, 1))
    (kk : W p l e R s m args below meth c H locs cells slots Q (F0 m (pc + 1) ls (.int (σ.1 o i.toNatClampNeg) :: rest))) : W p l e R s m args below meth c H locs cells slots Q (F0 m pc ls (.int i :: .ref (B + o) :: rest)) := by
  obtain ⟨hx, hb, -, hown, ht, hK, hNw⟩ := C
  exact va_zald hx hb hK hT.1 (o - 1) 2 (by rw [en_at ho.1 ho.2.1, ce_z ho.2.2]) rfl (ib_in hi) hdg kk
theorem js_lald (C : js_C D g p m c cc nL s args own) (hT : js_T D B g n σ s H locs) (ho : ob_ n 21 o) {i : Int32} (hi : ib_ i (ln_ o) = true) (hdg : decode cc pc = .ok (.laload, 1))
    (kk : W p l e R s m args below meth c H locs cells slots Q (F0 m (pc + 1) ls (.long (σ.2.1 o i.toNatClampNeg) :: rest))) : W p l e R s m args below meth c H locs cells slots Q (F0 m pc ls (.int i :: .ref (B + o) :: rest)) := by
  obtain ⟨hx, hb, -, hown, ht, hK, hNw⟩ := C
  exact va_lald hx hb hK hT.1 (o - 1) 1 (by rw [en_at ho.1 ho.2.1, ce_j ho.2.2]) rfl (ib_in hi) hdg kk
theorem js_aald (C : js_C D g p m c cc nL s args own) (hT : js_T D B g n σ s H locs) (ho : ob_ n 23 o) {i : Int32} (hi : ib_ i (ln_ o) = true) (hdg : decode cc pc = .ok (.aaload, 1))
    (kk : ob_ n 9 (σ.2.2 o i.toNatClampNeg) → W p l e R s m args below meth c H locs cells slots Q (F0 m (pc + 1) ls (.ref (B + σ.2.2 o i.toNatClampNeg) :: rest))) : W p l e R s m args below meth c H locs cells slots Q (F0 m pc ls (.int i :: .ref (B + o) :: rest)) := by
  obtain ⟨hx, hb, -, hown, ht, hK, hNw⟩ := C
  have hlt : i.toNatClampNeg < ln_ o := by
    have := ib_in hi
    exact Nat.not_le.mp fun q => this (Or.inr q)
  have hv := hT.2.2.2 o _ ho hlt
  refine va_aldq hx hb hK hT.1 (o - 1) 3 (by rw [en_at ho.1 ho.2.1, ce_t ho.2.2]) rfl (ib_in hi) hdg ?_
  rw [rf_pos hv.1]
  exact kk hv
theorem js_alen (C : js_C D g p m c cc nL s args own) (hT : js_T D B g n σ s H locs) {q : Nat} (ho : ob_ n q o) (hq : q = 20 ∨ q = 21 ∨ q = 22 ∨ q = 23) (hdg : decode cc pc = .ok (.arraylength, 1))
    (kk : W p l e R s m args below meth c H locs cells slots Q (F0 m (pc + 1) ls (.int (Int32.ofNat (ln_ o)) :: rest))) : W p l e R s m args below meth c H locs cells slots Q (F0 m pc ls (.ref (B + o) :: rest)) := by
  obtain ⟨hx, hb, -, hown, ht, hK, hNw⟩ := C
  rcases hq with rfl | rfl | rfl | rfl
  · exact va_alen hx hb hK hT.1 (o - 1) 0 (by rw [en_at ho.1 ho.2.1, ce_i ho.2.2]) rfl rfl hdg kk
  · exact va_alen hx hb hK hT.1 (o - 1) 1 (by rw [en_at ho.1 ho.2.1, ce_j ho.2.2]) rfl rfl hdg kk
  · exact va_alen hx hb hK hT.1 (o - 1) 2 (by rw [en_at ho.1 ho.2.1, ce_z ho.2.2]) rfl rfl hdg kk
  · exact va_alen hx hb hK hT.1 (o - 1) 3 (by rw [en_at ho.1 ho.2.1, ce_t ho.2.2]) rfl rfl hdg kk
theorem js_iast (C : js_C D g p m c cc nL s args own) (hT : js_T D B g n σ s H locs) (ho : ob_ n 20 o) {i x : Int32} (hi : ib_ i (ln_ o) = true) (hdg : decode cc pc = .ok (.iastore, 1))
    (kk : ∀ H locs, js_T D B g n (uI_ σ o i.toNatClampNeg x) s H locs → W p l e R s m args below meth c H locs cells slots Q (F0 m (pc + 1) ls rest)) : W p l e R s m args below meth c H locs cells slots Q (F0 m pc ls (.int x :: .int i :: .ref (B + o) :: rest)) := by
  obtain ⟨hx, hb, -, hown, ht, hK, hNw⟩ := C
  refine va_iast hx hb hK hT.1 en_D hT.2.1 (o - 1) 0 (by rw [en_at ho.1 ho.2.1, ce_i ho.2.2]) rfl (ib_in hi) hdg (fun H1 locs1 hP _ hS => ?_)
  refine kk H1 locs1 ⟨?_, hS, hT.2.2⟩
  have e : ce_ B g (uI_ σ o i.toNatClampNeg x) o = .inl (g.1, ln_ o, .inl (upd (σ.1 o) i.toNatClampNeg x)) := by
    rw [ce_i ho.2.2]
    congr 4
    funext b
    simp [uI_, upd]
  rw [← e, en_set ho.1 ho.2.1 (fun a ha => ce_uI ha)] at hP
  exact hP
theorem js_zast (C : js_C D g p m c cc nL s args own) (hT : js_T D B g n σ s H locs) (ho : ob_ n 22 o) {i x : Int32} (hi : ib_ i (ln_ o) = true) (hdg : decode cc pc = .ok (.bastore, 1))
    (kk : ∀ H locs, js_T D B g n (uI_ σ o i.toNatClampNeg (nz_ x)) s H locs → W p l e R s m args below meth c H locs cells slots Q (F0 m (pc + 1) ls rest)) : W p l e R s m args below meth c H locs cells slots Q (F0 m pc ls (.int x :: .int i :: .ref (B + o) :: rest)) := by
  obtain ⟨hx, hb, -, hown, ht, hK, hNw⟩ := C
  refine va_zast hx hb hK hT.1 en_D hT.2.1 (o - 1) 2 (by rw [en_at ho.1 ho.2.1, ce_z ho.2.2]) rfl (ib_in hi) hdg (fun H1 locs1 hP _ hS => ?_)
  refine kk H1 locs1 ⟨?_, hS, hT.2.2⟩
  have e : ce_ B g (uI_ σ o i.toNatClampNeg (nz_ x)) o = .inl (g.2.2.1, ln_ o, .inl (upd (σ.1 o) i.toNatClampNeg (vp_nar .boolean x))) := by
    rw [ce_z ho.2.2]
    congr 4
    funext b
    simp [uI_, upd, nz_]
  rw [← e, en_set ho.1 ho.2.1 (fun a ha => ce_uI ha)] at hP
  exact hP
theorem js_last (C : js_C D g p m c cc nL s args own) (hT : js_T D B g n σ s H locs) (ho : ob_ n 21 o) {i : Int32} {x : Int64} (hi : ib_ i (ln_ o) = true) (hdg : decode cc pc = .ok (.lastore, 1))
    (kk : ∀ H locs, js_T D B g n (uJ_ σ o i.toNatClampNeg x) s H locs → W p l e R s m args below meth c H locs cells slots Q (F0 m (pc + 1) ls rest)) : W p l e R s m args below meth c H locs cells slots Q (F0 m pc ls (.long x :: .int i :: .ref (B + o) :: rest)) := by
  obtain ⟨hx, hb, -, hown, ht, hK, hNw⟩ := C
  refine va_last hx hb hK hT.1 en_D hT.2.1 (o - 1) 1 (by rw [en_at ho.1 ho.2.1, ce_j ho.2.2]) rfl (ib_in hi) hdg (fun H1 locs1 hP _ hS => ?_)
  refine kk H1 locs1 ⟨?_, hS, hT.2.2⟩
  have e : ce_ B g (uJ_ σ o i.toNatClampNeg x) o = .inl (g.2.1, ln_ o, .inr (.inl (vp_updL (σ.2.1 o) i.toNatClampNeg x))) := by
    rw [ce_j ho.2.2]
    congr 5
    funext b
    simp [uJ_, vp_updL]
  rw [← e, en_set ho.1 ho.2.1 (fun a ha => ce_uJ ha)] at hP
  exact hP
theorem js_aast (C : js_C D g p m c cc nL s args own) (hT : js_T D B g n σ s H locs) (ho : ob_ n 23 o) {v : Nat} (hv : ob_ n 9 v) {i : Int32} (hi : ib_ i (ln_ o) = true) (hdg : decode cc pc = .ok (.aastore, 1))
    (kk : ∀ H locs, js_T D B g n (uR_ σ o i.toNatClampNeg v) s H locs → W p l e R s m args below meth c H locs cells slots Q (F0 m (pc + 1) ls rest)) : W p l e R s m args below meth c H locs cells slots Q (F0 m pc ls (.ref (B + v) :: .int i :: .ref (B + o) :: rest)) := by
  obtain ⟨hx, hb, -, hown, ht, hK, hNw⟩ := C
  refine va_astq (r := (RX9, TX9, 2)) hx hb hK hT.1 en_D hT.2.1 (o - 1) 3 (v - 1) 9 (by rw [en_at ho.1 ho.2.1, ce_t ho.2.2]) rfl (by rw [en_at hv.1 hv.2.1, ce_obj hv.2.2 (by omega)]) rfl (ib_in hi) hdg (fun H1 locs1 hP _ hS => ?_)
  refine kk H1 locs1 ⟨?_, hS, ?_⟩
  · have e : ce_ B g (uR_ σ o i.toNatClampNeg v) o = .inl (g.2.2.2, ln_ o, .inr (.inr (.inr (.inr (va_up (fun i => rf_ B (σ.2.2 o i)) i.toNatClampNeg (some (B + v))))))) := by
      rw [ce_t ho.2.2]
      congr 8
      funext b
      by_cases q : b = i.toNatClampNeg
      · subst q
        have : ¬ v = 0 := by have := hv.1; omega
        simp [uR_, va_up, rf_, this]
      · simp [uR_, va_up, q]
    rw [← e, en_set ho.1 ho.2.1 (fun a ha => ce_uR ha)] at hP
    exact hP
  · refine ⟨fun k a j ha hk hj hq => ?_, fun a j ha hj => ?_⟩
    · have h1 := hT.2.2.1 k a j ha hk hj hq
      have : ¬ a = o := by
        intro q
        subst q
        have h2 := ha.2.2
        have h3 := ho.2.2
        omega
      simpa [uR_, this] using h1
    · have h1 := hT.2.2.2 a j ha hj
      by_cases q : a = o ∧ j = i.toNatClampNeg
      · simp only [uR_, if_pos q]
        exact hv
      · simp only [uR_, if_neg q]
        exact h1
theorem js_nneg {x : Int32} (h : 0 ≤ x) : ¬ x < 0 := by
  rw [Int32.not_lt]
  exact h
/-- System.arraycopy of int rows; the ints of a row fit -/
theorem js_copyi (C : js_C D g p m c cc nL s args own) (hT : js_T D B g n σ s H locs) {a b : Nat} (ha : ob_ n 20 a) (hb2 : ob_ n 20 b) (hls : ls.size = nL) {x y z : Int32} (hg : (decide (0 ≤ x) && decide (0 ≤ y) && decide (0 ≤ z) && decide (x.toNatClampNeg + z.toNatClampNeg ≤ ln_ a) && decide (y.toNatClampNeg + z.toNatClampNeg ≤ ln_ b)) = true)
    (hl : Cond.methodLink own index arraycopyName ∈ js_W) (h1 : Cond.native arraycopyName ∈ js_W) (h2 : Cond.static arraycopyName ∈ js_W) (h3 : Cond.initialized "java/lang/System" ∈ js_W) (hfr : 1 ≤ R.frames) (hlo : (rest.map fun v => v.category).sum + (nativeFrameWords "java/lang/System" "arraycopy" 5 + 11) ≤ R.locals) (hdg : decode cc pc = .ok (.invokestatic index, 3))
    (kk : ∀ H locs, js_T D B g n (cI_ σ a x.toNatClampNeg b y.toNatClampNeg z.toNatClampNeg) s H locs → W p l e R s m args below meth c H locs cells slots Q (F0 m (pc + 3) ls rest)) : W p l e R s m args below meth c H locs cells slots Q (F0 m pc ls (.int z :: .int y :: .ref (B + b) :: .int x :: .ref (B + a) :: rest)) := by
  obtain ⟨hx, hb, hml, hown, ht, hK, hNw⟩ := C
  simp only [Bool.and_eq_true, decide_eq_true_eq] at hg
  obtain ⟨⟨⟨⟨g1, g2⟩, g3⟩, g4⟩, g5⟩ := hg
  refine va_copyi (ty := .int) hx hb (by rw [hml, hls]) hown (ht _ hl) (ht _ h1) (ht _ h2) (ht _ h3) hK hT.1 en_D hT.2.1 (a - 1) (b - 1) 0 0 (by rw [en_at ha.1 ha.2.1, ce_i ha.2.2]) (by rw [en_at hb2.1 hb2.2.1, ce_i hb2.2.2]) rfl rfl rfl (js_nneg g1) (js_nneg g2) (js_nneg g3) g4 g5 (fun i _ => rfl) hfr hlo hdg (fun H1 locs1 hP _ hS => ?_)
  refine kk H1 locs1 ⟨?_, hS, hT.2.2⟩
  have e : ce_ B g (cI_ σ a x.toNatClampNeg b y.toNatClampNeg z.toNatClampNeg) b = .inl (g.1, ln_ b, .inl (va_cpy (σ.1 a) (σ.1 b) x.toNatClampNeg y.toNatClampNeg z.toNatClampNeg)) := by
    rw [ce_i hb2.2.2]
    congr 4
    funext q
    simp [cI_, va_cpy]
  rw [← e, en_set hb2.1 hb2.2.1 (fun a ha => ce_cI ha)] at hP
  exact hP
theorem js_copyl (C : js_C D g p m c cc nL s args own) (hT : js_T D B g n σ s H locs) {a b : Nat} (ha : ob_ n 21 a) (hb2 : ob_ n 21 b) (hls : ls.size = nL) {x y z : Int32} (hg : (decide (0 ≤ x) && decide (0 ≤ y) && decide (0 ≤ z) && decide (x.toNatClampNeg + z.toNatClampNeg ≤ ln_ a) && decide (y.toNatClampNeg + z.toNatClampNeg ≤ ln_ b)) = true)
    (hl : Cond.methodLink own index arraycopyName ∈ js_W) (h1 : Cond.native arraycopyName ∈ js_W) (h2 : Cond.static arraycopyName ∈ js_W) (h3 : Cond.initialized "java/lang/System" ∈ js_W) (hfr : 1 ≤ R.frames) (hlo : (rest.map fun v => v.category).sum + (nativeFrameWords "java/lang/System" "arraycopy" 5 + 11) ≤ R.locals) (hdg : decode cc pc = .ok (.invokestatic index, 3))
    (kk : ∀ H locs, js_T D B g n (cJ_ σ a x.toNatClampNeg b y.toNatClampNeg z.toNatClampNeg) s H locs → W p l e R s m args below meth c H locs cells slots Q (F0 m (pc + 3) ls rest)) : W p l e R s m args below meth c H locs cells slots Q (F0 m pc ls (.int z :: .int y :: .ref (B + b) :: .int x :: .ref (B + a) :: rest)) := by
  obtain ⟨hx, hb, hml, hown, ht, hK, hNw⟩ := C
  simp only [Bool.and_eq_true, decide_eq_true_eq] at hg
  obtain ⟨⟨⟨⟨g1, g2⟩, g3⟩, g4⟩, g5⟩ := hg
  refine va_copyl (ty := .long) hx hb (by rw [hml, hls]) hown (ht _ hl) (ht _ h1) (ht _ h2) (ht _ h3) hK hT.1 en_D hT.2.1 (a - 1) (b - 1) 1 1 (by rw [en_at ha.1 ha.2.1, ce_j ha.2.2]) (by rw [en_at hb2.1 hb2.2.1, ce_j hb2.2.2]) rfl rfl rfl (js_nneg g1) (js_nneg g2) (js_nneg g3) g4 g5 (fun i _ => rfl) hfr hlo hdg (fun H1 locs1 hP _ hS => ?_)
  refine kk H1 locs1 ⟨?_, hS, hT.2.2⟩
  have e : ce_ B g (cJ_ σ a x.toNatClampNeg b y.toNatClampNeg z.toNatClampNeg) b = .inl (g.2.1, ln_ b, .inr (.inl (va_cpy (σ.2.1 a) (σ.2.1 b) x.toNatClampNeg y.toNatClampNeg z.toNatClampNeg))) := by
    rw [ce_j hb2.2.2]
    congr 5
    funext q
    simp [cJ_, va_cpy]
  rw [← e, en_set hb2.1 hb2.2.1 (fun a ha => ce_cJ ha)] at hP
  exact hP
/-! calls -/
variable {y : MethodName} {bytes : ByteArray} {maxL np k : Nat} {ret : Option FieldType} {Qc : Array Value → State → Outcome → State → Prop} {As : List Value}
theorem js_runV (C : js_C D g p m c cc nL s args own) (hT : js_T D B g n σ s H locs) (cf : js_cf ci Cn T ty N) (ho : ob_ n ci o) (hy : y.cls = Cn) (mf : js_mi y bytes maxL ret np) (hl : Cond.methodLink own index y ∈ js_W) (hM : js_M l D B g n y bytes maxL ret k (.ref (B + o) :: As) σ Qc) (hR : k + 2 ≤ R.frames ∧ 8 + (maxL + 11) + 50 * (k + 1) ≤ R.locals) (hn : As.length = np) (hls : ls.size = nL) (hst : st = As.reverse ++ .ref (B + o) :: rest) (hrm : (rest.map fun v => v.category).sum ≤ 8) (hf : cells ≤ R.cells ∧ slots ≤ R.slots) (hdg : decode cc pc = .ok (.invokevirtual index, 3)) :
    va_Run p l e R s m args below meth c H locs cells slots 0 0 (F0 m pc ls st) rest (Qc (Value.ref (B + o) :: As).toArray) (fun q => B < q) := by
  obtain ⟨hx, hb, hml, hown, ht, hK, hNw⟩ := C
  obtain ⟨hc, hN, hci, -, -, -⟩ := cf
  obtain ⟨w1, w2, w3, w4, w5⟩ := mf
  have he : (en_ B g σ n)[o - 1]? = some (B + o, .inr (ci, co_ B σ o ci)) := by rw [en_at ho.1 ho.2.1, ce_obj ho.2.2 hci]
  subst hy
  refine va_runV (C := y.cls) ⟨hx, hb, hml, hown, ht⟩ hM ⟨callB_of np ht (js_goodIn w1) rfl rfl rfl (ht _ w2) (ht _ hl) w3 hR, ht _ w4, ht _ w5⟩ ⟨js_blind, va_recv hK hT.1 hc he, fun U hU hW => ⟨rfl, js_warm hW hNw, by rw [hU]; exact hT.1, va_K.moved hW.alike hK, hT.2.2⟩⟩ rfl hn hls hst (lv_room hrm) hdg hf
theorem js_runS (C : js_C D g p m c cc nL s args own) (hT : js_T D B g n σ s H locs) (mf : js_ms y bytes maxL ret np) (hl : Cond.methodLink own index y ∈ js_W) (hM : js_M l D B g n y bytes maxL ret k As σ Qc) (hR : k + 2 ≤ R.frames ∧ 8 + (maxL + 11) + 50 * (k + 1) ≤ R.locals) (hn : As.length = np) (hls : ls.size = nL) (hst : st = As.reverse ++ rest) (hrm : (rest.map fun v => v.category).sum ≤ 8) (hf : cells ≤ R.cells ∧ slots ≤ R.slots) (hdg : decode cc pc = .ok (.invokestatic index, 3)) :
    va_Run p l e R s m args below meth c H locs cells slots 0 0 (F0 m pc ls st) rest (Qc As.toArray) (fun q => B < q) := by
  obtain ⟨hx, hb, hml, hown, ht, hK, hNw⟩ := C
  obtain ⟨w1, w2, w3, w4⟩ := mf
  exact va_runS ⟨hx, hb, hml, hown, ht⟩ hM ⟨callB_of np ht (js_goodIn w1) rfl rfl rfl (ht _ w2) (ht _ hl) w3 hR, ht _ w4⟩ ⟨js_blind, fun U hU hW => ⟨rfl, js_warm hW hNw, by rw [hU]; exact hT.1, va_K.moved hW.alike hK, hT.2.2⟩⟩ rfl hn hls hst (lv_room hrm) hdg hf
theorem js_runVN (C : js_C D g p m c cc nL s args own) (hT : js_T D B g n σ s H locs) (cf : js_cf ci Cn T ty N) (ho : ob_ n ci o) (hy : y.cls = Cn) (mf : js_mi y bytes maxL ret np) {host : String} (hl : Cond.methodLinkNest own index y host ∈ js_N) (hM : js_M l D B g n y bytes maxL ret k (.ref (B + o) :: As) σ Qc) (hR : k + 2 ≤ R.frames ∧ 8 + (maxL + 11) + 50 * (k + 1) ≤ R.locals) (hn : As.length = np) (hls : ls.size = nL) (hst : st = As.reverse ++ .ref (B + o) :: rest) (hrm : (rest.map fun v => v.category).sum ≤ 8) (hf : cells ≤ R.cells ∧ slots ≤ R.slots) (hdg : decode cc pc = .ok (.invokevirtual index, 3)) :
    va_Run p l e R s m args below meth c H locs cells slots 0 0 (F0 m pc ls st) rest (Qc (Value.ref (B + o) :: As).toArray) (fun q => B < q) := by
  obtain ⟨hx, hb, hml, hown, ht, hK, hNw⟩ := C
  obtain ⟨hc, hN, hci, -, -, -⟩ := cf
  obtain ⟨w1, w2, w3, w4, w5⟩ := mf
  have he : (en_ B g σ n)[o - 1]? = some (B + o, .inr (ci, co_ B σ o ci)) := by rw [en_at ho.1 ho.2.1, ce_obj ho.2.2 hci]
  subst hy
  have hG := js_goodIn w1
  have hcw : Cond.code y bytes maxL ret ∈ js_ws y bytes maxL ret := List.mem_cons_self
  refine va_runVN (C := y.cls) (host := host) ⟨hx, hb, hml, hown, ht⟩ hM ⟨⟨⟨rfl, rfl, hR.1, hR.2, pay_in ht hG, hcw⟩, ht _ w1, ht _ w2, ⟨w3.1, w3.2.1⟩, fun sig h => ?_, va_Nw.use rfl (hNw _ hl)⟩, ht _ w4, ht _ w5⟩ ⟨js_blind, va_recv hK hT.1 hc he, fun U hU hW => ⟨rfl, js_warm hW hNw, by rw [hU]; exact hT.1, va_K.moved hW.alike hK, hT.2.2⟩⟩ rfl hn hls hst (lv_room hrm) hdg hf
  have h2 := w3.2.2
  rw [h] at h2
  exact (Option.some.inj h2).symm
theorem js_runSN (C : js_C D g p m c cc nL s args own) (hT : js_T D B g n σ s H locs) (mf : js_ms y bytes maxL ret np) {host : String} (hl : Cond.methodLinkNest own index y host ∈ js_N) (hM : js_M l D B g n y bytes maxL ret k As σ Qc) (hR : k + 2 ≤ R.frames ∧ 8 + (maxL + 11) + 50 * (k + 1) ≤ R.locals) (hn : As.length = np) (hls : ls.size = nL) (hst : st = As.reverse ++ rest) (hrm : (rest.map fun v => v.category).sum ≤ 8) (hf : cells ≤ R.cells ∧ slots ≤ R.slots) (hdg : decode cc pc = .ok (.invokestatic index, 3)) :
    va_Run p l e R s m args below meth c H locs cells slots 0 0 (F0 m pc ls st) rest (Qc As.toArray) (fun q => B < q) := by
  obtain ⟨hx, hb, hml, hown, ht, hK, hNw⟩ := C
  obtain ⟨w1, w2, w3, w4⟩ := mf
  have hG := js_goodIn w1
  have hcw : Cond.code y bytes maxL ret ∈ js_ws y bytes maxL ret := List.mem_cons_self
  refine va_runSN (host := host) ⟨hx, hb, hml, hown, ht⟩ hM ⟨⟨⟨rfl, rfl, hR.1, hR.2, pay_in ht hG, hcw⟩, ht _ w1, ht _ w2, ⟨w3.1, w3.2.1⟩, fun sig h => ?_, va_Nw.use rfl (hNw _ hl)⟩, ht _ w4, trivial⟩ ⟨js_blind, fun U hU hW => ⟨rfl, js_warm hW hNw, by rw [hU]; exact hT.1, va_K.moved hW.alike hK, hT.2.2⟩⟩ rfl hn hls hst (lv_room hrm) hdg hf
  have h2 := w3.2.2
  rw [h] at h2
  exact (Option.some.inj h2).symm
theorem js_backI {a : Array Value} {r : Int32} (hT : js_T D B g n σ s H locs) (hr : va_Run p l e R s m args below meth c H locs cells slots 0 0 (F0 m pc ls st) rest (js_QI D B g n r σ' a) (fun q => B < q))
    (kk : ∀ H locs, js_T D B g n σ' s H locs → W p l e R s m args below meth c H locs cells slots Q (F0 m (pc + 3) ls (.int r :: rest))) : W p l e R s m args below meth c H locs cells slots Q (F0 m pc ls st) := by
  refine va_calli hr hT.2.1 (fun _ _ h => h) (fun _ h => h) (fun r1 u t H1 locs1 ht hvm hw hB _ _ hS => ?_)
  obtain ⟨rfl, rfl⟩ := hw
  obtain ⟨hP, hK, hW⟩ := hB
  rw [ht] at hP
  exact kk H1 locs1 ⟨hP, hS, hW⟩
theorem js_backV {a : Array Value} (hT : js_T D B g n σ s H locs) (hr : va_Run p l e R s m args below meth c H locs cells slots 0 0 (F0 m pc ls st) rest (js_QV D B g n σ' a) (fun q => B < q))
    (kk : ∀ H locs, js_T D B g n σ' s H locs → W p l e R s m args below meth c H locs cells slots Q (F0 m (pc + 3) ls rest)) : W p l e R s m args below meth c H locs cells slots Q (F0 m pc ls st) := by
  refine va_callv hr hT.2.1 (fun _ _ h => h) (fun _ h => h) (fun u t H1 locs1 ht hvm hw hB _ _ hS => ?_)
  subst hw
  obtain ⟨hP, hK, hW⟩ := hB
  rw [ht] at hP
  exact kk H1 locs1 ⟨hP, hS, hW⟩
theorem js_backR {a : Array Value} {q r : Nat} (hT : js_T D B g n σ s H locs) (hr : va_Run p l e R s m args below meth c H locs cells slots 0 0 (F0 m pc ls st) rest (js_QR D B g n q r σ' a) (fun q => B < q))
    (kk : ∀ H locs, js_T D B g n σ' s H locs → ob_ n q r → W p l e R s m args below meth c H locs cells slots Q (F0 m (pc + 3) ls (.ref (B + r) :: rest))) : W p l e R s m args below meth c H locs cells slots Q (F0 m pc ls st) := by
  refine va_callr hr hT.2.1 (fun _ _ h => h) (fun _ h => h) (fun u ra t H1 locs1 ht hvm hw hB _ _ hS => ?_)
  obtain ⟨rfl, hob⟩ := hw
  obtain ⟨rfl, hP, hK, hW⟩ := hB
  rw [ht] at hP
  exact kk H1 locs1 ⟨hP, hS, hW⟩ hob
/-! ends -/
theorem js_iret {r : Int32} (C : js_C D g p m c cc nL s args own) (hT : js_T D B g n σ s H locs) (hr : meth.sig.returnType = some .int) (hk : meth.locks = false) (hdg : decode cc pc = .ok (.ireturn, 1)) : W p l e R s m args below meth c H locs 0 0 (MQ below (js_QI D B g n r σ) args s 0 0 (fun q => B < q)) (F0 m pc ls [.int r]) := by
  obtain ⟨hx, hb, hml, hown, ht, hK, hNw⟩ := C
  exact W.iret hx hb hr (fun t ht hW => ⟨⟨r, σ, rfl, ⟨rfl, rfl⟩, by rw [ht]; exact hT.1, va_K.moved hW.alike hK, hT.2.2⟩, hT.2.1.F ht⟩) hT.2.1.2.2 hdg hk
theorem js_zret {r : Int32} (C : js_C D g p m c cc nL s args own) (hT : js_T D B g n σ s H locs) (hr : meth.sig.returnType = some .boolean) (hk : meth.locks = false) (hz : nz_ r = r) (hdg : decode cc pc = .ok (.ireturn, 1)) : W p l e R s m args below meth c H locs 0 0 (MQ below (js_QI D B g n r σ) args s 0 0 (fun q => B < q)) (F0 m pc ls [.int r]) := by
  obtain ⟨hx, hb, hml, hown, ht, hK, hNw⟩ := C
  exact W.zret hx hb hr (nz_narrow hz) (fun t ht hW => ⟨⟨r, σ, rfl, ⟨rfl, rfl⟩, by rw [ht]; exact hT.1, va_K.moved hW.alike hK, hT.2.2⟩, hT.2.1.F ht⟩) hT.2.1.2.2 hdg hk
theorem js_vret (C : js_C D g p m c cc nL s args own) (hT : js_T D B g n σ s H locs) (hr : meth.sig.returnType = none) (hk : meth.locks = false) (hdg : decode cc pc = .ok (.return_, 1)) : W p l e R s m args below meth c H locs 0 0 (MQ below (js_QV D B g n σ) args s 0 0 (fun q => B < q)) (F0 m pc ls []) := by
  obtain ⟨hx, hb, hml, hown, ht, hK, hNw⟩ := C
  exact W.vret hx hb hr (fun t ht hW => ⟨⟨σ, rfl, rfl, by rw [ht]; exact hT.1, va_K.moved hW.alike hK, hT.2.2⟩, hT.2.1.F ht⟩) hT.2.1.2.2 hdg hk
theorem js_aret {q r : Nat} {rn : String} (C : js_C D g p m c cc nL s args own) (hT : js_T D B g n σ s H locs) (ho : ob_ n q r) (hr : meth.sig.returnType = some (.object rn)) (hk : meth.locks = false) (hdg : decode cc pc = .ok (.areturn, 1)) : W p l e R s m args below meth c H locs 0 0 (MQ below (js_QR D B g n q r σ) args s 0 0 (fun q => B < q)) (F0 m pc ls [.ref (B + r)]) := by
  obtain ⟨hx, hb, hml, hown, ht, hK, hNw⟩ := C
  exact W.aret hx hb hr (Or.inl ⟨rn, rfl⟩) (Or.inr ⟨_, rfl⟩) (fun t ht hW => ⟨⟨σ, B + r, rfl, ⟨rfl, ho⟩, rfl, by rw [ht]; exact hT.1, va_K.moved hW.alike hK, hT.2.2⟩, hT.2.1.F ht⟩) hT.2.1.2.2 hdg hk
end JR
/-- a method's contract out of its walk -/
theorem js_enter {l : Launch} {D : va_G} {B n : Nat} {g : js_G} {σ : js_S} {y : MethodName} {bytes : ByteArray} {maxL k : Nat} {ret : Option FieldType} {av : List Value} {Qc : Array Value → State → Outcome → State → Prop} (hy : plainName y.cls = true) (hlen : (lg_sl av).length ≤ maxL)
    (body : ∀ (p : Program) (e : Env) (s : State) (m : MethodId) (args : Array Value) (below : List Frame) (meth : Method) (c : Code), js_C D g p m c bytes maxL s args y.cls → meth.sig.returnType = ret → meth.locks = false → ∀ ls : Array Slot, lv_has ls maxL (lv_args 0 av) → js_T D B g n σ s s.heap [] →
      W p l e (js_rm k) s m args below meth c s.heap [] 0 0 (MQ below Qc args s 0 0 (fun q => B < q)) (F0 m 0 ls [])) : js_M l D B g n y bytes maxL ret k av σ Qc := by
  refine Met.ofW (cc := bytes) (maxL := maxL) (ret := ret) hy rfl ?_
  intro p e s m args below meth c s₁ Bd hml hv
  obtain ⟨rfl, hNw, hP, hK, hW⟩ := hv
  have hts := atoms_spec (ws := js_ws y bytes maxL ret) Bd.pre
  have hown : s.vm.findClass y.cls = some m.cls := findClass_of_methodNamed Bd.named
  have hl := lv_entry av (n := maxL) hlen
  rw [lg_entry_eq]
  exact body p e s m av.toArray below meth c ⟨Bd.exec, Bd.bytes, hml, hown, fun w h => hts w (List.mem_cons_of_mem _ h), hK, hNw⟩ Bd.returns Bd.notSynchronized _ hl ⟨hP, va_S.rf, hW⟩
