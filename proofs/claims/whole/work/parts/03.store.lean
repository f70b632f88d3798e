/-! the store: ints, longs and references of the cells 1 .. n, cell k at the address B + k -/
abbrev js_S : Type := (Nat → Nat → Int32) × (Nat → Nat → Int64) × (Nat → Nat → Nat)
def uI_ (σ : js_S) (o j : Nat) (x : Int32) : js_S := (fun a b => if a = o ∧ b = j then x else σ.1 a b, σ.2)
def uJ_ (σ : js_S) (o j : Nat) (x : Int64) : js_S := (σ.1, fun a b => if a = o ∧ b = j then x else σ.2.1 a b, σ.2.2)
def uR_ (σ : js_S) (o j : Nat) (x : Nat) : js_S := (σ.1, σ.2.1, fun a b => if a = o ∧ b = j then x else σ.2.2 a b)
/-- row copied: n places from o, i to p, j -/
def cI_ (σ : js_S) (o i p j n : Nat) : js_S := (fun a b => if a = p ∧ j ≤ b ∧ b < j + n then σ.1 o (i + (b - j)) else σ.1 a b, σ.2)
def cJ_ (σ : js_S) (o i p j n : Nat) : js_S := (σ.1, fun a b => if a = p ∧ j ≤ b ∧ b < j + n then σ.2.1 o (i + (b - j)) else σ.2.1 a b, σ.2.2)
def js_shL : List (Nat × Nat) := [(99, 0), (11, 0), (6, 0), (8, 0), (20, 128), (23, 6), (23, 6), (23, 4), (9, 0), (20, 40), (9, 0), (20, 40), (9, 0), (20, 40), (9, 0), (20, 40), (9, 0), (20, 40), (9, 0), (20, 40), (9, 0), (20, 40), (9, 0), (20, 40), (9, 0), (20, 40), (9, 0), (20, 40), (9, 0), (20, 40), (9, 0), (20, 40), (9, 0), (20, 40), (9, 0), (20, 40), (9, 0), (20, 40), (9, 0), (20, 40), (9, 0), (20, 40), (6, 0), (8, 0), (20, 128), (23, 6), (23, 6), (23, 4), (9, 0), (20, 40), (9, 0), (20, 40), (9, 0), (20, 40), (9, 0), (20, 40), (9, 0), (20, 40), (9, 0), (20, 40), (9, 0), (20, 40), (9, 0), (20, 40), (9, 0), (20, 40), (9, 0), (20, 40), (9, 0), (20, 40), (9, 0), (20, 40), (9, 0), (20, 40), (9, 0), (20, 40), (9, 0), (20, 40), (9, 0), (20, 40), (9, 0), (20, 40), (10, 0), (20, 80), (20, 80), (10, 0), (20, 160), (20, 160), (7, 0), (20, 3), (23, 101), (9, 0), (20, 40), (9, 0), (20, 40), (9, 0), (20, 40), (9, 0), (20, 40), (9, 0), (20, 40), (9, 0), (20, 40), (9, 0), (20, 40), (9, 0), (20, 40), (9, 0), (20, 40), (9, 0), (20, 40), (9, 0), (20, 40), (9, 0), (20, 40), (9, 0), (20, 40), (9, 0), (20, 40), (9, 0), (20, 40), (9, 0), (20, 40), (9, 0), (20, 40), (9, 0), (20, 40), (9, 0), (20, 40), (9, 0), (20, 40), (9, 0), (20, 40), (9, 0), (20, 40), (9, 0), (20, 40), (9, 0), (20, 40), (9, 0), (20, 40), (9, 0), (20, 40), (9, 0), (20, 40), (9, 0), (20, 40), (9, 0), (20, 40), (9, 0), (20, 40), (9, 0), (20, 40), (9, 0), (20, 40), (9, 0), (20, 40), (9, 0), (20, 40), (9, 0), (20, 40), (9, 0), (20, 40), (9, 0), (20, 40), (9, 0), (20, 40), (9, 0), (20, 40), (9, 0), (20, 40), (9, 0), (20, 40), (9, 0), (20, 40), (9, 0), (20, 40), (9, 0), (20, 40), (9, 0), (20, 40), (9, 0), (20, 40), (9, 0), (20, 40), (9, 0), (20, 40), (9, 0), (20, 40), (9, 0), (20, 40), (9, 0), (20, 40), (9, 0), (20, 40), (9, 0), (20, 40), (9, 0), (20, 40), (9, 0), (20, 40), (9, 0), (20, 40), (9, 0), (20, 40), (9, 0), (20, 40), (9, 0), (20, 40), (9, 0), (20, 40), (9, 0), (20, 40), (9, 0), (20, 40), (9, 0), (20, 40), (9, 0), (20, 40), (9, 0), (20, 40), (9, 0), (20, 40), (9, 0), (20, 40), (9, 0), (20, 40), (9, 0), (20, 40), (9, 0), (20, 40), (9, 0), (20, 40), (9, 0), (20, 40), (9, 0), (20, 40), (9, 0), (20, 40), (9, 0), (20, 40), (9, 0), (20, 40), (9, 0), (20, 40), (9, 0), (20, 40), (9, 0), (20, 40), (9, 0), (20, 40), (9, 0), (20, 40), (9, 0), (20, 40), (9, 0), (20, 40), (9, 0), (20, 40), (9, 0), (20, 40), (9, 0), (20, 40), (9, 0), (20, 40), (9, 0), (20, 40), (9, 0), (20, 40), (9, 0), (20, 40), (9, 0), (20, 40), (9, 0), (20, 40), (9, 0), (20, 40), (9, 0), (20, 40), (9, 0), (20, 40), (9, 0), (20, 40), (9, 0), (20, 40), (9, 0), (20, 40), (9, 0), (20, 40), (9, 0), (20, 40), (9, 0), (20, 40), (3, 0), (23, 31), (22, 31), (9, 0), (20, 40), (9, 0), (20, 40), (9, 0), (20, 40), (9, 0), (20, 40), (9, 0), (20, 40), (9, 0), (20, 40), (9, 0), (20, 40), (9, 0), (20, 40), (9, 0), (20, 40), (9, 0), (20, 40), (9, 0), (20, 40), (9, 0), (20, 40), (9, 0), (20, 40), (9, 0), (20, 40), (9, 0), (20, 40), (9, 0), (20, 40), (9, 0), (20, 40), (9, 0), (20, 40), (9, 0), (20, 40), (9, 0), (20, 40), (9, 0), (20, 40), (9, 0), (20, 40), (9, 0), (20, 40), (9, 0), (20, 40), (9, 0), (20, 40), (9, 0), (20, 40), (9, 0), (20, 40), (9, 0), (20, 40), (9, 0), (20, 40), (9, 0), (20, 40), (9, 0), (20, 40), (9, 0), (20, 40), (9, 0), (20, 40), (9, 0), (20, 40), (9, 0), (20, 40), (5, 0), (20, 240), (20, 240), (20, 240), (4, 0), (21, 960), (1, 0), (4, 0), (21, 960), (4, 0), (21, 960), (20, 240), (0, 0), (20, 400), (20, 1024), (2, 0), (1, 0), (4, 0), (21, 960), (4, 0), (21, 960), (20, 240), (20, 3), (20, 3), (12, 0), (20, 3), (20, 3), (20, 1152), (20, 1152), (20, 384), (20, 384), (20, 3), (20, 3), (20, 96), (20, 80), (20, 96), (20, 96), (20, 240), (20, 240), (21, 960), (21, 960), (22, 240), (20, 240), (20, 401), (20, 9), (20, 9), (22, 177147), (20, 9), (20, 3), (22, 3), (22, 240), (20, 160), (20, 115296), (22, 1201)]
def kd_ (o : Nat) : Nat := (js_shL.getD o (99, 0)).1
def ln_ (o : Nat) : Nat := (js_shL.getD o (99, 0)).2
def nf_ (k : Nat) : Nat := ([6, 5, 4, 8, 1, 5, 6, 2, 1, 2, 4, 16, 41] : List Nat).getD k 0
def fk_ (k j : Nat) : Nat := (([[20, 20, 30, 30, 30, 30], [4, 4, 20, 30, 30], [1, 20, 20, 30], [23, 22, 9, 9, 9, 30, 30, 30], [21], [20, 20, 20, 4, 30], [8, 23, 23, 23, 9, 30], [20, 23], [20], [20, 30], [20, 20, 30, 30], [6, 6, 30, 10, 10, 7, 3, 9, 5, 30, 1, 30, 0, 30, 2, 30], [20, 20, 20, 20, 20, 20, 30, 30, 30, 20, 20, 20, 20, 20, 20, 30, 30, 20, 20, 21, 21, 22, 20, 30, 30, 20, 20, 20, 22, 30, 20, 20, 22, 22, 20, 30, 20, 22, 30, 30, 30]] : List (List Nat)).getD k []).getD j 30
abbrev js_cls : List vw_C := [(RX0, TX0, 6), (RX1, TX1, 5), (RX2, TX2, 4), (RX3, TX3, 8), (RX4, TX4, 1), (RX5, TX5, 5), (RX6, TX6, 6), (RX7, TX7, 2), (RX8, TX8, 1), (RX9, TX9, 2), (RX10, TX10, 4), (RX11, TX11, 16), (RX12, TX12, 41)]

def rf_ (B r : Nat) : Option Nat := if r = 0 then none else some (B + r)
theorem rf_pos {B r : Nat} (h : 0 < r) : va_rf (rf_ B r) = .ref (B + r) := by
  unfold rf_
  rw [if_neg (by omega)]
  rfl
def fv_ (B : Nat) (σ : js_S) (o q j : Nat) : Value := if q = 30 then .int (σ.1 o j) else va_rf (rf_ B (σ.2.2 o j))
def co_ (B : Nat) (σ : js_S) (o k : Nat) : List Value := (List.range (nf_ k)).map fun j => fv_ B σ o (fk_ k j) j
abbrev js_G : Type := ClassId × ClassId × ClassId × ClassId
def ce_ (B : Nat) (g : js_G) (σ : js_S) (o : Nat) : va_E :=
  if kd_ o = 20 then .inl (g.1, ln_ o, .inl (σ.1 o)) else if kd_ o = 21 then .inl (g.2.1, ln_ o, .inr (.inl (σ.2.1 o))) else if kd_ o = 22 then .inl (g.2.2.1, ln_ o, .inl (σ.1 o)) else if kd_ o = 23 then .inl (g.2.2.2, ln_ o, .inr (.inr (.inr (.inr (fun i => rf_ B (σ.2.2 o i)))))) else .inr (kd_ o, co_ B σ o (kd_ o))
def en_ (B : Nat) (g : js_G) (σ : js_S) (n : Nat) : va_W := (List.range n).map fun k => (B + (k + 1), ce_ B g σ (k + 1))
def js_tys (g : js_G) : List (ClassId × FieldType) := [(g.1, .int), (g.2.1, .long), (g.2.2.1, .boolean), (g.2.2.2, .object RX9)]
def ob_ (n k o : Nat) : Prop := 0 < o ∧ o ≤ n ∧ kd_ o = k
def wf_ (n : Nat) (r : Nat → Nat → Nat) : Prop := (∀ k o j, ob_ n k o → k < 13 → j < nf_ k → fk_ k j ≠ 30 → ob_ n (fk_ k j) (r o j)) ∧ ∀ o j, ob_ n 23 o → j < ln_ o → ob_ n 9 (r o j)
theorem en_at {B n o : Nat} {g : js_G} {σ : js_S} (h0 : 0 < o) (h1 : o ≤ n) : (en_ B g σ n)[o - 1]? = some (B + o, ce_ B g σ o) := by
  unfold en_
  rw [List.getElem?_map, List.getElem?_range (by omega)]
  show some (B + (o - 1 + 1), ce_ B g σ (o - 1 + 1)) = _
  rw [show o - 1 + 1 = o by omega]
theorem en_set {B n o : Nat} {g : js_G} {σ σ' : js_S} (h0 : 0 < o) (h1 : o ≤ n) (h : ∀ a, a ≠ o → ce_ B g σ' a = ce_ B g σ a) : (en_ B g σ n).set (o - 1) (B + o, ce_ B g σ' o) = en_ B g σ' n := by
  apply List.ext_getElem?
  intro i
  by_cases hi : i < n
  · by_cases he : o - 1 = i
    · subst he
      rw [List.getElem?_set_self (by unfold en_; simp; omega), en_at h0 h1]
    · rw [List.getElem?_set_ne he]
      have e1 := en_at (B := B) (g := g) (σ := σ) (n := n) (o := i + 1) (by omega) (by omega)
      have e2 := en_at (B := B) (g := g) (σ := σ') (n := n) (o := i + 1) (by omega) (by omega)
      rw [Nat.add_sub_cancel] at e1 e2
      rw [e1, e2, h (i + 1) (by omega)]
  · rw [List.getElem?_eq_none (by simp [en_]; omega), List.getElem?_eq_none (by simp [en_]; omega)]
theorem en_push {B n : Nat} {g : js_G} {σ : js_S} : en_ B g σ (n + 1) = en_ B g σ n ++ [(B + (n + 1), ce_ B g σ (n + 1))] := by
  unfold en_
  rw [List.range_succ, List.map_append]
  rfl
theorem en_D {B n : Nat} {g : js_G} {σ : js_S} : va_D (fun q => B < q) (en_ B g σ n) := by
  have key : ∀ (k : Nat) (q : Nat × va_E), (en_ B g σ n)[k]? = some q → q.1 = B + (k + 1) := by
    intro k q h
    unfold en_ at h
    rw [List.getElem?_map] at h
    by_cases hk : k < n
    · rw [List.getElem?_range hk] at h
      cases h
      rfl
    · rw [List.getElem?_eq_none (by simp; omega)] at h
      cases h
  refine ⟨fun i j x y hi hj he => ?_, fun k q h => ?_⟩
  · have a := key i x hi
    have b := key j y hj
    omega
  · have a := key k q h
    show B < q.1
    omega
theorem co_at {B o k j : Nat} {σ : js_S} (h : j < nf_ k) : (co_ B σ o k)[j]? = some (fv_ B σ o (fk_ k j) j) := by
  unfold co_
  rw [List.getElem?_map, List.getElem?_range h]
  rfl
theorem co_len {B o k : Nat} {σ : js_S} : (co_ B σ o k).length = nf_ k := by
  unfold co_
  simp
theorem ce_obj {B o k : Nat} {g : js_G} {σ : js_S} (h : kd_ o = k) (hk : k < 13) : ce_ B g σ o = .inr (k, co_ B σ o k) := by
  unfold ce_
  rw [h, if_neg (by omega), if_neg (by omega), if_neg (by omega), if_neg (by omega)]
theorem ce_i {B o : Nat} {g : js_G} {σ : js_S} (h : kd_ o = 20) : ce_ B g σ o = .inl (g.1, ln_ o, .inl (σ.1 o)) := by
  unfold ce_
  rw [if_pos h]
theorem ce_j {B o : Nat} {g : js_G} {σ : js_S} (h : kd_ o = 21) : ce_ B g σ o = .inl (g.2.1, ln_ o, .inr (.inl (σ.2.1 o))) := by
  unfold ce_
  rw [h, if_neg (by omega), if_pos rfl]
theorem ce_z {B o : Nat} {g : js_G} {σ : js_S} (h : kd_ o = 22) : ce_ B g σ o = .inl (g.2.2.1, ln_ o, .inl (σ.1 o)) := by
  unfold ce_
  rw [h, if_neg (by omega), if_neg (by omega), if_pos rfl]
theorem ce_t {B o : Nat} {g : js_G} {σ : js_S} (h : kd_ o = 23) : ce_ B g σ o = .inl (g.2.2.2, ln_ o, .inr (.inr (.inr (.inr (fun i => rf_ B (σ.2.2 o i)))))) := by
  unfold ce_
  rw [h, if_neg (by omega), if_neg (by omega), if_neg (by omega), if_pos rfl]
theorem ce_same {B a : Nat} {g : js_G} {σ σ' : js_S} (h1 : σ'.1 a = σ.1 a) (h2 : σ'.2.1 a = σ.2.1 a) (h3 : σ'.2.2 a = σ.2.2 a) : ce_ B g σ' a = ce_ B g σ a := by
  have h : co_ B σ' a (kd_ a) = co_ B σ a (kd_ a) := by
    unfold co_
    apply List.map_congr_left
    intro j _
    unfold fv_
    rw [h1, h3]
  unfold ce_
  rw [h1, h2, h3, h]
theorem ce_uI {B a o j : Nat} {x : Int32} {g : js_G} {σ : js_S} (h : a ≠ o) : ce_ B g (uI_ σ o j x) a = ce_ B g σ a := ce_same (by funext b; simp [uI_, h]) rfl rfl
theorem ce_uJ {B a o j : Nat} {x : Int64} {g : js_G} {σ : js_S} (h : a ≠ o) : ce_ B g (uJ_ σ o j x) a = ce_ B g σ a := ce_same rfl (by funext b; simp [uJ_, h]) rfl
theorem ce_uR {B a o j x : Nat} {g : js_G} {σ : js_S} (h : a ≠ o) : ce_ B g (uR_ σ o j x) a = ce_ B g σ a := ce_same rfl rfl (by funext b; simp [uR_, h])
theorem ce_cI {B a o i p j n : Nat} {g : js_G} {σ : js_S} (h : a ≠ p) : ce_ B g (cI_ σ o i p j n) a = ce_ B g σ a := ce_same (by funext b; simp [cI_, h]) rfl rfl
theorem ce_cJ {B a o i p j n : Nat} {g : js_G} {σ : js_S} (h : a ≠ p) : ce_ B g (cJ_ σ o i p j n) a = ce_ B g σ a := ce_same rfl (by funext b; simp [cJ_, h]) rfl
theorem co_uI {B o k j : Nat} {x : Int32} {σ : js_S} (h : j < nf_ k) (hf : fk_ k j = 30) : co_ B (uI_ σ o j x) o k = (co_ B σ o k).set j (.int x) := by
  apply List.ext_getElem?
  intro i
  by_cases hi : i < nf_ k
  · rw [co_at hi]
    by_cases he : j = i
    · subst he
      rw [List.getElem?_set_self (by rw [co_len]; exact h)]
      simp [fv_, hf, uI_]
    · rw [List.getElem?_set_ne he, co_at hi]
      have : ¬ i = j := fun q => he q.symm
      simp [fv_, uI_, this]
  · rw [List.getElem?_eq_none (by rw [co_len]; omega), List.getElem?_eq_none (by rw [List.length_set, co_len]; omega)]
theorem co_uR {B o k j r : Nat} {σ : js_S} (h : j < nf_ k) (hf : fk_ k j ≠ 30) : co_ B (uR_ σ o j r) o k = (co_ B σ o k).set j (va_rf (rf_ B r)) := by
  apply List.ext_getElem?
  intro i
  by_cases hi : i < nf_ k
  · rw [co_at hi]
    by_cases he : j = i
    · subst he
      rw [List.getElem?_set_self (by rw [co_len]; exact h)]
      simp [fv_, hf, uR_]
    · rw [List.getElem?_set_ne he, co_at hi]
      have : ¬ i = j := fun q => he q.symm
      simp [fv_, uR_, this]
  · rw [List.getElem?_eq_none (by rw [co_len]; omega), List.getElem?_eq_none (by rw [List.length_set, co_len]; omega)]
/-! places in rows -/
def ib_ (i : Int32) (n : Nat) : Bool := decide (0 ≤ i) && decide (i.toNatClampNeg < n)
theorem ib_in {i : Int32} {n : Nat} (h : ib_ i n = true) : vp_in i n := by
  unfold ib_ at h
  simp only [Bool.and_eq_true, decide_eq_true_eq] at h
  unfold vp_in
  intro q
  rcases q with q | q
  · exact absurd h.1 (by rw [Int32.not_le]; exact q)
  · omega
/-! what the functions are made of -/
def bd_ {α β : Type} (x : Option (α × js_S)) (f : α → js_S → Option β) : Option β := match x with
  | none => none
  | some q => f q.1 q.2
theorem bd_some {α β : Type} {x : Option (α × js_S)} {f : α → js_S → Option β} {y : β} (h : bd_ x f = some y) : ∃ (r : α) (σ : js_S), x = some (r, σ) ∧ f r σ = some y := by
  cases x with
  | none => cases h
  | some q => exact ⟨q.1, q.2, rfl, h⟩
theorem gd_some {α : Type} {c : Prop} {x : Option α} {y : α} (hc : Decidable c) (h : (if c then x else none) = some y) : c ∧ x = some y := by
  by_cases q : c
  · rw [if_pos q] at h
    exact ⟨q, h⟩
  · rw [if_neg q] at h
    cases h
def nz_ (x : Int32) : Int32 := vp_nar .boolean x
theorem nz_narrow {x : Int32} (h : nz_ x = x) : narrow .boolean (.int x) = .int x := by
  unfold nz_ vp_nar at h
  revert h
  simp only [narrow]
  intro h
  rw [h]

