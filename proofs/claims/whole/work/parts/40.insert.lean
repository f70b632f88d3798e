/-! the class's row of found terms -/
abbrev ka_ (K : js_F) (j : Nat) : List Int32 × Bool := K.getD j ([], false)
theorem ka_ins {K : js_F} {p j : Nat} {x : List Int32 × Bool} (hp : p ≤ K.length) : ka_ (K.take p ++ x :: K.drop p) j = if j < p then ka_ K j else if j = p then x else ka_ K (j - 1) := by
  unfold ka_
  rw [List.getD_eq_getElem?_getD, List.getD_eq_getElem?_getD, List.getD_eq_getElem?_getD, List.getElem?_append, List.length_take, Nat.min_eq_left hp]
  by_cases h1 : j < p
  · rw [if_pos h1, if_pos h1, List.getElem?_take_of_lt h1]
  · rw [if_neg h1, if_neg h1]
    by_cases h2 : j = p
    · rw [if_pos h2, h2, Nat.sub_self]
      rfl
    · rw [if_neg h2, show j - p = (j - p - 1) + 1 by omega, List.getElem?_cons_succ, List.getElem?_drop, show p + (j - p - 1) = j - 1 by omega]
theorem ka_take {K : js_F} {n j : Nat} (h : j < n) : ka_ (K.take n) j = ka_ K j := by
  unfold ka_
  rw [List.getD_eq_getElem?_getD, List.getD_eq_getElem?_getD, List.getElem?_take_of_lt h]
theorem ka_drop {K : js_F} {j : Nat} (h : j < K.length) : K.drop j = ka_ K j :: K.drop (j + 1) := by
  unfold ka_
  rw [List.drop_eq_getElem_cons h, List.getD_eq_getElem?_getD, List.getElem?_eq_getElem h]
  rfl
def cs_ (σ : js_S) (K : js_F) : Prop := fd_ σ.2.2 ∧ K.length ≤ 30 ∧ σ.1 293 5 = nI K.length ∧ ∀ j, j < K.length → tm_ σ (σ.2.2 294 j) (ka_ K j).1 ∧ σ.1 295 j = bi_ (ka_ K j).2 ∧ (ka_ K j).1.length ≤ 40
def fh_ (S : Nat → Prop) (σ σ' : js_S) : Prop := (∀ o, o ≠ 294 → σ'.2.2 o = σ.2.2 o) ∧ (fd_ σ.2.2 → fd_ σ'.2.2) ∧ σ'.2.1 = σ.2.1 ∧ ∀ a, ¬ S a → σ'.1 a = σ.1 a
theorem fh_rf {S : Nat → Prop} {σ : js_S} : fh_ S σ σ := ⟨fun _ _ => rfl, fun h => h, rfl, fun _ _ => rfl⟩
theorem fh_fi {S S2 : Nat → Prop} {σ σ' : js_S} (h : fi_ S σ σ') (hS : ∀ a, ¬ S2 a → ¬ S a) : fh_ S2 σ σ' := ⟨fun o _ => by rw [h.1], fun q => by rw [h.1]; exact q, by rw [h.1], fun a q => h.2 a (hS a q)⟩
theorem fh_tr {S S2 S3 : Nat → Prop} {σ σ1 σ2 : js_S} (h1 : fh_ S σ σ1) (h2 : fh_ S2 σ1 σ2) (ha : ∀ a, ¬ S3 a → ¬ S a) (hb : ∀ a, ¬ S3 a → ¬ S2 a) : fh_ S3 σ σ2 := ⟨fun o q => (h2.1 o q).trans (h1.1 o q), fun q => h2.2.1 (h1.2.1 q), h2.2.2.1.trans h1.2.2.1, fun a q => (h2.2.2.2 a (hb a q)).trans (h1.2.2.2 a (ha a q))⟩
theorem cs_fi {S : Nat → Prop} {σ σ' : js_S} {K : js_F} (h : fi_ S σ σ') (hS : ∀ a, a = 293 ∨ a = 295 ∨ (302 ≤ a ∧ a ≤ 363) → ¬ S a) (hc : cs_ σ K) : cs_ σ' K := by
  refine ⟨by rw [fi_r h]; exact hc.1, hc.2.1, by rw [h.2 293 (hS _ (by omega))]; exact hc.2.2.1, fun j hj => ?_⟩
  have h1 := hc.2.2.2 j hj
  have h30 := hc.2.1
  obtain ⟨i, hi, e⟩ := hc.1.1 j (by omega)
  rw [fi_r h, h.2 295 (hS _ (by omega))]
  rw [e] at h1 ⊢
  exact ⟨tm_fi h (hS _ (by omega)) (hS _ (by omega)) h1.1, h1.2⟩
/-- rows shifted up from r to last -/
def sf_ (σ : js_S) (last r : Nat) : js_S := (fun a b => if a = 295 ∧ r < b ∧ b ≤ last then σ.1 295 (b - 1) else σ.1 a b, σ.2.1, fun a b => if a = 294 ∧ r < b ∧ b ≤ last then σ.2.2 294 (b - 1) else σ.2.2 a b)
theorem sf_0 {σ : js_S} {last : Nat} : sf_ σ last last = σ := by
  unfold sf_
  refine Prod.ext (funext fun a => funext fun b => ?_) (Prod.ext rfl (funext fun a => funext fun b => ?_))
  · show (if _ then _ else _) = _
    rw [if_neg (by omega)]
  · show (if _ then _ else _) = _
    rw [if_neg (by omega)]
theorem sf_s {σ : js_S} {last r : Nat} (h0 : 0 < r) (hr : r ≤ last) : uI_ (uR_ (sf_ σ last r) 294 r (σ.2.2 294 (r - 1))) 295 r (σ.1 295 (r - 1)) = sf_ σ last (r - 1) := by
  refine Prod.ext (funext fun a => funext fun b => ?_) (Prod.ext rfl (funext fun a => funext fun b => ?_))
  · show (if a = 295 ∧ b = r then σ.1 295 (r - 1) else if a = 295 ∧ r < b ∧ b ≤ last then σ.1 295 (b - 1) else σ.1 a b) = if a = 295 ∧ r - 1 < b ∧ b ≤ last then σ.1 295 (b - 1) else σ.1 a b
    by_cases c1 : a = 295 ∧ b = r
    · rw [if_pos c1, if_pos (by omega), c1.2]
    · rw [if_neg c1]
      by_cases c2 : a = 295 ∧ r < b ∧ b ≤ last
      · rw [if_pos c2, if_pos (by omega)]
      · rw [if_neg c2, if_neg (by omega)]
  · show (if a = 294 ∧ b = r then σ.2.2 294 (r - 1) else if a = 294 ∧ r < b ∧ b ≤ last then σ.2.2 294 (b - 1) else σ.2.2 a b) = if a = 294 ∧ r - 1 < b ∧ b ≤ last then σ.2.2 294 (b - 1) else σ.2.2 a b
    by_cases c1 : a = 294 ∧ b = r
    · rw [if_pos c1, if_pos (by omega), c1.2]
    · rw [if_neg c1]
      by_cases c2 : a = 294 ∧ r < b ∧ b ≤ last
      · rw [if_pos c2, if_pos (by omega)]
      · rw [if_neg c2, if_neg (by omega)]
theorem sf_l {σ : js_S} {last r : Nat} (hl : lx_ σ.2.2) : lx_ (sf_ σ last r).2.2 := lx_eq (fun o ho => funext fun b => by
  show (if _ then _ else _) = _
  rw [if_neg (fun z => ho z.1)]) hl
theorem x3_ins_loop {σ : js_S} {K : js_F} {o sp p : Nat} (hl : lx_ σ.2.2) (hc : cs_ σ K) :
    ∀ (d r k : Nat), p + d = r → d < k → r ≤ K.length → fX3_insert_21 5000 k 293 o (nI p) sp (nI r) (sf_ σ K.length r) = fX3_insert_21 5000 (k - d) 293 o (nI p) sp (nI p) (sf_ σ K.length p) := by
  have h30 := hc.2.1
  intro d
  induction d with
  | zero =>
    intro r k hr hk hrl
    have : r = p := by omega
    subst this
    rfl
  | succ d ih =>
    intro r k hr hk hrl
    obtain ⟨k, rfl⟩ : ∃ j, k = j + 1 := ⟨k - 1, by omega⟩
    rw [sX3_insert_21]
    unfold fX3_insert_21b
    have l1 := sf_l (last := K.length) (r := r) hl
    have l2 : lx_ (uR_ (sf_ σ K.length r) 294 r (σ.2.2 294 (r - 1))).2.2 := lx_eq (fun o ho => funext fun b => by
      show (if _ then _ else _) = _
      rw [if_neg (fun z => ho z.1)]) l1
    have v1 : (sf_ σ K.length r).2.2 294 (r - 1) = σ.2.2 294 (r - 1) := by
      show (if _ then _ else _) = _
      rw [if_neg (by omega)]
    have v2 : (uR_ (sf_ σ K.length r) 294 r (σ.2.2 294 (r - 1))).1 295 (r - 1) = σ.1 295 (r - 1) := by
      show (if _ then _ else _) = _
      rw [if_neg (by omega)]
    have v3 : nz_ (σ.1 295 (r - 1)) = σ.1 295 (r - 1) := by
      rw [(hc.2.2.2 (r - 1) (by omega)).2.1]
      exact bi_nz _
    have v4 : nI r + (-1) = nI (r - 1) := by
      rw [← Int32.sub_eq_add_neg]
      exact n_pred (by omega)
    rw [if_neg (fun z => by have := (n_le (by omega) (by omega)).mp z; omega), n_pred (by omega), lx_293_0 l1, ln_294, n_ib (by omega), if_pos (by simp; omega), n_ib (by omega), if_pos (by simp; omega), n_cl (by omega), n_cl (by omega), v1, lt_s_, lx_293_1 l2, ln_295, n_ib (by omega), if_pos (by simp; omega), n_ib (by omega), if_pos (by simp; omega), v2, v3, lt_s_, sf_s (by omega) hrl, v4, ih (r - 1) k (by omega) (by omega) (by omega), show k + 1 - (d + 1) = k - d by omega]
/-- where the rows come from -/
def pf_ (p last j : Nat) : Nat := if j = p then last else if p < j ∧ j ≤ last then j - 1 else j
theorem x3_insert {σ : js_S} {K : js_F} {o p : Nat} {u : List Int32} (hl : lx_ σ.2.2) (hc : cs_ σ K) (hp : p ≤ K.length) (hp30 : p < 30) (ho : to_ σ o) (ho2 : o + 1 < 293 ∨ o = 296) (hu : tm_ σ o u) (hu40 : u.length ≤ 40) :
    ∃ σ', fX3_insert 5000 293 o (nI p) σ = some ((), σ') ∧ fh_ (fun a => a = 293 ∨ a = 295 ∨ (302 ≤ a ∧ a ≤ 363)) σ σ' ∧ (∀ b, b ≠ 5 → σ'.1 293 b = σ.1 293 b) ∧ cs_ σ' ((K.take p ++ (u, false) :: K.drop p).take 30) := by
  have h30 := hc.2.1
  have l1 := sf_l (last := K.length) (r := p) hl
  obtain ⟨s, hs, esp⟩ := hc.1.1 K.length (by omega)
  have tsp : to_ (sf_ σ K.length p) (302 + 2 * s) := to_found l1 s hs
  have to1 : to_ (sf_ σ K.length p) o := by
    refine ⟨?_, ho.2⟩
    show (if _ then _ else _) = _
    rw [if_neg (by omega)]
    exact ho.1
  have i1 : ∀ a, a ≠ 295 → (sf_ σ K.length p).1 a = σ.1 a := fun a ha => funext fun b => by
    show (if _ then _ else _) = _
    rw [if_neg (by omega)]
  have tu1 : tm_ (sf_ σ K.length p) o u := tm_eq (i1 _ (by omega)) (i1 _ (by omega)) hu
  obtain ⟨σ2, r2, f2, t2⟩ := x9_copyFrom (fu := 5000) tsp to1 tu1 (by omega)
  have l2 : lx_ σ2.2.2 := by rw [fi_r f2]; exact l1
  have l3 : lx_ (uR_ σ2 294 p (302 + 2 * s)).2.2 := lx_eq (fun o ho => funext fun b => by
      show (if _ then _ else _) = _
      rw [if_neg (fun z => ho z.1)]) l2
  have cnt : σ2.1 293 5 = nI K.length := by rw [f2.2 293 (by omega), i1 293 (by omega)]; exact hc.2.2.1
  have ecnt : (if 30 < nI K.length + 1 then (30 : Int32) else nI K.length + 1) = nI (min (K.length + 1) 30) := by
    rw [show nI K.length + 1 = nI (K.length + 1) from n_add K.length 1]
    by_cases c : K.length = 30
    · have c1 : 30 < nI (K.length + 1) := (n_lt (a := 30) (by omega) (by omega)).mpr (by omega)
      rw [if_pos c1, Nat.min_eq_right (by omega)]
      rfl
    · have c1 : ¬ 30 < nI (K.length + 1) := fun z => by have := (n_lt (a := 30) (by omega) (by omega)).mp z; omega
      rw [if_neg c1, Nat.min_eq_left (by omega)]
  refine ⟨uI_ (uI_ (uR_ σ2 294 p (302 + 2 * s)) 295 p 0) 293 5 (nI (min (K.length + 1) 30)), ?_, ?_, ?_, ?_⟩
  · unfold fX3_insert
    have c30 : ¬ 30 < nI K.length := fun z => by have := (n_lt (a := 30) (by omega) (by omega)).mp z; omega
    have e0 := x3_ins_loop (o := o) (sp := 302 + 2 * s) (p := p) hl hc (K.length - p) K.length 5000 (by omega) (by omega) (Nat.le_refl _)
    rw [sf_0] at e0
    rw [hc.2.2.1, if_neg c30, lx_293_0 hl, ln_294, n_ib (by omega), if_pos (by simp; omega), n_cl (by omega), esp, e0, show 5000 - (K.length - p) = (5000 - (K.length - p) - 1) + 1 by omega, sX3_insert_21]
    unfold fX3_insert_21b
    rw [if_pos (Int32.le_refl _), r2, bd_s, lx_293_0 l2, ln_294, n_ib (by omega), if_pos (by simp; omega), n_cl (by omega), lt_s_, lx_293_1 l3, ln_295, n_ib (by omega), if_pos (by simp; omega), lt_s_, nz0, lt_s_]
    have e5 : (uI_ (uR_ σ2 294 p (302 + 2 * s)) 295 p 0).1 293 5 = nI K.length := by rw [uI_ne (by omega)]; exact cnt
    rw [e5, ecnt]
  · have href : ∀ j, (uI_ (uI_ (uR_ σ2 294 p (302 + 2 * s)) 295 p 0) 293 5 (nI (min (K.length + 1) 30))).2.2 294 j = σ.2.2 294 (pf_ p K.length j) := by
      intro j
      show (if 294 = 294 ∧ j = p then 302 + 2 * s else σ2.2.2 294 j) = _
      rw [fi_r f2]
      unfold pf_
      by_cases c : j = p
      · rw [if_pos ⟨rfl, c⟩, if_pos c, esp]
      · rw [if_neg (fun z => c z.2), if_neg c]
        show (if 294 = 294 ∧ p < j ∧ j ≤ K.length then _ else _) = _
        by_cases c2 : p < j ∧ j ≤ K.length
        · rw [if_pos ⟨rfl, c2⟩, if_pos c2]
        · rw [if_neg (fun z => c2 z.2), if_neg c2]
    refine ⟨fun q hq => ?_, fun hf => ⟨fun j hj => ?_, fun j k hj hk e => ?_⟩, ?_, fun a ha => ?_⟩
    · funext b
      show (if q = 294 ∧ b = p then _ else σ2.2.2 q b) = _
      rw [if_neg (fun z => hq z.1), fi_r f2]
      show (if _ then _ else _) = _
      rw [if_neg (fun z => hq z.1)]
    · rw [href]
      refine hf.1 _ ?_
      unfold pf_
      split
      · omega
      · split <;> omega
    · rw [href, href] at e
      have hb : ∀ i, i < 31 → pf_ p K.length i < 31 := by
        intro i hi
        unfold pf_
        split
        · omega
        · split <;> omega
      have := hf.2 _ _ (hb j hj) (hb k hk) e
      unfold pf_ at this
      split at this <;> split at this <;> (try split at this) <;> (try split at this) <;> omega
    · show σ2.2.1 = σ.2.1
      rw [f2.1]
      rfl
    · rw [uI_row (by omega), uI_row (by omega)]
      show σ2.1 a = σ.1 a
      rw [f2.2 a (by omega), i1 a (by omega)]
  · intro b hb
    rw [uI_ne (by omega), uI_ne (by omega)]
    show σ2.1 293 b = _
    rw [f2.2 293 (by omega), i1 293 (by omega)]
  · have href : ∀ j, (uI_ (uI_ (uR_ σ2 294 p (302 + 2 * s)) 295 p 0) 293 5 (nI (min (K.length + 1) 30))).2.2 294 j = if j = p then 302 + 2 * s else if p < j ∧ j ≤ K.length then σ.2.2 294 (j - 1) else σ.2.2 294 j := by
      intro j
      show (if 294 = 294 ∧ j = p then 302 + 2 * s else σ2.2.2 294 j) = _
      rw [fi_r f2]
      by_cases c : j = p
      · rw [if_pos ⟨rfl, c⟩, if_pos c]
      · rw [if_neg (fun z => c z.2), if_neg c]
        show (if 294 = 294 ∧ p < j ∧ j ≤ K.length then _ else _) = _
        by_cases c2 : p < j ∧ j ≤ K.length
        · rw [if_pos ⟨rfl, c2⟩, if_pos c2]
        · rw [if_neg (fun z => c2 z.2), if_neg c2]
    have hflag : ∀ j, (uI_ (uI_ (uR_ σ2 294 p (302 + 2 * s)) 295 p 0) 293 5 (nI (min (K.length + 1) 30))).1 295 j = if j = p then 0 else if p < j ∧ j ≤ K.length then σ.1 295 (j - 1) else σ.1 295 j := by
      intro j
      rw [uI_ne (by omega)]
      by_cases c : j = p
      · rw [if_pos c, c, uI_same]
      · rw [if_neg c, uI_ne (by omega)]
        show σ2.1 295 j = _
        rw [f2.2 295 (by omega)]
        show (if 295 = 295 ∧ p < j ∧ j ≤ K.length then _ else _) = _
        by_cases c2 : p < j ∧ j ≤ K.length
        · rw [if_pos ⟨rfl, c2⟩, if_pos c2]
        · rw [if_neg (fun z => c2 z.2), if_neg c2]
    -- a row other than the spare one keeps its term
    have keep : ∀ j t, j < 31 → j ≠ K.length → tm_ σ (σ.2.2 294 j) t → tm_ (uI_ (uI_ (uR_ σ2 294 p (302 + 2 * s)) 295 p 0) 293 5 (nI (min (K.length + 1) 30))) (σ.2.2 294 j) t := by
      intro j t hj hjl ht
      obtain ⟨i, hi, e⟩ := hc.1.1 j hj
      have hne : i ≠ s := fun z => hjl (hc.1.2 j K.length hj (by omega) (by rw [e, esp, z]))
      rw [e] at ht ⊢
      refine tm_eq ?_ ?_ ht
      · rw [uI_row (by omega), uI_row (by omega)]
        show σ2.1 _ = _
        rw [f2.2 _ (by omega), i1 _ (by omega)]
      · rw [uI_row (by omega), uI_row (by omega)]
        show σ2.1 _ = _
        rw [f2.2 _ (by omega), i1 _ (by omega)]
    have hlen : ((K.take p ++ (u, false) :: K.drop p).take 30).length = min (K.length + 1) 30 := by
      rw [List.length_take, List.length_append, List.length_cons, List.length_take, List.length_drop]
      omega
    refine ⟨⟨fun j hj => ?_, fun j k hj hk e => ?_⟩, by rw [hlen]; omega, by rw [hlen, uI_same], fun j hj => ?_⟩
    · rw [href]
      by_cases c : j = p
      · rw [if_pos c]; exact ⟨s, hs, rfl⟩
      · rw [if_neg c]
        by_cases c2 : p < j ∧ j ≤ K.length
        · rw [if_pos c2]; exact hc.1.1 _ (by omega)
        · rw [if_neg c2]; exact hc.1.1 _ hj
    · have h2 : ∀ i, i < 31 → (if i = p then 302 + 2 * s else if p < i ∧ i ≤ K.length then σ.2.2 294 (i - 1) else σ.2.2 294 i) = σ.2.2 294 (pf_ p K.length i) := by
        intro i hi
        unfold pf_
        by_cases c : i = p
        · rw [if_pos c, if_pos c, esp]
        · rw [if_neg c, if_neg c]
          by_cases c2 : p < i ∧ i ≤ K.length
          · rw [if_pos c2, if_pos c2]
          · rw [if_neg c2, if_neg c2]
      have hb : ∀ i, i < 31 → pf_ p K.length i < 31 := by
        intro i hi
        unfold pf_
        split
        · omega
        · split <;> omega
      rw [href, href, h2 j hj, h2 k hk] at e
      have := hc.1.2 _ _ (hb j hj) (hb k hk) e
      unfold pf_ at this
      split at this <;> split at this <;> (try split at this) <;> (try split at this) <;> omega
    · rw [hlen] at hj
      rw [ka_take (by omega), ka_ins hp, href, hflag]
      by_cases c1 : j < p
      · have := hc.2.2.2 j (by omega)
        rw [if_pos c1, if_neg (by omega), if_neg (by omega), if_neg (by omega), if_neg (by omega)]
        exact ⟨keep j _ (by omega) (by omega) this.1, this.2⟩
      · rw [if_neg c1]
        by_cases c : j = p
        · rw [if_pos c, if_pos c, if_pos c]
          refine ⟨?_, rfl, hu40⟩
          refine tm_eq (σ := σ2) ?_ ?_ t2
          · rw [uI_row (by omega), uI_row (by omega)]
            rfl
          · rw [uI_row (by omega), uI_row (by omega)]
            rfl
        · have := hc.2.2.2 (j - 1) (by omega)
          rw [if_neg c, if_neg c, if_neg c, if_pos (by omega), if_pos (by omega)]
          exact ⟨keep (j - 1) _ (by omega) (by omega) this.1, this.2⟩
theorem ii_at {u : List Int32} {K : js_F} {j : Nat} : ∀ {_h : j ≤ K.length}, (∀ i, i < j → ¬ cmp_ u (ka_ K i).1 = 0 ∧ ¬ cmp_ u (ka_ K i).1 < 0) → ii_ u K = K.take j ++ ii_ u (K.drop j) := by
  induction j with
  | zero =>
    intro _ _
    rfl
  | succ j ih =>
    intro h hi
    rw [ih (_h := by omega) (fun i q => hi i (by omega)), ka_drop (by omega)]
    have := hi j (by omega)
    show K.take j ++ (if _ then _ else if _ then _ else _) = _
    rw [if_neg this.1, if_neg this.2]
    have e : K.take (j + 1) = K.take j ++ [ka_ K j] := by
      unfold ka_
      rw [List.take_add_one, List.getD_eq_getElem?_getD, List.getElem?_eq_getElem (show j < K.length by omega)]
      rfl
    rw [e, List.append_assoc]
    rfl
theorem x3_disc_loop {σ : js_S} {K : js_F} {o : Nat} {u : List Int32} (hl : lx_ σ.2.2) (hc : cs_ σ K) (ho : to_ σ o) (ho2 : o + 1 < 293 ∨ o = 296) (hu : tm_ σ o u) (hu40 : u.length ≤ 40) :
    ∀ (d j k : Nat), j + d = K.length → d < k → (∀ i, i < j → ¬ cmp_ u (ka_ K i).1 = 0 ∧ ¬ cmp_ u (ka_ K i).1 < 0) → ∃ σ', fX3_discover_2 5000 k 293 o (nI j) σ = some ((), σ') ∧ fh_ (fun a => a = 293 ∨ a = 295 ∨ (302 ≤ a ∧ a ≤ 363)) σ σ' ∧ (∀ b, b ≠ 5 → σ'.1 293 b = σ.1 293 b) ∧ cs_ σ' ((ii_ u K).take 30) := by
  have h30 := hc.2.1
  intro d
  induction d with
  | zero =>
    intro j k hj hk hi
    obtain ⟨k, rfl⟩ : ∃ j, k = j + 1 := ⟨k - 1, by omega⟩
    rw [sX3_discover_2]
    unfold fX3_discover_2b fX3_discover_49
    rw [hc.2.2.1, if_pos ((n_le (by omega) (by omega)).mpr (by omega)), ii_at (_h := by omega) hi]
    by_cases c : K.length = 30
    · have c1 : 30 ≤ nI K.length := (n_le (a := 30) (by omega) (by omega)).mpr (by omega)
      refine ⟨σ, by rw [if_pos c1], fh_rf, fun _ _ => rfl, ?_⟩
      rw [show j = K.length by omega, List.take_length, List.take_append_of_le_length (by omega), List.take_of_length_le (by omega)]
      exact hc
    · have c1 : ¬ 30 ≤ nI K.length := fun z => by have := (n_le (a := 30) (by omega) (by omega)).mp z; omega
      obtain ⟨σ', r1, f1, b1, c2⟩ := x3_insert (p := K.length) hl hc (by omega) (by omega) ho ho2 hu hu40
      refine ⟨σ', by rw [if_neg c1, r1, bd_s], f1, b1, ?_⟩
      rw [show j = K.length by omega]
      rw [List.drop_length] at c2 ⊢
      exact c2
  | succ d ih =>
    intro j k hj hk hi
    obtain ⟨k, rfl⟩ : ∃ j, k = j + 1 := ⟨k - 1, by omega⟩
    have hkj := hc.2.2.2 j (by omega)
    obtain ⟨i, hi31, e⟩ := hc.1.1 j (by omega)
    have tj : to_ σ (σ.2.2 294 j) := by rw [e]; exact to_found hl i hi31
    have c30 : ¬ 30 ≤ nI j := fun z => by have := (n_le (a := 30) (by omega) (by omega)).mp z; omega
    rw [sX3_discover_2]
    unfold fX3_discover_2b
    rw [hc.2.2.1, if_neg (fun z => by have := (n_le (by omega) (by omega)).mp z; omega), if_neg c30, lx_293_0 hl, ln_294, n_ib (by omega), if_pos (by simp; omega), n_cl (by omega), x9_order ho hu hu40 tj hkj.1 hkj.2.2, bd_s]
    have hd := ka_drop (K := K) (j := j) (by omega)
    by_cases c1 : cmp_ u (ka_ K j).1 = 0
    · refine ⟨σ, by rw [if_pos c1], fh_rf, fun _ _ => rfl, ?_⟩
      rw [ii_at (j := j) (_h := by omega) hi, hd]
      show cs_ σ ((K.take j ++ (if _ then _ else _)).take 30)
      rw [if_pos c1, ← hd, List.take_append_drop, List.take_of_length_le h30]
      exact hc
    · rw [if_neg c1]
      by_cases c2 : cmp_ u (ka_ K j).1 < 0
      · obtain ⟨σ', r1, f1, b1, q2⟩ := x3_insert (p := j) hl hc (by omega) (by omega) ho ho2 hu hu40
        refine ⟨σ', by rw [if_neg (fun z => absurd c2 (Int32.not_lt.mpr z)), r1, bd_s], f1, b1, ?_⟩
        rw [ii_at (j := j) (_h := by omega) hi, hd]
        show cs_ σ' ((K.take j ++ (if _ then _ else if _ then _ else _)).take 30)
        rw [if_neg c1, if_pos c2, ← hd]
        exact q2
      · rw [if_pos (Int32.not_lt.mp c2), show nI j + 1 = nI (j + 1) from n_add j 1]
        exact ih (j + 1) k (by omega) (by omega) (fun i q => by
          by_cases w : i = j
          · rw [w]; exact ⟨c1, c2⟩
          · exact hi i (by omega))
theorem x3_discover {σ : js_S} {K : js_F} {o : Nat} {u : List Int32} (hl : lx_ σ.2.2) (hc : cs_ σ K) (ho : to_ σ o) (ho2 : o + 1 < 293 ∨ o = 296) (hu : tm_ σ o u) (hu40 : u.length ≤ 40) : ∃ σ', fX3_discover 5000 293 o σ = some ((), σ') ∧ fh_ (fun a => a = 293 ∨ a = 295 ∨ (302 ≤ a ∧ a ≤ 363)) σ σ' ∧ (∀ b, b ≠ 5 → σ'.1 293 b = σ.1 293 b) ∧ cs_ σ' ((ii_ u K).take 30) := by
  have h30 := hc.2.1
  exact x3_disc_loop hl hc ho ho2 hu hu40 K.length 0 5000 (by omega) (by omega) (fun i q => by omega)
/-- the lowest one that is not expanded -/
theorem x3_take_loop {K : js_F} :
    ∀ (d j k : Nat) (σ : js_S), j + d = K.length → d < k → lx_ σ.2.2 → cs_ σ K → match mk_ (K.drop j) with
      | none => fX3_takeLowest_2 5000 k 293 (nI j) σ = some (0, σ)
      | some q => ∃ σ', fX3_takeLowest_2 5000 k 293 (nI j) σ = some (1, σ') ∧ fi_ (fun a => a = 295 ∨ a = 298 ∨ a = 299) σ σ' ∧ tm_ σ' 298 q.1 ∧ q.1.length ≤ 40 ∧ cs_ σ' (K.take j ++ q.2) := by
  intro d
  induction d with
  | zero =>
    intro j k σ hj hk hl hc
    have h30 := hc.2.1
    obtain ⟨k, rfl⟩ : ∃ j, k = j + 1 := ⟨k - 1, by omega⟩
    rw [List.drop_eq_nil_of_le (by omega)]
    show fX3_takeLowest_2 5000 (k + 1) 293 (nI j) σ = some (0, σ)
    rw [sX3_takeLowest_2]
    unfold fX3_takeLowest_2b
    rw [hc.2.2.1, if_pos ((n_le (by omega) (by omega)).mpr (by omega))]
  | succ d ih =>
    intro j k σ hj hk hl hc
    have h30 := hc.2.1
    obtain ⟨k, rfl⟩ : ∃ j, k = j + 1 := ⟨k - 1, by omega⟩
    have hkj := hc.2.2.2 j (by omega)
    have c30 : ¬ 30 ≤ nI j := fun z => by have := (n_le (a := 30) (by omega) (by omega)).mp z; omega
    have run : fX3_takeLowest_2 5000 (k + 1) 293 (nI j) σ = if bi_ (ka_ K j).2 = 0 then (lt_ (uI_ σ 295 j (nz_ 1)) fun σ7 => (if decide (j < 31) = true then (bd_ (fX9_copyFrom 5000 (σ7.2.2 293 3) (σ7.2.2 294 j) σ7) fun _ σ11 => (some (1, σ11))) else none)) else fX3_takeLowest_2 5000 k 293 (nI (j + 1)) σ := by
      rw [sX3_takeLowest_2]
      unfold fX3_takeLowest_2b
      rw [hc.2.2.1, if_neg (fun z => by have := (n_le (by omega) (by omega)).mp z; omega), if_neg c30, lx_293_1 hl, ln_295, n_ib (by omega), if_pos (by simp; omega), n_cl (by omega), hkj.2.1, show nI j + 1 = nI (j + 1) from n_add j 1]
      have l1 : lx_ (uI_ σ 295 j (nz_ 1)).2.2 := hl
      by_cases c : bi_ (ka_ K j).2 = 0
      · rw [if_pos c, if_pos c, if_pos (by simp; omega), lt_s_, lt_s_, lx_293_0 l1, ln_294, n_ib (by omega)]
      · rw [if_neg c, if_neg c]
    rw [run, ka_drop (K := K) (j := j) (by omega)]
    unfold mk_
    by_cases c : (ka_ K j).2 = false
    · rw [if_pos c, c, bi_f, if_pos rfl, lt_s_, nz1, if_pos (by simp; omega)]
      have l1 : lx_ (uI_ σ 295 j 1).2.2 := hl
      obtain ⟨i, hi31, e⟩ := hc.1.1 j (by omega)
      have e1 : (uI_ σ 295 j 1).2.2 294 j = 302 + 2 * i := e
      have f1 : fi_ (fun a => a = 295) σ (uI_ σ 295 j 1) := fi_u rfl
      have ht := hkj.1
      rw [e] at ht
      obtain ⟨σ2, r2, f2, t2⟩ := x9_copyFrom (fu := 5000) (d := 298) (s := 302 + 2 * i) (to_of l1 (by omega) (by decide +kernel)) (to_found l1 i hi31) (tm_fi f1 (by omega) (by omega) ht) (by omega)
      refine ⟨σ2, ?_, fi_tr (S3 := fun a => a = 295 ∨ a = 298 ∨ a = 299) f1 f2 (fun a q => by omega) (fun a q => by omega), t2, hkj.2.2, ?_⟩
      · rw [lx_293_3 l1, e1, r2, bd_s]
      · have hcc : cs_ (uI_ σ 295 j 1) (K.take j ++ ((ka_ K j).1, true) :: K.drop (j + 1)) := by
          have hlen : (K.take j ++ ((ka_ K j).1, true) :: K.drop (j + 1)).length = K.length := by
            rw [List.length_append, List.length_cons, List.length_take, List.length_drop]
            omega
          have hka : ∀ i, i < K.length → ka_ (K.take j ++ ((ka_ K j).1, true) :: K.drop (j + 1)) i = if i = j then ((ka_ K j).1, true) else ka_ K i := by
            intro i hi
            unfold ka_
            rw [List.getD_eq_getElem?_getD, List.getElem?_append, List.length_take, Nat.min_eq_left (by omega)]
            by_cases c1 : i < j
            · rw [if_pos c1, if_neg (by omega), List.getElem?_take_of_lt c1, List.getD_eq_getElem?_getD]
            · rw [if_neg c1]
              by_cases c2 : i = j
              · rw [if_pos c2, c2, Nat.sub_self]
                rfl
              · rw [if_neg c2, show i - j = (i - j - 1) + 1 by omega, List.getElem?_cons_succ, List.getElem?_drop, show j + 1 + (i - j - 1) = i by omega, List.getD_eq_getElem?_getD (a := ([], false)) (l := K) (i := i)]
          refine ⟨hc.1, by rw [hlen]; exact h30, by rw [hlen, uI_ne (by omega)]; exact hc.2.2.1, fun i hi => ?_⟩
          rw [hlen] at hi
          have hki := hc.2.2.2 i hi
          obtain ⟨w, hw31, ew⟩ := hc.1.1 i (by omega)
          rw [hka i hi]
          have ew2 : (uI_ σ 295 j 1).2.2 294 i = 302 + 2 * w := ew
          rw [ew2]
          rw [ew] at hki
          by_cases c2 : i = j
          · rw [if_pos c2, c2, uI_same]
            rw [c2] at hki
            exact ⟨tm_fi f1 (by omega) (by omega) hki.1, rfl, hki.2.2⟩
          · rw [if_neg c2, uI_ne (by omega)]
            exact ⟨tm_fi f1 (by omega) (by omega) hki.1, hki.2⟩
        exact cs_fi f2 (fun a q => by omega) hcc
    · have ct : (ka_ K j).2 = true := by simpa using c
      rw [if_neg c, ct, bi_t, if_neg (by decide)]
      have := ih (j + 1) k σ (by omega) (by omega) hl hc
      cases hm : mk_ (K.drop (j + 1)) with
      | none =>
        rw [hm] at this
        exact this
      | some q =>
        rw [hm] at this
        obtain ⟨σ', r1, f1, t1, t40, c1⟩ := this
        refine ⟨σ', r1, f1, t1, t40, ?_⟩
        have e : K.take (j + 1) = K.take j ++ [ka_ K j] := by
          unfold ka_
          rw [List.take_add_one, List.getD_eq_getElem?_getD, List.getElem?_eq_getElem (show j < K.length by omega)]
          rfl
        rw [e, List.append_assoc] at c1
        exact c1
