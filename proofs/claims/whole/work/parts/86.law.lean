/-! the calls of the law, in one form -/
theorem u_setArity {σ : js_S} {y : js_Y} {sn : Option js_Y} {tx : List Int32} (h : iv_ σ y sn tx) (hc : ch_ σ y) (a1 a2 : Int32) : ∃ r σ1 σ2 y2 sn2 tx2, fX11_setArity 5000 1 a1 a2 σ = some (r, σ1) ∧ fX12_setArity 5000 390 a1 a2 σ1 = some (r, σ2) ∧ iv_ σ2 y2 sn2 tx2 ∧ ch_ σ2 y2 := by
  obtain ⟨r, σ1, σ2, y2, e1, e2, g1, c1, k1⟩ := op_setArity h a1 a2
  refine ⟨r, σ1, σ2, y2, sn, tx, e1, e2, g1, ?_⟩
  rcases k1 with rfl | ⟨k1, k2⟩
  · exact ch_ce2 c1 rfl rfl hc
  · exact ch_nil k1 k2 (ch_ce2 c1 rfl rfl hc)
theorem u_arity {σ : js_S} {y : js_Y} {sn : Option js_Y} {tx : List Int32} (h : iv_ σ y sn tx) (hc : ch_ σ y) (a1 : Int32) : ∃ r σ1 σ2 y2 sn2 tx2, fX11_arity 5000 1 a1 σ = some (r, σ1) ∧ fX12_arity 5000 390 a1 σ1 = some (r, σ2) ∧ iv_ σ2 y2 sn2 tx2 ∧ ch_ σ2 y2 := by
  obtain ⟨r, e1, e2⟩ := op_arity (iv_pq h) a1
  exact ⟨r, σ, σ, y, sn, tx, e1, e2, h, hc⟩
theorem u_addRule {σ : js_S} {y : js_Y} {sn : Option js_Y} {tx : List Int32} (h : iv_ σ y sn tx) (hc : ch_ σ y) : ∃ r σ1 σ2 y2 sn2 tx2, fX11_addRule 5000 1 σ = some (r, σ1) ∧ fX12_addRule 5000 390 σ1 = some (r, σ2) ∧ iv_ σ2 y2 sn2 tx2 ∧ ch_ σ2 y2 := by
  obtain ⟨r, σ1, σ2, y2, tx2, e1, e2, g1, c1⟩ := op_addRule h
  refine ⟨r, σ1, σ2, y2, sn, tx2, e1, e2, g1, ?_⟩
  rcases c1 with ⟨c1, rfl⟩ | c1
  · exact ch_ce2 c1 rfl rfl hc
  · exact ch_cz c1
theorem u_removeRule {σ : js_S} {y : js_Y} {sn : Option js_Y} {tx : List Int32} (h : iv_ σ y sn tx) (hc : ch_ σ y) (a1 : Int32) : ∃ r σ1 σ2 y2 sn2 tx2, fX11_removeRule 5000 1 a1 σ = some (r, σ1) ∧ fX12_removeRule 5000 390 a1 σ1 = some (r, σ2) ∧ iv_ σ2 y2 sn2 tx2 ∧ ch_ σ2 y2 := by
  obtain ⟨r, σ1, σ2, y2, e1, e2, g1, c1⟩ := op_remove h a1
  refine ⟨r, σ1, σ2, y2, sn, tx, e1, e2, g1, ?_⟩
  rcases c1 with ⟨c1, rfl⟩ | c1
  · exact ch_ce2 c1 rfl rfl hc
  · exact ch_cz c1
theorem u_ruleCount {σ : js_S} {y : js_Y} {sn : Option js_Y} {tx : List Int32} (h : iv_ σ y sn tx) (hc : ch_ σ y) : ∃ r σ1 σ2 y2 sn2 tx2, fX11_ruleCount 5000 1 σ = some (r, σ1) ∧ fX12_ruleCount 5000 390 σ1 = some (r, σ2) ∧ iv_ σ2 y2 sn2 tx2 ∧ ch_ σ2 y2 := by
  obtain ⟨e1, e2⟩ := op_ruleCount (iv_pq h)
  exact ⟨_, σ, σ, y, sn, tx, e1, e2, h, hc⟩
theorem u_leftSize {σ : js_S} {y : js_Y} {sn : Option js_Y} {tx : List Int32} (h : iv_ σ y sn tx) (hc : ch_ σ y) (a1 : Int32) : ∃ r σ1 σ2 y2 sn2 tx2, fX11_leftSize 5000 1 a1 σ = some (r, σ1) ∧ fX12_leftSize 5000 390 a1 σ1 = some (r, σ2) ∧ iv_ σ2 y2 sn2 tx2 ∧ ch_ σ2 y2 := by
  obtain ⟨r, e1, e2⟩ := op_leftSize (iv_pq h) a1
  exact ⟨r, σ, σ, y, sn, tx, e1, e2, h, hc⟩
theorem u_rightSize {σ : js_S} {y : js_Y} {sn : Option js_Y} {tx : List Int32} (h : iv_ σ y sn tx) (hc : ch_ σ y) (a1 : Int32) : ∃ r σ1 σ2 y2 sn2 tx2, fX11_rightSize 5000 1 a1 σ = some (r, σ1) ∧ fX12_rightSize 5000 390 a1 σ1 = some (r, σ2) ∧ iv_ σ2 y2 sn2 tx2 ∧ ch_ σ2 y2 := by
  obtain ⟨r, e1, e2⟩ := op_rightSize (iv_pq h) a1
  exact ⟨r, σ, σ, y, sn, tx, e1, e2, h, hc⟩
theorem u_pairCount {σ : js_S} {y : js_Y} {sn : Option js_Y} {tx : List Int32} (h : iv_ σ y sn tx) (hc : ch_ σ y) : ∃ r σ1 σ2 y2 sn2 tx2, fX11_pairCount 5000 1 σ = some (r, σ1) ∧ fX12_pairCount 5000 390 σ1 = some (r, σ2) ∧ iv_ σ2 y2 sn2 tx2 ∧ ch_ σ2 y2 := by
  obtain ⟨r, σ1, σ2, e1, e2, g1, g2⟩ := op_pairCount h hc
  exact ⟨r, σ1, σ2, y, sn, tx, e1, e2, g1, g2⟩
theorem u_pairRule {σ : js_S} {y : js_Y} {sn : Option js_Y} {tx : List Int32} (h : iv_ σ y sn tx) (hc : ch_ σ y) (a1 : Int32) : ∃ r σ1 σ2 y2 sn2 tx2, fX11_pairRule 5000 1 a1 σ = some (r, σ1) ∧ fX12_pairRule 5000 390 a1 σ1 = some (r, σ2) ∧ iv_ σ2 y2 sn2 tx2 ∧ ch_ σ2 y2 := by
  obtain ⟨r, σ1, σ2, e1, e2, g1, g2⟩ := op_pairRule h hc a1
  exact ⟨r, σ1, σ2, y, sn, tx, e1, e2, g1, g2⟩
theorem u_pairPosition {σ : js_S} {y : js_Y} {sn : Option js_Y} {tx : List Int32} (h : iv_ σ y sn tx) (hc : ch_ σ y) (a1 : Int32) : ∃ r σ1 σ2 y2 sn2 tx2, fX11_pairPosition 5000 1 a1 σ = some (r, σ1) ∧ fX12_pairPosition 5000 390 a1 σ1 = some (r, σ2) ∧ iv_ σ2 y2 sn2 tx2 ∧ ch_ σ2 y2 := by
  obtain ⟨r, σ1, σ2, e1, e2, g1, g2⟩ := op_pairPosition h hc a1
  exact ⟨r, σ1, σ2, y, sn, tx, e1, e2, g1, g2⟩
theorem u_sourceFunction {σ : js_S} {y : js_Y} {sn : Option js_Y} {tx : List Int32} (h : iv_ σ y sn tx) (hc : ch_ σ y) (a1 : Int32) : ∃ r σ1 σ2 y2 sn2 tx2, fX11_sourceFunction 5000 1 a1 σ = some (r, σ1) ∧ fX12_sourceFunction 5000 390 a1 σ1 = some (r, σ2) ∧ iv_ σ2 y2 sn2 tx2 ∧ ch_ σ2 y2 := by
  obtain ⟨r, σ1, σ2, e1, e2, g1, g2⟩ := op_sourceFunction h hc a1
  exact ⟨r, σ1, σ2, y, sn, tx, e1, e2, g1, g2⟩
theorem u_targetFunction {σ : js_S} {y : js_Y} {sn : Option js_Y} {tx : List Int32} (h : iv_ σ y sn tx) (hc : ch_ σ y) (a1 : Int32) : ∃ r σ1 σ2 y2 sn2 tx2, fX11_targetFunction 5000 1 a1 σ = some (r, σ1) ∧ fX12_targetFunction 5000 390 a1 σ1 = some (r, σ2) ∧ iv_ σ2 y2 sn2 tx2 ∧ ch_ σ2 y2 := by
  obtain ⟨r, σ1, σ2, e1, e2, g1, g2⟩ := op_targetFunction h hc a1
  exact ⟨r, σ1, σ2, y, sn, tx, e1, e2, g1, g2⟩
theorem u_hasEdge {σ : js_S} {y : js_Y} {sn : Option js_Y} {tx : List Int32} (h : iv_ σ y sn tx) (hc : ch_ σ y) (a1 a2 : Int32) : ∃ r σ1 σ2 y2 sn2 tx2, fX11_hasEdge 5000 1 a1 a2 σ = some (r, σ1) ∧ fX12_hasEdge 5000 390 a1 a2 σ1 = some (r, σ2) ∧ iv_ σ2 y2 sn2 tx2 ∧ ch_ σ2 y2 := by
  obtain ⟨r, σ1, σ2, e1, e2, g1, g2⟩ := op_hasEdge h hc a1 a2
  exact ⟨r, σ1, σ2, y, sn, tx, e1, e2, g1, g2⟩
theorem u_edgeCount {σ : js_S} {y : js_Y} {sn : Option js_Y} {tx : List Int32} (h : iv_ σ y sn tx) (hc : ch_ σ y) : ∃ r σ1 σ2 y2 sn2 tx2, fX11_edgeCount 5000 1 σ = some (r, σ1) ∧ fX12_edgeCount 5000 390 σ1 = some (r, σ2) ∧ iv_ σ2 y2 sn2 tx2 ∧ ch_ σ2 y2 := by
  obtain ⟨r, σ1, σ2, e1, e2, g1, g2⟩ := op_edgeCount h hc
  exact ⟨r, σ1, σ2, y, sn, tx, e1, e2, g1, g2⟩
theorem u_componentCount {σ : js_S} {y : js_Y} {sn : Option js_Y} {tx : List Int32} (h : iv_ σ y sn tx) (hc : ch_ σ y) : ∃ r σ1 σ2 y2 sn2 tx2, fX11_componentCount 5000 1 σ = some (r, σ1) ∧ fX12_componentCount 5000 390 σ1 = some (r, σ2) ∧ iv_ σ2 y2 sn2 tx2 ∧ ch_ σ2 y2 := by
  obtain ⟨r, σ1, σ2, e1, e2, g1, g2⟩ := op_componentCount h hc
  exact ⟨r, σ1, σ2, y, sn, tx, e1, e2, g1, g2⟩
theorem u_componentOf {σ : js_S} {y : js_Y} {sn : Option js_Y} {tx : List Int32} (h : iv_ σ y sn tx) (hc : ch_ σ y) (a1 : Int32) : ∃ r σ1 σ2 y2 sn2 tx2, fX11_componentOf 5000 1 a1 σ = some (r, σ1) ∧ fX12_componentOf 5000 390 a1 σ1 = some (r, σ2) ∧ iv_ σ2 y2 sn2 tx2 ∧ ch_ σ2 y2 := by
  obtain ⟨r, σ1, σ2, e1, e2, g1, g2⟩ := op_componentOf h hc a1
  exact ⟨r, σ1, σ2, y, sn, tx, e1, e2, g1, g2⟩
theorem u_sizeRelation {σ : js_S} {y : js_Y} {sn : Option js_Y} {tx : List Int32} (h : iv_ σ y sn tx) (hc : ch_ σ y) (a1 a2 a3 : Int32) : ∃ r σ1 σ2 y2 sn2 tx2, fX11_sizeRelation 5000 1 a1 a2 a3 σ = some (r, σ1) ∧ fX12_sizeRelation 5000 390 a1 a2 a3 σ1 = some (r, σ2) ∧ iv_ σ2 y2 sn2 tx2 ∧ ch_ σ2 y2 := by
  obtain ⟨r, σ1, σ2, e1, e2, g1, g2⟩ := op_sizeRelation h hc a1 a2 a3
  exact ⟨r, σ1, σ2, y, sn, tx, e1, e2, g1, g2⟩
theorem u_closureSize {σ : js_S} {y : js_Y} {sn : Option js_Y} {tx : List Int32} (h : iv_ σ y sn tx) (hc : ch_ σ y) : ∃ r σ1 σ2 y2 sn2 tx2, fX11_closureSize 5000 1 σ = some (r, σ1) ∧ fX12_closureSize 5000 390 σ1 = some (r, σ2) ∧ iv_ σ2 y2 sn2 tx2 ∧ ch_ σ2 y2 := by
  obtain ⟨r, σ1, σ2, e1, e2, g1, g2⟩ := op_closureSize h hc
  exact ⟨r, σ1, σ2, y, sn, tx, e1, e2, g1, g2⟩
theorem u_idempotentCount {σ : js_S} {y : js_Y} {sn : Option js_Y} {tx : List Int32} (h : iv_ σ y sn tx) (hc : ch_ σ y) : ∃ r σ1 σ2 y2 sn2 tx2, fX11_idempotentCount 5000 1 σ = some (r, σ1) ∧ fX12_idempotentCount 5000 390 σ1 = some (r, σ2) ∧ iv_ σ2 y2 sn2 tx2 ∧ ch_ σ2 y2 := by
  obtain ⟨r, σ1, σ2, e1, e2, g1, g2⟩ := op_idempotentCount h hc
  exact ⟨r, σ1, σ2, y, sn, tx, e1, e2, g1, g2⟩
theorem u_terminatesBySizeChange {σ : js_S} {y : js_Y} {sn : Option js_Y} {tx : List Int32} (h : iv_ σ y sn tx) (hc : ch_ σ y) : ∃ r σ1 σ2 y2 sn2 tx2, fX11_terminatesBySizeChange 5000 1 σ = some (r, σ1) ∧ fX12_terminatesBySizeChange 5000 390 σ1 = some (r, σ2) ∧ iv_ σ2 y2 sn2 tx2 ∧ ch_ σ2 y2 := by
  obtain ⟨r, σ1, σ2, e1, e2, g1, g2⟩ := op_terminatesBySizeChange h hc
  exact ⟨r, σ1, σ2, y, sn, tx, e1, e2, g1, g2⟩
theorem u_projection {σ : js_S} {y : js_Y} {sn : Option js_Y} {tx : List Int32} (h : iv_ σ y sn tx) (hc : ch_ σ y) (a1 : Int32) : ∃ r σ1 σ2 y2 sn2 tx2, fX11_projection 5000 1 a1 σ = some (r, σ1) ∧ fX12_projection 5000 390 a1 σ1 = some (r, σ2) ∧ iv_ σ2 y2 sn2 tx2 ∧ ch_ σ2 y2 := by
  obtain ⟨r, σ1, σ2, e1, e2, g1, g2⟩ := op_projection h hc a1
  exact ⟨r, σ1, σ2, y, sn, tx, e1, e2, g1, g2⟩
theorem u_eliminationRounds {σ : js_S} {y : js_Y} {sn : Option js_Y} {tx : List Int32} (h : iv_ σ y sn tx) (hc : ch_ σ y) : ∃ r σ1 σ2 y2 sn2 tx2, fX11_eliminationRounds 5000 1 σ = some (r, σ1) ∧ fX12_eliminationRounds 5000 390 σ1 = some (r, σ2) ∧ iv_ σ2 y2 sn2 tx2 ∧ ch_ σ2 y2 := by
  obtain ⟨r, σ1, σ2, e1, e2, g1, g2⟩ := op_eliminationRounds h hc
  exact ⟨r, σ1, σ2, y, sn, tx, e1, e2, g1, g2⟩
theorem u_remainingPairCount {σ : js_S} {y : js_Y} {sn : Option js_Y} {tx : List Int32} (h : iv_ σ y sn tx) (hc : ch_ σ y) : ∃ r σ1 σ2 y2 sn2 tx2, fX11_remainingPairCount 5000 1 σ = some (r, σ1) ∧ fX12_remainingPairCount 5000 390 σ1 = some (r, σ2) ∧ iv_ σ2 y2 sn2 tx2 ∧ ch_ σ2 y2 := by
  obtain ⟨r, σ1, σ2, e1, e2, g1, g2⟩ := op_remainingPairCount h hc
  exact ⟨r, σ1, σ2, y, sn, tx, e1, e2, g1, g2⟩
theorem u_remainingComponentCount {σ : js_S} {y : js_Y} {sn : Option js_Y} {tx : List Int32} (h : iv_ σ y sn tx) (hc : ch_ σ y) : ∃ r σ1 σ2 y2 sn2 tx2, fX11_remainingComponentCount 5000 1 σ = some (r, σ1) ∧ fX12_remainingComponentCount 5000 390 σ1 = some (r, σ2) ∧ iv_ σ2 y2 sn2 tx2 ∧ ch_ σ2 y2 := by
  obtain ⟨r, σ1, σ2, e1, e2, g1, g2⟩ := op_remainingComponentCount h hc
  exact ⟨r, σ1, σ2, y, sn, tx, e1, e2, g1, g2⟩
theorem u_terminatesBySubtermCriterion {σ : js_S} {y : js_Y} {sn : Option js_Y} {tx : List Int32} (h : iv_ σ y sn tx) (hc : ch_ σ y) : ∃ r σ1 σ2 y2 sn2 tx2, fX11_terminatesBySubtermCriterion 5000 1 σ = some (r, σ1) ∧ fX12_terminatesBySubtermCriterion 5000 390 σ1 = some (r, σ2) ∧ iv_ σ2 y2 sn2 tx2 ∧ ch_ σ2 y2 := by
  obtain ⟨r, σ1, σ2, e1, e2, g1, g2⟩ := op_terminatesBySubtermCriterion h hc
  exact ⟨r, σ1, σ2, y, sn, tx, e1, e2, g1, g2⟩
theorem u_parseTerm {σ : js_S} {y : js_Y} {sn : Option js_Y} {tx : List Int32} (h : iv_ σ y sn tx) (hc : ch_ σ y) (a1 : Int32) : ∃ r σ1 σ2 y2 sn2 tx2, fX11_parseTerm 5000 1 a1 σ = some (r, σ1) ∧ fX12_parseTerm 5000 390 a1 σ1 = some (r, σ2) ∧ iv_ σ2 y2 sn2 tx2 ∧ ch_ σ2 y2 := by
  obtain ⟨r, σ1, σ2, y2, tx2, e1, e2, g1, c1, k1, k2⟩ := op_parseTerm h a1
  exact ⟨r, σ1, σ2, y2, sn, tx2, e1, e2, g1, ch_ce2 c1 k1 k2 hc⟩
theorem u_termSize {σ : js_S} {y : js_Y} {sn : Option js_Y} {tx : List Int32} (h : iv_ σ y sn tx) (hc : ch_ σ y) (a1 : Int32) : ∃ r σ1 σ2 y2 sn2 tx2, fX11_termSize 5000 1 a1 σ = some (r, σ1) ∧ fX12_termSize 5000 390 a1 σ1 = some (r, σ2) ∧ iv_ σ2 y2 sn2 tx2 ∧ ch_ σ2 y2 := by
  obtain ⟨r, e1, e2⟩ := op_termSize (iv_pq h) a1
  exact ⟨r, σ, σ, y, sn, tx, e1, e2, h, hc⟩
theorem u_formattedLength {σ : js_S} {y : js_Y} {sn : Option js_Y} {tx : List Int32} (h : iv_ σ y sn tx) (hc : ch_ σ y) (a1 : Int32) : ∃ r σ1 σ2 y2 sn2 tx2, fX11_formattedLength 5000 1 a1 σ = some (r, σ1) ∧ fX12_formattedLength 5000 390 a1 σ1 = some (r, σ2) ∧ iv_ σ2 y2 sn2 tx2 ∧ ch_ σ2 y2 := by
  obtain ⟨r, σ1, σ2, e1, f1, e2, f2⟩ := op_formattedLength h a1
  exact ⟨r, σ1, σ2, y, sn, tx, e1, e2, iv_m f2 (iv_x f1 h), ch_ce2 (ce2_tr (ce2_fx f1) (ce2_fm f2)) rfl rfl hc⟩
theorem u_formattedCharacter {σ : js_S} {y : js_Y} {sn : Option js_Y} {tx : List Int32} (h : iv_ σ y sn tx) (hc : ch_ σ y) (a1 a2 : Int32) : ∃ r σ1 σ2 y2 sn2 tx2, fX11_formattedCharacter 5000 1 a1 a2 σ = some (r, σ1) ∧ fX12_formattedCharacter 5000 390 a1 a2 σ1 = some (r, σ2) ∧ iv_ σ2 y2 sn2 tx2 ∧ ch_ σ2 y2 := by
  obtain ⟨r, σ1, σ2, e1, f1, e2, f2⟩ := op_formattedCharacter h a1 a2
  exact ⟨r, σ1, σ2, y, sn, tx, e1, e2, iv_m f2 (iv_x f1 h), ch_ce2 (ce2_tr (ce2_fx f1) (ce2_fm f2)) rfl rfl hc⟩
theorem u_compareTerms {σ : js_S} {y : js_Y} {sn : Option js_Y} {tx : List Int32} (h : iv_ σ y sn tx) (hc : ch_ σ y) (a1 a2 : Int32) : ∃ r σ1 σ2 y2 sn2 tx2, fX11_compareTerms 5000 1 a1 a2 σ = some (r, σ1) ∧ fX12_compareTerms 5000 390 a1 a2 σ1 = some (r, σ2) ∧ iv_ σ2 y2 sn2 tx2 ∧ ch_ σ2 y2 := by
  obtain ⟨r, e1, e2⟩ := op_compareTerms (iv_pq h) a1 a2
  exact ⟨r, σ, σ, y, sn, tx, e1, e2, h, hc⟩
theorem u_copyTerm {σ : js_S} {y : js_Y} {sn : Option js_Y} {tx : List Int32} (h : iv_ σ y sn tx) (hc : ch_ σ y) (a1 a2 : Int32) : ∃ r σ1 σ2 y2 sn2 tx2, fX11_copyTerm 5000 1 a1 a2 σ = some (r, σ1) ∧ fX12_copyTerm 5000 390 a1 a2 σ1 = some (r, σ2) ∧ iv_ σ2 y2 sn2 tx2 ∧ ch_ σ2 y2 := by
  obtain ⟨r, σ1, σ2, y2, e1, e2, g1, c1, k1, k2⟩ := op_copyTerm h a1 a2
  exact ⟨r, σ1, σ2, y2, sn, tx, e1, e2, g1, ch_ce2 c1 k1 k2 hc⟩
theorem u_loadLeft {σ : js_S} {y : js_Y} {sn : Option js_Y} {tx : List Int32} (h : iv_ σ y sn tx) (hc : ch_ σ y) (a1 a2 : Int32) : ∃ r σ1 σ2 y2 sn2 tx2, fX11_loadLeft 5000 1 a1 a2 σ = some (r, σ1) ∧ fX12_loadLeft 5000 390 a1 a2 σ1 = some (r, σ2) ∧ iv_ σ2 y2 sn2 tx2 ∧ ch_ σ2 y2 := by
  obtain ⟨r, σ1, σ2, y2, e1, e2, g1, c1, k1, k2⟩ := op_loadLeft h a1 a2
  exact ⟨r, σ1, σ2, y2, sn, tx, e1, e2, g1, ch_ce2 c1 k1 k2 hc⟩
theorem u_loadRight {σ : js_S} {y : js_Y} {sn : Option js_Y} {tx : List Int32} (h : iv_ σ y sn tx) (hc : ch_ σ y) (a1 a2 : Int32) : ∃ r σ1 σ2 y2 sn2 tx2, fX11_loadRight 5000 1 a1 a2 σ = some (r, σ1) ∧ fX12_loadRight 5000 390 a1 a2 σ1 = some (r, σ2) ∧ iv_ σ2 y2 sn2 tx2 ∧ ch_ σ2 y2 := by
  obtain ⟨r, σ1, σ2, y2, e1, e2, g1, c1, k1, k2⟩ := op_loadRight h a1 a2
  exact ⟨r, σ1, σ2, y2, sn, tx, e1, e2, g1, ch_ce2 c1 k1 k2 hc⟩
theorem u_matches {σ : js_S} {y : js_Y} {sn : Option js_Y} {tx : List Int32} (h : iv_ σ y sn tx) (hc : ch_ σ y) (a1 a2 a3 : Int32) : ∃ r σ1 σ2 y2 sn2 tx2, fX11_matches 5000 1 a1 a2 a3 σ = some (r, σ1) ∧ fX12_matches 5000 390 a1 a2 a3 σ1 = some (r, σ2) ∧ iv_ σ2 y2 sn2 tx2 ∧ ch_ σ2 y2 := by
  obtain ⟨r, σ1, σ2, e1, f1, e2, f2⟩ := op_matches h a1 a2 a3
  exact ⟨r, σ1, σ2, y, sn, tx, e1, e2, iv_m f2 (iv_x f1 h), ch_ce2 (ce2_tr (ce2_fx f1) (ce2_fm f2)) rfl rfl hc⟩
theorem u_redexCount {σ : js_S} {y : js_Y} {sn : Option js_Y} {tx : List Int32} (h : iv_ σ y sn tx) (hc : ch_ σ y) (a1 : Int32) : ∃ r σ1 σ2 y2 sn2 tx2, fX11_redexCount 5000 1 a1 σ = some (r, σ1) ∧ fX12_redexCount 5000 390 a1 σ1 = some (r, σ2) ∧ iv_ σ2 y2 sn2 tx2 ∧ ch_ σ2 y2 := by
  obtain ⟨r, σ1, σ2, e1, f1, e2, f2⟩ := op_redexCount h a1
  exact ⟨r, σ1, σ2, y, sn, tx, e1, e2, iv_m f2 (iv_x f1 h), ch_ce2 (ce2_tr (ce2_fx f1) (ce2_fm f2)) rfl rfl hc⟩
theorem u_redexAt {σ : js_S} {y : js_Y} {sn : Option js_Y} {tx : List Int32} (h : iv_ σ y sn tx) (hc : ch_ σ y) (a1 a2 : Int32) : ∃ r σ1 σ2 y2 sn2 tx2, fX11_redexAt 5000 1 a1 a2 σ = some (r, σ1) ∧ fX12_redexAt 5000 390 a1 a2 σ1 = some (r, σ2) ∧ iv_ σ2 y2 sn2 tx2 ∧ ch_ σ2 y2 := by
  obtain ⟨r, σ1, σ2, e1, f1, e2, f2⟩ := op_redexAt h a1 a2
  exact ⟨r, σ1, σ2, y, sn, tx, e1, e2, iv_m f2 (iv_x f1 h), ch_ce2 (ce2_tr (ce2_fx f1) (ce2_fm f2)) rfl rfl hc⟩
theorem u_rewriteAt {σ : js_S} {y : js_Y} {sn : Option js_Y} {tx : List Int32} (h : iv_ σ y sn tx) (hc : ch_ σ y) (a1 a2 : Int32) : ∃ r σ1 σ2 y2 sn2 tx2, fX11_rewriteAt 5000 1 a1 a2 σ = some (r, σ1) ∧ fX12_rewriteAt 5000 390 a1 a2 σ1 = some (r, σ2) ∧ iv_ σ2 y2 sn2 tx2 ∧ ch_ σ2 y2 := by
  obtain ⟨r, σ1, σ2, y2, e1, e2, g1, c1, k1, k2⟩ := op_rewriteAt h a1 a2
  exact ⟨r, σ1, σ2, y2, sn, tx, e1, e2, g1, ch_ce2 c1 k1 k2 hc⟩
theorem u_rewriteOutermost {σ : js_S} {y : js_Y} {sn : Option js_Y} {tx : List Int32} (h : iv_ σ y sn tx) (hc : ch_ σ y) (a1 a2 : Int32) : ∃ r σ1 σ2 y2 sn2 tx2, fX11_rewriteOutermost 5000 1 a1 a2 σ = some (r, σ1) ∧ fX12_rewriteOutermost 5000 390 a1 a2 σ1 = some (r, σ2) ∧ iv_ σ2 y2 sn2 tx2 ∧ ch_ σ2 y2 := by
  obtain ⟨r, σ1, σ2, y2, e1, e2, g1, c1, k1, k2⟩ := op_rewriteOutermost h a1 a2
  exact ⟨r, σ1, σ2, y2, sn, tx, e1, e2, g1, ch_ce2 c1 k1 k2 hc⟩
theorem u_findLoop {σ : js_S} {y : js_Y} {sn : Option js_Y} {tx : List Int32} (h : iv_ σ y sn tx) (hc : ch_ σ y) (a1 a2 : Int32) : ∃ r σ1 σ2 y2 sn2 tx2, fX11_findLoop 5000 1 a1 a2 σ = some (r, σ1) ∧ fX12_findLoop 5000 390 a1 a2 σ1 = some (r, σ2) ∧ iv_ σ2 y2 sn2 tx2 ∧ ch_ σ2 y2 := by
  obtain ⟨r, σ1, σ2, e1, f1, e2, f2⟩ := op_findLoop h a1 a2
  exact ⟨r, σ1, σ2, y, sn, tx, e1, e2, iv_m f2 (iv_x f1 h), ch_ce2 (ce2_tr (ce2_fx f1) (ce2_fm f2)) rfl rfl hc⟩
theorem u_exploredCount {σ : js_S} {y : js_Y} {sn : Option js_Y} {tx : List Int32} (h : iv_ σ y sn tx) (hc : ch_ σ y) (a1 a2 : Int32) : ∃ r σ1 σ2 y2 sn2 tx2, fX11_exploredCount 5000 1 a1 a2 σ = some (r, σ1) ∧ fX12_exploredCount 5000 390 a1 a2 σ1 = some (r, σ2) ∧ iv_ σ2 y2 sn2 tx2 ∧ ch_ σ2 y2 := by
  obtain ⟨r, σ1, σ2, e1, f1, e2, f2⟩ := op_exploredCount h a1 a2
  exact ⟨r, σ1, σ2, y, sn, tx, e1, e2, iv_m f2 (iv_x f1 h), ch_ce2 (ce2_tr (ce2_fx f1) (ce2_fm f2)) rfl rfl hc⟩
theorem u_exploredNormalForms {σ : js_S} {y : js_Y} {sn : Option js_Y} {tx : List Int32} (h : iv_ σ y sn tx) (hc : ch_ σ y) (a1 a2 : Int32) : ∃ r σ1 σ2 y2 sn2 tx2, fX11_exploredNormalForms 5000 1 a1 a2 σ = some (r, σ1) ∧ fX12_exploredNormalForms 5000 390 a1 a2 σ1 = some (r, σ2) ∧ iv_ σ2 y2 sn2 tx2 ∧ ch_ σ2 y2 := by
  obtain ⟨r, σ1, σ2, e1, f1, e2, f2⟩ := op_exploredNormalForms h a1 a2
  exact ⟨r, σ1, σ2, y, sn, tx, e1, e2, iv_m f2 (iv_x f1 h), ch_ce2 (ce2_tr (ce2_fx f1) (ce2_fm f2)) rfl rfl hc⟩
theorem u_lastExploredSize {σ : js_S} {y : js_Y} {sn : Option js_Y} {tx : List Int32} (h : iv_ σ y sn tx) (hc : ch_ σ y) (a1 a2 : Int32) : ∃ r σ1 σ2 y2 sn2 tx2, fX11_lastExploredSize 5000 1 a1 a2 σ = some (r, σ1) ∧ fX12_lastExploredSize 5000 390 a1 a2 σ1 = some (r, σ2) ∧ iv_ σ2 y2 sn2 tx2 ∧ ch_ σ2 y2 := by
  obtain ⟨r, σ1, σ2, e1, f1, e2, f2⟩ := op_lastExploredSize h a1 a2
  exact ⟨r, σ1, σ2, y, sn, tx, e1, e2, iv_m f2 (iv_x f1 h), ch_ce2 (ce2_tr (ce2_fx f1) (ce2_fm f2)) rfl rfl hc⟩
theorem u_loadNormalForm {σ : js_S} {y : js_Y} {sn : Option js_Y} {tx : List Int32} (h : iv_ σ y sn tx) (hc : ch_ σ y) (a1 a2 a3 : Int32) : ∃ r σ1 σ2 y2 sn2 tx2, fX11_loadNormalForm 5000 1 a1 a2 a3 σ = some (r, σ1) ∧ fX12_loadNormalForm 5000 390 a1 a2 a3 σ1 = some (r, σ2) ∧ iv_ σ2 y2 sn2 tx2 ∧ ch_ σ2 y2 := by
  obtain ⟨r, σ1, σ2, y2, e1, e2, g1, c1, k1, k2⟩ := op_loadNormalForm h a1 a2 a3
  exact ⟨r, σ1, σ2, y2, sn, tx, e1, e2, g1, ch_ce2 c1 k1 k2 hc⟩
theorem u_normalFormRegisterCount {σ : js_S} {y : js_Y} {sn : Option js_Y} {tx : List Int32} (h : iv_ σ y sn tx) (hc : ch_ σ y) : ∃ r σ1 σ2 y2 sn2 tx2, fX11_normalFormRegisterCount 5000 1 σ = some (r, σ1) ∧ fX12_normalFormRegisterCount 5000 390 σ1 = some (r, σ2) ∧ iv_ σ2 y2 sn2 tx2 ∧ ch_ σ2 y2 := by
  obtain ⟨r, σ1, σ2, e1, f1, e2, f2⟩ := op_nfrc h
  exact ⟨r, σ1, σ2, y, sn, tx, e1, e2, iv_m f2 (iv_x f1 h), ch_ce2 (ce2_tr (ce2_fx f1) (ce2_fm f2)) rfl rfl hc⟩
theorem u_appendCharacter {σ : js_S} {y : js_Y} {sn : Option js_Y} {tx : List Int32} (h : iv_ σ y sn tx) (hc : ch_ σ y) (a1 : Int32) : ∃ r σ1 σ2 y2 sn2 tx2, fX11_appendCharacter 5000 1 a1 σ = some (r, σ1) ∧ fX12_appendCharacter 5000 390 a1 σ1 = some (r, σ2) ∧ iv_ σ2 y2 sn2 tx2 ∧ ch_ σ2 y2 := by
  obtain ⟨r, σ1, σ2, tx2, e1, e2, g1, c1⟩ := op_append h a1
  exact ⟨r, σ1, σ2, y, sn, tx2, e1, e2, g1, ch_ce2 c1 rfl rfl hc⟩
theorem u_clearText {σ : js_S} {y : js_Y} {sn : Option js_Y} {tx : List Int32} (h : iv_ σ y sn tx) (hc : ch_ σ y) : ∃ r σ1 σ2 y2 sn2 tx2, fX11_clearText 5000 1 σ = some (r, σ1) ∧ fX12_clearText 5000 390 σ1 = some (r, σ2) ∧ iv_ σ2 y2 sn2 tx2 ∧ ch_ σ2 y2 := by
  obtain ⟨r, σ1, σ2, e1, e2, g1, c1⟩ := op_clearText h
  exact ⟨r, σ1, σ2, y, sn, [], e1, e2, g1, ch_ce2 c1 rfl rfl hc⟩
theorem u_textLength {σ : js_S} {y : js_Y} {sn : Option js_Y} {tx : List Int32} (h : iv_ σ y sn tx) (hc : ch_ σ y) : ∃ r σ1 σ2 y2 sn2 tx2, fX11_textLength 5000 1 σ = some (r, σ1) ∧ fX12_textLength 5000 390 σ1 = some (r, σ2) ∧ iv_ σ2 y2 sn2 tx2 ∧ ch_ σ2 y2 := by
  obtain ⟨r, e1, e2⟩ := op_textLength h
  exact ⟨r, σ, σ, y, sn, tx, e1, e2, h, hc⟩
theorem u_saveSnapshot {σ : js_S} {y : js_Y} {sn : Option js_Y} {tx : List Int32} (h : iv_ σ y sn tx) (hc : ch_ σ y) : ∃ r σ1 σ2 y2 sn2 tx2, fX11_saveSnapshot 5000 1 σ = some (r, σ1) ∧ fX12_saveSnapshot 5000 390 σ1 = some (r, σ2) ∧ iv_ σ2 y2 sn2 tx2 ∧ ch_ σ2 y2 := by
  obtain ⟨r, σ1, σ2, e1, e2, g1, c1⟩ := op_save h
  exact ⟨r, σ1, σ2, y, some y, tx, e1, e2, g1, ch_ce2 c1 rfl rfl hc⟩
theorem u_restoreSnapshot {σ : js_S} {y : js_Y} {sn : Option js_Y} {tx : List Int32} (h : iv_ σ y sn tx) (hc : ch_ σ y) : ∃ r σ1 σ2 y2 sn2 tx2, fX11_restoreSnapshot 5000 1 σ = some (r, σ1) ∧ fX12_restoreSnapshot 5000 390 σ1 = some (r, σ2) ∧ iv_ σ2 y2 sn2 tx2 ∧ ch_ σ2 y2 := by
  obtain ⟨r, σ1, σ2, y2, e1, e2, g1, c1⟩ := op_restore h
  refine ⟨r, σ1, σ2, y2, sn, tx, e1, e2, g1, ?_⟩
  rcases c1 with ⟨c1, rfl⟩ | c1
  · exact ch_ce2 c1 rfl rfl hc
  · exact ch_cz c1
/-! the cases -/
theorem li_ {L p q : Nat} (hp : p + 3 < L) (hL : L ≤ 2048) (hq : q ≤ 3) : ib_ (nI p + nI q) L = true := by
  rw [n_add]
  exact ib_t (by omega) (by omega)
theorem lc_0 {σ : js_S} {y : js_Y} {sn : Option js_Y} {tx : List Int32} {L p : Nat} {xs : Nat → Int32} {rc : Int32 → js_S → Option (Int32 × js_S)} (h : iv_ σ y sn tx) (hc : ch_ σ y) (hp : p + 3 < L) (hL : L ≤ 2048) : ∃ σ2 y2 sn2 tx2, fLc_0 5000 L xs rc (nI p) σ = rc (nI (p + 4)) σ2 ∧ iv_ σ2 y2 sn2 tx2 ∧ ch_ σ2 y2 := by
  obtain ⟨r, σ1, σ2, y2, sn2, tx2, e1, e2, g1, g2⟩ := u_setArity h hc (xs (Int32.toNatClampNeg (nI p + 1))) (xs (Int32.toNatClampNeg (nI p + 2)))
  refine ⟨σ2, y2, sn2, tx2, ?_, g1, g2⟩
  have i1 : ib_ (nI p + 1) L = true := li_ (q := 1) hp hL (by omega)
  have i2 : ib_ (nI p + 2) L = true := li_ (q := 2) hp hL (by omega)
  unfold fLc_0
  rw [if_pos i1, if_pos i2, e1, bd_s, if_pos i1, if_pos i2, e2, bd_s, if_pos rfl, show nI p + 4 = nI (p + 4) from n_add p 4]
theorem lc_1 {σ : js_S} {y : js_Y} {sn : Option js_Y} {tx : List Int32} {L p : Nat} {xs : Nat → Int32} {rc : Int32 → js_S → Option (Int32 × js_S)} (h : iv_ σ y sn tx) (hc : ch_ σ y) (hp : p + 3 < L) (hL : L ≤ 2048) : ∃ σ2 y2 sn2 tx2, fLc_1 5000 L xs rc (nI p) σ = rc (nI (p + 4)) σ2 ∧ iv_ σ2 y2 sn2 tx2 ∧ ch_ σ2 y2 := by
  obtain ⟨r, σ1, σ2, y2, sn2, tx2, e1, e2, g1, g2⟩ := u_arity h hc (xs (Int32.toNatClampNeg (nI p + 1)))
  refine ⟨σ2, y2, sn2, tx2, ?_, g1, g2⟩
  have i1 : ib_ (nI p + 1) L = true := li_ (q := 1) hp hL (by omega)
  unfold fLc_1
  rw [if_pos i1, e1, bd_s, if_pos i1, e2, bd_s, if_pos rfl, show nI p + 4 = nI (p + 4) from n_add p 4]
theorem lc_2 {σ : js_S} {y : js_Y} {sn : Option js_Y} {tx : List Int32} {L p : Nat} {xs : Nat → Int32} {rc : Int32 → js_S → Option (Int32 × js_S)} (h : iv_ σ y sn tx) (hc : ch_ σ y) (hp : p + 3 < L) (hL : L ≤ 2048) : ∃ σ2 y2 sn2 tx2, fLc_2 5000 L xs rc (nI p) σ = rc (nI (p + 4)) σ2 ∧ iv_ σ2 y2 sn2 tx2 ∧ ch_ σ2 y2 := by
  obtain ⟨r, σ1, σ2, y2, sn2, tx2, e1, e2, g1, g2⟩ := u_addRule h hc
  refine ⟨σ2, y2, sn2, tx2, ?_, g1, g2⟩
  unfold fLc_2
  rw [e1, bd_s, e2, bd_s, if_pos rfl, show nI p + 4 = nI (p + 4) from n_add p 4]
theorem lc_3 {σ : js_S} {y : js_Y} {sn : Option js_Y} {tx : List Int32} {L p : Nat} {xs : Nat → Int32} {rc : Int32 → js_S → Option (Int32 × js_S)} (h : iv_ σ y sn tx) (hc : ch_ σ y) (hp : p + 3 < L) (hL : L ≤ 2048) : ∃ σ2 y2 sn2 tx2, fLc_3 5000 L xs rc (nI p) σ = rc (nI (p + 4)) σ2 ∧ iv_ σ2 y2 sn2 tx2 ∧ ch_ σ2 y2 := by
  obtain ⟨r, σ1, σ2, y2, sn2, tx2, e1, e2, g1, g2⟩ := u_removeRule h hc (xs (Int32.toNatClampNeg (nI p + 1)))
  refine ⟨σ2, y2, sn2, tx2, ?_, g1, g2⟩
  have i1 : ib_ (nI p + 1) L = true := li_ (q := 1) hp hL (by omega)
  unfold fLc_3
  rw [if_pos i1, e1, bd_s, if_pos i1, e2, bd_s, if_pos rfl, show nI p + 4 = nI (p + 4) from n_add p 4]
theorem lc_4 {σ : js_S} {y : js_Y} {sn : Option js_Y} {tx : List Int32} {L p : Nat} {xs : Nat → Int32} {rc : Int32 → js_S → Option (Int32 × js_S)} (h : iv_ σ y sn tx) (hc : ch_ σ y) (hp : p + 3 < L) (hL : L ≤ 2048) : ∃ σ2 y2 sn2 tx2, fLc_4 5000 L xs rc (nI p) σ = rc (nI (p + 4)) σ2 ∧ iv_ σ2 y2 sn2 tx2 ∧ ch_ σ2 y2 := by
  obtain ⟨r, σ1, σ2, y2, sn2, tx2, e1, e2, g1, g2⟩ := u_ruleCount h hc
  refine ⟨σ2, y2, sn2, tx2, ?_, g1, g2⟩
  unfold fLc_4
  rw [e1, bd_s, e2, bd_s, if_pos rfl, show nI p + 4 = nI (p + 4) from n_add p 4]
theorem lc_5 {σ : js_S} {y : js_Y} {sn : Option js_Y} {tx : List Int32} {L p : Nat} {xs : Nat → Int32} {rc : Int32 → js_S → Option (Int32 × js_S)} (h : iv_ σ y sn tx) (hc : ch_ σ y) (hp : p + 3 < L) (hL : L ≤ 2048) : ∃ σ2 y2 sn2 tx2, fLc_5 5000 L xs rc (nI p) σ = rc (nI (p + 4)) σ2 ∧ iv_ σ2 y2 sn2 tx2 ∧ ch_ σ2 y2 := by
  obtain ⟨r, σ1, σ2, y2, sn2, tx2, e1, e2, g1, g2⟩ := u_leftSize h hc (xs (Int32.toNatClampNeg (nI p + 1)))
  refine ⟨σ2, y2, sn2, tx2, ?_, g1, g2⟩
  have i1 : ib_ (nI p + 1) L = true := li_ (q := 1) hp hL (by omega)
  unfold fLc_5
  rw [if_pos i1, e1, bd_s, if_pos i1, e2, bd_s, if_pos rfl, show nI p + 4 = nI (p + 4) from n_add p 4]
theorem lc_6 {σ : js_S} {y : js_Y} {sn : Option js_Y} {tx : List Int32} {L p : Nat} {xs : Nat → Int32} {rc : Int32 → js_S → Option (Int32 × js_S)} (h : iv_ σ y sn tx) (hc : ch_ σ y) (hp : p + 3 < L) (hL : L ≤ 2048) : ∃ σ2 y2 sn2 tx2, fLc_6 5000 L xs rc (nI p) σ = rc (nI (p + 4)) σ2 ∧ iv_ σ2 y2 sn2 tx2 ∧ ch_ σ2 y2 := by
  obtain ⟨r, σ1, σ2, y2, sn2, tx2, e1, e2, g1, g2⟩ := u_rightSize h hc (xs (Int32.toNatClampNeg (nI p + 1)))
  refine ⟨σ2, y2, sn2, tx2, ?_, g1, g2⟩
  have i1 : ib_ (nI p + 1) L = true := li_ (q := 1) hp hL (by omega)
  unfold fLc_6
  rw [if_pos i1, e1, bd_s, if_pos i1, e2, bd_s, if_pos rfl, show nI p + 4 = nI (p + 4) from n_add p 4]
theorem lc_7 {σ : js_S} {y : js_Y} {sn : Option js_Y} {tx : List Int32} {L p : Nat} {xs : Nat → Int32} {rc : Int32 → js_S → Option (Int32 × js_S)} (h : iv_ σ y sn tx) (hc : ch_ σ y) (hp : p + 3 < L) (hL : L ≤ 2048) : ∃ σ2 y2 sn2 tx2, fLc_7 5000 L xs rc (nI p) σ = rc (nI (p + 4)) σ2 ∧ iv_ σ2 y2 sn2 tx2 ∧ ch_ σ2 y2 := by
  obtain ⟨r, σ1, σ2, y2, sn2, tx2, e1, e2, g1, g2⟩ := u_pairCount h hc
  refine ⟨σ2, y2, sn2, tx2, ?_, g1, g2⟩
  unfold fLc_7
  rw [e1, bd_s, e2, bd_s, if_pos rfl, show nI p + 4 = nI (p + 4) from n_add p 4]
theorem lc_8 {σ : js_S} {y : js_Y} {sn : Option js_Y} {tx : List Int32} {L p : Nat} {xs : Nat → Int32} {rc : Int32 → js_S → Option (Int32 × js_S)} (h : iv_ σ y sn tx) (hc : ch_ σ y) (hp : p + 3 < L) (hL : L ≤ 2048) : ∃ σ2 y2 sn2 tx2, fLc_8 5000 L xs rc (nI p) σ = rc (nI (p + 4)) σ2 ∧ iv_ σ2 y2 sn2 tx2 ∧ ch_ σ2 y2 := by
  obtain ⟨r, σ1, σ2, y2, sn2, tx2, e1, e2, g1, g2⟩ := u_pairRule h hc (xs (Int32.toNatClampNeg (nI p + 1)))
  refine ⟨σ2, y2, sn2, tx2, ?_, g1, g2⟩
  have i1 : ib_ (nI p + 1) L = true := li_ (q := 1) hp hL (by omega)
  unfold fLc_8
  rw [if_pos i1, e1, bd_s, if_pos i1, e2, bd_s, if_pos rfl, show nI p + 4 = nI (p + 4) from n_add p 4]
theorem lc_9 {σ : js_S} {y : js_Y} {sn : Option js_Y} {tx : List Int32} {L p : Nat} {xs : Nat → Int32} {rc : Int32 → js_S → Option (Int32 × js_S)} (h : iv_ σ y sn tx) (hc : ch_ σ y) (hp : p + 3 < L) (hL : L ≤ 2048) : ∃ σ2 y2 sn2 tx2, fLc_9 5000 L xs rc (nI p) σ = rc (nI (p + 4)) σ2 ∧ iv_ σ2 y2 sn2 tx2 ∧ ch_ σ2 y2 := by
  obtain ⟨r, σ1, σ2, y2, sn2, tx2, e1, e2, g1, g2⟩ := u_pairPosition h hc (xs (Int32.toNatClampNeg (nI p + 1)))
  refine ⟨σ2, y2, sn2, tx2, ?_, g1, g2⟩
  have i1 : ib_ (nI p + 1) L = true := li_ (q := 1) hp hL (by omega)
  unfold fLc_9
  rw [if_pos i1, e1, bd_s, if_pos i1, e2, bd_s, if_pos rfl, show nI p + 4 = nI (p + 4) from n_add p 4]
theorem lc_10 {σ : js_S} {y : js_Y} {sn : Option js_Y} {tx : List Int32} {L p : Nat} {xs : Nat → Int32} {rc : Int32 → js_S → Option (Int32 × js_S)} (h : iv_ σ y sn tx) (hc : ch_ σ y) (hp : p + 3 < L) (hL : L ≤ 2048) : ∃ σ2 y2 sn2 tx2, fLc_10 5000 L xs rc (nI p) σ = rc (nI (p + 4)) σ2 ∧ iv_ σ2 y2 sn2 tx2 ∧ ch_ σ2 y2 := by
  obtain ⟨r, σ1, σ2, y2, sn2, tx2, e1, e2, g1, g2⟩ := u_sourceFunction h hc (xs (Int32.toNatClampNeg (nI p + 1)))
  refine ⟨σ2, y2, sn2, tx2, ?_, g1, g2⟩
  have i1 : ib_ (nI p + 1) L = true := li_ (q := 1) hp hL (by omega)
  unfold fLc_10
  rw [if_pos i1, e1, bd_s, if_pos i1, e2, bd_s, if_pos rfl, show nI p + 4 = nI (p + 4) from n_add p 4]
theorem lc_11 {σ : js_S} {y : js_Y} {sn : Option js_Y} {tx : List Int32} {L p : Nat} {xs : Nat → Int32} {rc : Int32 → js_S → Option (Int32 × js_S)} (h : iv_ σ y sn tx) (hc : ch_ σ y) (hp : p + 3 < L) (hL : L ≤ 2048) : ∃ σ2 y2 sn2 tx2, fLc_11 5000 L xs rc (nI p) σ = rc (nI (p + 4)) σ2 ∧ iv_ σ2 y2 sn2 tx2 ∧ ch_ σ2 y2 := by
  obtain ⟨r, σ1, σ2, y2, sn2, tx2, e1, e2, g1, g2⟩ := u_targetFunction h hc (xs (Int32.toNatClampNeg (nI p + 1)))
  refine ⟨σ2, y2, sn2, tx2, ?_, g1, g2⟩
  have i1 : ib_ (nI p + 1) L = true := li_ (q := 1) hp hL (by omega)
  unfold fLc_11
  rw [if_pos i1, e1, bd_s, if_pos i1, e2, bd_s, if_pos rfl, show nI p + 4 = nI (p + 4) from n_add p 4]
theorem lc_12 {σ : js_S} {y : js_Y} {sn : Option js_Y} {tx : List Int32} {L p : Nat} {xs : Nat → Int32} {rc : Int32 → js_S → Option (Int32 × js_S)} (h : iv_ σ y sn tx) (hc : ch_ σ y) (hp : p + 3 < L) (hL : L ≤ 2048) : ∃ σ2 y2 sn2 tx2, fLc_12 5000 L xs rc (nI p) σ = rc (nI (p + 4)) σ2 ∧ iv_ σ2 y2 sn2 tx2 ∧ ch_ σ2 y2 := by
  obtain ⟨r, σ1, σ2, y2, sn2, tx2, e1, e2, g1, g2⟩ := u_hasEdge h hc (xs (Int32.toNatClampNeg (nI p + 1))) (xs (Int32.toNatClampNeg (nI p + 2)))
  refine ⟨σ2, y2, sn2, tx2, ?_, g1, g2⟩
  have i1 : ib_ (nI p + 1) L = true := li_ (q := 1) hp hL (by omega)
  have i2 : ib_ (nI p + 2) L = true := li_ (q := 2) hp hL (by omega)
  unfold fLc_12
  rw [if_pos i1, if_pos i2, e1, bd_s, if_pos i1, if_pos i2, e2, bd_s, if_pos rfl, show nI p + 4 = nI (p + 4) from n_add p 4]
theorem lc_13 {σ : js_S} {y : js_Y} {sn : Option js_Y} {tx : List Int32} {L p : Nat} {xs : Nat → Int32} {rc : Int32 → js_S → Option (Int32 × js_S)} (h : iv_ σ y sn tx) (hc : ch_ σ y) (hp : p + 3 < L) (hL : L ≤ 2048) : ∃ σ2 y2 sn2 tx2, fLc_13 5000 L xs rc (nI p) σ = rc (nI (p + 4)) σ2 ∧ iv_ σ2 y2 sn2 tx2 ∧ ch_ σ2 y2 := by
  obtain ⟨r, σ1, σ2, y2, sn2, tx2, e1, e2, g1, g2⟩ := u_edgeCount h hc
  refine ⟨σ2, y2, sn2, tx2, ?_, g1, g2⟩
  unfold fLc_13
  rw [e1, bd_s, e2, bd_s, if_pos rfl, show nI p + 4 = nI (p + 4) from n_add p 4]
theorem lc_14 {σ : js_S} {y : js_Y} {sn : Option js_Y} {tx : List Int32} {L p : Nat} {xs : Nat → Int32} {rc : Int32 → js_S → Option (Int32 × js_S)} (h : iv_ σ y sn tx) (hc : ch_ σ y) (hp : p + 3 < L) (hL : L ≤ 2048) : ∃ σ2 y2 sn2 tx2, fLc_14 5000 L xs rc (nI p) σ = rc (nI (p + 4)) σ2 ∧ iv_ σ2 y2 sn2 tx2 ∧ ch_ σ2 y2 := by
  obtain ⟨r, σ1, σ2, y2, sn2, tx2, e1, e2, g1, g2⟩ := u_componentCount h hc
  refine ⟨σ2, y2, sn2, tx2, ?_, g1, g2⟩
  unfold fLc_14
  rw [e1, bd_s, e2, bd_s, if_pos rfl, show nI p + 4 = nI (p + 4) from n_add p 4]
theorem lc_15 {σ : js_S} {y : js_Y} {sn : Option js_Y} {tx : List Int32} {L p : Nat} {xs : Nat → Int32} {rc : Int32 → js_S → Option (Int32 × js_S)} (h : iv_ σ y sn tx) (hc : ch_ σ y) (hp : p + 3 < L) (hL : L ≤ 2048) : ∃ σ2 y2 sn2 tx2, fLc_15 5000 L xs rc (nI p) σ = rc (nI (p + 4)) σ2 ∧ iv_ σ2 y2 sn2 tx2 ∧ ch_ σ2 y2 := by
  obtain ⟨r, σ1, σ2, y2, sn2, tx2, e1, e2, g1, g2⟩ := u_componentOf h hc (xs (Int32.toNatClampNeg (nI p + 1)))
  refine ⟨σ2, y2, sn2, tx2, ?_, g1, g2⟩
  have i1 : ib_ (nI p + 1) L = true := li_ (q := 1) hp hL (by omega)
  unfold fLc_15
  rw [if_pos i1, e1, bd_s, if_pos i1, e2, bd_s, if_pos rfl, show nI p + 4 = nI (p + 4) from n_add p 4]
theorem lc_16 {σ : js_S} {y : js_Y} {sn : Option js_Y} {tx : List Int32} {L p : Nat} {xs : Nat → Int32} {rc : Int32 → js_S → Option (Int32 × js_S)} (h : iv_ σ y sn tx) (hc : ch_ σ y) (hp : p + 3 < L) (hL : L ≤ 2048) : ∃ σ2 y2 sn2 tx2, fLc_16 5000 L xs rc (nI p) σ = rc (nI (p + 4)) σ2 ∧ iv_ σ2 y2 sn2 tx2 ∧ ch_ σ2 y2 := by
  obtain ⟨r, σ1, σ2, y2, sn2, tx2, e1, e2, g1, g2⟩ := u_sizeRelation h hc (xs (Int32.toNatClampNeg (nI p + 1))) (xs (Int32.toNatClampNeg (nI p + 2))) (xs (Int32.toNatClampNeg (nI p + 3)))
  refine ⟨σ2, y2, sn2, tx2, ?_, g1, g2⟩
  have i1 : ib_ (nI p + 1) L = true := li_ (q := 1) hp hL (by omega)
  have i2 : ib_ (nI p + 2) L = true := li_ (q := 2) hp hL (by omega)
  have i3 : ib_ (nI p + 3) L = true := li_ (q := 3) hp hL (by omega)
  unfold fLc_16
  rw [if_pos i1, if_pos i2, if_pos i3, e1, bd_s, if_pos i1, if_pos i2, if_pos i3, e2, bd_s, if_pos rfl, show nI p + 4 = nI (p + 4) from n_add p 4]
theorem lc_17 {σ : js_S} {y : js_Y} {sn : Option js_Y} {tx : List Int32} {L p : Nat} {xs : Nat → Int32} {rc : Int32 → js_S → Option (Int32 × js_S)} (h : iv_ σ y sn tx) (hc : ch_ σ y) (hp : p + 3 < L) (hL : L ≤ 2048) : ∃ σ2 y2 sn2 tx2, fLc_17 5000 L xs rc (nI p) σ = rc (nI (p + 4)) σ2 ∧ iv_ σ2 y2 sn2 tx2 ∧ ch_ σ2 y2 := by
  obtain ⟨r, σ1, σ2, y2, sn2, tx2, e1, e2, g1, g2⟩ := u_closureSize h hc
  refine ⟨σ2, y2, sn2, tx2, ?_, g1, g2⟩
  unfold fLc_17
  rw [e1, bd_s, e2, bd_s, if_pos rfl, show nI p + 4 = nI (p + 4) from n_add p 4]
theorem lc_18 {σ : js_S} {y : js_Y} {sn : Option js_Y} {tx : List Int32} {L p : Nat} {xs : Nat → Int32} {rc : Int32 → js_S → Option (Int32 × js_S)} (h : iv_ σ y sn tx) (hc : ch_ σ y) (hp : p + 3 < L) (hL : L ≤ 2048) : ∃ σ2 y2 sn2 tx2, fLc_18 5000 L xs rc (nI p) σ = rc (nI (p + 4)) σ2 ∧ iv_ σ2 y2 sn2 tx2 ∧ ch_ σ2 y2 := by
  obtain ⟨r, σ1, σ2, y2, sn2, tx2, e1, e2, g1, g2⟩ := u_idempotentCount h hc
  refine ⟨σ2, y2, sn2, tx2, ?_, g1, g2⟩
  unfold fLc_18
  rw [e1, bd_s, e2, bd_s, if_pos rfl, show nI p + 4 = nI (p + 4) from n_add p 4]
theorem lc_19 {σ : js_S} {y : js_Y} {sn : Option js_Y} {tx : List Int32} {L p : Nat} {xs : Nat → Int32} {rc : Int32 → js_S → Option (Int32 × js_S)} (h : iv_ σ y sn tx) (hc : ch_ σ y) (hp : p + 3 < L) (hL : L ≤ 2048) : ∃ σ2 y2 sn2 tx2, fLc_19 5000 L xs rc (nI p) σ = rc (nI (p + 4)) σ2 ∧ iv_ σ2 y2 sn2 tx2 ∧ ch_ σ2 y2 := by
  obtain ⟨r, σ1, σ2, y2, sn2, tx2, e1, e2, g1, g2⟩ := u_terminatesBySizeChange h hc
  refine ⟨σ2, y2, sn2, tx2, ?_, g1, g2⟩
  unfold fLc_19
  rw [e1, bd_s, e2, bd_s, if_pos rfl, show nI p + 4 = nI (p + 4) from n_add p 4]
theorem lc_20 {σ : js_S} {y : js_Y} {sn : Option js_Y} {tx : List Int32} {L p : Nat} {xs : Nat → Int32} {rc : Int32 → js_S → Option (Int32 × js_S)} (h : iv_ σ y sn tx) (hc : ch_ σ y) (hp : p + 3 < L) (hL : L ≤ 2048) : ∃ σ2 y2 sn2 tx2, fLc_20 5000 L xs rc (nI p) σ = rc (nI (p + 4)) σ2 ∧ iv_ σ2 y2 sn2 tx2 ∧ ch_ σ2 y2 := by
  obtain ⟨r, σ1, σ2, y2, sn2, tx2, e1, e2, g1, g2⟩ := u_projection h hc (xs (Int32.toNatClampNeg (nI p + 1)))
  refine ⟨σ2, y2, sn2, tx2, ?_, g1, g2⟩
  have i1 : ib_ (nI p + 1) L = true := li_ (q := 1) hp hL (by omega)
  unfold fLc_20
  rw [if_pos i1, e1, bd_s, if_pos i1, e2, bd_s, if_pos rfl, show nI p + 4 = nI (p + 4) from n_add p 4]
theorem lc_21 {σ : js_S} {y : js_Y} {sn : Option js_Y} {tx : List Int32} {L p : Nat} {xs : Nat → Int32} {rc : Int32 → js_S → Option (Int32 × js_S)} (h : iv_ σ y sn tx) (hc : ch_ σ y) (hp : p + 3 < L) (hL : L ≤ 2048) : ∃ σ2 y2 sn2 tx2, fLc_21 5000 L xs rc (nI p) σ = rc (nI (p + 4)) σ2 ∧ iv_ σ2 y2 sn2 tx2 ∧ ch_ σ2 y2 := by
  obtain ⟨r, σ1, σ2, y2, sn2, tx2, e1, e2, g1, g2⟩ := u_eliminationRounds h hc
  refine ⟨σ2, y2, sn2, tx2, ?_, g1, g2⟩
  unfold fLc_21
  rw [e1, bd_s, e2, bd_s, if_pos rfl, show nI p + 4 = nI (p + 4) from n_add p 4]
theorem lc_22 {σ : js_S} {y : js_Y} {sn : Option js_Y} {tx : List Int32} {L p : Nat} {xs : Nat → Int32} {rc : Int32 → js_S → Option (Int32 × js_S)} (h : iv_ σ y sn tx) (hc : ch_ σ y) (hp : p + 3 < L) (hL : L ≤ 2048) : ∃ σ2 y2 sn2 tx2, fLc_22 5000 L xs rc (nI p) σ = rc (nI (p + 4)) σ2 ∧ iv_ σ2 y2 sn2 tx2 ∧ ch_ σ2 y2 := by
  obtain ⟨r, σ1, σ2, y2, sn2, tx2, e1, e2, g1, g2⟩ := u_remainingPairCount h hc
  refine ⟨σ2, y2, sn2, tx2, ?_, g1, g2⟩
  unfold fLc_22
  rw [e1, bd_s, e2, bd_s, if_pos rfl, show nI p + 4 = nI (p + 4) from n_add p 4]
theorem lc_23 {σ : js_S} {y : js_Y} {sn : Option js_Y} {tx : List Int32} {L p : Nat} {xs : Nat → Int32} {rc : Int32 → js_S → Option (Int32 × js_S)} (h : iv_ σ y sn tx) (hc : ch_ σ y) (hp : p + 3 < L) (hL : L ≤ 2048) : ∃ σ2 y2 sn2 tx2, fLc_23 5000 L xs rc (nI p) σ = rc (nI (p + 4)) σ2 ∧ iv_ σ2 y2 sn2 tx2 ∧ ch_ σ2 y2 := by
  obtain ⟨r, σ1, σ2, y2, sn2, tx2, e1, e2, g1, g2⟩ := u_remainingComponentCount h hc
  refine ⟨σ2, y2, sn2, tx2, ?_, g1, g2⟩
  unfold fLc_23
  rw [e1, bd_s, e2, bd_s, if_pos rfl, show nI p + 4 = nI (p + 4) from n_add p 4]
theorem lc_24 {σ : js_S} {y : js_Y} {sn : Option js_Y} {tx : List Int32} {L p : Nat} {xs : Nat → Int32} {rc : Int32 → js_S → Option (Int32 × js_S)} (h : iv_ σ y sn tx) (hc : ch_ σ y) (hp : p + 3 < L) (hL : L ≤ 2048) : ∃ σ2 y2 sn2 tx2, fLc_24 5000 L xs rc (nI p) σ = rc (nI (p + 4)) σ2 ∧ iv_ σ2 y2 sn2 tx2 ∧ ch_ σ2 y2 := by
  obtain ⟨r, σ1, σ2, y2, sn2, tx2, e1, e2, g1, g2⟩ := u_terminatesBySubtermCriterion h hc
  refine ⟨σ2, y2, sn2, tx2, ?_, g1, g2⟩
  unfold fLc_24
  rw [e1, bd_s, e2, bd_s, if_pos rfl, show nI p + 4 = nI (p + 4) from n_add p 4]
theorem lc_25 {σ : js_S} {y : js_Y} {sn : Option js_Y} {tx : List Int32} {L p : Nat} {xs : Nat → Int32} {rc : Int32 → js_S → Option (Int32 × js_S)} (h : iv_ σ y sn tx) (hc : ch_ σ y) (hp : p + 3 < L) (hL : L ≤ 2048) : ∃ σ2 y2 sn2 tx2, fLc_25 5000 L xs rc (nI p) σ = rc (nI (p + 4)) σ2 ∧ iv_ σ2 y2 sn2 tx2 ∧ ch_ σ2 y2 := by
  obtain ⟨r, σ1, σ2, y2, sn2, tx2, e1, e2, g1, g2⟩ := u_parseTerm h hc (xs (Int32.toNatClampNeg (nI p + 1)))
  refine ⟨σ2, y2, sn2, tx2, ?_, g1, g2⟩
  have i1 : ib_ (nI p + 1) L = true := li_ (q := 1) hp hL (by omega)
  unfold fLc_25
  rw [if_pos i1, e1, bd_s, if_pos i1, e2, bd_s, if_pos rfl, show nI p + 4 = nI (p + 4) from n_add p 4]
theorem lc_26 {σ : js_S} {y : js_Y} {sn : Option js_Y} {tx : List Int32} {L p : Nat} {xs : Nat → Int32} {rc : Int32 → js_S → Option (Int32 × js_S)} (h : iv_ σ y sn tx) (hc : ch_ σ y) (hp : p + 3 < L) (hL : L ≤ 2048) : ∃ σ2 y2 sn2 tx2, fLc_26 5000 L xs rc (nI p) σ = rc (nI (p + 4)) σ2 ∧ iv_ σ2 y2 sn2 tx2 ∧ ch_ σ2 y2 := by
  obtain ⟨r, σ1, σ2, y2, sn2, tx2, e1, e2, g1, g2⟩ := u_termSize h hc (xs (Int32.toNatClampNeg (nI p + 1)))
  refine ⟨σ2, y2, sn2, tx2, ?_, g1, g2⟩
  have i1 : ib_ (nI p + 1) L = true := li_ (q := 1) hp hL (by omega)
  unfold fLc_26
  rw [if_pos i1, e1, bd_s, if_pos i1, e2, bd_s, if_pos rfl, show nI p + 4 = nI (p + 4) from n_add p 4]
theorem lc_27 {σ : js_S} {y : js_Y} {sn : Option js_Y} {tx : List Int32} {L p : Nat} {xs : Nat → Int32} {rc : Int32 → js_S → Option (Int32 × js_S)} (h : iv_ σ y sn tx) (hc : ch_ σ y) (hp : p + 3 < L) (hL : L ≤ 2048) : ∃ σ2 y2 sn2 tx2, fLc_27 5000 L xs rc (nI p) σ = rc (nI (p + 4)) σ2 ∧ iv_ σ2 y2 sn2 tx2 ∧ ch_ σ2 y2 := by
  obtain ⟨r, σ1, σ2, y2, sn2, tx2, e1, e2, g1, g2⟩ := u_formattedLength h hc (xs (Int32.toNatClampNeg (nI p + 1)))
  refine ⟨σ2, y2, sn2, tx2, ?_, g1, g2⟩
  have i1 : ib_ (nI p + 1) L = true := li_ (q := 1) hp hL (by omega)
  unfold fLc_27
  rw [if_pos i1, e1, bd_s, if_pos i1, e2, bd_s, if_pos rfl, show nI p + 4 = nI (p + 4) from n_add p 4]
theorem lc_28 {σ : js_S} {y : js_Y} {sn : Option js_Y} {tx : List Int32} {L p : Nat} {xs : Nat → Int32} {rc : Int32 → js_S → Option (Int32 × js_S)} (h : iv_ σ y sn tx) (hc : ch_ σ y) (hp : p + 3 < L) (hL : L ≤ 2048) : ∃ σ2 y2 sn2 tx2, fLc_28 5000 L xs rc (nI p) σ = rc (nI (p + 4)) σ2 ∧ iv_ σ2 y2 sn2 tx2 ∧ ch_ σ2 y2 := by
  obtain ⟨r, σ1, σ2, y2, sn2, tx2, e1, e2, g1, g2⟩ := u_formattedCharacter h hc (xs (Int32.toNatClampNeg (nI p + 1))) (xs (Int32.toNatClampNeg (nI p + 2)))
  refine ⟨σ2, y2, sn2, tx2, ?_, g1, g2⟩
  have i1 : ib_ (nI p + 1) L = true := li_ (q := 1) hp hL (by omega)
  have i2 : ib_ (nI p + 2) L = true := li_ (q := 2) hp hL (by omega)
  unfold fLc_28
  rw [if_pos i1, if_pos i2, e1, bd_s, if_pos i1, if_pos i2, e2, bd_s, if_pos rfl, show nI p + 4 = nI (p + 4) from n_add p 4]
theorem lc_29 {σ : js_S} {y : js_Y} {sn : Option js_Y} {tx : List Int32} {L p : Nat} {xs : Nat → Int32} {rc : Int32 → js_S → Option (Int32 × js_S)} (h : iv_ σ y sn tx) (hc : ch_ σ y) (hp : p + 3 < L) (hL : L ≤ 2048) : ∃ σ2 y2 sn2 tx2, fLc_29 5000 L xs rc (nI p) σ = rc (nI (p + 4)) σ2 ∧ iv_ σ2 y2 sn2 tx2 ∧ ch_ σ2 y2 := by
  obtain ⟨r, σ1, σ2, y2, sn2, tx2, e1, e2, g1, g2⟩ := u_compareTerms h hc (xs (Int32.toNatClampNeg (nI p + 1))) (xs (Int32.toNatClampNeg (nI p + 2)))
  refine ⟨σ2, y2, sn2, tx2, ?_, g1, g2⟩
  have i1 : ib_ (nI p + 1) L = true := li_ (q := 1) hp hL (by omega)
  have i2 : ib_ (nI p + 2) L = true := li_ (q := 2) hp hL (by omega)
  unfold fLc_29
  rw [if_pos i1, if_pos i2, e1, bd_s, if_pos i1, if_pos i2, e2, bd_s, if_pos rfl, show nI p + 4 = nI (p + 4) from n_add p 4]
theorem lc_30 {σ : js_S} {y : js_Y} {sn : Option js_Y} {tx : List Int32} {L p : Nat} {xs : Nat → Int32} {rc : Int32 → js_S → Option (Int32 × js_S)} (h : iv_ σ y sn tx) (hc : ch_ σ y) (hp : p + 3 < L) (hL : L ≤ 2048) : ∃ σ2 y2 sn2 tx2, fLc_30 5000 L xs rc (nI p) σ = rc (nI (p + 4)) σ2 ∧ iv_ σ2 y2 sn2 tx2 ∧ ch_ σ2 y2 := by
  obtain ⟨r, σ1, σ2, y2, sn2, tx2, e1, e2, g1, g2⟩ := u_copyTerm h hc (xs (Int32.toNatClampNeg (nI p + 1))) (xs (Int32.toNatClampNeg (nI p + 2)))
  refine ⟨σ2, y2, sn2, tx2, ?_, g1, g2⟩
  have i1 : ib_ (nI p + 1) L = true := li_ (q := 1) hp hL (by omega)
  have i2 : ib_ (nI p + 2) L = true := li_ (q := 2) hp hL (by omega)
  unfold fLc_30
  rw [if_pos i1, if_pos i2, e1, bd_s, if_pos i1, if_pos i2, e2, bd_s, if_pos rfl, show nI p + 4 = nI (p + 4) from n_add p 4]
theorem lc_31 {σ : js_S} {y : js_Y} {sn : Option js_Y} {tx : List Int32} {L p : Nat} {xs : Nat → Int32} {rc : Int32 → js_S → Option (Int32 × js_S)} (h : iv_ σ y sn tx) (hc : ch_ σ y) (hp : p + 3 < L) (hL : L ≤ 2048) : ∃ σ2 y2 sn2 tx2, fLc_31 5000 L xs rc (nI p) σ = rc (nI (p + 4)) σ2 ∧ iv_ σ2 y2 sn2 tx2 ∧ ch_ σ2 y2 := by
  obtain ⟨r, σ1, σ2, y2, sn2, tx2, e1, e2, g1, g2⟩ := u_loadLeft h hc (xs (Int32.toNatClampNeg (nI p + 1))) (xs (Int32.toNatClampNeg (nI p + 2)))
  refine ⟨σ2, y2, sn2, tx2, ?_, g1, g2⟩
  have i1 : ib_ (nI p + 1) L = true := li_ (q := 1) hp hL (by omega)
  have i2 : ib_ (nI p + 2) L = true := li_ (q := 2) hp hL (by omega)
  unfold fLc_31
  rw [if_pos i1, if_pos i2, e1, bd_s, if_pos i1, if_pos i2, e2, bd_s, if_pos rfl, show nI p + 4 = nI (p + 4) from n_add p 4]
theorem lc_32 {σ : js_S} {y : js_Y} {sn : Option js_Y} {tx : List Int32} {L p : Nat} {xs : Nat → Int32} {rc : Int32 → js_S → Option (Int32 × js_S)} (h : iv_ σ y sn tx) (hc : ch_ σ y) (hp : p + 3 < L) (hL : L ≤ 2048) : ∃ σ2 y2 sn2 tx2, fLc_32 5000 L xs rc (nI p) σ = rc (nI (p + 4)) σ2 ∧ iv_ σ2 y2 sn2 tx2 ∧ ch_ σ2 y2 := by
  obtain ⟨r, σ1, σ2, y2, sn2, tx2, e1, e2, g1, g2⟩ := u_loadRight h hc (xs (Int32.toNatClampNeg (nI p + 1))) (xs (Int32.toNatClampNeg (nI p + 2)))
  refine ⟨σ2, y2, sn2, tx2, ?_, g1, g2⟩
  have i1 : ib_ (nI p + 1) L = true := li_ (q := 1) hp hL (by omega)
  have i2 : ib_ (nI p + 2) L = true := li_ (q := 2) hp hL (by omega)
  unfold fLc_32
  rw [if_pos i1, if_pos i2, e1, bd_s, if_pos i1, if_pos i2, e2, bd_s, if_pos rfl, show nI p + 4 = nI (p + 4) from n_add p 4]
theorem lc_33 {σ : js_S} {y : js_Y} {sn : Option js_Y} {tx : List Int32} {L p : Nat} {xs : Nat → Int32} {rc : Int32 → js_S → Option (Int32 × js_S)} (h : iv_ σ y sn tx) (hc : ch_ σ y) (hp : p + 3 < L) (hL : L ≤ 2048) : ∃ σ2 y2 sn2 tx2, fLc_33 5000 L xs rc (nI p) σ = rc (nI (p + 4)) σ2 ∧ iv_ σ2 y2 sn2 tx2 ∧ ch_ σ2 y2 := by
  obtain ⟨r, σ1, σ2, y2, sn2, tx2, e1, e2, g1, g2⟩ := u_matches h hc (xs (Int32.toNatClampNeg (nI p + 1))) (xs (Int32.toNatClampNeg (nI p + 2))) (xs (Int32.toNatClampNeg (nI p + 3)))
  refine ⟨σ2, y2, sn2, tx2, ?_, g1, g2⟩
  have i1 : ib_ (nI p + 1) L = true := li_ (q := 1) hp hL (by omega)
  have i2 : ib_ (nI p + 2) L = true := li_ (q := 2) hp hL (by omega)
  have i3 : ib_ (nI p + 3) L = true := li_ (q := 3) hp hL (by omega)
  unfold fLc_33
  rw [if_pos i1, if_pos i2, if_pos i3, e1, bd_s, if_pos i1, if_pos i2, if_pos i3, e2, bd_s, if_pos rfl, show nI p + 4 = nI (p + 4) from n_add p 4]
theorem lc_34 {σ : js_S} {y : js_Y} {sn : Option js_Y} {tx : List Int32} {L p : Nat} {xs : Nat → Int32} {rc : Int32 → js_S → Option (Int32 × js_S)} (h : iv_ σ y sn tx) (hc : ch_ σ y) (hp : p + 3 < L) (hL : L ≤ 2048) : ∃ σ2 y2 sn2 tx2, fLc_34 5000 L xs rc (nI p) σ = rc (nI (p + 4)) σ2 ∧ iv_ σ2 y2 sn2 tx2 ∧ ch_ σ2 y2 := by
  obtain ⟨r, σ1, σ2, y2, sn2, tx2, e1, e2, g1, g2⟩ := u_redexCount h hc (xs (Int32.toNatClampNeg (nI p + 1)))
  refine ⟨σ2, y2, sn2, tx2, ?_, g1, g2⟩
  have i1 : ib_ (nI p + 1) L = true := li_ (q := 1) hp hL (by omega)
  unfold fLc_34
  rw [if_pos i1, e1, bd_s, if_pos i1, e2, bd_s, if_pos rfl, show nI p + 4 = nI (p + 4) from n_add p 4]
theorem lc_35 {σ : js_S} {y : js_Y} {sn : Option js_Y} {tx : List Int32} {L p : Nat} {xs : Nat → Int32} {rc : Int32 → js_S → Option (Int32 × js_S)} (h : iv_ σ y sn tx) (hc : ch_ σ y) (hp : p + 3 < L) (hL : L ≤ 2048) : ∃ σ2 y2 sn2 tx2, fLc_35 5000 L xs rc (nI p) σ = rc (nI (p + 4)) σ2 ∧ iv_ σ2 y2 sn2 tx2 ∧ ch_ σ2 y2 := by
  obtain ⟨r, σ1, σ2, y2, sn2, tx2, e1, e2, g1, g2⟩ := u_redexAt h hc (xs (Int32.toNatClampNeg (nI p + 1))) (xs (Int32.toNatClampNeg (nI p + 2)))
  refine ⟨σ2, y2, sn2, tx2, ?_, g1, g2⟩
  have i1 : ib_ (nI p + 1) L = true := li_ (q := 1) hp hL (by omega)
  have i2 : ib_ (nI p + 2) L = true := li_ (q := 2) hp hL (by omega)
  unfold fLc_35
  rw [if_pos i1, if_pos i2, e1, bd_s, if_pos i1, if_pos i2, e2, bd_s, if_pos rfl, show nI p + 4 = nI (p + 4) from n_add p 4]
theorem lc_36 {σ : js_S} {y : js_Y} {sn : Option js_Y} {tx : List Int32} {L p : Nat} {xs : Nat → Int32} {rc : Int32 → js_S → Option (Int32 × js_S)} (h : iv_ σ y sn tx) (hc : ch_ σ y) (hp : p + 3 < L) (hL : L ≤ 2048) : ∃ σ2 y2 sn2 tx2, fLc_36 5000 L xs rc (nI p) σ = rc (nI (p + 4)) σ2 ∧ iv_ σ2 y2 sn2 tx2 ∧ ch_ σ2 y2 := by
  obtain ⟨r, σ1, σ2, y2, sn2, tx2, e1, e2, g1, g2⟩ := u_rewriteAt h hc (xs (Int32.toNatClampNeg (nI p + 1))) (xs (Int32.toNatClampNeg (nI p + 2)))
  refine ⟨σ2, y2, sn2, tx2, ?_, g1, g2⟩
  have i1 : ib_ (nI p + 1) L = true := li_ (q := 1) hp hL (by omega)
  have i2 : ib_ (nI p + 2) L = true := li_ (q := 2) hp hL (by omega)
  unfold fLc_36
  rw [if_pos i1, if_pos i2, e1, bd_s, if_pos i1, if_pos i2, e2, bd_s, if_pos rfl, show nI p + 4 = nI (p + 4) from n_add p 4]
theorem lc_37 {σ : js_S} {y : js_Y} {sn : Option js_Y} {tx : List Int32} {L p : Nat} {xs : Nat → Int32} {rc : Int32 → js_S → Option (Int32 × js_S)} (h : iv_ σ y sn tx) (hc : ch_ σ y) (hp : p + 3 < L) (hL : L ≤ 2048) : ∃ σ2 y2 sn2 tx2, fLc_37 5000 L xs rc (nI p) σ = rc (nI (p + 4)) σ2 ∧ iv_ σ2 y2 sn2 tx2 ∧ ch_ σ2 y2 := by
  obtain ⟨r, σ1, σ2, y2, sn2, tx2, e1, e2, g1, g2⟩ := u_rewriteOutermost h hc (xs (Int32.toNatClampNeg (nI p + 1))) (xs (Int32.toNatClampNeg (nI p + 2)))
  refine ⟨σ2, y2, sn2, tx2, ?_, g1, g2⟩
  have i1 : ib_ (nI p + 1) L = true := li_ (q := 1) hp hL (by omega)
  have i2 : ib_ (nI p + 2) L = true := li_ (q := 2) hp hL (by omega)
  unfold fLc_37
  rw [if_pos i1, if_pos i2, e1, bd_s, if_pos i1, if_pos i2, e2, bd_s, if_pos rfl, show nI p + 4 = nI (p + 4) from n_add p 4]
theorem lc_38 {σ : js_S} {y : js_Y} {sn : Option js_Y} {tx : List Int32} {L p : Nat} {xs : Nat → Int32} {rc : Int32 → js_S → Option (Int32 × js_S)} (h : iv_ σ y sn tx) (hc : ch_ σ y) (hp : p + 3 < L) (hL : L ≤ 2048) : ∃ σ2 y2 sn2 tx2, fLc_38 5000 L xs rc (nI p) σ = rc (nI (p + 4)) σ2 ∧ iv_ σ2 y2 sn2 tx2 ∧ ch_ σ2 y2 := by
  obtain ⟨r, σ1, σ2, y2, sn2, tx2, e1, e2, g1, g2⟩ := u_findLoop h hc (xs (Int32.toNatClampNeg (nI p + 1))) (xs (Int32.toNatClampNeg (nI p + 2)))
  refine ⟨σ2, y2, sn2, tx2, ?_, g1, g2⟩
  have i1 : ib_ (nI p + 1) L = true := li_ (q := 1) hp hL (by omega)
  have i2 : ib_ (nI p + 2) L = true := li_ (q := 2) hp hL (by omega)
  unfold fLc_38
  rw [if_pos i1, if_pos i2, e1, bd_s, if_pos i1, if_pos i2, e2, bd_s, if_pos rfl, show nI p + 4 = nI (p + 4) from n_add p 4]
theorem lc_39 {σ : js_S} {y : js_Y} {sn : Option js_Y} {tx : List Int32} {L p : Nat} {xs : Nat → Int32} {rc : Int32 → js_S → Option (Int32 × js_S)} (h : iv_ σ y sn tx) (hc : ch_ σ y) (hp : p + 3 < L) (hL : L ≤ 2048) : ∃ σ2 y2 sn2 tx2, fLc_39 5000 L xs rc (nI p) σ = rc (nI (p + 4)) σ2 ∧ iv_ σ2 y2 sn2 tx2 ∧ ch_ σ2 y2 := by
  obtain ⟨r, σ1, σ2, y2, sn2, tx2, e1, e2, g1, g2⟩ := u_exploredCount h hc (xs (Int32.toNatClampNeg (nI p + 1))) (xs (Int32.toNatClampNeg (nI p + 2)))
  refine ⟨σ2, y2, sn2, tx2, ?_, g1, g2⟩
  have i1 : ib_ (nI p + 1) L = true := li_ (q := 1) hp hL (by omega)
  have i2 : ib_ (nI p + 2) L = true := li_ (q := 2) hp hL (by omega)
  unfold fLc_39
  rw [if_pos i1, if_pos i2, e1, bd_s, if_pos i1, if_pos i2, e2, bd_s, if_pos rfl, show nI p + 4 = nI (p + 4) from n_add p 4]
theorem lc_40 {σ : js_S} {y : js_Y} {sn : Option js_Y} {tx : List Int32} {L p : Nat} {xs : Nat → Int32} {rc : Int32 → js_S → Option (Int32 × js_S)} (h : iv_ σ y sn tx) (hc : ch_ σ y) (hp : p + 3 < L) (hL : L ≤ 2048) : ∃ σ2 y2 sn2 tx2, fLc_40 5000 L xs rc (nI p) σ = rc (nI (p + 4)) σ2 ∧ iv_ σ2 y2 sn2 tx2 ∧ ch_ σ2 y2 := by
  obtain ⟨r, σ1, σ2, y2, sn2, tx2, e1, e2, g1, g2⟩ := u_exploredNormalForms h hc (xs (Int32.toNatClampNeg (nI p + 1))) (xs (Int32.toNatClampNeg (nI p + 2)))
  refine ⟨σ2, y2, sn2, tx2, ?_, g1, g2⟩
  have i1 : ib_ (nI p + 1) L = true := li_ (q := 1) hp hL (by omega)
  have i2 : ib_ (nI p + 2) L = true := li_ (q := 2) hp hL (by omega)
  unfold fLc_40
  rw [if_pos i1, if_pos i2, e1, bd_s, if_pos i1, if_pos i2, e2, bd_s, if_pos rfl, show nI p + 4 = nI (p + 4) from n_add p 4]
theorem lc_41 {σ : js_S} {y : js_Y} {sn : Option js_Y} {tx : List Int32} {L p : Nat} {xs : Nat → Int32} {rc : Int32 → js_S → Option (Int32 × js_S)} (h : iv_ σ y sn tx) (hc : ch_ σ y) (hp : p + 3 < L) (hL : L ≤ 2048) : ∃ σ2 y2 sn2 tx2, fLc_41 5000 L xs rc (nI p) σ = rc (nI (p + 4)) σ2 ∧ iv_ σ2 y2 sn2 tx2 ∧ ch_ σ2 y2 := by
  obtain ⟨r, σ1, σ2, y2, sn2, tx2, e1, e2, g1, g2⟩ := u_lastExploredSize h hc (xs (Int32.toNatClampNeg (nI p + 1))) (xs (Int32.toNatClampNeg (nI p + 2)))
  refine ⟨σ2, y2, sn2, tx2, ?_, g1, g2⟩
  have i1 : ib_ (nI p + 1) L = true := li_ (q := 1) hp hL (by omega)
  have i2 : ib_ (nI p + 2) L = true := li_ (q := 2) hp hL (by omega)
  unfold fLc_41
  rw [if_pos i1, if_pos i2, e1, bd_s, if_pos i1, if_pos i2, e2, bd_s, if_pos rfl, show nI p + 4 = nI (p + 4) from n_add p 4]
theorem lc_42 {σ : js_S} {y : js_Y} {sn : Option js_Y} {tx : List Int32} {L p : Nat} {xs : Nat → Int32} {rc : Int32 → js_S → Option (Int32 × js_S)} (h : iv_ σ y sn tx) (hc : ch_ σ y) (hp : p + 3 < L) (hL : L ≤ 2048) : ∃ σ2 y2 sn2 tx2, fLc_42 5000 L xs rc (nI p) σ = rc (nI (p + 4)) σ2 ∧ iv_ σ2 y2 sn2 tx2 ∧ ch_ σ2 y2 := by
  obtain ⟨r, σ1, σ2, y2, sn2, tx2, e1, e2, g1, g2⟩ := u_loadNormalForm h hc (xs (Int32.toNatClampNeg (nI p + 1))) (xs (Int32.toNatClampNeg (nI p + 2))) (xs (Int32.toNatClampNeg (nI p + 3)))
  refine ⟨σ2, y2, sn2, tx2, ?_, g1, g2⟩
  have i1 : ib_ (nI p + 1) L = true := li_ (q := 1) hp hL (by omega)
  have i2 : ib_ (nI p + 2) L = true := li_ (q := 2) hp hL (by omega)
  have i3 : ib_ (nI p + 3) L = true := li_ (q := 3) hp hL (by omega)
  unfold fLc_42
  rw [if_pos i1, if_pos i2, if_pos i3, e1, bd_s, if_pos i1, if_pos i2, if_pos i3, e2, bd_s, if_pos rfl, show nI p + 4 = nI (p + 4) from n_add p 4]
theorem lc_43 {σ : js_S} {y : js_Y} {sn : Option js_Y} {tx : List Int32} {L p : Nat} {xs : Nat → Int32} {rc : Int32 → js_S → Option (Int32 × js_S)} (h : iv_ σ y sn tx) (hc : ch_ σ y) (hp : p + 3 < L) (hL : L ≤ 2048) : ∃ σ2 y2 sn2 tx2, fLc_43 5000 L xs rc (nI p) σ = rc (nI (p + 4)) σ2 ∧ iv_ σ2 y2 sn2 tx2 ∧ ch_ σ2 y2 := by
  obtain ⟨r, σ1, σ2, y2, sn2, tx2, e1, e2, g1, g2⟩ := u_normalFormRegisterCount h hc
  refine ⟨σ2, y2, sn2, tx2, ?_, g1, g2⟩
  unfold fLc_43
  rw [e1, bd_s, e2, bd_s, if_pos rfl, show nI p + 4 = nI (p + 4) from n_add p 4]
theorem lc_44 {σ : js_S} {y : js_Y} {sn : Option js_Y} {tx : List Int32} {L p : Nat} {xs : Nat → Int32} {rc : Int32 → js_S → Option (Int32 × js_S)} (h : iv_ σ y sn tx) (hc : ch_ σ y) (hp : p + 3 < L) (hL : L ≤ 2048) : ∃ σ2 y2 sn2 tx2, fLc_44 5000 L xs rc (nI p) σ = rc (nI (p + 4)) σ2 ∧ iv_ σ2 y2 sn2 tx2 ∧ ch_ σ2 y2 := by
  obtain ⟨r, σ1, σ2, y2, sn2, tx2, e1, e2, g1, g2⟩ := u_appendCharacter h hc (xs (Int32.toNatClampNeg (nI p + 1)))
  refine ⟨σ2, y2, sn2, tx2, ?_, g1, g2⟩
  have i1 : ib_ (nI p + 1) L = true := li_ (q := 1) hp hL (by omega)
  unfold fLc_44
  rw [if_pos i1, e1, bd_s, if_pos i1, e2, bd_s, if_pos rfl, show nI p + 4 = nI (p + 4) from n_add p 4]
theorem lc_45 {σ : js_S} {y : js_Y} {sn : Option js_Y} {tx : List Int32} {L p : Nat} {xs : Nat → Int32} {rc : Int32 → js_S → Option (Int32 × js_S)} (h : iv_ σ y sn tx) (hc : ch_ σ y) (hp : p + 3 < L) (hL : L ≤ 2048) : ∃ σ2 y2 sn2 tx2, fLc_45 5000 L xs rc (nI p) σ = rc (nI (p + 4)) σ2 ∧ iv_ σ2 y2 sn2 tx2 ∧ ch_ σ2 y2 := by
  obtain ⟨r, σ1, σ2, y2, sn2, tx2, e1, e2, g1, g2⟩ := u_clearText h hc
  refine ⟨σ2, y2, sn2, tx2, ?_, g1, g2⟩
  unfold fLc_45
  rw [e1, bd_s, e2, bd_s, if_pos rfl, show nI p + 4 = nI (p + 4) from n_add p 4]
theorem lc_46 {σ : js_S} {y : js_Y} {sn : Option js_Y} {tx : List Int32} {L p : Nat} {xs : Nat → Int32} {rc : Int32 → js_S → Option (Int32 × js_S)} (h : iv_ σ y sn tx) (hc : ch_ σ y) (hp : p + 3 < L) (hL : L ≤ 2048) : ∃ σ2 y2 sn2 tx2, fLc_46 5000 L xs rc (nI p) σ = rc (nI (p + 4)) σ2 ∧ iv_ σ2 y2 sn2 tx2 ∧ ch_ σ2 y2 := by
  obtain ⟨r, σ1, σ2, y2, sn2, tx2, e1, e2, g1, g2⟩ := u_textLength h hc
  refine ⟨σ2, y2, sn2, tx2, ?_, g1, g2⟩
  unfold fLc_46
  rw [e1, bd_s, e2, bd_s, if_pos rfl, show nI p + 4 = nI (p + 4) from n_add p 4]
theorem lc_47 {σ : js_S} {y : js_Y} {sn : Option js_Y} {tx : List Int32} {L p : Nat} {xs : Nat → Int32} {rc : Int32 → js_S → Option (Int32 × js_S)} (h : iv_ σ y sn tx) (hc : ch_ σ y) (hp : p + 3 < L) (hL : L ≤ 2048) : ∃ σ2 y2 sn2 tx2, fLc_47 5000 L xs rc (nI p) σ = rc (nI (p + 4)) σ2 ∧ iv_ σ2 y2 sn2 tx2 ∧ ch_ σ2 y2 := by
  obtain ⟨r, σ1, σ2, y2, sn2, tx2, e1, e2, g1, g2⟩ := u_saveSnapshot h hc
  refine ⟨σ2, y2, sn2, tx2, ?_, g1, g2⟩
  unfold fLc_47
  rw [e1, bd_s, e2, bd_s, if_pos rfl, show nI p + 4 = nI (p + 4) from n_add p 4]
theorem lc_48 {σ : js_S} {y : js_Y} {sn : Option js_Y} {tx : List Int32} {L p : Nat} {xs : Nat → Int32} {rc : Int32 → js_S → Option (Int32 × js_S)} (h : iv_ σ y sn tx) (hc : ch_ σ y) (hp : p + 3 < L) (hL : L ≤ 2048) : ∃ σ2 y2 sn2 tx2, fLc_48 5000 L xs rc (nI p) σ = rc (nI (p + 4)) σ2 ∧ iv_ σ2 y2 sn2 tx2 ∧ ch_ σ2 y2 := by
  obtain ⟨r, σ1, σ2, y2, sn2, tx2, e1, e2, g1, g2⟩ := u_restoreSnapshot h hc
  refine ⟨σ2, y2, sn2, tx2, ?_, g1, g2⟩
  unfold fLc_48
  rw [e1, bd_s, e2, bd_s, if_pos rfl, show nI p + 4 = nI (p + 4) from n_add p 4]
theorem lsw_ {σ : js_S} {y : js_Y} {sn : Option js_Y} {tx : List Int32} {L p : Nat} {xs : Nat → Int32} {rc : Int32 → js_S → Option (Int32 × js_S)} (h : iv_ σ y sn tx) (hc : ch_ σ y) (hp : p + 3 < L) (hL : L ≤ 2048) (v : Int32) : ∃ σ2 y2 sn2 tx2, fL_sw 5000 L xs rc v (nI p) σ = rc (nI (p + 4)) σ2 ∧ iv_ σ2 y2 sn2 tx2 ∧ ch_ σ2 y2 := by
  unfold fL_sw
  by_cases c0 : v = 0
  · rw [if_pos c0]
    exact lc_0 h hc hp hL
  rw [if_neg c0]
  by_cases c1 : v = 1
  · rw [if_pos c1]
    exact lc_1 h hc hp hL
  rw [if_neg c1]
  by_cases c2 : v = 2
  · rw [if_pos c2]
    exact lc_2 h hc hp hL
  rw [if_neg c2]
  by_cases c3 : v = 3
  · rw [if_pos c3]
    exact lc_3 h hc hp hL
  rw [if_neg c3]
  by_cases c4 : v = 4
  · rw [if_pos c4]
    exact lc_4 h hc hp hL
  rw [if_neg c4]
  by_cases c5 : v = 5
  · rw [if_pos c5]
    exact lc_5 h hc hp hL
  rw [if_neg c5]
  by_cases c6 : v = 6
  · rw [if_pos c6]
    exact lc_6 h hc hp hL
  rw [if_neg c6]
  by_cases c7 : v = 7
  · rw [if_pos c7]
    exact lc_7 h hc hp hL
  rw [if_neg c7]
  by_cases c8 : v = 8
  · rw [if_pos c8]
    exact lc_8 h hc hp hL
  rw [if_neg c8]
  by_cases c9 : v = 9
  · rw [if_pos c9]
    exact lc_9 h hc hp hL
  rw [if_neg c9]
  by_cases c10 : v = 10
  · rw [if_pos c10]
    exact lc_10 h hc hp hL
  rw [if_neg c10]
  by_cases c11 : v = 11
  · rw [if_pos c11]
    exact lc_11 h hc hp hL
  rw [if_neg c11]
  by_cases c12 : v = 12
  · rw [if_pos c12]
    exact lc_12 h hc hp hL
  rw [if_neg c12]
  by_cases c13 : v = 13
  · rw [if_pos c13]
    exact lc_13 h hc hp hL
  rw [if_neg c13]
  by_cases c14 : v = 14
  · rw [if_pos c14]
    exact lc_14 h hc hp hL
  rw [if_neg c14]
  by_cases c15 : v = 15
  · rw [if_pos c15]
    exact lc_15 h hc hp hL
  rw [if_neg c15]
  by_cases c16 : v = 16
  · rw [if_pos c16]
    exact lc_16 h hc hp hL
  rw [if_neg c16]
  by_cases c17 : v = 17
  · rw [if_pos c17]
    exact lc_17 h hc hp hL
  rw [if_neg c17]
  by_cases c18 : v = 18
  · rw [if_pos c18]
    exact lc_18 h hc hp hL
  rw [if_neg c18]
  by_cases c19 : v = 19
  · rw [if_pos c19]
    exact lc_19 h hc hp hL
  rw [if_neg c19]
  by_cases c20 : v = 20
  · rw [if_pos c20]
    exact lc_20 h hc hp hL
  rw [if_neg c20]
  by_cases c21 : v = 21
  · rw [if_pos c21]
    exact lc_21 h hc hp hL
  rw [if_neg c21]
  by_cases c22 : v = 22
  · rw [if_pos c22]
    exact lc_22 h hc hp hL
  rw [if_neg c22]
  by_cases c23 : v = 23
  · rw [if_pos c23]
    exact lc_23 h hc hp hL
  rw [if_neg c23]
  by_cases c24 : v = 24
  · rw [if_pos c24]
    exact lc_24 h hc hp hL
  rw [if_neg c24]
  by_cases c25 : v = 25
  · rw [if_pos c25]
    exact lc_25 h hc hp hL
  rw [if_neg c25]
  by_cases c26 : v = 26
  · rw [if_pos c26]
    exact lc_26 h hc hp hL
  rw [if_neg c26]
  by_cases c27 : v = 27
  · rw [if_pos c27]
    exact lc_27 h hc hp hL
  rw [if_neg c27]
  by_cases c28 : v = 28
  · rw [if_pos c28]
    exact lc_28 h hc hp hL
  rw [if_neg c28]
  by_cases c29 : v = 29
  · rw [if_pos c29]
    exact lc_29 h hc hp hL
  rw [if_neg c29]
  by_cases c30 : v = 30
  · rw [if_pos c30]
    exact lc_30 h hc hp hL
  rw [if_neg c30]
  by_cases c31 : v = 31
  · rw [if_pos c31]
    exact lc_31 h hc hp hL
  rw [if_neg c31]
  by_cases c32 : v = 32
  · rw [if_pos c32]
    exact lc_32 h hc hp hL
  rw [if_neg c32]
  by_cases c33 : v = 33
  · rw [if_pos c33]
    exact lc_33 h hc hp hL
  rw [if_neg c33]
  by_cases c34 : v = 34
  · rw [if_pos c34]
    exact lc_34 h hc hp hL
  rw [if_neg c34]
  by_cases c35 : v = 35
  · rw [if_pos c35]
    exact lc_35 h hc hp hL
  rw [if_neg c35]
  by_cases c36 : v = 36
  · rw [if_pos c36]
    exact lc_36 h hc hp hL
  rw [if_neg c36]
  by_cases c37 : v = 37
  · rw [if_pos c37]
    exact lc_37 h hc hp hL
  rw [if_neg c37]
  by_cases c38 : v = 38
  · rw [if_pos c38]
    exact lc_38 h hc hp hL
  rw [if_neg c38]
  by_cases c39 : v = 39
  · rw [if_pos c39]
    exact lc_39 h hc hp hL
  rw [if_neg c39]
  by_cases c40 : v = 40
  · rw [if_pos c40]
    exact lc_40 h hc hp hL
  rw [if_neg c40]
  by_cases c41 : v = 41
  · rw [if_pos c41]
    exact lc_41 h hc hp hL
  rw [if_neg c41]
  by_cases c42 : v = 42
  · rw [if_pos c42]
    exact lc_42 h hc hp hL
  rw [if_neg c42]
  by_cases c43 : v = 43
  · rw [if_pos c43]
    exact lc_43 h hc hp hL
  rw [if_neg c43]
  by_cases c44 : v = 44
  · rw [if_pos c44]
    exact lc_44 h hc hp hL
  rw [if_neg c44]
  by_cases c45 : v = 45
  · rw [if_pos c45]
    exact lc_45 h hc hp hL
  rw [if_neg c45]
  by_cases c46 : v = 46
  · rw [if_pos c46]
    exact lc_46 h hc hp hL
  rw [if_neg c46]
  by_cases c47 : v = 47
  · rw [if_pos c47]
    exact lc_47 h hc hp hL
  rw [if_neg c47]
  by_cases c48 : v = 48
  · rw [if_pos c48]
    exact lc_48 h hc hp hL
  rw [if_neg c48]
  exact ⟨σ, y, sn, tx, by rw [show nI p + 4 = nI (p + 4) from n_add p 4], h, hc⟩
theorem law_loop {L : Nat} {xs : Nat → Int32} (hL : L ≤ 2048) : ∀ (d p k : Nat) (σ : js_S) (y : js_Y) (sn : Option js_Y) (tx : List Int32), L < p + 4 * d → p ≤ L + 4 → d < k → iv_ σ y sn tx → ch_ σ y → ∃ σ0, fL_18 5000 L xs k (nI p) σ = some (1, σ0) := by
  intro d
  induction d with
  | zero =>
    intro p k σ y sn tx h1 h2 hk h hc
    obtain ⟨k, rfl⟩ : ∃ j, k = j + 1 := ⟨k - 1, by omega⟩
    refine ⟨σ, ?_⟩
    show fL_18b 5000 L xs (fL_18 5000 L xs k) (nI p) σ = _
    unfold fL_18b
    rw [n_of, if_pos]
    by_cases c : L < 4
    · have : nI L - 4 < 0 := by
        have : ∀ L, L < 4 → nI L - 4 < 0 := by decide +kernel
        exact this L c
      exact n_neg this (by omega)
    · rw [show nI L - 4 = nI (L - 4) from n_sub (b := 4) (by omega)]
      exact nlt_t (by omega) (by omega)
  | succ d ih =>
    intro p k σ y sn tx h1 h2 hk h hc
    obtain ⟨k, rfl⟩ : ∃ j, k = j + 1 := ⟨k - 1, by omega⟩
    by_cases c : p + 3 < L
    · obtain ⟨σ2, y2, sn2, tx2, e, g1, g2⟩ := lsw_ (rc := fL_18 5000 L xs k) (xs := xs) h hc c hL (xs (Int32.toNatClampNeg (nI p)) &&& 63)
      obtain ⟨σ0, e0⟩ := ih (p + 4) k σ2 y2 sn2 tx2 (by omega) (by omega) (by omega) g1 g2
      refine ⟨σ0, ?_⟩
      show fL_18b 5000 L xs (fL_18 5000 L xs k) (nI p) σ = _
      unfold fL_18b
      rw [n_of, show nI L - 4 = nI (L - 4) from n_sub (b := 4) (by omega), if_neg (nlt_f (by omega) (by omega)), if_pos (ib_t (by omega) (by omega)), e, e0]
    · refine ⟨σ, ?_⟩
      show fL_18b 5000 L xs (fL_18 5000 L xs k) (nI p) σ = _
      unfold fL_18b
      rw [n_of, if_pos]
      by_cases c4 : L < 4
      · have : nI L - 4 < 0 := by
          have : ∀ L, L < 4 → nI L - 4 < 0 := by decide +kernel
          exact this L c4
        exact n_neg this (by omega)
      · rw [show nI L - 4 = nI (L - 4) from n_sub (b := 4) (by omega)]
        exact nlt_t (by omega) (by omega)
