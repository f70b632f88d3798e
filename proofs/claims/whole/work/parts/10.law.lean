def R_law : String := "DependencyPairAnalyzerLaw"
def lw_P (b : Addr) (xs : List Int32) (args : Array Value) (s : State) : Prop := args = #[.ref b] ∧ s.IntsAt b xs ∧ xs.length ≤ 2048 ∧ (Jvm.Cond.and given_1 narrow_1).before args s = true
def lw_Q (_ : Array Value) (s : State) (o : Outcome) (t : State) : Prop := o = .returned (some (.int 1)) ∧ Framed s o t [] 600000 7302250
def lw_Z (below : List Frame) (a : Array Value) (s : State) : State → Prop := fun t => ∃ o, t.status = .running ∧ Ended t below o ∧ lw_Q a s o t
theorem lw_ret {p : Program} {l : Launch} {e : Env} {s : State} {m : MethodId} {below : List Frame} {meth : Method} {c : Code} {b : Nat} (hx : p.tables.exec = Jvm.exec) (hb : c.code = code) (hr : meth.sig.returnType = ret) (hlocks : meth.locks = false) {pc : Nat} {H : Heap} {ls : Array Slot} (hdg : decode code pc = .ok (.ireturn, 1)) : W p l e room_1 s m #[Value.ref b] below meth c H [] 600000 7302250 (lw_Z below #[Value.ref b] s) (F0 m pc ls [.int 1]) := by
  intro T hT X
  obtain ⟨fs, hret, hrun, hended, hW, hframe⟩ := X.leave (v := some (.int 1)) (hlocks := hlocks) (fun h => by rw [hr] at h; cases h)
  have hmeth' : T.vm.method? m = some meth := X.method'
  refine ⟨T.setFrames fs, ?_, .returned (some (.int 1)), hrun, hended, rfl, ⟨_, rfl⟩, hW, hframe⟩
  jvm_step X.here [X.here.top, hx, hb, hdg, hmeth', hr, ret, narrow_b1]
  (try refine ⟨rfl, ?_⟩); (try refine ⟨rfl, ?_⟩)
  first | (intro acts; rw [hret _ acts rfl rfl rfl]) | rw [hret _ _ rfl rfl rfl]
  exact Steps.refl _
def lw_At (p : Program) (s : State) (m : MethodId) (meth : Method) (c : Code) (b L : Nat) (xs : Nat → Int32) : Prop :=
  p.tables.exec = Jvm.exec ∧ c.code = code ∧ meth.sig.returnType = ret ∧ c.maxLocals = 4 ∧ s.vm.findClass R_law = some m.cls ∧ (∀ w ∈ lw_tbl, w.before #[Value.ref b] s = true) ∧ va_X b L xs s s.heap ∧ b < s.heap.size ∧ meth.locks = false ∧ (Jvm.Cond.and given_1 narrow_1).before #[Value.ref b] s = true

theorem js_o11 : ob_ 419 11 1 := ⟨by decide, by decide, by decide +kernel⟩
theorem js_o12 : ob_ 419 12 390 := ⟨by decide, by decide, by decide +kernel⟩
theorem lk_L_10 : Cond.classLink RL 10 RX12 ∈ js_W := js_in (List.mem_of_getElem? (i := 1108) (by decide +kernel)) rfl
theorem lk_L_100 : Cond.methodLink RL 100 yX12_projection ∈ js_W := js_in (List.mem_of_getElem? (i := 1454) (by decide +kernel)) rfl
theorem lk_L_101 : Cond.methodLink RL 101 yX11_eliminationRounds ∈ js_W := js_in (List.mem_of_getElem? (i := 833) (by decide +kernel)) rfl
theorem lk_L_104 : Cond.methodLink RL 104 yX12_eliminationRounds ∈ js_W := js_in (List.mem_of_getElem? (i := 1466) (by decide +kernel)) rfl
theorem lk_L_105 : Cond.methodLink RL 105 yX11_remainingPairCount ∈ js_W := js_in (List.mem_of_getElem? (i := 864) (by decide +kernel)) rfl
theorem lk_L_108 : Cond.methodLink RL 108 yX12_remainingPairCount ∈ js_W := js_in (List.mem_of_getElem? (i := 1474) (by decide +kernel)) rfl
theorem lk_L_109 : Cond.methodLink RL 109 yX11_remainingComponentCount ∈ js_W := js_in (List.mem_of_getElem? (i := 868) (by decide +kernel)) rfl
theorem lk_L_112 : Cond.methodLink RL 112 yX12_remainingComponentCount ∈ js_W := js_in (List.mem_of_getElem? (i := 1478) (by decide +kernel)) rfl
theorem lk_L_113 : Cond.methodLink RL 113 yX11_terminatesBySubtermCriterion ∈ js_W := js_in (List.mem_of_getElem? (i := 872) (by decide +kernel)) rfl
theorem lk_L_116 : Cond.methodLink RL 116 yX12_terminatesBySubtermCriterion ∈ js_W := js_in (List.mem_of_getElem? (i := 1482) (by decide +kernel)) rfl
theorem lk_L_117 : Cond.methodLink RL 117 yX11_parseTerm ∈ js_W := js_in (List.mem_of_getElem? (i := 876) (by decide +kernel)) rfl
theorem lk_L_12 : Cond.methodLink RL 12 yX12_init ∈ js_W := js_in (List.mem_of_getElem? (i := 1110) (by decide +kernel)) rfl
theorem lk_L_120 : Cond.methodLink RL 120 yX12_parseTerm ∈ js_W := js_in (List.mem_of_getElem? (i := 1487) (by decide +kernel)) rfl
theorem lk_L_121 : Cond.methodLink RL 121 yX11_termSize ∈ js_W := js_in (List.mem_of_getElem? (i := 893) (by decide +kernel)) rfl
theorem lk_L_124 : Cond.methodLink RL 124 yX12_termSize ∈ js_W := js_in (List.mem_of_getElem? (i := 1494) (by decide +kernel)) rfl
theorem lk_L_125 : Cond.methodLink RL 125 yX11_formattedLength ∈ js_W := js_in (List.mem_of_getElem? (i := 897) (by decide +kernel)) rfl
theorem lk_L_128 : Cond.methodLink RL 128 yX12_formattedLength ∈ js_W := js_in (List.mem_of_getElem? (i := 1498) (by decide +kernel)) rfl
theorem lk_L_129 : Cond.methodLink RL 129 yX11_formattedCharacter ∈ js_W := js_in (List.mem_of_getElem? (i := 914) (by decide +kernel)) rfl
theorem lk_L_13 : Cond.methodLink RL 13 yX11_setArity ∈ js_W := js_in (List.mem_of_getElem? (i := 410) (by decide +kernel)) rfl
theorem lk_L_132 : Cond.methodLink RL 132 yX12_formattedCharacter ∈ js_W := js_in (List.mem_of_getElem? (i := 1510) (by decide +kernel)) rfl
theorem lk_L_133 : Cond.methodLink RL 133 yX11_compareTerms ∈ js_W := js_in (List.mem_of_getElem? (i := 919) (by decide +kernel)) rfl
theorem lk_L_136 : Cond.methodLink RL 136 yX12_compareTerms ∈ js_W := js_in (List.mem_of_getElem? (i := 1515) (by decide +kernel)) rfl
theorem lk_L_137 : Cond.methodLink RL 137 yX11_copyTerm ∈ js_W := js_in (List.mem_of_getElem? (i := 930) (by decide +kernel)) rfl
theorem lk_L_140 : Cond.methodLink RL 140 yX12_copyTerm ∈ js_W := js_in (List.mem_of_getElem? (i := 1522) (by decide +kernel)) rfl
theorem lk_L_141 : Cond.methodLink RL 141 yX11_loadLeft ∈ js_W := js_in (List.mem_of_getElem? (i := 934) (by decide +kernel)) rfl
theorem lk_L_144 : Cond.methodLink RL 144 yX12_loadLeft ∈ js_W := js_in (List.mem_of_getElem? (i := 1526) (by decide +kernel)) rfl
theorem lk_L_145 : Cond.methodLink RL 145 yX11_loadRight ∈ js_W := js_in (List.mem_of_getElem? (i := 938) (by decide +kernel)) rfl
theorem lk_L_148 : Cond.methodLink RL 148 yX12_loadRight ∈ js_W := js_in (List.mem_of_getElem? (i := 1534) (by decide +kernel)) rfl
theorem lk_L_149 : Cond.methodLink RL 149 yX11_matches ∈ js_W := js_in (List.mem_of_getElem? (i := 942) (by decide +kernel)) rfl
theorem lk_L_152 : Cond.methodLink RL 152 yX12_matches ∈ js_W := js_in (List.mem_of_getElem? (i := 1538) (by decide +kernel)) rfl
theorem lk_L_153 : Cond.methodLink RL 153 yX11_redexCount ∈ js_W := js_in (List.mem_of_getElem? (i := 963) (by decide +kernel)) rfl
theorem lk_L_156 : Cond.methodLink RL 156 yX12_redexCount ∈ js_W := js_in (List.mem_of_getElem? (i := 1553) (by decide +kernel)) rfl
theorem lk_L_157 : Cond.methodLink RL 157 yX11_redexAt ∈ js_W := js_in (List.mem_of_getElem? (i := 976) (by decide +kernel)) rfl
theorem lk_L_160 : Cond.methodLink RL 160 yX12_redexAt ∈ js_W := js_in (List.mem_of_getElem? (i := 1565) (by decide +kernel)) rfl
theorem lk_L_161 : Cond.methodLink RL 161 yX11_rewriteAt ∈ js_W := js_in (List.mem_of_getElem? (i := 984) (by decide +kernel)) rfl
theorem lk_L_164 : Cond.methodLink RL 164 yX12_rewriteAt ∈ js_W := js_in (List.mem_of_getElem? (i := 1569) (by decide +kernel)) rfl
theorem lk_L_165 : Cond.methodLink RL 165 yX11_rewriteOutermost ∈ js_W := js_in (List.mem_of_getElem? (i := 1004) (by decide +kernel)) rfl
theorem lk_L_168 : Cond.methodLink RL 168 yX12_rewriteOutermost ∈ js_W := js_in (List.mem_of_getElem? (i := 1577) (by decide +kernel)) rfl
theorem lk_L_169 : Cond.methodLink RL 169 yX11_findLoop ∈ js_W := js_in (List.mem_of_getElem? (i := 1015) (by decide +kernel)) rfl
theorem lk_L_17 : Cond.methodLink RL 17 yX12_setArity ∈ js_W := js_in (List.mem_of_getElem? (i := 1244) (by decide +kernel)) rfl
theorem lk_L_172 : Cond.methodLink RL 172 yX12_findLoop ∈ js_W := js_in (List.mem_of_getElem? (i := 1582) (by decide +kernel)) rfl
theorem lk_L_173 : Cond.methodLink RL 173 yX11_exploredCount ∈ js_W := js_in (List.mem_of_getElem? (i := 1028) (by decide +kernel)) rfl
theorem lk_L_176 : Cond.methodLink RL 176 yX12_exploredCount ∈ js_W := js_in (List.mem_of_getElem? (i := 1594) (by decide +kernel)) rfl
theorem lk_L_177 : Cond.methodLink RL 177 yX11_exploredNormalForms ∈ js_W := js_in (List.mem_of_getElem? (i := 1062) (by decide +kernel)) rfl
theorem lk_L_18 : Cond.methodLink RL 18 yX11_arity ∈ js_W := js_in (List.mem_of_getElem? (i := 452) (by decide +kernel)) rfl
theorem lk_L_180 : Cond.methodLink RL 180 yX12_exploredNormalForms ∈ js_W := js_in (List.mem_of_getElem? (i := 1610) (by decide +kernel)) rfl
theorem lk_L_181 : Cond.methodLink RL 181 yX11_lastExploredSize ∈ js_W := js_in (List.mem_of_getElem? (i := 1066) (by decide +kernel)) rfl
theorem lk_L_184 : Cond.methodLink RL 184 yX12_lastExploredSize ∈ js_W := js_in (List.mem_of_getElem? (i := 1618) (by decide +kernel)) rfl
theorem lk_L_185 : Cond.methodLink RL 185 yX11_loadNormalForm ∈ js_W := js_in (List.mem_of_getElem? (i := 1070) (by decide +kernel)) rfl
theorem lk_L_188 : Cond.methodLink RL 188 yX12_loadNormalForm ∈ js_W := js_in (List.mem_of_getElem? (i := 1622) (by decide +kernel)) rfl
theorem lk_L_189 : Cond.methodLink RL 189 yX11_normalFormRegisterCount ∈ js_W := js_in (List.mem_of_getElem? (i := 1074) (by decide +kernel)) rfl
theorem lk_L_192 : Cond.methodLink RL 192 yX12_normalFormRegisterCount ∈ js_W := js_in (List.mem_of_getElem? (i := 1626) (by decide +kernel)) rfl
theorem lk_L_193 : Cond.methodLink RL 193 yX11_appendCharacter ∈ js_W := js_in (List.mem_of_getElem? (i := 1078) (by decide +kernel)) rfl
theorem lk_L_196 : Cond.methodLink RL 196 yX12_appendCharacter ∈ js_W := js_in (List.mem_of_getElem? (i := 1630) (by decide +kernel)) rfl
theorem lk_L_197 : Cond.methodLink RL 197 yX11_clearText ∈ js_W := js_in (List.mem_of_getElem? (i := 1083) (by decide +kernel)) rfl
theorem lk_L_200 : Cond.methodLink RL 200 yX12_clearText ∈ js_W := js_in (List.mem_of_getElem? (i := 1634) (by decide +kernel)) rfl
theorem lk_L_201 : Cond.methodLink RL 201 yX11_textLength ∈ js_W := js_in (List.mem_of_getElem? (i := 1087) (by decide +kernel)) rfl
theorem lk_L_204 : Cond.methodLink RL 204 yX12_textLength ∈ js_W := js_in (List.mem_of_getElem? (i := 1638) (by decide +kernel)) rfl
theorem lk_L_205 : Cond.methodLink RL 205 yX11_saveSnapshot ∈ js_W := js_in (List.mem_of_getElem? (i := 1091) (by decide +kernel)) rfl
theorem lk_L_208 : Cond.methodLink RL 208 yX12_saveSnapshot ∈ js_W := js_in (List.mem_of_getElem? (i := 1642) (by decide +kernel)) rfl
theorem lk_L_209 : Cond.methodLink RL 209 yX11_restoreSnapshot ∈ js_W := js_in (List.mem_of_getElem? (i := 1104) (by decide +kernel)) rfl
theorem lk_L_212 : Cond.methodLink RL 212 yX12_restoreSnapshot ∈ js_W := js_in (List.mem_of_getElem? (i := 1646) (by decide +kernel)) rfl
theorem lk_L_22 : Cond.methodLink RL 22 yX12_arity ∈ js_W := js_in (List.mem_of_getElem? (i := 1251) (by decide +kernel)) rfl
theorem lk_L_23 : Cond.methodLink RL 23 yX11_addRule ∈ js_W := js_in (List.mem_of_getElem? (i := 456) (by decide +kernel)) rfl
theorem lk_L_27 : Cond.methodLink RL 27 yX12_addRule ∈ js_W := js_in (List.mem_of_getElem? (i := 1255) (by decide +kernel)) rfl
theorem lk_L_28 : Cond.methodLink RL 28 yX11_removeRule ∈ js_W := js_in (List.mem_of_getElem? (i := 534) (by decide +kernel)) rfl
theorem lk_L_31 : Cond.methodLink RL 31 yX12_removeRule ∈ js_W := js_in (List.mem_of_getElem? (i := 1297) (by decide +kernel)) rfl
theorem lk_L_32 : Cond.methodLink RL 32 yX11_ruleCount ∈ js_W := js_in (List.mem_of_getElem? (i := 555) (by decide +kernel)) rfl
theorem lk_L_35 : Cond.methodLink RL 35 yX12_ruleCount ∈ js_W := js_in (List.mem_of_getElem? (i := 1305) (by decide +kernel)) rfl
theorem lk_L_36 : Cond.methodLink RL 36 yX11_leftSize ∈ js_W := js_in (List.mem_of_getElem? (i := 559) (by decide +kernel)) rfl
theorem lk_L_39 : Cond.methodLink RL 39 yX12_leftSize ∈ js_W := js_in (List.mem_of_getElem? (i := 1309) (by decide +kernel)) rfl
theorem lk_L_40 : Cond.methodLink RL 40 yX11_rightSize ∈ js_W := js_in (List.mem_of_getElem? (i := 563) (by decide +kernel)) rfl
theorem lk_L_43 : Cond.methodLink RL 43 yX12_rightSize ∈ js_W := js_in (List.mem_of_getElem? (i := 1313) (by decide +kernel)) rfl
theorem lk_L_44 : Cond.methodLink RL 44 yX11_pairCount ∈ js_W := js_in (List.mem_of_getElem? (i := 567) (by decide +kernel)) rfl
theorem lk_L_47 : Cond.methodLink RL 47 yX12_pairCount ∈ js_W := js_in (List.mem_of_getElem? (i := 1317) (by decide +kernel)) rfl
theorem lk_L_48 : Cond.methodLink RL 48 yX11_pairRule ∈ js_W := js_in (List.mem_of_getElem? (i := 640) (by decide +kernel)) rfl
theorem lk_L_51 : Cond.methodLink RL 51 yX12_pairRule ∈ js_W := js_in (List.mem_of_getElem? (i := 1325) (by decide +kernel)) rfl
theorem lk_L_52 : Cond.methodLink RL 52 yX11_pairPosition ∈ js_W := js_in (List.mem_of_getElem? (i := 649) (by decide +kernel)) rfl
theorem lk_L_55 : Cond.methodLink RL 55 yX12_pairPosition ∈ js_W := js_in (List.mem_of_getElem? (i := 1333) (by decide +kernel)) rfl
theorem lk_L_56 : Cond.methodLink RL 56 yX11_sourceFunction ∈ js_W := js_in (List.mem_of_getElem? (i := 654) (by decide +kernel)) rfl
theorem lk_L_59 : Cond.methodLink RL 59 yX12_sourceFunction ∈ js_W := js_in (List.mem_of_getElem? (i := 1337) (by decide +kernel)) rfl
theorem lk_L_60 : Cond.methodLink RL 60 yX11_targetFunction ∈ js_W := js_in (List.mem_of_getElem? (i := 665) (by decide +kernel)) rfl
theorem lk_L_63 : Cond.methodLink RL 63 yX12_targetFunction ∈ js_W := js_in (List.mem_of_getElem? (i := 1349) (by decide +kernel)) rfl
theorem lk_L_64 : Cond.methodLink RL 64 yX11_hasEdge ∈ js_W := js_in (List.mem_of_getElem? (i := 672) (by decide +kernel)) rfl
theorem lk_L_67 : Cond.methodLink RL 67 yX12_hasEdge ∈ js_W := js_in (List.mem_of_getElem? (i := 1361) (by decide +kernel)) rfl
theorem lk_L_68 : Cond.methodLink RL 68 yX11_edgeCount ∈ js_W := js_in (List.mem_of_getElem? (i := 680) (by decide +kernel)) rfl
theorem lk_L_7 : Cond.classLink RL 7 RX11 ∈ js_W := js_in (List.mem_of_getElem? (i := 94) (by decide +kernel)) rfl
theorem lk_L_71 : Cond.methodLink RL 71 yX12_edgeCount ∈ js_W := js_in (List.mem_of_getElem? (i := 1385) (by decide +kernel)) rfl
theorem lk_L_72 : Cond.methodLink RL 72 yX11_componentCount ∈ js_W := js_in (List.mem_of_getElem? (i := 694) (by decide +kernel)) rfl
theorem lk_L_75 : Cond.methodLink RL 75 yX12_componentCount ∈ js_W := js_in (List.mem_of_getElem? (i := 1389) (by decide +kernel)) rfl
theorem lk_L_76 : Cond.methodLink RL 76 yX11_componentOf ∈ js_W := js_in (List.mem_of_getElem? (i := 733) (by decide +kernel)) rfl
theorem lk_L_79 : Cond.methodLink RL 79 yX12_componentOf ∈ js_W := js_in (List.mem_of_getElem? (i := 1405) (by decide +kernel)) rfl
theorem lk_L_80 : Cond.methodLink RL 80 yX11_sizeRelation ∈ js_W := js_in (List.mem_of_getElem? (i := 738) (by decide +kernel)) rfl
theorem lk_L_84 : Cond.methodLink RL 84 yX12_sizeRelation ∈ js_W := js_in (List.mem_of_getElem? (i := 1409) (by decide +kernel)) rfl
theorem lk_L_85 : Cond.methodLink RL 85 yX11_closureSize ∈ js_W := js_in (List.mem_of_getElem? (i := 745) (by decide +kernel)) rfl
theorem lk_L_88 : Cond.methodLink RL 88 yX12_closureSize ∈ js_W := js_in (List.mem_of_getElem? (i := 1420) (by decide +kernel)) rfl
theorem lk_L_89 : Cond.methodLink RL 89 yX11_idempotentCount ∈ js_W := js_in (List.mem_of_getElem? (i := 786) (by decide +kernel)) rfl
theorem lk_L_9 : Cond.methodLink RL 9 yX11_init ∈ js_W := js_in (List.mem_of_getElem? (i := 96) (by decide +kernel)) rfl
theorem lk_L_92 : Cond.methodLink RL 92 yX12_idempotentCount ∈ js_W := js_in (List.mem_of_getElem? (i := 1446) (by decide +kernel)) rfl
theorem lk_L_93 : Cond.methodLink RL 93 yX11_terminatesBySizeChange ∈ js_W := js_in (List.mem_of_getElem? (i := 790) (by decide +kernel)) rfl
theorem lk_L_96 : Cond.methodLink RL 96 yX12_terminatesBySizeChange ∈ js_W := js_in (List.mem_of_getElem? (i := 1450) (by decide +kernel)) rfl
theorem lk_L_97 : Cond.methodLink RL 97 yX11_projection ∈ js_W := js_in (List.mem_of_getElem? (i := 794) (by decide +kernel)) rfl
set_option maxRecDepth 20000 in
def fLc_0 (fu L : Nat) (xs : Nat → Int32) (rc : Int32 → js_S → Option (Int32 × js_S)) (x3 : Int32) (σ : js_S) : Option (Int32 × js_S) := (if ib_ (x3 + 1) L = true then (if ib_ (x3 + 2) L = true then (bd_ (fX11_setArity fu 1 (xs (Int32.toNatClampNeg (x3 + 1))) (xs (Int32.toNatClampNeg (x3 + 2))) σ) fun r3 σ3 => (if ib_ (x3 + 1) L = true then (if ib_ (x3 + 2) L = true then (bd_ (fX12_setArity fu 390 (xs (Int32.toNatClampNeg (x3 + 1))) (xs (Int32.toNatClampNeg (x3 + 2))) σ3) fun r6 σ6 => (if r3 = r6 then rc (x3 + 4) σ6 else some (0, σ6))) else none) else none)) else none) else none)
set_option maxRecDepth 20000 in
def fLc_1 (fu L : Nat) (xs : Nat → Int32) (rc : Int32 → js_S → Option (Int32 × js_S)) (x3 : Int32) (σ : js_S) : Option (Int32 × js_S) := (if ib_ (x3 + 1) L = true then (bd_ (fX11_arity fu 1 (xs (Int32.toNatClampNeg (x3 + 1))) σ) fun r2 σ2 => (if ib_ (x3 + 1) L = true then (bd_ (fX12_arity fu 390 (xs (Int32.toNatClampNeg (x3 + 1))) σ2) fun r4 σ4 => (if r2 = r4 then rc (x3 + 4) σ4 else some (0, σ4))) else none)) else none)
set_option maxRecDepth 20000 in
def fLc_2 (fu L : Nat) (xs : Nat → Int32) (rc : Int32 → js_S → Option (Int32 × js_S)) (x3 : Int32) (σ : js_S) : Option (Int32 × js_S) := (bd_ (fX11_addRule fu 1  σ) fun r1 σ1 => (bd_ (fX12_addRule fu 390  σ1) fun r2 σ2 => (if r1 = r2 then rc (x3 + 4) σ2 else some (0, σ2))))
set_option maxRecDepth 20000 in
def fLc_3 (fu L : Nat) (xs : Nat → Int32) (rc : Int32 → js_S → Option (Int32 × js_S)) (x3 : Int32) (σ : js_S) : Option (Int32 × js_S) := (if ib_ (x3 + 1) L = true then (bd_ (fX11_removeRule fu 1 (xs (Int32.toNatClampNeg (x3 + 1))) σ) fun r2 σ2 => (if ib_ (x3 + 1) L = true then (bd_ (fX12_removeRule fu 390 (xs (Int32.toNatClampNeg (x3 + 1))) σ2) fun r4 σ4 => (if r2 = r4 then rc (x3 + 4) σ4 else some (0, σ4))) else none)) else none)
set_option maxRecDepth 20000 in
def fLc_4 (fu L : Nat) (xs : Nat → Int32) (rc : Int32 → js_S → Option (Int32 × js_S)) (x3 : Int32) (σ : js_S) : Option (Int32 × js_S) := (bd_ (fX11_ruleCount fu 1  σ) fun r1 σ1 => (bd_ (fX12_ruleCount fu 390  σ1) fun r2 σ2 => (if r1 = r2 then rc (x3 + 4) σ2 else some (0, σ2))))
set_option maxRecDepth 20000 in
def fLc_5 (fu L : Nat) (xs : Nat → Int32) (rc : Int32 → js_S → Option (Int32 × js_S)) (x3 : Int32) (σ : js_S) : Option (Int32 × js_S) := (if ib_ (x3 + 1) L = true then (bd_ (fX11_leftSize fu 1 (xs (Int32.toNatClampNeg (x3 + 1))) σ) fun r2 σ2 => (if ib_ (x3 + 1) L = true then (bd_ (fX12_leftSize fu 390 (xs (Int32.toNatClampNeg (x3 + 1))) σ2) fun r4 σ4 => (if r2 = r4 then rc (x3 + 4) σ4 else some (0, σ4))) else none)) else none)
set_option maxRecDepth 20000 in
def fLc_6 (fu L : Nat) (xs : Nat → Int32) (rc : Int32 → js_S → Option (Int32 × js_S)) (x3 : Int32) (σ : js_S) : Option (Int32 × js_S) := (if ib_ (x3 + 1) L = true then (bd_ (fX11_rightSize fu 1 (xs (Int32.toNatClampNeg (x3 + 1))) σ) fun r2 σ2 => (if ib_ (x3 + 1) L = true then (bd_ (fX12_rightSize fu 390 (xs (Int32.toNatClampNeg (x3 + 1))) σ2) fun r4 σ4 => (if r2 = r4 then rc (x3 + 4) σ4 else some (0, σ4))) else none)) else none)
set_option maxRecDepth 20000 in
def fLc_7 (fu L : Nat) (xs : Nat → Int32) (rc : Int32 → js_S → Option (Int32 × js_S)) (x3 : Int32) (σ : js_S) : Option (Int32 × js_S) := (bd_ (fX11_pairCount fu 1  σ) fun r1 σ1 => (bd_ (fX12_pairCount fu 390  σ1) fun r2 σ2 => (if r1 = r2 then rc (x3 + 4) σ2 else some (0, σ2))))
set_option maxRecDepth 20000 in
def fLc_8 (fu L : Nat) (xs : Nat → Int32) (rc : Int32 → js_S → Option (Int32 × js_S)) (x3 : Int32) (σ : js_S) : Option (Int32 × js_S) := (if ib_ (x3 + 1) L = true then (bd_ (fX11_pairRule fu 1 (xs (Int32.toNatClampNeg (x3 + 1))) σ) fun r2 σ2 => (if ib_ (x3 + 1) L = true then (bd_ (fX12_pairRule fu 390 (xs (Int32.toNatClampNeg (x3 + 1))) σ2) fun r4 σ4 => (if r2 = r4 then rc (x3 + 4) σ4 else some (0, σ4))) else none)) else none)
set_option maxRecDepth 20000 in
def fLc_9 (fu L : Nat) (xs : Nat → Int32) (rc : Int32 → js_S → Option (Int32 × js_S)) (x3 : Int32) (σ : js_S) : Option (Int32 × js_S) := (if ib_ (x3 + 1) L = true then (bd_ (fX11_pairPosition fu 1 (xs (Int32.toNatClampNeg (x3 + 1))) σ) fun r2 σ2 => (if ib_ (x3 + 1) L = true then (bd_ (fX12_pairPosition fu 390 (xs (Int32.toNatClampNeg (x3 + 1))) σ2) fun r4 σ4 => (if r2 = r4 then rc (x3 + 4) σ4 else some (0, σ4))) else none)) else none)
set_option maxRecDepth 20000 in
def fLc_10 (fu L : Nat) (xs : Nat → Int32) (rc : Int32 → js_S → Option (Int32 × js_S)) (x3 : Int32) (σ : js_S) : Option (Int32 × js_S) := (if ib_ (x3 + 1) L = true then (bd_ (fX11_sourceFunction fu 1 (xs (Int32.toNatClampNeg (x3 + 1))) σ) fun r2 σ2 => (if ib_ (x3 + 1) L = true then (bd_ (fX12_sourceFunction fu 390 (xs (Int32.toNatClampNeg (x3 + 1))) σ2) fun r4 σ4 => (if r2 = r4 then rc (x3 + 4) σ4 else some (0, σ4))) else none)) else none)
set_option maxRecDepth 20000 in
def fLc_11 (fu L : Nat) (xs : Nat → Int32) (rc : Int32 → js_S → Option (Int32 × js_S)) (x3 : Int32) (σ : js_S) : Option (Int32 × js_S) := (if ib_ (x3 + 1) L = true then (bd_ (fX11_targetFunction fu 1 (xs (Int32.toNatClampNeg (x3 + 1))) σ) fun r2 σ2 => (if ib_ (x3 + 1) L = true then (bd_ (fX12_targetFunction fu 390 (xs (Int32.toNatClampNeg (x3 + 1))) σ2) fun r4 σ4 => (if r2 = r4 then rc (x3 + 4) σ4 else some (0, σ4))) else none)) else none)
set_option maxRecDepth 20000 in
def fLc_12 (fu L : Nat) (xs : Nat → Int32) (rc : Int32 → js_S → Option (Int32 × js_S)) (x3 : Int32) (σ : js_S) : Option (Int32 × js_S) := (if ib_ (x3 + 1) L = true then (if ib_ (x3 + 2) L = true then (bd_ (fX11_hasEdge fu 1 (xs (Int32.toNatClampNeg (x3 + 1))) (xs (Int32.toNatClampNeg (x3 + 2))) σ) fun r3 σ3 => (if ib_ (x3 + 1) L = true then (if ib_ (x3 + 2) L = true then (bd_ (fX12_hasEdge fu 390 (xs (Int32.toNatClampNeg (x3 + 1))) (xs (Int32.toNatClampNeg (x3 + 2))) σ3) fun r6 σ6 => (if r3 = r6 then rc (x3 + 4) σ6 else some (0, σ6))) else none) else none)) else none) else none)
set_option maxRecDepth 20000 in
def fLc_13 (fu L : Nat) (xs : Nat → Int32) (rc : Int32 → js_S → Option (Int32 × js_S)) (x3 : Int32) (σ : js_S) : Option (Int32 × js_S) := (bd_ (fX11_edgeCount fu 1  σ) fun r1 σ1 => (bd_ (fX12_edgeCount fu 390  σ1) fun r2 σ2 => (if r1 = r2 then rc (x3 + 4) σ2 else some (0, σ2))))
set_option maxRecDepth 20000 in
def fLc_14 (fu L : Nat) (xs : Nat → Int32) (rc : Int32 → js_S → Option (Int32 × js_S)) (x3 : Int32) (σ : js_S) : Option (Int32 × js_S) := (bd_ (fX11_componentCount fu 1  σ) fun r1 σ1 => (bd_ (fX12_componentCount fu 390  σ1) fun r2 σ2 => (if r1 = r2 then rc (x3 + 4) σ2 else some (0, σ2))))
set_option maxRecDepth 20000 in
def fLc_15 (fu L : Nat) (xs : Nat → Int32) (rc : Int32 → js_S → Option (Int32 × js_S)) (x3 : Int32) (σ : js_S) : Option (Int32 × js_S) := (if ib_ (x3 + 1) L = true then (bd_ (fX11_componentOf fu 1 (xs (Int32.toNatClampNeg (x3 + 1))) σ) fun r2 σ2 => (if ib_ (x3 + 1) L = true then (bd_ (fX12_componentOf fu 390 (xs (Int32.toNatClampNeg (x3 + 1))) σ2) fun r4 σ4 => (if r2 = r4 then rc (x3 + 4) σ4 else some (0, σ4))) else none)) else none)
set_option maxRecDepth 20000 in
def fLc_16 (fu L : Nat) (xs : Nat → Int32) (rc : Int32 → js_S → Option (Int32 × js_S)) (x3 : Int32) (σ : js_S) : Option (Int32 × js_S) := (if ib_ (x3 + 1) L = true then (if ib_ (x3 + 2) L = true then (if ib_ (x3 + 3) L = true then (bd_ (fX11_sizeRelation fu 1 (xs (Int32.toNatClampNeg (x3 + 1))) (xs (Int32.toNatClampNeg (x3 + 2))) (xs (Int32.toNatClampNeg (x3 + 3))) σ) fun r4 σ4 => (if ib_ (x3 + 1) L = true then (if ib_ (x3 + 2) L = true then (if ib_ (x3 + 3) L = true then (bd_ (fX12_sizeRelation fu 390 (xs (Int32.toNatClampNeg (x3 + 1))) (xs (Int32.toNatClampNeg (x3 + 2))) (xs (Int32.toNatClampNeg (x3 + 3))) σ4) fun r8 σ8 => (if r4 = r8 then rc (x3 + 4) σ8 else some (0, σ8))) else none) else none) else none)) else none) else none) else none)
set_option maxRecDepth 20000 in
def fLc_17 (fu L : Nat) (xs : Nat → Int32) (rc : Int32 → js_S → Option (Int32 × js_S)) (x3 : Int32) (σ : js_S) : Option (Int32 × js_S) := (bd_ (fX11_closureSize fu 1  σ) fun r1 σ1 => (bd_ (fX12_closureSize fu 390  σ1) fun r2 σ2 => (if r1 = r2 then rc (x3 + 4) σ2 else some (0, σ2))))
set_option maxRecDepth 20000 in
def fLc_18 (fu L : Nat) (xs : Nat → Int32) (rc : Int32 → js_S → Option (Int32 × js_S)) (x3 : Int32) (σ : js_S) : Option (Int32 × js_S) := (bd_ (fX11_idempotentCount fu 1  σ) fun r1 σ1 => (bd_ (fX12_idempotentCount fu 390  σ1) fun r2 σ2 => (if r1 = r2 then rc (x3 + 4) σ2 else some (0, σ2))))
set_option maxRecDepth 20000 in
def fLc_19 (fu L : Nat) (xs : Nat → Int32) (rc : Int32 → js_S → Option (Int32 × js_S)) (x3 : Int32) (σ : js_S) : Option (Int32 × js_S) := (bd_ (fX11_terminatesBySizeChange fu 1  σ) fun r1 σ1 => (bd_ (fX12_terminatesBySizeChange fu 390  σ1) fun r2 σ2 => (if r1 = r2 then rc (x3 + 4) σ2 else some (0, σ2))))
set_option maxRecDepth 20000 in
def fLc_20 (fu L : Nat) (xs : Nat → Int32) (rc : Int32 → js_S → Option (Int32 × js_S)) (x3 : Int32) (σ : js_S) : Option (Int32 × js_S) := (if ib_ (x3 + 1) L = true then (bd_ (fX11_projection fu 1 (xs (Int32.toNatClampNeg (x3 + 1))) σ) fun r2 σ2 => (if ib_ (x3 + 1) L = true then (bd_ (fX12_projection fu 390 (xs (Int32.toNatClampNeg (x3 + 1))) σ2) fun r4 σ4 => (if r2 = r4 then rc (x3 + 4) σ4 else some (0, σ4))) else none)) else none)
set_option maxRecDepth 20000 in
def fLc_21 (fu L : Nat) (xs : Nat → Int32) (rc : Int32 → js_S → Option (Int32 × js_S)) (x3 : Int32) (σ : js_S) : Option (Int32 × js_S) := (bd_ (fX11_eliminationRounds fu 1  σ) fun r1 σ1 => (bd_ (fX12_eliminationRounds fu 390  σ1) fun r2 σ2 => (if r1 = r2 then rc (x3 + 4) σ2 else some (0, σ2))))
set_option maxRecDepth 20000 in
def fLc_22 (fu L : Nat) (xs : Nat → Int32) (rc : Int32 → js_S → Option (Int32 × js_S)) (x3 : Int32) (σ : js_S) : Option (Int32 × js_S) := (bd_ (fX11_remainingPairCount fu 1  σ) fun r1 σ1 => (bd_ (fX12_remainingPairCount fu 390  σ1) fun r2 σ2 => (if r1 = r2 then rc (x3 + 4) σ2 else some (0, σ2))))
set_option maxRecDepth 20000 in
def fLc_23 (fu L : Nat) (xs : Nat → Int32) (rc : Int32 → js_S → Option (Int32 × js_S)) (x3 : Int32) (σ : js_S) : Option (Int32 × js_S) := (bd_ (fX11_remainingComponentCount fu 1  σ) fun r1 σ1 => (bd_ (fX12_remainingComponentCount fu 390  σ1) fun r2 σ2 => (if r1 = r2 then rc (x3 + 4) σ2 else some (0, σ2))))
set_option maxRecDepth 20000 in
def fLc_24 (fu L : Nat) (xs : Nat → Int32) (rc : Int32 → js_S → Option (Int32 × js_S)) (x3 : Int32) (σ : js_S) : Option (Int32 × js_S) := (bd_ (fX11_terminatesBySubtermCriterion fu 1  σ) fun r1 σ1 => (bd_ (fX12_terminatesBySubtermCriterion fu 390  σ1) fun r2 σ2 => (if r1 = r2 then rc (x3 + 4) σ2 else some (0, σ2))))
set_option maxRecDepth 20000 in
def fLc_25 (fu L : Nat) (xs : Nat → Int32) (rc : Int32 → js_S → Option (Int32 × js_S)) (x3 : Int32) (σ : js_S) : Option (Int32 × js_S) := (if ib_ (x3 + 1) L = true then (bd_ (fX11_parseTerm fu 1 (xs (Int32.toNatClampNeg (x3 + 1))) σ) fun r2 σ2 => (if ib_ (x3 + 1) L = true then (bd_ (fX12_parseTerm fu 390 (xs (Int32.toNatClampNeg (x3 + 1))) σ2) fun r4 σ4 => (if r2 = r4 then rc (x3 + 4) σ4 else some (0, σ4))) else none)) else none)
set_option maxRecDepth 20000 in
def fLc_26 (fu L : Nat) (xs : Nat → Int32) (rc : Int32 → js_S → Option (Int32 × js_S)) (x3 : Int32) (σ : js_S) : Option (Int32 × js_S) := (if ib_ (x3 + 1) L = true then (bd_ (fX11_termSize fu 1 (xs (Int32.toNatClampNeg (x3 + 1))) σ) fun r2 σ2 => (if ib_ (x3 + 1) L = true then (bd_ (fX12_termSize fu 390 (xs (Int32.toNatClampNeg (x3 + 1))) σ2) fun r4 σ4 => (if r2 = r4 then rc (x3 + 4) σ4 else some (0, σ4))) else none)) else none)
set_option maxRecDepth 20000 in
def fLc_27 (fu L : Nat) (xs : Nat → Int32) (rc : Int32 → js_S → Option (Int32 × js_S)) (x3 : Int32) (σ : js_S) : Option (Int32 × js_S) := (if ib_ (x3 + 1) L = true then (bd_ (fX11_formattedLength fu 1 (xs (Int32.toNatClampNeg (x3 + 1))) σ) fun r2 σ2 => (if ib_ (x3 + 1) L = true then (bd_ (fX12_formattedLength fu 390 (xs (Int32.toNatClampNeg (x3 + 1))) σ2) fun r4 σ4 => (if r2 = r4 then rc (x3 + 4) σ4 else some (0, σ4))) else none)) else none)
set_option maxRecDepth 20000 in
def fLc_28 (fu L : Nat) (xs : Nat → Int32) (rc : Int32 → js_S → Option (Int32 × js_S)) (x3 : Int32) (σ : js_S) : Option (Int32 × js_S) := (if ib_ (x3 + 1) L = true then (if ib_ (x3 + 2) L = true then (bd_ (fX11_formattedCharacter fu 1 (xs (Int32.toNatClampNeg (x3 + 1))) (xs (Int32.toNatClampNeg (x3 + 2))) σ) fun r3 σ3 => (if ib_ (x3 + 1) L = true then (if ib_ (x3 + 2) L = true then (bd_ (fX12_formattedCharacter fu 390 (xs (Int32.toNatClampNeg (x3 + 1))) (xs (Int32.toNatClampNeg (x3 + 2))) σ3) fun r6 σ6 => (if r3 = r6 then rc (x3 + 4) σ6 else some (0, σ6))) else none) else none)) else none) else none)
set_option maxRecDepth 20000 in
def fLc_29 (fu L : Nat) (xs : Nat → Int32) (rc : Int32 → js_S → Option (Int32 × js_S)) (x3 : Int32) (σ : js_S) : Option (Int32 × js_S) := (if ib_ (x3 + 1) L = true then (if ib_ (x3 + 2) L = true then (bd_ (fX11_compareTerms fu 1 (xs (Int32.toNatClampNeg (x3 + 1))) (xs (Int32.toNatClampNeg (x3 + 2))) σ) fun r3 σ3 => (if ib_ (x3 + 1) L = true then (if ib_ (x3 + 2) L = true then (bd_ (fX12_compareTerms fu 390 (xs (Int32.toNatClampNeg (x3 + 1))) (xs (Int32.toNatClampNeg (x3 + 2))) σ3) fun r6 σ6 => (if r3 = r6 then rc (x3 + 4) σ6 else some (0, σ6))) else none) else none)) else none) else none)
set_option maxRecDepth 20000 in
def fLc_30 (fu L : Nat) (xs : Nat → Int32) (rc : Int32 → js_S → Option (Int32 × js_S)) (x3 : Int32) (σ : js_S) : Option (Int32 × js_S) := (if ib_ (x3 + 1) L = true then (if ib_ (x3 + 2) L = true then (bd_ (fX11_copyTerm fu 1 (xs (Int32.toNatClampNeg (x3 + 1))) (xs (Int32.toNatClampNeg (x3 + 2))) σ) fun r3 σ3 => (if ib_ (x3 + 1) L = true then (if ib_ (x3 + 2) L = true then (bd_ (fX12_copyTerm fu 390 (xs (Int32.toNatClampNeg (x3 + 1))) (xs (Int32.toNatClampNeg (x3 + 2))) σ3) fun r6 σ6 => (if r3 = r6 then rc (x3 + 4) σ6 else some (0, σ6))) else none) else none)) else none) else none)
set_option maxRecDepth 20000 in
def fLc_31 (fu L : Nat) (xs : Nat → Int32) (rc : Int32 → js_S → Option (Int32 × js_S)) (x3 : Int32) (σ : js_S) : Option (Int32 × js_S) := (if ib_ (x3 + 1) L = true then (if ib_ (x3 + 2) L = true then (bd_ (fX11_loadLeft fu 1 (xs (Int32.toNatClampNeg (x3 + 1))) (xs (Int32.toNatClampNeg (x3 + 2))) σ) fun r3 σ3 => (if ib_ (x3 + 1) L = true then (if ib_ (x3 + 2) L = true then (bd_ (fX12_loadLeft fu 390 (xs (Int32.toNatClampNeg (x3 + 1))) (xs (Int32.toNatClampNeg (x3 + 2))) σ3) fun r6 σ6 => (if r3 = r6 then rc (x3 + 4) σ6 else some (0, σ6))) else none) else none)) else none) else none)
set_option maxRecDepth 20000 in
def fLc_32 (fu L : Nat) (xs : Nat → Int32) (rc : Int32 → js_S → Option (Int32 × js_S)) (x3 : Int32) (σ : js_S) : Option (Int32 × js_S) := (if ib_ (x3 + 1) L = true then (if ib_ (x3 + 2) L = true then (bd_ (fX11_loadRight fu 1 (xs (Int32.toNatClampNeg (x3 + 1))) (xs (Int32.toNatClampNeg (x3 + 2))) σ) fun r3 σ3 => (if ib_ (x3 + 1) L = true then (if ib_ (x3 + 2) L = true then (bd_ (fX12_loadRight fu 390 (xs (Int32.toNatClampNeg (x3 + 1))) (xs (Int32.toNatClampNeg (x3 + 2))) σ3) fun r6 σ6 => (if r3 = r6 then rc (x3 + 4) σ6 else some (0, σ6))) else none) else none)) else none) else none)
set_option maxRecDepth 20000 in
def fLc_33 (fu L : Nat) (xs : Nat → Int32) (rc : Int32 → js_S → Option (Int32 × js_S)) (x3 : Int32) (σ : js_S) : Option (Int32 × js_S) := (if ib_ (x3 + 1) L = true then (if ib_ (x3 + 2) L = true then (if ib_ (x3 + 3) L = true then (bd_ (fX11_matches fu 1 (xs (Int32.toNatClampNeg (x3 + 1))) (xs (Int32.toNatClampNeg (x3 + 2))) (xs (Int32.toNatClampNeg (x3 + 3))) σ) fun r4 σ4 => (if ib_ (x3 + 1) L = true then (if ib_ (x3 + 2) L = true then (if ib_ (x3 + 3) L = true then (bd_ (fX12_matches fu 390 (xs (Int32.toNatClampNeg (x3 + 1))) (xs (Int32.toNatClampNeg (x3 + 2))) (xs (Int32.toNatClampNeg (x3 + 3))) σ4) fun r8 σ8 => (if r4 = r8 then rc (x3 + 4) σ8 else some (0, σ8))) else none) else none) else none)) else none) else none) else none)
set_option maxRecDepth 20000 in
def fLc_34 (fu L : Nat) (xs : Nat → Int32) (rc : Int32 → js_S → Option (Int32 × js_S)) (x3 : Int32) (σ : js_S) : Option (Int32 × js_S) := (if ib_ (x3 + 1) L = true then (bd_ (fX11_redexCount fu 1 (xs (Int32.toNatClampNeg (x3 + 1))) σ) fun r2 σ2 => (if ib_ (x3 + 1) L = true then (bd_ (fX12_redexCount fu 390 (xs (Int32.toNatClampNeg (x3 + 1))) σ2) fun r4 σ4 => (if r2 = r4 then rc (x3 + 4) σ4 else some (0, σ4))) else none)) else none)
set_option maxRecDepth 20000 in
def fLc_35 (fu L : Nat) (xs : Nat → Int32) (rc : Int32 → js_S → Option (Int32 × js_S)) (x3 : Int32) (σ : js_S) : Option (Int32 × js_S) := (if ib_ (x3 + 1) L = true then (if ib_ (x3 + 2) L = true then (bd_ (fX11_redexAt fu 1 (xs (Int32.toNatClampNeg (x3 + 1))) (xs (Int32.toNatClampNeg (x3 + 2))) σ) fun r3 σ3 => (if ib_ (x3 + 1) L = true then (if ib_ (x3 + 2) L = true then (bd_ (fX12_redexAt fu 390 (xs (Int32.toNatClampNeg (x3 + 1))) (xs (Int32.toNatClampNeg (x3 + 2))) σ3) fun r6 σ6 => (if r3 = r6 then rc (x3 + 4) σ6 else some (0, σ6))) else none) else none)) else none) else none)
set_option maxRecDepth 20000 in
def fLc_36 (fu L : Nat) (xs : Nat → Int32) (rc : Int32 → js_S → Option (Int32 × js_S)) (x3 : Int32) (σ : js_S) : Option (Int32 × js_S) := (if ib_ (x3 + 1) L = true then (if ib_ (x3 + 2) L = true then (bd_ (fX11_rewriteAt fu 1 (xs (Int32.toNatClampNeg (x3 + 1))) (xs (Int32.toNatClampNeg (x3 + 2))) σ) fun r3 σ3 => (if ib_ (x3 + 1) L = true then (if ib_ (x3 + 2) L = true then (bd_ (fX12_rewriteAt fu 390 (xs (Int32.toNatClampNeg (x3 + 1))) (xs (Int32.toNatClampNeg (x3 + 2))) σ3) fun r6 σ6 => (if r3 = r6 then rc (x3 + 4) σ6 else some (0, σ6))) else none) else none)) else none) else none)
set_option maxRecDepth 20000 in
def fLc_37 (fu L : Nat) (xs : Nat → Int32) (rc : Int32 → js_S → Option (Int32 × js_S)) (x3 : Int32) (σ : js_S) : Option (Int32 × js_S) := (if ib_ (x3 + 1) L = true then (if ib_ (x3 + 2) L = true then (bd_ (fX11_rewriteOutermost fu 1 (xs (Int32.toNatClampNeg (x3 + 1))) (xs (Int32.toNatClampNeg (x3 + 2))) σ) fun r3 σ3 => (if ib_ (x3 + 1) L = true then (if ib_ (x3 + 2) L = true then (bd_ (fX12_rewriteOutermost fu 390 (xs (Int32.toNatClampNeg (x3 + 1))) (xs (Int32.toNatClampNeg (x3 + 2))) σ3) fun r6 σ6 => (if r3 = r6 then rc (x3 + 4) σ6 else some (0, σ6))) else none) else none)) else none) else none)
set_option maxRecDepth 20000 in
def fLc_38 (fu L : Nat) (xs : Nat → Int32) (rc : Int32 → js_S → Option (Int32 × js_S)) (x3 : Int32) (σ : js_S) : Option (Int32 × js_S) := (if ib_ (x3 + 1) L = true then (if ib_ (x3 + 2) L = true then (bd_ (fX11_findLoop fu 1 (xs (Int32.toNatClampNeg (x3 + 1))) (xs (Int32.toNatClampNeg (x3 + 2))) σ) fun r3 σ3 => (if ib_ (x3 + 1) L = true then (if ib_ (x3 + 2) L = true then (bd_ (fX12_findLoop fu 390 (xs (Int32.toNatClampNeg (x3 + 1))) (xs (Int32.toNatClampNeg (x3 + 2))) σ3) fun r6 σ6 => (if r3 = r6 then rc (x3 + 4) σ6 else some (0, σ6))) else none) else none)) else none) else none)
set_option maxRecDepth 20000 in
def fLc_39 (fu L : Nat) (xs : Nat → Int32) (rc : Int32 → js_S → Option (Int32 × js_S)) (x3 : Int32) (σ : js_S) : Option (Int32 × js_S) := (if ib_ (x3 + 1) L = true then (if ib_ (x3 + 2) L = true then (bd_ (fX11_exploredCount fu 1 (xs (Int32.toNatClampNeg (x3 + 1))) (xs (Int32.toNatClampNeg (x3 + 2))) σ) fun r3 σ3 => (if ib_ (x3 + 1) L = true then (if ib_ (x3 + 2) L = true then (bd_ (fX12_exploredCount fu 390 (xs (Int32.toNatClampNeg (x3 + 1))) (xs (Int32.toNatClampNeg (x3 + 2))) σ3) fun r6 σ6 => (if r3 = r6 then rc (x3 + 4) σ6 else some (0, σ6))) else none) else none)) else none) else none)
set_option maxRecDepth 20000 in
def fLc_40 (fu L : Nat) (xs : Nat → Int32) (rc : Int32 → js_S → Option (Int32 × js_S)) (x3 : Int32) (σ : js_S) : Option (Int32 × js_S) := (if ib_ (x3 + 1) L = true then (if ib_ (x3 + 2) L = true then (bd_ (fX11_exploredNormalForms fu 1 (xs (Int32.toNatClampNeg (x3 + 1))) (xs (Int32.toNatClampNeg (x3 + 2))) σ) fun r3 σ3 => (if ib_ (x3 + 1) L = true then (if ib_ (x3 + 2) L = true then (bd_ (fX12_exploredNormalForms fu 390 (xs (Int32.toNatClampNeg (x3 + 1))) (xs (Int32.toNatClampNeg (x3 + 2))) σ3) fun r6 σ6 => (if r3 = r6 then rc (x3 + 4) σ6 else some (0, σ6))) else none) else none)) else none) else none)
set_option maxRecDepth 20000 in
def fLc_41 (fu L : Nat) (xs : Nat → Int32) (rc : Int32 → js_S → Option (Int32 × js_S)) (x3 : Int32) (σ : js_S) : Option (Int32 × js_S) := (if ib_ (x3 + 1) L = true then (if ib_ (x3 + 2) L = true then (bd_ (fX11_lastExploredSize fu 1 (xs (Int32.toNatClampNeg (x3 + 1))) (xs (Int32.toNatClampNeg (x3 + 2))) σ) fun r3 σ3 => (if ib_ (x3 + 1) L = true then (if ib_ (x3 + 2) L = true then (bd_ (fX12_lastExploredSize fu 390 (xs (Int32.toNatClampNeg (x3 + 1))) (xs (Int32.toNatClampNeg (x3 + 2))) σ3) fun r6 σ6 => (if r3 = r6 then rc (x3 + 4) σ6 else some (0, σ6))) else none) else none)) else none) else none)
set_option maxRecDepth 20000 in
def fLc_42 (fu L : Nat) (xs : Nat → Int32) (rc : Int32 → js_S → Option (Int32 × js_S)) (x3 : Int32) (σ : js_S) : Option (Int32 × js_S) := (if ib_ (x3 + 1) L = true then (if ib_ (x3 + 2) L = true then (if ib_ (x3 + 3) L = true then (bd_ (fX11_loadNormalForm fu 1 (xs (Int32.toNatClampNeg (x3 + 1))) (xs (Int32.toNatClampNeg (x3 + 2))) (xs (Int32.toNatClampNeg (x3 + 3))) σ) fun r4 σ4 => (if ib_ (x3 + 1) L = true then (if ib_ (x3 + 2) L = true then (if ib_ (x3 + 3) L = true then (bd_ (fX12_loadNormalForm fu 390 (xs (Int32.toNatClampNeg (x3 + 1))) (xs (Int32.toNatClampNeg (x3 + 2))) (xs (Int32.toNatClampNeg (x3 + 3))) σ4) fun r8 σ8 => (if r4 = r8 then rc (x3 + 4) σ8 else some (0, σ8))) else none) else none) else none)) else none) else none) else none)
set_option maxRecDepth 20000 in
def fLc_43 (fu L : Nat) (xs : Nat → Int32) (rc : Int32 → js_S → Option (Int32 × js_S)) (x3 : Int32) (σ : js_S) : Option (Int32 × js_S) := (bd_ (fX11_normalFormRegisterCount fu 1  σ) fun r1 σ1 => (bd_ (fX12_normalFormRegisterCount fu 390  σ1) fun r2 σ2 => (if r1 = r2 then rc (x3 + 4) σ2 else some (0, σ2))))
set_option maxRecDepth 20000 in
def fLc_44 (fu L : Nat) (xs : Nat → Int32) (rc : Int32 → js_S → Option (Int32 × js_S)) (x3 : Int32) (σ : js_S) : Option (Int32 × js_S) := (if ib_ (x3 + 1) L = true then (bd_ (fX11_appendCharacter fu 1 (xs (Int32.toNatClampNeg (x3 + 1))) σ) fun r2 σ2 => (if ib_ (x3 + 1) L = true then (bd_ (fX12_appendCharacter fu 390 (xs (Int32.toNatClampNeg (x3 + 1))) σ2) fun r4 σ4 => (if r2 = r4 then rc (x3 + 4) σ4 else some (0, σ4))) else none)) else none)
set_option maxRecDepth 20000 in
def fLc_45 (fu L : Nat) (xs : Nat → Int32) (rc : Int32 → js_S → Option (Int32 × js_S)) (x3 : Int32) (σ : js_S) : Option (Int32 × js_S) := (bd_ (fX11_clearText fu 1  σ) fun r1 σ1 => (bd_ (fX12_clearText fu 390  σ1) fun r2 σ2 => (if r1 = r2 then rc (x3 + 4) σ2 else some (0, σ2))))
set_option maxRecDepth 20000 in
def fLc_46 (fu L : Nat) (xs : Nat → Int32) (rc : Int32 → js_S → Option (Int32 × js_S)) (x3 : Int32) (σ : js_S) : Option (Int32 × js_S) := (bd_ (fX11_textLength fu 1  σ) fun r1 σ1 => (bd_ (fX12_textLength fu 390  σ1) fun r2 σ2 => (if r1 = r2 then rc (x3 + 4) σ2 else some (0, σ2))))
set_option maxRecDepth 20000 in
def fLc_47 (fu L : Nat) (xs : Nat → Int32) (rc : Int32 → js_S → Option (Int32 × js_S)) (x3 : Int32) (σ : js_S) : Option (Int32 × js_S) := (bd_ (fX11_saveSnapshot fu 1  σ) fun r1 σ1 => (bd_ (fX12_saveSnapshot fu 390  σ1) fun r2 σ2 => (if r1 = r2 then rc (x3 + 4) σ2 else some (0, σ2))))
set_option maxRecDepth 20000 in
def fLc_48 (fu L : Nat) (xs : Nat → Int32) (rc : Int32 → js_S → Option (Int32 × js_S)) (x3 : Int32) (σ : js_S) : Option (Int32 × js_S) := (bd_ (fX11_restoreSnapshot fu 1  σ) fun r1 σ1 => (bd_ (fX12_restoreSnapshot fu 390  σ1) fun r2 σ2 => (if r1 = r2 then rc (x3 + 4) σ2 else some (0, σ2))))
set_option maxRecDepth 20000 in
def fL_sw (fu L : Nat) (xs : Nat → Int32) (rc : Int32 → js_S → Option (Int32 × js_S)) (y x3 : Int32) (σ : js_S) : Option (Int32 × js_S) := (if y = 0 then fLc_0 fu L xs rc x3 σ else (if y = 1 then fLc_1 fu L xs rc x3 σ else (if y = 2 then fLc_2 fu L xs rc x3 σ else (if y = 3 then fLc_3 fu L xs rc x3 σ else (if y = 4 then fLc_4 fu L xs rc x3 σ else (if y = 5 then fLc_5 fu L xs rc x3 σ else (if y = 6 then fLc_6 fu L xs rc x3 σ else (if y = 7 then fLc_7 fu L xs rc x3 σ else (if y = 8 then fLc_8 fu L xs rc x3 σ else (if y = 9 then fLc_9 fu L xs rc x3 σ else (if y = 10 then fLc_10 fu L xs rc x3 σ else (if y = 11 then fLc_11 fu L xs rc x3 σ else (if y = 12 then fLc_12 fu L xs rc x3 σ else (if y = 13 then fLc_13 fu L xs rc x3 σ else (if y = 14 then fLc_14 fu L xs rc x3 σ else (if y = 15 then fLc_15 fu L xs rc x3 σ else (if y = 16 then fLc_16 fu L xs rc x3 σ else (if y = 17 then fLc_17 fu L xs rc x3 σ else (if y = 18 then fLc_18 fu L xs rc x3 σ else (if y = 19 then fLc_19 fu L xs rc x3 σ else (if y = 20 then fLc_20 fu L xs rc x3 σ else (if y = 21 then fLc_21 fu L xs rc x3 σ else (if y = 22 then fLc_22 fu L xs rc x3 σ else (if y = 23 then fLc_23 fu L xs rc x3 σ else (if y = 24 then fLc_24 fu L xs rc x3 σ else (if y = 25 then fLc_25 fu L xs rc x3 σ else (if y = 26 then fLc_26 fu L xs rc x3 σ else (if y = 27 then fLc_27 fu L xs rc x3 σ else (if y = 28 then fLc_28 fu L xs rc x3 σ else (if y = 29 then fLc_29 fu L xs rc x3 σ else (if y = 30 then fLc_30 fu L xs rc x3 σ else (if y = 31 then fLc_31 fu L xs rc x3 σ else (if y = 32 then fLc_32 fu L xs rc x3 σ else (if y = 33 then fLc_33 fu L xs rc x3 σ else (if y = 34 then fLc_34 fu L xs rc x3 σ else (if y = 35 then fLc_35 fu L xs rc x3 σ else (if y = 36 then fLc_36 fu L xs rc x3 σ else (if y = 37 then fLc_37 fu L xs rc x3 σ else (if y = 38 then fLc_38 fu L xs rc x3 σ else (if y = 39 then fLc_39 fu L xs rc x3 σ else (if y = 40 then fLc_40 fu L xs rc x3 σ else (if y = 41 then fLc_41 fu L xs rc x3 σ else (if y = 42 then fLc_42 fu L xs rc x3 σ else (if y = 43 then fLc_43 fu L xs rc x3 σ else (if y = 44 then fLc_44 fu L xs rc x3 σ else (if y = 45 then fLc_45 fu L xs rc x3 σ else (if y = 46 then fLc_46 fu L xs rc x3 σ else (if y = 47 then fLc_47 fu L xs rc x3 σ else (if y = 48 then fLc_48 fu L xs rc x3 σ else rc (x3 + 4) σ)))))))))))))))))))))))))))))))))))))))))))))))))
set_option maxRecDepth 20000 in
def fL_18b (fu L : Nat) (xs : Nat → Int32) (rc : Int32 → js_S → Option (Int32 × js_S)) (x3 : Int32) (σ : js_S) : Option (Int32 × js_S) := (if ((Int32.ofNat L) - 4) < x3 then some (1, σ) else (if ib_ x3 L = true then fL_sw fu L xs rc ((xs (Int32.toNatClampNeg x3)) &&& 63) x3 σ else none))
set_option maxRecDepth 20000 in
def fL_18 (fu L : Nat) (xs : Nat → Int32) : Nat → Int32 → js_S → Option (Int32 × js_S)
  | 0, _, _ => none
  | k + 1, x3, σ => fL_18b fu L xs (fL_18 fu L xs k) x3 σ
set_option maxRecDepth 20000 in
def js_z : js_S := (fun _ _ => 0, fun _ _ => 0, fun _ _ => 0)
set_option maxRecDepth 20000 in
def fL_init : Option (Nat × js_S) := bd_ (fX11_initc 1 1 (zz_ js_z 1)) fun r σ => bd_ (fX12_initc (r + 1) (r + 1) (zz_ σ (r + 1))) fun r2 σ2 => some (r2, σ2)
variable {p : Program} {l : Launch} {e : Env} {s : State} {m : MethodId} {args : Array Value} {below : List Frame} {meth : Method} {c : Code} {D : va_G} {B b L fu : Nat} {g : js_G} {xs : Nat → Int32}
set_option maxHeartbeats 4000000 in
set_option maxRecDepth 20000 in
theorem wL_1401 (C : js_C D g p m c cL_law 4 s args RL) (hargs : args = #[Value.ref b]) (hr : meth.sig.returnType = ret) (hk : meth.locks = false) (hX : va_X b L xs s s.heap) (hbl : b < s.heap.size) (hB : B + 1 = s.heap.size) (rc : Int32 → js_S → Option (Int32 × js_S)) (hrc : ∀ (x3 : Int32) (σ σ0 : js_S), rc x3 σ = some (1, σ0) → ∀ (H : Heap) (locs : List Loc), js_T D B g 419 σ s H locs → ∀ ls : Array Slot, lv_has ls 4 [(0, .ref b), (1, .ref (B + 1)), (2, .ref (B + 390)), (3, .int x3)] → W p l e room_1 s m args below meth c H locs 435 316929 (lw_Z below args s) (F0 m 18 ls [])) : ∀ (x3 : Int32) (σ σ0 : js_S), (fun x3 σ => rc (x3 + 4) σ) x3 σ = some (1, σ0) → ∀ (H : Heap) (locs : List Loc), js_T D B g 419 σ s H locs → ∀ ls : Array Slot, lv_has ls 4 [(0, .ref b), (1, .ref (B + 1)), (2, .ref (B + 390)), (3, .int x3)] → W p l e room_1 s m args below meth c H locs 435 316929 (lw_Z below args s) (F0 m 1401 ls []) := by
  obtain ⟨hx, hb, hml, hown, ht, hK, hNw⟩ := id C
  have hbA : ¬ (fun q => B < q) b := by show ¬ B < b; omega
  intro x3 σ σ0 h H locs hT ls hl
  refine lv_iinc (v := x3 + 4) (lv' := [(3, .int (x3 + 4)), (0, .ref b), (1, .ref (B + 1)), (2, .ref (B + 390))]) hx hb dL_law_1401 hl (k := 3) rfl rfl (by decide) rfl (fun ls hl => ?_)
  refine lv_goto (tgt := 18) hx hb dL_law_1404 (by decide) ?_
  exact hrc (x3 + 4) σ σ0 h H locs hT ls (lv_sub hl [1, 2, 3, 0] rfl)
set_option maxHeartbeats 4000000 in
set_option maxRecDepth 20000 in
theorem wLc_0 (C : js_C D g p m c cL_law 4 s args RL) (hargs : args = #[Value.ref b]) (hr : meth.sig.returnType = ret) (hk : meth.locks = false) (hX : va_X b L xs s s.heap) (hbl : b < s.heap.size) (hB : B + 1 = s.heap.size) (rc : Int32 → js_S → Option (Int32 × js_S)) (hrc : ∀ (x3 : Int32) (σ σ0 : js_S), rc x3 σ = some (1, σ0) → ∀ (H : Heap) (locs : List Loc), js_T D B g 419 σ s H locs → ∀ ls : Array Slot, lv_has ls 4 [(0, .ref b), (1, .ref (B + 1)), (2, .ref (B + 390)), (3, .int x3)] → W p l e room_1 s m args below meth c H locs 435 316929 (lw_Z below args s) (F0 m 18 ls [])) : ∀ (x3 : Int32) (σ σ0 : js_S), fLc_0 fu L xs rc x3 σ = some (1, σ0) → ∀ (H : Heap) (locs : List Loc), js_T D B g 419 σ s H locs → ∀ ls : Array Slot, lv_has ls 4 [(0, .ref b), (1, .ref (B + 1)), (2, .ref (B + 390)), (3, .int x3)] → W p l e room_1 s m args below meth c H locs 435 316929 (lw_Z below args s) (F0 m 244 ls []) := by
  obtain ⟨hx, hb, hml, hown, ht, hK, hNw⟩ := id C
  have hbA : ¬ (fun q => B < q) b := by show ¬ B < b; omega
  intro x3 σ σ0 h H locs hT ls hl
  unfold fLc_0 at h
  refine lv_aload_n hx hb dL_law_244 rfl (lv_at hl 1 rfl) ?_
  refine lv_aload_n hx hb dL_law_245 rfl (lv_at hl 0 rfl) ?_
  refine lv_iload_n hx hb dL_law_246 rfl (lv_at hl 3 rfl) ?_
  refine lv_iconst (v := 1) hx hb dL_law_247 (by decide) ?_
  refine lv_iadd hx hb dL_law_248 ?_
  obtain ⟨g1, h⟩ := gd_some _ h
  refine va_sld hx hb hX hbl hbA hT.2.1 (ib_in g1) dL_law_249 ?_
  refine lv_aload_n hx hb dL_law_250 rfl (lv_at hl 0 rfl) ?_
  refine lv_iload_n hx hb dL_law_251 rfl (lv_at hl 3 rfl) ?_
  refine lv_iconst (v := 2) hx hb dL_law_252 (by decide) ?_
  refine lv_iadd hx hb dL_law_253 ?_
  obtain ⟨g2, h⟩ := gd_some _ h
  refine va_sld hx hb hX hbl hbA hT.2.1 (ib_in g2) dL_law_254 ?_
  obtain ⟨r3, σ3, hc3, h⟩ := bd_some h
  refine js_backI hT (js_runV C hT cfX11 js_o11 rfl mfX11_setArity lk_L_13 (kX11_setArity js_o11 hc3) ⟨Nat.le_of_ble_eq_true rfl, Nat.le_of_ble_eq_true rfl⟩ rfl hl.1 rfl (Nat.le_of_ble_eq_true rfl) ⟨Nat.le_of_ble_eq_true rfl, Nat.le_of_ble_eq_true rfl⟩ dL_law_255) (fun H locs hT => ?_)
  refine lv_aload_n hx hb dL_law_258 rfl (lv_at hl 2 rfl) ?_
  refine lv_aload_n hx hb dL_law_259 rfl (lv_at hl 0 rfl) ?_
  refine lv_iload_n hx hb dL_law_260 rfl (lv_at hl 3 rfl) ?_
  refine lv_iconst (v := 1) hx hb dL_law_261 (by decide) ?_
  refine lv_iadd hx hb dL_law_262 ?_
  obtain ⟨g4, h⟩ := gd_some _ h
  refine va_sld hx hb hX hbl hbA hT.2.1 (ib_in g4) dL_law_263 ?_
  refine lv_aload_n hx hb dL_law_264 rfl (lv_at hl 0 rfl) ?_
  refine lv_iload_n hx hb dL_law_265 rfl (lv_at hl 3 rfl) ?_
  refine lv_iconst (v := 2) hx hb dL_law_266 (by decide) ?_
  refine lv_iadd hx hb dL_law_267 ?_
  obtain ⟨g5, h⟩ := gd_some _ h
  refine va_sld hx hb hX hbl hbA hT.2.1 (ib_in g5) dL_law_268 ?_
  obtain ⟨r6, σ6, hc6, h⟩ := bd_some h
  refine js_backI hT (js_runV C hT cfX12 js_o12 rfl mfX12_setArity lk_L_17 (kX12_setArity js_o12 hc6) ⟨Nat.le_of_ble_eq_true rfl, Nat.le_of_ble_eq_true rfl⟩ rfl hl.1 rfl (Nat.le_of_ble_eq_true rfl) ⟨Nat.le_of_ble_eq_true rfl, Nat.le_of_ble_eq_true rfl⟩ dL_law_269) (fun H locs hT => ?_)
  refine lv_icmp_eq (tgt := 1401) hx hb dL_law_272 (by decide) (fun c7 => ?_) (fun c7 => ?_)
  · rw [if_pos c7] at h
    exact wL_1401 C hargs hr hk hX hbl hB rc hrc x3 σ6 σ0 h H locs hT ls hl
  · rw [if_neg c7] at h
    exact absurd (js_rt h).1 (by decide)
set_option maxHeartbeats 4000000 in
set_option maxRecDepth 20000 in
theorem wLc_1 (C : js_C D g p m c cL_law 4 s args RL) (hargs : args = #[Value.ref b]) (hr : meth.sig.returnType = ret) (hk : meth.locks = false) (hX : va_X b L xs s s.heap) (hbl : b < s.heap.size) (hB : B + 1 = s.heap.size) (rc : Int32 → js_S → Option (Int32 × js_S)) (hrc : ∀ (x3 : Int32) (σ σ0 : js_S), rc x3 σ = some (1, σ0) → ∀ (H : Heap) (locs : List Loc), js_T D B g 419 σ s H locs → ∀ ls : Array Slot, lv_has ls 4 [(0, .ref b), (1, .ref (B + 1)), (2, .ref (B + 390)), (3, .int x3)] → W p l e room_1 s m args below meth c H locs 435 316929 (lw_Z below args s) (F0 m 18 ls [])) : ∀ (x3 : Int32) (σ σ0 : js_S), fLc_1 fu L xs rc x3 σ = some (1, σ0) → ∀ (H : Heap) (locs : List Loc), js_T D B g 419 σ s H locs → ∀ ls : Array Slot, lv_has ls 4 [(0, .ref b), (1, .ref (B + 1)), (2, .ref (B + 390)), (3, .int x3)] → W p l e room_1 s m args below meth c H locs 435 316929 (lw_Z below args s) (F0 m 277 ls []) := by
  obtain ⟨hx, hb, hml, hown, ht, hK, hNw⟩ := id C
  have hbA : ¬ (fun q => B < q) b := by show ¬ B < b; omega
  intro x3 σ σ0 h H locs hT ls hl
  unfold fLc_1 at h
  refine lv_aload_n hx hb dL_law_277 rfl (lv_at hl 1 rfl) ?_
  refine lv_aload_n hx hb dL_law_278 rfl (lv_at hl 0 rfl) ?_
  refine lv_iload_n hx hb dL_law_279 rfl (lv_at hl 3 rfl) ?_
  refine lv_iconst (v := 1) hx hb dL_law_280 (by decide) ?_
  refine lv_iadd hx hb dL_law_281 ?_
  obtain ⟨g1, h⟩ := gd_some _ h
  refine va_sld hx hb hX hbl hbA hT.2.1 (ib_in g1) dL_law_282 ?_
  obtain ⟨r2, σ2, hc2, h⟩ := bd_some h
  refine js_backI hT (js_runV C hT cfX11 js_o11 rfl mfX11_arity lk_L_18 (kX11_arity js_o11 hc2) ⟨Nat.le_of_ble_eq_true rfl, Nat.le_of_ble_eq_true rfl⟩ rfl hl.1 rfl (Nat.le_of_ble_eq_true rfl) ⟨Nat.le_of_ble_eq_true rfl, Nat.le_of_ble_eq_true rfl⟩ dL_law_283) (fun H locs hT => ?_)
  refine lv_aload_n hx hb dL_law_286 rfl (lv_at hl 2 rfl) ?_
  refine lv_aload_n hx hb dL_law_287 rfl (lv_at hl 0 rfl) ?_
  refine lv_iload_n hx hb dL_law_288 rfl (lv_at hl 3 rfl) ?_
  refine lv_iconst (v := 1) hx hb dL_law_289 (by decide) ?_
  refine lv_iadd hx hb dL_law_290 ?_
  obtain ⟨g3, h⟩ := gd_some _ h
  refine va_sld hx hb hX hbl hbA hT.2.1 (ib_in g3) dL_law_291 ?_
  obtain ⟨r4, σ4, hc4, h⟩ := bd_some h
  refine js_backI hT (js_runV C hT cfX12 js_o12 rfl mfX12_arity lk_L_22 (kX12_arity js_o12 hc4) ⟨Nat.le_of_ble_eq_true rfl, Nat.le_of_ble_eq_true rfl⟩ rfl hl.1 rfl (Nat.le_of_ble_eq_true rfl) ⟨Nat.le_of_ble_eq_true rfl, Nat.le_of_ble_eq_true rfl⟩ dL_law_292) (fun H locs hT => ?_)
  refine lv_icmp_eq (tgt := 1401) hx hb dL_law_295 (by decide) (fun c5 => ?_) (fun c5 => ?_)
  · rw [if_pos c5] at h
    exact wL_1401 C hargs hr hk hX hbl hB rc hrc x3 σ4 σ0 h H locs hT ls hl
  · rw [if_neg c5] at h
    exact absurd (js_rt h).1 (by decide)
set_option maxHeartbeats 4000000 in
set_option maxRecDepth 20000 in
theorem wLc_2 (C : js_C D g p m c cL_law 4 s args RL) (hargs : args = #[Value.ref b]) (hr : meth.sig.returnType = ret) (hk : meth.locks = false) (hX : va_X b L xs s s.heap) (hbl : b < s.heap.size) (hB : B + 1 = s.heap.size) (rc : Int32 → js_S → Option (Int32 × js_S)) (hrc : ∀ (x3 : Int32) (σ σ0 : js_S), rc x3 σ = some (1, σ0) → ∀ (H : Heap) (locs : List Loc), js_T D B g 419 σ s H locs → ∀ ls : Array Slot, lv_has ls 4 [(0, .ref b), (1, .ref (B + 1)), (2, .ref (B + 390)), (3, .int x3)] → W p l e room_1 s m args below meth c H locs 435 316929 (lw_Z below args s) (F0 m 18 ls [])) : ∀ (x3 : Int32) (σ σ0 : js_S), fLc_2 fu L xs rc x3 σ = some (1, σ0) → ∀ (H : Heap) (locs : List Loc), js_T D B g 419 σ s H locs → ∀ ls : Array Slot, lv_has ls 4 [(0, .ref b), (1, .ref (B + 1)), (2, .ref (B + 390)), (3, .int x3)] → W p l e room_1 s m args below meth c H locs 435 316929 (lw_Z below args s) (F0 m 300 ls []) := by
  obtain ⟨hx, hb, hml, hown, ht, hK, hNw⟩ := id C
  have hbA : ¬ (fun q => B < q) b := by show ¬ B < b; omega
  intro x3 σ σ0 h H locs hT ls hl
  unfold fLc_2 at h
  refine lv_aload_n hx hb dL_law_300 rfl (lv_at hl 1 rfl) ?_
  obtain ⟨r1, σ1, hc1, h⟩ := bd_some h
  refine js_backI hT (js_runV C hT cfX11 js_o11 rfl mfX11_addRule lk_L_23 (kX11_addRule js_o11 hc1) ⟨Nat.le_of_ble_eq_true rfl, Nat.le_of_ble_eq_true rfl⟩ rfl hl.1 rfl (Nat.le_of_ble_eq_true rfl) ⟨Nat.le_of_ble_eq_true rfl, Nat.le_of_ble_eq_true rfl⟩ dL_law_301) (fun H locs hT => ?_)
  refine lv_aload_n hx hb dL_law_304 rfl (lv_at hl 2 rfl) ?_
  obtain ⟨r2, σ2, hc2, h⟩ := bd_some h
  refine js_backI hT (js_runV C hT cfX12 js_o12 rfl mfX12_addRule lk_L_27 (kX12_addRule js_o12 hc2) ⟨Nat.le_of_ble_eq_true rfl, Nat.le_of_ble_eq_true rfl⟩ rfl hl.1 rfl (Nat.le_of_ble_eq_true rfl) ⟨Nat.le_of_ble_eq_true rfl, Nat.le_of_ble_eq_true rfl⟩ dL_law_305) (fun H locs hT => ?_)
  refine lv_icmp_eq (tgt := 1401) hx hb dL_law_308 (by decide) (fun c3 => ?_) (fun c3 => ?_)
  · rw [if_pos c3] at h
    exact wL_1401 C hargs hr hk hX hbl hB rc hrc x3 σ2 σ0 h H locs hT ls hl
  · rw [if_neg c3] at h
    exact absurd (js_rt h).1 (by decide)
set_option maxHeartbeats 4000000 in
set_option maxRecDepth 20000 in
theorem wLc_3 (C : js_C D g p m c cL_law 4 s args RL) (hargs : args = #[Value.ref b]) (hr : meth.sig.returnType = ret) (hk : meth.locks = false) (hX : va_X b L xs s s.heap) (hbl : b < s.heap.size) (hB : B + 1 = s.heap.size) (rc : Int32 → js_S → Option (Int32 × js_S)) (hrc : ∀ (x3 : Int32) (σ σ0 : js_S), rc x3 σ = some (1, σ0) → ∀ (H : Heap) (locs : List Loc), js_T D B g 419 σ s H locs → ∀ ls : Array Slot, lv_has ls 4 [(0, .ref b), (1, .ref (B + 1)), (2, .ref (B + 390)), (3, .int x3)] → W p l e room_1 s m args below meth c H locs 435 316929 (lw_Z below args s) (F0 m 18 ls [])) : ∀ (x3 : Int32) (σ σ0 : js_S), fLc_3 fu L xs rc x3 σ = some (1, σ0) → ∀ (H : Heap) (locs : List Loc), js_T D B g 419 σ s H locs → ∀ ls : Array Slot, lv_has ls 4 [(0, .ref b), (1, .ref (B + 1)), (2, .ref (B + 390)), (3, .int x3)] → W p l e room_1 s m args below meth c H locs 435 316929 (lw_Z below args s) (F0 m 313 ls []) := by
  obtain ⟨hx, hb, hml, hown, ht, hK, hNw⟩ := id C
  have hbA : ¬ (fun q => B < q) b := by show ¬ B < b; omega
  intro x3 σ σ0 h H locs hT ls hl
  unfold fLc_3 at h
  refine lv_aload_n hx hb dL_law_313 rfl (lv_at hl 1 rfl) ?_
  refine lv_aload_n hx hb dL_law_314 rfl (lv_at hl 0 rfl) ?_
  refine lv_iload_n hx hb dL_law_315 rfl (lv_at hl 3 rfl) ?_
  refine lv_iconst (v := 1) hx hb dL_law_316 (by decide) ?_
  refine lv_iadd hx hb dL_law_317 ?_
  obtain ⟨g1, h⟩ := gd_some _ h
  refine va_sld hx hb hX hbl hbA hT.2.1 (ib_in g1) dL_law_318 ?_
  obtain ⟨r2, σ2, hc2, h⟩ := bd_some h
  refine js_backI hT (js_runV C hT cfX11 js_o11 rfl mfX11_removeRule lk_L_28 (kX11_removeRule js_o11 hc2) ⟨Nat.le_of_ble_eq_true rfl, Nat.le_of_ble_eq_true rfl⟩ rfl hl.1 rfl (Nat.le_of_ble_eq_true rfl) ⟨Nat.le_of_ble_eq_true rfl, Nat.le_of_ble_eq_true rfl⟩ dL_law_319) (fun H locs hT => ?_)
  refine lv_aload_n hx hb dL_law_322 rfl (lv_at hl 2 rfl) ?_
  refine lv_aload_n hx hb dL_law_323 rfl (lv_at hl 0 rfl) ?_
  refine lv_iload_n hx hb dL_law_324 rfl (lv_at hl 3 rfl) ?_
  refine lv_iconst (v := 1) hx hb dL_law_325 (by decide) ?_
  refine lv_iadd hx hb dL_law_326 ?_
  obtain ⟨g3, h⟩ := gd_some _ h
  refine va_sld hx hb hX hbl hbA hT.2.1 (ib_in g3) dL_law_327 ?_
  obtain ⟨r4, σ4, hc4, h⟩ := bd_some h
  refine js_backI hT (js_runV C hT cfX12 js_o12 rfl mfX12_removeRule lk_L_31 (kX12_removeRule js_o12 hc4) ⟨Nat.le_of_ble_eq_true rfl, Nat.le_of_ble_eq_true rfl⟩ rfl hl.1 rfl (Nat.le_of_ble_eq_true rfl) ⟨Nat.le_of_ble_eq_true rfl, Nat.le_of_ble_eq_true rfl⟩ dL_law_328) (fun H locs hT => ?_)
  refine lv_icmp_eq (tgt := 1401) hx hb dL_law_331 (by decide) (fun c5 => ?_) (fun c5 => ?_)
  · rw [if_pos c5] at h
    exact wL_1401 C hargs hr hk hX hbl hB rc hrc x3 σ4 σ0 h H locs hT ls hl
  · rw [if_neg c5] at h
    exact absurd (js_rt h).1 (by decide)
set_option maxHeartbeats 4000000 in
set_option maxRecDepth 20000 in
theorem wLc_4 (C : js_C D g p m c cL_law 4 s args RL) (hargs : args = #[Value.ref b]) (hr : meth.sig.returnType = ret) (hk : meth.locks = false) (hX : va_X b L xs s s.heap) (hbl : b < s.heap.size) (hB : B + 1 = s.heap.size) (rc : Int32 → js_S → Option (Int32 × js_S)) (hrc : ∀ (x3 : Int32) (σ σ0 : js_S), rc x3 σ = some (1, σ0) → ∀ (H : Heap) (locs : List Loc), js_T D B g 419 σ s H locs → ∀ ls : Array Slot, lv_has ls 4 [(0, .ref b), (1, .ref (B + 1)), (2, .ref (B + 390)), (3, .int x3)] → W p l e room_1 s m args below meth c H locs 435 316929 (lw_Z below args s) (F0 m 18 ls [])) : ∀ (x3 : Int32) (σ σ0 : js_S), fLc_4 fu L xs rc x3 σ = some (1, σ0) → ∀ (H : Heap) (locs : List Loc), js_T D B g 419 σ s H locs → ∀ ls : Array Slot, lv_has ls 4 [(0, .ref b), (1, .ref (B + 1)), (2, .ref (B + 390)), (3, .int x3)] → W p l e room_1 s m args below meth c H locs 435 316929 (lw_Z below args s) (F0 m 336 ls []) := by
  obtain ⟨hx, hb, hml, hown, ht, hK, hNw⟩ := id C
  have hbA : ¬ (fun q => B < q) b := by show ¬ B < b; omega
  intro x3 σ σ0 h H locs hT ls hl
  unfold fLc_4 at h
  refine lv_aload_n hx hb dL_law_336 rfl (lv_at hl 1 rfl) ?_
  obtain ⟨r1, σ1, hc1, h⟩ := bd_some h
  refine js_backI hT (js_runV C hT cfX11 js_o11 rfl mfX11_ruleCount lk_L_32 (kX11_ruleCount js_o11 hc1) ⟨Nat.le_of_ble_eq_true rfl, Nat.le_of_ble_eq_true rfl⟩ rfl hl.1 rfl (Nat.le_of_ble_eq_true rfl) ⟨Nat.le_of_ble_eq_true rfl, Nat.le_of_ble_eq_true rfl⟩ dL_law_337) (fun H locs hT => ?_)
  refine lv_aload_n hx hb dL_law_340 rfl (lv_at hl 2 rfl) ?_
  obtain ⟨r2, σ2, hc2, h⟩ := bd_some h
  refine js_backI hT (js_runV C hT cfX12 js_o12 rfl mfX12_ruleCount lk_L_35 (kX12_ruleCount js_o12 hc2) ⟨Nat.le_of_ble_eq_true rfl, Nat.le_of_ble_eq_true rfl⟩ rfl hl.1 rfl (Nat.le_of_ble_eq_true rfl) ⟨Nat.le_of_ble_eq_true rfl, Nat.le_of_ble_eq_true rfl⟩ dL_law_341) (fun H locs hT => ?_)
  refine lv_icmp_eq (tgt := 1401) hx hb dL_law_344 (by decide) (fun c3 => ?_) (fun c3 => ?_)
  · rw [if_pos c3] at h
    exact wL_1401 C hargs hr hk hX hbl hB rc hrc x3 σ2 σ0 h H locs hT ls hl
  · rw [if_neg c3] at h
    exact absurd (js_rt h).1 (by decide)
set_option maxHeartbeats 4000000 in
set_option maxRecDepth 20000 in
theorem wLc_5 (C : js_C D g p m c cL_law 4 s args RL) (hargs : args = #[Value.ref b]) (hr : meth.sig.returnType = ret) (hk : meth.locks = false) (hX : va_X b L xs s s.heap) (hbl : b < s.heap.size) (hB : B + 1 = s.heap.size) (rc : Int32 → js_S → Option (Int32 × js_S)) (hrc : ∀ (x3 : Int32) (σ σ0 : js_S), rc x3 σ = some (1, σ0) → ∀ (H : Heap) (locs : List Loc), js_T D B g 419 σ s H locs → ∀ ls : Array Slot, lv_has ls 4 [(0, .ref b), (1, .ref (B + 1)), (2, .ref (B + 390)), (3, .int x3)] → W p l e room_1 s m args below meth c H locs 435 316929 (lw_Z below args s) (F0 m 18 ls [])) : ∀ (x3 : Int32) (σ σ0 : js_S), fLc_5 fu L xs rc x3 σ = some (1, σ0) → ∀ (H : Heap) (locs : List Loc), js_T D B g 419 σ s H locs → ∀ ls : Array Slot, lv_has ls 4 [(0, .ref b), (1, .ref (B + 1)), (2, .ref (B + 390)), (3, .int x3)] → W p l e room_1 s m args below meth c H locs 435 316929 (lw_Z below args s) (F0 m 349 ls []) := by
  obtain ⟨hx, hb, hml, hown, ht, hK, hNw⟩ := id C
  have hbA : ¬ (fun q => B < q) b := by show ¬ B < b; omega
  intro x3 σ σ0 h H locs hT ls hl
  unfold fLc_5 at h
  refine lv_aload_n hx hb dL_law_349 rfl (lv_at hl 1 rfl) ?_
  refine lv_aload_n hx hb dL_law_350 rfl (lv_at hl 0 rfl) ?_
  refine lv_iload_n hx hb dL_law_351 rfl (lv_at hl 3 rfl) ?_
  refine lv_iconst (v := 1) hx hb dL_law_352 (by decide) ?_
  refine lv_iadd hx hb dL_law_353 ?_
  obtain ⟨g1, h⟩ := gd_some _ h
  refine va_sld hx hb hX hbl hbA hT.2.1 (ib_in g1) dL_law_354 ?_
  obtain ⟨r2, σ2, hc2, h⟩ := bd_some h
  refine js_backI hT (js_runV C hT cfX11 js_o11 rfl mfX11_leftSize lk_L_36 (kX11_leftSize js_o11 hc2) ⟨Nat.le_of_ble_eq_true rfl, Nat.le_of_ble_eq_true rfl⟩ rfl hl.1 rfl (Nat.le_of_ble_eq_true rfl) ⟨Nat.le_of_ble_eq_true rfl, Nat.le_of_ble_eq_true rfl⟩ dL_law_355) (fun H locs hT => ?_)
  refine lv_aload_n hx hb dL_law_358 rfl (lv_at hl 2 rfl) ?_
  refine lv_aload_n hx hb dL_law_359 rfl (lv_at hl 0 rfl) ?_
  refine lv_iload_n hx hb dL_law_360 rfl (lv_at hl 3 rfl) ?_
  refine lv_iconst (v := 1) hx hb dL_law_361 (by decide) ?_
  refine lv_iadd hx hb dL_law_362 ?_
  obtain ⟨g3, h⟩ := gd_some _ h
  refine va_sld hx hb hX hbl hbA hT.2.1 (ib_in g3) dL_law_363 ?_
  obtain ⟨r4, σ4, hc4, h⟩ := bd_some h
  refine js_backI hT (js_runV C hT cfX12 js_o12 rfl mfX12_leftSize lk_L_39 (kX12_leftSize js_o12 hc4) ⟨Nat.le_of_ble_eq_true rfl, Nat.le_of_ble_eq_true rfl⟩ rfl hl.1 rfl (Nat.le_of_ble_eq_true rfl) ⟨Nat.le_of_ble_eq_true rfl, Nat.le_of_ble_eq_true rfl⟩ dL_law_364) (fun H locs hT => ?_)
  refine lv_icmp_eq (tgt := 1401) hx hb dL_law_367 (by decide) (fun c5 => ?_) (fun c5 => ?_)
  · rw [if_pos c5] at h
    exact wL_1401 C hargs hr hk hX hbl hB rc hrc x3 σ4 σ0 h H locs hT ls hl
  · rw [if_neg c5] at h
    exact absurd (js_rt h).1 (by decide)
set_option maxHeartbeats 4000000 in
set_option maxRecDepth 20000 in
theorem wLc_6 (C : js_C D g p m c cL_law 4 s args RL) (hargs : args = #[Value.ref b]) (hr : meth.sig.returnType = ret) (hk : meth.locks = false) (hX : va_X b L xs s s.heap) (hbl : b < s.heap.size) (hB : B + 1 = s.heap.size) (rc : Int32 → js_S → Option (Int32 × js_S)) (hrc : ∀ (x3 : Int32) (σ σ0 : js_S), rc x3 σ = some (1, σ0) → ∀ (H : Heap) (locs : List Loc), js_T D B g 419 σ s H locs → ∀ ls : Array Slot, lv_has ls 4 [(0, .ref b), (1, .ref (B + 1)), (2, .ref (B + 390)), (3, .int x3)] → W p l e room_1 s m args below meth c H locs 435 316929 (lw_Z below args s) (F0 m 18 ls [])) : ∀ (x3 : Int32) (σ σ0 : js_S), fLc_6 fu L xs rc x3 σ = some (1, σ0) → ∀ (H : Heap) (locs : List Loc), js_T D B g 419 σ s H locs → ∀ ls : Array Slot, lv_has ls 4 [(0, .ref b), (1, .ref (B + 1)), (2, .ref (B + 390)), (3, .int x3)] → W p l e room_1 s m args below meth c H locs 435 316929 (lw_Z below args s) (F0 m 372 ls []) := by
  obtain ⟨hx, hb, hml, hown, ht, hK, hNw⟩ := id C
  have hbA : ¬ (fun q => B < q) b := by show ¬ B < b; omega
  intro x3 σ σ0 h H locs hT ls hl
  unfold fLc_6 at h
  refine lv_aload_n hx hb dL_law_372 rfl (lv_at hl 1 rfl) ?_
  refine lv_aload_n hx hb dL_law_373 rfl (lv_at hl 0 rfl) ?_
  refine lv_iload_n hx hb dL_law_374 rfl (lv_at hl 3 rfl) ?_
  refine lv_iconst (v := 1) hx hb dL_law_375 (by decide) ?_
  refine lv_iadd hx hb dL_law_376 ?_
  obtain ⟨g1, h⟩ := gd_some _ h
  refine va_sld hx hb hX hbl hbA hT.2.1 (ib_in g1) dL_law_377 ?_
  obtain ⟨r2, σ2, hc2, h⟩ := bd_some h
  refine js_backI hT (js_runV C hT cfX11 js_o11 rfl mfX11_rightSize lk_L_40 (kX11_rightSize js_o11 hc2) ⟨Nat.le_of_ble_eq_true rfl, Nat.le_of_ble_eq_true rfl⟩ rfl hl.1 rfl (Nat.le_of_ble_eq_true rfl) ⟨Nat.le_of_ble_eq_true rfl, Nat.le_of_ble_eq_true rfl⟩ dL_law_378) (fun H locs hT => ?_)
  refine lv_aload_n hx hb dL_law_381 rfl (lv_at hl 2 rfl) ?_
  refine lv_aload_n hx hb dL_law_382 rfl (lv_at hl 0 rfl) ?_
  refine lv_iload_n hx hb dL_law_383 rfl (lv_at hl 3 rfl) ?_
  refine lv_iconst (v := 1) hx hb dL_law_384 (by decide) ?_
  refine lv_iadd hx hb dL_law_385 ?_
  obtain ⟨g3, h⟩ := gd_some _ h
  refine va_sld hx hb hX hbl hbA hT.2.1 (ib_in g3) dL_law_386 ?_
  obtain ⟨r4, σ4, hc4, h⟩ := bd_some h
  refine js_backI hT (js_runV C hT cfX12 js_o12 rfl mfX12_rightSize lk_L_43 (kX12_rightSize js_o12 hc4) ⟨Nat.le_of_ble_eq_true rfl, Nat.le_of_ble_eq_true rfl⟩ rfl hl.1 rfl (Nat.le_of_ble_eq_true rfl) ⟨Nat.le_of_ble_eq_true rfl, Nat.le_of_ble_eq_true rfl⟩ dL_law_387) (fun H locs hT => ?_)
  refine lv_icmp_eq (tgt := 1401) hx hb dL_law_390 (by decide) (fun c5 => ?_) (fun c5 => ?_)
  · rw [if_pos c5] at h
    exact wL_1401 C hargs hr hk hX hbl hB rc hrc x3 σ4 σ0 h H locs hT ls hl
  · rw [if_neg c5] at h
    exact absurd (js_rt h).1 (by decide)
set_option maxHeartbeats 4000000 in
set_option maxRecDepth 20000 in
theorem wLc_7 (C : js_C D g p m c cL_law 4 s args RL) (hargs : args = #[Value.ref b]) (hr : meth.sig.returnType = ret) (hk : meth.locks = false) (hX : va_X b L xs s s.heap) (hbl : b < s.heap.size) (hB : B + 1 = s.heap.size) (rc : Int32 → js_S → Option (Int32 × js_S)) (hrc : ∀ (x3 : Int32) (σ σ0 : js_S), rc x3 σ = some (1, σ0) → ∀ (H : Heap) (locs : List Loc), js_T D B g 419 σ s H locs → ∀ ls : Array Slot, lv_has ls 4 [(0, .ref b), (1, .ref (B + 1)), (2, .ref (B + 390)), (3, .int x3)] → W p l e room_1 s m args below meth c H locs 435 316929 (lw_Z below args s) (F0 m 18 ls [])) : ∀ (x3 : Int32) (σ σ0 : js_S), fLc_7 fu L xs rc x3 σ = some (1, σ0) → ∀ (H : Heap) (locs : List Loc), js_T D B g 419 σ s H locs → ∀ ls : Array Slot, lv_has ls 4 [(0, .ref b), (1, .ref (B + 1)), (2, .ref (B + 390)), (3, .int x3)] → W p l e room_1 s m args below meth c H locs 435 316929 (lw_Z below args s) (F0 m 395 ls []) := by
  obtain ⟨hx, hb, hml, hown, ht, hK, hNw⟩ := id C
  have hbA : ¬ (fun q => B < q) b := by show ¬ B < b; omega
  intro x3 σ σ0 h H locs hT ls hl
  unfold fLc_7 at h
  refine lv_aload_n hx hb dL_law_395 rfl (lv_at hl 1 rfl) ?_
  obtain ⟨r1, σ1, hc1, h⟩ := bd_some h
  refine js_backI hT (js_runV C hT cfX11 js_o11 rfl mfX11_pairCount lk_L_44 (kX11_pairCount js_o11 hc1) ⟨Nat.le_of_ble_eq_true rfl, Nat.le_of_ble_eq_true rfl⟩ rfl hl.1 rfl (Nat.le_of_ble_eq_true rfl) ⟨Nat.le_of_ble_eq_true rfl, Nat.le_of_ble_eq_true rfl⟩ dL_law_396) (fun H locs hT => ?_)
  refine lv_aload_n hx hb dL_law_399 rfl (lv_at hl 2 rfl) ?_
  obtain ⟨r2, σ2, hc2, h⟩ := bd_some h
  refine js_backI hT (js_runV C hT cfX12 js_o12 rfl mfX12_pairCount lk_L_47 (kX12_pairCount js_o12 hc2) ⟨Nat.le_of_ble_eq_true rfl, Nat.le_of_ble_eq_true rfl⟩ rfl hl.1 rfl (Nat.le_of_ble_eq_true rfl) ⟨Nat.le_of_ble_eq_true rfl, Nat.le_of_ble_eq_true rfl⟩ dL_law_400) (fun H locs hT => ?_)
  refine lv_icmp_eq (tgt := 1401) hx hb dL_law_403 (by decide) (fun c3 => ?_) (fun c3 => ?_)
  · rw [if_pos c3] at h
    exact wL_1401 C hargs hr hk hX hbl hB rc hrc x3 σ2 σ0 h H locs hT ls hl
  · rw [if_neg c3] at h
    exact absurd (js_rt h).1 (by decide)
set_option maxHeartbeats 4000000 in
set_option maxRecDepth 20000 in
theorem wLc_8 (C : js_C D g p m c cL_law 4 s args RL) (hargs : args = #[Value.ref b]) (hr : meth.sig.returnType = ret) (hk : meth.locks = false) (hX : va_X b L xs s s.heap) (hbl : b < s.heap.size) (hB : B + 1 = s.heap.size) (rc : Int32 → js_S → Option (Int32 × js_S)) (hrc : ∀ (x3 : Int32) (σ σ0 : js_S), rc x3 σ = some (1, σ0) → ∀ (H : Heap) (locs : List Loc), js_T D B g 419 σ s H locs → ∀ ls : Array Slot, lv_has ls 4 [(0, .ref b), (1, .ref (B + 1)), (2, .ref (B + 390)), (3, .int x3)] → W p l e room_1 s m args below meth c H locs 435 316929 (lw_Z below args s) (F0 m 18 ls [])) : ∀ (x3 : Int32) (σ σ0 : js_S), fLc_8 fu L xs rc x3 σ = some (1, σ0) → ∀ (H : Heap) (locs : List Loc), js_T D B g 419 σ s H locs → ∀ ls : Array Slot, lv_has ls 4 [(0, .ref b), (1, .ref (B + 1)), (2, .ref (B + 390)), (3, .int x3)] → W p l e room_1 s m args below meth c H locs 435 316929 (lw_Z below args s) (F0 m 408 ls []) := by
  obtain ⟨hx, hb, hml, hown, ht, hK, hNw⟩ := id C
  have hbA : ¬ (fun q => B < q) b := by show ¬ B < b; omega
  intro x3 σ σ0 h H locs hT ls hl
  unfold fLc_8 at h
  refine lv_aload_n hx hb dL_law_408 rfl (lv_at hl 1 rfl) ?_
  refine lv_aload_n hx hb dL_law_409 rfl (lv_at hl 0 rfl) ?_
  refine lv_iload_n hx hb dL_law_410 rfl (lv_at hl 3 rfl) ?_
  refine lv_iconst (v := 1) hx hb dL_law_411 (by decide) ?_
  refine lv_iadd hx hb dL_law_412 ?_
  obtain ⟨g1, h⟩ := gd_some _ h
  refine va_sld hx hb hX hbl hbA hT.2.1 (ib_in g1) dL_law_413 ?_
  obtain ⟨r2, σ2, hc2, h⟩ := bd_some h
  refine js_backI hT (js_runV C hT cfX11 js_o11 rfl mfX11_pairRule lk_L_48 (kX11_pairRule js_o11 hc2) ⟨Nat.le_of_ble_eq_true rfl, Nat.le_of_ble_eq_true rfl⟩ rfl hl.1 rfl (Nat.le_of_ble_eq_true rfl) ⟨Nat.le_of_ble_eq_true rfl, Nat.le_of_ble_eq_true rfl⟩ dL_law_414) (fun H locs hT => ?_)
  refine lv_aload_n hx hb dL_law_417 rfl (lv_at hl 2 rfl) ?_
  refine lv_aload_n hx hb dL_law_418 rfl (lv_at hl 0 rfl) ?_
  refine lv_iload_n hx hb dL_law_419 rfl (lv_at hl 3 rfl) ?_
  refine lv_iconst (v := 1) hx hb dL_law_420 (by decide) ?_
  refine lv_iadd hx hb dL_law_421 ?_
  obtain ⟨g3, h⟩ := gd_some _ h
  refine va_sld hx hb hX hbl hbA hT.2.1 (ib_in g3) dL_law_422 ?_
  obtain ⟨r4, σ4, hc4, h⟩ := bd_some h
  refine js_backI hT (js_runV C hT cfX12 js_o12 rfl mfX12_pairRule lk_L_51 (kX12_pairRule js_o12 hc4) ⟨Nat.le_of_ble_eq_true rfl, Nat.le_of_ble_eq_true rfl⟩ rfl hl.1 rfl (Nat.le_of_ble_eq_true rfl) ⟨Nat.le_of_ble_eq_true rfl, Nat.le_of_ble_eq_true rfl⟩ dL_law_423) (fun H locs hT => ?_)
  refine lv_icmp_eq (tgt := 1401) hx hb dL_law_426 (by decide) (fun c5 => ?_) (fun c5 => ?_)
  · rw [if_pos c5] at h
    exact wL_1401 C hargs hr hk hX hbl hB rc hrc x3 σ4 σ0 h H locs hT ls hl
  · rw [if_neg c5] at h
    exact absurd (js_rt h).1 (by decide)
set_option maxHeartbeats 4000000 in
set_option maxRecDepth 20000 in
theorem wLc_9 (C : js_C D g p m c cL_law 4 s args RL) (hargs : args = #[Value.ref b]) (hr : meth.sig.returnType = ret) (hk : meth.locks = false) (hX : va_X b L xs s s.heap) (hbl : b < s.heap.size) (hB : B + 1 = s.heap.size) (rc : Int32 → js_S → Option (Int32 × js_S)) (hrc : ∀ (x3 : Int32) (σ σ0 : js_S), rc x3 σ = some (1, σ0) → ∀ (H : Heap) (locs : List Loc), js_T D B g 419 σ s H locs → ∀ ls : Array Slot, lv_has ls 4 [(0, .ref b), (1, .ref (B + 1)), (2, .ref (B + 390)), (3, .int x3)] → W p l e room_1 s m args below meth c H locs 435 316929 (lw_Z below args s) (F0 m 18 ls [])) : ∀ (x3 : Int32) (σ σ0 : js_S), fLc_9 fu L xs rc x3 σ = some (1, σ0) → ∀ (H : Heap) (locs : List Loc), js_T D B g 419 σ s H locs → ∀ ls : Array Slot, lv_has ls 4 [(0, .ref b), (1, .ref (B + 1)), (2, .ref (B + 390)), (3, .int x3)] → W p l e room_1 s m args below meth c H locs 435 316929 (lw_Z below args s) (F0 m 431 ls []) := by
  obtain ⟨hx, hb, hml, hown, ht, hK, hNw⟩ := id C
  have hbA : ¬ (fun q => B < q) b := by show ¬ B < b; omega
  intro x3 σ σ0 h H locs hT ls hl
  unfold fLc_9 at h
  refine lv_aload_n hx hb dL_law_431 rfl (lv_at hl 1 rfl) ?_
  refine lv_aload_n hx hb dL_law_432 rfl (lv_at hl 0 rfl) ?_
  refine lv_iload_n hx hb dL_law_433 rfl (lv_at hl 3 rfl) ?_
  refine lv_iconst (v := 1) hx hb dL_law_434 (by decide) ?_
  refine lv_iadd hx hb dL_law_435 ?_
  obtain ⟨g1, h⟩ := gd_some _ h
  refine va_sld hx hb hX hbl hbA hT.2.1 (ib_in g1) dL_law_436 ?_
  obtain ⟨r2, σ2, hc2, h⟩ := bd_some h
  refine js_backI hT (js_runV C hT cfX11 js_o11 rfl mfX11_pairPosition lk_L_52 (kX11_pairPosition js_o11 hc2) ⟨Nat.le_of_ble_eq_true rfl, Nat.le_of_ble_eq_true rfl⟩ rfl hl.1 rfl (Nat.le_of_ble_eq_true rfl) ⟨Nat.le_of_ble_eq_true rfl, Nat.le_of_ble_eq_true rfl⟩ dL_law_437) (fun H locs hT => ?_)
  refine lv_aload_n hx hb dL_law_440 rfl (lv_at hl 2 rfl) ?_
  refine lv_aload_n hx hb dL_law_441 rfl (lv_at hl 0 rfl) ?_
  refine lv_iload_n hx hb dL_law_442 rfl (lv_at hl 3 rfl) ?_
  refine lv_iconst (v := 1) hx hb dL_law_443 (by decide) ?_
  refine lv_iadd hx hb dL_law_444 ?_
  obtain ⟨g3, h⟩ := gd_some _ h
  refine va_sld hx hb hX hbl hbA hT.2.1 (ib_in g3) dL_law_445 ?_
  obtain ⟨r4, σ4, hc4, h⟩ := bd_some h
  refine js_backI hT (js_runV C hT cfX12 js_o12 rfl mfX12_pairPosition lk_L_55 (kX12_pairPosition js_o12 hc4) ⟨Nat.le_of_ble_eq_true rfl, Nat.le_of_ble_eq_true rfl⟩ rfl hl.1 rfl (Nat.le_of_ble_eq_true rfl) ⟨Nat.le_of_ble_eq_true rfl, Nat.le_of_ble_eq_true rfl⟩ dL_law_446) (fun H locs hT => ?_)
  refine lv_icmp_eq (tgt := 1401) hx hb dL_law_449 (by decide) (fun c5 => ?_) (fun c5 => ?_)
  · rw [if_pos c5] at h
    exact wL_1401 C hargs hr hk hX hbl hB rc hrc x3 σ4 σ0 h H locs hT ls hl
  · rw [if_neg c5] at h
    exact absurd (js_rt h).1 (by decide)
set_option maxHeartbeats 4000000 in
set_option maxRecDepth 20000 in
theorem wLc_10 (C : js_C D g p m c cL_law 4 s args RL) (hargs : args = #[Value.ref b]) (hr : meth.sig.returnType = ret) (hk : meth.locks = false) (hX : va_X b L xs s s.heap) (hbl : b < s.heap.size) (hB : B + 1 = s.heap.size) (rc : Int32 → js_S → Option (Int32 × js_S)) (hrc : ∀ (x3 : Int32) (σ σ0 : js_S), rc x3 σ = some (1, σ0) → ∀ (H : Heap) (locs : List Loc), js_T D B g 419 σ s H locs → ∀ ls : Array Slot, lv_has ls 4 [(0, .ref b), (1, .ref (B + 1)), (2, .ref (B + 390)), (3, .int x3)] → W p l e room_1 s m args below meth c H locs 435 316929 (lw_Z below args s) (F0 m 18 ls [])) : ∀ (x3 : Int32) (σ σ0 : js_S), fLc_10 fu L xs rc x3 σ = some (1, σ0) → ∀ (H : Heap) (locs : List Loc), js_T D B g 419 σ s H locs → ∀ ls : Array Slot, lv_has ls 4 [(0, .ref b), (1, .ref (B + 1)), (2, .ref (B + 390)), (3, .int x3)] → W p l e room_1 s m args below meth c H locs 435 316929 (lw_Z below args s) (F0 m 454 ls []) := by
  obtain ⟨hx, hb, hml, hown, ht, hK, hNw⟩ := id C
  have hbA : ¬ (fun q => B < q) b := by show ¬ B < b; omega
  intro x3 σ σ0 h H locs hT ls hl
  unfold fLc_10 at h
  refine lv_aload_n hx hb dL_law_454 rfl (lv_at hl 1 rfl) ?_
  refine lv_aload_n hx hb dL_law_455 rfl (lv_at hl 0 rfl) ?_
  refine lv_iload_n hx hb dL_law_456 rfl (lv_at hl 3 rfl) ?_
  refine lv_iconst (v := 1) hx hb dL_law_457 (by decide) ?_
  refine lv_iadd hx hb dL_law_458 ?_
  obtain ⟨g1, h⟩ := gd_some _ h
  refine va_sld hx hb hX hbl hbA hT.2.1 (ib_in g1) dL_law_459 ?_
  obtain ⟨r2, σ2, hc2, h⟩ := bd_some h
  refine js_backI hT (js_runV C hT cfX11 js_o11 rfl mfX11_sourceFunction lk_L_56 (kX11_sourceFunction js_o11 hc2) ⟨Nat.le_of_ble_eq_true rfl, Nat.le_of_ble_eq_true rfl⟩ rfl hl.1 rfl (Nat.le_of_ble_eq_true rfl) ⟨Nat.le_of_ble_eq_true rfl, Nat.le_of_ble_eq_true rfl⟩ dL_law_460) (fun H locs hT => ?_)
  refine lv_aload_n hx hb dL_law_463 rfl (lv_at hl 2 rfl) ?_
  refine lv_aload_n hx hb dL_law_464 rfl (lv_at hl 0 rfl) ?_
  refine lv_iload_n hx hb dL_law_465 rfl (lv_at hl 3 rfl) ?_
  refine lv_iconst (v := 1) hx hb dL_law_466 (by decide) ?_
  refine lv_iadd hx hb dL_law_467 ?_
  obtain ⟨g3, h⟩ := gd_some _ h
  refine va_sld hx hb hX hbl hbA hT.2.1 (ib_in g3) dL_law_468 ?_
  obtain ⟨r4, σ4, hc4, h⟩ := bd_some h
  refine js_backI hT (js_runV C hT cfX12 js_o12 rfl mfX12_sourceFunction lk_L_59 (kX12_sourceFunction js_o12 hc4) ⟨Nat.le_of_ble_eq_true rfl, Nat.le_of_ble_eq_true rfl⟩ rfl hl.1 rfl (Nat.le_of_ble_eq_true rfl) ⟨Nat.le_of_ble_eq_true rfl, Nat.le_of_ble_eq_true rfl⟩ dL_law_469) (fun H locs hT => ?_)
  refine lv_icmp_eq (tgt := 1401) hx hb dL_law_472 (by decide) (fun c5 => ?_) (fun c5 => ?_)
  · rw [if_pos c5] at h
    exact wL_1401 C hargs hr hk hX hbl hB rc hrc x3 σ4 σ0 h H locs hT ls hl
  · rw [if_neg c5] at h
    exact absurd (js_rt h).1 (by decide)
set_option maxHeartbeats 4000000 in
set_option maxRecDepth 20000 in
theorem wLc_11 (C : js_C D g p m c cL_law 4 s args RL) (hargs : args = #[Value.ref b]) (hr : meth.sig.returnType = ret) (hk : meth.locks = false) (hX : va_X b L xs s s.heap) (hbl : b < s.heap.size) (hB : B + 1 = s.heap.size) (rc : Int32 → js_S → Option (Int32 × js_S)) (hrc : ∀ (x3 : Int32) (σ σ0 : js_S), rc x3 σ = some (1, σ0) → ∀ (H : Heap) (locs : List Loc), js_T D B g 419 σ s H locs → ∀ ls : Array Slot, lv_has ls 4 [(0, .ref b), (1, .ref (B + 1)), (2, .ref (B + 390)), (3, .int x3)] → W p l e room_1 s m args below meth c H locs 435 316929 (lw_Z below args s) (F0 m 18 ls [])) : ∀ (x3 : Int32) (σ σ0 : js_S), fLc_11 fu L xs rc x3 σ = some (1, σ0) → ∀ (H : Heap) (locs : List Loc), js_T D B g 419 σ s H locs → ∀ ls : Array Slot, lv_has ls 4 [(0, .ref b), (1, .ref (B + 1)), (2, .ref (B + 390)), (3, .int x3)] → W p l e room_1 s m args below meth c H locs 435 316929 (lw_Z below args s) (F0 m 477 ls []) := by
  obtain ⟨hx, hb, hml, hown, ht, hK, hNw⟩ := id C
  have hbA : ¬ (fun q => B < q) b := by show ¬ B < b; omega
  intro x3 σ σ0 h H locs hT ls hl
  unfold fLc_11 at h
  refine lv_aload_n hx hb dL_law_477 rfl (lv_at hl 1 rfl) ?_
  refine lv_aload_n hx hb dL_law_478 rfl (lv_at hl 0 rfl) ?_
  refine lv_iload_n hx hb dL_law_479 rfl (lv_at hl 3 rfl) ?_
  refine lv_iconst (v := 1) hx hb dL_law_480 (by decide) ?_
  refine lv_iadd hx hb dL_law_481 ?_
  obtain ⟨g1, h⟩ := gd_some _ h
  refine va_sld hx hb hX hbl hbA hT.2.1 (ib_in g1) dL_law_482 ?_
  obtain ⟨r2, σ2, hc2, h⟩ := bd_some h
  refine js_backI hT (js_runV C hT cfX11 js_o11 rfl mfX11_targetFunction lk_L_60 (kX11_targetFunction js_o11 hc2) ⟨Nat.le_of_ble_eq_true rfl, Nat.le_of_ble_eq_true rfl⟩ rfl hl.1 rfl (Nat.le_of_ble_eq_true rfl) ⟨Nat.le_of_ble_eq_true rfl, Nat.le_of_ble_eq_true rfl⟩ dL_law_483) (fun H locs hT => ?_)
  refine lv_aload_n hx hb dL_law_486 rfl (lv_at hl 2 rfl) ?_
  refine lv_aload_n hx hb dL_law_487 rfl (lv_at hl 0 rfl) ?_
  refine lv_iload_n hx hb dL_law_488 rfl (lv_at hl 3 rfl) ?_
  refine lv_iconst (v := 1) hx hb dL_law_489 (by decide) ?_
  refine lv_iadd hx hb dL_law_490 ?_
  obtain ⟨g3, h⟩ := gd_some _ h
  refine va_sld hx hb hX hbl hbA hT.2.1 (ib_in g3) dL_law_491 ?_
  obtain ⟨r4, σ4, hc4, h⟩ := bd_some h
  refine js_backI hT (js_runV C hT cfX12 js_o12 rfl mfX12_targetFunction lk_L_63 (kX12_targetFunction js_o12 hc4) ⟨Nat.le_of_ble_eq_true rfl, Nat.le_of_ble_eq_true rfl⟩ rfl hl.1 rfl (Nat.le_of_ble_eq_true rfl) ⟨Nat.le_of_ble_eq_true rfl, Nat.le_of_ble_eq_true rfl⟩ dL_law_492) (fun H locs hT => ?_)
  refine lv_icmp_eq (tgt := 1401) hx hb dL_law_495 (by decide) (fun c5 => ?_) (fun c5 => ?_)
  · rw [if_pos c5] at h
    exact wL_1401 C hargs hr hk hX hbl hB rc hrc x3 σ4 σ0 h H locs hT ls hl
  · rw [if_neg c5] at h
    exact absurd (js_rt h).1 (by decide)
set_option maxHeartbeats 4000000 in
set_option maxRecDepth 20000 in
theorem wLc_12 (C : js_C D g p m c cL_law 4 s args RL) (hargs : args = #[Value.ref b]) (hr : meth.sig.returnType = ret) (hk : meth.locks = false) (hX : va_X b L xs s s.heap) (hbl : b < s.heap.size) (hB : B + 1 = s.heap.size) (rc : Int32 → js_S → Option (Int32 × js_S)) (hrc : ∀ (x3 : Int32) (σ σ0 : js_S), rc x3 σ = some (1, σ0) → ∀ (H : Heap) (locs : List Loc), js_T D B g 419 σ s H locs → ∀ ls : Array Slot, lv_has ls 4 [(0, .ref b), (1, .ref (B + 1)), (2, .ref (B + 390)), (3, .int x3)] → W p l e room_1 s m args below meth c H locs 435 316929 (lw_Z below args s) (F0 m 18 ls [])) : ∀ (x3 : Int32) (σ σ0 : js_S), fLc_12 fu L xs rc x3 σ = some (1, σ0) → ∀ (H : Heap) (locs : List Loc), js_T D B g 419 σ s H locs → ∀ ls : Array Slot, lv_has ls 4 [(0, .ref b), (1, .ref (B + 1)), (2, .ref (B + 390)), (3, .int x3)] → W p l e room_1 s m args below meth c H locs 435 316929 (lw_Z below args s) (F0 m 500 ls []) := by
  obtain ⟨hx, hb, hml, hown, ht, hK, hNw⟩ := id C
  have hbA : ¬ (fun q => B < q) b := by show ¬ B < b; omega
  intro x3 σ σ0 h H locs hT ls hl
  unfold fLc_12 at h
  refine lv_aload_n hx hb dL_law_500 rfl (lv_at hl 1 rfl) ?_
  refine lv_aload_n hx hb dL_law_501 rfl (lv_at hl 0 rfl) ?_
  refine lv_iload_n hx hb dL_law_502 rfl (lv_at hl 3 rfl) ?_
  refine lv_iconst (v := 1) hx hb dL_law_503 (by decide) ?_
  refine lv_iadd hx hb dL_law_504 ?_
  obtain ⟨g1, h⟩ := gd_some _ h
  refine va_sld hx hb hX hbl hbA hT.2.1 (ib_in g1) dL_law_505 ?_
  refine lv_aload_n hx hb dL_law_506 rfl (lv_at hl 0 rfl) ?_
  refine lv_iload_n hx hb dL_law_507 rfl (lv_at hl 3 rfl) ?_
  refine lv_iconst (v := 2) hx hb dL_law_508 (by decide) ?_
  refine lv_iadd hx hb dL_law_509 ?_
  obtain ⟨g2, h⟩ := gd_some _ h
  refine va_sld hx hb hX hbl hbA hT.2.1 (ib_in g2) dL_law_510 ?_
  obtain ⟨r3, σ3, hc3, h⟩ := bd_some h
  refine js_backI hT (js_runV C hT cfX11 js_o11 rfl mfX11_hasEdge lk_L_64 (kX11_hasEdge js_o11 hc3) ⟨Nat.le_of_ble_eq_true rfl, Nat.le_of_ble_eq_true rfl⟩ rfl hl.1 rfl (Nat.le_of_ble_eq_true rfl) ⟨Nat.le_of_ble_eq_true rfl, Nat.le_of_ble_eq_true rfl⟩ dL_law_511) (fun H locs hT => ?_)
  refine lv_aload_n hx hb dL_law_514 rfl (lv_at hl 2 rfl) ?_
  refine lv_aload_n hx hb dL_law_515 rfl (lv_at hl 0 rfl) ?_
  refine lv_iload_n hx hb dL_law_516 rfl (lv_at hl 3 rfl) ?_
  refine lv_iconst (v := 1) hx hb dL_law_517 (by decide) ?_
  refine lv_iadd hx hb dL_law_518 ?_
  obtain ⟨g4, h⟩ := gd_some _ h
  refine va_sld hx hb hX hbl hbA hT.2.1 (ib_in g4) dL_law_519 ?_
  refine lv_aload_n hx hb dL_law_520 rfl (lv_at hl 0 rfl) ?_
  refine lv_iload_n hx hb dL_law_521 rfl (lv_at hl 3 rfl) ?_
  refine lv_iconst (v := 2) hx hb dL_law_522 (by decide) ?_
  refine lv_iadd hx hb dL_law_523 ?_
  obtain ⟨g5, h⟩ := gd_some _ h
  refine va_sld hx hb hX hbl hbA hT.2.1 (ib_in g5) dL_law_524 ?_
  obtain ⟨r6, σ6, hc6, h⟩ := bd_some h
  refine js_backI hT (js_runV C hT cfX12 js_o12 rfl mfX12_hasEdge lk_L_67 (kX12_hasEdge js_o12 hc6) ⟨Nat.le_of_ble_eq_true rfl, Nat.le_of_ble_eq_true rfl⟩ rfl hl.1 rfl (Nat.le_of_ble_eq_true rfl) ⟨Nat.le_of_ble_eq_true rfl, Nat.le_of_ble_eq_true rfl⟩ dL_law_525) (fun H locs hT => ?_)
  refine lv_icmp_eq (tgt := 1401) hx hb dL_law_528 (by decide) (fun c7 => ?_) (fun c7 => ?_)
  · rw [if_pos c7] at h
    exact wL_1401 C hargs hr hk hX hbl hB rc hrc x3 σ6 σ0 h H locs hT ls hl
  · rw [if_neg c7] at h
    exact absurd (js_rt h).1 (by decide)
set_option maxHeartbeats 4000000 in
set_option maxRecDepth 20000 in
theorem wLc_13 (C : js_C D g p m c cL_law 4 s args RL) (hargs : args = #[Value.ref b]) (hr : meth.sig.returnType = ret) (hk : meth.locks = false) (hX : va_X b L xs s s.heap) (hbl : b < s.heap.size) (hB : B + 1 = s.heap.size) (rc : Int32 → js_S → Option (Int32 × js_S)) (hrc : ∀ (x3 : Int32) (σ σ0 : js_S), rc x3 σ = some (1, σ0) → ∀ (H : Heap) (locs : List Loc), js_T D B g 419 σ s H locs → ∀ ls : Array Slot, lv_has ls 4 [(0, .ref b), (1, .ref (B + 1)), (2, .ref (B + 390)), (3, .int x3)] → W p l e room_1 s m args below meth c H locs 435 316929 (lw_Z below args s) (F0 m 18 ls [])) : ∀ (x3 : Int32) (σ σ0 : js_S), fLc_13 fu L xs rc x3 σ = some (1, σ0) → ∀ (H : Heap) (locs : List Loc), js_T D B g 419 σ s H locs → ∀ ls : Array Slot, lv_has ls 4 [(0, .ref b), (1, .ref (B + 1)), (2, .ref (B + 390)), (3, .int x3)] → W p l e room_1 s m args below meth c H locs 435 316929 (lw_Z below args s) (F0 m 533 ls []) := by
  obtain ⟨hx, hb, hml, hown, ht, hK, hNw⟩ := id C
  have hbA : ¬ (fun q => B < q) b := by show ¬ B < b; omega
  intro x3 σ σ0 h H locs hT ls hl
  unfold fLc_13 at h
  refine lv_aload_n hx hb dL_law_533 rfl (lv_at hl 1 rfl) ?_
  obtain ⟨r1, σ1, hc1, h⟩ := bd_some h
  refine js_backI hT (js_runV C hT cfX11 js_o11 rfl mfX11_edgeCount lk_L_68 (kX11_edgeCount js_o11 hc1) ⟨Nat.le_of_ble_eq_true rfl, Nat.le_of_ble_eq_true rfl⟩ rfl hl.1 rfl (Nat.le_of_ble_eq_true rfl) ⟨Nat.le_of_ble_eq_true rfl, Nat.le_of_ble_eq_true rfl⟩ dL_law_534) (fun H locs hT => ?_)
  refine lv_aload_n hx hb dL_law_537 rfl (lv_at hl 2 rfl) ?_
  obtain ⟨r2, σ2, hc2, h⟩ := bd_some h
  refine js_backI hT (js_runV C hT cfX12 js_o12 rfl mfX12_edgeCount lk_L_71 (kX12_edgeCount js_o12 hc2) ⟨Nat.le_of_ble_eq_true rfl, Nat.le_of_ble_eq_true rfl⟩ rfl hl.1 rfl (Nat.le_of_ble_eq_true rfl) ⟨Nat.le_of_ble_eq_true rfl, Nat.le_of_ble_eq_true rfl⟩ dL_law_538) (fun H locs hT => ?_)
  refine lv_icmp_eq (tgt := 1401) hx hb dL_law_541 (by decide) (fun c3 => ?_) (fun c3 => ?_)
  · rw [if_pos c3] at h
    exact wL_1401 C hargs hr hk hX hbl hB rc hrc x3 σ2 σ0 h H locs hT ls hl
  · rw [if_neg c3] at h
    exact absurd (js_rt h).1 (by decide)
set_option maxHeartbeats 4000000 in
set_option maxRecDepth 20000 in
theorem wLc_14 (C : js_C D g p m c cL_law 4 s args RL) (hargs : args = #[Value.ref b]) (hr : meth.sig.returnType = ret) (hk : meth.locks = false) (hX : va_X b L xs s s.heap) (hbl : b < s.heap.size) (hB : B + 1 = s.heap.size) (rc : Int32 → js_S → Option (Int32 × js_S)) (hrc : ∀ (x3 : Int32) (σ σ0 : js_S), rc x3 σ = some (1, σ0) → ∀ (H : Heap) (locs : List Loc), js_T D B g 419 σ s H locs → ∀ ls : Array Slot, lv_has ls 4 [(0, .ref b), (1, .ref (B + 1)), (2, .ref (B + 390)), (3, .int x3)] → W p l e room_1 s m args below meth c H locs 435 316929 (lw_Z below args s) (F0 m 18 ls [])) : ∀ (x3 : Int32) (σ σ0 : js_S), fLc_14 fu L xs rc x3 σ = some (1, σ0) → ∀ (H : Heap) (locs : List Loc), js_T D B g 419 σ s H locs → ∀ ls : Array Slot, lv_has ls 4 [(0, .ref b), (1, .ref (B + 1)), (2, .ref (B + 390)), (3, .int x3)] → W p l e room_1 s m args below meth c H locs 435 316929 (lw_Z below args s) (F0 m 546 ls []) := by
  obtain ⟨hx, hb, hml, hown, ht, hK, hNw⟩ := id C
  have hbA : ¬ (fun q => B < q) b := by show ¬ B < b; omega
  intro x3 σ σ0 h H locs hT ls hl
  unfold fLc_14 at h
  refine lv_aload_n hx hb dL_law_546 rfl (lv_at hl 1 rfl) ?_
  obtain ⟨r1, σ1, hc1, h⟩ := bd_some h
  refine js_backI hT (js_runV C hT cfX11 js_o11 rfl mfX11_componentCount lk_L_72 (kX11_componentCount js_o11 hc1) ⟨Nat.le_of_ble_eq_true rfl, Nat.le_of_ble_eq_true rfl⟩ rfl hl.1 rfl (Nat.le_of_ble_eq_true rfl) ⟨Nat.le_of_ble_eq_true rfl, Nat.le_of_ble_eq_true rfl⟩ dL_law_547) (fun H locs hT => ?_)
  refine lv_aload_n hx hb dL_law_550 rfl (lv_at hl 2 rfl) ?_
  obtain ⟨r2, σ2, hc2, h⟩ := bd_some h
  refine js_backI hT (js_runV C hT cfX12 js_o12 rfl mfX12_componentCount lk_L_75 (kX12_componentCount js_o12 hc2) ⟨Nat.le_of_ble_eq_true rfl, Nat.le_of_ble_eq_true rfl⟩ rfl hl.1 rfl (Nat.le_of_ble_eq_true rfl) ⟨Nat.le_of_ble_eq_true rfl, Nat.le_of_ble_eq_true rfl⟩ dL_law_551) (fun H locs hT => ?_)
  refine lv_icmp_eq (tgt := 1401) hx hb dL_law_554 (by decide) (fun c3 => ?_) (fun c3 => ?_)
  · rw [if_pos c3] at h
    exact wL_1401 C hargs hr hk hX hbl hB rc hrc x3 σ2 σ0 h H locs hT ls hl
  · rw [if_neg c3] at h
    exact absurd (js_rt h).1 (by decide)
set_option maxHeartbeats 4000000 in
set_option maxRecDepth 20000 in
theorem wLc_15 (C : js_C D g p m c cL_law 4 s args RL) (hargs : args = #[Value.ref b]) (hr : meth.sig.returnType = ret) (hk : meth.locks = false) (hX : va_X b L xs s s.heap) (hbl : b < s.heap.size) (hB : B + 1 = s.heap.size) (rc : Int32 → js_S → Option (Int32 × js_S)) (hrc : ∀ (x3 : Int32) (σ σ0 : js_S), rc x3 σ = some (1, σ0) → ∀ (H : Heap) (locs : List Loc), js_T D B g 419 σ s H locs → ∀ ls : Array Slot, lv_has ls 4 [(0, .ref b), (1, .ref (B + 1)), (2, .ref (B + 390)), (3, .int x3)] → W p l e room_1 s m args below meth c H locs 435 316929 (lw_Z below args s) (F0 m 18 ls [])) : ∀ (x3 : Int32) (σ σ0 : js_S), fLc_15 fu L xs rc x3 σ = some (1, σ0) → ∀ (H : Heap) (locs : List Loc), js_T D B g 419 σ s H locs → ∀ ls : Array Slot, lv_has ls 4 [(0, .ref b), (1, .ref (B + 1)), (2, .ref (B + 390)), (3, .int x3)] → W p l e room_1 s m args below meth c H locs 435 316929 (lw_Z below args s) (F0 m 559 ls []) := by
  obtain ⟨hx, hb, hml, hown, ht, hK, hNw⟩ := id C
  have hbA : ¬ (fun q => B < q) b := by show ¬ B < b; omega
  intro x3 σ σ0 h H locs hT ls hl
  unfold fLc_15 at h
  refine lv_aload_n hx hb dL_law_559 rfl (lv_at hl 1 rfl) ?_
  refine lv_aload_n hx hb dL_law_560 rfl (lv_at hl 0 rfl) ?_
  refine lv_iload_n hx hb dL_law_561 rfl (lv_at hl 3 rfl) ?_
  refine lv_iconst (v := 1) hx hb dL_law_562 (by decide) ?_
  refine lv_iadd hx hb dL_law_563 ?_
  obtain ⟨g1, h⟩ := gd_some _ h
  refine va_sld hx hb hX hbl hbA hT.2.1 (ib_in g1) dL_law_564 ?_
  obtain ⟨r2, σ2, hc2, h⟩ := bd_some h
  refine js_backI hT (js_runV C hT cfX11 js_o11 rfl mfX11_componentOf lk_L_76 (kX11_componentOf js_o11 hc2) ⟨Nat.le_of_ble_eq_true rfl, Nat.le_of_ble_eq_true rfl⟩ rfl hl.1 rfl (Nat.le_of_ble_eq_true rfl) ⟨Nat.le_of_ble_eq_true rfl, Nat.le_of_ble_eq_true rfl⟩ dL_law_565) (fun H locs hT => ?_)
  refine lv_aload_n hx hb dL_law_568 rfl (lv_at hl 2 rfl) ?_
  refine lv_aload_n hx hb dL_law_569 rfl (lv_at hl 0 rfl) ?_
  refine lv_iload_n hx hb dL_law_570 rfl (lv_at hl 3 rfl) ?_
  refine lv_iconst (v := 1) hx hb dL_law_571 (by decide) ?_
  refine lv_iadd hx hb dL_law_572 ?_
  obtain ⟨g3, h⟩ := gd_some _ h
  refine va_sld hx hb hX hbl hbA hT.2.1 (ib_in g3) dL_law_573 ?_
  obtain ⟨r4, σ4, hc4, h⟩ := bd_some h
  refine js_backI hT (js_runV C hT cfX12 js_o12 rfl mfX12_componentOf lk_L_79 (kX12_componentOf js_o12 hc4) ⟨Nat.le_of_ble_eq_true rfl, Nat.le_of_ble_eq_true rfl⟩ rfl hl.1 rfl (Nat.le_of_ble_eq_true rfl) ⟨Nat.le_of_ble_eq_true rfl, Nat.le_of_ble_eq_true rfl⟩ dL_law_574) (fun H locs hT => ?_)
  refine lv_icmp_eq (tgt := 1401) hx hb dL_law_577 (by decide) (fun c5 => ?_) (fun c5 => ?_)
  · rw [if_pos c5] at h
    exact wL_1401 C hargs hr hk hX hbl hB rc hrc x3 σ4 σ0 h H locs hT ls hl
  · rw [if_neg c5] at h
    exact absurd (js_rt h).1 (by decide)
set_option maxHeartbeats 4000000 in
set_option maxRecDepth 20000 in
theorem wLc_16 (C : js_C D g p m c cL_law 4 s args RL) (hargs : args = #[Value.ref b]) (hr : meth.sig.returnType = ret) (hk : meth.locks = false) (hX : va_X b L xs s s.heap) (hbl : b < s.heap.size) (hB : B + 1 = s.heap.size) (rc : Int32 → js_S → Option (Int32 × js_S)) (hrc : ∀ (x3 : Int32) (σ σ0 : js_S), rc x3 σ = some (1, σ0) → ∀ (H : Heap) (locs : List Loc), js_T D B g 419 σ s H locs → ∀ ls : Array Slot, lv_has ls 4 [(0, .ref b), (1, .ref (B + 1)), (2, .ref (B + 390)), (3, .int x3)] → W p l e room_1 s m args below meth c H locs 435 316929 (lw_Z below args s) (F0 m 18 ls [])) : ∀ (x3 : Int32) (σ σ0 : js_S), fLc_16 fu L xs rc x3 σ = some (1, σ0) → ∀ (H : Heap) (locs : List Loc), js_T D B g 419 σ s H locs → ∀ ls : Array Slot, lv_has ls 4 [(0, .ref b), (1, .ref (B + 1)), (2, .ref (B + 390)), (3, .int x3)] → W p l e room_1 s m args below meth c H locs 435 316929 (lw_Z below args s) (F0 m 582 ls []) := by
  obtain ⟨hx, hb, hml, hown, ht, hK, hNw⟩ := id C
  have hbA : ¬ (fun q => B < q) b := by show ¬ B < b; omega
  intro x3 σ σ0 h H locs hT ls hl
  unfold fLc_16 at h
  refine lv_aload_n hx hb dL_law_582 rfl (lv_at hl 1 rfl) ?_
  refine lv_aload_n hx hb dL_law_583 rfl (lv_at hl 0 rfl) ?_
  refine lv_iload_n hx hb dL_law_584 rfl (lv_at hl 3 rfl) ?_
  refine lv_iconst (v := 1) hx hb dL_law_585 (by decide) ?_
  refine lv_iadd hx hb dL_law_586 ?_
  obtain ⟨g1, h⟩ := gd_some _ h
  refine va_sld hx hb hX hbl hbA hT.2.1 (ib_in g1) dL_law_587 ?_
  refine lv_aload_n hx hb dL_law_588 rfl (lv_at hl 0 rfl) ?_
  refine lv_iload_n hx hb dL_law_589 rfl (lv_at hl 3 rfl) ?_
  refine lv_iconst (v := 2) hx hb dL_law_590 (by decide) ?_
  refine lv_iadd hx hb dL_law_591 ?_
  obtain ⟨g2, h⟩ := gd_some _ h
  refine va_sld hx hb hX hbl hbA hT.2.1 (ib_in g2) dL_law_592 ?_
  refine lv_aload_n hx hb dL_law_593 rfl (lv_at hl 0 rfl) ?_
  refine lv_iload_n hx hb dL_law_594 rfl (lv_at hl 3 rfl) ?_
  refine lv_iconst (v := 3) hx hb dL_law_595 (by decide) ?_
  refine lv_iadd hx hb dL_law_596 ?_
  obtain ⟨g3, h⟩ := gd_some _ h
  refine va_sld hx hb hX hbl hbA hT.2.1 (ib_in g3) dL_law_597 ?_
  obtain ⟨r4, σ4, hc4, h⟩ := bd_some h
  refine js_backI hT (js_runV C hT cfX11 js_o11 rfl mfX11_sizeRelation lk_L_80 (kX11_sizeRelation js_o11 hc4) ⟨Nat.le_of_ble_eq_true rfl, Nat.le_of_ble_eq_true rfl⟩ rfl hl.1 rfl (Nat.le_of_ble_eq_true rfl) ⟨Nat.le_of_ble_eq_true rfl, Nat.le_of_ble_eq_true rfl⟩ dL_law_598) (fun H locs hT => ?_)
  refine lv_aload_n hx hb dL_law_601 rfl (lv_at hl 2 rfl) ?_
  refine lv_aload_n hx hb dL_law_602 rfl (lv_at hl 0 rfl) ?_
  refine lv_iload_n hx hb dL_law_603 rfl (lv_at hl 3 rfl) ?_
  refine lv_iconst (v := 1) hx hb dL_law_604 (by decide) ?_
  refine lv_iadd hx hb dL_law_605 ?_
  obtain ⟨g5, h⟩ := gd_some _ h
  refine va_sld hx hb hX hbl hbA hT.2.1 (ib_in g5) dL_law_606 ?_
  refine lv_aload_n hx hb dL_law_607 rfl (lv_at hl 0 rfl) ?_
  refine lv_iload_n hx hb dL_law_608 rfl (lv_at hl 3 rfl) ?_
  refine lv_iconst (v := 2) hx hb dL_law_609 (by decide) ?_
  refine lv_iadd hx hb dL_law_610 ?_
  obtain ⟨g6, h⟩ := gd_some _ h
  refine va_sld hx hb hX hbl hbA hT.2.1 (ib_in g6) dL_law_611 ?_
  refine lv_aload_n hx hb dL_law_612 rfl (lv_at hl 0 rfl) ?_
  refine lv_iload_n hx hb dL_law_613 rfl (lv_at hl 3 rfl) ?_
  refine lv_iconst (v := 3) hx hb dL_law_614 (by decide) ?_
  refine lv_iadd hx hb dL_law_615 ?_
  obtain ⟨g7, h⟩ := gd_some _ h
  refine va_sld hx hb hX hbl hbA hT.2.1 (ib_in g7) dL_law_616 ?_
  obtain ⟨r8, σ8, hc8, h⟩ := bd_some h
  refine js_backI hT (js_runV C hT cfX12 js_o12 rfl mfX12_sizeRelation lk_L_84 (kX12_sizeRelation js_o12 hc8) ⟨Nat.le_of_ble_eq_true rfl, Nat.le_of_ble_eq_true rfl⟩ rfl hl.1 rfl (Nat.le_of_ble_eq_true rfl) ⟨Nat.le_of_ble_eq_true rfl, Nat.le_of_ble_eq_true rfl⟩ dL_law_617) (fun H locs hT => ?_)
  refine lv_icmp_eq (tgt := 1401) hx hb dL_law_620 (by decide) (fun c9 => ?_) (fun c9 => ?_)
  · rw [if_pos c9] at h
    exact wL_1401 C hargs hr hk hX hbl hB rc hrc x3 σ8 σ0 h H locs hT ls hl
  · rw [if_neg c9] at h
    exact absurd (js_rt h).1 (by decide)
set_option maxHeartbeats 4000000 in
set_option maxRecDepth 20000 in
theorem wLc_17 (C : js_C D g p m c cL_law 4 s args RL) (hargs : args = #[Value.ref b]) (hr : meth.sig.returnType = ret) (hk : meth.locks = false) (hX : va_X b L xs s s.heap) (hbl : b < s.heap.size) (hB : B + 1 = s.heap.size) (rc : Int32 → js_S → Option (Int32 × js_S)) (hrc : ∀ (x3 : Int32) (σ σ0 : js_S), rc x3 σ = some (1, σ0) → ∀ (H : Heap) (locs : List Loc), js_T D B g 419 σ s H locs → ∀ ls : Array Slot, lv_has ls 4 [(0, .ref b), (1, .ref (B + 1)), (2, .ref (B + 390)), (3, .int x3)] → W p l e room_1 s m args below meth c H locs 435 316929 (lw_Z below args s) (F0 m 18 ls [])) : ∀ (x3 : Int32) (σ σ0 : js_S), fLc_17 fu L xs rc x3 σ = some (1, σ0) → ∀ (H : Heap) (locs : List Loc), js_T D B g 419 σ s H locs → ∀ ls : Array Slot, lv_has ls 4 [(0, .ref b), (1, .ref (B + 1)), (2, .ref (B + 390)), (3, .int x3)] → W p l e room_1 s m args below meth c H locs 435 316929 (lw_Z below args s) (F0 m 625 ls []) := by
  obtain ⟨hx, hb, hml, hown, ht, hK, hNw⟩ := id C
  have hbA : ¬ (fun q => B < q) b := by show ¬ B < b; omega
  intro x3 σ σ0 h H locs hT ls hl
  unfold fLc_17 at h
  refine lv_aload_n hx hb dL_law_625 rfl (lv_at hl 1 rfl) ?_
  obtain ⟨r1, σ1, hc1, h⟩ := bd_some h
  refine js_backI hT (js_runV C hT cfX11 js_o11 rfl mfX11_closureSize lk_L_85 (kX11_closureSize js_o11 hc1) ⟨Nat.le_of_ble_eq_true rfl, Nat.le_of_ble_eq_true rfl⟩ rfl hl.1 rfl (Nat.le_of_ble_eq_true rfl) ⟨Nat.le_of_ble_eq_true rfl, Nat.le_of_ble_eq_true rfl⟩ dL_law_626) (fun H locs hT => ?_)
  refine lv_aload_n hx hb dL_law_629 rfl (lv_at hl 2 rfl) ?_
  obtain ⟨r2, σ2, hc2, h⟩ := bd_some h
  refine js_backI hT (js_runV C hT cfX12 js_o12 rfl mfX12_closureSize lk_L_88 (kX12_closureSize js_o12 hc2) ⟨Nat.le_of_ble_eq_true rfl, Nat.le_of_ble_eq_true rfl⟩ rfl hl.1 rfl (Nat.le_of_ble_eq_true rfl) ⟨Nat.le_of_ble_eq_true rfl, Nat.le_of_ble_eq_true rfl⟩ dL_law_630) (fun H locs hT => ?_)
  refine lv_icmp_eq (tgt := 1401) hx hb dL_law_633 (by decide) (fun c3 => ?_) (fun c3 => ?_)
  · rw [if_pos c3] at h
    exact wL_1401 C hargs hr hk hX hbl hB rc hrc x3 σ2 σ0 h H locs hT ls hl
  · rw [if_neg c3] at h
    exact absurd (js_rt h).1 (by decide)
set_option maxHeartbeats 4000000 in
set_option maxRecDepth 20000 in
theorem wLc_18 (C : js_C D g p m c cL_law 4 s args RL) (hargs : args = #[Value.ref b]) (hr : meth.sig.returnType = ret) (hk : meth.locks = false) (hX : va_X b L xs s s.heap) (hbl : b < s.heap.size) (hB : B + 1 = s.heap.size) (rc : Int32 → js_S → Option (Int32 × js_S)) (hrc : ∀ (x3 : Int32) (σ σ0 : js_S), rc x3 σ = some (1, σ0) → ∀ (H : Heap) (locs : List Loc), js_T D B g 419 σ s H locs → ∀ ls : Array Slot, lv_has ls 4 [(0, .ref b), (1, .ref (B + 1)), (2, .ref (B + 390)), (3, .int x3)] → W p l e room_1 s m args below meth c H locs 435 316929 (lw_Z below args s) (F0 m 18 ls [])) : ∀ (x3 : Int32) (σ σ0 : js_S), fLc_18 fu L xs rc x3 σ = some (1, σ0) → ∀ (H : Heap) (locs : List Loc), js_T D B g 419 σ s H locs → ∀ ls : Array Slot, lv_has ls 4 [(0, .ref b), (1, .ref (B + 1)), (2, .ref (B + 390)), (3, .int x3)] → W p l e room_1 s m args below meth c H locs 435 316929 (lw_Z below args s) (F0 m 638 ls []) := by
  obtain ⟨hx, hb, hml, hown, ht, hK, hNw⟩ := id C
  have hbA : ¬ (fun q => B < q) b := by show ¬ B < b; omega
  intro x3 σ σ0 h H locs hT ls hl
  unfold fLc_18 at h
  refine lv_aload_n hx hb dL_law_638 rfl (lv_at hl 1 rfl) ?_
  obtain ⟨r1, σ1, hc1, h⟩ := bd_some h
  refine js_backI hT (js_runV C hT cfX11 js_o11 rfl mfX11_idempotentCount lk_L_89 (kX11_idempotentCount js_o11 hc1) ⟨Nat.le_of_ble_eq_true rfl, Nat.le_of_ble_eq_true rfl⟩ rfl hl.1 rfl (Nat.le_of_ble_eq_true rfl) ⟨Nat.le_of_ble_eq_true rfl, Nat.le_of_ble_eq_true rfl⟩ dL_law_639) (fun H locs hT => ?_)
  refine lv_aload_n hx hb dL_law_642 rfl (lv_at hl 2 rfl) ?_
  obtain ⟨r2, σ2, hc2, h⟩ := bd_some h
  refine js_backI hT (js_runV C hT cfX12 js_o12 rfl mfX12_idempotentCount lk_L_92 (kX12_idempotentCount js_o12 hc2) ⟨Nat.le_of_ble_eq_true rfl, Nat.le_of_ble_eq_true rfl⟩ rfl hl.1 rfl (Nat.le_of_ble_eq_true rfl) ⟨Nat.le_of_ble_eq_true rfl, Nat.le_of_ble_eq_true rfl⟩ dL_law_643) (fun H locs hT => ?_)
  refine lv_icmp_eq (tgt := 1401) hx hb dL_law_646 (by decide) (fun c3 => ?_) (fun c3 => ?_)
  · rw [if_pos c3] at h
    exact wL_1401 C hargs hr hk hX hbl hB rc hrc x3 σ2 σ0 h H locs hT ls hl
  · rw [if_neg c3] at h
    exact absurd (js_rt h).1 (by decide)
set_option maxHeartbeats 4000000 in
set_option maxRecDepth 20000 in
theorem wLc_19 (C : js_C D g p m c cL_law 4 s args RL) (hargs : args = #[Value.ref b]) (hr : meth.sig.returnType = ret) (hk : meth.locks = false) (hX : va_X b L xs s s.heap) (hbl : b < s.heap.size) (hB : B + 1 = s.heap.size) (rc : Int32 → js_S → Option (Int32 × js_S)) (hrc : ∀ (x3 : Int32) (σ σ0 : js_S), rc x3 σ = some (1, σ0) → ∀ (H : Heap) (locs : List Loc), js_T D B g 419 σ s H locs → ∀ ls : Array Slot, lv_has ls 4 [(0, .ref b), (1, .ref (B + 1)), (2, .ref (B + 390)), (3, .int x3)] → W p l e room_1 s m args below meth c H locs 435 316929 (lw_Z below args s) (F0 m 18 ls [])) : ∀ (x3 : Int32) (σ σ0 : js_S), fLc_19 fu L xs rc x3 σ = some (1, σ0) → ∀ (H : Heap) (locs : List Loc), js_T D B g 419 σ s H locs → ∀ ls : Array Slot, lv_has ls 4 [(0, .ref b), (1, .ref (B + 1)), (2, .ref (B + 390)), (3, .int x3)] → W p l e room_1 s m args below meth c H locs 435 316929 (lw_Z below args s) (F0 m 651 ls []) := by
  obtain ⟨hx, hb, hml, hown, ht, hK, hNw⟩ := id C
  have hbA : ¬ (fun q => B < q) b := by show ¬ B < b; omega
  intro x3 σ σ0 h H locs hT ls hl
  unfold fLc_19 at h
  refine lv_aload_n hx hb dL_law_651 rfl (lv_at hl 1 rfl) ?_
  obtain ⟨r1, σ1, hc1, h⟩ := bd_some h
  refine js_backI hT (js_runV C hT cfX11 js_o11 rfl mfX11_terminatesBySizeChange lk_L_93 (kX11_terminatesBySizeChange js_o11 hc1) ⟨Nat.le_of_ble_eq_true rfl, Nat.le_of_ble_eq_true rfl⟩ rfl hl.1 rfl (Nat.le_of_ble_eq_true rfl) ⟨Nat.le_of_ble_eq_true rfl, Nat.le_of_ble_eq_true rfl⟩ dL_law_652) (fun H locs hT => ?_)
  refine lv_aload_n hx hb dL_law_655 rfl (lv_at hl 2 rfl) ?_
  obtain ⟨r2, σ2, hc2, h⟩ := bd_some h
  refine js_backI hT (js_runV C hT cfX12 js_o12 rfl mfX12_terminatesBySizeChange lk_L_96 (kX12_terminatesBySizeChange js_o12 hc2) ⟨Nat.le_of_ble_eq_true rfl, Nat.le_of_ble_eq_true rfl⟩ rfl hl.1 rfl (Nat.le_of_ble_eq_true rfl) ⟨Nat.le_of_ble_eq_true rfl, Nat.le_of_ble_eq_true rfl⟩ dL_law_656) (fun H locs hT => ?_)
  refine lv_icmp_eq (tgt := 1401) hx hb dL_law_659 (by decide) (fun c3 => ?_) (fun c3 => ?_)
  · rw [if_pos c3] at h
    exact wL_1401 C hargs hr hk hX hbl hB rc hrc x3 σ2 σ0 h H locs hT ls hl
  · rw [if_neg c3] at h
    exact absurd (js_rt h).1 (by decide)
set_option maxHeartbeats 4000000 in
set_option maxRecDepth 20000 in
theorem wLc_20 (C : js_C D g p m c cL_law 4 s args RL) (hargs : args = #[Value.ref b]) (hr : meth.sig.returnType = ret) (hk : meth.locks = false) (hX : va_X b L xs s s.heap) (hbl : b < s.heap.size) (hB : B + 1 = s.heap.size) (rc : Int32 → js_S → Option (Int32 × js_S)) (hrc : ∀ (x3 : Int32) (σ σ0 : js_S), rc x3 σ = some (1, σ0) → ∀ (H : Heap) (locs : List Loc), js_T D B g 419 σ s H locs → ∀ ls : Array Slot, lv_has ls 4 [(0, .ref b), (1, .ref (B + 1)), (2, .ref (B + 390)), (3, .int x3)] → W p l e room_1 s m args below meth c H locs 435 316929 (lw_Z below args s) (F0 m 18 ls [])) : ∀ (x3 : Int32) (σ σ0 : js_S), fLc_20 fu L xs rc x3 σ = some (1, σ0) → ∀ (H : Heap) (locs : List Loc), js_T D B g 419 σ s H locs → ∀ ls : Array Slot, lv_has ls 4 [(0, .ref b), (1, .ref (B + 1)), (2, .ref (B + 390)), (3, .int x3)] → W p l e room_1 s m args below meth c H locs 435 316929 (lw_Z below args s) (F0 m 664 ls []) := by
  obtain ⟨hx, hb, hml, hown, ht, hK, hNw⟩ := id C
  have hbA : ¬ (fun q => B < q) b := by show ¬ B < b; omega
  intro x3 σ σ0 h H locs hT ls hl
  unfold fLc_20 at h
  refine lv_aload_n hx hb dL_law_664 rfl (lv_at hl 1 rfl) ?_
  refine lv_aload_n hx hb dL_law_665 rfl (lv_at hl 0 rfl) ?_
  refine lv_iload_n hx hb dL_law_666 rfl (lv_at hl 3 rfl) ?_
  refine lv_iconst (v := 1) hx hb dL_law_667 (by decide) ?_
  refine lv_iadd hx hb dL_law_668 ?_
  obtain ⟨g1, h⟩ := gd_some _ h
  refine va_sld hx hb hX hbl hbA hT.2.1 (ib_in g1) dL_law_669 ?_
  obtain ⟨r2, σ2, hc2, h⟩ := bd_some h
  refine js_backI hT (js_runV C hT cfX11 js_o11 rfl mfX11_projection lk_L_97 (kX11_projection js_o11 hc2) ⟨Nat.le_of_ble_eq_true rfl, Nat.le_of_ble_eq_true rfl⟩ rfl hl.1 rfl (Nat.le_of_ble_eq_true rfl) ⟨Nat.le_of_ble_eq_true rfl, Nat.le_of_ble_eq_true rfl⟩ dL_law_670) (fun H locs hT => ?_)
  refine lv_aload_n hx hb dL_law_673 rfl (lv_at hl 2 rfl) ?_
  refine lv_aload_n hx hb dL_law_674 rfl (lv_at hl 0 rfl) ?_
  refine lv_iload_n hx hb dL_law_675 rfl (lv_at hl 3 rfl) ?_
  refine lv_iconst (v := 1) hx hb dL_law_676 (by decide) ?_
  refine lv_iadd hx hb dL_law_677 ?_
  obtain ⟨g3, h⟩ := gd_some _ h
  refine va_sld hx hb hX hbl hbA hT.2.1 (ib_in g3) dL_law_678 ?_
  obtain ⟨r4, σ4, hc4, h⟩ := bd_some h
  refine js_backI hT (js_runV C hT cfX12 js_o12 rfl mfX12_projection lk_L_100 (kX12_projection js_o12 hc4) ⟨Nat.le_of_ble_eq_true rfl, Nat.le_of_ble_eq_true rfl⟩ rfl hl.1 rfl (Nat.le_of_ble_eq_true rfl) ⟨Nat.le_of_ble_eq_true rfl, Nat.le_of_ble_eq_true rfl⟩ dL_law_679) (fun H locs hT => ?_)
  refine lv_icmp_eq (tgt := 1401) hx hb dL_law_682 (by decide) (fun c5 => ?_) (fun c5 => ?_)
  · rw [if_pos c5] at h
    exact wL_1401 C hargs hr hk hX hbl hB rc hrc x3 σ4 σ0 h H locs hT ls hl
  · rw [if_neg c5] at h
    exact absurd (js_rt h).1 (by decide)
set_option maxHeartbeats 4000000 in
set_option maxRecDepth 20000 in
theorem wLc_21 (C : js_C D g p m c cL_law 4 s args RL) (hargs : args = #[Value.ref b]) (hr : meth.sig.returnType = ret) (hk : meth.locks = false) (hX : va_X b L xs s s.heap) (hbl : b < s.heap.size) (hB : B + 1 = s.heap.size) (rc : Int32 → js_S → Option (Int32 × js_S)) (hrc : ∀ (x3 : Int32) (σ σ0 : js_S), rc x3 σ = some (1, σ0) → ∀ (H : Heap) (locs : List Loc), js_T D B g 419 σ s H locs → ∀ ls : Array Slot, lv_has ls 4 [(0, .ref b), (1, .ref (B + 1)), (2, .ref (B + 390)), (3, .int x3)] → W p l e room_1 s m args below meth c H locs 435 316929 (lw_Z below args s) (F0 m 18 ls [])) : ∀ (x3 : Int32) (σ σ0 : js_S), fLc_21 fu L xs rc x3 σ = some (1, σ0) → ∀ (H : Heap) (locs : List Loc), js_T D B g 419 σ s H locs → ∀ ls : Array Slot, lv_has ls 4 [(0, .ref b), (1, .ref (B + 1)), (2, .ref (B + 390)), (3, .int x3)] → W p l e room_1 s m args below meth c H locs 435 316929 (lw_Z below args s) (F0 m 687 ls []) := by
  obtain ⟨hx, hb, hml, hown, ht, hK, hNw⟩ := id C
  have hbA : ¬ (fun q => B < q) b := by show ¬ B < b; omega
  intro x3 σ σ0 h H locs hT ls hl
  unfold fLc_21 at h
  refine lv_aload_n hx hb dL_law_687 rfl (lv_at hl 1 rfl) ?_
  obtain ⟨r1, σ1, hc1, h⟩ := bd_some h
  refine js_backI hT (js_runV C hT cfX11 js_o11 rfl mfX11_eliminationRounds lk_L_101 (kX11_eliminationRounds js_o11 hc1) ⟨Nat.le_of_ble_eq_true rfl, Nat.le_of_ble_eq_true rfl⟩ rfl hl.1 rfl (Nat.le_of_ble_eq_true rfl) ⟨Nat.le_of_ble_eq_true rfl, Nat.le_of_ble_eq_true rfl⟩ dL_law_688) (fun H locs hT => ?_)
  refine lv_aload_n hx hb dL_law_691 rfl (lv_at hl 2 rfl) ?_
  obtain ⟨r2, σ2, hc2, h⟩ := bd_some h
  refine js_backI hT (js_runV C hT cfX12 js_o12 rfl mfX12_eliminationRounds lk_L_104 (kX12_eliminationRounds js_o12 hc2) ⟨Nat.le_of_ble_eq_true rfl, Nat.le_of_ble_eq_true rfl⟩ rfl hl.1 rfl (Nat.le_of_ble_eq_true rfl) ⟨Nat.le_of_ble_eq_true rfl, Nat.le_of_ble_eq_true rfl⟩ dL_law_692) (fun H locs hT => ?_)
  refine lv_icmp_eq (tgt := 1401) hx hb dL_law_695 (by decide) (fun c3 => ?_) (fun c3 => ?_)
  · rw [if_pos c3] at h
    exact wL_1401 C hargs hr hk hX hbl hB rc hrc x3 σ2 σ0 h H locs hT ls hl
  · rw [if_neg c3] at h
    exact absurd (js_rt h).1 (by decide)
set_option maxHeartbeats 4000000 in
set_option maxRecDepth 20000 in
theorem wLc_22 (C : js_C D g p m c cL_law 4 s args RL) (hargs : args = #[Value.ref b]) (hr : meth.sig.returnType = ret) (hk : meth.locks = false) (hX : va_X b L xs s s.heap) (hbl : b < s.heap.size) (hB : B + 1 = s.heap.size) (rc : Int32 → js_S → Option (Int32 × js_S)) (hrc : ∀ (x3 : Int32) (σ σ0 : js_S), rc x3 σ = some (1, σ0) → ∀ (H : Heap) (locs : List Loc), js_T D B g 419 σ s H locs → ∀ ls : Array Slot, lv_has ls 4 [(0, .ref b), (1, .ref (B + 1)), (2, .ref (B + 390)), (3, .int x3)] → W p l e room_1 s m args below meth c H locs 435 316929 (lw_Z below args s) (F0 m 18 ls [])) : ∀ (x3 : Int32) (σ σ0 : js_S), fLc_22 fu L xs rc x3 σ = some (1, σ0) → ∀ (H : Heap) (locs : List Loc), js_T D B g 419 σ s H locs → ∀ ls : Array Slot, lv_has ls 4 [(0, .ref b), (1, .ref (B + 1)), (2, .ref (B + 390)), (3, .int x3)] → W p l e room_1 s m args below meth c H locs 435 316929 (lw_Z below args s) (F0 m 700 ls []) := by
  obtain ⟨hx, hb, hml, hown, ht, hK, hNw⟩ := id C
  have hbA : ¬ (fun q => B < q) b := by show ¬ B < b; omega
  intro x3 σ σ0 h H locs hT ls hl
  unfold fLc_22 at h
  refine lv_aload_n hx hb dL_law_700 rfl (lv_at hl 1 rfl) ?_
  obtain ⟨r1, σ1, hc1, h⟩ := bd_some h
  refine js_backI hT (js_runV C hT cfX11 js_o11 rfl mfX11_remainingPairCount lk_L_105 (kX11_remainingPairCount js_o11 hc1) ⟨Nat.le_of_ble_eq_true rfl, Nat.le_of_ble_eq_true rfl⟩ rfl hl.1 rfl (Nat.le_of_ble_eq_true rfl) ⟨Nat.le_of_ble_eq_true rfl, Nat.le_of_ble_eq_true rfl⟩ dL_law_701) (fun H locs hT => ?_)
  refine lv_aload_n hx hb dL_law_704 rfl (lv_at hl 2 rfl) ?_
  obtain ⟨r2, σ2, hc2, h⟩ := bd_some h
  refine js_backI hT (js_runV C hT cfX12 js_o12 rfl mfX12_remainingPairCount lk_L_108 (kX12_remainingPairCount js_o12 hc2) ⟨Nat.le_of_ble_eq_true rfl, Nat.le_of_ble_eq_true rfl⟩ rfl hl.1 rfl (Nat.le_of_ble_eq_true rfl) ⟨Nat.le_of_ble_eq_true rfl, Nat.le_of_ble_eq_true rfl⟩ dL_law_705) (fun H locs hT => ?_)
  refine lv_icmp_eq (tgt := 1401) hx hb dL_law_708 (by decide) (fun c3 => ?_) (fun c3 => ?_)
  · rw [if_pos c3] at h
    exact wL_1401 C hargs hr hk hX hbl hB rc hrc x3 σ2 σ0 h H locs hT ls hl
  · rw [if_neg c3] at h
    exact absurd (js_rt h).1 (by decide)
set_option maxHeartbeats 4000000 in
set_option maxRecDepth 20000 in
theorem wLc_23 (C : js_C D g p m c cL_law 4 s args RL) (hargs : args = #[Value.ref b]) (hr : meth.sig.returnType = ret) (hk : meth.locks = false) (hX : va_X b L xs s s.heap) (hbl : b < s.heap.size) (hB : B + 1 = s.heap.size) (rc : Int32 → js_S → Option (Int32 × js_S)) (hrc : ∀ (x3 : Int32) (σ σ0 : js_S), rc x3 σ = some (1, σ0) → ∀ (H : Heap) (locs : List Loc), js_T D B g 419 σ s H locs → ∀ ls : Array Slot, lv_has ls 4 [(0, .ref b), (1, .ref (B + 1)), (2, .ref (B + 390)), (3, .int x3)] → W p l e room_1 s m args below meth c H locs 435 316929 (lw_Z below args s) (F0 m 18 ls [])) : ∀ (x3 : Int32) (σ σ0 : js_S), fLc_23 fu L xs rc x3 σ = some (1, σ0) → ∀ (H : Heap) (locs : List Loc), js_T D B g 419 σ s H locs → ∀ ls : Array Slot, lv_has ls 4 [(0, .ref b), (1, .ref (B + 1)), (2, .ref (B + 390)), (3, .int x3)] → W p l e room_1 s m args below meth c H locs 435 316929 (lw_Z below args s) (F0 m 713 ls []) := by
  obtain ⟨hx, hb, hml, hown, ht, hK, hNw⟩ := id C
  have hbA : ¬ (fun q => B < q) b := by show ¬ B < b; omega
  intro x3 σ σ0 h H locs hT ls hl
  unfold fLc_23 at h
  refine lv_aload_n hx hb dL_law_713 rfl (lv_at hl 1 rfl) ?_
  obtain ⟨r1, σ1, hc1, h⟩ := bd_some h
  refine js_backI hT (js_runV C hT cfX11 js_o11 rfl mfX11_remainingComponentCount lk_L_109 (kX11_remainingComponentCount js_o11 hc1) ⟨Nat.le_of_ble_eq_true rfl, Nat.le_of_ble_eq_true rfl⟩ rfl hl.1 rfl (Nat.le_of_ble_eq_true rfl) ⟨Nat.le_of_ble_eq_true rfl, Nat.le_of_ble_eq_true rfl⟩ dL_law_714) (fun H locs hT => ?_)
  refine lv_aload_n hx hb dL_law_717 rfl (lv_at hl 2 rfl) ?_
  obtain ⟨r2, σ2, hc2, h⟩ := bd_some h
  refine js_backI hT (js_runV C hT cfX12 js_o12 rfl mfX12_remainingComponentCount lk_L_112 (kX12_remainingComponentCount js_o12 hc2) ⟨Nat.le_of_ble_eq_true rfl, Nat.le_of_ble_eq_true rfl⟩ rfl hl.1 rfl (Nat.le_of_ble_eq_true rfl) ⟨Nat.le_of_ble_eq_true rfl, Nat.le_of_ble_eq_true rfl⟩ dL_law_718) (fun H locs hT => ?_)
  refine lv_icmp_eq (tgt := 1401) hx hb dL_law_721 (by decide) (fun c3 => ?_) (fun c3 => ?_)
  · rw [if_pos c3] at h
    exact wL_1401 C hargs hr hk hX hbl hB rc hrc x3 σ2 σ0 h H locs hT ls hl
  · rw [if_neg c3] at h
    exact absurd (js_rt h).1 (by decide)
set_option maxHeartbeats 4000000 in
set_option maxRecDepth 20000 in
theorem wLc_24 (C : js_C D g p m c cL_law 4 s args RL) (hargs : args = #[Value.ref b]) (hr : meth.sig.returnType = ret) (hk : meth.locks = false) (hX : va_X b L xs s s.heap) (hbl : b < s.heap.size) (hB : B + 1 = s.heap.size) (rc : Int32 → js_S → Option (Int32 × js_S)) (hrc : ∀ (x3 : Int32) (σ σ0 : js_S), rc x3 σ = some (1, σ0) → ∀ (H : Heap) (locs : List Loc), js_T D B g 419 σ s H locs → ∀ ls : Array Slot, lv_has ls 4 [(0, .ref b), (1, .ref (B + 1)), (2, .ref (B + 390)), (3, .int x3)] → W p l e room_1 s m args below meth c H locs 435 316929 (lw_Z below args s) (F0 m 18 ls [])) : ∀ (x3 : Int32) (σ σ0 : js_S), fLc_24 fu L xs rc x3 σ = some (1, σ0) → ∀ (H : Heap) (locs : List Loc), js_T D B g 419 σ s H locs → ∀ ls : Array Slot, lv_has ls 4 [(0, .ref b), (1, .ref (B + 1)), (2, .ref (B + 390)), (3, .int x3)] → W p l e room_1 s m args below meth c H locs 435 316929 (lw_Z below args s) (F0 m 726 ls []) := by
  obtain ⟨hx, hb, hml, hown, ht, hK, hNw⟩ := id C
  have hbA : ¬ (fun q => B < q) b := by show ¬ B < b; omega
  intro x3 σ σ0 h H locs hT ls hl
  unfold fLc_24 at h
  refine lv_aload_n hx hb dL_law_726 rfl (lv_at hl 1 rfl) ?_
  obtain ⟨r1, σ1, hc1, h⟩ := bd_some h
  refine js_backI hT (js_runV C hT cfX11 js_o11 rfl mfX11_terminatesBySubtermCriterion lk_L_113 (kX11_terminatesBySubtermCriterion js_o11 hc1) ⟨Nat.le_of_ble_eq_true rfl, Nat.le_of_ble_eq_true rfl⟩ rfl hl.1 rfl (Nat.le_of_ble_eq_true rfl) ⟨Nat.le_of_ble_eq_true rfl, Nat.le_of_ble_eq_true rfl⟩ dL_law_727) (fun H locs hT => ?_)
  refine lv_aload_n hx hb dL_law_730 rfl (lv_at hl 2 rfl) ?_
  obtain ⟨r2, σ2, hc2, h⟩ := bd_some h
  refine js_backI hT (js_runV C hT cfX12 js_o12 rfl mfX12_terminatesBySubtermCriterion lk_L_116 (kX12_terminatesBySubtermCriterion js_o12 hc2) ⟨Nat.le_of_ble_eq_true rfl, Nat.le_of_ble_eq_true rfl⟩ rfl hl.1 rfl (Nat.le_of_ble_eq_true rfl) ⟨Nat.le_of_ble_eq_true rfl, Nat.le_of_ble_eq_true rfl⟩ dL_law_731) (fun H locs hT => ?_)
  refine lv_icmp_eq (tgt := 1401) hx hb dL_law_734 (by decide) (fun c3 => ?_) (fun c3 => ?_)
  · rw [if_pos c3] at h
    exact wL_1401 C hargs hr hk hX hbl hB rc hrc x3 σ2 σ0 h H locs hT ls hl
  · rw [if_neg c3] at h
    exact absurd (js_rt h).1 (by decide)
set_option maxHeartbeats 4000000 in
set_option maxRecDepth 20000 in
theorem wLc_25 (C : js_C D g p m c cL_law 4 s args RL) (hargs : args = #[Value.ref b]) (hr : meth.sig.returnType = ret) (hk : meth.locks = false) (hX : va_X b L xs s s.heap) (hbl : b < s.heap.size) (hB : B + 1 = s.heap.size) (rc : Int32 → js_S → Option (Int32 × js_S)) (hrc : ∀ (x3 : Int32) (σ σ0 : js_S), rc x3 σ = some (1, σ0) → ∀ (H : Heap) (locs : List Loc), js_T D B g 419 σ s H locs → ∀ ls : Array Slot, lv_has ls 4 [(0, .ref b), (1, .ref (B + 1)), (2, .ref (B + 390)), (3, .int x3)] → W p l e room_1 s m args below meth c H locs 435 316929 (lw_Z below args s) (F0 m 18 ls [])) : ∀ (x3 : Int32) (σ σ0 : js_S), fLc_25 fu L xs rc x3 σ = some (1, σ0) → ∀ (H : Heap) (locs : List Loc), js_T D B g 419 σ s H locs → ∀ ls : Array Slot, lv_has ls 4 [(0, .ref b), (1, .ref (B + 1)), (2, .ref (B + 390)), (3, .int x3)] → W p l e room_1 s m args below meth c H locs 435 316929 (lw_Z below args s) (F0 m 739 ls []) := by
  obtain ⟨hx, hb, hml, hown, ht, hK, hNw⟩ := id C
  have hbA : ¬ (fun q => B < q) b := by show ¬ B < b; omega
  intro x3 σ σ0 h H locs hT ls hl
  unfold fLc_25 at h
  refine lv_aload_n hx hb dL_law_739 rfl (lv_at hl 1 rfl) ?_
  refine lv_aload_n hx hb dL_law_740 rfl (lv_at hl 0 rfl) ?_
  refine lv_iload_n hx hb dL_law_741 rfl (lv_at hl 3 rfl) ?_
  refine lv_iconst (v := 1) hx hb dL_law_742 (by decide) ?_
  refine lv_iadd hx hb dL_law_743 ?_
  obtain ⟨g1, h⟩ := gd_some _ h
  refine va_sld hx hb hX hbl hbA hT.2.1 (ib_in g1) dL_law_744 ?_
  obtain ⟨r2, σ2, hc2, h⟩ := bd_some h
  refine js_backI hT (js_runV C hT cfX11 js_o11 rfl mfX11_parseTerm lk_L_117 (kX11_parseTerm js_o11 hc2) ⟨Nat.le_of_ble_eq_true rfl, Nat.le_of_ble_eq_true rfl⟩ rfl hl.1 rfl (Nat.le_of_ble_eq_true rfl) ⟨Nat.le_of_ble_eq_true rfl, Nat.le_of_ble_eq_true rfl⟩ dL_law_745) (fun H locs hT => ?_)
  refine lv_aload_n hx hb dL_law_748 rfl (lv_at hl 2 rfl) ?_
  refine lv_aload_n hx hb dL_law_749 rfl (lv_at hl 0 rfl) ?_
  refine lv_iload_n hx hb dL_law_750 rfl (lv_at hl 3 rfl) ?_
  refine lv_iconst (v := 1) hx hb dL_law_751 (by decide) ?_
  refine lv_iadd hx hb dL_law_752 ?_
  obtain ⟨g3, h⟩ := gd_some _ h
  refine va_sld hx hb hX hbl hbA hT.2.1 (ib_in g3) dL_law_753 ?_
  obtain ⟨r4, σ4, hc4, h⟩ := bd_some h
  refine js_backI hT (js_runV C hT cfX12 js_o12 rfl mfX12_parseTerm lk_L_120 (kX12_parseTerm js_o12 hc4) ⟨Nat.le_of_ble_eq_true rfl, Nat.le_of_ble_eq_true rfl⟩ rfl hl.1 rfl (Nat.le_of_ble_eq_true rfl) ⟨Nat.le_of_ble_eq_true rfl, Nat.le_of_ble_eq_true rfl⟩ dL_law_754) (fun H locs hT => ?_)
  refine lv_icmp_eq (tgt := 1401) hx hb dL_law_757 (by decide) (fun c5 => ?_) (fun c5 => ?_)
  · rw [if_pos c5] at h
    exact wL_1401 C hargs hr hk hX hbl hB rc hrc x3 σ4 σ0 h H locs hT ls hl
  · rw [if_neg c5] at h
    exact absurd (js_rt h).1 (by decide)
set_option maxHeartbeats 4000000 in
set_option maxRecDepth 20000 in
theorem wLc_26 (C : js_C D g p m c cL_law 4 s args RL) (hargs : args = #[Value.ref b]) (hr : meth.sig.returnType = ret) (hk : meth.locks = false) (hX : va_X b L xs s s.heap) (hbl : b < s.heap.size) (hB : B + 1 = s.heap.size) (rc : Int32 → js_S → Option (Int32 × js_S)) (hrc : ∀ (x3 : Int32) (σ σ0 : js_S), rc x3 σ = some (1, σ0) → ∀ (H : Heap) (locs : List Loc), js_T D B g 419 σ s H locs → ∀ ls : Array Slot, lv_has ls 4 [(0, .ref b), (1, .ref (B + 1)), (2, .ref (B + 390)), (3, .int x3)] → W p l e room_1 s m args below meth c H locs 435 316929 (lw_Z below args s) (F0 m 18 ls [])) : ∀ (x3 : Int32) (σ σ0 : js_S), fLc_26 fu L xs rc x3 σ = some (1, σ0) → ∀ (H : Heap) (locs : List Loc), js_T D B g 419 σ s H locs → ∀ ls : Array Slot, lv_has ls 4 [(0, .ref b), (1, .ref (B + 1)), (2, .ref (B + 390)), (3, .int x3)] → W p l e room_1 s m args below meth c H locs 435 316929 (lw_Z below args s) (F0 m 762 ls []) := by
  obtain ⟨hx, hb, hml, hown, ht, hK, hNw⟩ := id C
  have hbA : ¬ (fun q => B < q) b := by show ¬ B < b; omega
  intro x3 σ σ0 h H locs hT ls hl
  unfold fLc_26 at h
  refine lv_aload_n hx hb dL_law_762 rfl (lv_at hl 1 rfl) ?_
  refine lv_aload_n hx hb dL_law_763 rfl (lv_at hl 0 rfl) ?_
  refine lv_iload_n hx hb dL_law_764 rfl (lv_at hl 3 rfl) ?_
  refine lv_iconst (v := 1) hx hb dL_law_765 (by decide) ?_
  refine lv_iadd hx hb dL_law_766 ?_
  obtain ⟨g1, h⟩ := gd_some _ h
  refine va_sld hx hb hX hbl hbA hT.2.1 (ib_in g1) dL_law_767 ?_
  obtain ⟨r2, σ2, hc2, h⟩ := bd_some h
  refine js_backI hT (js_runV C hT cfX11 js_o11 rfl mfX11_termSize lk_L_121 (kX11_termSize js_o11 hc2) ⟨Nat.le_of_ble_eq_true rfl, Nat.le_of_ble_eq_true rfl⟩ rfl hl.1 rfl (Nat.le_of_ble_eq_true rfl) ⟨Nat.le_of_ble_eq_true rfl, Nat.le_of_ble_eq_true rfl⟩ dL_law_768) (fun H locs hT => ?_)
  refine lv_aload_n hx hb dL_law_771 rfl (lv_at hl 2 rfl) ?_
  refine lv_aload_n hx hb dL_law_772 rfl (lv_at hl 0 rfl) ?_
  refine lv_iload_n hx hb dL_law_773 rfl (lv_at hl 3 rfl) ?_
  refine lv_iconst (v := 1) hx hb dL_law_774 (by decide) ?_
  refine lv_iadd hx hb dL_law_775 ?_
  obtain ⟨g3, h⟩ := gd_some _ h
  refine va_sld hx hb hX hbl hbA hT.2.1 (ib_in g3) dL_law_776 ?_
  obtain ⟨r4, σ4, hc4, h⟩ := bd_some h
  refine js_backI hT (js_runV C hT cfX12 js_o12 rfl mfX12_termSize lk_L_124 (kX12_termSize js_o12 hc4) ⟨Nat.le_of_ble_eq_true rfl, Nat.le_of_ble_eq_true rfl⟩ rfl hl.1 rfl (Nat.le_of_ble_eq_true rfl) ⟨Nat.le_of_ble_eq_true rfl, Nat.le_of_ble_eq_true rfl⟩ dL_law_777) (fun H locs hT => ?_)
  refine lv_icmp_eq (tgt := 1401) hx hb dL_law_780 (by decide) (fun c5 => ?_) (fun c5 => ?_)
  · rw [if_pos c5] at h
    exact wL_1401 C hargs hr hk hX hbl hB rc hrc x3 σ4 σ0 h H locs hT ls hl
  · rw [if_neg c5] at h
    exact absurd (js_rt h).1 (by decide)
set_option maxHeartbeats 4000000 in
set_option maxRecDepth 20000 in
theorem wLc_27 (C : js_C D g p m c cL_law 4 s args RL) (hargs : args = #[Value.ref b]) (hr : meth.sig.returnType = ret) (hk : meth.locks = false) (hX : va_X b L xs s s.heap) (hbl : b < s.heap.size) (hB : B + 1 = s.heap.size) (rc : Int32 → js_S → Option (Int32 × js_S)) (hrc : ∀ (x3 : Int32) (σ σ0 : js_S), rc x3 σ = some (1, σ0) → ∀ (H : Heap) (locs : List Loc), js_T D B g 419 σ s H locs → ∀ ls : Array Slot, lv_has ls 4 [(0, .ref b), (1, .ref (B + 1)), (2, .ref (B + 390)), (3, .int x3)] → W p l e room_1 s m args below meth c H locs 435 316929 (lw_Z below args s) (F0 m 18 ls [])) : ∀ (x3 : Int32) (σ σ0 : js_S), fLc_27 fu L xs rc x3 σ = some (1, σ0) → ∀ (H : Heap) (locs : List Loc), js_T D B g 419 σ s H locs → ∀ ls : Array Slot, lv_has ls 4 [(0, .ref b), (1, .ref (B + 1)), (2, .ref (B + 390)), (3, .int x3)] → W p l e room_1 s m args below meth c H locs 435 316929 (lw_Z below args s) (F0 m 785 ls []) := by
  obtain ⟨hx, hb, hml, hown, ht, hK, hNw⟩ := id C
  have hbA : ¬ (fun q => B < q) b := by show ¬ B < b; omega
  intro x3 σ σ0 h H locs hT ls hl
  unfold fLc_27 at h
  refine lv_aload_n hx hb dL_law_785 rfl (lv_at hl 1 rfl) ?_
  refine lv_aload_n hx hb dL_law_786 rfl (lv_at hl 0 rfl) ?_
  refine lv_iload_n hx hb dL_law_787 rfl (lv_at hl 3 rfl) ?_
  refine lv_iconst (v := 1) hx hb dL_law_788 (by decide) ?_
  refine lv_iadd hx hb dL_law_789 ?_
  obtain ⟨g1, h⟩ := gd_some _ h
  refine va_sld hx hb hX hbl hbA hT.2.1 (ib_in g1) dL_law_790 ?_
  obtain ⟨r2, σ2, hc2, h⟩ := bd_some h
  refine js_backI hT (js_runV C hT cfX11 js_o11 rfl mfX11_formattedLength lk_L_125 (kX11_formattedLength js_o11 hc2) ⟨Nat.le_of_ble_eq_true rfl, Nat.le_of_ble_eq_true rfl⟩ rfl hl.1 rfl (Nat.le_of_ble_eq_true rfl) ⟨Nat.le_of_ble_eq_true rfl, Nat.le_of_ble_eq_true rfl⟩ dL_law_791) (fun H locs hT => ?_)
  refine lv_aload_n hx hb dL_law_794 rfl (lv_at hl 2 rfl) ?_
  refine lv_aload_n hx hb dL_law_795 rfl (lv_at hl 0 rfl) ?_
  refine lv_iload_n hx hb dL_law_796 rfl (lv_at hl 3 rfl) ?_
  refine lv_iconst (v := 1) hx hb dL_law_797 (by decide) ?_
  refine lv_iadd hx hb dL_law_798 ?_
  obtain ⟨g3, h⟩ := gd_some _ h
  refine va_sld hx hb hX hbl hbA hT.2.1 (ib_in g3) dL_law_799 ?_
  obtain ⟨r4, σ4, hc4, h⟩ := bd_some h
  refine js_backI hT (js_runV C hT cfX12 js_o12 rfl mfX12_formattedLength lk_L_128 (kX12_formattedLength js_o12 hc4) ⟨Nat.le_of_ble_eq_true rfl, Nat.le_of_ble_eq_true rfl⟩ rfl hl.1 rfl (Nat.le_of_ble_eq_true rfl) ⟨Nat.le_of_ble_eq_true rfl, Nat.le_of_ble_eq_true rfl⟩ dL_law_800) (fun H locs hT => ?_)
  refine lv_icmp_eq (tgt := 1401) hx hb dL_law_803 (by decide) (fun c5 => ?_) (fun c5 => ?_)
  · rw [if_pos c5] at h
    exact wL_1401 C hargs hr hk hX hbl hB rc hrc x3 σ4 σ0 h H locs hT ls hl
  · rw [if_neg c5] at h
    exact absurd (js_rt h).1 (by decide)
set_option maxHeartbeats 4000000 in
set_option maxRecDepth 20000 in
theorem wLc_28 (C : js_C D g p m c cL_law 4 s args RL) (hargs : args = #[Value.ref b]) (hr : meth.sig.returnType = ret) (hk : meth.locks = false) (hX : va_X b L xs s s.heap) (hbl : b < s.heap.size) (hB : B + 1 = s.heap.size) (rc : Int32 → js_S → Option (Int32 × js_S)) (hrc : ∀ (x3 : Int32) (σ σ0 : js_S), rc x3 σ = some (1, σ0) → ∀ (H : Heap) (locs : List Loc), js_T D B g 419 σ s H locs → ∀ ls : Array Slot, lv_has ls 4 [(0, .ref b), (1, .ref (B + 1)), (2, .ref (B + 390)), (3, .int x3)] → W p l e room_1 s m args below meth c H locs 435 316929 (lw_Z below args s) (F0 m 18 ls [])) : ∀ (x3 : Int32) (σ σ0 : js_S), fLc_28 fu L xs rc x3 σ = some (1, σ0) → ∀ (H : Heap) (locs : List Loc), js_T D B g 419 σ s H locs → ∀ ls : Array Slot, lv_has ls 4 [(0, .ref b), (1, .ref (B + 1)), (2, .ref (B + 390)), (3, .int x3)] → W p l e room_1 s m args below meth c H locs 435 316929 (lw_Z below args s) (F0 m 808 ls []) := by
  obtain ⟨hx, hb, hml, hown, ht, hK, hNw⟩ := id C
  have hbA : ¬ (fun q => B < q) b := by show ¬ B < b; omega
  intro x3 σ σ0 h H locs hT ls hl
  unfold fLc_28 at h
  refine lv_aload_n hx hb dL_law_808 rfl (lv_at hl 1 rfl) ?_
  refine lv_aload_n hx hb dL_law_809 rfl (lv_at hl 0 rfl) ?_
  refine lv_iload_n hx hb dL_law_810 rfl (lv_at hl 3 rfl) ?_
  refine lv_iconst (v := 1) hx hb dL_law_811 (by decide) ?_
  refine lv_iadd hx hb dL_law_812 ?_
  obtain ⟨g1, h⟩ := gd_some _ h
  refine va_sld hx hb hX hbl hbA hT.2.1 (ib_in g1) dL_law_813 ?_
  refine lv_aload_n hx hb dL_law_814 rfl (lv_at hl 0 rfl) ?_
  refine lv_iload_n hx hb dL_law_815 rfl (lv_at hl 3 rfl) ?_
  refine lv_iconst (v := 2) hx hb dL_law_816 (by decide) ?_
  refine lv_iadd hx hb dL_law_817 ?_
  obtain ⟨g2, h⟩ := gd_some _ h
  refine va_sld hx hb hX hbl hbA hT.2.1 (ib_in g2) dL_law_818 ?_
  obtain ⟨r3, σ3, hc3, h⟩ := bd_some h
  refine js_backI hT (js_runV C hT cfX11 js_o11 rfl mfX11_formattedCharacter lk_L_129 (kX11_formattedCharacter js_o11 hc3) ⟨Nat.le_of_ble_eq_true rfl, Nat.le_of_ble_eq_true rfl⟩ rfl hl.1 rfl (Nat.le_of_ble_eq_true rfl) ⟨Nat.le_of_ble_eq_true rfl, Nat.le_of_ble_eq_true rfl⟩ dL_law_819) (fun H locs hT => ?_)
  refine lv_aload_n hx hb dL_law_822 rfl (lv_at hl 2 rfl) ?_
  refine lv_aload_n hx hb dL_law_823 rfl (lv_at hl 0 rfl) ?_
  refine lv_iload_n hx hb dL_law_824 rfl (lv_at hl 3 rfl) ?_
  refine lv_iconst (v := 1) hx hb dL_law_825 (by decide) ?_
  refine lv_iadd hx hb dL_law_826 ?_
  obtain ⟨g4, h⟩ := gd_some _ h
  refine va_sld hx hb hX hbl hbA hT.2.1 (ib_in g4) dL_law_827 ?_
  refine lv_aload_n hx hb dL_law_828 rfl (lv_at hl 0 rfl) ?_
  refine lv_iload_n hx hb dL_law_829 rfl (lv_at hl 3 rfl) ?_
  refine lv_iconst (v := 2) hx hb dL_law_830 (by decide) ?_
  refine lv_iadd hx hb dL_law_831 ?_
  obtain ⟨g5, h⟩ := gd_some _ h
  refine va_sld hx hb hX hbl hbA hT.2.1 (ib_in g5) dL_law_832 ?_
  obtain ⟨r6, σ6, hc6, h⟩ := bd_some h
  refine js_backI hT (js_runV C hT cfX12 js_o12 rfl mfX12_formattedCharacter lk_L_132 (kX12_formattedCharacter js_o12 hc6) ⟨Nat.le_of_ble_eq_true rfl, Nat.le_of_ble_eq_true rfl⟩ rfl hl.1 rfl (Nat.le_of_ble_eq_true rfl) ⟨Nat.le_of_ble_eq_true rfl, Nat.le_of_ble_eq_true rfl⟩ dL_law_833) (fun H locs hT => ?_)
  refine lv_icmp_eq (tgt := 1401) hx hb dL_law_836 (by decide) (fun c7 => ?_) (fun c7 => ?_)
  · rw [if_pos c7] at h
    exact wL_1401 C hargs hr hk hX hbl hB rc hrc x3 σ6 σ0 h H locs hT ls hl
  · rw [if_neg c7] at h
    exact absurd (js_rt h).1 (by decide)
set_option maxHeartbeats 4000000 in
set_option maxRecDepth 20000 in
theorem wLc_29 (C : js_C D g p m c cL_law 4 s args RL) (hargs : args = #[Value.ref b]) (hr : meth.sig.returnType = ret) (hk : meth.locks = false) (hX : va_X b L xs s s.heap) (hbl : b < s.heap.size) (hB : B + 1 = s.heap.size) (rc : Int32 → js_S → Option (Int32 × js_S)) (hrc : ∀ (x3 : Int32) (σ σ0 : js_S), rc x3 σ = some (1, σ0) → ∀ (H : Heap) (locs : List Loc), js_T D B g 419 σ s H locs → ∀ ls : Array Slot, lv_has ls 4 [(0, .ref b), (1, .ref (B + 1)), (2, .ref (B + 390)), (3, .int x3)] → W p l e room_1 s m args below meth c H locs 435 316929 (lw_Z below args s) (F0 m 18 ls [])) : ∀ (x3 : Int32) (σ σ0 : js_S), fLc_29 fu L xs rc x3 σ = some (1, σ0) → ∀ (H : Heap) (locs : List Loc), js_T D B g 419 σ s H locs → ∀ ls : Array Slot, lv_has ls 4 [(0, .ref b), (1, .ref (B + 1)), (2, .ref (B + 390)), (3, .int x3)] → W p l e room_1 s m args below meth c H locs 435 316929 (lw_Z below args s) (F0 m 841 ls []) := by
  obtain ⟨hx, hb, hml, hown, ht, hK, hNw⟩ := id C
  have hbA : ¬ (fun q => B < q) b := by show ¬ B < b; omega
  intro x3 σ σ0 h H locs hT ls hl
  unfold fLc_29 at h
  refine lv_aload_n hx hb dL_law_841 rfl (lv_at hl 1 rfl) ?_
  refine lv_aload_n hx hb dL_law_842 rfl (lv_at hl 0 rfl) ?_
  refine lv_iload_n hx hb dL_law_843 rfl (lv_at hl 3 rfl) ?_
  refine lv_iconst (v := 1) hx hb dL_law_844 (by decide) ?_
  refine lv_iadd hx hb dL_law_845 ?_
  obtain ⟨g1, h⟩ := gd_some _ h
  refine va_sld hx hb hX hbl hbA hT.2.1 (ib_in g1) dL_law_846 ?_
  refine lv_aload_n hx hb dL_law_847 rfl (lv_at hl 0 rfl) ?_
  refine lv_iload_n hx hb dL_law_848 rfl (lv_at hl 3 rfl) ?_
  refine lv_iconst (v := 2) hx hb dL_law_849 (by decide) ?_
  refine lv_iadd hx hb dL_law_850 ?_
  obtain ⟨g2, h⟩ := gd_some _ h
  refine va_sld hx hb hX hbl hbA hT.2.1 (ib_in g2) dL_law_851 ?_
  obtain ⟨r3, σ3, hc3, h⟩ := bd_some h
  refine js_backI hT (js_runV C hT cfX11 js_o11 rfl mfX11_compareTerms lk_L_133 (kX11_compareTerms js_o11 hc3) ⟨Nat.le_of_ble_eq_true rfl, Nat.le_of_ble_eq_true rfl⟩ rfl hl.1 rfl (Nat.le_of_ble_eq_true rfl) ⟨Nat.le_of_ble_eq_true rfl, Nat.le_of_ble_eq_true rfl⟩ dL_law_852) (fun H locs hT => ?_)
  refine lv_aload_n hx hb dL_law_855 rfl (lv_at hl 2 rfl) ?_
  refine lv_aload_n hx hb dL_law_856 rfl (lv_at hl 0 rfl) ?_
  refine lv_iload_n hx hb dL_law_857 rfl (lv_at hl 3 rfl) ?_
  refine lv_iconst (v := 1) hx hb dL_law_858 (by decide) ?_
  refine lv_iadd hx hb dL_law_859 ?_
  obtain ⟨g4, h⟩ := gd_some _ h
  refine va_sld hx hb hX hbl hbA hT.2.1 (ib_in g4) dL_law_860 ?_
  refine lv_aload_n hx hb dL_law_861 rfl (lv_at hl 0 rfl) ?_
  refine lv_iload_n hx hb dL_law_862 rfl (lv_at hl 3 rfl) ?_
  refine lv_iconst (v := 2) hx hb dL_law_863 (by decide) ?_
  refine lv_iadd hx hb dL_law_864 ?_
  obtain ⟨g5, h⟩ := gd_some _ h
  refine va_sld hx hb hX hbl hbA hT.2.1 (ib_in g5) dL_law_865 ?_
  obtain ⟨r6, σ6, hc6, h⟩ := bd_some h
  refine js_backI hT (js_runV C hT cfX12 js_o12 rfl mfX12_compareTerms lk_L_136 (kX12_compareTerms js_o12 hc6) ⟨Nat.le_of_ble_eq_true rfl, Nat.le_of_ble_eq_true rfl⟩ rfl hl.1 rfl (Nat.le_of_ble_eq_true rfl) ⟨Nat.le_of_ble_eq_true rfl, Nat.le_of_ble_eq_true rfl⟩ dL_law_866) (fun H locs hT => ?_)
  refine lv_icmp_eq (tgt := 1401) hx hb dL_law_869 (by decide) (fun c7 => ?_) (fun c7 => ?_)
  · rw [if_pos c7] at h
    exact wL_1401 C hargs hr hk hX hbl hB rc hrc x3 σ6 σ0 h H locs hT ls hl
  · rw [if_neg c7] at h
    exact absurd (js_rt h).1 (by decide)
set_option maxHeartbeats 4000000 in
set_option maxRecDepth 20000 in
theorem wLc_30 (C : js_C D g p m c cL_law 4 s args RL) (hargs : args = #[Value.ref b]) (hr : meth.sig.returnType = ret) (hk : meth.locks = false) (hX : va_X b L xs s s.heap) (hbl : b < s.heap.size) (hB : B + 1 = s.heap.size) (rc : Int32 → js_S → Option (Int32 × js_S)) (hrc : ∀ (x3 : Int32) (σ σ0 : js_S), rc x3 σ = some (1, σ0) → ∀ (H : Heap) (locs : List Loc), js_T D B g 419 σ s H locs → ∀ ls : Array Slot, lv_has ls 4 [(0, .ref b), (1, .ref (B + 1)), (2, .ref (B + 390)), (3, .int x3)] → W p l e room_1 s m args below meth c H locs 435 316929 (lw_Z below args s) (F0 m 18 ls [])) : ∀ (x3 : Int32) (σ σ0 : js_S), fLc_30 fu L xs rc x3 σ = some (1, σ0) → ∀ (H : Heap) (locs : List Loc), js_T D B g 419 σ s H locs → ∀ ls : Array Slot, lv_has ls 4 [(0, .ref b), (1, .ref (B + 1)), (2, .ref (B + 390)), (3, .int x3)] → W p l e room_1 s m args below meth c H locs 435 316929 (lw_Z below args s) (F0 m 874 ls []) := by
  obtain ⟨hx, hb, hml, hown, ht, hK, hNw⟩ := id C
  have hbA : ¬ (fun q => B < q) b := by show ¬ B < b; omega
  intro x3 σ σ0 h H locs hT ls hl
  unfold fLc_30 at h
  refine lv_aload_n hx hb dL_law_874 rfl (lv_at hl 1 rfl) ?_
  refine lv_aload_n hx hb dL_law_875 rfl (lv_at hl 0 rfl) ?_
  refine lv_iload_n hx hb dL_law_876 rfl (lv_at hl 3 rfl) ?_
  refine lv_iconst (v := 1) hx hb dL_law_877 (by decide) ?_
  refine lv_iadd hx hb dL_law_878 ?_
  obtain ⟨g1, h⟩ := gd_some _ h
  refine va_sld hx hb hX hbl hbA hT.2.1 (ib_in g1) dL_law_879 ?_
  refine lv_aload_n hx hb dL_law_880 rfl (lv_at hl 0 rfl) ?_
  refine lv_iload_n hx hb dL_law_881 rfl (lv_at hl 3 rfl) ?_
  refine lv_iconst (v := 2) hx hb dL_law_882 (by decide) ?_
  refine lv_iadd hx hb dL_law_883 ?_
  obtain ⟨g2, h⟩ := gd_some _ h
  refine va_sld hx hb hX hbl hbA hT.2.1 (ib_in g2) dL_law_884 ?_
  obtain ⟨r3, σ3, hc3, h⟩ := bd_some h
  refine js_backI hT (js_runV C hT cfX11 js_o11 rfl mfX11_copyTerm lk_L_137 (kX11_copyTerm js_o11 hc3) ⟨Nat.le_of_ble_eq_true rfl, Nat.le_of_ble_eq_true rfl⟩ rfl hl.1 rfl (Nat.le_of_ble_eq_true rfl) ⟨Nat.le_of_ble_eq_true rfl, Nat.le_of_ble_eq_true rfl⟩ dL_law_885) (fun H locs hT => ?_)
  refine lv_aload_n hx hb dL_law_888 rfl (lv_at hl 2 rfl) ?_
  refine lv_aload_n hx hb dL_law_889 rfl (lv_at hl 0 rfl) ?_
  refine lv_iload_n hx hb dL_law_890 rfl (lv_at hl 3 rfl) ?_
  refine lv_iconst (v := 1) hx hb dL_law_891 (by decide) ?_
  refine lv_iadd hx hb dL_law_892 ?_
  obtain ⟨g4, h⟩ := gd_some _ h
  refine va_sld hx hb hX hbl hbA hT.2.1 (ib_in g4) dL_law_893 ?_
  refine lv_aload_n hx hb dL_law_894 rfl (lv_at hl 0 rfl) ?_
  refine lv_iload_n hx hb dL_law_895 rfl (lv_at hl 3 rfl) ?_
  refine lv_iconst (v := 2) hx hb dL_law_896 (by decide) ?_
  refine lv_iadd hx hb dL_law_897 ?_
  obtain ⟨g5, h⟩ := gd_some _ h
  refine va_sld hx hb hX hbl hbA hT.2.1 (ib_in g5) dL_law_898 ?_
  obtain ⟨r6, σ6, hc6, h⟩ := bd_some h
  refine js_backI hT (js_runV C hT cfX12 js_o12 rfl mfX12_copyTerm lk_L_140 (kX12_copyTerm js_o12 hc6) ⟨Nat.le_of_ble_eq_true rfl, Nat.le_of_ble_eq_true rfl⟩ rfl hl.1 rfl (Nat.le_of_ble_eq_true rfl) ⟨Nat.le_of_ble_eq_true rfl, Nat.le_of_ble_eq_true rfl⟩ dL_law_899) (fun H locs hT => ?_)
  refine lv_icmp_eq (tgt := 1401) hx hb dL_law_902 (by decide) (fun c7 => ?_) (fun c7 => ?_)
  · rw [if_pos c7] at h
    exact wL_1401 C hargs hr hk hX hbl hB rc hrc x3 σ6 σ0 h H locs hT ls hl
  · rw [if_neg c7] at h
    exact absurd (js_rt h).1 (by decide)
set_option maxHeartbeats 4000000 in
set_option maxRecDepth 20000 in
theorem wLc_31 (C : js_C D g p m c cL_law 4 s args RL) (hargs : args = #[Value.ref b]) (hr : meth.sig.returnType = ret) (hk : meth.locks = false) (hX : va_X b L xs s s.heap) (hbl : b < s.heap.size) (hB : B + 1 = s.heap.size) (rc : Int32 → js_S → Option (Int32 × js_S)) (hrc : ∀ (x3 : Int32) (σ σ0 : js_S), rc x3 σ = some (1, σ0) → ∀ (H : Heap) (locs : List Loc), js_T D B g 419 σ s H locs → ∀ ls : Array Slot, lv_has ls 4 [(0, .ref b), (1, .ref (B + 1)), (2, .ref (B + 390)), (3, .int x3)] → W p l e room_1 s m args below meth c H locs 435 316929 (lw_Z below args s) (F0 m 18 ls [])) : ∀ (x3 : Int32) (σ σ0 : js_S), fLc_31 fu L xs rc x3 σ = some (1, σ0) → ∀ (H : Heap) (locs : List Loc), js_T D B g 419 σ s H locs → ∀ ls : Array Slot, lv_has ls 4 [(0, .ref b), (1, .ref (B + 1)), (2, .ref (B + 390)), (3, .int x3)] → W p l e room_1 s m args below meth c H locs 435 316929 (lw_Z below args s) (F0 m 907 ls []) := by
  obtain ⟨hx, hb, hml, hown, ht, hK, hNw⟩ := id C
  have hbA : ¬ (fun q => B < q) b := by show ¬ B < b; omega
  intro x3 σ σ0 h H locs hT ls hl
  unfold fLc_31 at h
  refine lv_aload_n hx hb dL_law_907 rfl (lv_at hl 1 rfl) ?_
  refine lv_aload_n hx hb dL_law_908 rfl (lv_at hl 0 rfl) ?_
  refine lv_iload_n hx hb dL_law_909 rfl (lv_at hl 3 rfl) ?_
  refine lv_iconst (v := 1) hx hb dL_law_910 (by decide) ?_
  refine lv_iadd hx hb dL_law_911 ?_
  obtain ⟨g1, h⟩ := gd_some _ h
  refine va_sld hx hb hX hbl hbA hT.2.1 (ib_in g1) dL_law_912 ?_
  refine lv_aload_n hx hb dL_law_913 rfl (lv_at hl 0 rfl) ?_
  refine lv_iload_n hx hb dL_law_914 rfl (lv_at hl 3 rfl) ?_
  refine lv_iconst (v := 2) hx hb dL_law_915 (by decide) ?_
  refine lv_iadd hx hb dL_law_916 ?_
  obtain ⟨g2, h⟩ := gd_some _ h
  refine va_sld hx hb hX hbl hbA hT.2.1 (ib_in g2) dL_law_917 ?_
  obtain ⟨r3, σ3, hc3, h⟩ := bd_some h
  refine js_backI hT (js_runV C hT cfX11 js_o11 rfl mfX11_loadLeft lk_L_141 (kX11_loadLeft js_o11 hc3) ⟨Nat.le_of_ble_eq_true rfl, Nat.le_of_ble_eq_true rfl⟩ rfl hl.1 rfl (Nat.le_of_ble_eq_true rfl) ⟨Nat.le_of_ble_eq_true rfl, Nat.le_of_ble_eq_true rfl⟩ dL_law_918) (fun H locs hT => ?_)
  refine lv_aload_n hx hb dL_law_921 rfl (lv_at hl 2 rfl) ?_
  refine lv_aload_n hx hb dL_law_922 rfl (lv_at hl 0 rfl) ?_
  refine lv_iload_n hx hb dL_law_923 rfl (lv_at hl 3 rfl) ?_
  refine lv_iconst (v := 1) hx hb dL_law_924 (by decide) ?_
  refine lv_iadd hx hb dL_law_925 ?_
  obtain ⟨g4, h⟩ := gd_some _ h
  refine va_sld hx hb hX hbl hbA hT.2.1 (ib_in g4) dL_law_926 ?_
  refine lv_aload_n hx hb dL_law_927 rfl (lv_at hl 0 rfl) ?_
  refine lv_iload_n hx hb dL_law_928 rfl (lv_at hl 3 rfl) ?_
  refine lv_iconst (v := 2) hx hb dL_law_929 (by decide) ?_
  refine lv_iadd hx hb dL_law_930 ?_
  obtain ⟨g5, h⟩ := gd_some _ h
  refine va_sld hx hb hX hbl hbA hT.2.1 (ib_in g5) dL_law_931 ?_
  obtain ⟨r6, σ6, hc6, h⟩ := bd_some h
  refine js_backI hT (js_runV C hT cfX12 js_o12 rfl mfX12_loadLeft lk_L_144 (kX12_loadLeft js_o12 hc6) ⟨Nat.le_of_ble_eq_true rfl, Nat.le_of_ble_eq_true rfl⟩ rfl hl.1 rfl (Nat.le_of_ble_eq_true rfl) ⟨Nat.le_of_ble_eq_true rfl, Nat.le_of_ble_eq_true rfl⟩ dL_law_932) (fun H locs hT => ?_)
  refine lv_icmp_eq (tgt := 1401) hx hb dL_law_935 (by decide) (fun c7 => ?_) (fun c7 => ?_)
  · rw [if_pos c7] at h
    exact wL_1401 C hargs hr hk hX hbl hB rc hrc x3 σ6 σ0 h H locs hT ls hl
  · rw [if_neg c7] at h
    exact absurd (js_rt h).1 (by decide)
set_option maxHeartbeats 4000000 in
set_option maxRecDepth 20000 in
theorem wLc_32 (C : js_C D g p m c cL_law 4 s args RL) (hargs : args = #[Value.ref b]) (hr : meth.sig.returnType = ret) (hk : meth.locks = false) (hX : va_X b L xs s s.heap) (hbl : b < s.heap.size) (hB : B + 1 = s.heap.size) (rc : Int32 → js_S → Option (Int32 × js_S)) (hrc : ∀ (x3 : Int32) (σ σ0 : js_S), rc x3 σ = some (1, σ0) → ∀ (H : Heap) (locs : List Loc), js_T D B g 419 σ s H locs → ∀ ls : Array Slot, lv_has ls 4 [(0, .ref b), (1, .ref (B + 1)), (2, .ref (B + 390)), (3, .int x3)] → W p l e room_1 s m args below meth c H locs 435 316929 (lw_Z below args s) (F0 m 18 ls [])) : ∀ (x3 : Int32) (σ σ0 : js_S), fLc_32 fu L xs rc x3 σ = some (1, σ0) → ∀ (H : Heap) (locs : List Loc), js_T D B g 419 σ s H locs → ∀ ls : Array Slot, lv_has ls 4 [(0, .ref b), (1, .ref (B + 1)), (2, .ref (B + 390)), (3, .int x3)] → W p l e room_1 s m args below meth c H locs 435 316929 (lw_Z below args s) (F0 m 940 ls []) := by
  obtain ⟨hx, hb, hml, hown, ht, hK, hNw⟩ := id C
  have hbA : ¬ (fun q => B < q) b := by show ¬ B < b; omega
  intro x3 σ σ0 h H locs hT ls hl
  unfold fLc_32 at h
  refine lv_aload_n hx hb dL_law_940 rfl (lv_at hl 1 rfl) ?_
  refine lv_aload_n hx hb dL_law_941 rfl (lv_at hl 0 rfl) ?_
  refine lv_iload_n hx hb dL_law_942 rfl (lv_at hl 3 rfl) ?_
  refine lv_iconst (v := 1) hx hb dL_law_943 (by decide) ?_
  refine lv_iadd hx hb dL_law_944 ?_
  obtain ⟨g1, h⟩ := gd_some _ h
  refine va_sld hx hb hX hbl hbA hT.2.1 (ib_in g1) dL_law_945 ?_
  refine lv_aload_n hx hb dL_law_946 rfl (lv_at hl 0 rfl) ?_
  refine lv_iload_n hx hb dL_law_947 rfl (lv_at hl 3 rfl) ?_
  refine lv_iconst (v := 2) hx hb dL_law_948 (by decide) ?_
  refine lv_iadd hx hb dL_law_949 ?_
  obtain ⟨g2, h⟩ := gd_some _ h
  refine va_sld hx hb hX hbl hbA hT.2.1 (ib_in g2) dL_law_950 ?_
  obtain ⟨r3, σ3, hc3, h⟩ := bd_some h
  refine js_backI hT (js_runV C hT cfX11 js_o11 rfl mfX11_loadRight lk_L_145 (kX11_loadRight js_o11 hc3) ⟨Nat.le_of_ble_eq_true rfl, Nat.le_of_ble_eq_true rfl⟩ rfl hl.1 rfl (Nat.le_of_ble_eq_true rfl) ⟨Nat.le_of_ble_eq_true rfl, Nat.le_of_ble_eq_true rfl⟩ dL_law_951) (fun H locs hT => ?_)
  refine lv_aload_n hx hb dL_law_954 rfl (lv_at hl 2 rfl) ?_
  refine lv_aload_n hx hb dL_law_955 rfl (lv_at hl 0 rfl) ?_
  refine lv_iload_n hx hb dL_law_956 rfl (lv_at hl 3 rfl) ?_
  refine lv_iconst (v := 1) hx hb dL_law_957 (by decide) ?_
  refine lv_iadd hx hb dL_law_958 ?_
  obtain ⟨g4, h⟩ := gd_some _ h
  refine va_sld hx hb hX hbl hbA hT.2.1 (ib_in g4) dL_law_959 ?_
  refine lv_aload_n hx hb dL_law_960 rfl (lv_at hl 0 rfl) ?_
  refine lv_iload_n hx hb dL_law_961 rfl (lv_at hl 3 rfl) ?_
  refine lv_iconst (v := 2) hx hb dL_law_962 (by decide) ?_
  refine lv_iadd hx hb dL_law_963 ?_
  obtain ⟨g5, h⟩ := gd_some _ h
  refine va_sld hx hb hX hbl hbA hT.2.1 (ib_in g5) dL_law_964 ?_
  obtain ⟨r6, σ6, hc6, h⟩ := bd_some h
  refine js_backI hT (js_runV C hT cfX12 js_o12 rfl mfX12_loadRight lk_L_148 (kX12_loadRight js_o12 hc6) ⟨Nat.le_of_ble_eq_true rfl, Nat.le_of_ble_eq_true rfl⟩ rfl hl.1 rfl (Nat.le_of_ble_eq_true rfl) ⟨Nat.le_of_ble_eq_true rfl, Nat.le_of_ble_eq_true rfl⟩ dL_law_965) (fun H locs hT => ?_)
  refine lv_icmp_eq (tgt := 1401) hx hb dL_law_968 (by decide) (fun c7 => ?_) (fun c7 => ?_)
  · rw [if_pos c7] at h
    exact wL_1401 C hargs hr hk hX hbl hB rc hrc x3 σ6 σ0 h H locs hT ls hl
  · rw [if_neg c7] at h
    exact absurd (js_rt h).1 (by decide)
set_option maxHeartbeats 4000000 in
set_option maxRecDepth 20000 in
theorem wLc_33 (C : js_C D g p m c cL_law 4 s args RL) (hargs : args = #[Value.ref b]) (hr : meth.sig.returnType = ret) (hk : meth.locks = false) (hX : va_X b L xs s s.heap) (hbl : b < s.heap.size) (hB : B + 1 = s.heap.size) (rc : Int32 → js_S → Option (Int32 × js_S)) (hrc : ∀ (x3 : Int32) (σ σ0 : js_S), rc x3 σ = some (1, σ0) → ∀ (H : Heap) (locs : List Loc), js_T D B g 419 σ s H locs → ∀ ls : Array Slot, lv_has ls 4 [(0, .ref b), (1, .ref (B + 1)), (2, .ref (B + 390)), (3, .int x3)] → W p l e room_1 s m args below meth c H locs 435 316929 (lw_Z below args s) (F0 m 18 ls [])) : ∀ (x3 : Int32) (σ σ0 : js_S), fLc_33 fu L xs rc x3 σ = some (1, σ0) → ∀ (H : Heap) (locs : List Loc), js_T D B g 419 σ s H locs → ∀ ls : Array Slot, lv_has ls 4 [(0, .ref b), (1, .ref (B + 1)), (2, .ref (B + 390)), (3, .int x3)] → W p l e room_1 s m args below meth c H locs 435 316929 (lw_Z below args s) (F0 m 973 ls []) := by
  obtain ⟨hx, hb, hml, hown, ht, hK, hNw⟩ := id C
  have hbA : ¬ (fun q => B < q) b := by show ¬ B < b; omega
  intro x3 σ σ0 h H locs hT ls hl
  unfold fLc_33 at h
  refine lv_aload_n hx hb dL_law_973 rfl (lv_at hl 1 rfl) ?_
  refine lv_aload_n hx hb dL_law_974 rfl (lv_at hl 0 rfl) ?_
  refine lv_iload_n hx hb dL_law_975 rfl (lv_at hl 3 rfl) ?_
  refine lv_iconst (v := 1) hx hb dL_law_976 (by decide) ?_
  refine lv_iadd hx hb dL_law_977 ?_
  obtain ⟨g1, h⟩ := gd_some _ h
  refine va_sld hx hb hX hbl hbA hT.2.1 (ib_in g1) dL_law_978 ?_
  refine lv_aload_n hx hb dL_law_979 rfl (lv_at hl 0 rfl) ?_
  refine lv_iload_n hx hb dL_law_980 rfl (lv_at hl 3 rfl) ?_
  refine lv_iconst (v := 2) hx hb dL_law_981 (by decide) ?_
  refine lv_iadd hx hb dL_law_982 ?_
  obtain ⟨g2, h⟩ := gd_some _ h
  refine va_sld hx hb hX hbl hbA hT.2.1 (ib_in g2) dL_law_983 ?_
  refine lv_aload_n hx hb dL_law_984 rfl (lv_at hl 0 rfl) ?_
  refine lv_iload_n hx hb dL_law_985 rfl (lv_at hl 3 rfl) ?_
  refine lv_iconst (v := 3) hx hb dL_law_986 (by decide) ?_
  refine lv_iadd hx hb dL_law_987 ?_
  obtain ⟨g3, h⟩ := gd_some _ h
  refine va_sld hx hb hX hbl hbA hT.2.1 (ib_in g3) dL_law_988 ?_
  obtain ⟨r4, σ4, hc4, h⟩ := bd_some h
  refine js_backI hT (js_runV C hT cfX11 js_o11 rfl mfX11_matches lk_L_149 (kX11_matches js_o11 hc4) ⟨Nat.le_of_ble_eq_true rfl, Nat.le_of_ble_eq_true rfl⟩ rfl hl.1 rfl (Nat.le_of_ble_eq_true rfl) ⟨Nat.le_of_ble_eq_true rfl, Nat.le_of_ble_eq_true rfl⟩ dL_law_989) (fun H locs hT => ?_)
  refine lv_aload_n hx hb dL_law_992 rfl (lv_at hl 2 rfl) ?_
  refine lv_aload_n hx hb dL_law_993 rfl (lv_at hl 0 rfl) ?_
  refine lv_iload_n hx hb dL_law_994 rfl (lv_at hl 3 rfl) ?_
  refine lv_iconst (v := 1) hx hb dL_law_995 (by decide) ?_
  refine lv_iadd hx hb dL_law_996 ?_
  obtain ⟨g5, h⟩ := gd_some _ h
  refine va_sld hx hb hX hbl hbA hT.2.1 (ib_in g5) dL_law_997 ?_
  refine lv_aload_n hx hb dL_law_998 rfl (lv_at hl 0 rfl) ?_
  refine lv_iload_n hx hb dL_law_999 rfl (lv_at hl 3 rfl) ?_
  refine lv_iconst (v := 2) hx hb dL_law_1000 (by decide) ?_
  refine lv_iadd hx hb dL_law_1001 ?_
  obtain ⟨g6, h⟩ := gd_some _ h
  refine va_sld hx hb hX hbl hbA hT.2.1 (ib_in g6) dL_law_1002 ?_
  refine lv_aload_n hx hb dL_law_1003 rfl (lv_at hl 0 rfl) ?_
  refine lv_iload_n hx hb dL_law_1004 rfl (lv_at hl 3 rfl) ?_
  refine lv_iconst (v := 3) hx hb dL_law_1005 (by decide) ?_
  refine lv_iadd hx hb dL_law_1006 ?_
  obtain ⟨g7, h⟩ := gd_some _ h
  refine va_sld hx hb hX hbl hbA hT.2.1 (ib_in g7) dL_law_1007 ?_
  obtain ⟨r8, σ8, hc8, h⟩ := bd_some h
  refine js_backI hT (js_runV C hT cfX12 js_o12 rfl mfX12_matches lk_L_152 (kX12_matches js_o12 hc8) ⟨Nat.le_of_ble_eq_true rfl, Nat.le_of_ble_eq_true rfl⟩ rfl hl.1 rfl (Nat.le_of_ble_eq_true rfl) ⟨Nat.le_of_ble_eq_true rfl, Nat.le_of_ble_eq_true rfl⟩ dL_law_1008) (fun H locs hT => ?_)
  refine lv_icmp_eq (tgt := 1401) hx hb dL_law_1011 (by decide) (fun c9 => ?_) (fun c9 => ?_)
  · rw [if_pos c9] at h
    exact wL_1401 C hargs hr hk hX hbl hB rc hrc x3 σ8 σ0 h H locs hT ls hl
  · rw [if_neg c9] at h
    exact absurd (js_rt h).1 (by decide)
set_option maxHeartbeats 4000000 in
set_option maxRecDepth 20000 in
theorem wLc_34 (C : js_C D g p m c cL_law 4 s args RL) (hargs : args = #[Value.ref b]) (hr : meth.sig.returnType = ret) (hk : meth.locks = false) (hX : va_X b L xs s s.heap) (hbl : b < s.heap.size) (hB : B + 1 = s.heap.size) (rc : Int32 → js_S → Option (Int32 × js_S)) (hrc : ∀ (x3 : Int32) (σ σ0 : js_S), rc x3 σ = some (1, σ0) → ∀ (H : Heap) (locs : List Loc), js_T D B g 419 σ s H locs → ∀ ls : Array Slot, lv_has ls 4 [(0, .ref b), (1, .ref (B + 1)), (2, .ref (B + 390)), (3, .int x3)] → W p l e room_1 s m args below meth c H locs 435 316929 (lw_Z below args s) (F0 m 18 ls [])) : ∀ (x3 : Int32) (σ σ0 : js_S), fLc_34 fu L xs rc x3 σ = some (1, σ0) → ∀ (H : Heap) (locs : List Loc), js_T D B g 419 σ s H locs → ∀ ls : Array Slot, lv_has ls 4 [(0, .ref b), (1, .ref (B + 1)), (2, .ref (B + 390)), (3, .int x3)] → W p l e room_1 s m args below meth c H locs 435 316929 (lw_Z below args s) (F0 m 1016 ls []) := by
  obtain ⟨hx, hb, hml, hown, ht, hK, hNw⟩ := id C
  have hbA : ¬ (fun q => B < q) b := by show ¬ B < b; omega
  intro x3 σ σ0 h H locs hT ls hl
  unfold fLc_34 at h
  refine lv_aload_n hx hb dL_law_1016 rfl (lv_at hl 1 rfl) ?_
  refine lv_aload_n hx hb dL_law_1017 rfl (lv_at hl 0 rfl) ?_
  refine lv_iload_n hx hb dL_law_1018 rfl (lv_at hl 3 rfl) ?_
  refine lv_iconst (v := 1) hx hb dL_law_1019 (by decide) ?_
  refine lv_iadd hx hb dL_law_1020 ?_
  obtain ⟨g1, h⟩ := gd_some _ h
  refine va_sld hx hb hX hbl hbA hT.2.1 (ib_in g1) dL_law_1021 ?_
  obtain ⟨r2, σ2, hc2, h⟩ := bd_some h
  refine js_backI hT (js_runV C hT cfX11 js_o11 rfl mfX11_redexCount lk_L_153 (kX11_redexCount js_o11 hc2) ⟨Nat.le_of_ble_eq_true rfl, Nat.le_of_ble_eq_true rfl⟩ rfl hl.1 rfl (Nat.le_of_ble_eq_true rfl) ⟨Nat.le_of_ble_eq_true rfl, Nat.le_of_ble_eq_true rfl⟩ dL_law_1022) (fun H locs hT => ?_)
  refine lv_aload_n hx hb dL_law_1025 rfl (lv_at hl 2 rfl) ?_
  refine lv_aload_n hx hb dL_law_1026 rfl (lv_at hl 0 rfl) ?_
  refine lv_iload_n hx hb dL_law_1027 rfl (lv_at hl 3 rfl) ?_
  refine lv_iconst (v := 1) hx hb dL_law_1028 (by decide) ?_
  refine lv_iadd hx hb dL_law_1029 ?_
  obtain ⟨g3, h⟩ := gd_some _ h
  refine va_sld hx hb hX hbl hbA hT.2.1 (ib_in g3) dL_law_1030 ?_
  obtain ⟨r4, σ4, hc4, h⟩ := bd_some h
  refine js_backI hT (js_runV C hT cfX12 js_o12 rfl mfX12_redexCount lk_L_156 (kX12_redexCount js_o12 hc4) ⟨Nat.le_of_ble_eq_true rfl, Nat.le_of_ble_eq_true rfl⟩ rfl hl.1 rfl (Nat.le_of_ble_eq_true rfl) ⟨Nat.le_of_ble_eq_true rfl, Nat.le_of_ble_eq_true rfl⟩ dL_law_1031) (fun H locs hT => ?_)
  refine lv_icmp_eq (tgt := 1401) hx hb dL_law_1034 (by decide) (fun c5 => ?_) (fun c5 => ?_)
  · rw [if_pos c5] at h
    exact wL_1401 C hargs hr hk hX hbl hB rc hrc x3 σ4 σ0 h H locs hT ls hl
  · rw [if_neg c5] at h
    exact absurd (js_rt h).1 (by decide)
set_option maxHeartbeats 4000000 in
set_option maxRecDepth 20000 in
theorem wLc_35 (C : js_C D g p m c cL_law 4 s args RL) (hargs : args = #[Value.ref b]) (hr : meth.sig.returnType = ret) (hk : meth.locks = false) (hX : va_X b L xs s s.heap) (hbl : b < s.heap.size) (hB : B + 1 = s.heap.size) (rc : Int32 → js_S → Option (Int32 × js_S)) (hrc : ∀ (x3 : Int32) (σ σ0 : js_S), rc x3 σ = some (1, σ0) → ∀ (H : Heap) (locs : List Loc), js_T D B g 419 σ s H locs → ∀ ls : Array Slot, lv_has ls 4 [(0, .ref b), (1, .ref (B + 1)), (2, .ref (B + 390)), (3, .int x3)] → W p l e room_1 s m args below meth c H locs 435 316929 (lw_Z below args s) (F0 m 18 ls [])) : ∀ (x3 : Int32) (σ σ0 : js_S), fLc_35 fu L xs rc x3 σ = some (1, σ0) → ∀ (H : Heap) (locs : List Loc), js_T D B g 419 σ s H locs → ∀ ls : Array Slot, lv_has ls 4 [(0, .ref b), (1, .ref (B + 1)), (2, .ref (B + 390)), (3, .int x3)] → W p l e room_1 s m args below meth c H locs 435 316929 (lw_Z below args s) (F0 m 1039 ls []) := by
  obtain ⟨hx, hb, hml, hown, ht, hK, hNw⟩ := id C
  have hbA : ¬ (fun q => B < q) b := by show ¬ B < b; omega
  intro x3 σ σ0 h H locs hT ls hl
  unfold fLc_35 at h
  refine lv_aload_n hx hb dL_law_1039 rfl (lv_at hl 1 rfl) ?_
  refine lv_aload_n hx hb dL_law_1040 rfl (lv_at hl 0 rfl) ?_
  refine lv_iload_n hx hb dL_law_1041 rfl (lv_at hl 3 rfl) ?_
  refine lv_iconst (v := 1) hx hb dL_law_1042 (by decide) ?_
  refine lv_iadd hx hb dL_law_1043 ?_
  obtain ⟨g1, h⟩ := gd_some _ h
  refine va_sld hx hb hX hbl hbA hT.2.1 (ib_in g1) dL_law_1044 ?_
  refine lv_aload_n hx hb dL_law_1045 rfl (lv_at hl 0 rfl) ?_
  refine lv_iload_n hx hb dL_law_1046 rfl (lv_at hl 3 rfl) ?_
  refine lv_iconst (v := 2) hx hb dL_law_1047 (by decide) ?_
  refine lv_iadd hx hb dL_law_1048 ?_
  obtain ⟨g2, h⟩ := gd_some _ h
  refine va_sld hx hb hX hbl hbA hT.2.1 (ib_in g2) dL_law_1049 ?_
  obtain ⟨r3, σ3, hc3, h⟩ := bd_some h
  refine js_backI hT (js_runV C hT cfX11 js_o11 rfl mfX11_redexAt lk_L_157 (kX11_redexAt js_o11 hc3) ⟨Nat.le_of_ble_eq_true rfl, Nat.le_of_ble_eq_true rfl⟩ rfl hl.1 rfl (Nat.le_of_ble_eq_true rfl) ⟨Nat.le_of_ble_eq_true rfl, Nat.le_of_ble_eq_true rfl⟩ dL_law_1050) (fun H locs hT => ?_)
  refine lv_aload_n hx hb dL_law_1053 rfl (lv_at hl 2 rfl) ?_
  refine lv_aload_n hx hb dL_law_1054 rfl (lv_at hl 0 rfl) ?_
  refine lv_iload_n hx hb dL_law_1055 rfl (lv_at hl 3 rfl) ?_
  refine lv_iconst (v := 1) hx hb dL_law_1056 (by decide) ?_
  refine lv_iadd hx hb dL_law_1057 ?_
  obtain ⟨g4, h⟩ := gd_some _ h
  refine va_sld hx hb hX hbl hbA hT.2.1 (ib_in g4) dL_law_1058 ?_
  refine lv_aload_n hx hb dL_law_1059 rfl (lv_at hl 0 rfl) ?_
  refine lv_iload_n hx hb dL_law_1060 rfl (lv_at hl 3 rfl) ?_
  refine lv_iconst (v := 2) hx hb dL_law_1061 (by decide) ?_
  refine lv_iadd hx hb dL_law_1062 ?_
  obtain ⟨g5, h⟩ := gd_some _ h
  refine va_sld hx hb hX hbl hbA hT.2.1 (ib_in g5) dL_law_1063 ?_
  obtain ⟨r6, σ6, hc6, h⟩ := bd_some h
  refine js_backI hT (js_runV C hT cfX12 js_o12 rfl mfX12_redexAt lk_L_160 (kX12_redexAt js_o12 hc6) ⟨Nat.le_of_ble_eq_true rfl, Nat.le_of_ble_eq_true rfl⟩ rfl hl.1 rfl (Nat.le_of_ble_eq_true rfl) ⟨Nat.le_of_ble_eq_true rfl, Nat.le_of_ble_eq_true rfl⟩ dL_law_1064) (fun H locs hT => ?_)
  refine lv_icmp_eq (tgt := 1401) hx hb dL_law_1067 (by decide) (fun c7 => ?_) (fun c7 => ?_)
  · rw [if_pos c7] at h
    exact wL_1401 C hargs hr hk hX hbl hB rc hrc x3 σ6 σ0 h H locs hT ls hl
  · rw [if_neg c7] at h
    exact absurd (js_rt h).1 (by decide)
set_option maxHeartbeats 4000000 in
set_option maxRecDepth 20000 in
theorem wLc_36 (C : js_C D g p m c cL_law 4 s args RL) (hargs : args = #[Value.ref b]) (hr : meth.sig.returnType = ret) (hk : meth.locks = false) (hX : va_X b L xs s s.heap) (hbl : b < s.heap.size) (hB : B + 1 = s.heap.size) (rc : Int32 → js_S → Option (Int32 × js_S)) (hrc : ∀ (x3 : Int32) (σ σ0 : js_S), rc x3 σ = some (1, σ0) → ∀ (H : Heap) (locs : List Loc), js_T D B g 419 σ s H locs → ∀ ls : Array Slot, lv_has ls 4 [(0, .ref b), (1, .ref (B + 1)), (2, .ref (B + 390)), (3, .int x3)] → W p l e room_1 s m args below meth c H locs 435 316929 (lw_Z below args s) (F0 m 18 ls [])) : ∀ (x3 : Int32) (σ σ0 : js_S), fLc_36 fu L xs rc x3 σ = some (1, σ0) → ∀ (H : Heap) (locs : List Loc), js_T D B g 419 σ s H locs → ∀ ls : Array Slot, lv_has ls 4 [(0, .ref b), (1, .ref (B + 1)), (2, .ref (B + 390)), (3, .int x3)] → W p l e room_1 s m args below meth c H locs 435 316929 (lw_Z below args s) (F0 m 1072 ls []) := by
  obtain ⟨hx, hb, hml, hown, ht, hK, hNw⟩ := id C
  have hbA : ¬ (fun q => B < q) b := by show ¬ B < b; omega
  intro x3 σ σ0 h H locs hT ls hl
  unfold fLc_36 at h
  refine lv_aload_n hx hb dL_law_1072 rfl (lv_at hl 1 rfl) ?_
  refine lv_aload_n hx hb dL_law_1073 rfl (lv_at hl 0 rfl) ?_
  refine lv_iload_n hx hb dL_law_1074 rfl (lv_at hl 3 rfl) ?_
  refine lv_iconst (v := 1) hx hb dL_law_1075 (by decide) ?_
  refine lv_iadd hx hb dL_law_1076 ?_
  obtain ⟨g1, h⟩ := gd_some _ h
  refine va_sld hx hb hX hbl hbA hT.2.1 (ib_in g1) dL_law_1077 ?_
  refine lv_aload_n hx hb dL_law_1078 rfl (lv_at hl 0 rfl) ?_
  refine lv_iload_n hx hb dL_law_1079 rfl (lv_at hl 3 rfl) ?_
  refine lv_iconst (v := 2) hx hb dL_law_1080 (by decide) ?_
  refine lv_iadd hx hb dL_law_1081 ?_
  obtain ⟨g2, h⟩ := gd_some _ h
  refine va_sld hx hb hX hbl hbA hT.2.1 (ib_in g2) dL_law_1082 ?_
  obtain ⟨r3, σ3, hc3, h⟩ := bd_some h
  refine js_backI hT (js_runV C hT cfX11 js_o11 rfl mfX11_rewriteAt lk_L_161 (kX11_rewriteAt js_o11 hc3) ⟨Nat.le_of_ble_eq_true rfl, Nat.le_of_ble_eq_true rfl⟩ rfl hl.1 rfl (Nat.le_of_ble_eq_true rfl) ⟨Nat.le_of_ble_eq_true rfl, Nat.le_of_ble_eq_true rfl⟩ dL_law_1083) (fun H locs hT => ?_)
  refine lv_aload_n hx hb dL_law_1086 rfl (lv_at hl 2 rfl) ?_
  refine lv_aload_n hx hb dL_law_1087 rfl (lv_at hl 0 rfl) ?_
  refine lv_iload_n hx hb dL_law_1088 rfl (lv_at hl 3 rfl) ?_
  refine lv_iconst (v := 1) hx hb dL_law_1089 (by decide) ?_
  refine lv_iadd hx hb dL_law_1090 ?_
  obtain ⟨g4, h⟩ := gd_some _ h
  refine va_sld hx hb hX hbl hbA hT.2.1 (ib_in g4) dL_law_1091 ?_
  refine lv_aload_n hx hb dL_law_1092 rfl (lv_at hl 0 rfl) ?_
  refine lv_iload_n hx hb dL_law_1093 rfl (lv_at hl 3 rfl) ?_
  refine lv_iconst (v := 2) hx hb dL_law_1094 (by decide) ?_
  refine lv_iadd hx hb dL_law_1095 ?_
  obtain ⟨g5, h⟩ := gd_some _ h
  refine va_sld hx hb hX hbl hbA hT.2.1 (ib_in g5) dL_law_1096 ?_
  obtain ⟨r6, σ6, hc6, h⟩ := bd_some h
  refine js_backI hT (js_runV C hT cfX12 js_o12 rfl mfX12_rewriteAt lk_L_164 (kX12_rewriteAt js_o12 hc6) ⟨Nat.le_of_ble_eq_true rfl, Nat.le_of_ble_eq_true rfl⟩ rfl hl.1 rfl (Nat.le_of_ble_eq_true rfl) ⟨Nat.le_of_ble_eq_true rfl, Nat.le_of_ble_eq_true rfl⟩ dL_law_1097) (fun H locs hT => ?_)
  refine lv_icmp_eq (tgt := 1401) hx hb dL_law_1100 (by decide) (fun c7 => ?_) (fun c7 => ?_)
  · rw [if_pos c7] at h
    exact wL_1401 C hargs hr hk hX hbl hB rc hrc x3 σ6 σ0 h H locs hT ls hl
  · rw [if_neg c7] at h
    exact absurd (js_rt h).1 (by decide)
set_option maxHeartbeats 4000000 in
set_option maxRecDepth 20000 in
theorem wLc_37 (C : js_C D g p m c cL_law 4 s args RL) (hargs : args = #[Value.ref b]) (hr : meth.sig.returnType = ret) (hk : meth.locks = false) (hX : va_X b L xs s s.heap) (hbl : b < s.heap.size) (hB : B + 1 = s.heap.size) (rc : Int32 → js_S → Option (Int32 × js_S)) (hrc : ∀ (x3 : Int32) (σ σ0 : js_S), rc x3 σ = some (1, σ0) → ∀ (H : Heap) (locs : List Loc), js_T D B g 419 σ s H locs → ∀ ls : Array Slot, lv_has ls 4 [(0, .ref b), (1, .ref (B + 1)), (2, .ref (B + 390)), (3, .int x3)] → W p l e room_1 s m args below meth c H locs 435 316929 (lw_Z below args s) (F0 m 18 ls [])) : ∀ (x3 : Int32) (σ σ0 : js_S), fLc_37 fu L xs rc x3 σ = some (1, σ0) → ∀ (H : Heap) (locs : List Loc), js_T D B g 419 σ s H locs → ∀ ls : Array Slot, lv_has ls 4 [(0, .ref b), (1, .ref (B + 1)), (2, .ref (B + 390)), (3, .int x3)] → W p l e room_1 s m args below meth c H locs 435 316929 (lw_Z below args s) (F0 m 1105 ls []) := by
  obtain ⟨hx, hb, hml, hown, ht, hK, hNw⟩ := id C
  have hbA : ¬ (fun q => B < q) b := by show ¬ B < b; omega
  intro x3 σ σ0 h H locs hT ls hl
  unfold fLc_37 at h
  refine lv_aload_n hx hb dL_law_1105 rfl (lv_at hl 1 rfl) ?_
  refine lv_aload_n hx hb dL_law_1106 rfl (lv_at hl 0 rfl) ?_
  refine lv_iload_n hx hb dL_law_1107 rfl (lv_at hl 3 rfl) ?_
  refine lv_iconst (v := 1) hx hb dL_law_1108 (by decide) ?_
  refine lv_iadd hx hb dL_law_1109 ?_
  obtain ⟨g1, h⟩ := gd_some _ h
  refine va_sld hx hb hX hbl hbA hT.2.1 (ib_in g1) dL_law_1110 ?_
  refine lv_aload_n hx hb dL_law_1111 rfl (lv_at hl 0 rfl) ?_
  refine lv_iload_n hx hb dL_law_1112 rfl (lv_at hl 3 rfl) ?_
  refine lv_iconst (v := 2) hx hb dL_law_1113 (by decide) ?_
  refine lv_iadd hx hb dL_law_1114 ?_
  obtain ⟨g2, h⟩ := gd_some _ h
  refine va_sld hx hb hX hbl hbA hT.2.1 (ib_in g2) dL_law_1115 ?_
  obtain ⟨r3, σ3, hc3, h⟩ := bd_some h
  refine js_backI hT (js_runV C hT cfX11 js_o11 rfl mfX11_rewriteOutermost lk_L_165 (kX11_rewriteOutermost js_o11 hc3) ⟨Nat.le_of_ble_eq_true rfl, Nat.le_of_ble_eq_true rfl⟩ rfl hl.1 rfl (Nat.le_of_ble_eq_true rfl) ⟨Nat.le_of_ble_eq_true rfl, Nat.le_of_ble_eq_true rfl⟩ dL_law_1116) (fun H locs hT => ?_)
  refine lv_aload_n hx hb dL_law_1119 rfl (lv_at hl 2 rfl) ?_
  refine lv_aload_n hx hb dL_law_1120 rfl (lv_at hl 0 rfl) ?_
  refine lv_iload_n hx hb dL_law_1121 rfl (lv_at hl 3 rfl) ?_
  refine lv_iconst (v := 1) hx hb dL_law_1122 (by decide) ?_
  refine lv_iadd hx hb dL_law_1123 ?_
  obtain ⟨g4, h⟩ := gd_some _ h
  refine va_sld hx hb hX hbl hbA hT.2.1 (ib_in g4) dL_law_1124 ?_
  refine lv_aload_n hx hb dL_law_1125 rfl (lv_at hl 0 rfl) ?_
  refine lv_iload_n hx hb dL_law_1126 rfl (lv_at hl 3 rfl) ?_
  refine lv_iconst (v := 2) hx hb dL_law_1127 (by decide) ?_
  refine lv_iadd hx hb dL_law_1128 ?_
  obtain ⟨g5, h⟩ := gd_some _ h
  refine va_sld hx hb hX hbl hbA hT.2.1 (ib_in g5) dL_law_1129 ?_
  obtain ⟨r6, σ6, hc6, h⟩ := bd_some h
  refine js_backI hT (js_runV C hT cfX12 js_o12 rfl mfX12_rewriteOutermost lk_L_168 (kX12_rewriteOutermost js_o12 hc6) ⟨Nat.le_of_ble_eq_true rfl, Nat.le_of_ble_eq_true rfl⟩ rfl hl.1 rfl (Nat.le_of_ble_eq_true rfl) ⟨Nat.le_of_ble_eq_true rfl, Nat.le_of_ble_eq_true rfl⟩ dL_law_1130) (fun H locs hT => ?_)
  refine lv_icmp_eq (tgt := 1401) hx hb dL_law_1133 (by decide) (fun c7 => ?_) (fun c7 => ?_)
  · rw [if_pos c7] at h
    exact wL_1401 C hargs hr hk hX hbl hB rc hrc x3 σ6 σ0 h H locs hT ls hl
  · rw [if_neg c7] at h
    exact absurd (js_rt h).1 (by decide)
set_option maxHeartbeats 4000000 in
set_option maxRecDepth 20000 in
theorem wLc_38 (C : js_C D g p m c cL_law 4 s args RL) (hargs : args = #[Value.ref b]) (hr : meth.sig.returnType = ret) (hk : meth.locks = false) (hX : va_X b L xs s s.heap) (hbl : b < s.heap.size) (hB : B + 1 = s.heap.size) (rc : Int32 → js_S → Option (Int32 × js_S)) (hrc : ∀ (x3 : Int32) (σ σ0 : js_S), rc x3 σ = some (1, σ0) → ∀ (H : Heap) (locs : List Loc), js_T D B g 419 σ s H locs → ∀ ls : Array Slot, lv_has ls 4 [(0, .ref b), (1, .ref (B + 1)), (2, .ref (B + 390)), (3, .int x3)] → W p l e room_1 s m args below meth c H locs 435 316929 (lw_Z below args s) (F0 m 18 ls [])) : ∀ (x3 : Int32) (σ σ0 : js_S), fLc_38 fu L xs rc x3 σ = some (1, σ0) → ∀ (H : Heap) (locs : List Loc), js_T D B g 419 σ s H locs → ∀ ls : Array Slot, lv_has ls 4 [(0, .ref b), (1, .ref (B + 1)), (2, .ref (B + 390)), (3, .int x3)] → W p l e room_1 s m args below meth c H locs 435 316929 (lw_Z below args s) (F0 m 1138 ls []) := by
  obtain ⟨hx, hb, hml, hown, ht, hK, hNw⟩ := id C
  have hbA : ¬ (fun q => B < q) b := by show ¬ B < b; omega
  intro x3 σ σ0 h H locs hT ls hl
  unfold fLc_38 at h
  refine lv_aload_n hx hb dL_law_1138 rfl (lv_at hl 1 rfl) ?_
  refine lv_aload_n hx hb dL_law_1139 rfl (lv_at hl 0 rfl) ?_
  refine lv_iload_n hx hb dL_law_1140 rfl (lv_at hl 3 rfl) ?_
  refine lv_iconst (v := 1) hx hb dL_law_1141 (by decide) ?_
  refine lv_iadd hx hb dL_law_1142 ?_
  obtain ⟨g1, h⟩ := gd_some _ h
  refine va_sld hx hb hX hbl hbA hT.2.1 (ib_in g1) dL_law_1143 ?_
  refine lv_aload_n hx hb dL_law_1144 rfl (lv_at hl 0 rfl) ?_
  refine lv_iload_n hx hb dL_law_1145 rfl (lv_at hl 3 rfl) ?_
  refine lv_iconst (v := 2) hx hb dL_law_1146 (by decide) ?_
  refine lv_iadd hx hb dL_law_1147 ?_
  obtain ⟨g2, h⟩ := gd_some _ h
  refine va_sld hx hb hX hbl hbA hT.2.1 (ib_in g2) dL_law_1148 ?_
  obtain ⟨r3, σ3, hc3, h⟩ := bd_some h
  refine js_backI hT (js_runV C hT cfX11 js_o11 rfl mfX11_findLoop lk_L_169 (kX11_findLoop js_o11 hc3) ⟨Nat.le_of_ble_eq_true rfl, Nat.le_of_ble_eq_true rfl⟩ rfl hl.1 rfl (Nat.le_of_ble_eq_true rfl) ⟨Nat.le_of_ble_eq_true rfl, Nat.le_of_ble_eq_true rfl⟩ dL_law_1149) (fun H locs hT => ?_)
  refine lv_aload_n hx hb dL_law_1152 rfl (lv_at hl 2 rfl) ?_
  refine lv_aload_n hx hb dL_law_1153 rfl (lv_at hl 0 rfl) ?_
  refine lv_iload_n hx hb dL_law_1154 rfl (lv_at hl 3 rfl) ?_
  refine lv_iconst (v := 1) hx hb dL_law_1155 (by decide) ?_
  refine lv_iadd hx hb dL_law_1156 ?_
  obtain ⟨g4, h⟩ := gd_some _ h
  refine va_sld hx hb hX hbl hbA hT.2.1 (ib_in g4) dL_law_1157 ?_
  refine lv_aload_n hx hb dL_law_1158 rfl (lv_at hl 0 rfl) ?_
  refine lv_iload_n hx hb dL_law_1159 rfl (lv_at hl 3 rfl) ?_
  refine lv_iconst (v := 2) hx hb dL_law_1160 (by decide) ?_
  refine lv_iadd hx hb dL_law_1161 ?_
  obtain ⟨g5, h⟩ := gd_some _ h
  refine va_sld hx hb hX hbl hbA hT.2.1 (ib_in g5) dL_law_1162 ?_
  obtain ⟨r6, σ6, hc6, h⟩ := bd_some h
  refine js_backI hT (js_runV C hT cfX12 js_o12 rfl mfX12_findLoop lk_L_172 (kX12_findLoop js_o12 hc6) ⟨Nat.le_of_ble_eq_true rfl, Nat.le_of_ble_eq_true rfl⟩ rfl hl.1 rfl (Nat.le_of_ble_eq_true rfl) ⟨Nat.le_of_ble_eq_true rfl, Nat.le_of_ble_eq_true rfl⟩ dL_law_1163) (fun H locs hT => ?_)
  refine lv_icmp_eq (tgt := 1401) hx hb dL_law_1166 (by decide) (fun c7 => ?_) (fun c7 => ?_)
  · rw [if_pos c7] at h
    exact wL_1401 C hargs hr hk hX hbl hB rc hrc x3 σ6 σ0 h H locs hT ls hl
  · rw [if_neg c7] at h
    exact absurd (js_rt h).1 (by decide)
set_option maxHeartbeats 4000000 in
set_option maxRecDepth 20000 in
theorem wLc_39 (C : js_C D g p m c cL_law 4 s args RL) (hargs : args = #[Value.ref b]) (hr : meth.sig.returnType = ret) (hk : meth.locks = false) (hX : va_X b L xs s s.heap) (hbl : b < s.heap.size) (hB : B + 1 = s.heap.size) (rc : Int32 → js_S → Option (Int32 × js_S)) (hrc : ∀ (x3 : Int32) (σ σ0 : js_S), rc x3 σ = some (1, σ0) → ∀ (H : Heap) (locs : List Loc), js_T D B g 419 σ s H locs → ∀ ls : Array Slot, lv_has ls 4 [(0, .ref b), (1, .ref (B + 1)), (2, .ref (B + 390)), (3, .int x3)] → W p l e room_1 s m args below meth c H locs 435 316929 (lw_Z below args s) (F0 m 18 ls [])) : ∀ (x3 : Int32) (σ σ0 : js_S), fLc_39 fu L xs rc x3 σ = some (1, σ0) → ∀ (H : Heap) (locs : List Loc), js_T D B g 419 σ s H locs → ∀ ls : Array Slot, lv_has ls 4 [(0, .ref b), (1, .ref (B + 1)), (2, .ref (B + 390)), (3, .int x3)] → W p l e room_1 s m args below meth c H locs 435 316929 (lw_Z below args s) (F0 m 1171 ls []) := by
  obtain ⟨hx, hb, hml, hown, ht, hK, hNw⟩ := id C
  have hbA : ¬ (fun q => B < q) b := by show ¬ B < b; omega
  intro x3 σ σ0 h H locs hT ls hl
  unfold fLc_39 at h
  refine lv_aload_n hx hb dL_law_1171 rfl (lv_at hl 1 rfl) ?_
  refine lv_aload_n hx hb dL_law_1172 rfl (lv_at hl 0 rfl) ?_
  refine lv_iload_n hx hb dL_law_1173 rfl (lv_at hl 3 rfl) ?_
  refine lv_iconst (v := 1) hx hb dL_law_1174 (by decide) ?_
  refine lv_iadd hx hb dL_law_1175 ?_
  obtain ⟨g1, h⟩ := gd_some _ h
  refine va_sld hx hb hX hbl hbA hT.2.1 (ib_in g1) dL_law_1176 ?_
  refine lv_aload_n hx hb dL_law_1177 rfl (lv_at hl 0 rfl) ?_
  refine lv_iload_n hx hb dL_law_1178 rfl (lv_at hl 3 rfl) ?_
  refine lv_iconst (v := 2) hx hb dL_law_1179 (by decide) ?_
  refine lv_iadd hx hb dL_law_1180 ?_
  obtain ⟨g2, h⟩ := gd_some _ h
  refine va_sld hx hb hX hbl hbA hT.2.1 (ib_in g2) dL_law_1181 ?_
  obtain ⟨r3, σ3, hc3, h⟩ := bd_some h
  refine js_backI hT (js_runV C hT cfX11 js_o11 rfl mfX11_exploredCount lk_L_173 (kX11_exploredCount js_o11 hc3) ⟨Nat.le_of_ble_eq_true rfl, Nat.le_of_ble_eq_true rfl⟩ rfl hl.1 rfl (Nat.le_of_ble_eq_true rfl) ⟨Nat.le_of_ble_eq_true rfl, Nat.le_of_ble_eq_true rfl⟩ dL_law_1182) (fun H locs hT => ?_)
  refine lv_aload_n hx hb dL_law_1185 rfl (lv_at hl 2 rfl) ?_
  refine lv_aload_n hx hb dL_law_1186 rfl (lv_at hl 0 rfl) ?_
  refine lv_iload_n hx hb dL_law_1187 rfl (lv_at hl 3 rfl) ?_
  refine lv_iconst (v := 1) hx hb dL_law_1188 (by decide) ?_
  refine lv_iadd hx hb dL_law_1189 ?_
  obtain ⟨g4, h⟩ := gd_some _ h
  refine va_sld hx hb hX hbl hbA hT.2.1 (ib_in g4) dL_law_1190 ?_
  refine lv_aload_n hx hb dL_law_1191 rfl (lv_at hl 0 rfl) ?_
  refine lv_iload_n hx hb dL_law_1192 rfl (lv_at hl 3 rfl) ?_
  refine lv_iconst (v := 2) hx hb dL_law_1193 (by decide) ?_
  refine lv_iadd hx hb dL_law_1194 ?_
  obtain ⟨g5, h⟩ := gd_some _ h
  refine va_sld hx hb hX hbl hbA hT.2.1 (ib_in g5) dL_law_1195 ?_
  obtain ⟨r6, σ6, hc6, h⟩ := bd_some h
  refine js_backI hT (js_runV C hT cfX12 js_o12 rfl mfX12_exploredCount lk_L_176 (kX12_exploredCount js_o12 hc6) ⟨Nat.le_of_ble_eq_true rfl, Nat.le_of_ble_eq_true rfl⟩ rfl hl.1 rfl (Nat.le_of_ble_eq_true rfl) ⟨Nat.le_of_ble_eq_true rfl, Nat.le_of_ble_eq_true rfl⟩ dL_law_1196) (fun H locs hT => ?_)
  refine lv_icmp_eq (tgt := 1401) hx hb dL_law_1199 (by decide) (fun c7 => ?_) (fun c7 => ?_)
  · rw [if_pos c7] at h
    exact wL_1401 C hargs hr hk hX hbl hB rc hrc x3 σ6 σ0 h H locs hT ls hl
  · rw [if_neg c7] at h
    exact absurd (js_rt h).1 (by decide)
set_option maxHeartbeats 4000000 in
set_option maxRecDepth 20000 in
theorem wLc_40 (C : js_C D g p m c cL_law 4 s args RL) (hargs : args = #[Value.ref b]) (hr : meth.sig.returnType = ret) (hk : meth.locks = false) (hX : va_X b L xs s s.heap) (hbl : b < s.heap.size) (hB : B + 1 = s.heap.size) (rc : Int32 → js_S → Option (Int32 × js_S)) (hrc : ∀ (x3 : Int32) (σ σ0 : js_S), rc x3 σ = some (1, σ0) → ∀ (H : Heap) (locs : List Loc), js_T D B g 419 σ s H locs → ∀ ls : Array Slot, lv_has ls 4 [(0, .ref b), (1, .ref (B + 1)), (2, .ref (B + 390)), (3, .int x3)] → W p l e room_1 s m args below meth c H locs 435 316929 (lw_Z below args s) (F0 m 18 ls [])) : ∀ (x3 : Int32) (σ σ0 : js_S), fLc_40 fu L xs rc x3 σ = some (1, σ0) → ∀ (H : Heap) (locs : List Loc), js_T D B g 419 σ s H locs → ∀ ls : Array Slot, lv_has ls 4 [(0, .ref b), (1, .ref (B + 1)), (2, .ref (B + 390)), (3, .int x3)] → W p l e room_1 s m args below meth c H locs 435 316929 (lw_Z below args s) (F0 m 1204 ls []) := by
  obtain ⟨hx, hb, hml, hown, ht, hK, hNw⟩ := id C
  have hbA : ¬ (fun q => B < q) b := by show ¬ B < b; omega
  intro x3 σ σ0 h H locs hT ls hl
  unfold fLc_40 at h
  refine lv_aload_n hx hb dL_law_1204 rfl (lv_at hl 1 rfl) ?_
  refine lv_aload_n hx hb dL_law_1205 rfl (lv_at hl 0 rfl) ?_
  refine lv_iload_n hx hb dL_law_1206 rfl (lv_at hl 3 rfl) ?_
  refine lv_iconst (v := 1) hx hb dL_law_1207 (by decide) ?_
  refine lv_iadd hx hb dL_law_1208 ?_
  obtain ⟨g1, h⟩ := gd_some _ h
  refine va_sld hx hb hX hbl hbA hT.2.1 (ib_in g1) dL_law_1209 ?_
  refine lv_aload_n hx hb dL_law_1210 rfl (lv_at hl 0 rfl) ?_
  refine lv_iload_n hx hb dL_law_1211 rfl (lv_at hl 3 rfl) ?_
  refine lv_iconst (v := 2) hx hb dL_law_1212 (by decide) ?_
  refine lv_iadd hx hb dL_law_1213 ?_
  obtain ⟨g2, h⟩ := gd_some _ h
  refine va_sld hx hb hX hbl hbA hT.2.1 (ib_in g2) dL_law_1214 ?_
  obtain ⟨r3, σ3, hc3, h⟩ := bd_some h
  refine js_backI hT (js_runV C hT cfX11 js_o11 rfl mfX11_exploredNormalForms lk_L_177 (kX11_exploredNormalForms js_o11 hc3) ⟨Nat.le_of_ble_eq_true rfl, Nat.le_of_ble_eq_true rfl⟩ rfl hl.1 rfl (Nat.le_of_ble_eq_true rfl) ⟨Nat.le_of_ble_eq_true rfl, Nat.le_of_ble_eq_true rfl⟩ dL_law_1215) (fun H locs hT => ?_)
  refine lv_aload_n hx hb dL_law_1218 rfl (lv_at hl 2 rfl) ?_
  refine lv_aload_n hx hb dL_law_1219 rfl (lv_at hl 0 rfl) ?_
  refine lv_iload_n hx hb dL_law_1220 rfl (lv_at hl 3 rfl) ?_
  refine lv_iconst (v := 1) hx hb dL_law_1221 (by decide) ?_
  refine lv_iadd hx hb dL_law_1222 ?_
  obtain ⟨g4, h⟩ := gd_some _ h
  refine va_sld hx hb hX hbl hbA hT.2.1 (ib_in g4) dL_law_1223 ?_
  refine lv_aload_n hx hb dL_law_1224 rfl (lv_at hl 0 rfl) ?_
  refine lv_iload_n hx hb dL_law_1225 rfl (lv_at hl 3 rfl) ?_
  refine lv_iconst (v := 2) hx hb dL_law_1226 (by decide) ?_
  refine lv_iadd hx hb dL_law_1227 ?_
  obtain ⟨g5, h⟩ := gd_some _ h
  refine va_sld hx hb hX hbl hbA hT.2.1 (ib_in g5) dL_law_1228 ?_
  obtain ⟨r6, σ6, hc6, h⟩ := bd_some h
  refine js_backI hT (js_runV C hT cfX12 js_o12 rfl mfX12_exploredNormalForms lk_L_180 (kX12_exploredNormalForms js_o12 hc6) ⟨Nat.le_of_ble_eq_true rfl, Nat.le_of_ble_eq_true rfl⟩ rfl hl.1 rfl (Nat.le_of_ble_eq_true rfl) ⟨Nat.le_of_ble_eq_true rfl, Nat.le_of_ble_eq_true rfl⟩ dL_law_1229) (fun H locs hT => ?_)
  refine lv_icmp_eq (tgt := 1401) hx hb dL_law_1232 (by decide) (fun c7 => ?_) (fun c7 => ?_)
  · rw [if_pos c7] at h
    exact wL_1401 C hargs hr hk hX hbl hB rc hrc x3 σ6 σ0 h H locs hT ls hl
  · rw [if_neg c7] at h
    exact absurd (js_rt h).1 (by decide)
set_option maxHeartbeats 4000000 in
set_option maxRecDepth 20000 in
theorem wLc_41 (C : js_C D g p m c cL_law 4 s args RL) (hargs : args = #[Value.ref b]) (hr : meth.sig.returnType = ret) (hk : meth.locks = false) (hX : va_X b L xs s s.heap) (hbl : b < s.heap.size) (hB : B + 1 = s.heap.size) (rc : Int32 → js_S → Option (Int32 × js_S)) (hrc : ∀ (x3 : Int32) (σ σ0 : js_S), rc x3 σ = some (1, σ0) → ∀ (H : Heap) (locs : List Loc), js_T D B g 419 σ s H locs → ∀ ls : Array Slot, lv_has ls 4 [(0, .ref b), (1, .ref (B + 1)), (2, .ref (B + 390)), (3, .int x3)] → W p l e room_1 s m args below meth c H locs 435 316929 (lw_Z below args s) (F0 m 18 ls [])) : ∀ (x3 : Int32) (σ σ0 : js_S), fLc_41 fu L xs rc x3 σ = some (1, σ0) → ∀ (H : Heap) (locs : List Loc), js_T D B g 419 σ s H locs → ∀ ls : Array Slot, lv_has ls 4 [(0, .ref b), (1, .ref (B + 1)), (2, .ref (B + 390)), (3, .int x3)] → W p l e room_1 s m args below meth c H locs 435 316929 (lw_Z below args s) (F0 m 1237 ls []) := by
  obtain ⟨hx, hb, hml, hown, ht, hK, hNw⟩ := id C
  have hbA : ¬ (fun q => B < q) b := by show ¬ B < b; omega
  intro x3 σ σ0 h H locs hT ls hl
  unfold fLc_41 at h
  refine lv_aload_n hx hb dL_law_1237 rfl (lv_at hl 1 rfl) ?_
  refine lv_aload_n hx hb dL_law_1238 rfl (lv_at hl 0 rfl) ?_
  refine lv_iload_n hx hb dL_law_1239 rfl (lv_at hl 3 rfl) ?_
  refine lv_iconst (v := 1) hx hb dL_law_1240 (by decide) ?_
  refine lv_iadd hx hb dL_law_1241 ?_
  obtain ⟨g1, h⟩ := gd_some _ h
  refine va_sld hx hb hX hbl hbA hT.2.1 (ib_in g1) dL_law_1242 ?_
  refine lv_aload_n hx hb dL_law_1243 rfl (lv_at hl 0 rfl) ?_
  refine lv_iload_n hx hb dL_law_1244 rfl (lv_at hl 3 rfl) ?_
  refine lv_iconst (v := 2) hx hb dL_law_1245 (by decide) ?_
  refine lv_iadd hx hb dL_law_1246 ?_
  obtain ⟨g2, h⟩ := gd_some _ h
  refine va_sld hx hb hX hbl hbA hT.2.1 (ib_in g2) dL_law_1247 ?_
  obtain ⟨r3, σ3, hc3, h⟩ := bd_some h
  refine js_backI hT (js_runV C hT cfX11 js_o11 rfl mfX11_lastExploredSize lk_L_181 (kX11_lastExploredSize js_o11 hc3) ⟨Nat.le_of_ble_eq_true rfl, Nat.le_of_ble_eq_true rfl⟩ rfl hl.1 rfl (Nat.le_of_ble_eq_true rfl) ⟨Nat.le_of_ble_eq_true rfl, Nat.le_of_ble_eq_true rfl⟩ dL_law_1248) (fun H locs hT => ?_)
  refine lv_aload_n hx hb dL_law_1251 rfl (lv_at hl 2 rfl) ?_
  refine lv_aload_n hx hb dL_law_1252 rfl (lv_at hl 0 rfl) ?_
  refine lv_iload_n hx hb dL_law_1253 rfl (lv_at hl 3 rfl) ?_
  refine lv_iconst (v := 1) hx hb dL_law_1254 (by decide) ?_
  refine lv_iadd hx hb dL_law_1255 ?_
  obtain ⟨g4, h⟩ := gd_some _ h
  refine va_sld hx hb hX hbl hbA hT.2.1 (ib_in g4) dL_law_1256 ?_
  refine lv_aload_n hx hb dL_law_1257 rfl (lv_at hl 0 rfl) ?_
  refine lv_iload_n hx hb dL_law_1258 rfl (lv_at hl 3 rfl) ?_
  refine lv_iconst (v := 2) hx hb dL_law_1259 (by decide) ?_
  refine lv_iadd hx hb dL_law_1260 ?_
  obtain ⟨g5, h⟩ := gd_some _ h
  refine va_sld hx hb hX hbl hbA hT.2.1 (ib_in g5) dL_law_1261 ?_
  obtain ⟨r6, σ6, hc6, h⟩ := bd_some h
  refine js_backI hT (js_runV C hT cfX12 js_o12 rfl mfX12_lastExploredSize lk_L_184 (kX12_lastExploredSize js_o12 hc6) ⟨Nat.le_of_ble_eq_true rfl, Nat.le_of_ble_eq_true rfl⟩ rfl hl.1 rfl (Nat.le_of_ble_eq_true rfl) ⟨Nat.le_of_ble_eq_true rfl, Nat.le_of_ble_eq_true rfl⟩ dL_law_1262) (fun H locs hT => ?_)
  refine lv_icmp_eq (tgt := 1401) hx hb dL_law_1265 (by decide) (fun c7 => ?_) (fun c7 => ?_)
  · rw [if_pos c7] at h
    exact wL_1401 C hargs hr hk hX hbl hB rc hrc x3 σ6 σ0 h H locs hT ls hl
  · rw [if_neg c7] at h
    exact absurd (js_rt h).1 (by decide)
set_option maxHeartbeats 4000000 in
set_option maxRecDepth 20000 in
theorem wLc_42 (C : js_C D g p m c cL_law 4 s args RL) (hargs : args = #[Value.ref b]) (hr : meth.sig.returnType = ret) (hk : meth.locks = false) (hX : va_X b L xs s s.heap) (hbl : b < s.heap.size) (hB : B + 1 = s.heap.size) (rc : Int32 → js_S → Option (Int32 × js_S)) (hrc : ∀ (x3 : Int32) (σ σ0 : js_S), rc x3 σ = some (1, σ0) → ∀ (H : Heap) (locs : List Loc), js_T D B g 419 σ s H locs → ∀ ls : Array Slot, lv_has ls 4 [(0, .ref b), (1, .ref (B + 1)), (2, .ref (B + 390)), (3, .int x3)] → W p l e room_1 s m args below meth c H locs 435 316929 (lw_Z below args s) (F0 m 18 ls [])) : ∀ (x3 : Int32) (σ σ0 : js_S), fLc_42 fu L xs rc x3 σ = some (1, σ0) → ∀ (H : Heap) (locs : List Loc), js_T D B g 419 σ s H locs → ∀ ls : Array Slot, lv_has ls 4 [(0, .ref b), (1, .ref (B + 1)), (2, .ref (B + 390)), (3, .int x3)] → W p l e room_1 s m args below meth c H locs 435 316929 (lw_Z below args s) (F0 m 1270 ls []) := by
  obtain ⟨hx, hb, hml, hown, ht, hK, hNw⟩ := id C
  have hbA : ¬ (fun q => B < q) b := by show ¬ B < b; omega
  intro x3 σ σ0 h H locs hT ls hl
  unfold fLc_42 at h
  refine lv_aload_n hx hb dL_law_1270 rfl (lv_at hl 1 rfl) ?_
  refine lv_aload_n hx hb dL_law_1271 rfl (lv_at hl 0 rfl) ?_
  refine lv_iload_n hx hb dL_law_1272 rfl (lv_at hl 3 rfl) ?_
  refine lv_iconst (v := 1) hx hb dL_law_1273 (by decide) ?_
  refine lv_iadd hx hb dL_law_1274 ?_
  obtain ⟨g1, h⟩ := gd_some _ h
  refine va_sld hx hb hX hbl hbA hT.2.1 (ib_in g1) dL_law_1275 ?_
  refine lv_aload_n hx hb dL_law_1276 rfl (lv_at hl 0 rfl) ?_
  refine lv_iload_n hx hb dL_law_1277 rfl (lv_at hl 3 rfl) ?_
  refine lv_iconst (v := 2) hx hb dL_law_1278 (by decide) ?_
  refine lv_iadd hx hb dL_law_1279 ?_
  obtain ⟨g2, h⟩ := gd_some _ h
  refine va_sld hx hb hX hbl hbA hT.2.1 (ib_in g2) dL_law_1280 ?_
  refine lv_aload_n hx hb dL_law_1281 rfl (lv_at hl 0 rfl) ?_
  refine lv_iload_n hx hb dL_law_1282 rfl (lv_at hl 3 rfl) ?_
  refine lv_iconst (v := 3) hx hb dL_law_1283 (by decide) ?_
  refine lv_iadd hx hb dL_law_1284 ?_
  obtain ⟨g3, h⟩ := gd_some _ h
  refine va_sld hx hb hX hbl hbA hT.2.1 (ib_in g3) dL_law_1285 ?_
  obtain ⟨r4, σ4, hc4, h⟩ := bd_some h
  refine js_backI hT (js_runV C hT cfX11 js_o11 rfl mfX11_loadNormalForm lk_L_185 (kX11_loadNormalForm js_o11 hc4) ⟨Nat.le_of_ble_eq_true rfl, Nat.le_of_ble_eq_true rfl⟩ rfl hl.1 rfl (Nat.le_of_ble_eq_true rfl) ⟨Nat.le_of_ble_eq_true rfl, Nat.le_of_ble_eq_true rfl⟩ dL_law_1286) (fun H locs hT => ?_)
  refine lv_aload_n hx hb dL_law_1289 rfl (lv_at hl 2 rfl) ?_
  refine lv_aload_n hx hb dL_law_1290 rfl (lv_at hl 0 rfl) ?_
  refine lv_iload_n hx hb dL_law_1291 rfl (lv_at hl 3 rfl) ?_
  refine lv_iconst (v := 1) hx hb dL_law_1292 (by decide) ?_
  refine lv_iadd hx hb dL_law_1293 ?_
  obtain ⟨g5, h⟩ := gd_some _ h
  refine va_sld hx hb hX hbl hbA hT.2.1 (ib_in g5) dL_law_1294 ?_
  refine lv_aload_n hx hb dL_law_1295 rfl (lv_at hl 0 rfl) ?_
  refine lv_iload_n hx hb dL_law_1296 rfl (lv_at hl 3 rfl) ?_
  refine lv_iconst (v := 2) hx hb dL_law_1297 (by decide) ?_
  refine lv_iadd hx hb dL_law_1298 ?_
  obtain ⟨g6, h⟩ := gd_some _ h
  refine va_sld hx hb hX hbl hbA hT.2.1 (ib_in g6) dL_law_1299 ?_
  refine lv_aload_n hx hb dL_law_1300 rfl (lv_at hl 0 rfl) ?_
  refine lv_iload_n hx hb dL_law_1301 rfl (lv_at hl 3 rfl) ?_
  refine lv_iconst (v := 3) hx hb dL_law_1302 (by decide) ?_
  refine lv_iadd hx hb dL_law_1303 ?_
  obtain ⟨g7, h⟩ := gd_some _ h
  refine va_sld hx hb hX hbl hbA hT.2.1 (ib_in g7) dL_law_1304 ?_
  obtain ⟨r8, σ8, hc8, h⟩ := bd_some h
  refine js_backI hT (js_runV C hT cfX12 js_o12 rfl mfX12_loadNormalForm lk_L_188 (kX12_loadNormalForm js_o12 hc8) ⟨Nat.le_of_ble_eq_true rfl, Nat.le_of_ble_eq_true rfl⟩ rfl hl.1 rfl (Nat.le_of_ble_eq_true rfl) ⟨Nat.le_of_ble_eq_true rfl, Nat.le_of_ble_eq_true rfl⟩ dL_law_1305) (fun H locs hT => ?_)
  refine lv_icmp_eq (tgt := 1401) hx hb dL_law_1308 (by decide) (fun c9 => ?_) (fun c9 => ?_)
  · rw [if_pos c9] at h
    exact wL_1401 C hargs hr hk hX hbl hB rc hrc x3 σ8 σ0 h H locs hT ls hl
  · rw [if_neg c9] at h
    exact absurd (js_rt h).1 (by decide)
set_option maxHeartbeats 4000000 in
set_option maxRecDepth 20000 in
theorem wLc_43 (C : js_C D g p m c cL_law 4 s args RL) (hargs : args = #[Value.ref b]) (hr : meth.sig.returnType = ret) (hk : meth.locks = false) (hX : va_X b L xs s s.heap) (hbl : b < s.heap.size) (hB : B + 1 = s.heap.size) (rc : Int32 → js_S → Option (Int32 × js_S)) (hrc : ∀ (x3 : Int32) (σ σ0 : js_S), rc x3 σ = some (1, σ0) → ∀ (H : Heap) (locs : List Loc), js_T D B g 419 σ s H locs → ∀ ls : Array Slot, lv_has ls 4 [(0, .ref b), (1, .ref (B + 1)), (2, .ref (B + 390)), (3, .int x3)] → W p l e room_1 s m args below meth c H locs 435 316929 (lw_Z below args s) (F0 m 18 ls [])) : ∀ (x3 : Int32) (σ σ0 : js_S), fLc_43 fu L xs rc x3 σ = some (1, σ0) → ∀ (H : Heap) (locs : List Loc), js_T D B g 419 σ s H locs → ∀ ls : Array Slot, lv_has ls 4 [(0, .ref b), (1, .ref (B + 1)), (2, .ref (B + 390)), (3, .int x3)] → W p l e room_1 s m args below meth c H locs 435 316929 (lw_Z below args s) (F0 m 1313 ls []) := by
  obtain ⟨hx, hb, hml, hown, ht, hK, hNw⟩ := id C
  have hbA : ¬ (fun q => B < q) b := by show ¬ B < b; omega
  intro x3 σ σ0 h H locs hT ls hl
  unfold fLc_43 at h
  refine lv_aload_n hx hb dL_law_1313 rfl (lv_at hl 1 rfl) ?_
  obtain ⟨r1, σ1, hc1, h⟩ := bd_some h
  refine js_backI hT (js_runV C hT cfX11 js_o11 rfl mfX11_normalFormRegisterCount lk_L_189 (kX11_normalFormRegisterCount js_o11 hc1) ⟨Nat.le_of_ble_eq_true rfl, Nat.le_of_ble_eq_true rfl⟩ rfl hl.1 rfl (Nat.le_of_ble_eq_true rfl) ⟨Nat.le_of_ble_eq_true rfl, Nat.le_of_ble_eq_true rfl⟩ dL_law_1314) (fun H locs hT => ?_)
  refine lv_aload_n hx hb dL_law_1317 rfl (lv_at hl 2 rfl) ?_
  obtain ⟨r2, σ2, hc2, h⟩ := bd_some h
  refine js_backI hT (js_runV C hT cfX12 js_o12 rfl mfX12_normalFormRegisterCount lk_L_192 (kX12_normalFormRegisterCount js_o12 hc2) ⟨Nat.le_of_ble_eq_true rfl, Nat.le_of_ble_eq_true rfl⟩ rfl hl.1 rfl (Nat.le_of_ble_eq_true rfl) ⟨Nat.le_of_ble_eq_true rfl, Nat.le_of_ble_eq_true rfl⟩ dL_law_1318) (fun H locs hT => ?_)
  refine lv_icmp_eq (tgt := 1401) hx hb dL_law_1321 (by decide) (fun c3 => ?_) (fun c3 => ?_)
  · rw [if_pos c3] at h
    exact wL_1401 C hargs hr hk hX hbl hB rc hrc x3 σ2 σ0 h H locs hT ls hl
  · rw [if_neg c3] at h
    exact absurd (js_rt h).1 (by decide)
set_option maxHeartbeats 4000000 in
set_option maxRecDepth 20000 in
theorem wLc_44 (C : js_C D g p m c cL_law 4 s args RL) (hargs : args = #[Value.ref b]) (hr : meth.sig.returnType = ret) (hk : meth.locks = false) (hX : va_X b L xs s s.heap) (hbl : b < s.heap.size) (hB : B + 1 = s.heap.size) (rc : Int32 → js_S → Option (Int32 × js_S)) (hrc : ∀ (x3 : Int32) (σ σ0 : js_S), rc x3 σ = some (1, σ0) → ∀ (H : Heap) (locs : List Loc), js_T D B g 419 σ s H locs → ∀ ls : Array Slot, lv_has ls 4 [(0, .ref b), (1, .ref (B + 1)), (2, .ref (B + 390)), (3, .int x3)] → W p l e room_1 s m args below meth c H locs 435 316929 (lw_Z below args s) (F0 m 18 ls [])) : ∀ (x3 : Int32) (σ σ0 : js_S), fLc_44 fu L xs rc x3 σ = some (1, σ0) → ∀ (H : Heap) (locs : List Loc), js_T D B g 419 σ s H locs → ∀ ls : Array Slot, lv_has ls 4 [(0, .ref b), (1, .ref (B + 1)), (2, .ref (B + 390)), (3, .int x3)] → W p l e room_1 s m args below meth c H locs 435 316929 (lw_Z below args s) (F0 m 1326 ls []) := by
  obtain ⟨hx, hb, hml, hown, ht, hK, hNw⟩ := id C
  have hbA : ¬ (fun q => B < q) b := by show ¬ B < b; omega
  intro x3 σ σ0 h H locs hT ls hl
  unfold fLc_44 at h
  refine lv_aload_n hx hb dL_law_1326 rfl (lv_at hl 1 rfl) ?_
  refine lv_aload_n hx hb dL_law_1327 rfl (lv_at hl 0 rfl) ?_
  refine lv_iload_n hx hb dL_law_1328 rfl (lv_at hl 3 rfl) ?_
  refine lv_iconst (v := 1) hx hb dL_law_1329 (by decide) ?_
  refine lv_iadd hx hb dL_law_1330 ?_
  obtain ⟨g1, h⟩ := gd_some _ h
  refine va_sld hx hb hX hbl hbA hT.2.1 (ib_in g1) dL_law_1331 ?_
  obtain ⟨r2, σ2, hc2, h⟩ := bd_some h
  refine js_backI hT (js_runV C hT cfX11 js_o11 rfl mfX11_appendCharacter lk_L_193 (kX11_appendCharacter js_o11 hc2) ⟨Nat.le_of_ble_eq_true rfl, Nat.le_of_ble_eq_true rfl⟩ rfl hl.1 rfl (Nat.le_of_ble_eq_true rfl) ⟨Nat.le_of_ble_eq_true rfl, Nat.le_of_ble_eq_true rfl⟩ dL_law_1332) (fun H locs hT => ?_)
  refine lv_aload_n hx hb dL_law_1335 rfl (lv_at hl 2 rfl) ?_
  refine lv_aload_n hx hb dL_law_1336 rfl (lv_at hl 0 rfl) ?_
  refine lv_iload_n hx hb dL_law_1337 rfl (lv_at hl 3 rfl) ?_
  refine lv_iconst (v := 1) hx hb dL_law_1338 (by decide) ?_
  refine lv_iadd hx hb dL_law_1339 ?_
  obtain ⟨g3, h⟩ := gd_some _ h
  refine va_sld hx hb hX hbl hbA hT.2.1 (ib_in g3) dL_law_1340 ?_
  obtain ⟨r4, σ4, hc4, h⟩ := bd_some h
  refine js_backI hT (js_runV C hT cfX12 js_o12 rfl mfX12_appendCharacter lk_L_196 (kX12_appendCharacter js_o12 hc4) ⟨Nat.le_of_ble_eq_true rfl, Nat.le_of_ble_eq_true rfl⟩ rfl hl.1 rfl (Nat.le_of_ble_eq_true rfl) ⟨Nat.le_of_ble_eq_true rfl, Nat.le_of_ble_eq_true rfl⟩ dL_law_1341) (fun H locs hT => ?_)
  refine lv_icmp_eq (tgt := 1401) hx hb dL_law_1344 (by decide) (fun c5 => ?_) (fun c5 => ?_)
  · rw [if_pos c5] at h
    exact wL_1401 C hargs hr hk hX hbl hB rc hrc x3 σ4 σ0 h H locs hT ls hl
  · rw [if_neg c5] at h
    exact absurd (js_rt h).1 (by decide)
set_option maxHeartbeats 4000000 in
set_option maxRecDepth 20000 in
theorem wLc_45 (C : js_C D g p m c cL_law 4 s args RL) (hargs : args = #[Value.ref b]) (hr : meth.sig.returnType = ret) (hk : meth.locks = false) (hX : va_X b L xs s s.heap) (hbl : b < s.heap.size) (hB : B + 1 = s.heap.size) (rc : Int32 → js_S → Option (Int32 × js_S)) (hrc : ∀ (x3 : Int32) (σ σ0 : js_S), rc x3 σ = some (1, σ0) → ∀ (H : Heap) (locs : List Loc), js_T D B g 419 σ s H locs → ∀ ls : Array Slot, lv_has ls 4 [(0, .ref b), (1, .ref (B + 1)), (2, .ref (B + 390)), (3, .int x3)] → W p l e room_1 s m args below meth c H locs 435 316929 (lw_Z below args s) (F0 m 18 ls [])) : ∀ (x3 : Int32) (σ σ0 : js_S), fLc_45 fu L xs rc x3 σ = some (1, σ0) → ∀ (H : Heap) (locs : List Loc), js_T D B g 419 σ s H locs → ∀ ls : Array Slot, lv_has ls 4 [(0, .ref b), (1, .ref (B + 1)), (2, .ref (B + 390)), (3, .int x3)] → W p l e room_1 s m args below meth c H locs 435 316929 (lw_Z below args s) (F0 m 1349 ls []) := by
  obtain ⟨hx, hb, hml, hown, ht, hK, hNw⟩ := id C
  have hbA : ¬ (fun q => B < q) b := by show ¬ B < b; omega
  intro x3 σ σ0 h H locs hT ls hl
  unfold fLc_45 at h
  refine lv_aload_n hx hb dL_law_1349 rfl (lv_at hl 1 rfl) ?_
  obtain ⟨r1, σ1, hc1, h⟩ := bd_some h
  refine js_backI hT (js_runV C hT cfX11 js_o11 rfl mfX11_clearText lk_L_197 (kX11_clearText js_o11 hc1) ⟨Nat.le_of_ble_eq_true rfl, Nat.le_of_ble_eq_true rfl⟩ rfl hl.1 rfl (Nat.le_of_ble_eq_true rfl) ⟨Nat.le_of_ble_eq_true rfl, Nat.le_of_ble_eq_true rfl⟩ dL_law_1350) (fun H locs hT => ?_)
  refine lv_aload_n hx hb dL_law_1353 rfl (lv_at hl 2 rfl) ?_
  obtain ⟨r2, σ2, hc2, h⟩ := bd_some h
  refine js_backI hT (js_runV C hT cfX12 js_o12 rfl mfX12_clearText lk_L_200 (kX12_clearText js_o12 hc2) ⟨Nat.le_of_ble_eq_true rfl, Nat.le_of_ble_eq_true rfl⟩ rfl hl.1 rfl (Nat.le_of_ble_eq_true rfl) ⟨Nat.le_of_ble_eq_true rfl, Nat.le_of_ble_eq_true rfl⟩ dL_law_1354) (fun H locs hT => ?_)
  refine lv_icmp_eq (tgt := 1401) hx hb dL_law_1357 (by decide) (fun c3 => ?_) (fun c3 => ?_)
  · rw [if_pos c3] at h
    exact wL_1401 C hargs hr hk hX hbl hB rc hrc x3 σ2 σ0 h H locs hT ls hl
  · rw [if_neg c3] at h
    exact absurd (js_rt h).1 (by decide)
set_option maxHeartbeats 4000000 in
set_option maxRecDepth 20000 in
theorem wLc_46 (C : js_C D g p m c cL_law 4 s args RL) (hargs : args = #[Value.ref b]) (hr : meth.sig.returnType = ret) (hk : meth.locks = false) (hX : va_X b L xs s s.heap) (hbl : b < s.heap.size) (hB : B + 1 = s.heap.size) (rc : Int32 → js_S → Option (Int32 × js_S)) (hrc : ∀ (x3 : Int32) (σ σ0 : js_S), rc x3 σ = some (1, σ0) → ∀ (H : Heap) (locs : List Loc), js_T D B g 419 σ s H locs → ∀ ls : Array Slot, lv_has ls 4 [(0, .ref b), (1, .ref (B + 1)), (2, .ref (B + 390)), (3, .int x3)] → W p l e room_1 s m args below meth c H locs 435 316929 (lw_Z below args s) (F0 m 18 ls [])) : ∀ (x3 : Int32) (σ σ0 : js_S), fLc_46 fu L xs rc x3 σ = some (1, σ0) → ∀ (H : Heap) (locs : List Loc), js_T D B g 419 σ s H locs → ∀ ls : Array Slot, lv_has ls 4 [(0, .ref b), (1, .ref (B + 1)), (2, .ref (B + 390)), (3, .int x3)] → W p l e room_1 s m args below meth c H locs 435 316929 (lw_Z below args s) (F0 m 1362 ls []) := by
  obtain ⟨hx, hb, hml, hown, ht, hK, hNw⟩ := id C
  have hbA : ¬ (fun q => B < q) b := by show ¬ B < b; omega
  intro x3 σ σ0 h H locs hT ls hl
  unfold fLc_46 at h
  refine lv_aload_n hx hb dL_law_1362 rfl (lv_at hl 1 rfl) ?_
  obtain ⟨r1, σ1, hc1, h⟩ := bd_some h
  refine js_backI hT (js_runV C hT cfX11 js_o11 rfl mfX11_textLength lk_L_201 (kX11_textLength js_o11 hc1) ⟨Nat.le_of_ble_eq_true rfl, Nat.le_of_ble_eq_true rfl⟩ rfl hl.1 rfl (Nat.le_of_ble_eq_true rfl) ⟨Nat.le_of_ble_eq_true rfl, Nat.le_of_ble_eq_true rfl⟩ dL_law_1363) (fun H locs hT => ?_)
  refine lv_aload_n hx hb dL_law_1366 rfl (lv_at hl 2 rfl) ?_
  obtain ⟨r2, σ2, hc2, h⟩ := bd_some h
  refine js_backI hT (js_runV C hT cfX12 js_o12 rfl mfX12_textLength lk_L_204 (kX12_textLength js_o12 hc2) ⟨Nat.le_of_ble_eq_true rfl, Nat.le_of_ble_eq_true rfl⟩ rfl hl.1 rfl (Nat.le_of_ble_eq_true rfl) ⟨Nat.le_of_ble_eq_true rfl, Nat.le_of_ble_eq_true rfl⟩ dL_law_1367) (fun H locs hT => ?_)
  refine lv_icmp_eq (tgt := 1401) hx hb dL_law_1370 (by decide) (fun c3 => ?_) (fun c3 => ?_)
  · rw [if_pos c3] at h
    exact wL_1401 C hargs hr hk hX hbl hB rc hrc x3 σ2 σ0 h H locs hT ls hl
  · rw [if_neg c3] at h
    exact absurd (js_rt h).1 (by decide)
set_option maxHeartbeats 4000000 in
set_option maxRecDepth 20000 in
theorem wLc_47 (C : js_C D g p m c cL_law 4 s args RL) (hargs : args = #[Value.ref b]) (hr : meth.sig.returnType = ret) (hk : meth.locks = false) (hX : va_X b L xs s s.heap) (hbl : b < s.heap.size) (hB : B + 1 = s.heap.size) (rc : Int32 → js_S → Option (Int32 × js_S)) (hrc : ∀ (x3 : Int32) (σ σ0 : js_S), rc x3 σ = some (1, σ0) → ∀ (H : Heap) (locs : List Loc), js_T D B g 419 σ s H locs → ∀ ls : Array Slot, lv_has ls 4 [(0, .ref b), (1, .ref (B + 1)), (2, .ref (B + 390)), (3, .int x3)] → W p l e room_1 s m args below meth c H locs 435 316929 (lw_Z below args s) (F0 m 18 ls [])) : ∀ (x3 : Int32) (σ σ0 : js_S), fLc_47 fu L xs rc x3 σ = some (1, σ0) → ∀ (H : Heap) (locs : List Loc), js_T D B g 419 σ s H locs → ∀ ls : Array Slot, lv_has ls 4 [(0, .ref b), (1, .ref (B + 1)), (2, .ref (B + 390)), (3, .int x3)] → W p l e room_1 s m args below meth c H locs 435 316929 (lw_Z below args s) (F0 m 1375 ls []) := by
  obtain ⟨hx, hb, hml, hown, ht, hK, hNw⟩ := id C
  have hbA : ¬ (fun q => B < q) b := by show ¬ B < b; omega
  intro x3 σ σ0 h H locs hT ls hl
  unfold fLc_47 at h
  refine lv_aload_n hx hb dL_law_1375 rfl (lv_at hl 1 rfl) ?_
  obtain ⟨r1, σ1, hc1, h⟩ := bd_some h
  refine js_backI hT (js_runV C hT cfX11 js_o11 rfl mfX11_saveSnapshot lk_L_205 (kX11_saveSnapshot js_o11 hc1) ⟨Nat.le_of_ble_eq_true rfl, Nat.le_of_ble_eq_true rfl⟩ rfl hl.1 rfl (Nat.le_of_ble_eq_true rfl) ⟨Nat.le_of_ble_eq_true rfl, Nat.le_of_ble_eq_true rfl⟩ dL_law_1376) (fun H locs hT => ?_)
  refine lv_aload_n hx hb dL_law_1379 rfl (lv_at hl 2 rfl) ?_
  obtain ⟨r2, σ2, hc2, h⟩ := bd_some h
  refine js_backI hT (js_runV C hT cfX12 js_o12 rfl mfX12_saveSnapshot lk_L_208 (kX12_saveSnapshot js_o12 hc2) ⟨Nat.le_of_ble_eq_true rfl, Nat.le_of_ble_eq_true rfl⟩ rfl hl.1 rfl (Nat.le_of_ble_eq_true rfl) ⟨Nat.le_of_ble_eq_true rfl, Nat.le_of_ble_eq_true rfl⟩ dL_law_1380) (fun H locs hT => ?_)
  refine lv_icmp_eq (tgt := 1401) hx hb dL_law_1383 (by decide) (fun c3 => ?_) (fun c3 => ?_)
  · rw [if_pos c3] at h
    exact wL_1401 C hargs hr hk hX hbl hB rc hrc x3 σ2 σ0 h H locs hT ls hl
  · rw [if_neg c3] at h
    exact absurd (js_rt h).1 (by decide)
set_option maxHeartbeats 4000000 in
set_option maxRecDepth 20000 in
theorem wLc_48 (C : js_C D g p m c cL_law 4 s args RL) (hargs : args = #[Value.ref b]) (hr : meth.sig.returnType = ret) (hk : meth.locks = false) (hX : va_X b L xs s s.heap) (hbl : b < s.heap.size) (hB : B + 1 = s.heap.size) (rc : Int32 → js_S → Option (Int32 × js_S)) (hrc : ∀ (x3 : Int32) (σ σ0 : js_S), rc x3 σ = some (1, σ0) → ∀ (H : Heap) (locs : List Loc), js_T D B g 419 σ s H locs → ∀ ls : Array Slot, lv_has ls 4 [(0, .ref b), (1, .ref (B + 1)), (2, .ref (B + 390)), (3, .int x3)] → W p l e room_1 s m args below meth c H locs 435 316929 (lw_Z below args s) (F0 m 18 ls [])) : ∀ (x3 : Int32) (σ σ0 : js_S), fLc_48 fu L xs rc x3 σ = some (1, σ0) → ∀ (H : Heap) (locs : List Loc), js_T D B g 419 σ s H locs → ∀ ls : Array Slot, lv_has ls 4 [(0, .ref b), (1, .ref (B + 1)), (2, .ref (B + 390)), (3, .int x3)] → W p l e room_1 s m args below meth c H locs 435 316929 (lw_Z below args s) (F0 m 1388 ls []) := by
  obtain ⟨hx, hb, hml, hown, ht, hK, hNw⟩ := id C
  have hbA : ¬ (fun q => B < q) b := by show ¬ B < b; omega
  intro x3 σ σ0 h H locs hT ls hl
  unfold fLc_48 at h
  refine lv_aload_n hx hb dL_law_1388 rfl (lv_at hl 1 rfl) ?_
  obtain ⟨r1, σ1, hc1, h⟩ := bd_some h
  refine js_backI hT (js_runV C hT cfX11 js_o11 rfl mfX11_restoreSnapshot lk_L_209 (kX11_restoreSnapshot js_o11 hc1) ⟨Nat.le_of_ble_eq_true rfl, Nat.le_of_ble_eq_true rfl⟩ rfl hl.1 rfl (Nat.le_of_ble_eq_true rfl) ⟨Nat.le_of_ble_eq_true rfl, Nat.le_of_ble_eq_true rfl⟩ dL_law_1389) (fun H locs hT => ?_)
  refine lv_aload_n hx hb dL_law_1392 rfl (lv_at hl 2 rfl) ?_
  obtain ⟨r2, σ2, hc2, h⟩ := bd_some h
  refine js_backI hT (js_runV C hT cfX12 js_o12 rfl mfX12_restoreSnapshot lk_L_212 (kX12_restoreSnapshot js_o12 hc2) ⟨Nat.le_of_ble_eq_true rfl, Nat.le_of_ble_eq_true rfl⟩ rfl hl.1 rfl (Nat.le_of_ble_eq_true rfl) ⟨Nat.le_of_ble_eq_true rfl, Nat.le_of_ble_eq_true rfl⟩ dL_law_1393) (fun H locs hT => ?_)
  refine lv_icmp_eq (tgt := 1401) hx hb dL_law_1396 (by decide) (fun c3 => ?_) (fun c3 => ?_)
  · rw [if_pos c3] at h
    exact wL_1401 C hargs hr hk hX hbl hB rc hrc x3 σ2 σ0 h H locs hT ls hl
  · rw [if_neg c3] at h
    exact absurd (js_rt h).1 (by decide)
set_option maxHeartbeats 4000000 in
set_option maxRecDepth 20000 in
theorem wL_sw (C : js_C D g p m c cL_law 4 s args RL) (hargs : args = #[Value.ref b]) (hr : meth.sig.returnType = ret) (hk : meth.locks = false) (hX : va_X b L xs s s.heap) (hbl : b < s.heap.size) (hB : B + 1 = s.heap.size) (rc : Int32 → js_S → Option (Int32 × js_S)) (hrc : ∀ (x3 : Int32) (σ σ0 : js_S), rc x3 σ = some (1, σ0) → ∀ (H : Heap) (locs : List Loc), js_T D B g 419 σ s H locs → ∀ ls : Array Slot, lv_has ls 4 [(0, .ref b), (1, .ref (B + 1)), (2, .ref (B + 390)), (3, .int x3)] → W p l e room_1 s m args below meth c H locs 435 316929 (lw_Z below args s) (F0 m 18 ls [])) (y : Int32) : ∀ (x3 : Int32) (σ σ0 : js_S), fL_sw fu L xs rc y x3 σ = some (1, σ0) → ∀ (H : Heap) (locs : List Loc), js_T D B g 419 σ s H locs → ∀ ls : Array Slot, lv_has ls 4 [(0, .ref b), (1, .ref (B + 1)), (2, .ref (B + 390)), (3, .int x3)] → W p l e room_1 s m args below meth c H locs 435 316929 (lw_Z below args s) (F0 m 32 ls [.int y]) := by
  obtain ⟨hx, hb, hml, hown, ht, hK, hNw⟩ := id C
  have hbA : ¬ (fun q => B < q) b := by show ¬ B < b; omega
  intro x3 σ σ0 h H locs hT ls hl
  unfold fL_sw at h
  by_cases c0 : y = 0
  · rw [if_pos c0] at h
    refine lv_tableIn (tgt := 244) hx hb dL_law_32 (by rw [c0]; decide) (by rw [c0]; decide) (by rw [c0]; rfl) (by decide) ?_
    exact wLc_0 C hargs hr hk hX hbl hB rc hrc x3 σ σ0 h H locs hT ls hl
  rw [if_neg c0] at h
  by_cases c1 : y = 1
  · rw [if_pos c1] at h
    refine lv_tableIn (tgt := 277) hx hb dL_law_32 (by rw [c1]; decide) (by rw [c1]; decide) (by rw [c1]; rfl) (by decide) ?_
    exact wLc_1 C hargs hr hk hX hbl hB rc hrc x3 σ σ0 h H locs hT ls hl
  rw [if_neg c1] at h
  by_cases c2 : y = 2
  · rw [if_pos c2] at h
    refine lv_tableIn (tgt := 300) hx hb dL_law_32 (by rw [c2]; decide) (by rw [c2]; decide) (by rw [c2]; rfl) (by decide) ?_
    exact wLc_2 C hargs hr hk hX hbl hB rc hrc x3 σ σ0 h H locs hT ls hl
  rw [if_neg c2] at h
  by_cases c3 : y = 3
  · rw [if_pos c3] at h
    refine lv_tableIn (tgt := 313) hx hb dL_law_32 (by rw [c3]; decide) (by rw [c3]; decide) (by rw [c3]; rfl) (by decide) ?_
    exact wLc_3 C hargs hr hk hX hbl hB rc hrc x3 σ σ0 h H locs hT ls hl
  rw [if_neg c3] at h
  by_cases c4 : y = 4
  · rw [if_pos c4] at h
    refine lv_tableIn (tgt := 336) hx hb dL_law_32 (by rw [c4]; decide) (by rw [c4]; decide) (by rw [c4]; rfl) (by decide) ?_
    exact wLc_4 C hargs hr hk hX hbl hB rc hrc x3 σ σ0 h H locs hT ls hl
  rw [if_neg c4] at h
  by_cases c5 : y = 5
  · rw [if_pos c5] at h
    refine lv_tableIn (tgt := 349) hx hb dL_law_32 (by rw [c5]; decide) (by rw [c5]; decide) (by rw [c5]; rfl) (by decide) ?_
    exact wLc_5 C hargs hr hk hX hbl hB rc hrc x3 σ σ0 h H locs hT ls hl
  rw [if_neg c5] at h
  by_cases c6 : y = 6
  · rw [if_pos c6] at h
    refine lv_tableIn (tgt := 372) hx hb dL_law_32 (by rw [c6]; decide) (by rw [c6]; decide) (by rw [c6]; rfl) (by decide) ?_
    exact wLc_6 C hargs hr hk hX hbl hB rc hrc x3 σ σ0 h H locs hT ls hl
  rw [if_neg c6] at h
  by_cases c7 : y = 7
  · rw [if_pos c7] at h
    refine lv_tableIn (tgt := 395) hx hb dL_law_32 (by rw [c7]; decide) (by rw [c7]; decide) (by rw [c7]; rfl) (by decide) ?_
    exact wLc_7 C hargs hr hk hX hbl hB rc hrc x3 σ σ0 h H locs hT ls hl
  rw [if_neg c7] at h
  by_cases c8 : y = 8
  · rw [if_pos c8] at h
    refine lv_tableIn (tgt := 408) hx hb dL_law_32 (by rw [c8]; decide) (by rw [c8]; decide) (by rw [c8]; rfl) (by decide) ?_
    exact wLc_8 C hargs hr hk hX hbl hB rc hrc x3 σ σ0 h H locs hT ls hl
  rw [if_neg c8] at h
  by_cases c9 : y = 9
  · rw [if_pos c9] at h
    refine lv_tableIn (tgt := 431) hx hb dL_law_32 (by rw [c9]; decide) (by rw [c9]; decide) (by rw [c9]; rfl) (by decide) ?_
    exact wLc_9 C hargs hr hk hX hbl hB rc hrc x3 σ σ0 h H locs hT ls hl
  rw [if_neg c9] at h
  by_cases c10 : y = 10
  · rw [if_pos c10] at h
    refine lv_tableIn (tgt := 454) hx hb dL_law_32 (by rw [c10]; decide) (by rw [c10]; decide) (by rw [c10]; rfl) (by decide) ?_
    exact wLc_10 C hargs hr hk hX hbl hB rc hrc x3 σ σ0 h H locs hT ls hl
  rw [if_neg c10] at h
  by_cases c11 : y = 11
  · rw [if_pos c11] at h
    refine lv_tableIn (tgt := 477) hx hb dL_law_32 (by rw [c11]; decide) (by rw [c11]; decide) (by rw [c11]; rfl) (by decide) ?_
    exact wLc_11 C hargs hr hk hX hbl hB rc hrc x3 σ σ0 h H locs hT ls hl
  rw [if_neg c11] at h
  by_cases c12 : y = 12
  · rw [if_pos c12] at h
    refine lv_tableIn (tgt := 500) hx hb dL_law_32 (by rw [c12]; decide) (by rw [c12]; decide) (by rw [c12]; rfl) (by decide) ?_
    exact wLc_12 C hargs hr hk hX hbl hB rc hrc x3 σ σ0 h H locs hT ls hl
  rw [if_neg c12] at h
  by_cases c13 : y = 13
  · rw [if_pos c13] at h
    refine lv_tableIn (tgt := 533) hx hb dL_law_32 (by rw [c13]; decide) (by rw [c13]; decide) (by rw [c13]; rfl) (by decide) ?_
    exact wLc_13 C hargs hr hk hX hbl hB rc hrc x3 σ σ0 h H locs hT ls hl
  rw [if_neg c13] at h
  by_cases c14 : y = 14
  · rw [if_pos c14] at h
    refine lv_tableIn (tgt := 546) hx hb dL_law_32 (by rw [c14]; decide) (by rw [c14]; decide) (by rw [c14]; rfl) (by decide) ?_
    exact wLc_14 C hargs hr hk hX hbl hB rc hrc x3 σ σ0 h H locs hT ls hl
  rw [if_neg c14] at h
  by_cases c15 : y = 15
  · rw [if_pos c15] at h
    refine lv_tableIn (tgt := 559) hx hb dL_law_32 (by rw [c15]; decide) (by rw [c15]; decide) (by rw [c15]; rfl) (by decide) ?_
    exact wLc_15 C hargs hr hk hX hbl hB rc hrc x3 σ σ0 h H locs hT ls hl
  rw [if_neg c15] at h
  by_cases c16 : y = 16
  · rw [if_pos c16] at h
    refine lv_tableIn (tgt := 582) hx hb dL_law_32 (by rw [c16]; decide) (by rw [c16]; decide) (by rw [c16]; rfl) (by decide) ?_
    exact wLc_16 C hargs hr hk hX hbl hB rc hrc x3 σ σ0 h H locs hT ls hl
  rw [if_neg c16] at h
  by_cases c17 : y = 17
  · rw [if_pos c17] at h
    refine lv_tableIn (tgt := 625) hx hb dL_law_32 (by rw [c17]; decide) (by rw [c17]; decide) (by rw [c17]; rfl) (by decide) ?_
    exact wLc_17 C hargs hr hk hX hbl hB rc hrc x3 σ σ0 h H locs hT ls hl
  rw [if_neg c17] at h
  by_cases c18 : y = 18
  · rw [if_pos c18] at h
    refine lv_tableIn (tgt := 638) hx hb dL_law_32 (by rw [c18]; decide) (by rw [c18]; decide) (by rw [c18]; rfl) (by decide) ?_
    exact wLc_18 C hargs hr hk hX hbl hB rc hrc x3 σ σ0 h H locs hT ls hl
  rw [if_neg c18] at h
  by_cases c19 : y = 19
  · rw [if_pos c19] at h
    refine lv_tableIn (tgt := 651) hx hb dL_law_32 (by rw [c19]; decide) (by rw [c19]; decide) (by rw [c19]; rfl) (by decide) ?_
    exact wLc_19 C hargs hr hk hX hbl hB rc hrc x3 σ σ0 h H locs hT ls hl
  rw [if_neg c19] at h
  by_cases c20 : y = 20
  · rw [if_pos c20] at h
    refine lv_tableIn (tgt := 664) hx hb dL_law_32 (by rw [c20]; decide) (by rw [c20]; decide) (by rw [c20]; rfl) (by decide) ?_
    exact wLc_20 C hargs hr hk hX hbl hB rc hrc x3 σ σ0 h H locs hT ls hl
  rw [if_neg c20] at h
  by_cases c21 : y = 21
  · rw [if_pos c21] at h
    refine lv_tableIn (tgt := 687) hx hb dL_law_32 (by rw [c21]; decide) (by rw [c21]; decide) (by rw [c21]; rfl) (by decide) ?_
    exact wLc_21 C hargs hr hk hX hbl hB rc hrc x3 σ σ0 h H locs hT ls hl
  rw [if_neg c21] at h
  by_cases c22 : y = 22
  · rw [if_pos c22] at h
    refine lv_tableIn (tgt := 700) hx hb dL_law_32 (by rw [c22]; decide) (by rw [c22]; decide) (by rw [c22]; rfl) (by decide) ?_
    exact wLc_22 C hargs hr hk hX hbl hB rc hrc x3 σ σ0 h H locs hT ls hl
  rw [if_neg c22] at h
  by_cases c23 : y = 23
  · rw [if_pos c23] at h
    refine lv_tableIn (tgt := 713) hx hb dL_law_32 (by rw [c23]; decide) (by rw [c23]; decide) (by rw [c23]; rfl) (by decide) ?_
    exact wLc_23 C hargs hr hk hX hbl hB rc hrc x3 σ σ0 h H locs hT ls hl
  rw [if_neg c23] at h
  by_cases c24 : y = 24
  · rw [if_pos c24] at h
    refine lv_tableIn (tgt := 726) hx hb dL_law_32 (by rw [c24]; decide) (by rw [c24]; decide) (by rw [c24]; rfl) (by decide) ?_
    exact wLc_24 C hargs hr hk hX hbl hB rc hrc x3 σ σ0 h H locs hT ls hl
  rw [if_neg c24] at h
  by_cases c25 : y = 25
  · rw [if_pos c25] at h
    refine lv_tableIn (tgt := 739) hx hb dL_law_32 (by rw [c25]; decide) (by rw [c25]; decide) (by rw [c25]; rfl) (by decide) ?_
    exact wLc_25 C hargs hr hk hX hbl hB rc hrc x3 σ σ0 h H locs hT ls hl
  rw [if_neg c25] at h
  by_cases c26 : y = 26
  · rw [if_pos c26] at h
    refine lv_tableIn (tgt := 762) hx hb dL_law_32 (by rw [c26]; decide) (by rw [c26]; decide) (by rw [c26]; rfl) (by decide) ?_
    exact wLc_26 C hargs hr hk hX hbl hB rc hrc x3 σ σ0 h H locs hT ls hl
  rw [if_neg c26] at h
  by_cases c27 : y = 27
  · rw [if_pos c27] at h
    refine lv_tableIn (tgt := 785) hx hb dL_law_32 (by rw [c27]; decide) (by rw [c27]; decide) (by rw [c27]; rfl) (by decide) ?_
    exact wLc_27 C hargs hr hk hX hbl hB rc hrc x3 σ σ0 h H locs hT ls hl
  rw [if_neg c27] at h
  by_cases c28 : y = 28
  · rw [if_pos c28] at h
    refine lv_tableIn (tgt := 808) hx hb dL_law_32 (by rw [c28]; decide) (by rw [c28]; decide) (by rw [c28]; rfl) (by decide) ?_
    exact wLc_28 C hargs hr hk hX hbl hB rc hrc x3 σ σ0 h H locs hT ls hl
  rw [if_neg c28] at h
  by_cases c29 : y = 29
  · rw [if_pos c29] at h
    refine lv_tableIn (tgt := 841) hx hb dL_law_32 (by rw [c29]; decide) (by rw [c29]; decide) (by rw [c29]; rfl) (by decide) ?_
    exact wLc_29 C hargs hr hk hX hbl hB rc hrc x3 σ σ0 h H locs hT ls hl
  rw [if_neg c29] at h
  by_cases c30 : y = 30
  · rw [if_pos c30] at h
    refine lv_tableIn (tgt := 874) hx hb dL_law_32 (by rw [c30]; decide) (by rw [c30]; decide) (by rw [c30]; rfl) (by decide) ?_
    exact wLc_30 C hargs hr hk hX hbl hB rc hrc x3 σ σ0 h H locs hT ls hl
  rw [if_neg c30] at h
  by_cases c31 : y = 31
  · rw [if_pos c31] at h
    refine lv_tableIn (tgt := 907) hx hb dL_law_32 (by rw [c31]; decide) (by rw [c31]; decide) (by rw [c31]; rfl) (by decide) ?_
    exact wLc_31 C hargs hr hk hX hbl hB rc hrc x3 σ σ0 h H locs hT ls hl
  rw [if_neg c31] at h
  by_cases c32 : y = 32
  · rw [if_pos c32] at h
    refine lv_tableIn (tgt := 940) hx hb dL_law_32 (by rw [c32]; decide) (by rw [c32]; decide) (by rw [c32]; rfl) (by decide) ?_
    exact wLc_32 C hargs hr hk hX hbl hB rc hrc x3 σ σ0 h H locs hT ls hl
  rw [if_neg c32] at h
  by_cases c33 : y = 33
  · rw [if_pos c33] at h
    refine lv_tableIn (tgt := 973) hx hb dL_law_32 (by rw [c33]; decide) (by rw [c33]; decide) (by rw [c33]; rfl) (by decide) ?_
    exact wLc_33 C hargs hr hk hX hbl hB rc hrc x3 σ σ0 h H locs hT ls hl
  rw [if_neg c33] at h
  by_cases c34 : y = 34
  · rw [if_pos c34] at h
    refine lv_tableIn (tgt := 1016) hx hb dL_law_32 (by rw [c34]; decide) (by rw [c34]; decide) (by rw [c34]; rfl) (by decide) ?_
    exact wLc_34 C hargs hr hk hX hbl hB rc hrc x3 σ σ0 h H locs hT ls hl
  rw [if_neg c34] at h
  by_cases c35 : y = 35
  · rw [if_pos c35] at h
    refine lv_tableIn (tgt := 1039) hx hb dL_law_32 (by rw [c35]; decide) (by rw [c35]; decide) (by rw [c35]; rfl) (by decide) ?_
    exact wLc_35 C hargs hr hk hX hbl hB rc hrc x3 σ σ0 h H locs hT ls hl
  rw [if_neg c35] at h
  by_cases c36 : y = 36
  · rw [if_pos c36] at h
    refine lv_tableIn (tgt := 1072) hx hb dL_law_32 (by rw [c36]; decide) (by rw [c36]; decide) (by rw [c36]; rfl) (by decide) ?_
    exact wLc_36 C hargs hr hk hX hbl hB rc hrc x3 σ σ0 h H locs hT ls hl
  rw [if_neg c36] at h
  by_cases c37 : y = 37
  · rw [if_pos c37] at h
    refine lv_tableIn (tgt := 1105) hx hb dL_law_32 (by rw [c37]; decide) (by rw [c37]; decide) (by rw [c37]; rfl) (by decide) ?_
    exact wLc_37 C hargs hr hk hX hbl hB rc hrc x3 σ σ0 h H locs hT ls hl
  rw [if_neg c37] at h
  by_cases c38 : y = 38
  · rw [if_pos c38] at h
    refine lv_tableIn (tgt := 1138) hx hb dL_law_32 (by rw [c38]; decide) (by rw [c38]; decide) (by rw [c38]; rfl) (by decide) ?_
    exact wLc_38 C hargs hr hk hX hbl hB rc hrc x3 σ σ0 h H locs hT ls hl
  rw [if_neg c38] at h
  by_cases c39 : y = 39
  · rw [if_pos c39] at h
    refine lv_tableIn (tgt := 1171) hx hb dL_law_32 (by rw [c39]; decide) (by rw [c39]; decide) (by rw [c39]; rfl) (by decide) ?_
    exact wLc_39 C hargs hr hk hX hbl hB rc hrc x3 σ σ0 h H locs hT ls hl
  rw [if_neg c39] at h
  by_cases c40 : y = 40
  · rw [if_pos c40] at h
    refine lv_tableIn (tgt := 1204) hx hb dL_law_32 (by rw [c40]; decide) (by rw [c40]; decide) (by rw [c40]; rfl) (by decide) ?_
    exact wLc_40 C hargs hr hk hX hbl hB rc hrc x3 σ σ0 h H locs hT ls hl
  rw [if_neg c40] at h
  by_cases c41 : y = 41
  · rw [if_pos c41] at h
    refine lv_tableIn (tgt := 1237) hx hb dL_law_32 (by rw [c41]; decide) (by rw [c41]; decide) (by rw [c41]; rfl) (by decide) ?_
    exact wLc_41 C hargs hr hk hX hbl hB rc hrc x3 σ σ0 h H locs hT ls hl
  rw [if_neg c41] at h
  by_cases c42 : y = 42
  · rw [if_pos c42] at h
    refine lv_tableIn (tgt := 1270) hx hb dL_law_32 (by rw [c42]; decide) (by rw [c42]; decide) (by rw [c42]; rfl) (by decide) ?_
    exact wLc_42 C hargs hr hk hX hbl hB rc hrc x3 σ σ0 h H locs hT ls hl
  rw [if_neg c42] at h
  by_cases c43 : y = 43
  · rw [if_pos c43] at h
    refine lv_tableIn (tgt := 1313) hx hb dL_law_32 (by rw [c43]; decide) (by rw [c43]; decide) (by rw [c43]; rfl) (by decide) ?_
    exact wLc_43 C hargs hr hk hX hbl hB rc hrc x3 σ σ0 h H locs hT ls hl
  rw [if_neg c43] at h
  by_cases c44 : y = 44
  · rw [if_pos c44] at h
    refine lv_tableIn (tgt := 1326) hx hb dL_law_32 (by rw [c44]; decide) (by rw [c44]; decide) (by rw [c44]; rfl) (by decide) ?_
    exact wLc_44 C hargs hr hk hX hbl hB rc hrc x3 σ σ0 h H locs hT ls hl
  rw [if_neg c44] at h
  by_cases c45 : y = 45
  · rw [if_pos c45] at h
    refine lv_tableIn (tgt := 1349) hx hb dL_law_32 (by rw [c45]; decide) (by rw [c45]; decide) (by rw [c45]; rfl) (by decide) ?_
    exact wLc_45 C hargs hr hk hX hbl hB rc hrc x3 σ σ0 h H locs hT ls hl
  rw [if_neg c45] at h
  by_cases c46 : y = 46
  · rw [if_pos c46] at h
    refine lv_tableIn (tgt := 1362) hx hb dL_law_32 (by rw [c46]; decide) (by rw [c46]; decide) (by rw [c46]; rfl) (by decide) ?_
    exact wLc_46 C hargs hr hk hX hbl hB rc hrc x3 σ σ0 h H locs hT ls hl
  rw [if_neg c46] at h
  by_cases c47 : y = 47
  · rw [if_pos c47] at h
    refine lv_tableIn (tgt := 1375) hx hb dL_law_32 (by rw [c47]; decide) (by rw [c47]; decide) (by rw [c47]; rfl) (by decide) ?_
    exact wLc_47 C hargs hr hk hX hbl hB rc hrc x3 σ σ0 h H locs hT ls hl
  rw [if_neg c47] at h
  by_cases c48 : y = 48
  · rw [if_pos c48] at h
    refine lv_tableIn (tgt := 1388) hx hb dL_law_32 (by rw [c48]; decide) (by rw [c48]; decide) (by rw [c48]; rfl) (by decide) ?_
    exact wLc_48 C hargs hr hk hX hbl hB rc hrc x3 σ σ0 h H locs hT ls hl
  rw [if_neg c48] at h
  refine lv_tableOut (tgt := 1401) hx hb dL_law_32 (js_sw (x := y) (lo := 0) (hi := 48) (fun v h1 h2 => ?_)) (by decide) ?_
  · have a0 := js_swi (a := 0) c0 (by decide)
    have a1 := js_swi (a := 1) c1 (by decide)
    have a2 := js_swi (a := 2) c2 (by decide)
    have a3 := js_swi (a := 3) c3 (by decide)
    have a4 := js_swi (a := 4) c4 (by decide)
    have a5 := js_swi (a := 5) c5 (by decide)
    have a6 := js_swi (a := 6) c6 (by decide)
    have a7 := js_swi (a := 7) c7 (by decide)
    have a8 := js_swi (a := 8) c8 (by decide)
    have a9 := js_swi (a := 9) c9 (by decide)
    have a10 := js_swi (a := 10) c10 (by decide)
    have a11 := js_swi (a := 11) c11 (by decide)
    have a12 := js_swi (a := 12) c12 (by decide)
    have a13 := js_swi (a := 13) c13 (by decide)
    have a14 := js_swi (a := 14) c14 (by decide)
    have a15 := js_swi (a := 15) c15 (by decide)
    have a16 := js_swi (a := 16) c16 (by decide)
    have a17 := js_swi (a := 17) c17 (by decide)
    have a18 := js_swi (a := 18) c18 (by decide)
    have a19 := js_swi (a := 19) c19 (by decide)
    have a20 := js_swi (a := 20) c20 (by decide)
    have a21 := js_swi (a := 21) c21 (by decide)
    have a22 := js_swi (a := 22) c22 (by decide)
    have a23 := js_swi (a := 23) c23 (by decide)
    have a24 := js_swi (a := 24) c24 (by decide)
    have a25 := js_swi (a := 25) c25 (by decide)
    have a26 := js_swi (a := 26) c26 (by decide)
    have a27 := js_swi (a := 27) c27 (by decide)
    have a28 := js_swi (a := 28) c28 (by decide)
    have a29 := js_swi (a := 29) c29 (by decide)
    have a30 := js_swi (a := 30) c30 (by decide)
    have a31 := js_swi (a := 31) c31 (by decide)
    have a32 := js_swi (a := 32) c32 (by decide)
    have a33 := js_swi (a := 33) c33 (by decide)
    have a34 := js_swi (a := 34) c34 (by decide)
    have a35 := js_swi (a := 35) c35 (by decide)
    have a36 := js_swi (a := 36) c36 (by decide)
    have a37 := js_swi (a := 37) c37 (by decide)
    have a38 := js_swi (a := 38) c38 (by decide)
    have a39 := js_swi (a := 39) c39 (by decide)
    have a40 := js_swi (a := 40) c40 (by decide)
    have a41 := js_swi (a := 41) c41 (by decide)
    have a42 := js_swi (a := 42) c42 (by decide)
    have a43 := js_swi (a := 43) c43 (by decide)
    have a44 := js_swi (a := 44) c44 (by decide)
    have a45 := js_swi (a := 45) c45 (by decide)
    have a46 := js_swi (a := 46) c46 (by decide)
    have a47 := js_swi (a := 47) c47 (by decide)
    have a48 := js_swi (a := 48) c48 (by decide)
    omega
  · exact wL_1401 C hargs hr hk hX hbl hB rc hrc x3 σ σ0 h H locs hT ls hl
set_option maxHeartbeats 4000000 in
set_option maxRecDepth 20000 in
theorem wL_18b (C : js_C D g p m c cL_law 4 s args RL) (hargs : args = #[Value.ref b]) (hr : meth.sig.returnType = ret) (hk : meth.locks = false) (hX : va_X b L xs s s.heap) (hbl : b < s.heap.size) (hB : B + 1 = s.heap.size) (rc : Int32 → js_S → Option (Int32 × js_S)) (hrc : ∀ (x3 : Int32) (σ σ0 : js_S), rc x3 σ = some (1, σ0) → ∀ (H : Heap) (locs : List Loc), js_T D B g 419 σ s H locs → ∀ ls : Array Slot, lv_has ls 4 [(0, .ref b), (1, .ref (B + 1)), (2, .ref (B + 390)), (3, .int x3)] → W p l e room_1 s m args below meth c H locs 435 316929 (lw_Z below args s) (F0 m 18 ls [])) : ∀ (x3 : Int32) (σ σ0 : js_S), fL_18b fu L xs rc x3 σ = some (1, σ0) → ∀ (H : Heap) (locs : List Loc), js_T D B g 419 σ s H locs → ∀ ls : Array Slot, lv_has ls 4 [(0, .ref b), (1, .ref (B + 1)), (2, .ref (B + 390)), (3, .int x3)] → W p l e room_1 s m args below meth c H locs 435 316929 (lw_Z below args s) (F0 m 18 ls []) := by
  obtain ⟨hx, hb, hml, hown, ht, hK, hNw⟩ := id C
  have hbA : ¬ (fun q => B < q) b := by show ¬ B < b; omega
  intro x3 σ σ0 h H locs hT ls hl
  unfold fL_18b at h
  refine lv_iload_n hx hb dL_law_18 rfl (lv_at hl 3 rfl) ?_
  refine lv_aload_n hx hb dL_law_19 rfl (lv_at hl 0 rfl) ?_
  refine va_slen hx hb hX hbl hbA hT.2.1 dL_law_20 ?_
  refine lv_iconst (v := 4) hx hb dL_law_21 (by decide) ?_
  refine lv_isub hx hb dL_law_22 ?_
  refine lv_icmp_gt (tgt := 1407) hx hb dL_law_23 (by decide) (fun c1 => ?_) (fun c1 => ?_)
  · refine lv_iconst (v := 1) hx hb dL_law_1407 (by decide) ?_
    refine va_forget (fun q hq => ?_) ?_
    · have : B < q.base := hT.2.1.2.2 q hq
      omega
    · refine W.widen (k := 600000) (n := 7302250) (Nat.le_of_ble_eq_true rfl) (Nat.le_of_ble_eq_true rfl) ?_
      subst hargs
      exact lw_ret hx hb hr hk dL_law_1408
  · rw [if_neg c1] at h
    obtain ⟨g1, h⟩ := gd_some _ h
    refine lv_aload_n hx hb dL_law_26 rfl (lv_at hl 0 rfl) ?_
    refine lv_iload_n hx hb dL_law_27 rfl (lv_at hl 3 rfl) ?_
    refine va_sld hx hb hX hbl hbA hT.2.1 (ib_in g1) dL_law_28 ?_
    refine lv_bipush (v := 63) hx hb dL_law_29 (by decide) ?_
    refine lv_iand hx hb dL_law_31 ?_
    exact wL_sw C hargs hr hk hX hbl hB rc hrc _ x3 σ σ0 h H locs hT ls hl
set_option maxHeartbeats 4000000 in
set_option maxRecDepth 20000 in
theorem wL_18 (C : js_C D g p m c cL_law 4 s args RL) (hargs : args = #[Value.ref b]) (hr : meth.sig.returnType = ret) (hk : meth.locks = false) (hX : va_X b L xs s s.heap) (hbl : b < s.heap.size) (hB : B + 1 = s.heap.size) : ∀ k : Nat, ∀ (x3 : Int32) (σ σ0 : js_S), fL_18 fu L xs k x3 σ = some (1, σ0) → ∀ (H : Heap) (locs : List Loc), js_T D B g 419 σ s H locs → ∀ ls : Array Slot, lv_has ls 4 [(0, .ref b), (1, .ref (B + 1)), (2, .ref (B + 390)), (3, .int x3)] → W p l e room_1 s m args below meth c H locs 435 316929 (lw_Z below args s) (F0 m 18 ls []) := by
  intro k
  induction k with
  | zero =>
    intro x3 σ σ0 h
    cases h
  | succ k ih =>
    intro x3 σ σ0 h
    exact wL_18b C hargs hr hk hX hbl hB (fL_18 fu L xs k) ih x3 σ σ0 h
set_option maxHeartbeats 4000000 in
set_option maxRecDepth 20000 in
theorem wL_0 {p : Program} {e : Env} {s : State} {m : MethodId} {below : List Frame} {meth : Method} {c : Code} {l : Launch} {D : va_G} {g : js_G} {B b L fu : Nat} {xs : Nat → Int32} (C : js_CC D g p m c cL_law 4 s #[Value.ref b] RL) (hr : meth.sig.returnType = ret) (hk : meth.locks = false) (hX : va_X b L xs s s.heap) (hbl : b < s.heap.size) (hB : B + 1 = s.heap.size)
    {σ1 σ2 σ0 : js_S} (h1 : fX11_initc 1 1 (zz_ js_z 1) = some (389, σ1)) (h2 : fX12_initc 390 390 (zz_ σ1 390) = some (419, σ2)) (hw : wf_ 419 σ2.2.2) (h : fL_18 fu L xs fu 0 σ2 = some (1, σ0)) : W p l e room_1 s m #[Value.ref b] below meth c s.heap [] 0 0 (lw_Z below #[Value.ref b] s) (entryFrame m ([Value.ref b] : List Value).toArray 4) := by
  obtain ⟨⟨hx, hb, hml, hown, ht, hK, hNw⟩, hao⟩ := id C
  have hl := lv_entry ([.ref b]) (n := 4) (Nat.le_of_ble_eq_true rfl)
  rw [lg_entry_eq]
  generalize (lg_sl ([.ref b]) ++ List.replicate (4 - (lg_sl ([.ref b])).length) Slot.unset).toArray = ls at hl ⊢
  have hl : lv_has ls 4 [(0, .ref b)] := hl
  have hU : js_U D B g 0 js_z s s.heap [] := ⟨fun k q h => by simp [en_] at h, va_S.rf, by omega⟩
  refine jc_new C hU cfX11 dvX11 (by decide +kernel) lk_L_7 js_i1X11 js_i2X11 (Nat.le_of_ble_eq_true rfl) (Nat.le_of_ble_eq_true rfl) dL_law_0 (fun H hU => ?_)
  refine lv_dup hx hb dL_law_3 rfl ?_
  refine jc_back hU (jc_runI C hU mfX11_init lk_L_9 (kX11_initc h1) ⟨Nat.le_of_ble_eq_true rfl, Nat.le_of_ble_eq_true rfl⟩ rfl hl.1 rfl (Nat.le_of_ble_eq_true rfl) ⟨Nat.le_of_ble_eq_true rfl, Nat.le_of_ble_eq_true rfl⟩ dL_law_4) (fun H locs hU => ?_)
  refine lv_astore_n (lv' := [(1, .ref (B + 1)), (0, .ref b)]) hx hb dL_law_7 rfl hl (by decide) rfl (fun ls hl => ?_)
  refine jc_new C hU cfX12 dvX12 (by decide +kernel) lk_L_10 js_i1X12 js_i2X12 (Nat.le_of_ble_eq_true rfl) (Nat.le_of_ble_eq_true rfl) dL_law_8 (fun H hU => ?_)
  refine lv_dup hx hb dL_law_11 rfl ?_
  refine jc_back hU (jc_runI C hU mfX12_init lk_L_12 (kX12_initc h2) ⟨Nat.le_of_ble_eq_true rfl, Nat.le_of_ble_eq_true rfl⟩ rfl hl.1 rfl (Nat.le_of_ble_eq_true rfl) ⟨Nat.le_of_ble_eq_true rfl, Nat.le_of_ble_eq_true rfl⟩ dL_law_12) (fun H locs hU => ?_)
  refine lv_astore_n (lv' := [(2, .ref (B + 390)), (1, .ref (B + 1)), (0, .ref b)]) hx hb dL_law_15 rfl hl (by decide) rfl (fun ls hl => ?_)
  refine lv_iconst (v := 0) hx hb dL_law_16 (by decide) ?_
  refine lv_istore_n (lv' := [(3, .int 0), (2, .ref (B + 390)), (1, .ref (B + 1)), (0, .ref b)]) hx hb dL_law_17 rfl hl (by decide) rfl (fun ls hl => ?_)
  refine W.widen (k := 435) (n := 316929) (Nat.le_of_ble_eq_true rfl) (Nat.le_of_ble_eq_true rfl) ?_
  exact wL_18 C.1 rfl hr hk hX hbl hB fu 0 σ2 σ0 h H locs ⟨hU.1, hU.2.1, hw⟩ ls (lv_sub hl [3, 2, 1, 0] rfl)
