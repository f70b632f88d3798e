theorem dX11_pairPosition_12 : decode cX11_pairPosition 12 = .ok (.iload_n 1, 1) := by decide +kernel
theorem dX11_pairPosition_13 : decode cX11_pairPosition 13 = .ok (.invokevirtual 154, 3) := by decide +kernel
theorem dX11_pairPosition_16 : decode cX11_pairPosition 16 = .ok (.goto 4, 3) := by decide +kernel
theorem dX11_pairPosition_19 : decode cX11_pairPosition 19 = .ok (.iconst (-1), 1) := by decide +kernel
theorem dX11_pairPosition_20 : decode cX11_pairPosition 20 = .ok (.ireturn, 1) := by decide +kernel
theorem dX11_sourceFunction_0 : decode cX11_sourceFunction 0 = .ok (.aload_n 0, 1) := by decide +kernel
theorem dX11_sourceFunction_1 : decode cX11_sourceFunction 1 = .ok (.iload_n 1, 1) := by decide +kernel
theorem dX11_sourceFunction_2 : decode cX11_sourceFunction 2 = .ok (.invokevirtual 148, 3) := by decide +kernel
theorem dX11_sourceFunction_5 : decode cX11_sourceFunction 5 = .ok (.ifCond .eq 17, 3) := by decide +kernel
theorem dX11_sourceFunction_8 : decode cX11_sourceFunction 8 = .ok (.aload_n 0, 1) := by decide +kernel
theorem dX11_sourceFunction_9 : decode cX11_sourceFunction 9 = .ok (.invokevirtual 141, 3) := by decide +kernel
theorem dX11_sourceFunction_12 : decode cX11_sourceFunction 12 = .ok (.iload_n 1, 1) := by decide +kernel
theorem dX11_sourceFunction_13 : decode cX11_sourceFunction 13 = .ok (.invokevirtual 156, 3) := by decide +kernel
theorem dX11_sourceFunction_16 : decode cX11_sourceFunction 16 = .ok (.invokestatic 159, 3) := by decide +kernel
theorem dX11_sourceFunction_19 : decode cX11_sourceFunction 19 = .ok (.goto 4, 3) := by decide +kernel
theorem dX11_sourceFunction_22 : decode cX11_sourceFunction 22 = .ok (.iconst (-1), 1) := by decide +kernel
theorem dX11_sourceFunction_23 : decode cX11_sourceFunction 23 = .ok (.ireturn, 1) := by decide +kernel
theorem dX11_targetFunction_0 : decode cX11_targetFunction 0 = .ok (.aload_n 0, 1) := by decide +kernel
theorem dX11_targetFunction_1 : decode cX11_targetFunction 1 = .ok (.iload_n 1, 1) := by decide +kernel
theorem dX11_targetFunction_2 : decode cX11_targetFunction 2 = .ok (.invokevirtual 148, 3) := by decide +kernel
theorem dX11_targetFunction_5 : decode cX11_targetFunction 5 = .ok (.ifCond .eq 17, 3) := by decide +kernel
theorem dX11_targetFunction_8 : decode cX11_targetFunction 8 = .ok (.aload_n 0, 1) := by decide +kernel
theorem dX11_targetFunction_9 : decode cX11_targetFunction 9 = .ok (.invokevirtual 141, 3) := by decide +kernel
theorem dX11_targetFunction_12 : decode cX11_targetFunction 12 = .ok (.iload_n 1, 1) := by decide +kernel
theorem dX11_targetFunction_13 : decode cX11_targetFunction 13 = .ok (.invokevirtual 156, 3) := by decide +kernel
theorem dX11_targetFunction_16 : decode cX11_targetFunction 16 = .ok (.invokestatic 162, 3) := by decide +kernel
theorem dX11_targetFunction_19 : decode cX11_targetFunction 19 = .ok (.goto 4, 3) := by decide +kernel
theorem dX11_targetFunction_22 : decode cX11_targetFunction 22 = .ok (.iconst (-1), 1) := by decide +kernel
theorem dX11_targetFunction_23 : decode cX11_targetFunction 23 = .ok (.ireturn, 1) := by decide +kernel
theorem dX11_hasEdge_0 : decode cX11_hasEdge 0 = .ok (.aload_n 0, 1) := by decide +kernel
theorem dX11_hasEdge_1 : decode cX11_hasEdge 1 = .ok (.iload_n 1, 1) := by decide +kernel
theorem dX11_hasEdge_2 : decode cX11_hasEdge 2 = .ok (.invokevirtual 148, 3) := by decide +kernel
theorem dX11_hasEdge_5 : decode cX11_hasEdge 5 = .ok (.ifCond .eq 11, 3) := by decide +kernel
theorem dX11_hasEdge_8 : decode cX11_hasEdge 8 = .ok (.aload_n 0, 1) := by decide +kernel
theorem dX11_hasEdge_9 : decode cX11_hasEdge 9 = .ok (.iload_n 2, 1) := by decide +kernel
theorem dX11_hasEdge_10 : decode cX11_hasEdge 10 = .ok (.invokevirtual 148, 3) := by decide +kernel
theorem dX11_hasEdge_13 : decode cX11_hasEdge 13 = .ok (.ifCond .ne 5, 3) := by decide +kernel
theorem dX11_hasEdge_16 : decode cX11_hasEdge 16 = .ok (.iconst (-1), 1) := by decide +kernel
theorem dX11_hasEdge_17 : decode cX11_hasEdge 17 = .ok (.ireturn, 1) := by decide +kernel
theorem dX11_hasEdge_18 : decode cX11_hasEdge 18 = .ok (.aload_n 0, 1) := by decide +kernel
theorem dX11_hasEdge_19 : decode cX11_hasEdge 19 = .ok (.invokevirtual 141, 3) := by decide +kernel
theorem dX11_hasEdge_22 : decode cX11_hasEdge 22 = .ok (.getfield 165, 3) := by decide +kernel
theorem dX11_hasEdge_25 : decode cX11_hasEdge 25 = .ok (.iload_n 1, 1) := by decide +kernel
theorem dX11_hasEdge_26 : decode cX11_hasEdge 26 = .ok (.iload_n 2, 1) := by decide +kernel
theorem dX11_hasEdge_27 : decode cX11_hasEdge 27 = .ok (.invokevirtual 169, 3) := by decide +kernel
theorem dX11_hasEdge_30 : decode cX11_hasEdge 30 = .ok (.ifCond .eq 7, 3) := by decide +kernel
theorem dX11_hasEdge_33 : decode cX11_hasEdge 33 = .ok (.iconst 1, 1) := by decide +kernel
theorem dX11_hasEdge_34 : decode cX11_hasEdge 34 = .ok (.goto 4, 3) := by decide +kernel
theorem dX11_hasEdge_37 : decode cX11_hasEdge 37 = .ok (.iconst 0, 1) := by decide +kernel
theorem dX11_hasEdge_38 : decode cX11_hasEdge 38 = .ok (.ireturn, 1) := by decide +kernel
theorem dX11_edgeCount_0 : decode cX11_edgeCount 0 = .ok (.aload_n 0, 1) := by decide +kernel
theorem dX11_edgeCount_1 : decode cX11_edgeCount 1 = .ok (.invokevirtual 141, 3) := by decide +kernel
theorem dX11_edgeCount_4 : decode cX11_edgeCount 4 = .ok (.getfield 165, 3) := by decide +kernel
theorem dX11_edgeCount_7 : decode cX11_edgeCount 7 = .ok (.invokevirtual 175, 3) := by decide +kernel
theorem dX11_edgeCount_10 : decode cX11_edgeCount 10 = .ok (.ireturn, 1) := by decide +kernel
theorem dX11_componentCount_0 : decode cX11_componentCount 0 = .ok (.aload_n 0, 1) := by decide +kernel
theorem dX11_componentCount_1 : decode cX11_componentCount 1 = .ok (.invokevirtual 179, 3) := by decide +kernel
theorem dX11_componentCount_4 : decode cX11_componentCount 4 = .ok (.getfield 183, 3) := by decide +kernel
theorem dX11_componentCount_7 : decode cX11_componentCount 7 = .ok (.ireturn, 1) := by decide +kernel
theorem dX11_componentOf_0 : decode cX11_componentOf 0 = .ok (.aload_n 0, 1) := by decide +kernel
theorem dX11_componentOf_1 : decode cX11_componentOf 1 = .ok (.iload_n 1, 1) := by decide +kernel
theorem dX11_componentOf_2 : decode cX11_componentOf 2 = .ok (.invokevirtual 148, 3) := by decide +kernel
theorem dX11_componentOf_5 : decode cX11_componentOf 5 = .ok (.ifCond .ne 5, 3) := by decide +kernel
theorem dX11_componentOf_8 : decode cX11_componentOf 8 = .ok (.iconst (-1), 1) := by decide +kernel
theorem dX11_componentOf_9 : decode cX11_componentOf 9 = .ok (.ireturn, 1) := by decide +kernel
theorem dX11_componentOf_10 : decode cX11_componentOf 10 = .ok (.aload_n 0, 1) := by decide +kernel
theorem dX11_componentOf_11 : decode cX11_componentOf 11 = .ok (.invokevirtual 179, 3) := by decide +kernel
theorem dX11_componentOf_14 : decode cX11_componentOf 14 = .ok (.iload_n 1, 1) := by decide +kernel
theorem dX11_componentOf_15 : decode cX11_componentOf 15 = .ok (.invokevirtual 184, 3) := by decide +kernel
theorem dX11_componentOf_18 : decode cX11_componentOf 18 = .ok (.istore_n 2, 1) := by decide +kernel
theorem dX11_componentOf_19 : decode cX11_componentOf 19 = .ok (.iload_n 2, 1) := by decide +kernel
theorem dX11_componentOf_20 : decode cX11_componentOf 20 = .ok (.ifCond .lt 7, 3) := by decide +kernel
theorem dX11_componentOf_23 : decode cX11_componentOf 23 = .ok (.iload_n 2, 1) := by decide +kernel
theorem dX11_componentOf_24 : decode cX11_componentOf 24 = .ok (.goto 5, 3) := by decide +kernel
theorem dX11_componentOf_27 : decode cX11_componentOf 27 = .ok (.bipush (-5), 2) := by decide +kernel
theorem dX11_componentOf_29 : decode cX11_componentOf 29 = .ok (.ireturn, 1) := by decide +kernel
theorem dX11_sizeRelation_0 : decode cX11_sizeRelation 0 = .ok (.aload_n 0, 1) := by decide +kernel
theorem dX11_sizeRelation_1 : decode cX11_sizeRelation 1 = .ok (.iload_n 1, 1) := by decide +kernel
theorem dX11_sizeRelation_2 : decode cX11_sizeRelation 2 = .ok (.invokevirtual 148, 3) := by decide +kernel
theorem dX11_sizeRelation_5 : decode cX11_sizeRelation 5 = .ok (.ifCond .ne 5, 3) := by decide +kernel
theorem dX11_sizeRelation_8 : decode cX11_sizeRelation 8 = .ok (.iconst (-1), 1) := by decide +kernel
theorem dX11_sizeRelation_9 : decode cX11_sizeRelation 9 = .ok (.ireturn, 1) := by decide +kernel
theorem dX11_sizeRelation_10 : decode cX11_sizeRelation 10 = .ok (.aload_n 0, 1) := by decide +kernel
theorem dX11_sizeRelation_11 : decode cX11_sizeRelation 11 = .ok (.invokevirtual 141, 3) := by decide +kernel
theorem dX11_sizeRelation_14 : decode cX11_sizeRelation 14 = .ok (.iload_n 1, 1) := by decide +kernel
theorem dX11_sizeRelation_15 : decode cX11_sizeRelation 15 = .ok (.invokevirtual 156, 3) := by decide +kernel
theorem dX11_sizeRelation_18 : decode cX11_sizeRelation 18 = .ok (.istore 4, 2) := by decide +kernel
theorem dX11_sizeRelation_20 : decode cX11_sizeRelation 20 = .ok (.iload_n 2, 1) := by decide +kernel
theorem dX11_sizeRelation_21 : decode cX11_sizeRelation 21 = .ok (.ifCond .lt 22, 3) := by decide +kernel
theorem dX11_sizeRelation_24 : decode cX11_sizeRelation 24 = .ok (.iload_n 2, 1) := by decide +kernel
theorem dX11_sizeRelation_25 : decode cX11_sizeRelation 25 = .ok (.aload_n 0, 1) := by decide +kernel
theorem dX11_sizeRelation_26 : decode cX11_sizeRelation 26 = .ok (.getfield 12, 3) := by decide +kernel
theorem dX11_sizeRelation_29 : decode cX11_sizeRelation 29 = .ok (.getfield 88, 3) := by decide +kernel
theorem dX11_sizeRelation_32 : decode cX11_sizeRelation 32 = .ok (.iload 4, 2) := by decide +kernel
theorem dX11_sizeRelation_34 : decode cX11_sizeRelation 34 = .ok (.invokestatic 159, 3) := by decide +kernel
theorem dX11_sizeRelation_37 : decode cX11_sizeRelation 37 = .ok (.invokevirtual 92, 3) := by decide +kernel
theorem dX11_sizeRelation_40 : decode cX11_sizeRelation 40 = .ok (.if_icmp .lt 5, 3) := by decide +kernel
theorem dX11_sizeRelation_43 : decode cX11_sizeRelation 43 = .ok (.iconst (-1), 1) := by decide +kernel
theorem dX11_sizeRelation_44 : decode cX11_sizeRelation 44 = .ok (.ireturn, 1) := by decide +kernel
theorem dX11_sizeRelation_45 : decode cX11_sizeRelation 45 = .ok (.iload_n 3, 1) := by decide +kernel
theorem dX11_sizeRelation_46 : decode cX11_sizeRelation 46 = .ok (.ifCond .lt 22, 3) := by decide +kernel
theorem dX11_sizeRelation_49 : decode cX11_sizeRelation 49 = .ok (.iload_n 3, 1) := by decide +kernel
theorem dX11_sizeRelation_50 : decode cX11_sizeRelation 50 = .ok (.aload_n 0, 1) := by decide +kernel
theorem dX11_sizeRelation_51 : decode cX11_sizeRelation 51 = .ok (.getfield 12, 3) := by decide +kernel
theorem dX11_sizeRelation_54 : decode cX11_sizeRelation 54 = .ok (.getfield 88, 3) := by decide +kernel
theorem dX11_sizeRelation_57 : decode cX11_sizeRelation 57 = .ok (.iload 4, 2) := by decide +kernel
theorem dX11_sizeRelation_59 : decode cX11_sizeRelation 59 = .ok (.invokestatic 162, 3) := by decide +kernel
theorem dX11_sizeRelation_62 : decode cX11_sizeRelation 62 = .ok (.invokevirtual 92, 3) := by decide +kernel
theorem dX11_sizeRelation_65 : decode cX11_sizeRelation 65 = .ok (.if_icmp .lt 5, 3) := by decide +kernel
theorem dX11_sizeRelation_68 : decode cX11_sizeRelation 68 = .ok (.iconst (-1), 1) := by decide +kernel
theorem dX11_sizeRelation_69 : decode cX11_sizeRelation 69 = .ok (.ireturn, 1) := by decide +kernel
theorem dX11_sizeRelation_70 : decode cX11_sizeRelation 70 = .ok (.iload 4, 2) := by decide +kernel
theorem dX11_sizeRelation_72 : decode cX11_sizeRelation 72 = .ok (.iload_n 2, 1) := by decide +kernel
theorem dX11_sizeRelation_73 : decode cX11_sizeRelation 73 = .ok (.iload_n 3, 1) := by decide +kernel
theorem dX11_sizeRelation_74 : decode cX11_sizeRelation 74 = .ok (.invokestatic 187, 3) := by decide +kernel
theorem dX11_sizeRelation_77 : decode cX11_sizeRelation 77 = .ok (.ireturn, 1) := by decide +kernel
theorem dX11_closureSize_0 : decode cX11_closureSize 0 = .ok (.aload_n 0, 1) := by decide +kernel
theorem dX11_closureSize_1 : decode cX11_closureSize 1 = .ok (.invokevirtual 191, 3) := by decide +kernel
theorem dX11_closureSize_4 : decode cX11_closureSize 4 = .ok (.astore_n 1, 1) := by decide +kernel
theorem dX11_closureSize_5 : decode cX11_closureSize 5 = .ok (.aload_n 1, 1) := by decide +kernel
theorem dX11_closureSize_6 : decode cX11_closureSize 6 = .ok (.getfield 195, 3) := by decide +kernel
theorem dX11_closureSize_9 : decode cX11_closureSize 9 = .ok (.ifCond .eq 8, 3) := by decide +kernel
theorem dX11_closureSize_12 : decode cX11_closureSize 12 = .ok (.bipush (-8), 2) := by decide +kernel
theorem dX11_closureSize_14 : decode cX11_closureSize 14 = .ok (.goto 7, 3) := by decide +kernel
theorem dX11_closureSize_17 : decode cX11_closureSize 17 = .ok (.aload_n 1, 1) := by decide +kernel
theorem dX11_closureSize_18 : decode cX11_closureSize 18 = .ok (.getfield 199, 3) := by decide +kernel
theorem dX11_closureSize_21 : decode cX11_closureSize 21 = .ok (.ireturn, 1) := by decide +kernel
theorem dX11_idempotentCount_0 : decode cX11_idempotentCount 0 = .ok (.aload_n 0, 1) := by decide +kernel
theorem dX11_idempotentCount_1 : decode cX11_idempotentCount 1 = .ok (.invokevirtual 191, 3) := by decide +kernel
theorem dX11_idempotentCount_4 : decode cX11_idempotentCount 4 = .ok (.astore_n 1, 1) := by decide +kernel
theorem dX11_idempotentCount_5 : decode cX11_idempotentCount 5 = .ok (.aload_n 1, 1) := by decide +kernel
theorem dX11_idempotentCount_6 : decode cX11_idempotentCount 6 = .ok (.getfield 195, 3) := by decide +kernel
theorem dX11_idempotentCount_9 : decode cX11_idempotentCount 9 = .ok (.ifCond .eq 8, 3) := by decide +kernel
theorem dX11_idempotentCount_12 : decode cX11_idempotentCount 12 = .ok (.bipush (-8), 2) := by decide +kernel
theorem dX11_idempotentCount_14 : decode cX11_idempotentCount 14 = .ok (.goto 7, 3) := by decide +kernel
theorem dX11_idempotentCount_17 : decode cX11_idempotentCount 17 = .ok (.aload_n 1, 1) := by decide +kernel
theorem dX11_idempotentCount_18 : decode cX11_idempotentCount 18 = .ok (.getfield 200, 3) := by decide +kernel
theorem dX11_idempotentCount_21 : decode cX11_idempotentCount 21 = .ok (.ireturn, 1) := by decide +kernel
theorem dX11_terminatesBySizeChange_0 : decode cX11_terminatesBySizeChange 0 = .ok (.aload_n 0, 1) := by decide +kernel
theorem dX11_terminatesBySizeChange_1 : decode cX11_terminatesBySizeChange 1 = .ok (.invokevirtual 191, 3) := by decide +kernel
theorem dX11_terminatesBySizeChange_4 : decode cX11_terminatesBySizeChange 4 = .ok (.astore_n 1, 1) := by decide +kernel
theorem dX11_terminatesBySizeChange_5 : decode cX11_terminatesBySizeChange 5 = .ok (.aload_n 1, 1) := by decide +kernel
theorem dX11_terminatesBySizeChange_6 : decode cX11_terminatesBySizeChange 6 = .ok (.getfield 195, 3) := by decide +kernel
theorem dX11_terminatesBySizeChange_9 : decode cX11_terminatesBySizeChange 9 = .ok (.ifCond .eq 6, 3) := by decide +kernel
theorem dX11_terminatesBySizeChange_12 : decode cX11_terminatesBySizeChange 12 = .ok (.bipush (-8), 2) := by decide +kernel
theorem dX11_terminatesBySizeChange_14 : decode cX11_terminatesBySizeChange 14 = .ok (.ireturn, 1) := by decide +kernel
theorem dX11_terminatesBySizeChange_15 : decode cX11_terminatesBySizeChange 15 = .ok (.aload_n 1, 1) := by decide +kernel
theorem dX11_terminatesBySizeChange_16 : decode cX11_terminatesBySizeChange 16 = .ok (.getfield 200, 3) := by decide +kernel
theorem dX11_terminatesBySizeChange_19 : decode cX11_terminatesBySizeChange 19 = .ok (.aload_n 1, 1) := by decide +kernel
theorem dX11_terminatesBySizeChange_20 : decode cX11_terminatesBySizeChange 20 = .ok (.getfield 203, 3) := by decide +kernel
theorem dX11_terminatesBySizeChange_23 : decode cX11_terminatesBySizeChange 23 = .ok (.if_icmp .ne 7, 3) := by decide +kernel
theorem dX11_terminatesBySizeChange_26 : decode cX11_terminatesBySizeChange 26 = .ok (.iconst 1, 1) := by decide +kernel
theorem dX11_terminatesBySizeChange_27 : decode cX11_terminatesBySizeChange 27 = .ok (.goto 4, 3) := by decide +kernel
theorem dX11_terminatesBySizeChange_30 : decode cX11_terminatesBySizeChange 30 = .ok (.iconst 0, 1) := by decide +kernel
theorem dX11_terminatesBySizeChange_31 : decode cX11_terminatesBySizeChange 31 = .ok (.ireturn, 1) := by decide +kernel
theorem dX11_projection_0 : decode cX11_projection 0 = .ok (.aload_n 0, 1) := by decide +kernel
theorem dX11_projection_1 : decode cX11_projection 1 = .ok (.invokevirtual 179, 3) := by decide +kernel
theorem dX11_projection_4 : decode cX11_projection 4 = .ok (.astore_n 2, 1) := by decide +kernel
theorem dX11_projection_5 : decode cX11_projection 5 = .ok (.iload_n 1, 1) := by decide +kernel
theorem dX11_projection_6 : decode cX11_projection 6 = .ok (.ifCond .lt 11, 3) := by decide +kernel
theorem dX11_projection_9 : decode cX11_projection 9 = .ok (.iload_n 1, 1) := by decide +kernel
theorem dX11_projection_10 : decode cX11_projection 10 = .ok (.aload_n 2, 1) := by decide +kernel
theorem dX11_projection_11 : decode cX11_projection 11 = .ok (.getfield 183, 3) := by decide +kernel
theorem dX11_projection_14 : decode cX11_projection 14 = .ok (.if_icmp .lt 5, 3) := by decide +kernel
theorem dX11_projection_17 : decode cX11_projection 17 = .ok (.iconst (-1), 1) := by decide +kernel
theorem dX11_projection_18 : decode cX11_projection 18 = .ok (.ireturn, 1) := by decide +kernel
theorem dX11_projection_19 : decode cX11_projection 19 = .ok (.aload_n 0, 1) := by decide +kernel
theorem dX11_projection_20 : decode cX11_projection 20 = .ok (.getfield 76, 3) := by decide +kernel
theorem dX11_projection_23 : decode cX11_projection 23 = .ok (.aload_n 0, 1) := by decide +kernel
theorem dX11_projection_24 : decode cX11_projection 24 = .ok (.invokevirtual 141, 3) := by decide +kernel
theorem dX11_projection_27 : decode cX11_projection 27 = .ok (.aload_n 2, 1) := by decide +kernel
theorem dX11_projection_28 : decode cX11_projection 28 = .ok (.iload_n 1, 1) := by decide +kernel
theorem dX11_projection_29 : decode cX11_projection 29 = .ok (.aload_n 0, 1) := by decide +kernel
theorem dX11_projection_30 : decode cX11_projection 30 = .ok (.getfield 12, 3) := by decide +kernel
theorem dX11_projection_33 : decode cX11_projection 33 = .ok (.getfield 88, 3) := by decide +kernel
theorem dX11_projection_36 : decode cX11_projection 36 = .ok (.invokevirtual 206, 3) := by decide +kernel
theorem dX11_projection_39 : decode cX11_projection 39 = .ok (.istore_n 3, 1) := by decide +kernel
theorem dX11_projection_40 : decode cX11_projection 40 = .ok (.iload_n 3, 1) := by decide +kernel
theorem dX11_projection_41 : decode cX11_projection 41 = .ok (.ifCond .eq 13, 3) := by decide +kernel
theorem dX11_projection_44 : decode cX11_projection 44 = .ok (.aload_n 0, 1) := by decide +kernel
theorem dX11_projection_45 : decode cX11_projection 45 = .ok (.getfield 76, 3) := by decide +kernel
theorem dX11_projection_48 : decode cX11_projection 48 = .ok (.invokevirtual 210, 3) := by decide +kernel
theorem dX11_projection_51 : decode cX11_projection 51 = .ok (.goto 5, 3) := by decide +kernel
theorem dX11_projection_54 : decode cX11_projection 54 = .ok (.bipush (-5), 2) := by decide +kernel
theorem dX11_projection_56 : decode cX11_projection 56 = .ok (.ireturn, 1) := by decide +kernel
theorem dX11_eliminationRounds_0 : decode cX11_eliminationRounds 0 = .ok (.aload_n 0, 1) := by decide +kernel
theorem dX11_eliminationRounds_1 : decode cX11_eliminationRounds 1 = .ok (.invokevirtual 213, 3) := by decide +kernel
theorem dX11_eliminationRounds_4 : decode cX11_eliminationRounds 4 = .ok (.getfield 217, 3) := by decide +kernel
theorem dX11_eliminationRounds_7 : decode cX11_eliminationRounds 7 = .ok (.ireturn, 1) := by decide +kernel
theorem dX11_remainingPairCount_0 : decode cX11_remainingPairCount 0 = .ok (.aload_n 0, 1) := by decide +kernel
theorem dX11_remainingPairCount_1 : decode cX11_remainingPairCount 1 = .ok (.invokevirtual 213, 3) := by decide +kernel
theorem dX11_remainingPairCount_4 : decode cX11_remainingPairCount 4 = .ok (.getfield 220, 3) := by decide +kernel
theorem dX11_remainingPairCount_7 : decode cX11_remainingPairCount 7 = .ok (.getfield 223, 3) := by decide +kernel
theorem dX11_remainingPairCount_10 : decode cX11_remainingPairCount 10 = .ok (.ireturn, 1) := by decide +kernel
theorem dX11_remainingComponentCount_0 : decode cX11_remainingComponentCount 0 = .ok (.aload_n 0, 1) := by decide +kernel
theorem dX11_remainingComponentCount_1 : decode cX11_remainingComponentCount 1 = .ok (.invokevirtual 213, 3) := by decide +kernel
theorem dX11_remainingComponentCount_4 : decode cX11_remainingComponentCount 4 = .ok (.getfield 220, 3) := by decide +kernel
theorem dX11_remainingComponentCount_7 : decode cX11_remainingComponentCount 7 = .ok (.getfield 183, 3) := by decide +kernel
theorem dX11_remainingComponentCount_10 : decode cX11_remainingComponentCount 10 = .ok (.ireturn, 1) := by decide +kernel
theorem dX11_terminatesBySubtermCriterion_0 : decode cX11_terminatesBySubtermCriterion 0 = .ok (.aload_n 0, 1) := by decide +kernel
theorem dX11_terminatesBySubtermCriterion_1 : decode cX11_terminatesBySubtermCriterion 1 = .ok (.invokevirtual 213, 3) := by decide +kernel
theorem dX11_terminatesBySubtermCriterion_4 : decode cX11_terminatesBySubtermCriterion 4 = .ok (.getfield 220, 3) := by decide +kernel
theorem dX11_terminatesBySubtermCriterion_7 : decode cX11_terminatesBySubtermCriterion 7 = .ok (.getfield 183, 3) := by decide +kernel
theorem dX11_terminatesBySubtermCriterion_10 : decode cX11_terminatesBySubtermCriterion 10 = .ok (.ifCond .ne 7, 3) := by decide +kernel
theorem dX11_terminatesBySubtermCriterion_13 : decode cX11_terminatesBySubtermCriterion 13 = .ok (.iconst 1, 1) := by decide +kernel
theorem dX11_terminatesBySubtermCriterion_14 : decode cX11_terminatesBySubtermCriterion 14 = .ok (.goto 4, 3) := by decide +kernel
theorem dX11_terminatesBySubtermCriterion_17 : decode cX11_terminatesBySubtermCriterion 17 = .ok (.iconst 0, 1) := by decide +kernel
theorem dX11_terminatesBySubtermCriterion_18 : decode cX11_terminatesBySubtermCriterion 18 = .ok (.ireturn, 1) := by decide +kernel
theorem dX11_parseTerm_0 : decode cX11_parseTerm 0 = .ok (.iload_n 1, 1) := by decide +kernel
theorem dX11_parseTerm_1 : decode cX11_parseTerm 1 = .ok (.invokestatic 226, 3) := by decide +kernel
theorem dX11_parseTerm_4 : decode cX11_parseTerm 4 = .ok (.ifCond .ne 5, 3) := by decide +kernel
theorem dX11_parseTerm_7 : decode cX11_parseTerm 7 = .ok (.iconst (-1), 1) := by decide +kernel
theorem dX11_parseTerm_8 : decode cX11_parseTerm 8 = .ok (.ireturn, 1) := by decide +kernel
theorem dX11_parseTerm_9 : decode cX11_parseTerm 9 = .ok (.aload_n 0, 1) := by decide +kernel
theorem dX11_parseTerm_10 : decode cX11_parseTerm 10 = .ok (.getfield 24, 3) := by decide +kernel
theorem dX11_parseTerm_13 : decode cX11_parseTerm 13 = .ok (.aload_n 0, 1) := by decide +kernel
theorem dX11_parseTerm_14 : decode cX11_parseTerm 14 = .ok (.getfield 12, 3) := by decide +kernel
theorem dX11_parseTerm_17 : decode cX11_parseTerm 17 = .ok (.getfield 88, 3) := by decide +kernel
theorem dX11_parseTerm_20 : decode cX11_parseTerm 20 = .ok (.aload_n 0, 1) := by decide +kernel
theorem dX11_parseTerm_21 : decode cX11_parseTerm 21 = .ok (.getfield 48, 3) := by decide +kernel
theorem dX11_parseTerm_24 : decode cX11_parseTerm 24 = .ok (.invokevirtual 229, 3) := by decide +kernel
theorem dX11_parseTerm_27 : decode cX11_parseTerm 27 = .ok (.istore_n 2, 1) := by decide +kernel
theorem dX11_parseTerm_28 : decode cX11_parseTerm 28 = .ok (.aload_n 0, 1) := by decide +kernel
theorem dX11_parseTerm_29 : decode cX11_parseTerm 29 = .ok (.getfield 24, 3) := by decide +kernel
theorem dX11_parseTerm_32 : decode cX11_parseTerm 32 = .ok (.getfield 119, 3) := by decide +kernel
theorem dX11_parseTerm_35 : decode cX11_parseTerm 35 = .ok (.istore_n 3, 1) := by decide +kernel
theorem dX11_parseTerm_36 : decode cX11_parseTerm 36 = .ok (.aload_n 0, 1) := by decide +kernel
theorem dX11_parseTerm_37 : decode cX11_parseTerm 37 = .ok (.getfield 24, 3) := by decide +kernel
theorem dX11_parseTerm_40 : decode cX11_parseTerm 40 = .ok (.invokevirtual 122, 3) := by decide +kernel
theorem dX11_parseTerm_43 : decode cX11_parseTerm 43 = .ok (.iload_n 2, 1) := by decide +kernel
theorem dX11_parseTerm_44 : decode cX11_parseTerm 44 = .ok (.ifCond .ne 8, 3) := by decide +kernel
theorem dX11_parseTerm_47 : decode cX11_parseTerm 47 = .ok (.bipush (-100), 2) := by decide +kernel
theorem dX11_parseTerm_49 : decode cX11_parseTerm 49 = .ok (.iload_n 3, 1) := by decide +kernel
theorem dX11_parseTerm_50 : decode cX11_parseTerm 50 = .ok (.isub, 1) := by decide +kernel
theorem dX11_parseTerm_51 : decode cX11_parseTerm 51 = .ok (.ireturn, 1) := by decide +kernel
theorem dX11_parseTerm_52 : decode cX11_parseTerm 52 = .ok (.aload_n 0, 1) := by decide +kernel
theorem dX11_parseTerm_53 : decode cX11_parseTerm 53 = .ok (.getfield 48, 3) := by decide +kernel
theorem dX11_parseTerm_56 : decode cX11_parseTerm 56 = .ok (.getfield 138, 3) := by decide +kernel
theorem dX11_parseTerm_59 : decode cX11_parseTerm 59 = .ok (.bipush 40, 2) := by decide +kernel
theorem dX11_parseTerm_61 : decode cX11_parseTerm 61 = .ok (.if_icmp .le 6, 3) := by decide +kernel
theorem dX11_parseTerm_64 : decode cX11_parseTerm 64 = .ok (.bipush (-6), 2) := by decide +kernel
theorem dX11_parseTerm_66 : decode cX11_parseTerm 66 = .ok (.ireturn, 1) := by decide +kernel
theorem dX11_parseTerm_67 : decode cX11_parseTerm 67 = .ok (.aload_n 0, 1) := by decide +kernel
theorem dX11_parseTerm_68 : decode cX11_parseTerm 68 = .ok (.aload_n 0, 1) := by decide +kernel
theorem dX11_parseTerm_69 : decode cX11_parseTerm 69 = .ok (.getfield 48, 3) := by decide +kernel
theorem dX11_parseTerm_72 : decode cX11_parseTerm 72 = .ok (.iload_n 1, 1) := by decide +kernel
theorem dX11_parseTerm_73 : decode cX11_parseTerm 73 = .ok (.invokevirtual 233, 3) := by decide +kernel
theorem dX11_parseTerm_76 : decode cX11_parseTerm 76 = .ok (.ireturn, 1) := by decide +kernel
theorem dX11_termSize_0 : decode cX11_termSize 0 = .ok (.iload_n 1, 1) := by decide +kernel
theorem dX11_termSize_1 : decode cX11_termSize 1 = .ok (.invokestatic 226, 3) := by decide +kernel
theorem dX11_termSize_4 : decode cX11_termSize 4 = .ok (.ifCond .eq 17, 3) := by decide +kernel
theorem dX11_termSize_7 : decode cX11_termSize 7 = .ok (.aload_n 0, 1) := by decide +kernel
theorem dX11_termSize_8 : decode cX11_termSize 8 = .ok (.getfield 12, 3) := by decide +kernel
theorem dX11_termSize_11 : decode cX11_termSize 11 = .ok (.iload_n 1, 1) := by decide +kernel
theorem dX11_termSize_12 : decode cX11_termSize 12 = .ok (.invokevirtual 237, 3) := by decide +kernel
theorem dX11_termSize_15 : decode cX11_termSize 15 = .ok (.getfield 138, 3) := by decide +kernel
theorem dX11_termSize_18 : decode cX11_termSize 18 = .ok (.goto 4, 3) := by decide +kernel
theorem dX11_termSize_21 : decode cX11_termSize 21 = .ok (.iconst (-1), 1) := by decide +kernel
theorem dX11_termSize_22 : decode cX11_termSize 22 = .ok (.ireturn, 1) := by decide +kernel
theorem dX11_formattedLength_0 : decode cX11_formattedLength 0 = .ok (.iload_n 1, 1) := by decide +kernel
theorem dX11_formattedLength_1 : decode cX11_formattedLength 1 = .ok (.invokestatic 226, 3) := by decide +kernel
theorem dX11_formattedLength_4 : decode cX11_formattedLength 4 = .ok (.ifCond .ne 5, 3) := by decide +kernel
theorem dX11_formattedLength_7 : decode cX11_formattedLength 7 = .ok (.iconst (-1), 1) := by decide +kernel
theorem dX11_formattedLength_8 : decode cX11_formattedLength 8 = .ok (.ireturn, 1) := by decide +kernel
theorem dX11_formattedLength_9 : decode cX11_formattedLength 9 = .ok (.aload_n 0, 1) := by decide +kernel
theorem dX11_formattedLength_10 : decode cX11_formattedLength 10 = .ok (.getfield 28, 3) := by decide +kernel
theorem dX11_formattedLength_13 : decode cX11_formattedLength 13 = .ok (.aload_n 0, 1) := by decide +kernel
theorem dX11_formattedLength_14 : decode cX11_formattedLength 14 = .ok (.getfield 12, 3) := by decide +kernel
theorem dX11_formattedLength_17 : decode cX11_formattedLength 17 = .ok (.getfield 88, 3) := by decide +kernel
theorem dX11_formattedLength_20 : decode cX11_formattedLength 20 = .ok (.aload_n 0, 1) := by decide +kernel
theorem dX11_formattedLength_21 : decode cX11_formattedLength 21 = .ok (.getfield 12, 3) := by decide +kernel
theorem dX11_formattedLength_24 : decode cX11_formattedLength 24 = .ok (.iload_n 1, 1) := by decide +kernel
theorem dX11_formattedLength_25 : decode cX11_formattedLength 25 = .ok (.invokevirtual 237, 3) := by decide +kernel
theorem dX11_formattedLength_28 : decode cX11_formattedLength 28 = .ok (.invokevirtual 240, 3) := by decide +kernel
theorem dX11_formattedLength_31 : decode cX11_formattedLength 31 = .ok (.aload_n 0, 1) := by decide +kernel
theorem dX11_formattedLength_32 : decode cX11_formattedLength 32 = .ok (.getfield 28, 3) := by decide +kernel
theorem dX11_formattedLength_35 : decode cX11_formattedLength 35 = .ok (.getfield 244, 3) := by decide +kernel
theorem dX11_formattedLength_38 : decode cX11_formattedLength 38 = .ok (.ireturn, 1) := by decide +kernel
theorem dX11_formattedCharacter_0 : decode cX11_formattedCharacter 0 = .ok (.iload_n 1, 1) := by decide +kernel
theorem dX11_formattedCharacter_1 : decode cX11_formattedCharacter 1 = .ok (.invokestatic 226, 3) := by decide +kernel
theorem dX11_formattedCharacter_4 : decode cX11_formattedCharacter 4 = .ok (.ifCond .ne 5, 3) := by decide +kernel
theorem dX11_formattedCharacter_7 : decode cX11_formattedCharacter 7 = .ok (.iconst (-1), 1) := by decide +kernel
theorem dX11_formattedCharacter_8 : decode cX11_formattedCharacter 8 = .ok (.ireturn, 1) := by decide +kernel
theorem dX11_formattedCharacter_9 : decode cX11_formattedCharacter 9 = .ok (.aload_n 0, 1) := by decide +kernel
theorem dX11_formattedCharacter_10 : decode cX11_formattedCharacter 10 = .ok (.getfield 28, 3) := by decide +kernel
theorem dX11_formattedCharacter_13 : decode cX11_formattedCharacter 13 = .ok (.aload_n 0, 1) := by decide +kernel
theorem dX11_formattedCharacter_14 : decode cX11_formattedCharacter 14 = .ok (.getfield 12, 3) := by decide +kernel
theorem dX11_formattedCharacter_17 : decode cX11_formattedCharacter 17 = .ok (.getfield 88, 3) := by decide +kernel
theorem dX11_formattedCharacter_20 : decode cX11_formattedCharacter 20 = .ok (.aload_n 0, 1) := by decide +kernel
theorem dX11_formattedCharacter_21 : decode cX11_formattedCharacter 21 = .ok (.getfield 12, 3) := by decide +kernel
theorem dX11_formattedCharacter_24 : decode cX11_formattedCharacter 24 = .ok (.iload_n 1, 1) := by decide +kernel
theorem dX11_formattedCharacter_25 : decode cX11_formattedCharacter 25 = .ok (.invokevirtual 237, 3) := by decide +kernel
theorem dX11_formattedCharacter_28 : decode cX11_formattedCharacter 28 = .ok (.invokevirtual 240, 3) := by decide +kernel
theorem dX11_formattedCharacter_31 : decode cX11_formattedCharacter 31 = .ok (.iload_n 2, 1) := by decide +kernel
theorem dX11_formattedCharacter_32 : decode cX11_formattedCharacter 32 = .ok (.ifCond .lt 25, 3) := by decide +kernel
theorem dX11_formattedCharacter_35 : decode cX11_formattedCharacter 35 = .ok (.iload_n 2, 1) := by decide +kernel
theorem dX11_formattedCharacter_36 : decode cX11_formattedCharacter 36 = .ok (.aload_n 0, 1) := by decide +kernel
theorem dX11_formattedCharacter_37 : decode cX11_formattedCharacter 37 = .ok (.getfield 28, 3) := by decide +kernel
theorem dX11_formattedCharacter_40 : decode cX11_formattedCharacter 40 = .ok (.getfield 244, 3) := by decide +kernel
theorem dX11_formattedCharacter_43 : decode cX11_formattedCharacter 43 = .ok (.if_icmp .ge 14, 3) := by decide +kernel
theorem dX11_formattedCharacter_46 : decode cX11_formattedCharacter 46 = .ok (.aload_n 0, 1) := by decide +kernel
theorem dX11_formattedCharacter_47 : decode cX11_formattedCharacter 47 = .ok (.getfield 28, 3) := by decide +kernel
theorem dX11_formattedCharacter_50 : decode cX11_formattedCharacter 50 = .ok (.iload_n 2, 1) := by decide +kernel
theorem dX11_formattedCharacter_51 : decode cX11_formattedCharacter 51 = .ok (.invokevirtual 247, 3) := by decide +kernel
theorem dX11_formattedCharacter_54 : decode cX11_formattedCharacter 54 = .ok (.goto 4, 3) := by decide +kernel
theorem dX11_formattedCharacter_57 : decode cX11_formattedCharacter 57 = .ok (.iconst (-1), 1) := by decide +kernel
theorem dX11_formattedCharacter_58 : decode cX11_formattedCharacter 58 = .ok (.ireturn, 1) := by decide +kernel
theorem dX11_compareTerms_0 : decode cX11_compareTerms 0 = .ok (.iload_n 1, 1) := by decide +kernel
theorem dX11_compareTerms_1 : decode cX11_compareTerms 1 = .ok (.invokestatic 226, 3) := by decide +kernel
theorem dX11_compareTerms_4 : decode cX11_compareTerms 4 = .ok (.ifCond .eq 10, 3) := by decide +kernel
theorem dX11_compareTerms_7 : decode cX11_compareTerms 7 = .ok (.iload_n 2, 1) := by decide +kernel
theorem dX11_compareTerms_8 : decode cX11_compareTerms 8 = .ok (.invokestatic 226, 3) := by decide +kernel
theorem dX11_compareTerms_11 : decode cX11_compareTerms 11 = .ok (.ifCond .ne 5, 3) := by decide +kernel
theorem dX11_compareTerms_14 : decode cX11_compareTerms 14 = .ok (.iconst (-1), 1) := by decide +kernel
theorem dX11_compareTerms_15 : decode cX11_compareTerms 15 = .ok (.ireturn, 1) := by decide +kernel
theorem dX11_compareTerms_16 : decode cX11_compareTerms 16 = .ok (.aload_n 0, 1) := by decide +kernel
theorem dX11_compareTerms_17 : decode cX11_compareTerms 17 = .ok (.getfield 12, 3) := by decide +kernel
theorem dX11_compareTerms_20 : decode cX11_compareTerms 20 = .ok (.iload_n 1, 1) := by decide +kernel
theorem dX11_compareTerms_21 : decode cX11_compareTerms 21 = .ok (.invokevirtual 237, 3) := by decide +kernel
theorem dX11_compareTerms_24 : decode cX11_compareTerms 24 = .ok (.aload_n 0, 1) := by decide +kernel
theorem dX11_compareTerms_25 : decode cX11_compareTerms 25 = .ok (.getfield 12, 3) := by decide +kernel
theorem dX11_compareTerms_28 : decode cX11_compareTerms 28 = .ok (.iload_n 2, 1) := by decide +kernel
theorem dX11_compareTerms_29 : decode cX11_compareTerms 29 = .ok (.invokevirtual 237, 3) := by decide +kernel
theorem dX11_compareTerms_32 : decode cX11_compareTerms 32 = .ok (.invokevirtual 250, 3) := by decide +kernel
theorem dX11_compareTerms_35 : decode cX11_compareTerms 35 = .ok (.istore_n 3, 1) := by decide +kernel
theorem dX11_compareTerms_36 : decode cX11_compareTerms 36 = .ok (.iload_n 3, 1) := by decide +kernel
theorem dX11_compareTerms_37 : decode cX11_compareTerms 37 = .ok (.ifCond .ne 5, 3) := by decide +kernel
theorem dX11_compareTerms_40 : decode cX11_compareTerms 40 = .ok (.iconst 1, 1) := by decide +kernel
theorem dX11_compareTerms_41 : decode cX11_compareTerms 41 = .ok (.ireturn, 1) := by decide +kernel
theorem dX11_compareTerms_42 : decode cX11_compareTerms 42 = .ok (.iload_n 3, 1) := by decide +kernel
theorem dX11_compareTerms_43 : decode cX11_compareTerms 43 = .ok (.ifCond .ge 7, 3) := by decide +kernel
theorem dX11_compareTerms_46 : decode cX11_compareTerms 46 = .ok (.iconst 0, 1) := by decide +kernel
theorem dX11_compareTerms_47 : decode cX11_compareTerms 47 = .ok (.goto 4, 3) := by decide +kernel
theorem dX11_compareTerms_50 : decode cX11_compareTerms 50 = .ok (.iconst 2, 1) := by decide +kernel
theorem dX11_compareTerms_51 : decode cX11_compareTerms 51 = .ok (.ireturn, 1) := by decide +kernel
theorem dX11_copyTerm_0 : decode cX11_copyTerm 0 = .ok (.iload_n 1, 1) := by decide +kernel
theorem dX11_copyTerm_1 : decode cX11_copyTerm 1 = .ok (.invokestatic 226, 3) := by decide +kernel
theorem dX11_copyTerm_4 : decode cX11_copyTerm 4 = .ok (.ifCond .eq 10, 3) := by decide +kernel
theorem dX11_copyTerm_7 : decode cX11_copyTerm 7 = .ok (.iload_n 2, 1) := by decide +kernel
theorem dX11_copyTerm_8 : decode cX11_copyTerm 8 = .ok (.invokestatic 226, 3) := by decide +kernel
theorem dX11_copyTerm_11 : decode cX11_copyTerm 11 = .ok (.ifCond .ne 5, 3) := by decide +kernel
theorem dX11_copyTerm_14 : decode cX11_copyTerm 14 = .ok (.iconst (-1), 1) := by decide +kernel
theorem dX11_copyTerm_15 : decode cX11_copyTerm 15 = .ok (.ireturn, 1) := by decide +kernel
theorem dX11_copyTerm_16 : decode cX11_copyTerm 16 = .ok (.aload_n 0, 1) := by decide +kernel
theorem dX11_copyTerm_17 : decode cX11_copyTerm 17 = .ok (.aload_n 0, 1) := by decide +kernel
theorem dX11_copyTerm_18 : decode cX11_copyTerm 18 = .ok (.getfield 12, 3) := by decide +kernel
theorem dX11_copyTerm_21 : decode cX11_copyTerm 21 = .ok (.iload_n 1, 1) := by decide +kernel
theorem dX11_copyTerm_22 : decode cX11_copyTerm 22 = .ok (.invokevirtual 237, 3) := by decide +kernel
theorem dX11_copyTerm_25 : decode cX11_copyTerm 25 = .ok (.iload_n 2, 1) := by decide +kernel
theorem dX11_copyTerm_26 : decode cX11_copyTerm 26 = .ok (.invokevirtual 233, 3) := by decide +kernel
theorem dX11_copyTerm_29 : decode cX11_copyTerm 29 = .ok (.ireturn, 1) := by decide +kernel
theorem dX11_loadLeft_0 : decode cX11_loadLeft 0 = .ok (.aload_n 0, 1) := by decide +kernel
theorem dX11_loadLeft_1 : decode cX11_loadLeft 1 = .ok (.iload_n 1, 1) := by decide +kernel
theorem dX11_loadLeft_2 : decode cX11_loadLeft 2 = .ok (.invokevirtual 132, 3) := by decide +kernel
theorem dX11_loadLeft_5 : decode cX11_loadLeft 5 = .ok (.ifCond .eq 10, 3) := by decide +kernel
theorem dX11_loadLeft_8 : decode cX11_loadLeft 8 = .ok (.iload_n 2, 1) := by decide +kernel
theorem dX11_loadLeft_9 : decode cX11_loadLeft 9 = .ok (.invokestatic 226, 3) := by decide +kernel
theorem dX11_loadLeft_12 : decode cX11_loadLeft 12 = .ok (.ifCond .ne 5, 3) := by decide +kernel
theorem dX11_loadLeft_15 : decode cX11_loadLeft 15 = .ok (.iconst (-1), 1) := by decide +kernel
theorem dX11_loadLeft_16 : decode cX11_loadLeft 16 = .ok (.ireturn, 1) := by decide +kernel
theorem dX11_loadLeft_17 : decode cX11_loadLeft 17 = .ok (.aload_n 0, 1) := by decide +kernel
theorem dX11_loadLeft_18 : decode cX11_loadLeft 18 = .ok (.aload_n 0, 1) := by decide +kernel
theorem dX11_loadLeft_19 : decode cX11_loadLeft 19 = .ok (.getfield 12, 3) := by decide +kernel
theorem dX11_loadLeft_22 : decode cX11_loadLeft 22 = .ok (.iload_n 1, 1) := by decide +kernel
theorem dX11_loadLeft_23 : decode cX11_loadLeft 23 = .ok (.invokevirtual 108, 3) := by decide +kernel
theorem dX11_loadLeft_26 : decode cX11_loadLeft 26 = .ok (.iload_n 2, 1) := by decide +kernel
theorem dX11_loadLeft_27 : decode cX11_loadLeft 27 = .ok (.invokevirtual 233, 3) := by decide +kernel
theorem dX11_loadLeft_30 : decode cX11_loadLeft 30 = .ok (.ireturn, 1) := by decide +kernel
theorem dX11_loadRight_0 : decode cX11_loadRight 0 = .ok (.aload_n 0, 1) := by decide +kernel
theorem dX11_loadRight_1 : decode cX11_loadRight 1 = .ok (.iload_n 1, 1) := by decide +kernel
theorem dX11_loadRight_2 : decode cX11_loadRight 2 = .ok (.invokevirtual 132, 3) := by decide +kernel
theorem dX11_loadRight_5 : decode cX11_loadRight 5 = .ok (.ifCond .eq 10, 3) := by decide +kernel
theorem dX11_loadRight_8 : decode cX11_loadRight 8 = .ok (.iload_n 2, 1) := by decide +kernel
theorem dX11_loadRight_9 : decode cX11_loadRight 9 = .ok (.invokestatic 226, 3) := by decide +kernel
theorem dX11_loadRight_12 : decode cX11_loadRight 12 = .ok (.ifCond .ne 5, 3) := by decide +kernel
theorem dX11_loadRight_15 : decode cX11_loadRight 15 = .ok (.iconst (-1), 1) := by decide +kernel
theorem dX11_loadRight_16 : decode cX11_loadRight 16 = .ok (.ireturn, 1) := by decide +kernel
theorem dX11_loadRight_17 : decode cX11_loadRight 17 = .ok (.aload_n 0, 1) := by decide +kernel
theorem dX11_loadRight_18 : decode cX11_loadRight 18 = .ok (.aload_n 0, 1) := by decide +kernel
theorem dX11_loadRight_19 : decode cX11_loadRight 19 = .ok (.getfield 12, 3) := by decide +kernel
theorem dX11_loadRight_22 : decode cX11_loadRight 22 = .ok (.iload_n 1, 1) := by decide +kernel
theorem dX11_loadRight_23 : decode cX11_loadRight 23 = .ok (.invokevirtual 112, 3) := by decide +kernel
theorem dX11_loadRight_26 : decode cX11_loadRight 26 = .ok (.iload_n 2, 1) := by decide +kernel
theorem dX11_loadRight_27 : decode cX11_loadRight 27 = .ok (.invokevirtual 233, 3) := by decide +kernel
theorem dX11_loadRight_30 : decode cX11_loadRight 30 = .ok (.ireturn, 1) := by decide +kernel
theorem dX11_matches_0 : decode cX11_matches 0 = .ok (.aload_n 0, 1) := by decide +kernel
theorem dX11_matches_1 : decode cX11_matches 1 = .ok (.iload_n 1, 1) := by decide +kernel
theorem dX11_matches_2 : decode cX11_matches 2 = .ok (.invokevirtual 132, 3) := by decide +kernel
theorem dX11_matches_5 : decode cX11_matches 5 = .ok (.ifCond .eq 12, 3) := by decide +kernel
theorem dX11_matches_8 : decode cX11_matches 8 = .ok (.aload_n 0, 1) := by decide +kernel
theorem dX11_matches_9 : decode cX11_matches 9 = .ok (.iload_n 2, 1) := by decide +kernel
theorem dX11_matches_10 : decode cX11_matches 10 = .ok (.iload_n 3, 1) := by decide +kernel
theorem dX11_matches_11 : decode cX11_matches 11 = .ok (.invokevirtual 254, 3) := by decide +kernel
theorem dX11_matches_14 : decode cX11_matches 14 = .ok (.ifCond .ne 5, 3) := by decide +kernel
theorem dX11_matches_17 : decode cX11_matches 17 = .ok (.iconst (-1), 1) := by decide +kernel
theorem dX11_matches_18 : decode cX11_matches 18 = .ok (.ireturn, 1) := by decide +kernel
theorem dX11_matches_19 : decode cX11_matches 19 = .ok (.aload_n 0, 1) := by decide +kernel
theorem dX11_matches_20 : decode cX11_matches 20 = .ok (.getfield 34, 3) := by decide +kernel
theorem dX11_matches_23 : decode cX11_matches 23 = .ok (.aload_n 0, 1) := by decide +kernel
theorem dX11_matches_24 : decode cX11_matches 24 = .ok (.getfield 12, 3) := by decide +kernel
theorem dX11_matches_27 : decode cX11_matches 27 = .ok (.iload_n 1, 1) := by decide +kernel
theorem dX11_matches_28 : decode cX11_matches 28 = .ok (.aload_n 0, 1) := by decide +kernel
theorem dX11_matches_29 : decode cX11_matches 29 = .ok (.getfield 12, 3) := by decide +kernel
theorem dX11_matches_32 : decode cX11_matches 32 = .ok (.iload_n 2, 1) := by decide +kernel
theorem dX11_matches_33 : decode cX11_matches 33 = .ok (.invokevirtual 237, 3) := by decide +kernel
theorem dX11_matches_36 : decode cX11_matches 36 = .ok (.iload_n 3, 1) := by decide +kernel
theorem dX11_matches_37 : decode cX11_matches 37 = .ok (.invokevirtual 257, 3) := by decide +kernel
theorem dX11_matches_40 : decode cX11_matches 40 = .ok (.ifCond .eq 7, 3) := by decide +kernel
theorem dX11_matches_43 : decode cX11_matches 43 = .ok (.iconst 1, 1) := by decide +kernel
theorem dX11_matches_44 : decode cX11_matches 44 = .ok (.goto 4, 3) := by decide +kernel
theorem dX11_matches_47 : decode cX11_matches 47 = .ok (.iconst 0, 1) := by decide +kernel
theorem dX11_matches_48 : decode cX11_matches 48 = .ok (.ireturn, 1) := by decide +kernel
theorem dX11_redexCount_0 : decode cX11_redexCount 0 = .ok (.iload_n 1, 1) := by decide +kernel
theorem dX11_redexCount_1 : decode cX11_redexCount 1 = .ok (.invokestatic 226, 3) := by decide +kernel
theorem dX11_redexCount_4 : decode cX11_redexCount 4 = .ok (.ifCond .eq 25, 3) := by decide +kernel
theorem dX11_redexCount_7 : decode cX11_redexCount 7 = .ok (.aload_n 0, 1) := by decide +kernel
theorem dX11_redexCount_8 : decode cX11_redexCount 8 = .ok (.getfield 34, 3) := by decide +kernel
theorem dX11_redexCount_11 : decode cX11_redexCount 11 = .ok (.aload_n 0, 1) := by decide +kernel
theorem dX11_redexCount_12 : decode cX11_redexCount 12 = .ok (.getfield 12, 3) := by decide +kernel
theorem dX11_redexCount_15 : decode cX11_redexCount 15 = .ok (.aload_n 0, 1) := by decide +kernel
theorem dX11_redexCount_16 : decode cX11_redexCount 16 = .ok (.getfield 12, 3) := by decide +kernel
theorem dX11_redexCount_19 : decode cX11_redexCount 19 = .ok (.iload_n 1, 1) := by decide +kernel
theorem dX11_redexCount_20 : decode cX11_redexCount 20 = .ok (.invokevirtual 237, 3) := by decide +kernel
theorem dX11_redexCount_23 : decode cX11_redexCount 23 = .ok (.invokevirtual 261, 3) := by decide +kernel
theorem dX11_redexCount_26 : decode cX11_redexCount 26 = .ok (.goto 4, 3) := by decide +kernel
theorem dX11_redexCount_29 : decode cX11_redexCount 29 = .ok (.iconst (-1), 1) := by decide +kernel
theorem dX11_redexCount_30 : decode cX11_redexCount 30 = .ok (.ireturn, 1) := by decide +kernel
theorem dX11_redexAt_0 : decode cX11_redexAt 0 = .ok (.iload_n 1, 1) := by decide +kernel
theorem dX11_redexAt_1 : decode cX11_redexAt 1 = .ok (.invokestatic 226, 3) := by decide +kernel
theorem dX11_redexAt_4 : decode cX11_redexAt 4 = .ok (.ifCond .eq 7, 3) := by decide +kernel
theorem dX11_redexAt_7 : decode cX11_redexAt 7 = .ok (.iload_n 2, 1) := by decide +kernel
theorem dX11_redexAt_8 : decode cX11_redexAt 8 = .ok (.ifCond .ge 5, 3) := by decide +kernel
theorem dX11_redexAt_11 : decode cX11_redexAt 11 = .ok (.iconst (-1), 1) := by decide +kernel
theorem dX11_redexAt_12 : decode cX11_redexAt 12 = .ok (.ireturn, 1) := by decide +kernel
theorem dX11_redexAt_13 : decode cX11_redexAt 13 = .ok (.aload_n 0, 1) := by decide +kernel
theorem dX11_redexAt_14 : decode cX11_redexAt 14 = .ok (.getfield 34, 3) := by decide +kernel
theorem dX11_redexAt_17 : decode cX11_redexAt 17 = .ok (.aload_n 0, 1) := by decide +kernel
theorem dX11_redexAt_18 : decode cX11_redexAt 18 = .ok (.getfield 12, 3) := by decide +kernel
theorem dX11_redexAt_21 : decode cX11_redexAt 21 = .ok (.aload_n 0, 1) := by decide +kernel
theorem dX11_redexAt_22 : decode cX11_redexAt 22 = .ok (.getfield 12, 3) := by decide +kernel
theorem dX11_redexAt_25 : decode cX11_redexAt 25 = .ok (.iload_n 1, 1) := by decide +kernel
theorem dX11_redexAt_26 : decode cX11_redexAt 26 = .ok (.invokevirtual 237, 3) := by decide +kernel
theorem dX11_redexAt_29 : decode cX11_redexAt 29 = .ok (.iload_n 2, 1) := by decide +kernel
theorem dX11_redexAt_30 : decode cX11_redexAt 30 = .ok (.invokevirtual 265, 3) := by decide +kernel
theorem dX11_redexAt_33 : decode cX11_redexAt 33 = .ok (.istore_n 3, 1) := by decide +kernel
theorem dX11_redexAt_34 : decode cX11_redexAt 34 = .ok (.iload_n 3, 1) := by decide +kernel
theorem dX11_redexAt_35 : decode cX11_redexAt 35 = .ok (.ifCond .lt 7, 3) := by decide +kernel
theorem dX11_redexAt_38 : decode cX11_redexAt 38 = .ok (.iload_n 3, 1) := by decide +kernel
theorem dX11_redexAt_39 : decode cX11_redexAt 39 = .ok (.goto 5, 3) := by decide +kernel
theorem dX11_redexAt_42 : decode cX11_redexAt 42 = .ok (.bipush (-5), 2) := by decide +kernel
theorem dX11_redexAt_44 : decode cX11_redexAt 44 = .ok (.ireturn, 1) := by decide +kernel
theorem dX11_rewriteAt_0 : decode cX11_rewriteAt 0 = .ok (.aload_n 0, 1) := by decide +kernel
theorem dX11_rewriteAt_1 : decode cX11_rewriteAt 1 = .ok (.iload_n 1, 1) := by decide +kernel
theorem dX11_rewriteAt_2 : decode cX11_rewriteAt 2 = .ok (.iload_n 2, 1) := by decide +kernel
theorem dX11_rewriteAt_3 : decode cX11_rewriteAt 3 = .ok (.invokevirtual 254, 3) := by decide +kernel
theorem dX11_rewriteAt_6 : decode cX11_rewriteAt 6 = .ok (.ifCond .ne 5, 3) := by decide +kernel
theorem dX11_rewriteAt_9 : decode cX11_rewriteAt 9 = .ok (.iconst (-1), 1) := by decide +kernel
theorem dX11_rewriteAt_10 : decode cX11_rewriteAt 10 = .ok (.ireturn, 1) := by decide +kernel
theorem dX11_rewriteAt_11 : decode cX11_rewriteAt 11 = .ok (.aload_n 0, 1) := by decide +kernel
theorem dX11_rewriteAt_12 : decode cX11_rewriteAt 12 = .ok (.getfield 34, 3) := by decide +kernel
theorem dX11_rewriteAt_15 : decode cX11_rewriteAt 15 = .ok (.aload_n 0, 1) := by decide +kernel
theorem dX11_rewriteAt_16 : decode cX11_rewriteAt 16 = .ok (.getfield 12, 3) := by decide +kernel
theorem dX11_rewriteAt_19 : decode cX11_rewriteAt 19 = .ok (.aload_n 0, 1) := by decide +kernel
theorem dX11_rewriteAt_20 : decode cX11_rewriteAt 20 = .ok (.getfield 12, 3) := by decide +kernel
theorem dX11_rewriteAt_23 : decode cX11_rewriteAt 23 = .ok (.iload_n 1, 1) := by decide +kernel
theorem dX11_rewriteAt_24 : decode cX11_rewriteAt 24 = .ok (.invokevirtual 237, 3) := by decide +kernel
theorem dX11_rewriteAt_27 : decode cX11_rewriteAt 27 = .ok (.iload_n 2, 1) := by decide +kernel
theorem dX11_rewriteAt_28 : decode cX11_rewriteAt 28 = .ok (.aload_n 0, 1) := by decide +kernel
theorem dX11_rewriteAt_29 : decode cX11_rewriteAt 29 = .ok (.getfield 48, 3) := by decide +kernel
theorem dX11_rewriteAt_32 : decode cX11_rewriteAt 32 = .ok (.invokevirtual 269, 3) := by decide +kernel
theorem dX11_rewriteAt_35 : decode cX11_rewriteAt 35 = .ok (.istore_n 3, 1) := by decide +kernel
theorem dX11_rewriteAt_36 : decode cX11_rewriteAt 36 = .ok (.iload_n 3, 1) := by decide +kernel
theorem dX11_rewriteAt_37 : decode cX11_rewriteAt 37 = .ok (.ifCond .ge 7, 3) := by decide +kernel
theorem dX11_rewriteAt_40 : decode cX11_rewriteAt 40 = .ok (.iload_n 3, 1) := by decide +kernel
theorem dX11_rewriteAt_41 : decode cX11_rewriteAt 41 = .ok (.goto 12, 3) := by decide +kernel
theorem dX11_rewriteAt_44 : decode cX11_rewriteAt 44 = .ok (.aload_n 0, 1) := by decide +kernel
theorem dX11_rewriteAt_45 : decode cX11_rewriteAt 45 = .ok (.aload_n 0, 1) := by decide +kernel
theorem dX11_rewriteAt_46 : decode cX11_rewriteAt 46 = .ok (.getfield 48, 3) := by decide +kernel
theorem dX11_rewriteAt_49 : decode cX11_rewriteAt 49 = .ok (.iload_n 1, 1) := by decide +kernel
theorem dX11_rewriteAt_50 : decode cX11_rewriteAt 50 = .ok (.invokevirtual 233, 3) := by decide +kernel
theorem dX11_rewriteAt_53 : decode cX11_rewriteAt 53 = .ok (.ireturn, 1) := by decide +kernel
theorem dX11_rewriteOutermost_0 : decode cX11_rewriteOutermost 0 = .ok (.iload_n 1, 1) := by decide +kernel
theorem dX11_rewriteOutermost_1 : decode cX11_rewriteOutermost 1 = .ok (.invokestatic 226, 3) := by decide +kernel
theorem dX11_rewriteOutermost_4 : decode cX11_rewriteOutermost 4 = .ok (.ifCond .ne 5, 3) := by decide +kernel
theorem dX11_rewriteOutermost_7 : decode cX11_rewriteOutermost 7 = .ok (.iconst (-1), 1) := by decide +kernel
theorem dX11_rewriteOutermost_8 : decode cX11_rewriteOutermost 8 = .ok (.ireturn, 1) := by decide +kernel
theorem dX11_rewriteOutermost_9 : decode cX11_rewriteOutermost 9 = .ok (.iload_n 2, 1) := by decide +kernel
theorem dX11_rewriteOutermost_10 : decode cX11_rewriteOutermost 10 = .ok (.ifCond .lt 9, 3) := by decide +kernel
theorem dX11_rewriteOutermost_13 : decode cX11_rewriteOutermost 13 = .ok (.iload_n 2, 1) := by decide +kernel
theorem dX11_rewriteOutermost_14 : decode cX11_rewriteOutermost 14 = .ok (.bipush 100, 2) := by decide +kernel
theorem dX11_rewriteOutermost_16 : decode cX11_rewriteOutermost 16 = .ok (.if_icmp .le 6, 3) := by decide +kernel
theorem dX11_rewriteOutermost_19 : decode cX11_rewriteOutermost 19 = .ok (.bipush (-2), 2) := by decide +kernel
theorem dX11_rewriteOutermost_21 : decode cX11_rewriteOutermost 21 = .ok (.ireturn, 1) := by decide +kernel
theorem dX11_rewriteOutermost_22 : decode cX11_rewriteOutermost 22 = .ok (.aload_n 0, 1) := by decide +kernel
theorem dX11_rewriteOutermost_23 : decode cX11_rewriteOutermost 23 = .ok (.getfield 34, 3) := by decide +kernel
theorem dX11_rewriteOutermost_26 : decode cX11_rewriteOutermost 26 = .ok (.aload_n 0, 1) := by decide +kernel
theorem dX11_rewriteOutermost_27 : decode cX11_rewriteOutermost 27 = .ok (.getfield 12, 3) := by decide +kernel
theorem dX11_rewriteOutermost_30 : decode cX11_rewriteOutermost 30 = .ok (.aload_n 0, 1) := by decide +kernel
theorem dX11_rewriteOutermost_31 : decode cX11_rewriteOutermost 31 = .ok (.getfield 12, 3) := by decide +kernel
theorem dX11_rewriteOutermost_34 : decode cX11_rewriteOutermost 34 = .ok (.iload_n 1, 1) := by decide +kernel
theorem dX11_rewriteOutermost_35 : decode cX11_rewriteOutermost 35 = .ok (.invokevirtual 237, 3) := by decide +kernel
theorem dX11_rewriteOutermost_38 : decode cX11_rewriteOutermost 38 = .ok (.iload_n 2, 1) := by decide +kernel
theorem dX11_rewriteOutermost_39 : decode cX11_rewriteOutermost 39 = .ok (.aload_n 0, 1) := by decide +kernel
theorem dX11_rewriteOutermost_40 : decode cX11_rewriteOutermost 40 = .ok (.getfield 48, 3) := by decide +kernel
theorem dX11_rewriteOutermost_43 : decode cX11_rewriteOutermost 43 = .ok (.invokevirtual 273, 3) := by decide +kernel
theorem dX11_rewriteOutermost_46 : decode cX11_rewriteOutermost 46 = .ok (.ireturn, 1) := by decide +kernel
theorem dX11_findLoop_0 : decode cX11_findLoop 0 = .ok (.iload_n 1, 1) := by decide +kernel
theorem dX11_findLoop_1 : decode cX11_findLoop 1 = .ok (.invokestatic 226, 3) := by decide +kernel
theorem dX11_findLoop_4 : decode cX11_findLoop 4 = .ok (.ifCond .ne 5, 3) := by decide +kernel
theorem dX11_findLoop_7 : decode cX11_findLoop 7 = .ok (.iconst (-1), 1) := by decide +kernel
theorem dX11_findLoop_8 : decode cX11_findLoop 8 = .ok (.ireturn, 1) := by decide +kernel
theorem dX11_findLoop_9 : decode cX11_findLoop 9 = .ok (.iload_n 2, 1) := by decide +kernel
theorem dX11_findLoop_10 : decode cX11_findLoop 10 = .ok (.iconst 1, 1) := by decide +kernel
theorem dX11_findLoop_11 : decode cX11_findLoop 11 = .ok (.if_icmp .lt 9, 3) := by decide +kernel
theorem dX11_findLoop_14 : decode cX11_findLoop 14 = .ok (.iload_n 2, 1) := by decide +kernel
theorem dX11_findLoop_15 : decode cX11_findLoop 15 = .ok (.bipush 100, 2) := by decide +kernel
theorem dX11_findLoop_17 : decode cX11_findLoop 17 = .ok (.if_icmp .le 6, 3) := by decide +kernel
theorem dX11_findLoop_20 : decode cX11_findLoop 20 = .ok (.bipush (-2), 2) := by decide +kernel
theorem dX11_findLoop_22 : decode cX11_findLoop 22 = .ok (.ireturn, 1) := by decide +kernel
theorem dX11_findLoop_23 : decode cX11_findLoop 23 = .ok (.aload_n 0, 1) := by decide +kernel
theorem dX11_findLoop_24 : decode cX11_findLoop 24 = .ok (.getfield 34, 3) := by decide +kernel
theorem dX11_findLoop_27 : decode cX11_findLoop 27 = .ok (.aload_n 0, 1) := by decide +kernel
theorem dX11_findLoop_28 : decode cX11_findLoop 28 = .ok (.getfield 12, 3) := by decide +kernel
theorem dX11_findLoop_31 : decode cX11_findLoop 31 = .ok (.aload_n 0, 1) := by decide +kernel
theorem dX11_findLoop_32 : decode cX11_findLoop 32 = .ok (.getfield 12, 3) := by decide +kernel
theorem dX11_findLoop_35 : decode cX11_findLoop 35 = .ok (.iload_n 1, 1) := by decide +kernel
theorem dX11_findLoop_36 : decode cX11_findLoop 36 = .ok (.invokevirtual 237, 3) := by decide +kernel
theorem dX11_findLoop_39 : decode cX11_findLoop 39 = .ok (.iload_n 2, 1) := by decide +kernel
theorem dX11_findLoop_40 : decode cX11_findLoop 40 = .ok (.invokevirtual 276, 3) := by decide +kernel
theorem dX11_findLoop_43 : decode cX11_findLoop 43 = .ok (.ireturn, 1) := by decide +kernel
theorem dX11_exploredCount_0 : decode cX11_exploredCount 0 = .ok (.aload_n 0, 1) := by decide +kernel
theorem dX11_exploredCount_1 : decode cX11_exploredCount 1 = .ok (.getfield 41, 3) := by decide +kernel
theorem dX11_exploredCount_4 : decode cX11_exploredCount 4 = .ok (.aload_n 0, 1) := by decide +kernel
theorem dX11_exploredCount_5 : decode cX11_exploredCount 5 = .ok (.getfield 12, 3) := by decide +kernel
theorem dX11_exploredCount_8 : decode cX11_exploredCount 8 = .ok (.aload_n 0, 1) := by decide +kernel
theorem dX11_exploredCount_9 : decode cX11_exploredCount 9 = .ok (.getfield 34, 3) := by decide +kernel
theorem dX11_exploredCount_12 : decode cX11_exploredCount 12 = .ok (.iload_n 1, 1) := by decide +kernel
theorem dX11_exploredCount_13 : decode cX11_exploredCount 13 = .ok (.iload_n 2, 1) := by decide +kernel
theorem dX11_exploredCount_14 : decode cX11_exploredCount 14 = .ok (.invokevirtual 279, 3) := by decide +kernel
theorem dX11_exploredCount_17 : decode cX11_exploredCount 17 = .ok (.istore_n 3, 1) := by decide +kernel
theorem dX11_exploredCount_18 : decode cX11_exploredCount 18 = .ok (.iload_n 3, 1) := by decide +kernel
theorem dX11_exploredCount_19 : decode cX11_exploredCount 19 = .ok (.ifCond .ge 7, 3) := by decide +kernel
theorem dX11_exploredCount_22 : decode cX11_exploredCount 22 = .ok (.iload_n 3, 1) := by decide +kernel
theorem dX11_exploredCount_23 : decode cX11_exploredCount 23 = .ok (.goto 10, 3) := by decide +kernel
theorem dX11_exploredCount_26 : decode cX11_exploredCount 26 = .ok (.aload_n 0, 1) := by decide +kernel
theorem dX11_exploredCount_27 : decode cX11_exploredCount 27 = .ok (.getfield 41, 3) := by decide +kernel
theorem dX11_exploredCount_30 : decode cX11_exploredCount 30 = .ok (.getfield 283, 3) := by decide +kernel
theorem dX11_exploredCount_33 : decode cX11_exploredCount 33 = .ok (.ireturn, 1) := by decide +kernel
theorem dX11_exploredNormalForms_0 : decode cX11_exploredNormalForms 0 = .ok (.aload_n 0, 1) := by decide +kernel
theorem dX11_exploredNormalForms_1 : decode cX11_exploredNormalForms 1 = .ok (.getfield 41, 3) := by decide +kernel
theorem dX11_exploredNormalForms_4 : decode cX11_exploredNormalForms 4 = .ok (.aload_n 0, 1) := by decide +kernel
theorem dX11_exploredNormalForms_5 : decode cX11_exploredNormalForms 5 = .ok (.getfield 12, 3) := by decide +kernel
theorem dX11_exploredNormalForms_8 : decode cX11_exploredNormalForms 8 = .ok (.aload_n 0, 1) := by decide +kernel
theorem dX11_exploredNormalForms_9 : decode cX11_exploredNormalForms 9 = .ok (.getfield 34, 3) := by decide +kernel
theorem dX11_exploredNormalForms_12 : decode cX11_exploredNormalForms 12 = .ok (.iload_n 1, 1) := by decide +kernel
theorem dX11_exploredNormalForms_13 : decode cX11_exploredNormalForms 13 = .ok (.iload_n 2, 1) := by decide +kernel
theorem dX11_exploredNormalForms_14 : decode cX11_exploredNormalForms 14 = .ok (.invokevirtual 279, 3) := by decide +kernel
theorem dX11_exploredNormalForms_17 : decode cX11_exploredNormalForms 17 = .ok (.istore_n 3, 1) := by decide +kernel
theorem dX11_exploredNormalForms_18 : decode cX11_exploredNormalForms 18 = .ok (.iload_n 3, 1) := by decide +kernel
theorem dX11_exploredNormalForms_19 : decode cX11_exploredNormalForms 19 = .ok (.ifCond .ge 7, 3) := by decide +kernel
theorem dX11_exploredNormalForms_22 : decode cX11_exploredNormalForms 22 = .ok (.iload_n 3, 1) := by decide +kernel
theorem dX11_exploredNormalForms_23 : decode cX11_exploredNormalForms 23 = .ok (.goto 10, 3) := by decide +kernel
theorem dX11_exploredNormalForms_26 : decode cX11_exploredNormalForms 26 = .ok (.aload_n 0, 1) := by decide +kernel
theorem dX11_exploredNormalForms_27 : decode cX11_exploredNormalForms 27 = .ok (.getfield 41, 3) := by decide +kernel
theorem dX11_exploredNormalForms_30 : decode cX11_exploredNormalForms 30 = .ok (.getfield 286, 3) := by decide +kernel
theorem dX11_exploredNormalForms_33 : decode cX11_exploredNormalForms 33 = .ok (.ireturn, 1) := by decide +kernel
theorem dX11_lastExploredSize_0 : decode cX11_lastExploredSize 0 = .ok (.aload_n 0, 1) := by decide +kernel
theorem dX11_lastExploredSize_1 : decode cX11_lastExploredSize 1 = .ok (.getfield 41, 3) := by decide +kernel
theorem dX11_lastExploredSize_4 : decode cX11_lastExploredSize 4 = .ok (.aload_n 0, 1) := by decide +kernel
theorem dX11_lastExploredSize_5 : decode cX11_lastExploredSize 5 = .ok (.getfield 12, 3) := by decide +kernel
theorem dX11_lastExploredSize_8 : decode cX11_lastExploredSize 8 = .ok (.aload_n 0, 1) := by decide +kernel
theorem dX11_lastExploredSize_9 : decode cX11_lastExploredSize 9 = .ok (.getfield 34, 3) := by decide +kernel
theorem dX11_lastExploredSize_12 : decode cX11_lastExploredSize 12 = .ok (.iload_n 1, 1) := by decide +kernel
theorem dX11_lastExploredSize_13 : decode cX11_lastExploredSize 13 = .ok (.iload_n 2, 1) := by decide +kernel
theorem dX11_lastExploredSize_14 : decode cX11_lastExploredSize 14 = .ok (.invokevirtual 279, 3) := by decide +kernel
theorem dX11_lastExploredSize_17 : decode cX11_lastExploredSize 17 = .ok (.istore_n 3, 1) := by decide +kernel
theorem dX11_lastExploredSize_18 : decode cX11_lastExploredSize 18 = .ok (.iload_n 3, 1) := by decide +kernel
theorem dX11_lastExploredSize_19 : decode cX11_lastExploredSize 19 = .ok (.ifCond .ge 7, 3) := by decide +kernel
theorem dX11_lastExploredSize_22 : decode cX11_lastExploredSize 22 = .ok (.iload_n 3, 1) := by decide +kernel
theorem dX11_lastExploredSize_23 : decode cX11_lastExploredSize 23 = .ok (.goto 13, 3) := by decide +kernel
theorem dX11_lastExploredSize_26 : decode cX11_lastExploredSize 26 = .ok (.aload_n 0, 1) := by decide +kernel
theorem dX11_lastExploredSize_27 : decode cX11_lastExploredSize 27 = .ok (.getfield 41, 3) := by decide +kernel
theorem dX11_lastExploredSize_30 : decode cX11_lastExploredSize 30 = .ok (.getfield 289, 3) := by decide +kernel
theorem dX11_lastExploredSize_33 : decode cX11_lastExploredSize 33 = .ok (.getfield 138, 3) := by decide +kernel
theorem dX11_lastExploredSize_36 : decode cX11_lastExploredSize 36 = .ok (.ireturn, 1) := by decide +kernel
theorem dX11_loadNormalForm_0 : decode cX11_loadNormalForm 0 = .ok (.iload_n 3, 1) := by decide +kernel
theorem dX11_loadNormalForm_1 : decode cX11_loadNormalForm 1 = .ok (.invokestatic 226, 3) := by decide +kernel
theorem dX11_loadNormalForm_4 : decode cX11_loadNormalForm 4 = .ok (.ifCond .ne 5, 3) := by decide +kernel
theorem dX11_loadNormalForm_7 : decode cX11_loadNormalForm 7 = .ok (.iconst (-1), 1) := by decide +kernel
theorem dX11_loadNormalForm_8 : decode cX11_loadNormalForm 8 = .ok (.ireturn, 1) := by decide +kernel
theorem dX11_loadNormalForm_9 : decode cX11_loadNormalForm 9 = .ok (.aload_n 0, 1) := by decide +kernel
theorem dX11_loadNormalForm_10 : decode cX11_loadNormalForm 10 = .ok (.getfield 41, 3) := by decide +kernel
theorem dX11_loadNormalForm_13 : decode cX11_loadNormalForm 13 = .ok (.aload_n 0, 1) := by decide +kernel
theorem dX11_loadNormalForm_14 : decode cX11_loadNormalForm 14 = .ok (.getfield 12, 3) := by decide +kernel
theorem dX11_loadNormalForm_17 : decode cX11_loadNormalForm 17 = .ok (.aload_n 0, 1) := by decide +kernel
theorem dX11_loadNormalForm_18 : decode cX11_loadNormalForm 18 = .ok (.getfield 34, 3) := by decide +kernel
theorem dX11_loadNormalForm_21 : decode cX11_loadNormalForm 21 = .ok (.iload_n 1, 1) := by decide +kernel
theorem dX11_loadNormalForm_22 : decode cX11_loadNormalForm 22 = .ok (.iload_n 2, 1) := by decide +kernel
theorem dX11_loadNormalForm_23 : decode cX11_loadNormalForm 23 = .ok (.invokevirtual 279, 3) := by decide +kernel
theorem dX11_loadNormalForm_26 : decode cX11_loadNormalForm 26 = .ok (.istore 4, 2) := by decide +kernel
theorem dX11_loadNormalForm_28 : decode cX11_loadNormalForm 28 = .ok (.iload 4, 2) := by decide +kernel
theorem dX11_loadNormalForm_30 : decode cX11_loadNormalForm 30 = .ok (.ifCond .ge 6, 3) := by decide +kernel
theorem dX11_loadNormalForm_33 : decode cX11_loadNormalForm 33 = .ok (.iload 4, 2) := by decide +kernel
theorem dX11_loadNormalForm_35 : decode cX11_loadNormalForm 35 = .ok (.ireturn, 1) := by decide +kernel
theorem dX11_loadNormalForm_36 : decode cX11_loadNormalForm 36 = .ok (.aload_n 0, 1) := by decide +kernel
theorem dX11_loadNormalForm_37 : decode cX11_loadNormalForm 37 = .ok (.getfield 41, 3) := by decide +kernel
theorem dX11_loadNormalForm_40 : decode cX11_loadNormalForm 40 = .ok (.getfield 286, 3) := by decide +kernel
theorem dX11_loadNormalForm_43 : decode cX11_loadNormalForm 43 = .ok (.ifCond .le 18, 3) := by decide +kernel
theorem dX11_loadNormalForm_46 : decode cX11_loadNormalForm 46 = .ok (.aload_n 0, 1) := by decide +kernel
theorem dX11_loadNormalForm_47 : decode cX11_loadNormalForm 47 = .ok (.aload_n 0, 1) := by decide +kernel
theorem dX11_loadNormalForm_48 : decode cX11_loadNormalForm 48 = .ok (.getfield 41, 3) := by decide +kernel
theorem dX11_loadNormalForm_51 : decode cX11_loadNormalForm 51 = .ok (.getfield 292, 3) := by decide +kernel
theorem dX11_loadNormalForm_54 : decode cX11_loadNormalForm 54 = .ok (.iload_n 3, 1) := by decide +kernel
theorem dX11_loadNormalForm_55 : decode cX11_loadNormalForm 55 = .ok (.invokevirtual 233, 3) := by decide +kernel
theorem dX11_loadNormalForm_58 : decode cX11_loadNormalForm 58 = .ok (.goto 5, 3) := by decide +kernel
theorem dX11_loadNormalForm_61 : decode cX11_loadNormalForm 61 = .ok (.bipush (-5), 2) := by decide +kernel
theorem dX11_loadNormalForm_63 : decode cX11_loadNormalForm 63 = .ok (.ireturn, 1) := by decide +kernel
theorem dX11_normalFormRegisterCount_0 : decode cX11_normalFormRegisterCount 0 = .ok (.iconst 0, 1) := by decide +kernel
theorem dX11_normalFormRegisterCount_1 : decode cX11_normalFormRegisterCount 1 = .ok (.istore_n 1, 1) := by decide +kernel
theorem dX11_normalFormRegisterCount_2 : decode cX11_normalFormRegisterCount 2 = .ok (.iconst 0, 1) := by decide +kernel
theorem dX11_normalFormRegisterCount_3 : decode cX11_normalFormRegisterCount 3 = .ok (.istore_n 2, 1) := by decide +kernel
theorem dX11_normalFormRegisterCount_4 : decode cX11_normalFormRegisterCount 4 = .ok (.iload_n 2, 1) := by decide +kernel
theorem dX11_normalFormRegisterCount_5 : decode cX11_normalFormRegisterCount 5 = .ok (.iconst 4, 1) := by decide +kernel
theorem dX11_normalFormRegisterCount_6 : decode cX11_normalFormRegisterCount 6 = .ok (.if_icmp .ge 35, 3) := by decide +kernel
theorem dX11_normalFormRegisterCount_9 : decode cX11_normalFormRegisterCount 9 = .ok (.aload_n 0, 1) := by decide +kernel
theorem dX11_normalFormRegisterCount_10 : decode cX11_normalFormRegisterCount 10 = .ok (.getfield 34, 3) := by decide +kernel
theorem dX11_normalFormRegisterCount_13 : decode cX11_normalFormRegisterCount 13 = .ok (.aload_n 0, 1) := by decide +kernel
theorem dX11_normalFormRegisterCount_14 : decode cX11_normalFormRegisterCount 14 = .ok (.getfield 12, 3) := by decide +kernel
theorem dX11_normalFormRegisterCount_17 : decode cX11_normalFormRegisterCount 17 = .ok (.aload_n 0, 1) := by decide +kernel
theorem dX11_normalFormRegisterCount_18 : decode cX11_normalFormRegisterCount 18 = .ok (.getfield 12, 3) := by decide +kernel
theorem dX11_normalFormRegisterCount_21 : decode cX11_normalFormRegisterCount 21 = .ok (.iload_n 2, 1) := by decide +kernel
theorem dX11_normalFormRegisterCount_22 : decode cX11_normalFormRegisterCount 22 = .ok (.invokevirtual 237, 3) := by decide +kernel
theorem dX11_normalFormRegisterCount_25 : decode cX11_normalFormRegisterCount 25 = .ok (.iconst 0, 1) := by decide +kernel
theorem dX11_normalFormRegisterCount_26 : decode cX11_normalFormRegisterCount 26 = .ok (.invokevirtual 265, 3) := by decide +kernel
theorem dX11_normalFormRegisterCount_29 : decode cX11_normalFormRegisterCount 29 = .ok (.ifCond .ge 6, 3) := by decide +kernel
theorem dX11_normalFormRegisterCount_32 : decode cX11_normalFormRegisterCount 32 = .ok (.iinc 1 1, 3) := by decide +kernel
theorem dX11_normalFormRegisterCount_35 : decode cX11_normalFormRegisterCount 35 = .ok (.iinc 2 1, 3) := by decide +kernel
theorem dX11_normalFormRegisterCount_38 : decode cX11_normalFormRegisterCount 38 = .ok (.goto (-34), 3) := by decide +kernel
theorem dX11_normalFormRegisterCount_41 : decode cX11_normalFormRegisterCount 41 = .ok (.iload_n 1, 1) := by decide +kernel
theorem dX11_normalFormRegisterCount_42 : decode cX11_normalFormRegisterCount 42 = .ok (.ireturn, 1) := by decide +kernel
theorem dX11_appendCharacter_0 : decode cX11_appendCharacter 0 = .ok (.iload_n 1, 1) := by decide +kernel
theorem dX11_appendCharacter_1 : decode cX11_appendCharacter 1 = .ok (.bipush 32, 2) := by decide +kernel
theorem dX11_appendCharacter_3 : decode cX11_appendCharacter 3 = .ok (.if_icmp .lt 9, 3) := by decide +kernel
theorem dX11_appendCharacter_6 : decode cX11_appendCharacter 6 = .ok (.iload_n 1, 1) := by decide +kernel
theorem dX11_appendCharacter_7 : decode cX11_appendCharacter 7 = .ok (.bipush 126, 2) := by decide +kernel
theorem dX11_appendCharacter_9 : decode cX11_appendCharacter 9 = .ok (.if_icmp .le 6, 3) := by decide +kernel
theorem dX11_appendCharacter_12 : decode cX11_appendCharacter 12 = .ok (.bipush (-2), 2) := by decide +kernel
theorem dX11_appendCharacter_14 : decode cX11_appendCharacter 14 = .ok (.ireturn, 1) := by decide +kernel
theorem dX11_appendCharacter_15 : decode cX11_appendCharacter 15 = .ok (.aload_n 0, 1) := by decide +kernel
theorem dX11_appendCharacter_16 : decode cX11_appendCharacter 16 = .ok (.getfield 24, 3) := by decide +kernel
theorem dX11_appendCharacter_19 : decode cX11_appendCharacter 19 = .ok (.iload_n 1, 1) := by decide +kernel
theorem dX11_appendCharacter_20 : decode cX11_appendCharacter 20 = .ok (.invokevirtual 295, 3) := by decide +kernel
theorem dX11_appendCharacter_23 : decode cX11_appendCharacter 23 = .ok (.ifCond .eq 13, 3) := by decide +kernel
theorem dX11_appendCharacter_26 : decode cX11_appendCharacter 26 = .ok (.aload_n 0, 1) := by decide +kernel
theorem dX11_appendCharacter_27 : decode cX11_appendCharacter 27 = .ok (.getfield 24, 3) := by decide +kernel
theorem dX11_appendCharacter_30 : decode cX11_appendCharacter 30 = .ok (.getfield 244, 3) := by decide +kernel
theorem dX11_appendCharacter_33 : decode cX11_appendCharacter 33 = .ok (.goto 5, 3) := by decide +kernel
theorem dX11_appendCharacter_36 : decode cX11_appendCharacter 36 = .ok (.bipush (-4), 2) := by decide +kernel
theorem dX11_appendCharacter_38 : decode cX11_appendCharacter 38 = .ok (.ireturn, 1) := by decide +kernel
theorem dX11_clearText_0 : decode cX11_clearText 0 = .ok (.aload_n 0, 1) := by decide +kernel
theorem dX11_clearText_1 : decode cX11_clearText 1 = .ok (.getfield 24, 3) := by decide +kernel
theorem dX11_clearText_4 : decode cX11_clearText 4 = .ok (.getfield 244, 3) := by decide +kernel
theorem dX11_clearText_7 : decode cX11_clearText 7 = .ok (.istore_n 1, 1) := by decide +kernel
theorem dX11_clearText_8 : decode cX11_clearText 8 = .ok (.aload_n 0, 1) := by decide +kernel
theorem dX11_clearText_9 : decode cX11_clearText 9 = .ok (.getfield 24, 3) := by decide +kernel
theorem dX11_clearText_12 : decode cX11_clearText 12 = .ok (.invokevirtual 122, 3) := by decide +kernel
theorem dX11_clearText_15 : decode cX11_clearText 15 = .ok (.iload_n 1, 1) := by decide +kernel
theorem dX11_clearText_16 : decode cX11_clearText 16 = .ok (.ireturn, 1) := by decide +kernel
theorem dX11_textLength_0 : decode cX11_textLength 0 = .ok (.aload_n 0, 1) := by decide +kernel
theorem dX11_textLength_1 : decode cX11_textLength 1 = .ok (.getfield 24, 3) := by decide +kernel
theorem dX11_textLength_4 : decode cX11_textLength 4 = .ok (.getfield 244, 3) := by decide +kernel
theorem dX11_textLength_7 : decode cX11_textLength 7 = .ok (.ireturn, 1) := by decide +kernel
theorem dX11_saveSnapshot_0 : decode cX11_saveSnapshot 0 = .ok (.aload_n 0, 1) := by decide +kernel
theorem dX11_saveSnapshot_1 : decode cX11_saveSnapshot 1 = .ok (.getfield 16, 3) := by decide +kernel
theorem dX11_saveSnapshot_4 : decode cX11_saveSnapshot 4 = .ok (.aload_n 0, 1) := by decide +kernel
theorem dX11_saveSnapshot_5 : decode cX11_saveSnapshot 5 = .ok (.getfield 12, 3) := by decide +kernel
theorem dX11_saveSnapshot_8 : decode cX11_saveSnapshot 8 = .ok (.invokevirtual 298, 3) := by decide +kernel
theorem dX11_saveSnapshot_11 : decode cX11_saveSnapshot 11 = .ok (.aload_n 0, 1) := by decide +kernel
theorem dX11_saveSnapshot_12 : decode cX11_saveSnapshot 12 = .ok (.iconst 1, 1) := by decide +kernel
theorem dX11_saveSnapshot_13 : decode cX11_saveSnapshot 13 = .ok (.putfield 302, 3) := by decide +kernel
theorem dX11_saveSnapshot_16 : decode cX11_saveSnapshot 16 = .ok (.aload_n 0, 1) := by decide +kernel
theorem dX11_saveSnapshot_17 : decode cX11_saveSnapshot 17 = .ok (.getfield 12, 3) := by decide +kernel
theorem dX11_saveSnapshot_20 : decode cX11_saveSnapshot 20 = .ok (.getfield 84, 3) := by decide +kernel
theorem dX11_saveSnapshot_23 : decode cX11_saveSnapshot 23 = .ok (.ireturn, 1) := by decide +kernel
theorem dX11_restoreSnapshot_0 : decode cX11_restoreSnapshot 0 = .ok (.aload_n 0, 1) := by decide +kernel
theorem dX11_restoreSnapshot_1 : decode cX11_restoreSnapshot 1 = .ok (.getfield 302, 3) := by decide +kernel
theorem dX11_restoreSnapshot_4 : decode cX11_restoreSnapshot 4 = .ok (.ifCond .ne 6, 3) := by decide +kernel
theorem dX11_restoreSnapshot_7 : decode cX11_restoreSnapshot 7 = .ok (.bipush (-3), 2) := by decide +kernel
theorem dX11_restoreSnapshot_9 : decode cX11_restoreSnapshot 9 = .ok (.ireturn, 1) := by decide +kernel
theorem dX11_restoreSnapshot_10 : decode cX11_restoreSnapshot 10 = .ok (.aload_n 0, 1) := by decide +kernel
theorem dX11_restoreSnapshot_11 : decode cX11_restoreSnapshot 11 = .ok (.getfield 12, 3) := by decide +kernel
theorem dX11_restoreSnapshot_14 : decode cX11_restoreSnapshot 14 = .ok (.aload_n 0, 1) := by decide +kernel
theorem dX11_restoreSnapshot_15 : decode cX11_restoreSnapshot 15 = .ok (.getfield 16, 3) := by decide +kernel
theorem dX11_restoreSnapshot_18 : decode cX11_restoreSnapshot 18 = .ok (.invokevirtual 298, 3) := by decide +kernel
theorem dX11_restoreSnapshot_21 : decode cX11_restoreSnapshot 21 = .ok (.aload_n 0, 1) := by decide +kernel
theorem dX11_restoreSnapshot_22 : decode cX11_restoreSnapshot 22 = .ok (.invokevirtual 129, 3) := by decide +kernel
theorem dX11_restoreSnapshot_25 : decode cX11_restoreSnapshot 25 = .ok (.aload_n 0, 1) := by decide +kernel
theorem dX11_restoreSnapshot_26 : decode cX11_restoreSnapshot 26 = .ok (.getfield 12, 3) := by decide +kernel
theorem dX11_restoreSnapshot_29 : decode cX11_restoreSnapshot 29 = .ok (.getfield 84, 3) := by decide +kernel
theorem dX11_restoreSnapshot_32 : decode cX11_restoreSnapshot 32 = .ok (.ireturn, 1) := by decide +kernel
theorem dX11_hasRule_0 : decode cX11_hasRule 0 = .ok (.iload_n 1, 1) := by decide +kernel
theorem dX11_hasRule_1 : decode cX11_hasRule 1 = .ok (.ifCond .lt 18, 3) := by decide +kernel
theorem dX11_hasRule_4 : decode cX11_hasRule 4 = .ok (.iload_n 1, 1) := by decide +kernel
theorem dX11_hasRule_5 : decode cX11_hasRule 5 = .ok (.aload_n 0, 1) := by decide +kernel
theorem dX11_hasRule_6 : decode cX11_hasRule 6 = .ok (.getfield 12, 3) := by decide +kernel
theorem dX11_hasRule_9 : decode cX11_hasRule 9 = .ok (.getfield 84, 3) := by decide +kernel
theorem dX11_hasRule_12 : decode cX11_hasRule 12 = .ok (.if_icmp .ge 7, 3) := by decide +kernel
theorem dX11_hasRule_15 : decode cX11_hasRule 15 = .ok (.iconst 1, 1) := by decide +kernel
theorem dX11_hasRule_16 : decode cX11_hasRule 16 = .ok (.goto 4, 3) := by decide +kernel
theorem dX11_hasRule_19 : decode cX11_hasRule 19 = .ok (.iconst 0, 1) := by decide +kernel
theorem dX11_hasRule_20 : decode cX11_hasRule 20 = .ok (.ireturn, 1) := by decide +kernel
theorem dX11_hasPair_0 : decode cX11_hasPair 0 = .ok (.iload_n 1, 1) := by decide +kernel
theorem dX11_hasPair_1 : decode cX11_hasPair 1 = .ok (.ifCond .lt 18, 3) := by decide +kernel
theorem dX11_hasPair_4 : decode cX11_hasPair 4 = .ok (.iload_n 1, 1) := by decide +kernel
theorem dX11_hasPair_5 : decode cX11_hasPair 5 = .ok (.aload_n 0, 1) := by decide +kernel
theorem dX11_hasPair_6 : decode cX11_hasPair 6 = .ok (.invokevirtual 141, 3) := by decide +kernel
theorem dX11_hasPair_9 : decode cX11_hasPair 9 = .ok (.getfield 145, 3) := by decide +kernel
theorem dX11_hasPair_12 : decode cX11_hasPair 12 = .ok (.if_icmp .ge 7, 3) := by decide +kernel
theorem dX11_hasPair_15 : decode cX11_hasPair 15 = .ok (.iconst 1, 1) := by decide +kernel
theorem dX11_hasPair_16 : decode cX11_hasPair 16 = .ok (.goto 4, 3) := by decide +kernel
theorem dX11_hasPair_19 : decode cX11_hasPair 19 = .ok (.iconst 0, 1) := by decide +kernel
theorem dX11_hasPair_20 : decode cX11_hasPair 20 = .ok (.ireturn, 1) := by decide +kernel
theorem dX11_hasPosition_0 : decode cX11_hasPosition 0 = .ok (.iload_n 1, 1) := by decide +kernel
theorem dX11_hasPosition_1 : decode cX11_hasPosition 1 = .ok (.invokestatic 226, 3) := by decide +kernel
theorem dX11_hasPosition_4 : decode cX11_hasPosition 4 = .ok (.ifCond .eq 26, 3) := by decide +kernel
theorem dX11_hasPosition_7 : decode cX11_hasPosition 7 = .ok (.iload_n 2, 1) := by decide +kernel
theorem dX11_hasPosition_8 : decode cX11_hasPosition 8 = .ok (.ifCond .lt 22, 3) := by decide +kernel
theorem dX11_hasPosition_11 : decode cX11_hasPosition 11 = .ok (.iload_n 2, 1) := by decide +kernel
theorem dX11_hasPosition_12 : decode cX11_hasPosition 12 = .ok (.aload_n 0, 1) := by decide +kernel
theorem dX11_hasPosition_13 : decode cX11_hasPosition 13 = .ok (.getfield 12, 3) := by decide +kernel
theorem dX11_hasPosition_16 : decode cX11_hasPosition 16 = .ok (.iload_n 1, 1) := by decide +kernel
theorem dX11_hasPosition_17 : decode cX11_hasPosition 17 = .ok (.invokevirtual 237, 3) := by decide +kernel
theorem dX11_hasPosition_20 : decode cX11_hasPosition 20 = .ok (.getfield 138, 3) := by decide +kernel
theorem dX11_hasPosition_23 : decode cX11_hasPosition 23 = .ok (.if_icmp .ge 7, 3) := by decide +kernel
theorem dX11_hasPosition_26 : decode cX11_hasPosition 26 = .ok (.iconst 1, 1) := by decide +kernel
theorem dX11_hasPosition_27 : decode cX11_hasPosition 27 = .ok (.goto 4, 3) := by decide +kernel
theorem dX11_hasPosition_30 : decode cX11_hasPosition 30 = .ok (.iconst 0, 1) := by decide +kernel
theorem dX11_hasPosition_31 : decode cX11_hasPosition 31 = .ok (.ireturn, 1) := by decide +kernel
theorem dX11_hasRegister_0 : decode cX11_hasRegister 0 = .ok (.iload_n 0, 1) := by decide +kernel
theorem dX11_hasRegister_1 : decode cX11_hasRegister 1 = .ok (.ifCond .lt 12, 3) := by decide +kernel
theorem dX11_hasRegister_4 : decode cX11_hasRegister 4 = .ok (.iload_n 0, 1) := by decide +kernel
theorem dX11_hasRegister_5 : decode cX11_hasRegister 5 = .ok (.iconst 4, 1) := by decide +kernel
theorem dX11_hasRegister_6 : decode cX11_hasRegister 6 = .ok (.if_icmp .ge 7, 3) := by decide +kernel
theorem dX11_hasRegister_9 : decode cX11_hasRegister 9 = .ok (.iconst 1, 1) := by decide +kernel
theorem dX11_hasRegister_10 : decode cX11_hasRegister 10 = .ok (.goto 4, 3) := by decide +kernel
theorem dX11_hasRegister_13 : decode cX11_hasRegister 13 = .ok (.iconst 0, 1) := by decide +kernel
theorem dX11_hasRegister_14 : decode cX11_hasRegister 14 = .ok (.ireturn, 1) := by decide +kernel
theorem dX11_store_0 : decode cX11_store 0 = .ok (.aload_n 0, 1) := by decide +kernel
theorem dX11_store_1 : decode cX11_store 1 = .ok (.getfield 12, 3) := by decide +kernel
theorem dX11_store_4 : decode cX11_store 4 = .ok (.iload_n 2, 1) := by decide +kernel
theorem dX11_store_5 : decode cX11_store 5 = .ok (.invokevirtual 237, 3) := by decide +kernel
theorem dX11_store_8 : decode cX11_store 8 = .ok (.aload_n 1, 1) := by decide +kernel
theorem dX11_store_9 : decode cX11_store 9 = .ok (.invokevirtual 305, 3) := by decide +kernel
theorem dX11_store_12 : decode cX11_store 12 = .ok (.aload_n 1, 1) := by decide +kernel
theorem dX11_store_13 : decode cX11_store 13 = .ok (.getfield 138, 3) := by decide +kernel
theorem dX11_store_16 : decode cX11_store 16 = .ok (.ireturn, 1) := by decide +kernel
theorem dX11_rulesChanged_0 : decode cX11_rulesChanged 0 = .ok (.aload_n 0, 1) := by decide +kernel
theorem dX11_rulesChanged_1 : decode cX11_rulesChanged 1 = .ok (.iconst 0, 1) := by decide +kernel
theorem dX11_rulesChanged_2 : decode cX11_rulesChanged 2 = .ok (.putfield 308, 3) := by decide +kernel
theorem dX11_rulesChanged_5 : decode cX11_rulesChanged 5 = .ok (.aload_n 0, 1) := by decide +kernel
theorem dX11_rulesChanged_6 : decode cX11_rulesChanged 6 = .ok (.iconst 0, 1) := by decide +kernel
theorem dX11_rulesChanged_7 : decode cX11_rulesChanged 7 = .ok (.putfield 311, 3) := by decide +kernel
theorem dX11_rulesChanged_10 : decode cX11_rulesChanged 10 = .ok (.aload_n 0, 1) := by decide +kernel
theorem dX11_rulesChanged_11 : decode cX11_rulesChanged 11 = .ok (.iconst 0, 1) := by decide +kernel
theorem dX11_rulesChanged_12 : decode cX11_rulesChanged 12 = .ok (.putfield 314, 3) := by decide +kernel
theorem dX11_rulesChanged_15 : decode cX11_rulesChanged 15 = .ok (.aload_n 0, 1) := by decide +kernel
theorem dX11_rulesChanged_16 : decode cX11_rulesChanged 16 = .ok (.iconst 0, 1) := by decide +kernel
theorem dX11_rulesChanged_17 : decode cX11_rulesChanged 17 = .ok (.putfield 317, 3) := by decide +kernel
theorem dX11_rulesChanged_20 : decode cX11_rulesChanged 20 = .ok (.return_, 1) := by decide +kernel
theorem dX11_currentPairs_0 : decode cX11_currentPairs 0 = .ok (.aload_n 0, 1) := by decide +kernel
theorem dX11_currentPairs_1 : decode cX11_currentPairs 1 = .ok (.getfield 308, 3) := by decide +kernel
theorem dX11_currentPairs_4 : decode cX11_currentPairs 4 = .ok (.ifCond .ne 19, 3) := by decide +kernel
theorem dX11_currentPairs_7 : decode cX11_currentPairs 7 = .ok (.aload_n 0, 1) := by decide +kernel
theorem dX11_currentPairs_8 : decode cX11_currentPairs 8 = .ok (.getfield 55, 3) := by decide +kernel
theorem dX11_currentPairs_11 : decode cX11_currentPairs 11 = .ok (.aload_n 0, 1) := by decide +kernel
theorem dX11_currentPairs_12 : decode cX11_currentPairs 12 = .ok (.getfield 12, 3) := by decide +kernel
theorem dX11_currentPairs_15 : decode cX11_currentPairs 15 = .ok (.invokevirtual 320, 3) := by decide +kernel
theorem dX11_currentPairs_18 : decode cX11_currentPairs 18 = .ok (.aload_n 0, 1) := by decide +kernel
theorem dX11_currentPairs_19 : decode cX11_currentPairs 19 = .ok (.iconst 1, 1) := by decide +kernel
theorem dX11_currentPairs_20 : decode cX11_currentPairs 20 = .ok (.putfield 308, 3) := by decide +kernel
theorem dX11_currentPairs_23 : decode cX11_currentPairs 23 = .ok (.aload_n 0, 1) := by decide +kernel
theorem dX11_currentPairs_24 : decode cX11_currentPairs 24 = .ok (.getfield 55, 3) := by decide +kernel
theorem dX11_currentPairs_27 : decode cX11_currentPairs 27 = .ok (.areturn, 1) := by decide +kernel
theorem dX11_currentComponents_0 : decode cX11_currentComponents 0 = .ok (.aload_n 0, 1) := by decide +kernel
theorem dX11_currentComponents_1 : decode cX11_currentComponents 1 = .ok (.getfield 311, 3) := by decide +kernel
theorem dX11_currentComponents_4 : decode cX11_currentComponents 4 = .ok (.ifCond .ne 29, 3) := by decide +kernel
theorem dX11_currentComponents_7 : decode cX11_currentComponents 7 = .ok (.aload_n 0, 1) := by decide +kernel
theorem dX11_currentComponents_8 : decode cX11_currentComponents 8 = .ok (.invokevirtual 141, 3) := by decide +kernel
theorem dX11_currentComponents_11 : decode cX11_currentComponents 11 = .ok (.astore_n 1, 1) := by decide +kernel
theorem dX11_currentComponents_12 : decode cX11_currentComponents 12 = .ok (.aload_n 0, 1) := by decide +kernel
theorem dX11_currentComponents_13 : decode cX11_currentComponents 13 = .ok (.getfield 62, 3) := by decide +kernel
theorem dX11_currentComponents_16 : decode cX11_currentComponents 16 = .ok (.aload_n 1, 1) := by decide +kernel
theorem dX11_currentComponents_17 : decode cX11_currentComponents 17 = .ok (.invokevirtual 323, 3) := by decide +kernel
theorem dX11_currentComponents_20 : decode cX11_currentComponents 20 = .ok (.aload_n 0, 1) := by decide +kernel
theorem dX11_currentComponents_21 : decode cX11_currentComponents 21 = .ok (.getfield 62, 3) := by decide +kernel
theorem dX11_currentComponents_24 : decode cX11_currentComponents 24 = .ok (.aload_n 1, 1) := by decide +kernel
theorem dX11_currentComponents_25 : decode cX11_currentComponents 25 = .ok (.invokevirtual 327, 3) := by decide +kernel
theorem dX11_currentComponents_28 : decode cX11_currentComponents 28 = .ok (.aload_n 0, 1) := by decide +kernel
theorem dX11_currentComponents_29 : decode cX11_currentComponents 29 = .ok (.iconst 1, 1) := by decide +kernel
theorem dX11_currentComponents_30 : decode cX11_currentComponents 30 = .ok (.putfield 311, 3) := by decide +kernel
theorem dX11_currentComponents_33 : decode cX11_currentComponents 33 = .ok (.aload_n 0, 1) := by decide +kernel
theorem dX11_currentComponents_34 : decode cX11_currentComponents 34 = .ok (.getfield 62, 3) := by decide +kernel
theorem dX11_currentComponents_37 : decode cX11_currentComponents 37 = .ok (.areturn, 1) := by decide +kernel
theorem dX11_currentClosure_0 : decode cX11_currentClosure 0 = .ok (.aload_n 0, 1) := by decide +kernel
theorem dX11_currentClosure_1 : decode cX11_currentClosure 1 = .ok (.getfield 314, 3) := by decide +kernel
theorem dX11_currentClosure_4 : decode cX11_currentClosure 4 = .ok (.ifCond .ne 19, 3) := by decide +kernel
theorem dX11_currentClosure_7 : decode cX11_currentClosure 7 = .ok (.aload_n 0, 1) := by decide +kernel
theorem dX11_currentClosure_8 : decode cX11_currentClosure 8 = .ok (.getfield 69, 3) := by decide +kernel
theorem dX11_currentClosure_11 : decode cX11_currentClosure 11 = .ok (.aload_n 0, 1) := by decide +kernel
theorem dX11_currentClosure_12 : decode cX11_currentClosure 12 = .ok (.invokevirtual 141, 3) := by decide +kernel
theorem dX11_currentClosure_15 : decode cX11_currentClosure 15 = .ok (.invokevirtual 329, 3) := by decide +kernel
theorem dX11_currentClosure_18 : decode cX11_currentClosure 18 = .ok (.aload_n 0, 1) := by decide +kernel
theorem dX11_currentClosure_19 : decode cX11_currentClosure 19 = .ok (.iconst 1, 1) := by decide +kernel
theorem dX11_currentClosure_20 : decode cX11_currentClosure 20 = .ok (.putfield 314, 3) := by decide +kernel
theorem dX11_currentClosure_23 : decode cX11_currentClosure 23 = .ok (.aload_n 0, 1) := by decide +kernel
theorem dX11_currentClosure_24 : decode cX11_currentClosure 24 = .ok (.getfield 69, 3) := by decide +kernel
theorem dX11_currentClosure_27 : decode cX11_currentClosure 27 = .ok (.areturn, 1) := by decide +kernel
theorem dX11_currentElimination_0 : decode cX11_currentElimination 0 = .ok (.aload_n 0, 1) := by decide +kernel
theorem dX11_currentElimination_1 : decode cX11_currentElimination 1 = .ok (.getfield 317, 3) := by decide +kernel
theorem dX11_currentElimination_4 : decode cX11_currentElimination 4 = .ok (.ifCond .ne 26, 3) := by decide +kernel
theorem dX11_currentElimination_7 : decode cX11_currentElimination 7 = .ok (.aload_n 0, 1) := by decide +kernel
theorem dX11_currentElimination_8 : decode cX11_currentElimination 8 = .ok (.getfield 76, 3) := by decide +kernel
theorem dX11_currentElimination_11 : decode cX11_currentElimination 11 = .ok (.aload_n 0, 1) := by decide +kernel
theorem dX11_currentElimination_12 : decode cX11_currentElimination 12 = .ok (.invokevirtual 141, 3) := by decide +kernel
theorem dX11_currentElimination_15 : decode cX11_currentElimination 15 = .ok (.aload_n 0, 1) := by decide +kernel
theorem dX11_currentElimination_16 : decode cX11_currentElimination 16 = .ok (.getfield 12, 3) := by decide +kernel
theorem dX11_currentElimination_19 : decode cX11_currentElimination 19 = .ok (.getfield 88, 3) := by decide +kernel
theorem dX11_currentElimination_22 : decode cX11_currentElimination 22 = .ok (.invokevirtual 330, 3) := by decide +kernel
theorem dX11_currentElimination_25 : decode cX11_currentElimination 25 = .ok (.aload_n 0, 1) := by decide +kernel
theorem dX11_currentElimination_26 : decode cX11_currentElimination 26 = .ok (.iconst 1, 1) := by decide +kernel
theorem dX11_currentElimination_27 : decode cX11_currentElimination 27 = .ok (.putfield 317, 3) := by decide +kernel
theorem dX11_currentElimination_30 : decode cX11_currentElimination 30 = .ok (.aload_n 0, 1) := by decide +kernel
theorem dX11_currentElimination_31 : decode cX11_currentElimination 31 = .ok (.getfield 76, 3) := by decide +kernel
theorem dX11_currentElimination_34 : decode cX11_currentElimination 34 = .ok (.areturn, 1) := by decide +kernel
theorem dX11_isRule_0 : decode cX11_isRule 0 = .ok (.aload_n 0, 1) := by decide +kernel
theorem dX11_isRule_1 : decode cX11_isRule 1 = .ok (.getfield 138, 3) := by decide +kernel
theorem dX11_isRule_4 : decode cX11_isRule 4 = .ok (.bipush 40, 2) := by decide +kernel
theorem dX11_isRule_6 : decode cX11_isRule 6 = .ok (.if_icmp .gt 31, 3) := by decide +kernel
theorem dX11_isRule_9 : decode cX11_isRule 9 = .ok (.aload_n 1, 1) := by decide +kernel
theorem dX11_isRule_10 : decode cX11_isRule 10 = .ok (.getfield 138, 3) := by decide +kernel
theorem dX11_isRule_13 : decode cX11_isRule 13 = .ok (.bipush 40, 2) := by decide +kernel
theorem dX11_isRule_15 : decode cX11_isRule 15 = .ok (.if_icmp .gt 22, 3) := by decide +kernel
theorem dX11_isRule_18 : decode cX11_isRule 18 = .ok (.aload_n 0, 1) := by decide +kernel
theorem dX11_isRule_19 : decode cX11_isRule 19 = .ok (.invokestatic 333, 3) := by decide +kernel
theorem dX11_isRule_22 : decode cX11_isRule 22 = .ok (.ifCond .eq 15, 3) := by decide +kernel
theorem dX11_isRule_25 : decode cX11_isRule 25 = .ok (.aload_n 0, 1) := by decide +kernel
theorem dX11_isRule_26 : decode cX11_isRule 26 = .ok (.aload_n 1, 1) := by decide +kernel
theorem dX11_isRule_27 : decode cX11_isRule 27 = .ok (.invokestatic 337, 3) := by decide +kernel
theorem dX11_isRule_30 : decode cX11_isRule 30 = .ok (.ifCond .eq 7, 3) := by decide +kernel
theorem dX11_isRule_33 : decode cX11_isRule 33 = .ok (.iconst 1, 1) := by decide +kernel
theorem dX11_isRule_34 : decode cX11_isRule 34 = .ok (.goto 4, 3) := by decide +kernel
theorem dX11_isRule_37 : decode cX11_isRule 37 = .ok (.iconst 0, 1) := by decide +kernel
theorem dX11_isRule_38 : decode cX11_isRule 38 = .ok (.ireturn, 1) := by decide +kernel
theorem dX11_isLeftSide_0 : decode cX11_isLeftSide 0 = .ok (.aload_n 0, 1) := by decide +kernel
theorem dX11_isLeftSide_1 : decode cX11_isLeftSide 1 = .ok (.iconst 0, 1) := by decide +kernel
theorem dX11_isLeftSide_2 : decode cX11_isLeftSide 2 = .ok (.invokevirtual 340, 3) := by decide +kernel
theorem dX11_isLeftSide_5 : decode cX11_isLeftSide 5 = .ok (.invokestatic 343, 3) := by decide +kernel
theorem dX11_isLeftSide_8 : decode cX11_isLeftSide 8 = .ok (.ifCond .ne 5, 3) := by decide +kernel
theorem dX11_isLeftSide_11 : decode cX11_isLeftSide 11 = .ok (.iconst 0, 1) := by decide +kernel
theorem dX11_isLeftSide_12 : decode cX11_isLeftSide 12 = .ok (.ireturn, 1) := by decide +kernel
theorem dX11_isLeftSide_13 : decode cX11_isLeftSide 13 = .ok (.iconst 1, 1) := by decide +kernel
theorem dX11_isLeftSide_14 : decode cX11_isLeftSide 14 = .ok (.istore_n 1, 1) := by decide +kernel
theorem dX11_isLeftSide_15 : decode cX11_isLeftSide 15 = .ok (.iload_n 1, 1) := by decide +kernel
theorem dX11_isLeftSide_16 : decode cX11_isLeftSide 16 = .ok (.aload_n 0, 1) := by decide +kernel
theorem dX11_isLeftSide_17 : decode cX11_isLeftSide 17 = .ok (.getfield 138, 3) := by decide +kernel
theorem dX11_isLeftSide_20 : decode cX11_isLeftSide 20 = .ok (.if_icmp .ge 22, 3) := by decide +kernel
theorem dX11_isLeftSide_23 : decode cX11_isLeftSide 23 = .ok (.aload_n 0, 1) := by decide +kernel
theorem dX11_isLeftSide_24 : decode cX11_isLeftSide 24 = .ok (.iload_n 1, 1) := by decide +kernel
theorem dX11_isLeftSide_25 : decode cX11_isLeftSide 25 = .ok (.invokevirtual 340, 3) := by decide +kernel
theorem dX11_isLeftSide_28 : decode cX11_isLeftSide 28 = .ok (.invokestatic 343, 3) := by decide +kernel
theorem dX11_isLeftSide_31 : decode cX11_isLeftSide 31 = .ok (.ifCond .eq 5, 3) := by decide +kernel
theorem dX11_isLeftSide_34 : decode cX11_isLeftSide 34 = .ok (.iconst 0, 1) := by decide +kernel
theorem dX11_isLeftSide_35 : decode cX11_isLeftSide 35 = .ok (.ireturn, 1) := by decide +kernel
theorem dX11_isLeftSide_36 : decode cX11_isLeftSide 36 = .ok (.iinc 1 1, 3) := by decide +kernel
theorem dX11_isLeftSide_39 : decode cX11_isLeftSide 39 = .ok (.goto (-24), 3) := by decide +kernel
theorem dX11_isLeftSide_42 : decode cX11_isLeftSide 42 = .ok (.iconst 1, 1) := by decide +kernel
theorem dX11_isLeftSide_43 : decode cX11_isLeftSide 43 = .ok (.ireturn, 1) := by decide +kernel
theorem dX11_bindsVariables_0 : decode cX11_bindsVariables 0 = .ok (.iconst 0, 1) := by decide +kernel
theorem dX11_bindsVariables_1 : decode cX11_bindsVariables 1 = .ok (.istore_n 2, 1) := by decide +kernel
theorem dX11_bindsVariables_2 : decode cX11_bindsVariables 2 = .ok (.iload_n 2, 1) := by decide +kernel
theorem dX11_bindsVariables_3 : decode cX11_bindsVariables 3 = .ok (.aload_n 1, 1) := by decide +kernel
theorem dX11_bindsVariables_4 : decode cX11_bindsVariables 4 = .ok (.getfield 138, 3) := by decide +kernel
theorem dX11_bindsVariables_7 : decode cX11_bindsVariables 7 = .ok (.if_icmp .ge 32, 3) := by decide +kernel
theorem dX11_bindsVariables_10 : decode cX11_bindsVariables 10 = .ok (.aload_n 1, 1) := by decide +kernel
theorem dX11_bindsVariables_11 : decode cX11_bindsVariables 11 = .ok (.iload_n 2, 1) := by decide +kernel
theorem dX11_bindsVariables_12 : decode cX11_bindsVariables 12 = .ok (.invokevirtual 340, 3) := by decide +kernel
theorem dX11_bindsVariables_15 : decode cX11_bindsVariables 15 = .ok (.istore_n 3, 1) := by decide +kernel
theorem dX11_bindsVariables_16 : decode cX11_bindsVariables 16 = .ok (.iload_n 3, 1) := by decide +kernel
theorem dX11_bindsVariables_17 : decode cX11_bindsVariables 17 = .ok (.invokestatic 346, 3) := by decide +kernel
theorem dX11_bindsVariables_20 : decode cX11_bindsVariables 20 = .ok (.ifCond .eq 13, 3) := by decide +kernel
theorem dX11_bindsVariables_23 : decode cX11_bindsVariables 23 = .ok (.aload_n 0, 1) := by decide +kernel
theorem dX11_bindsVariables_24 : decode cX11_bindsVariables 24 = .ok (.iload_n 3, 1) := by decide +kernel
theorem dX11_bindsVariables_25 : decode cX11_bindsVariables 25 = .ok (.invokevirtual 349, 3) := by decide +kernel
theorem dX11_bindsVariables_28 : decode cX11_bindsVariables 28 = .ok (.ifCond .ne 5, 3) := by decide +kernel
theorem dX11_bindsVariables_31 : decode cX11_bindsVariables 31 = .ok (.iconst 0, 1) := by decide +kernel
theorem dX11_bindsVariables_32 : decode cX11_bindsVariables 32 = .ok (.ireturn, 1) := by decide +kernel
theorem dX11_bindsVariables_33 : decode cX11_bindsVariables 33 = .ok (.iinc 2 1, 3) := by decide +kernel
theorem dX11_bindsVariables_36 : decode cX11_bindsVariables 36 = .ok (.goto (-34), 3) := by decide +kernel
theorem dX11_bindsVariables_39 : decode cX11_bindsVariables 39 = .ok (.iconst 1, 1) := by decide +kernel
theorem dX11_bindsVariables_40 : decode cX11_bindsVariables 40 = .ok (.ireturn, 1) := by decide +kernel
theorem dX11_isFunctionNumber_0 : decode cX11_isFunctionNumber 0 = .ok (.iload_n 0, 1) := by decide +kernel
theorem dX11_isFunctionNumber_1 : decode cX11_isFunctionNumber 1 = .ok (.ifCond .lt 12, 3) := by decide +kernel
theorem dX11_isFunctionNumber_4 : decode cX11_isFunctionNumber 4 = .ok (.iload_n 0, 1) := by decide +kernel
theorem dX11_isFunctionNumber_5 : decode cX11_isFunctionNumber 5 = .ok (.iconst 3, 1) := by decide +kernel
theorem dX11_isFunctionNumber_6 : decode cX11_isFunctionNumber 6 = .ok (.if_icmp .ge 7, 3) := by decide +kernel
theorem dX11_isFunctionNumber_9 : decode cX11_isFunctionNumber 9 = .ok (.iconst 1, 1) := by decide +kernel
theorem dX11_isFunctionNumber_10 : decode cX11_isFunctionNumber 10 = .ok (.goto 4, 3) := by decide +kernel
theorem dX11_isFunctionNumber_13 : decode cX11_isFunctionNumber 13 = .ok (.iconst 0, 1) := by decide +kernel
theorem dX11_isFunctionNumber_14 : decode cX11_isFunctionNumber 14 = .ok (.ireturn, 1) := by decide +kernel
theorem dX11_functionOfSymbol_0 : decode cX11_functionOfSymbol 0 = .ok (.iload_n 0, 1) := by decide +kernel
theorem dX11_functionOfSymbol_1 : decode cX11_functionOfSymbol 1 = .ok (.bipush 102, 2) := by decide +kernel
theorem dX11_functionOfSymbol_3 : decode cX11_functionOfSymbol 3 = .ok (.if_icmp .lt 16, 3) := by decide +kernel
theorem dX11_functionOfSymbol_6 : decode cX11_functionOfSymbol 6 = .ok (.iload_n 0, 1) := by decide +kernel
theorem dX11_functionOfSymbol_7 : decode cX11_functionOfSymbol 7 = .ok (.bipush 105, 2) := by decide +kernel
theorem dX11_functionOfSymbol_9 : decode cX11_functionOfSymbol 9 = .ok (.if_icmp .ge 10, 3) := by decide +kernel
theorem dX11_functionOfSymbol_12 : decode cX11_functionOfSymbol 12 = .ok (.iload_n 0, 1) := by decide +kernel
theorem dX11_functionOfSymbol_13 : decode cX11_functionOfSymbol 13 = .ok (.bipush 102, 2) := by decide +kernel
theorem dX11_functionOfSymbol_15 : decode cX11_functionOfSymbol 15 = .ok (.isub, 1) := by decide +kernel
theorem dX11_functionOfSymbol_16 : decode cX11_functionOfSymbol 16 = .ok (.goto 4, 3) := by decide +kernel
theorem dX11_functionOfSymbol_19 : decode cX11_functionOfSymbol 19 = .ok (.iconst (-1), 1) := by decide +kernel
theorem dX11_functionOfSymbol_20 : decode cX11_functionOfSymbol 20 = .ok (.ireturn, 1) := by decide +kernel
theorem dX11_symbolOfFunction_0 : decode cX11_symbolOfFunction 0 = .ok (.bipush 102, 2) := by decide +kernel
theorem dX11_symbolOfFunction_2 : decode cX11_symbolOfFunction 2 = .ok (.iload_n 0, 1) := by decide +kernel
theorem dX11_symbolOfFunction_3 : decode cX11_symbolOfFunction 3 = .ok (.iadd, 1) := by decide +kernel
theorem dX11_symbolOfFunction_4 : decode cX11_symbolOfFunction 4 = .ok (.ireturn, 1) := by decide +kernel
theorem dX11_variableNumber_0 : decode cX11_variableNumber 0 = .ok (.iload_n 0, 1) := by decide +kernel
theorem dX11_variableNumber_1 : decode cX11_variableNumber 1 = .ok (.tableswitch 33 119 121 #[31, 27, 29], 27) := by decide +kernel
theorem dX11_variableNumber_28 : decode cX11_variableNumber 28 = .ok (.iconst 0, 1) := by decide +kernel
theorem dX11_variableNumber_29 : decode cX11_variableNumber 29 = .ok (.ireturn, 1) := by decide +kernel
theorem dX11_variableNumber_30 : decode cX11_variableNumber 30 = .ok (.iconst 1, 1) := by decide +kernel
theorem dX11_variableNumber_31 : decode cX11_variableNumber 31 = .ok (.ireturn, 1) := by decide +kernel
theorem dX11_variableNumber_32 : decode cX11_variableNumber 32 = .ok (.iconst 2, 1) := by decide +kernel
theorem dX11_variableNumber_33 : decode cX11_variableNumber 33 = .ok (.ireturn, 1) := by decide +kernel
theorem dX11_variableNumber_34 : decode cX11_variableNumber 34 = .ok (.iconst (-1), 1) := by decide +kernel
theorem dX11_variableNumber_35 : decode cX11_variableNumber 35 = .ok (.ireturn, 1) := by decide +kernel
theorem dX11_isFunction_0 : decode cX11_isFunction 0 = .ok (.iload_n 0, 1) := by decide +kernel
theorem dX11_isFunction_1 : decode cX11_isFunction 1 = .ok (.invokestatic 352, 3) := by decide +kernel
theorem dX11_isFunction_4 : decode cX11_isFunction 4 = .ok (.ifCond .lt 7, 3) := by decide +kernel
theorem dX11_isFunction_7 : decode cX11_isFunction 7 = .ok (.iconst 1, 1) := by decide +kernel
theorem dX11_isFunction_8 : decode cX11_isFunction 8 = .ok (.goto 4, 3) := by decide +kernel
theorem dX11_isFunction_11 : decode cX11_isFunction 11 = .ok (.iconst 0, 1) := by decide +kernel
theorem dX11_isFunction_12 : decode cX11_isFunction 12 = .ok (.ireturn, 1) := by decide +kernel
theorem dX11_isVariable_0 : decode cX11_isVariable 0 = .ok (.iload_n 0, 1) := by decide +kernel
theorem dX11_isVariable_1 : decode cX11_isVariable 1 = .ok (.invokestatic 355, 3) := by decide +kernel
theorem dX11_isVariable_4 : decode cX11_isVariable 4 = .ok (.ifCond .lt 7, 3) := by decide +kernel
theorem dX11_isVariable_7 : decode cX11_isVariable 7 = .ok (.iconst 1, 1) := by decide +kernel
theorem dX11_isVariable_8 : decode cX11_isVariable 8 = .ok (.goto 4, 3) := by decide +kernel
theorem dX11_isVariable_11 : decode cX11_isVariable 11 = .ok (.iconst 0, 1) := by decide +kernel
theorem dX11_isVariable_12 : decode cX11_isVariable 12 = .ok (.ireturn, 1) := by decide +kernel
theorem dX11_isSymbol_0 : decode cX11_isSymbol 0 = .ok (.iload_n 0, 1) := by decide +kernel
theorem dX11_isSymbol_1 : decode cX11_isSymbol 1 = .ok (.invokestatic 343, 3) := by decide +kernel
theorem dX11_isSymbol_4 : decode cX11_isSymbol 4 = .ok (.ifCond .ne 28, 3) := by decide +kernel
theorem dX11_isSymbol_7 : decode cX11_isSymbol 7 = .ok (.iload_n 0, 1) := by decide +kernel
theorem dX11_isSymbol_8 : decode cX11_isSymbol 8 = .ok (.invokestatic 346, 3) := by decide +kernel
theorem dX11_isSymbol_11 : decode cX11_isSymbol 11 = .ok (.ifCond .ne 21, 3) := by decide +kernel
theorem dX11_isSymbol_14 : decode cX11_isSymbol 14 = .ok (.iload_n 0, 1) := by decide +kernel
theorem dX11_isSymbol_15 : decode cX11_isSymbol 15 = .ok (.bipush 122, 2) := by decide +kernel
theorem dX11_isSymbol_17 : decode cX11_isSymbol 17 = .ok (.if_icmp .eq 15, 3) := by decide +kernel
theorem dX11_isSymbol_20 : decode cX11_isSymbol 20 = .ok (.iload_n 0, 1) := by decide +kernel
theorem dX11_isSymbol_21 : decode cX11_isSymbol 21 = .ok (.bipush 115, 2) := by decide +kernel
theorem dX11_isSymbol_23 : decode cX11_isSymbol 23 = .ok (.if_icmp .eq 9, 3) := by decide +kernel
theorem dX11_isSymbol_26 : decode cX11_isSymbol 26 = .ok (.iload_n 0, 1) := by decide +kernel
theorem dX11_isSymbol_27 : decode cX11_isSymbol 27 = .ok (.bipush 99, 2) := by decide +kernel
theorem dX11_isSymbol_29 : decode cX11_isSymbol 29 = .ok (.if_icmp .ne 7, 3) := by decide +kernel
theorem dX11_isSymbol_32 : decode cX11_isSymbol 32 = .ok (.iconst 1, 1) := by decide +kernel
theorem dX11_isSymbol_33 : decode cX11_isSymbol 33 = .ok (.goto 4, 3) := by decide +kernel
theorem dX11_isSymbol_36 : decode cX11_isSymbol 36 = .ok (.iconst 0, 1) := by decide +kernel
theorem dX11_isSymbol_37 : decode cX11_isSymbol 37 = .ok (.ireturn, 1) := by decide +kernel
theorem dX11_emptyGraph_0 : decode cX11_emptyGraph 0 = .ok (.iload_n 0, 1) := by decide +kernel
theorem dX11_emptyGraph_1 : decode cX11_emptyGraph 1 = .ok (.bipush 18, 2) := by decide +kernel
theorem dX11_emptyGraph_3 : decode cX11_emptyGraph 3 = .ok (.ishl, 1) := by decide +kernel
theorem dX11_emptyGraph_4 : decode cX11_emptyGraph 4 = .ok (.iload_n 1, 1) := by decide +kernel
theorem dX11_emptyGraph_5 : decode cX11_emptyGraph 5 = .ok (.bipush 20, 2) := by decide +kernel
theorem dX11_emptyGraph_7 : decode cX11_emptyGraph 7 = .ok (.ishl, 1) := by decide +kernel
theorem dX11_emptyGraph_8 : decode cX11_emptyGraph 8 = .ok (.ior, 1) := by decide +kernel
theorem dX11_emptyGraph_9 : decode cX11_emptyGraph 9 = .ok (.ireturn, 1) := by decide +kernel
theorem dX11_withRelation_0 : decode cX11_withRelation 0 = .ok (.iload_n 0, 1) := by decide +kernel
theorem dX11_withRelation_1 : decode cX11_withRelation 1 = .ok (.iload_n 3, 1) := by decide +kernel
theorem dX11_withRelation_2 : decode cX11_withRelation 2 = .ok (.iconst 2, 1) := by decide +kernel
theorem dX11_withRelation_3 : decode cX11_withRelation 3 = .ok (.iconst 3, 1) := by decide +kernel
theorem dX11_withRelation_4 : decode cX11_withRelation 4 = .ok (.iload_n 1, 1) := by decide +kernel
theorem dX11_withRelation_5 : decode cX11_withRelation 5 = .ok (.imul, 1) := by decide +kernel
theorem dX11_withRelation_6 : decode cX11_withRelation 6 = .ok (.iload_n 2, 1) := by decide +kernel
theorem dX11_withRelation_7 : decode cX11_withRelation 7 = .ok (.iadd, 1) := by decide +kernel
theorem dX11_withRelation_8 : decode cX11_withRelation 8 = .ok (.imul, 1) := by decide +kernel
theorem dX11_withRelation_9 : decode cX11_withRelation 9 = .ok (.ishl, 1) := by decide +kernel
theorem dX11_withRelation_10 : decode cX11_withRelation 10 = .ok (.ior, 1) := by decide +kernel
theorem dX11_withRelation_11 : decode cX11_withRelation 11 = .ok (.ireturn, 1) := by decide +kernel
theorem dX11_relationIn_0 : decode cX11_relationIn 0 = .ok (.iload_n 0, 1) := by decide +kernel
theorem dX11_relationIn_1 : decode cX11_relationIn 1 = .ok (.iconst 2, 1) := by decide +kernel
theorem dX11_relationIn_2 : decode cX11_relationIn 2 = .ok (.iconst 3, 1) := by decide +kernel
theorem dX11_relationIn_3 : decode cX11_relationIn 3 = .ok (.iload_n 1, 1) := by decide +kernel
theorem dX11_relationIn_4 : decode cX11_relationIn 4 = .ok (.imul, 1) := by decide +kernel
theorem dX11_relationIn_5 : decode cX11_relationIn 5 = .ok (.iload_n 2, 1) := by decide +kernel
theorem dX11_relationIn_6 : decode cX11_relationIn 6 = .ok (.iadd, 1) := by decide +kernel
theorem dX11_relationIn_7 : decode cX11_relationIn 7 = .ok (.imul, 1) := by decide +kernel
theorem dX11_relationIn_8 : decode cX11_relationIn 8 = .ok (.ishr, 1) := by decide +kernel
theorem dX11_relationIn_9 : decode cX11_relationIn 9 = .ok (.iconst 3, 1) := by decide +kernel
theorem dX11_relationIn_10 : decode cX11_relationIn 10 = .ok (.iand, 1) := by decide +kernel
theorem dX11_relationIn_11 : decode cX11_relationIn 11 = .ok (.ireturn, 1) := by decide +kernel
theorem dX11_sourceOf_0 : decode cX11_sourceOf 0 = .ok (.iload_n 0, 1) := by decide +kernel
theorem dX11_sourceOf_1 : decode cX11_sourceOf 1 = .ok (.bipush 18, 2) := by decide +kernel
theorem dX11_sourceOf_3 : decode cX11_sourceOf 3 = .ok (.ishr, 1) := by decide +kernel
theorem dX11_sourceOf_4 : decode cX11_sourceOf 4 = .ok (.iconst 3, 1) := by decide +kernel
theorem dX11_sourceOf_5 : decode cX11_sourceOf 5 = .ok (.iand, 1) := by decide +kernel
theorem dX11_sourceOf_6 : decode cX11_sourceOf 6 = .ok (.ireturn, 1) := by decide +kernel
theorem dX11_targetOf_0 : decode cX11_targetOf 0 = .ok (.iload_n 0, 1) := by decide +kernel
theorem dX11_targetOf_1 : decode cX11_targetOf 1 = .ok (.bipush 20, 2) := by decide +kernel
theorem dX11_targetOf_3 : decode cX11_targetOf 3 = .ok (.ishr, 1) := by decide +kernel
theorem dX11_targetOf_4 : decode cX11_targetOf 4 = .ok (.iconst 3, 1) := by decide +kernel
theorem dX11_targetOf_5 : decode cX11_targetOf 5 = .ok (.iand, 1) := by decide +kernel
theorem dX11_targetOf_6 : decode cX11_targetOf 6 = .ok (.ireturn, 1) := by decide +kernel
theorem dX11_composed_0 : decode cX11_composed 0 = .ok (.iload_n 0, 1) := by decide +kernel
theorem dX11_composed_1 : decode cX11_composed 1 = .ok (.invokestatic 159, 3) := by decide +kernel
theorem dX11_composed_4 : decode cX11_composed 4 = .ok (.iload_n 1, 1) := by decide +kernel
theorem dX11_composed_5 : decode cX11_composed 5 = .ok (.invokestatic 162, 3) := by decide +kernel
theorem dX11_composed_8 : decode cX11_composed 8 = .ok (.invokestatic 358, 3) := by decide +kernel
theorem dX11_composed_11 : decode cX11_composed 11 = .ok (.istore_n 2, 1) := by decide +kernel
theorem dX11_composed_12 : decode cX11_composed 12 = .ok (.iconst 0, 1) := by decide +kernel
theorem dX11_composed_13 : decode cX11_composed 13 = .ok (.istore_n 3, 1) := by decide +kernel
theorem dX11_composed_14 : decode cX11_composed 14 = .ok (.iload_n 3, 1) := by decide +kernel
theorem dX11_composed_15 : decode cX11_composed 15 = .ok (.iconst 3, 1) := by decide +kernel
theorem dX11_composed_16 : decode cX11_composed 16 = .ok (.if_icmp .ge 77, 3) := by decide +kernel
theorem dX11_composed_19 : decode cX11_composed 19 = .ok (.iconst 0, 1) := by decide +kernel
theorem dX11_composed_20 : decode cX11_composed 20 = .ok (.istore 4, 2) := by decide +kernel
theorem dX11_composed_22 : decode cX11_composed 22 = .ok (.iload 4, 2) := by decide +kernel
theorem dX11_composed_24 : decode cX11_composed 24 = .ok (.iconst 3, 1) := by decide +kernel
theorem dX11_composed_25 : decode cX11_composed 25 = .ok (.if_icmp .ge 62, 3) := by decide +kernel
theorem dX11_composed_28 : decode cX11_composed 28 = .ok (.iconst 0, 1) := by decide +kernel
theorem dX11_composed_29 : decode cX11_composed 29 = .ok (.istore 5, 2) := by decide +kernel
theorem dX11_composed_31 : decode cX11_composed 31 = .ok (.iconst 0, 1) := by decide +kernel
theorem dX11_composed_32 : decode cX11_composed 32 = .ok (.istore 6, 2) := by decide +kernel
theorem dX11_composed_34 : decode cX11_composed 34 = .ok (.iload 6, 2) := by decide +kernel
theorem dX11_composed_36 : decode cX11_composed 36 = .ok (.iconst 3, 1) := by decide +kernel
theorem dX11_composed_37 : decode cX11_composed 37 = .ok (.if_icmp .ge 34, 3) := by decide +kernel
theorem dX11_composed_40 : decode cX11_composed 40 = .ok (.iload 5, 2) := by decide +kernel
theorem dX11_composed_42 : decode cX11_composed 42 = .ok (.iload_n 0, 1) := by decide +kernel
theorem dX11_composed_43 : decode cX11_composed 43 = .ok (.iload_n 3, 1) := by decide +kernel
theorem dX11_composed_44 : decode cX11_composed 44 = .ok (.iload 6, 2) := by decide +kernel
theorem dX11_composed_46 : decode cX11_composed 46 = .ok (.invokestatic 187, 3) := by decide +kernel
theorem dX11_composed_49 : decode cX11_composed 49 = .ok (.iload_n 1, 1) := by decide +kernel
theorem dX11_composed_50 : decode cX11_composed 50 = .ok (.iload 6, 2) := by decide +kernel
theorem dX11_composed_52 : decode cX11_composed 52 = .ok (.iload 4, 2) := by decide +kernel
theorem dX11_composed_54 : decode cX11_composed 54 = .ok (.invokestatic 187, 3) := by decide +kernel
theorem dX11_composed_57 : decode cX11_composed 57 = .ok (.invokestatic 362, 3) := by decide +kernel
theorem dX11_composed_60 : decode cX11_composed 60 = .ok (.invokestatic 365, 3) := by decide +kernel
theorem dX11_composed_63 : decode cX11_composed 63 = .ok (.istore 5, 2) := by decide +kernel
theorem dX11_composed_65 : decode cX11_composed 65 = .ok (.iinc 6 1, 3) := by decide +kernel
theorem dX11_composed_68 : decode cX11_composed 68 = .ok (.goto (-34), 3) := by decide +kernel
theorem dX11_composed_71 : decode cX11_composed 71 = .ok (.iload_n 2, 1) := by decide +kernel
theorem dX11_composed_72 : decode cX11_composed 72 = .ok (.iload_n 3, 1) := by decide +kernel
theorem dX11_composed_73 : decode cX11_composed 73 = .ok (.iload 4, 2) := by decide +kernel
theorem dX11_composed_75 : decode cX11_composed 75 = .ok (.iload 5, 2) := by decide +kernel
theorem dX11_composed_77 : decode cX11_composed 77 = .ok (.invokestatic 370, 3) := by decide +kernel
theorem dX11_composed_80 : decode cX11_composed 80 = .ok (.istore_n 2, 1) := by decide +kernel
theorem dX11_composed_81 : decode cX11_composed 81 = .ok (.iinc 4 1, 3) := by decide +kernel
theorem dX11_composed_84 : decode cX11_composed 84 = .ok (.goto (-62), 3) := by decide +kernel
theorem dX11_composed_87 : decode cX11_composed 87 = .ok (.iinc 3 1, 3) := by decide +kernel
theorem dX11_composed_90 : decode cX11_composed 90 = .ok (.goto (-76), 3) := by decide +kernel
theorem dX11_composed_93 : decode cX11_composed 93 = .ok (.iload_n 2, 1) := by decide +kernel
theorem dX11_composed_94 : decode cX11_composed 94 = .ok (.ireturn, 1) := by decide +kernel
theorem dX11_chained_0 : decode cX11_chained 0 = .ok (.iload_n 0, 1) := by decide +kernel
theorem dX11_chained_1 : decode cX11_chained 1 = .ok (.ifCond .eq 7, 3) := by decide +kernel
theorem dX11_chained_4 : decode cX11_chained 4 = .ok (.iload_n 1, 1) := by decide +kernel
theorem dX11_chained_5 : decode cX11_chained 5 = .ok (.ifCond .ne 7, 3) := by decide +kernel
theorem dX11_chained_8 : decode cX11_chained 8 = .ok (.iconst 0, 1) := by decide +kernel
theorem dX11_chained_9 : decode cX11_chained 9 = .ok (.goto 8, 3) := by decide +kernel
theorem dX11_chained_12 : decode cX11_chained 12 = .ok (.iload_n 0, 1) := by decide +kernel
theorem dX11_chained_13 : decode cX11_chained 13 = .ok (.iload_n 1, 1) := by decide +kernel
theorem dX11_chained_14 : decode cX11_chained 14 = .ok (.invokestatic 365, 3) := by decide +kernel
theorem dX11_chained_17 : decode cX11_chained 17 = .ok (.ireturn, 1) := by decide +kernel
theorem dX12_init_0 : decode cX12_init 0 = .ok (.aload_n 0, 1) := by decide +kernel
theorem dX12_init_1 : decode cX12_init 1 = .ok (.invokespecial 3, 3) := by decide +kernel
theorem dX12_init_4 : decode cX12_init 4 = .ok (.aload_n 0, 1) := by decide +kernel
theorem dX12_init_5 : decode cX12_init 5 = .ok (.iconst 3, 1) := by decide +kernel
theorem dX12_init_6 : decode cX12_init 6 = .ok (.newarray .int, 2) := by decide +kernel
theorem dX12_init_8 : decode cX12_init 8 = .ok (.putfield 9, 3) := by decide +kernel
theorem dX12_init_11 : decode cX12_init 11 = .ok (.aload_n 0, 1) := by decide +kernel
theorem dX12_init_12 : decode cX12_init 12 = .ok (.iconst 3, 1) := by decide +kernel
theorem dX12_init_13 : decode cX12_init 13 = .ok (.newarray .int, 2) := by decide +kernel
theorem dX12_init_15 : decode cX12_init 15 = .ok (.putfield 13, 3) := by decide +kernel
theorem dX12_init_18 : decode cX12_init 18 = .ok (.aload_n 0, 1) := by decide +kernel
theorem dX12_init_19 : decode cX12_init 19 = .ok (.sipush 1152, 3) := by decide +kernel
theorem dX12_init_22 : decode cX12_init 22 = .ok (.newarray .int, 2) := by decide +kernel
theorem dX12_init_24 : decode cX12_init 24 = .ok (.putfield 16, 3) := by decide +kernel
theorem dX12_init_27 : decode cX12_init 27 = .ok (.aload_n 0, 1) := by decide +kernel
theorem dX12_init_28 : decode cX12_init 28 = .ok (.sipush 1152, 3) := by decide +kernel
theorem dX12_init_31 : decode cX12_init 31 = .ok (.newarray .int, 2) := by decide +kernel
theorem dX12_init_33 : decode cX12_init 33 = .ok (.putfield 19, 3) := by decide +kernel
theorem dX12_init_36 : decode cX12_init 36 = .ok (.aload_n 0, 1) := by decide +kernel
theorem dX12_init_37 : decode cX12_init 37 = .ok (.sipush 384, 3) := by decide +kernel
theorem dX12_init_40 : decode cX12_init 40 = .ok (.newarray .int, 2) := by decide +kernel
theorem dX12_init_42 : decode cX12_init 42 = .ok (.putfield 22, 3) := by decide +kernel
theorem dX12_init_45 : decode cX12_init 45 = .ok (.aload_n 0, 1) := by decide +kernel
theorem dX12_init_46 : decode cX12_init 46 = .ok (.sipush 384, 3) := by decide +kernel
theorem dX12_init_49 : decode cX12_init 49 = .ok (.newarray .int, 2) := by decide +kernel
theorem dX12_init_51 : decode cX12_init 51 = .ok (.putfield 25, 3) := by decide +kernel
theorem dX12_init_54 : decode cX12_init 54 = .ok (.aload_n 0, 1) := by decide +kernel
theorem dX12_init_55 : decode cX12_init 55 = .ok (.iconst 3, 1) := by decide +kernel
theorem dX12_init_56 : decode cX12_init 56 = .ok (.newarray .int, 2) := by decide +kernel
theorem dX12_init_58 : decode cX12_init 58 = .ok (.putfield 28, 3) := by decide +kernel
theorem dX12_init_61 : decode cX12_init 61 = .ok (.aload_n 0, 1) := by decide +kernel
theorem dX12_init_62 : decode cX12_init 62 = .ok (.iconst 3, 1) := by decide +kernel
theorem dX12_init_63 : decode cX12_init 63 = .ok (.newarray .int, 2) := by decide +kernel
theorem dX12_init_65 : decode cX12_init 65 = .ok (.putfield 31, 3) := by decide +kernel
theorem dX12_init_68 : decode cX12_init 68 = .ok (.aload_n 0, 1) := by decide +kernel
theorem dX12_init_69 : decode cX12_init 69 = .ok (.bipush 96, 2) := by decide +kernel
theorem dX12_init_71 : decode cX12_init 71 = .ok (.newarray .int, 2) := by decide +kernel
theorem dX12_init_73 : decode cX12_init 73 = .ok (.putfield 34, 3) := by decide +kernel
theorem dX12_init_76 : decode cX12_init 76 = .ok (.aload_n 0, 1) := by decide +kernel
theorem dX12_init_77 : decode cX12_init 77 = .ok (.bipush 80, 2) := by decide +kernel
theorem dX12_init_79 : decode cX12_init 79 = .ok (.newarray .int, 2) := by decide +kernel
theorem dX12_init_81 : decode cX12_init 81 = .ok (.putfield 37, 3) := by decide +kernel
theorem dX12_init_84 : decode cX12_init 84 = .ok (.aload_n 0, 1) := by decide +kernel
theorem dX12_init_85 : decode cX12_init 85 = .ok (.bipush 96, 2) := by decide +kernel
theorem dX12_init_87 : decode cX12_init 87 = .ok (.newarray .int, 2) := by decide +kernel
theorem dX12_init_89 : decode cX12_init 89 = .ok (.putfield 40, 3) := by decide +kernel
theorem dX12_init_92 : decode cX12_init 92 = .ok (.aload_n 0, 1) := by decide +kernel
theorem dX12_init_93 : decode cX12_init 93 = .ok (.bipush 96, 2) := by decide +kernel
theorem dX12_init_95 : decode cX12_init 95 = .ok (.newarray .int, 2) := by decide +kernel
theorem dX12_init_97 : decode cX12_init 97 = .ok (.putfield 43, 3) := by decide +kernel
theorem dX12_init_100 : decode cX12_init 100 = .ok (.aload_n 0, 1) := by decide +kernel
theorem dX12_init_101 : decode cX12_init 101 = .ok (.sipush 240, 3) := by decide +kernel
theorem dX12_init_104 : decode cX12_init 104 = .ok (.newarray .int, 2) := by decide +kernel
theorem dX12_init_106 : decode cX12_init 106 = .ok (.putfield 46, 3) := by decide +kernel
theorem dX12_init_109 : decode cX12_init 109 = .ok (.aload_n 0, 1) := by decide +kernel
theorem dX12_init_110 : decode cX12_init 110 = .ok (.sipush 240, 3) := by decide +kernel
theorem dX12_init_113 : decode cX12_init 113 = .ok (.newarray .int, 2) := by decide +kernel
theorem dX12_init_115 : decode cX12_init 115 = .ok (.putfield 49, 3) := by decide +kernel
theorem dX12_init_118 : decode cX12_init 118 = .ok (.aload_n 0, 1) := by decide +kernel
theorem dX12_init_119 : decode cX12_init 119 = .ok (.sipush 960, 3) := by decide +kernel
theorem dX12_init_122 : decode cX12_init 122 = .ok (.newarray .long, 2) := by decide +kernel
theorem dX12_init_124 : decode cX12_init 124 = .ok (.putfield 52, 3) := by decide +kernel
theorem dX12_init_127 : decode cX12_init 127 = .ok (.aload_n 0, 1) := by decide +kernel
theorem dX12_init_128 : decode cX12_init 128 = .ok (.sipush 960, 3) := by decide +kernel
theorem dX12_init_131 : decode cX12_init 131 = .ok (.newarray .long, 2) := by decide +kernel
theorem dX12_init_133 : decode cX12_init 133 = .ok (.putfield 56, 3) := by decide +kernel
theorem dX12_init_136 : decode cX12_init 136 = .ok (.aload_n 0, 1) := by decide +kernel
theorem dX12_init_137 : decode cX12_init 137 = .ok (.sipush 240, 3) := by decide +kernel
theorem dX12_init_140 : decode cX12_init 140 = .ok (.newarray .boolean, 2) := by decide +kernel
theorem dX12_init_142 : decode cX12_init 142 = .ok (.putfield 59, 3) := by decide +kernel
theorem dX12_init_145 : decode cX12_init 145 = .ok (.aload_n 0, 1) := by decide +kernel
theorem dX12_init_146 : decode cX12_init 146 = .ok (.sipush 240, 3) := by decide +kernel
theorem dX12_init_149 : decode cX12_init 149 = .ok (.newarray .int, 2) := by decide +kernel
theorem dX12_init_151 : decode cX12_init 151 = .ok (.putfield 63, 3) := by decide +kernel
theorem dX12_init_154 : decode cX12_init 154 = .ok (.aload_n 0, 1) := by decide +kernel
theorem dX12_init_155 : decode cX12_init 155 = .ok (.sipush 401, 3) := by decide +kernel
theorem dX12_init_158 : decode cX12_init 158 = .ok (.newarray .int, 2) := by decide +kernel
theorem dX12_init_160 : decode cX12_init 160 = .ok (.putfield 66, 3) := by decide +kernel
theorem dX12_init_163 : decode cX12_init 163 = .ok (.aload_n 0, 1) := by decide +kernel
theorem dX12_init_164 : decode cX12_init 164 = .ok (.bipush 9, 2) := by decide +kernel
theorem dX12_init_166 : decode cX12_init 166 = .ok (.newarray .int, 2) := by decide +kernel
theorem dX12_init_168 : decode cX12_init 168 = .ok (.putfield 69, 3) := by decide +kernel
theorem dX12_init_171 : decode cX12_init 171 = .ok (.aload_n 0, 1) := by decide +kernel
theorem dX12_init_172 : decode cX12_init 172 = .ok (.bipush 9, 2) := by decide +kernel
theorem dX12_init_174 : decode cX12_init 174 = .ok (.newarray .int, 2) := by decide +kernel
theorem dX12_init_176 : decode cX12_init 176 = .ok (.putfield 72, 3) := by decide +kernel
theorem dX12_init_179 : decode cX12_init 179 = .ok (.aload_n 0, 1) := by decide +kernel
theorem dX12_init_180 : decode cX12_init 180 = .ok (.ldc 75, 2) := by decide +kernel
theorem dX12_init_182 : decode cX12_init 182 = .ok (.newarray .boolean, 2) := by decide +kernel
theorem dX12_init_184 : decode cX12_init 184 = .ok (.putfield 76, 3) := by decide +kernel
theorem dX12_init_187 : decode cX12_init 187 = .ok (.aload_n 0, 1) := by decide +kernel
theorem dX12_init_188 : decode cX12_init 188 = .ok (.bipush 9, 2) := by decide +kernel
theorem dX12_init_190 : decode cX12_init 190 = .ok (.newarray .int, 2) := by decide +kernel
theorem dX12_init_192 : decode cX12_init 192 = .ok (.putfield 79, 3) := by decide +kernel
theorem dX12_init_195 : decode cX12_init 195 = .ok (.aload_n 0, 1) := by decide +kernel
theorem dX12_init_196 : decode cX12_init 196 = .ok (.iconst 3, 1) := by decide +kernel
theorem dX12_init_197 : decode cX12_init 197 = .ok (.newarray .int, 2) := by decide +kernel
theorem dX12_init_199 : decode cX12_init 199 = .ok (.putfield 82, 3) := by decide +kernel
theorem dX12_init_202 : decode cX12_init 202 = .ok (.aload_n 0, 1) := by decide +kernel
theorem dX12_init_203 : decode cX12_init 203 = .ok (.iconst 3, 1) := by decide +kernel
theorem dX12_init_204 : decode cX12_init 204 = .ok (.newarray .boolean, 2) := by decide +kernel
theorem dX12_init_206 : decode cX12_init 206 = .ok (.putfield 85, 3) := by decide +kernel
theorem dX12_init_209 : decode cX12_init 209 = .ok (.aload_n 0, 1) := by decide +kernel
theorem dX12_init_210 : decode cX12_init 210 = .ok (.sipush 240, 3) := by decide +kernel
theorem dX12_init_213 : decode cX12_init 213 = .ok (.newarray .boolean, 2) := by decide +kernel
theorem dX12_init_215 : decode cX12_init 215 = .ok (.putfield 88, 3) := by decide +kernel
theorem dX12_init_218 : decode cX12_init 218 = .ok (.aload_n 0, 1) := by decide +kernel
theorem dX12_init_219 : decode cX12_init 219 = .ok (.sipush 160, 3) := by decide +kernel
theorem dX12_init_222 : decode cX12_init 222 = .ok (.newarray .int, 2) := by decide +kernel
theorem dX12_init_224 : decode cX12_init 224 = .ok (.putfield 91, 3) := by decide +kernel
theorem dX12_init_227 : decode cX12_init 227 = .ok (.aload_n 0, 1) := by decide +kernel
theorem dX12_init_228 : decode cX12_init 228 = .ok (.ldc 94, 2) := by decide +kernel
theorem dX12_init_230 : decode cX12_init 230 = .ok (.newarray .int, 2) := by decide +kernel
theorem dX12_init_232 : decode cX12_init 232 = .ok (.putfield 95, 3) := by decide +kernel
theorem dX12_init_235 : decode cX12_init 235 = .ok (.aload_n 0, 1) := by decide +kernel
theorem dX12_init_236 : decode cX12_init 236 = .ok (.sipush 1201, 3) := by decide +kernel
theorem dX12_init_239 : decode cX12_init 239 = .ok (.newarray .boolean, 2) := by decide +kernel
theorem dX12_init_241 : decode cX12_init 241 = .ok (.putfield 98, 3) := by decide +kernel
theorem dX12_init_244 : decode cX12_init 244 = .ok (.aload_n 0, 1) := by decide +kernel
theorem dX12_init_245 : decode cX12_init 245 = .ok (.getfield 9, 3) := by decide +kernel
theorem dX12_init_248 : decode cX12_init 248 = .ok (.iconst 0, 1) := by decide +kernel
theorem dX12_init_249 : decode cX12_init 249 = .ok (.iconst 2, 1) := by decide +kernel
theorem dX12_init_250 : decode cX12_init 250 = .ok (.iastore, 1) := by decide +kernel
theorem dX12_init_251 : decode cX12_init 251 = .ok (.aload_n 0, 1) := by decide +kernel
theorem dX12_init_252 : decode cX12_init 252 = .ok (.getfield 9, 3) := by decide +kernel
theorem dX12_init_255 : decode cX12_init 255 = .ok (.iconst 1, 1) := by decide +kernel
theorem dX12_init_256 : decode cX12_init 256 = .ok (.iconst 2, 1) := by decide +kernel
theorem dX12_init_257 : decode cX12_init 257 = .ok (.iastore, 1) := by decide +kernel
theorem dX12_init_258 : decode cX12_init 258 = .ok (.aload_n 0, 1) := by decide +kernel
theorem dX12_init_259 : decode cX12_init 259 = .ok (.getfield 9, 3) := by decide +kernel
theorem dX12_init_262 : decode cX12_init 262 = .ok (.iconst 2, 1) := by decide +kernel
theorem dX12_init_263 : decode cX12_init 263 = .ok (.iconst 1, 1) := by decide +kernel
theorem dX12_init_264 : decode cX12_init 264 = .ok (.iastore, 1) := by decide +kernel
theorem dX12_init_265 : decode cX12_init 265 = .ok (.iconst 0, 1) := by decide +kernel
theorem dX12_init_266 : decode cX12_init 266 = .ok (.istore_n 1, 1) := by decide +kernel
theorem dX12_init_267 : decode cX12_init 267 = .ok (.iload_n 1, 1) := by decide +kernel
theorem dX12_init_268 : decode cX12_init 268 = .ok (.iconst 4, 1) := by decide +kernel
theorem dX12_init_269 : decode cX12_init 269 = .ok (.if_icmp .ge 14, 3) := by decide +kernel
theorem dX12_init_272 : decode cX12_init 272 = .ok (.aload_n 0, 1) := by decide +kernel
theorem dX12_init_273 : decode cX12_init 273 = .ok (.iload_n 1, 1) := by decide +kernel
theorem dX12_init_274 : decode cX12_init 274 = .ok (.invokevirtual 101, 3) := by decide +kernel
theorem dX12_init_277 : decode cX12_init 277 = .ok (.iinc 1 1, 3) := by decide +kernel
theorem dX12_init_280 : decode cX12_init 280 = .ok (.goto (-13), 3) := by decide +kernel
theorem dX12_init_283 : decode cX12_init 283 = .ok (.return_, 1) := by decide +kernel
theorem dX12_setToZ_0 : decode cX12_setToZ 0 = .ok (.aload_n 0, 1) := by decide +kernel
theorem dX12_setToZ_1 : decode cX12_setToZ 1 = .ok (.getfield 22, 3) := by decide +kernel
theorem dX12_setToZ_4 : decode cX12_setToZ 4 = .ok (.bipush 96, 2) := by decide +kernel
theorem dX12_setToZ_6 : decode cX12_setToZ 6 = .ok (.iload_n 1, 1) := by decide +kernel
theorem dX12_setToZ_7 : decode cX12_setToZ 7 = .ok (.imul, 1) := by decide +kernel
theorem dX12_setToZ_8 : decode cX12_setToZ 8 = .ok (.iconst 1, 1) := by decide +kernel
theorem dX12_setToZ_9 : decode cX12_setToZ 9 = .ok (.iastore, 1) := by decide +kernel
theorem dX12_setToZ_10 : decode cX12_setToZ 10 = .ok (.aload_n 0, 1) := by decide +kernel
theorem dX12_setToZ_11 : decode cX12_setToZ 11 = .ok (.getfield 22, 3) := by decide +kernel
theorem dX12_setToZ_14 : decode cX12_setToZ 14 = .ok (.bipush 96, 2) := by decide +kernel
theorem dX12_setToZ_16 : decode cX12_setToZ 16 = .ok (.iload_n 1, 1) := by decide +kernel
theorem dX12_setToZ_17 : decode cX12_setToZ 17 = .ok (.imul, 1) := by decide +kernel
theorem dX12_setToZ_18 : decode cX12_setToZ 18 = .ok (.iconst 1, 1) := by decide +kernel
theorem dX12_setToZ_19 : decode cX12_setToZ 19 = .ok (.iadd, 1) := by decide +kernel
theorem dX12_setToZ_20 : decode cX12_setToZ 20 = .ok (.bipush 122, 2) := by decide +kernel
theorem dX12_setToZ_22 : decode cX12_setToZ 22 = .ok (.iastore, 1) := by decide +kernel
theorem dX12_setToZ_23 : decode cX12_setToZ 23 = .ok (.return_, 1) := by decide +kernel
theorem dX12_isIn_0 : decode cX12_isIn 0 = .ok (.iload_n 0, 1) := by decide +kernel
theorem dX12_isIn_1 : decode cX12_isIn 1 = .ok (.iload_n 1, 1) := by decide +kernel
theorem dX12_isIn_2 : decode cX12_isIn 2 = .ok (.if_icmp .lt 12, 3) := by decide +kernel
theorem dX12_isIn_5 : decode cX12_isIn 5 = .ok (.iload_n 0, 1) := by decide +kernel
theorem dX12_isIn_6 : decode cX12_isIn 6 = .ok (.iload_n 2, 1) := by decide +kernel
theorem dX12_isIn_7 : decode cX12_isIn 7 = .ok (.if_icmp .gt 7, 3) := by decide +kernel
theorem dX12_isIn_10 : decode cX12_isIn 10 = .ok (.iconst 1, 1) := by decide +kernel
theorem dX12_isIn_11 : decode cX12_isIn 11 = .ok (.goto 4, 3) := by decide +kernel
theorem dX12_isIn_14 : decode cX12_isIn 14 = .ok (.iconst 0, 1) := by decide +kernel
theorem dX12_isIn_15 : decode cX12_isIn 15 = .ok (.ireturn, 1) := by decide +kernel
theorem dX12_copy_0 : decode cX12_copy 0 = .ok (.iconst 0, 1) := by decide +kernel
theorem dX12_copy_1 : decode cX12_copy 1 = .ok (.istore 5, 2) := by decide +kernel
theorem dX12_copy_3 : decode cX12_copy 3 = .ok (.iload 5, 2) := by decide +kernel
theorem dX12_copy_5 : decode cX12_copy 5 = .ok (.iload 4, 2) := by decide +kernel
theorem dX12_copy_7 : decode cX12_copy 7 = .ok (.if_icmp .ge 21, 3) := by decide +kernel
theorem dX12_copy_10 : decode cX12_copy 10 = .ok (.aload_n 2, 1) := by decide +kernel
theorem dX12_copy_11 : decode cX12_copy 11 = .ok (.iload_n 3, 1) := by decide +kernel
theorem dX12_copy_12 : decode cX12_copy 12 = .ok (.iload 5, 2) := by decide +kernel
theorem dX12_copy_14 : decode cX12_copy 14 = .ok (.iadd, 1) := by decide +kernel
theorem dX12_copy_15 : decode cX12_copy 15 = .ok (.aload_n 0, 1) := by decide +kernel
theorem dX12_copy_16 : decode cX12_copy 16 = .ok (.iload_n 1, 1) := by decide +kernel
theorem dX12_copy_17 : decode cX12_copy 17 = .ok (.iload 5, 2) := by decide +kernel
theorem dX12_copy_19 : decode cX12_copy 19 = .ok (.iadd, 1) := by decide +kernel
theorem dX12_copy_20 : decode cX12_copy 20 = .ok (.iaload, 1) := by decide +kernel
theorem dX12_copy_21 : decode cX12_copy 21 = .ok (.iastore, 1) := by decide +kernel
theorem dX12_copy_22 : decode cX12_copy 22 = .ok (.iinc 5 1, 3) := by decide +kernel
theorem dX12_copy_25 : decode cX12_copy 25 = .ok (.goto (-22), 3) := by decide +kernel
theorem dX12_copy_28 : decode cX12_copy 28 = .ok (.return_, 1) := by decide +kernel
theorem dX12_isFunction_0 : decode cX12_isFunction 0 = .ok (.iload_n 0, 1) := by decide +kernel
theorem dX12_isFunction_1 : decode cX12_isFunction 1 = .ok (.bipush 102, 2) := by decide +kernel
theorem dX12_isFunction_3 : decode cX12_isFunction 3 = .ok (.bipush 104, 2) := by decide +kernel
theorem dX12_isFunction_5 : decode cX12_isFunction 5 = .ok (.invokestatic 105, 3) := by decide +kernel
theorem dX12_isFunction_8 : decode cX12_isFunction 8 = .ok (.ireturn, 1) := by decide +kernel
theorem dX12_isVariable_0 : decode cX12_isVariable 0 = .ok (.iload_n 0, 1) := by decide +kernel
theorem dX12_isVariable_1 : decode cX12_isVariable 1 = .ok (.bipush 120, 2) := by decide +kernel
theorem dX12_isVariable_3 : decode cX12_isVariable 3 = .ok (.if_icmp .eq 15, 3) := by decide +kernel
theorem dX12_isVariable_6 : decode cX12_isVariable 6 = .ok (.iload_n 0, 1) := by decide +kernel
theorem dX12_isVariable_7 : decode cX12_isVariable 7 = .ok (.bipush 121, 2) := by decide +kernel
theorem dX12_isVariable_9 : decode cX12_isVariable 9 = .ok (.if_icmp .eq 9, 3) := by decide +kernel
theorem dX12_isVariable_12 : decode cX12_isVariable 12 = .ok (.iload_n 0, 1) := by decide +kernel
theorem dX12_isVariable_13 : decode cX12_isVariable 13 = .ok (.bipush 119, 2) := by decide +kernel
theorem dX12_isVariable_15 : decode cX12_isVariable 15 = .ok (.if_icmp .ne 7, 3) := by decide +kernel
theorem dX12_isVariable_18 : decode cX12_isVariable 18 = .ok (.iconst 1, 1) := by decide +kernel
theorem dX12_isVariable_19 : decode cX12_isVariable 19 = .ok (.goto 4, 3) := by decide +kernel
theorem dX12_isVariable_22 : decode cX12_isVariable 22 = .ok (.iconst 0, 1) := by decide +kernel
theorem dX12_isVariable_23 : decode cX12_isVariable 23 = .ok (.ireturn, 1) := by decide +kernel
theorem dX12_arityOf_0 : decode cX12_arityOf 0 = .ok (.iload_n 1, 1) := by decide +kernel
theorem dX12_arityOf_1 : decode cX12_arityOf 1 = .ok (.invokestatic 109, 3) := by decide +kernel
theorem dX12_arityOf_4 : decode cX12_arityOf 4 = .ok (.ifCond .eq 15, 3) := by decide +kernel
theorem dX12_arityOf_7 : decode cX12_arityOf 7 = .ok (.aload_n 0, 1) := by decide +kernel
theorem dX12_arityOf_8 : decode cX12_arityOf 8 = .ok (.getfield 9, 3) := by decide +kernel
theorem dX12_arityOf_11 : decode cX12_arityOf 11 = .ok (.iload_n 1, 1) := by decide +kernel
theorem dX12_arityOf_12 : decode cX12_arityOf 12 = .ok (.bipush 102, 2) := by decide +kernel
theorem dX12_arityOf_14 : decode cX12_arityOf 14 = .ok (.isub, 1) := by decide +kernel
theorem dX12_arityOf_15 : decode cX12_arityOf 15 = .ok (.iaload, 1) := by decide +kernel
theorem dX12_arityOf_16 : decode cX12_arityOf 16 = .ok (.goto 24, 3) := by decide +kernel
theorem dX12_arityOf_19 : decode cX12_arityOf 19 = .ok (.iload_n 1, 1) := by decide +kernel
theorem dX12_arityOf_20 : decode cX12_arityOf 20 = .ok (.bipush 115, 2) := by decide +kernel
theorem dX12_arityOf_22 : decode cX12_arityOf 22 = .ok (.if_icmp .ne 7, 3) := by decide +kernel
theorem dX12_arityOf_25 : decode cX12_arityOf 25 = .ok (.iconst 1, 1) := by decide +kernel
theorem dX12_arityOf_26 : decode cX12_arityOf 26 = .ok (.goto 14, 3) := by decide +kernel
theorem dX12_arityOf_29 : decode cX12_arityOf 29 = .ok (.iload_n 1, 1) := by decide +kernel
theorem dX12_arityOf_30 : decode cX12_arityOf 30 = .ok (.bipush 99, 2) := by decide +kernel
theorem dX12_arityOf_32 : decode cX12_arityOf 32 = .ok (.if_icmp .ne 7, 3) := by decide +kernel
theorem dX12_arityOf_35 : decode cX12_arityOf 35 = .ok (.iconst 2, 1) := by decide +kernel
theorem dX12_arityOf_36 : decode cX12_arityOf 36 = .ok (.goto 4, 3) := by decide +kernel
theorem dX12_arityOf_39 : decode cX12_arityOf 39 = .ok (.iconst 0, 1) := by decide +kernel
theorem dX12_arityOf_40 : decode cX12_arityOf 40 = .ok (.ireturn, 1) := by decide +kernel
theorem dX12_end_0 : decode cX12_end 0 = .ok (.iconst 1, 1) := by decide +kernel
theorem dX12_end_1 : decode cX12_end 1 = .ok (.istore_n 3, 1) := by decide +kernel
theorem dX12_end_2 : decode cX12_end 2 = .ok (.iload_n 2, 1) := by decide +kernel
theorem dX12_end_3 : decode cX12_end 3 = .ok (.istore 4, 2) := by decide +kernel
theorem dX12_end_5 : decode cX12_end 5 = .ok (.iload_n 3, 1) := by decide +kernel
theorem dX12_end_6 : decode cX12_end 6 = .ok (.ifCond .le 22, 3) := by decide +kernel
theorem dX12_end_9 : decode cX12_end 9 = .ok (.iload_n 3, 1) := by decide +kernel
theorem dX12_end_10 : decode cX12_end 10 = .ok (.aload_n 0, 1) := by decide +kernel
theorem dX12_end_11 : decode cX12_end 11 = .ok (.aload_n 1, 1) := by decide +kernel
theorem dX12_end_12 : decode cX12_end 12 = .ok (.iload 4, 2) := by decide +kernel
theorem dX12_end_14 : decode cX12_end 14 = .ok (.iaload, 1) := by decide +kernel
theorem dX12_end_15 : decode cX12_end 15 = .ok (.invokevirtual 113, 3) := by decide +kernel
theorem dX12_end_18 : decode cX12_end 18 = .ok (.iconst 1, 1) := by decide +kernel
theorem dX12_end_19 : decode cX12_end 19 = .ok (.isub, 1) := by decide +kernel
theorem dX12_end_20 : decode cX12_end 20 = .ok (.iadd, 1) := by decide +kernel
theorem dX12_end_21 : decode cX12_end 21 = .ok (.istore_n 3, 1) := by decide +kernel
theorem dX12_end_22 : decode cX12_end 22 = .ok (.iinc 4 1, 3) := by decide +kernel
theorem dX12_end_25 : decode cX12_end 25 = .ok (.goto (-20), 3) := by decide +kernel
theorem dX12_end_28 : decode cX12_end 28 = .ok (.iload 4, 2) := by decide +kernel
theorem dX12_end_30 : decode cX12_end 30 = .ok (.ireturn, 1) := by decide +kernel
theorem dX12_argument_0 : decode cX12_argument 0 = .ok (.iload_n 2, 1) := by decide +kernel
theorem dX12_argument_1 : decode cX12_argument 1 = .ok (.iconst 1, 1) := by decide +kernel
theorem dX12_argument_2 : decode cX12_argument 2 = .ok (.iadd, 1) := by decide +kernel
theorem dX12_argument_3 : decode cX12_argument 3 = .ok (.istore 4, 2) := by decide +kernel
theorem dX12_argument_5 : decode cX12_argument 5 = .ok (.iconst 0, 1) := by decide +kernel
theorem dX12_argument_6 : decode cX12_argument 6 = .ok (.istore 5, 2) := by decide +kernel
theorem dX12_argument_8 : decode cX12_argument 8 = .ok (.iload 5, 2) := by decide +kernel
theorem dX12_argument_10 : decode cX12_argument 10 = .ok (.iload_n 3, 1) := by decide +kernel
theorem dX12_argument_11 : decode cX12_argument 11 = .ok (.if_icmp .ge 18, 3) := by decide +kernel
theorem dX12_argument_14 : decode cX12_argument 14 = .ok (.aload_n 0, 1) := by decide +kernel
theorem dX12_argument_15 : decode cX12_argument 15 = .ok (.aload_n 1, 1) := by decide +kernel
theorem dX12_argument_16 : decode cX12_argument 16 = .ok (.iload 4, 2) := by decide +kernel
theorem dX12_argument_18 : decode cX12_argument 18 = .ok (.invokevirtual 117, 3) := by decide +kernel
theorem dX12_argument_21 : decode cX12_argument 21 = .ok (.istore 4, 2) := by decide +kernel
theorem dX12_argument_23 : decode cX12_argument 23 = .ok (.iinc 5 1, 3) := by decide +kernel
theorem dX12_argument_26 : decode cX12_argument 26 = .ok (.goto (-18), 3) := by decide +kernel
theorem dX12_argument_29 : decode cX12_argument 29 = .ok (.iload 4, 2) := by decide +kernel
theorem dX12_argument_31 : decode cX12_argument 31 = .ok (.ireturn, 1) := by decide +kernel
theorem dX12_areEqual_0 : decode cX12_areEqual 0 = .ok (.iconst 1, 1) := by decide +kernel
theorem dX12_areEqual_1 : decode cX12_areEqual 1 = .ok (.istore 5, 2) := by decide +kernel
theorem dX12_areEqual_3 : decode cX12_areEqual 3 = .ok (.iconst 0, 1) := by decide +kernel
theorem dX12_areEqual_4 : decode cX12_areEqual 4 = .ok (.istore 6, 2) := by decide +kernel
theorem dX12_areEqual_6 : decode cX12_areEqual 6 = .ok (.iload 6, 2) := by decide +kernel
theorem dX12_areEqual_8 : decode cX12_areEqual 8 = .ok (.iload 4, 2) := by decide +kernel
theorem dX12_areEqual_10 : decode cX12_areEqual 10 = .ok (.if_icmp .ge 36, 3) := by decide +kernel
theorem dX12_areEqual_13 : decode cX12_areEqual 13 = .ok (.iload 5, 2) := by decide +kernel
theorem dX12_areEqual_15 : decode cX12_areEqual 15 = .ok (.ifCond .eq 31, 3) := by decide +kernel
theorem dX12_areEqual_18 : decode cX12_areEqual 18 = .ok (.aload_n 0, 1) := by decide +kernel
theorem dX12_areEqual_19 : decode cX12_areEqual 19 = .ok (.iload_n 1, 1) := by decide +kernel
theorem dX12_areEqual_20 : decode cX12_areEqual 20 = .ok (.iload 6, 2) := by decide +kernel
theorem dX12_areEqual_22 : decode cX12_areEqual 22 = .ok (.iadd, 1) := by decide +kernel
theorem dX12_areEqual_23 : decode cX12_areEqual 23 = .ok (.iaload, 1) := by decide +kernel
theorem dX12_areEqual_24 : decode cX12_areEqual 24 = .ok (.aload_n 2, 1) := by decide +kernel
theorem dX12_areEqual_25 : decode cX12_areEqual 25 = .ok (.iload_n 3, 1) := by decide +kernel
theorem dX12_areEqual_26 : decode cX12_areEqual 26 = .ok (.iload 6, 2) := by decide +kernel
theorem dX12_areEqual_28 : decode cX12_areEqual 28 = .ok (.iadd, 1) := by decide +kernel
theorem dX12_areEqual_29 : decode cX12_areEqual 29 = .ok (.iaload, 1) := by decide +kernel
theorem dX12_areEqual_30 : decode cX12_areEqual 30 = .ok (.if_icmp .ne 7, 3) := by decide +kernel
theorem dX12_areEqual_33 : decode cX12_areEqual 33 = .ok (.iconst 1, 1) := by decide +kernel
theorem dX12_areEqual_34 : decode cX12_areEqual 34 = .ok (.goto 4, 3) := by decide +kernel
theorem dX12_areEqual_37 : decode cX12_areEqual 37 = .ok (.iconst 0, 1) := by decide +kernel
theorem dX12_areEqual_38 : decode cX12_areEqual 38 = .ok (.istore 5, 2) := by decide +kernel
theorem dX12_areEqual_40 : decode cX12_areEqual 40 = .ok (.iinc 6 1, 3) := by decide +kernel
theorem dX12_areEqual_43 : decode cX12_areEqual 43 = .ok (.goto (-37), 3) := by decide +kernel
theorem dX12_areEqual_46 : decode cX12_areEqual 46 = .ok (.iload 5, 2) := by decide +kernel
theorem dX12_areEqual_48 : decode cX12_areEqual 48 = .ok (.ireturn, 1) := by decide +kernel
theorem dX12_compare_0 : decode cX12_compare 0 = .ok (.aload_n 0, 1) := by decide +kernel
theorem dX12_compare_1 : decode cX12_compare 1 = .ok (.iload_n 1, 1) := by decide +kernel
theorem dX12_compare_2 : decode cX12_compare 2 = .ok (.iaload, 1) := by decide +kernel
theorem dX12_compare_3 : decode cX12_compare 3 = .ok (.aload_n 2, 1) := by decide +kernel
theorem dX12_compare_4 : decode cX12_compare 4 = .ok (.iload_n 3, 1) := by decide +kernel
theorem dX12_compare_5 : decode cX12_compare 5 = .ok (.iaload, 1) := by decide +kernel
theorem dX12_compare_6 : decode cX12_compare 6 = .ok (.if_icmp .eq 11, 3) := by decide +kernel
theorem dX12_compare_9 : decode cX12_compare 9 = .ok (.aload_n 0, 1) := by decide +kernel
theorem dX12_compare_10 : decode cX12_compare 10 = .ok (.iload_n 1, 1) := by decide +kernel
theorem dX12_compare_11 : decode cX12_compare 11 = .ok (.iaload, 1) := by decide +kernel
theorem dX12_compare_12 : decode cX12_compare 12 = .ok (.aload_n 2, 1) := by decide +kernel
theorem dX12_compare_13 : decode cX12_compare 13 = .ok (.iload_n 3, 1) := by decide +kernel
theorem dX12_compare_14 : decode cX12_compare 14 = .ok (.iaload, 1) := by decide +kernel
theorem dX12_compare_15 : decode cX12_compare 15 = .ok (.isub, 1) := by decide +kernel
theorem dX12_compare_16 : decode cX12_compare 16 = .ok (.ireturn, 1) := by decide +kernel
theorem dX12_compare_17 : decode cX12_compare 17 = .ok (.iconst 1, 1) := by decide +kernel
theorem dX12_compare_18 : decode cX12_compare 18 = .ok (.istore 4, 2) := by decide +kernel
theorem dX12_compare_20 : decode cX12_compare 20 = .ok (.iload 4, 2) := by decide +kernel
theorem dX12_compare_22 : decode cX12_compare 22 = .ok (.aload_n 0, 1) := by decide +kernel
theorem dX12_compare_23 : decode cX12_compare 23 = .ok (.iload_n 1, 1) := by decide +kernel
theorem dX12_compare_24 : decode cX12_compare 24 = .ok (.iaload, 1) := by decide +kernel
theorem dX12_compare_25 : decode cX12_compare 25 = .ok (.if_icmp .gt 38, 3) := by decide +kernel
theorem dX12_compare_28 : decode cX12_compare 28 = .ok (.aload_n 0, 1) := by decide +kernel
theorem dX12_compare_29 : decode cX12_compare 29 = .ok (.iload_n 1, 1) := by decide +kernel
theorem dX12_compare_30 : decode cX12_compare 30 = .ok (.iload 4, 2) := by decide +kernel
theorem dX12_compare_32 : decode cX12_compare 32 = .ok (.iadd, 1) := by decide +kernel
theorem dX12_compare_33 : decode cX12_compare 33 = .ok (.iaload, 1) := by decide +kernel
theorem dX12_compare_34 : decode cX12_compare 34 = .ok (.aload_n 2, 1) := by decide +kernel
theorem dX12_compare_35 : decode cX12_compare 35 = .ok (.iload_n 3, 1) := by decide +kernel
theorem dX12_compare_36 : decode cX12_compare 36 = .ok (.iload 4, 2) := by decide +kernel
theorem dX12_compare_38 : decode cX12_compare 38 = .ok (.iadd, 1) := by decide +kernel
theorem dX12_compare_39 : decode cX12_compare 39 = .ok (.iaload, 1) := by decide +kernel
theorem dX12_compare_40 : decode cX12_compare 40 = .ok (.if_icmp .eq 17, 3) := by decide +kernel
theorem dX12_compare_43 : decode cX12_compare 43 = .ok (.aload_n 0, 1) := by decide +kernel
theorem dX12_compare_44 : decode cX12_compare 44 = .ok (.iload_n 1, 1) := by decide +kernel
theorem dX12_compare_45 : decode cX12_compare 45 = .ok (.iload 4, 2) := by decide +kernel
theorem dX12_compare_47 : decode cX12_compare 47 = .ok (.iadd, 1) := by decide +kernel
theorem dX12_compare_48 : decode cX12_compare 48 = .ok (.iaload, 1) := by decide +kernel
theorem dX12_compare_49 : decode cX12_compare 49 = .ok (.aload_n 2, 1) := by decide +kernel
theorem dX12_compare_50 : decode cX12_compare 50 = .ok (.iload_n 3, 1) := by decide +kernel
theorem dX12_compare_51 : decode cX12_compare 51 = .ok (.iload 4, 2) := by decide +kernel
theorem dX12_compare_53 : decode cX12_compare 53 = .ok (.iadd, 1) := by decide +kernel
theorem dX12_compare_54 : decode cX12_compare 54 = .ok (.iaload, 1) := by decide +kernel
theorem dX12_compare_55 : decode cX12_compare 55 = .ok (.isub, 1) := by decide +kernel
theorem dX12_compare_56 : decode cX12_compare 56 = .ok (.ireturn, 1) := by decide +kernel
theorem dX12_compare_57 : decode cX12_compare 57 = .ok (.iinc 4 1, 3) := by decide +kernel
theorem dX12_compare_60 : decode cX12_compare 60 = .ok (.goto (-40), 3) := by decide +kernel
theorem dX12_compare_63 : decode cX12_compare 63 = .ok (.iconst 0, 1) := by decide +kernel
theorem dX12_compare_64 : decode cX12_compare 64 = .ok (.ireturn, 1) := by decide +kernel
theorem dX12_left_0 : decode cX12_left 0 = .ok (.iconst 2, 1) := by decide +kernel
theorem dX12_left_1 : decode cX12_left 1 = .ok (.iload_n 0, 1) := by decide +kernel
theorem dX12_left_2 : decode cX12_left 2 = .ok (.imul, 1) := by decide +kernel
theorem dX12_left_3 : decode cX12_left 3 = .ok (.bipush 96, 2) := by decide +kernel
theorem dX12_left_5 : decode cX12_left 5 = .ok (.imul, 1) := by decide +kernel
theorem dX12_left_6 : decode cX12_left 6 = .ok (.ireturn, 1) := by decide +kernel
theorem dX12_right_0 : decode cX12_right 0 = .ok (.iconst 2, 1) := by decide +kernel
theorem dX12_right_1 : decode cX12_right 1 = .ok (.iload_n 0, 1) := by decide +kernel
theorem dX12_right_2 : decode cX12_right 2 = .ok (.imul, 1) := by decide +kernel
theorem dX12_right_3 : decode cX12_right 3 = .ok (.iconst 1, 1) := by decide +kernel
theorem dX12_right_4 : decode cX12_right 4 = .ok (.iadd, 1) := by decide +kernel
theorem dX12_right_5 : decode cX12_right 5 = .ok (.bipush 96, 2) := by decide +kernel
theorem dX12_right_7 : decode cX12_right 7 = .ok (.imul, 1) := by decide +kernel
theorem dX12_right_8 : decode cX12_right 8 = .ok (.ireturn, 1) := by decide +kernel
theorem dX12_isRule_0 : decode cX12_isRule 0 = .ok (.iload_n 1, 1) := by decide +kernel
theorem dX12_isRule_1 : decode cX12_isRule 1 = .ok (.iconst 0, 1) := by decide +kernel
theorem dX12_isRule_2 : decode cX12_isRule 2 = .ok (.aload_n 0, 1) := by decide +kernel
theorem dX12_isRule_3 : decode cX12_isRule 3 = .ok (.getfield 121, 3) := by decide +kernel
theorem dX12_isRule_6 : decode cX12_isRule 6 = .ok (.iconst 1, 1) := by decide +kernel
theorem dX12_isRule_7 : decode cX12_isRule 7 = .ok (.isub, 1) := by decide +kernel
theorem dX12_isRule_8 : decode cX12_isRule 8 = .ok (.invokestatic 105, 3) := by decide +kernel
theorem dX12_isRule_11 : decode cX12_isRule 11 = .ok (.ireturn, 1) := by decide +kernel
theorem dX12_isRegister_0 : decode cX12_isRegister 0 = .ok (.iload_n 0, 1) := by decide +kernel
theorem dX12_isRegister_1 : decode cX12_isRegister 1 = .ok (.iconst 0, 1) := by decide +kernel
theorem dX12_isRegister_2 : decode cX12_isRegister 2 = .ok (.iconst 3, 1) := by decide +kernel
theorem dX12_isRegister_3 : decode cX12_isRegister 3 = .ok (.invokestatic 105, 3) := by decide +kernel
theorem dX12_isRegister_6 : decode cX12_isRegister 6 = .ok (.ireturn, 1) := by decide +kernel
theorem dX12_variable_0 : decode cX12_variable 0 = .ok (.iload_n 0, 1) := by decide +kernel
theorem dX12_variable_1 : decode cX12_variable 1 = .ok (.bipush 120, 2) := by decide +kernel
theorem dX12_variable_3 : decode cX12_variable 3 = .ok (.if_icmp .ne 7, 3) := by decide +kernel
theorem dX12_variable_6 : decode cX12_variable 6 = .ok (.iconst 0, 1) := by decide +kernel
theorem dX12_variable_7 : decode cX12_variable 7 = .ok (.goto 14, 3) := by decide +kernel
theorem dX12_variable_10 : decode cX12_variable 10 = .ok (.iload_n 0, 1) := by decide +kernel
theorem dX12_variable_11 : decode cX12_variable 11 = .ok (.bipush 121, 2) := by decide +kernel
theorem dX12_variable_13 : decode cX12_variable 13 = .ok (.if_icmp .ne 7, 3) := by decide +kernel
theorem dX12_variable_16 : decode cX12_variable 16 = .ok (.iconst 1, 1) := by decide +kernel
theorem dX12_variable_17 : decode cX12_variable 17 = .ok (.goto 4, 3) := by decide +kernel
theorem dX12_variable_20 : decode cX12_variable 20 = .ok (.iconst 2, 1) := by decide +kernel
theorem dX12_variable_21 : decode cX12_variable 21 = .ok (.ireturn, 1) := by decide +kernel
theorem dX12_isMatch_0 : decode cX12_isMatch 0 = .ok (.iconst 0, 1) := by decide +kernel
theorem dX12_isMatch_1 : decode cX12_isMatch 1 = .ok (.istore 4, 2) := by decide +kernel
theorem dX12_isMatch_3 : decode cX12_isMatch 3 = .ok (.iload 4, 2) := by decide +kernel
theorem dX12_isMatch_5 : decode cX12_isMatch 5 = .ok (.iconst 3, 1) := by decide +kernel
theorem dX12_isMatch_6 : decode cX12_isMatch 6 = .ok (.if_icmp .ge 17, 3) := by decide +kernel
theorem dX12_isMatch_9 : decode cX12_isMatch 9 = .ok (.aload_n 0, 1) := by decide +kernel
theorem dX12_isMatch_10 : decode cX12_isMatch 10 = .ok (.getfield 31, 3) := by decide +kernel
theorem dX12_isMatch_13 : decode cX12_isMatch 13 = .ok (.iload 4, 2) := by decide +kernel
theorem dX12_isMatch_15 : decode cX12_isMatch 15 = .ok (.iconst 0, 1) := by decide +kernel
theorem dX12_isMatch_16 : decode cX12_isMatch 16 = .ok (.iastore, 1) := by decide +kernel
theorem dX12_isMatch_17 : decode cX12_isMatch 17 = .ok (.iinc 4 1, 3) := by decide +kernel
theorem dX12_isMatch_20 : decode cX12_isMatch 20 = .ok (.goto (-17), 3) := by decide +kernel
theorem dX12_isMatch_23 : decode cX12_isMatch 23 = .ok (.iload_n 3, 1) := by decide +kernel
theorem dX12_isMatch_24 : decode cX12_isMatch 24 = .ok (.istore 4, 2) := by decide +kernel
theorem dX12_isMatch_26 : decode cX12_isMatch 26 = .ok (.iconst 1, 1) := by decide +kernel
theorem dX12_isMatch_27 : decode cX12_isMatch 27 = .ok (.istore 5, 2) := by decide +kernel
theorem dX12_isMatch_29 : decode cX12_isMatch 29 = .ok (.iload 5, 2) := by decide +kernel
theorem dX12_isMatch_31 : decode cX12_isMatch 31 = .ok (.aload_n 0, 1) := by decide +kernel
theorem dX12_isMatch_32 : decode cX12_isMatch 32 = .ok (.getfield 16, 3) := by decide +kernel
theorem dX12_isMatch_35 : decode cX12_isMatch 35 = .ok (.iload_n 1, 1) := by decide +kernel
theorem dX12_isMatch_36 : decode cX12_isMatch 36 = .ok (.invokestatic 125, 3) := by decide +kernel
theorem dX12_isMatch_39 : decode cX12_isMatch 39 = .ok (.iaload, 1) := by decide +kernel
theorem dX12_isMatch_40 : decode cX12_isMatch 40 = .ok (.if_icmp .gt 141, 3) := by decide +kernel
theorem dX12_isMatch_43 : decode cX12_isMatch 43 = .ok (.aload_n 0, 1) := by decide +kernel
theorem dX12_isMatch_44 : decode cX12_isMatch 44 = .ok (.getfield 16, 3) := by decide +kernel
theorem dX12_isMatch_47 : decode cX12_isMatch 47 = .ok (.iload_n 1, 1) := by decide +kernel
theorem dX12_isMatch_48 : decode cX12_isMatch 48 = .ok (.invokestatic 125, 3) := by decide +kernel
theorem dX12_isMatch_51 : decode cX12_isMatch 51 = .ok (.iload 5, 2) := by decide +kernel
theorem dX12_isMatch_53 : decode cX12_isMatch 53 = .ok (.iadd, 1) := by decide +kernel
theorem dX12_isMatch_54 : decode cX12_isMatch 54 = .ok (.iaload, 1) := by decide +kernel
theorem dX12_isMatch_55 : decode cX12_isMatch 55 = .ok (.istore 6, 2) := by decide +kernel
theorem dX12_isMatch_57 : decode cX12_isMatch 57 = .ok (.iload 6, 2) := by decide +kernel
theorem dX12_isMatch_59 : decode cX12_isMatch 59 = .ok (.invokestatic 128, 3) := by decide +kernel
theorem dX12_isMatch_62 : decode cX12_isMatch 62 = .ok (.ifCond .ne 20, 3) := by decide +kernel
theorem dX12_isMatch_65 : decode cX12_isMatch 65 = .ok (.aload_n 2, 1) := by decide +kernel
theorem dX12_isMatch_66 : decode cX12_isMatch 66 = .ok (.iload 4, 2) := by decide +kernel
theorem dX12_isMatch_68 : decode cX12_isMatch 68 = .ok (.iaload, 1) := by decide +kernel
theorem dX12_isMatch_69 : decode cX12_isMatch 69 = .ok (.iload 6, 2) := by decide +kernel
theorem dX12_isMatch_71 : decode cX12_isMatch 71 = .ok (.if_icmp .eq 5, 3) := by decide +kernel
theorem dX12_isMatch_74 : decode cX12_isMatch 74 = .ok (.iconst 0, 1) := by decide +kernel
theorem dX12_isMatch_75 : decode cX12_isMatch 75 = .ok (.ireturn, 1) := by decide +kernel
theorem dX12_isMatch_76 : decode cX12_isMatch 76 = .ok (.iinc 4 1, 3) := by decide +kernel
theorem dX12_isMatch_79 : decode cX12_isMatch 79 = .ok (.goto 96, 3) := by decide +kernel
theorem dX12_isMatch_82 : decode cX12_isMatch 82 = .ok (.iload 6, 2) := by decide +kernel
theorem dX12_isMatch_84 : decode cX12_isMatch 84 = .ok (.invokestatic 131, 3) := by decide +kernel
theorem dX12_isMatch_87 : decode cX12_isMatch 87 = .ok (.istore 7, 2) := by decide +kernel
theorem dX12_isMatch_89 : decode cX12_isMatch 89 = .ok (.aload_n 0, 1) := by decide +kernel
theorem dX12_isMatch_90 : decode cX12_isMatch 90 = .ok (.aload_n 2, 1) := by decide +kernel
theorem dX12_isMatch_91 : decode cX12_isMatch 91 = .ok (.iload 4, 2) := by decide +kernel
theorem dX12_isMatch_93 : decode cX12_isMatch 93 = .ok (.invokevirtual 117, 3) := by decide +kernel
theorem dX12_isMatch_96 : decode cX12_isMatch 96 = .ok (.istore 8, 2) := by decide +kernel
theorem dX12_isMatch_98 : decode cX12_isMatch 98 = .ok (.aload_n 0, 1) := by decide +kernel
theorem dX12_isMatch_99 : decode cX12_isMatch 99 = .ok (.getfield 31, 3) := by decide +kernel
theorem dX12_isMatch_102 : decode cX12_isMatch 102 = .ok (.iload 7, 2) := by decide +kernel
theorem dX12_isMatch_104 : decode cX12_isMatch 104 = .ok (.iaload, 1) := by decide +kernel
theorem dX12_isMatch_105 : decode cX12_isMatch 105 = .ok (.ifCond .ne 27, 3) := by decide +kernel
theorem dX12_isMatch_108 : decode cX12_isMatch 108 = .ok (.aload_n 0, 1) := by decide +kernel
theorem dX12_isMatch_109 : decode cX12_isMatch 109 = .ok (.getfield 28, 3) := by decide +kernel
theorem dX12_isMatch_112 : decode cX12_isMatch 112 = .ok (.iload 7, 2) := by decide +kernel
theorem dX12_isMatch_114 : decode cX12_isMatch 114 = .ok (.iload 4, 2) := by decide +kernel
theorem dX12_isMatch_116 : decode cX12_isMatch 116 = .ok (.iastore, 1) := by decide +kernel
theorem dX12_isMatch_117 : decode cX12_isMatch 117 = .ok (.aload_n 0, 1) := by decide +kernel
theorem dX12_isMatch_118 : decode cX12_isMatch 118 = .ok (.getfield 31, 3) := by decide +kernel
theorem dX12_isMatch_121 : decode cX12_isMatch 121 = .ok (.iload 7, 2) := by decide +kernel
theorem dX12_isMatch_123 : decode cX12_isMatch 123 = .ok (.iload 8, 2) := by decide +kernel
theorem dX12_isMatch_125 : decode cX12_isMatch 125 = .ok (.iload 4, 2) := by decide +kernel
theorem dX12_isMatch_127 : decode cX12_isMatch 127 = .ok (.isub, 1) := by decide +kernel
theorem dX12_isMatch_128 : decode cX12_isMatch 128 = .ok (.iastore, 1) := by decide +kernel
theorem dX12_isMatch_129 : decode cX12_isMatch 129 = .ok (.goto 42, 3) := by decide +kernel
theorem dX12_isMatch_132 : decode cX12_isMatch 132 = .ok (.aload_n 0, 1) := by decide +kernel
theorem dX12_isMatch_133 : decode cX12_isMatch 133 = .ok (.getfield 31, 3) := by decide +kernel
theorem dX12_isMatch_136 : decode cX12_isMatch 136 = .ok (.iload 7, 2) := by decide +kernel
theorem dX12_isMatch_138 : decode cX12_isMatch 138 = .ok (.iaload, 1) := by decide +kernel
theorem dX12_isMatch_139 : decode cX12_isMatch 139 = .ok (.iload 8, 2) := by decide +kernel
theorem dX12_isMatch_141 : decode cX12_isMatch 141 = .ok (.iload 4, 2) := by decide +kernel
theorem dX12_isMatch_143 : decode cX12_isMatch 143 = .ok (.isub, 1) := by decide +kernel
theorem dX12_isMatch_144 : decode cX12_isMatch 144 = .ok (.if_icmp .ne 25, 3) := by decide +kernel
theorem dX12_isMatch_147 : decode cX12_isMatch 147 = .ok (.aload_n 2, 1) := by decide +kernel
theorem dX12_isMatch_148 : decode cX12_isMatch 148 = .ok (.aload_n 0, 1) := by decide +kernel
theorem dX12_isMatch_149 : decode cX12_isMatch 149 = .ok (.getfield 28, 3) := by decide +kernel
theorem dX12_isMatch_152 : decode cX12_isMatch 152 = .ok (.iload 7, 2) := by decide +kernel
theorem dX12_isMatch_154 : decode cX12_isMatch 154 = .ok (.iaload, 1) := by decide +kernel
theorem dX12_isMatch_155 : decode cX12_isMatch 155 = .ok (.aload_n 2, 1) := by decide +kernel
theorem dX12_isMatch_156 : decode cX12_isMatch 156 = .ok (.iload 4, 2) := by decide +kernel
theorem dX12_isMatch_158 : decode cX12_isMatch 158 = .ok (.iload 8, 2) := by decide +kernel
theorem dX12_isMatch_160 : decode cX12_isMatch 160 = .ok (.iload 4, 2) := by decide +kernel
theorem dX12_isMatch_162 : decode cX12_isMatch 162 = .ok (.isub, 1) := by decide +kernel
theorem dX12_isMatch_163 : decode cX12_isMatch 163 = .ok (.invokestatic 134, 3) := by decide +kernel
theorem dX12_isMatch_166 : decode cX12_isMatch 166 = .ok (.ifCond .ne 5, 3) := by decide +kernel
theorem dX12_isMatch_169 : decode cX12_isMatch 169 = .ok (.iconst 0, 1) := by decide +kernel
theorem dX12_isMatch_170 : decode cX12_isMatch 170 = .ok (.ireturn, 1) := by decide +kernel
theorem dX12_isMatch_171 : decode cX12_isMatch 171 = .ok (.iload 8, 2) := by decide +kernel
theorem dX12_isMatch_173 : decode cX12_isMatch 173 = .ok (.istore 4, 2) := by decide +kernel
theorem dX12_isMatch_175 : decode cX12_isMatch 175 = .ok (.iinc 5 1, 3) := by decide +kernel
theorem dX12_isMatch_178 : decode cX12_isMatch 178 = .ok (.goto (-149), 3) := by decide +kernel
theorem dX12_isMatch_181 : decode cX12_isMatch 181 = .ok (.iconst 1, 1) := by decide +kernel
theorem dX12_isMatch_182 : decode cX12_isMatch 182 = .ok (.ireturn, 1) := by decide +kernel
theorem dX12_matching_0 : decode cX12_matching 0 = .ok (.iconst 0, 1) := by decide +kernel
theorem dX12_matching_1 : decode cX12_matching 1 = .ok (.istore_n 3, 1) := by decide +kernel
theorem dX12_matching_2 : decode cX12_matching 2 = .ok (.iload_n 3, 1) := by decide +kernel
theorem dX12_matching_3 : decode cX12_matching 3 = .ok (.aload_n 0, 1) := by decide +kernel
theorem dX12_matching_4 : decode cX12_matching 4 = .ok (.getfield 121, 3) := by decide +kernel
theorem dX12_matching_7 : decode cX12_matching 7 = .ok (.if_icmp .ge 21, 3) := by decide +kernel
theorem dX12_matching_10 : decode cX12_matching 10 = .ok (.aload_n 0, 1) := by decide +kernel
theorem dX12_matching_11 : decode cX12_matching 11 = .ok (.iload_n 3, 1) := by decide +kernel
theorem dX12_matching_12 : decode cX12_matching 12 = .ok (.aload_n 1, 1) := by decide +kernel
theorem dX12_matching_13 : decode cX12_matching 13 = .ok (.iload_n 2, 1) := by decide +kernel
theorem dX12_matching_14 : decode cX12_matching 14 = .ok (.invokevirtual 138, 3) := by decide +kernel
theorem dX12_matching_17 : decode cX12_matching 17 = .ok (.ifCond .eq 5, 3) := by decide +kernel
theorem dX12_matching_20 : decode cX12_matching 20 = .ok (.iload_n 3, 1) := by decide +kernel
theorem dX12_matching_21 : decode cX12_matching 21 = .ok (.ireturn, 1) := by decide +kernel
theorem dX12_matching_22 : decode cX12_matching 22 = .ok (.iinc 3 1, 3) := by decide +kernel
theorem dX12_matching_25 : decode cX12_matching 25 = .ok (.goto (-23), 3) := by decide +kernel
theorem dX12_matching_28 : decode cX12_matching 28 = .ok (.bipush (-5), 2) := by decide +kernel
theorem dX12_matching_30 : decode cX12_matching 30 = .ok (.ireturn, 1) := by decide +kernel
theorem dX12_rewrite_0 : decode cX12_rewrite 0 = .ok (.iload_n 2, 1) := by decide +kernel
theorem dX12_rewrite_1 : decode cX12_rewrite 1 = .ok (.iconst 1, 1) := by decide +kernel
theorem dX12_rewrite_2 : decode cX12_rewrite 2 = .ok (.iadd, 1) := by decide +kernel
theorem dX12_rewrite_3 : decode cX12_rewrite 3 = .ok (.iload_n 3, 1) := by decide +kernel
theorem dX12_rewrite_4 : decode cX12_rewrite 4 = .ok (.iadd, 1) := by decide +kernel
theorem dX12_rewrite_5 : decode cX12_rewrite 5 = .ok (.istore 4, 2) := by decide +kernel
theorem dX12_rewrite_7 : decode cX12_rewrite 7 = .ok (.aload_n 0, 1) := by decide +kernel
theorem dX12_rewrite_8 : decode cX12_rewrite 8 = .ok (.aload_n 1, 1) := by decide +kernel
theorem dX12_rewrite_9 : decode cX12_rewrite 9 = .ok (.iload 4, 2) := by decide +kernel
theorem dX12_rewrite_11 : decode cX12_rewrite 11 = .ok (.invokevirtual 142, 3) := by decide +kernel
theorem dX12_rewrite_14 : decode cX12_rewrite 14 = .ok (.istore 5, 2) := by decide +kernel
theorem dX12_rewrite_16 : decode cX12_rewrite 16 = .ok (.iload 5, 2) := by decide +kernel
theorem dX12_rewrite_18 : decode cX12_rewrite 18 = .ok (.ifCond .ge 6, 3) := by decide +kernel
theorem dX12_rewrite_21 : decode cX12_rewrite 21 = .ok (.bipush (-5), 2) := by decide +kernel
theorem dX12_rewrite_23 : decode cX12_rewrite 23 = .ok (.ireturn, 1) := by decide +kernel
theorem dX12_rewrite_24 : decode cX12_rewrite 24 = .ok (.aload_n 0, 1) := by decide +kernel
theorem dX12_rewrite_25 : decode cX12_rewrite 25 = .ok (.aload_n 1, 1) := by decide +kernel
theorem dX12_rewrite_26 : decode cX12_rewrite 26 = .ok (.iload 4, 2) := by decide +kernel
theorem dX12_rewrite_28 : decode cX12_rewrite 28 = .ok (.invokevirtual 117, 3) := by decide +kernel
theorem dX12_rewrite_31 : decode cX12_rewrite 31 = .ok (.istore 6, 2) := by decide +kernel
theorem dX12_rewrite_33 : decode cX12_rewrite 33 = .ok (.aload_n 1, 1) := by decide +kernel
theorem dX12_rewrite_34 : decode cX12_rewrite 34 = .ok (.iload_n 2, 1) := by decide +kernel
theorem dX12_rewrite_35 : decode cX12_rewrite 35 = .ok (.iaload, 1) := by decide +kernel
theorem dX12_rewrite_36 : decode cX12_rewrite 36 = .ok (.iload 6, 2) := by decide +kernel
theorem dX12_rewrite_38 : decode cX12_rewrite 38 = .ok (.iload 4, 2) := by decide +kernel
theorem dX12_rewrite_40 : decode cX12_rewrite 40 = .ok (.isub, 1) := by decide +kernel
theorem dX12_rewrite_41 : decode cX12_rewrite 41 = .ok (.isub, 1) := by decide +kernel
theorem dX12_rewrite_42 : decode cX12_rewrite 42 = .ok (.istore 7, 2) := by decide +kernel
theorem dX12_rewrite_44 : decode cX12_rewrite 44 = .ok (.iconst 1, 1) := by decide +kernel
theorem dX12_rewrite_45 : decode cX12_rewrite 45 = .ok (.istore 8, 2) := by decide +kernel
theorem dX12_rewrite_47 : decode cX12_rewrite 47 = .ok (.iload 8, 2) := by decide +kernel
theorem dX12_rewrite_49 : decode cX12_rewrite 49 = .ok (.aload_n 0, 1) := by decide +kernel
theorem dX12_rewrite_50 : decode cX12_rewrite 50 = .ok (.getfield 16, 3) := by decide +kernel
theorem dX12_rewrite_53 : decode cX12_rewrite 53 = .ok (.iload 5, 2) := by decide +kernel
theorem dX12_rewrite_55 : decode cX12_rewrite 55 = .ok (.invokestatic 145, 3) := by decide +kernel
theorem dX12_rewrite_58 : decode cX12_rewrite 58 = .ok (.iaload, 1) := by decide +kernel
theorem dX12_rewrite_59 : decode cX12_rewrite 59 = .ok (.if_icmp .gt 51, 3) := by decide +kernel
theorem dX12_rewrite_62 : decode cX12_rewrite 62 = .ok (.aload_n 0, 1) := by decide +kernel
theorem dX12_rewrite_63 : decode cX12_rewrite 63 = .ok (.getfield 16, 3) := by decide +kernel
theorem dX12_rewrite_66 : decode cX12_rewrite 66 = .ok (.iload 5, 2) := by decide +kernel
theorem dX12_rewrite_68 : decode cX12_rewrite 68 = .ok (.invokestatic 145, 3) := by decide +kernel
theorem dX12_rewrite_71 : decode cX12_rewrite 71 = .ok (.iload 8, 2) := by decide +kernel
theorem dX12_rewrite_73 : decode cX12_rewrite 73 = .ok (.iadd, 1) := by decide +kernel
theorem dX12_rewrite_74 : decode cX12_rewrite 74 = .ok (.iaload, 1) := by decide +kernel
theorem dX12_rewrite_75 : decode cX12_rewrite 75 = .ok (.istore 9, 2) := by decide +kernel
theorem dX12_rewrite_77 : decode cX12_rewrite 77 = .ok (.iload 7, 2) := by decide +kernel
theorem dX12_rewrite_79 : decode cX12_rewrite 79 = .ok (.iload 9, 2) := by decide +kernel
theorem dX12_rewrite_81 : decode cX12_rewrite 81 = .ok (.invokestatic 128, 3) := by decide +kernel
theorem dX12_rewrite_84 : decode cX12_rewrite 84 = .ok (.ifCond .eq 16, 3) := by decide +kernel
theorem dX12_rewrite_87 : decode cX12_rewrite 87 = .ok (.aload_n 0, 1) := by decide +kernel
theorem dX12_rewrite_88 : decode cX12_rewrite 88 = .ok (.getfield 31, 3) := by decide +kernel
theorem dX12_rewrite_91 : decode cX12_rewrite 91 = .ok (.iload 9, 2) := by decide +kernel
theorem dX12_rewrite_93 : decode cX12_rewrite 93 = .ok (.invokestatic 131, 3) := by decide +kernel
theorem dX12_rewrite_96 : decode cX12_rewrite 96 = .ok (.iaload, 1) := by decide +kernel
theorem dX12_rewrite_97 : decode cX12_rewrite 97 = .ok (.goto 4, 3) := by decide +kernel
theorem dX12_rewrite_100 : decode cX12_rewrite 100 = .ok (.iconst 1, 1) := by decide +kernel
theorem dX12_rewrite_101 : decode cX12_rewrite 101 = .ok (.iadd, 1) := by decide +kernel
theorem dX12_rewrite_102 : decode cX12_rewrite 102 = .ok (.istore 7, 2) := by decide +kernel
theorem dX12_rewrite_104 : decode cX12_rewrite 104 = .ok (.iinc 8 1, 3) := by decide +kernel
theorem dX12_rewrite_107 : decode cX12_rewrite 107 = .ok (.goto (-60), 3) := by decide +kernel
theorem dX12_rewrite_110 : decode cX12_rewrite 110 = .ok (.iload 7, 2) := by decide +kernel
theorem dX12_rewrite_112 : decode cX12_rewrite 112 = .ok (.bipush 40, 2) := by decide +kernel
theorem dX12_rewrite_114 : decode cX12_rewrite 114 = .ok (.if_icmp .le 6, 3) := by decide +kernel
theorem dX12_rewrite_117 : decode cX12_rewrite 117 = .ok (.bipush (-8), 2) := by decide +kernel
theorem dX12_rewrite_119 : decode cX12_rewrite 119 = .ok (.ireturn, 1) := by decide +kernel
theorem dX12_rewrite_120 : decode cX12_rewrite 120 = .ok (.iconst 1, 1) := by decide +kernel
theorem dX12_rewrite_121 : decode cX12_rewrite 121 = .ok (.istore 8, 2) := by decide +kernel
theorem dX12_rewrite_123 : decode cX12_rewrite 123 = .ok (.iload_n 2, 1) := by decide +kernel
theorem dX12_rewrite_124 : decode cX12_rewrite 124 = .ok (.iconst 1, 1) := by decide +kernel
theorem dX12_rewrite_125 : decode cX12_rewrite 125 = .ok (.iadd, 1) := by decide +kernel
theorem dX12_rewrite_126 : decode cX12_rewrite 126 = .ok (.istore 9, 2) := by decide +kernel
theorem dX12_rewrite_128 : decode cX12_rewrite 128 = .ok (.iload 9, 2) := by decide +kernel
theorem dX12_rewrite_130 : decode cX12_rewrite 130 = .ok (.iload 4, 2) := by decide +kernel
theorem dX12_rewrite_132 : decode cX12_rewrite 132 = .ok (.if_icmp .ge 23, 3) := by decide +kernel
theorem dX12_rewrite_135 : decode cX12_rewrite 135 = .ok (.aload_n 0, 1) := by decide +kernel
theorem dX12_rewrite_136 : decode cX12_rewrite 136 = .ok (.getfield 34, 3) := by decide +kernel
theorem dX12_rewrite_139 : decode cX12_rewrite 139 = .ok (.iload 8, 2) := by decide +kernel
theorem dX12_rewrite_141 : decode cX12_rewrite 141 = .ok (.aload_n 1, 1) := by decide +kernel
theorem dX12_rewrite_142 : decode cX12_rewrite 142 = .ok (.iload 9, 2) := by decide +kernel
theorem dX12_rewrite_144 : decode cX12_rewrite 144 = .ok (.iaload, 1) := by decide +kernel
theorem dX12_rewrite_145 : decode cX12_rewrite 145 = .ok (.iastore, 1) := by decide +kernel
theorem dX12_rewrite_146 : decode cX12_rewrite 146 = .ok (.iinc 8 1, 3) := by decide +kernel
theorem dX12_rewrite_149 : decode cX12_rewrite 149 = .ok (.iinc 9 1, 3) := by decide +kernel
theorem dX12_rewrite_152 : decode cX12_rewrite 152 = .ok (.goto (-24), 3) := by decide +kernel
theorem dX12_rewrite_155 : decode cX12_rewrite 155 = .ok (.iconst 1, 1) := by decide +kernel
theorem dX12_rewrite_156 : decode cX12_rewrite 156 = .ok (.istore 9, 2) := by decide +kernel
theorem dX12_rewrite_158 : decode cX12_rewrite 158 = .ok (.iload 9, 2) := by decide +kernel
theorem dX12_rewrite_160 : decode cX12_rewrite 160 = .ok (.aload_n 0, 1) := by decide +kernel
theorem dX12_rewrite_161 : decode cX12_rewrite 161 = .ok (.getfield 16, 3) := by decide +kernel
theorem dX12_rewrite_164 : decode cX12_rewrite 164 = .ok (.iload 5, 2) := by decide +kernel
theorem dX12_rewrite_166 : decode cX12_rewrite 166 = .ok (.invokestatic 145, 3) := by decide +kernel
theorem dX12_rewrite_169 : decode cX12_rewrite 169 = .ok (.iaload, 1) := by decide +kernel
theorem dX12_rewrite_170 : decode cX12_rewrite 170 = .ok (.if_icmp .gt 110, 3) := by decide +kernel
theorem dX12_rewrite_173 : decode cX12_rewrite 173 = .ok (.aload_n 0, 1) := by decide +kernel
theorem dX12_rewrite_174 : decode cX12_rewrite 174 = .ok (.getfield 16, 3) := by decide +kernel
theorem dX12_rewrite_177 : decode cX12_rewrite 177 = .ok (.iload 5, 2) := by decide +kernel
theorem dX12_rewrite_179 : decode cX12_rewrite 179 = .ok (.invokestatic 145, 3) := by decide +kernel
theorem dX12_rewrite_182 : decode cX12_rewrite 182 = .ok (.iload 9, 2) := by decide +kernel
theorem dX12_rewrite_184 : decode cX12_rewrite 184 = .ok (.iadd, 1) := by decide +kernel
theorem dX12_rewrite_185 : decode cX12_rewrite 185 = .ok (.iaload, 1) := by decide +kernel
theorem dX12_rewrite_186 : decode cX12_rewrite 186 = .ok (.istore 10, 2) := by decide +kernel
theorem dX12_rewrite_188 : decode cX12_rewrite 188 = .ok (.iload 10, 2) := by decide +kernel
theorem dX12_rewrite_190 : decode cX12_rewrite 190 = .ok (.invokestatic 128, 3) := by decide +kernel
theorem dX12_rewrite_193 : decode cX12_rewrite 193 = .ok (.ifCond .eq 11, 3) := by decide +kernel
theorem dX12_rewrite_196 : decode cX12_rewrite 196 = .ok (.iload 10, 2) := by decide +kernel
theorem dX12_rewrite_198 : decode cX12_rewrite 198 = .ok (.invokestatic 131, 3) := by decide +kernel
theorem dX12_rewrite_201 : decode cX12_rewrite 201 = .ok (.goto 5, 3) := by decide +kernel
theorem dX12_rewrite_204 : decode cX12_rewrite 204 = .ok (.bipush (-5), 2) := by decide +kernel
theorem dX12_rewrite_206 : decode cX12_rewrite 206 = .ok (.istore 11, 2) := by decide +kernel
theorem dX12_rewrite_208 : decode cX12_rewrite 208 = .ok (.iload 11, 2) := by decide +kernel
theorem dX12_rewrite_210 : decode cX12_rewrite 210 = .ok (.ifCond .ge 7, 3) := by decide +kernel
theorem dX12_rewrite_213 : decode cX12_rewrite 213 = .ok (.iconst 1, 1) := by decide +kernel
theorem dX12_rewrite_214 : decode cX12_rewrite 214 = .ok (.goto 10, 3) := by decide +kernel
theorem dX12_rewrite_217 : decode cX12_rewrite 217 = .ok (.aload_n 0, 1) := by decide +kernel
theorem dX12_rewrite_218 : decode cX12_rewrite 218 = .ok (.getfield 31, 3) := by decide +kernel
theorem dX12_rewrite_221 : decode cX12_rewrite 221 = .ok (.iload 11, 2) := by decide +kernel
theorem dX12_rewrite_223 : decode cX12_rewrite 223 = .ok (.iaload, 1) := by decide +kernel
theorem dX12_rewrite_224 : decode cX12_rewrite 224 = .ok (.istore 12, 2) := by decide +kernel
theorem dX12_rewrite_226 : decode cX12_rewrite 226 = .ok (.iconst 0, 1) := by decide +kernel
theorem dX12_rewrite_227 : decode cX12_rewrite 227 = .ok (.istore 13, 2) := by decide +kernel
theorem dX12_rewrite_229 : decode cX12_rewrite 229 = .ok (.iload 13, 2) := by decide +kernel
theorem dX12_rewrite_231 : decode cX12_rewrite 231 = .ok (.iload 12, 2) := by decide +kernel
theorem dX12_rewrite_233 : decode cX12_rewrite 233 = .ok (.if_icmp .ge 41, 3) := by decide +kernel
theorem dX12_rewrite_236 : decode cX12_rewrite 236 = .ok (.aload_n 0, 1) := by decide +kernel
theorem dX12_rewrite_237 : decode cX12_rewrite 237 = .ok (.getfield 34, 3) := by decide +kernel
theorem dX12_rewrite_240 : decode cX12_rewrite 240 = .ok (.iload 8, 2) := by decide +kernel
theorem dX12_rewrite_242 : decode cX12_rewrite 242 = .ok (.iload 11, 2) := by decide +kernel
theorem dX12_rewrite_244 : decode cX12_rewrite 244 = .ok (.ifCond .ge 8, 3) := by decide +kernel
theorem dX12_rewrite_247 : decode cX12_rewrite 247 = .ok (.iload 10, 2) := by decide +kernel
theorem dX12_rewrite_249 : decode cX12_rewrite 249 = .ok (.goto 15, 3) := by decide +kernel
theorem dX12_rewrite_252 : decode cX12_rewrite 252 = .ok (.aload_n 1, 1) := by decide +kernel
theorem dX12_rewrite_253 : decode cX12_rewrite 253 = .ok (.aload_n 0, 1) := by decide +kernel
theorem dX12_rewrite_254 : decode cX12_rewrite 254 = .ok (.getfield 28, 3) := by decide +kernel
theorem dX12_rewrite_257 : decode cX12_rewrite 257 = .ok (.iload 11, 2) := by decide +kernel
theorem dX12_rewrite_259 : decode cX12_rewrite 259 = .ok (.iaload, 1) := by decide +kernel
theorem dX12_rewrite_260 : decode cX12_rewrite 260 = .ok (.iload 13, 2) := by decide +kernel
theorem dX12_rewrite_262 : decode cX12_rewrite 262 = .ok (.iadd, 1) := by decide +kernel
theorem dX12_rewrite_263 : decode cX12_rewrite 263 = .ok (.iaload, 1) := by decide +kernel
theorem dX12_rewrite_264 : decode cX12_rewrite 264 = .ok (.iastore, 1) := by decide +kernel
theorem dX12_rewrite_265 : decode cX12_rewrite 265 = .ok (.iinc 8 1, 3) := by decide +kernel
theorem dX12_rewrite_268 : decode cX12_rewrite 268 = .ok (.iinc 13 1, 3) := by decide +kernel
theorem dX12_rewrite_271 : decode cX12_rewrite 271 = .ok (.goto (-42), 3) := by decide +kernel
theorem dX12_rewrite_274 : decode cX12_rewrite 274 = .ok (.iinc 9 1, 3) := by decide +kernel
theorem dX12_rewrite_277 : decode cX12_rewrite 277 = .ok (.goto (-119), 3) := by decide +kernel
theorem dX12_rewrite_280 : decode cX12_rewrite 280 = .ok (.iload 6, 2) := by decide +kernel
theorem dX12_rewrite_282 : decode cX12_rewrite 282 = .ok (.istore 9, 2) := by decide +kernel
theorem dX12_rewrite_284 : decode cX12_rewrite 284 = .ok (.iload 9, 2) := by decide +kernel
theorem dX12_rewrite_286 : decode cX12_rewrite 286 = .ok (.iload_n 2, 1) := by decide +kernel
theorem dX12_rewrite_287 : decode cX12_rewrite 287 = .ok (.aload_n 1, 1) := by decide +kernel
theorem dX12_rewrite_288 : decode cX12_rewrite 288 = .ok (.iload_n 2, 1) := by decide +kernel
theorem dX12_rewrite_289 : decode cX12_rewrite 289 = .ok (.iaload, 1) := by decide +kernel
theorem dX12_rewrite_290 : decode cX12_rewrite 290 = .ok (.iadd, 1) := by decide +kernel
theorem dX12_rewrite_291 : decode cX12_rewrite 291 = .ok (.if_icmp .gt 23, 3) := by decide +kernel
theorem dX12_rewrite_294 : decode cX12_rewrite 294 = .ok (.aload_n 0, 1) := by decide +kernel
theorem dX12_rewrite_295 : decode cX12_rewrite 295 = .ok (.getfield 34, 3) := by decide +kernel
theorem dX12_rewrite_298 : decode cX12_rewrite 298 = .ok (.iload 8, 2) := by decide +kernel
theorem dX12_rewrite_300 : decode cX12_rewrite 300 = .ok (.aload_n 1, 1) := by decide +kernel
theorem dX12_rewrite_301 : decode cX12_rewrite 301 = .ok (.iload 9, 2) := by decide +kernel
theorem dX12_rewrite_303 : decode cX12_rewrite 303 = .ok (.iaload, 1) := by decide +kernel
theorem dX12_rewrite_304 : decode cX12_rewrite 304 = .ok (.iastore, 1) := by decide +kernel
theorem dX12_rewrite_305 : decode cX12_rewrite 305 = .ok (.iinc 8 1, 3) := by decide +kernel
theorem dX12_rewrite_308 : decode cX12_rewrite 308 = .ok (.iinc 9 1, 3) := by decide +kernel
theorem dX12_rewrite_311 : decode cX12_rewrite 311 = .ok (.goto (-27), 3) := by decide +kernel
theorem dX12_rewrite_314 : decode cX12_rewrite 314 = .ok (.aload_n 0, 1) := by decide +kernel
theorem dX12_rewrite_315 : decode cX12_rewrite 315 = .ok (.getfield 34, 3) := by decide +kernel
theorem dX12_rewrite_318 : decode cX12_rewrite 318 = .ok (.iconst 0, 1) := by decide +kernel
theorem dX12_rewrite_319 : decode cX12_rewrite 319 = .ok (.iload 7, 2) := by decide +kernel
theorem dX12_rewrite_321 : decode cX12_rewrite 321 = .ok (.iastore, 1) := by decide +kernel
theorem dX12_rewrite_322 : decode cX12_rewrite 322 = .ok (.iload 7, 2) := by decide +kernel
theorem dX12_rewrite_324 : decode cX12_rewrite 324 = .ok (.ireturn, 1) := by decide +kernel
theorem dX12_redex_0 : decode cX12_redex 0 = .ok (.iconst 0, 1) := by decide +kernel
theorem dX12_redex_1 : decode cX12_redex 1 = .ok (.istore 4, 2) := by decide +kernel
theorem dX12_redex_3 : decode cX12_redex 3 = .ok (.iconst 0, 1) := by decide +kernel
theorem dX12_redex_4 : decode cX12_redex 4 = .ok (.istore 5, 2) := by decide +kernel
theorem dX12_redex_6 : decode cX12_redex 6 = .ok (.iload 5, 2) := by decide +kernel
theorem dX12_redex_8 : decode cX12_redex 8 = .ok (.aload_n 1, 1) := by decide +kernel
theorem dX12_redex_9 : decode cX12_redex 9 = .ok (.iload_n 2, 1) := by decide +kernel
theorem dX12_redex_10 : decode cX12_redex 10 = .ok (.iaload, 1) := by decide +kernel
theorem dX12_redex_11 : decode cX12_redex 11 = .ok (.if_icmp .ge 35, 3) := by decide +kernel
theorem dX12_redex_14 : decode cX12_redex 14 = .ok (.aload_n 0, 1) := by decide +kernel
theorem dX12_redex_15 : decode cX12_redex 15 = .ok (.aload_n 1, 1) := by decide +kernel
theorem dX12_redex_16 : decode cX12_redex 16 = .ok (.iload_n 2, 1) := by decide +kernel
theorem dX12_redex_17 : decode cX12_redex 17 = .ok (.iconst 1, 1) := by decide +kernel
theorem dX12_redex_18 : decode cX12_redex 18 = .ok (.iadd, 1) := by decide +kernel
theorem dX12_redex_19 : decode cX12_redex 19 = .ok (.iload 5, 2) := by decide +kernel
theorem dX12_redex_21 : decode cX12_redex 21 = .ok (.iadd, 1) := by decide +kernel
theorem dX12_redex_22 : decode cX12_redex 22 = .ok (.invokevirtual 142, 3) := by decide +kernel
theorem dX12_redex_25 : decode cX12_redex 25 = .ok (.ifCond .lt 15, 3) := by decide +kernel
theorem dX12_redex_28 : decode cX12_redex 28 = .ok (.iload 4, 2) := by decide +kernel
theorem dX12_redex_30 : decode cX12_redex 30 = .ok (.iload_n 3, 1) := by decide +kernel
theorem dX12_redex_31 : decode cX12_redex 31 = .ok (.if_icmp .ne 6, 3) := by decide +kernel
theorem dX12_redex_34 : decode cX12_redex 34 = .ok (.iload 5, 2) := by decide +kernel
theorem dX12_redex_36 : decode cX12_redex 36 = .ok (.ireturn, 1) := by decide +kernel
theorem dX12_redex_37 : decode cX12_redex 37 = .ok (.iinc 4 1, 3) := by decide +kernel
theorem dX12_redex_40 : decode cX12_redex 40 = .ok (.iinc 5 1, 3) := by decide +kernel
theorem dX12_redex_43 : decode cX12_redex 43 = .ok (.goto (-37), 3) := by decide +kernel
theorem dX12_redex_46 : decode cX12_redex 46 = .ok (.iload_n 3, 1) := by decide +kernel
theorem dX12_redex_47 : decode cX12_redex 47 = .ok (.ifCond .ge 8, 3) := by decide +kernel
theorem dX12_redex_50 : decode cX12_redex 50 = .ok (.iload 4, 2) := by decide +kernel
theorem dX12_redex_52 : decode cX12_redex 52 = .ok (.goto 5, 3) := by decide +kernel
theorem dX12_redex_55 : decode cX12_redex 55 = .ok (.bipush (-5), 2) := by decide +kernel
theorem dX12_redex_57 : decode cX12_redex 57 = .ok (.ireturn, 1) := by decide +kernel
theorem dX12_setArity_0 : decode cX12_setArity 0 = .ok (.iload_n 1, 1) := by decide +kernel
theorem dX12_setArity_1 : decode cX12_setArity 1 = .ok (.iconst 0, 1) := by decide +kernel
theorem dX12_setArity_2 : decode cX12_setArity 2 = .ok (.iconst 2, 1) := by decide +kernel
theorem dX12_setArity_3 : decode cX12_setArity 3 = .ok (.invokestatic 105, 3) := by decide +kernel
theorem dX12_setArity_6 : decode cX12_setArity 6 = .ok (.ifCond .ne 5, 3) := by decide +kernel
theorem dX12_setArity_9 : decode cX12_setArity 9 = .ok (.iconst (-1), 1) := by decide +kernel
theorem dX12_setArity_10 : decode cX12_setArity 10 = .ok (.ireturn, 1) := by decide +kernel
theorem dX12_setArity_11 : decode cX12_setArity 11 = .ok (.iload_n 2, 1) := by decide +kernel
theorem dX12_setArity_12 : decode cX12_setArity 12 = .ok (.iconst 1, 1) := by decide +kernel
theorem dX12_setArity_13 : decode cX12_setArity 13 = .ok (.iconst 3, 1) := by decide +kernel
theorem dX12_setArity_14 : decode cX12_setArity 14 = .ok (.invokestatic 105, 3) := by decide +kernel
theorem dX12_setArity_17 : decode cX12_setArity 17 = .ok (.ifCond .ne 6, 3) := by decide +kernel
theorem dX12_setArity_20 : decode cX12_setArity 20 = .ok (.bipush (-2), 2) := by decide +kernel
theorem dX12_setArity_22 : decode cX12_setArity 22 = .ok (.ireturn, 1) := by decide +kernel
theorem dX12_setArity_23 : decode cX12_setArity 23 = .ok (.aload_n 0, 1) := by decide +kernel
theorem dX12_setArity_24 : decode cX12_setArity 24 = .ok (.getfield 121, 3) := by decide +kernel
theorem dX12_setArity_27 : decode cX12_setArity 27 = .ok (.ifCond .le 6, 3) := by decide +kernel
theorem dX12_setArity_30 : decode cX12_setArity 30 = .ok (.bipush (-3), 2) := by decide +kernel
theorem dX12_setArity_32 : decode cX12_setArity 32 = .ok (.ireturn, 1) := by decide +kernel
theorem dX12_setArity_33 : decode cX12_setArity 33 = .ok (.aload_n 0, 1) := by decide +kernel
theorem dX12_setArity_34 : decode cX12_setArity 34 = .ok (.getfield 9, 3) := by decide +kernel
theorem dX12_setArity_37 : decode cX12_setArity 37 = .ok (.iload_n 1, 1) := by decide +kernel
theorem dX12_setArity_38 : decode cX12_setArity 38 = .ok (.iaload, 1) := by decide +kernel
theorem dX12_setArity_39 : decode cX12_setArity 39 = .ok (.istore_n 3, 1) := by decide +kernel
theorem dX12_setArity_40 : decode cX12_setArity 40 = .ok (.aload_n 0, 1) := by decide +kernel
theorem dX12_setArity_41 : decode cX12_setArity 41 = .ok (.getfield 9, 3) := by decide +kernel
theorem dX12_setArity_44 : decode cX12_setArity 44 = .ok (.iload_n 1, 1) := by decide +kernel
theorem dX12_setArity_45 : decode cX12_setArity 45 = .ok (.iload_n 2, 1) := by decide +kernel
theorem dX12_setArity_46 : decode cX12_setArity 46 = .ok (.iastore, 1) := by decide +kernel
theorem dX12_setArity_47 : decode cX12_setArity 47 = .ok (.iconst 0, 1) := by decide +kernel
theorem dX12_setArity_48 : decode cX12_setArity 48 = .ok (.istore 4, 2) := by decide +kernel
theorem dX12_setArity_50 : decode cX12_setArity 50 = .ok (.iload 4, 2) := by decide +kernel
theorem dX12_setArity_52 : decode cX12_setArity 52 = .ok (.iconst 4, 1) := by decide +kernel
theorem dX12_setArity_53 : decode cX12_setArity 53 = .ok (.if_icmp .ge 77, 3) := by decide +kernel
theorem dX12_setArity_56 : decode cX12_setArity 56 = .ok (.iconst 0, 1) := by decide +kernel
theorem dX12_setArity_57 : decode cX12_setArity 57 = .ok (.istore 5, 2) := by decide +kernel
theorem dX12_setArity_59 : decode cX12_setArity 59 = .ok (.iconst 1, 1) := by decide +kernel
theorem dX12_setArity_60 : decode cX12_setArity 60 = .ok (.istore 6, 2) := by decide +kernel
theorem dX12_setArity_62 : decode cX12_setArity 62 = .ok (.iload 6, 2) := by decide +kernel
theorem dX12_setArity_64 : decode cX12_setArity 64 = .ok (.aload_n 0, 1) := by decide +kernel
theorem dX12_setArity_65 : decode cX12_setArity 65 = .ok (.getfield 22, 3) := by decide +kernel
theorem dX12_setArity_68 : decode cX12_setArity 68 = .ok (.bipush 96, 2) := by decide +kernel
theorem dX12_setArity_70 : decode cX12_setArity 70 = .ok (.iload 4, 2) := by decide +kernel
theorem dX12_setArity_72 : decode cX12_setArity 72 = .ok (.imul, 1) := by decide +kernel
theorem dX12_setArity_73 : decode cX12_setArity 73 = .ok (.iaload, 1) := by decide +kernel
theorem dX12_setArity_74 : decode cX12_setArity 74 = .ok (.if_icmp .gt 39, 3) := by decide +kernel
theorem dX12_setArity_77 : decode cX12_setArity 77 = .ok (.iload 5, 2) := by decide +kernel
theorem dX12_setArity_79 : decode cX12_setArity 79 = .ok (.aload_n 0, 1) := by decide +kernel
theorem dX12_setArity_80 : decode cX12_setArity 80 = .ok (.getfield 22, 3) := by decide +kernel
theorem dX12_setArity_83 : decode cX12_setArity 83 = .ok (.bipush 96, 2) := by decide +kernel
theorem dX12_setArity_85 : decode cX12_setArity 85 = .ok (.iload 4, 2) := by decide +kernel
theorem dX12_setArity_87 : decode cX12_setArity 87 = .ok (.imul, 1) := by decide +kernel
theorem dX12_setArity_88 : decode cX12_setArity 88 = .ok (.iload 6, 2) := by decide +kernel
theorem dX12_setArity_90 : decode cX12_setArity 90 = .ok (.iadd, 1) := by decide +kernel
theorem dX12_setArity_91 : decode cX12_setArity 91 = .ok (.iaload, 1) := by decide +kernel
theorem dX12_setArity_92 : decode cX12_setArity 92 = .ok (.bipush 102, 2) := by decide +kernel
theorem dX12_setArity_94 : decode cX12_setArity 94 = .ok (.iload_n 1, 1) := by decide +kernel
theorem dX12_setArity_95 : decode cX12_setArity 95 = .ok (.iadd, 1) := by decide +kernel
theorem dX12_setArity_96 : decode cX12_setArity 96 = .ok (.if_icmp .ne 7, 3) := by decide +kernel
theorem dX12_setArity_99 : decode cX12_setArity 99 = .ok (.iconst 1, 1) := by decide +kernel
theorem dX12_setArity_100 : decode cX12_setArity 100 = .ok (.goto 4, 3) := by decide +kernel
theorem dX12_setArity_103 : decode cX12_setArity 103 = .ok (.iconst 0, 1) := by decide +kernel
theorem dX12_setArity_104 : decode cX12_setArity 104 = .ok (.ior, 1) := by decide +kernel
theorem dX12_setArity_105 : decode cX12_setArity 105 = .ok (.istore 5, 2) := by decide +kernel
theorem dX12_setArity_107 : decode cX12_setArity 107 = .ok (.iinc 6 1, 3) := by decide +kernel
theorem dX12_setArity_110 : decode cX12_setArity 110 = .ok (.goto (-48), 3) := by decide +kernel
theorem dX12_setArity_113 : decode cX12_setArity 113 = .ok (.iload 5, 2) := by decide +kernel
theorem dX12_setArity_115 : decode cX12_setArity 115 = .ok (.ifCond .eq 9, 3) := by decide +kernel
theorem dX12_setArity_118 : decode cX12_setArity 118 = .ok (.aload_n 0, 1) := by decide +kernel
theorem dX12_setArity_119 : decode cX12_setArity 119 = .ok (.iload 4, 2) := by decide +kernel
theorem dX12_setArity_121 : decode cX12_setArity 121 = .ok (.invokevirtual 101, 3) := by decide +kernel
theorem dX12_setArity_124 : decode cX12_setArity 124 = .ok (.iinc 4 1, 3) := by decide +kernel
theorem dX12_setArity_127 : decode cX12_setArity 127 = .ok (.goto (-77), 3) := by decide +kernel
theorem dX12_setArity_130 : decode cX12_setArity 130 = .ok (.iload_n 3, 1) := by decide +kernel
theorem dX12_setArity_131 : decode cX12_setArity 131 = .ok (.ireturn, 1) := by decide +kernel
theorem dX12_arity_0 : decode cX12_arity 0 = .ok (.iload_n 1, 1) := by decide +kernel
theorem dX12_arity_1 : decode cX12_arity 1 = .ok (.iconst 0, 1) := by decide +kernel
theorem dX12_arity_2 : decode cX12_arity 2 = .ok (.iconst 2, 1) := by decide +kernel
theorem dX12_arity_3 : decode cX12_arity 3 = .ok (.invokestatic 105, 3) := by decide +kernel
theorem dX12_arity_6 : decode cX12_arity 6 = .ok (.ifCond .eq 12, 3) := by decide +kernel
theorem dX12_arity_9 : decode cX12_arity 9 = .ok (.aload_n 0, 1) := by decide +kernel
theorem dX12_arity_10 : decode cX12_arity 10 = .ok (.getfield 9, 3) := by decide +kernel
theorem dX12_arity_13 : decode cX12_arity 13 = .ok (.iload_n 1, 1) := by decide +kernel
theorem dX12_arity_14 : decode cX12_arity 14 = .ok (.iaload, 1) := by decide +kernel
theorem dX12_arity_15 : decode cX12_arity 15 = .ok (.goto 4, 3) := by decide +kernel
theorem dX12_arity_18 : decode cX12_arity 18 = .ok (.iconst (-1), 1) := by decide +kernel
theorem dX12_arity_19 : decode cX12_arity 19 = .ok (.ireturn, 1) := by decide +kernel
theorem dX12_next_0 : decode cX12_next 0 = .ok (.aload_n 0, 1) := by decide +kernel
theorem dX12_next_1 : decode cX12_next 1 = .ok (.getfield 148, 3) := by decide +kernel
theorem dX12_next_4 : decode cX12_next 4 = .ok (.aload_n 0, 1) := by decide +kernel
theorem dX12_next_5 : decode cX12_next 5 = .ok (.getfield 151, 3) := by decide +kernel
theorem dX12_next_8 : decode cX12_next 8 = .ok (.if_icmp .ge 15, 3) := by decide +kernel
theorem dX12_next_11 : decode cX12_next 11 = .ok (.aload_n 0, 1) := by decide +kernel
theorem dX12_next_12 : decode cX12_next 12 = .ok (.getfield 37, 3) := by decide +kernel
theorem dX12_next_15 : decode cX12_next 15 = .ok (.aload_n 0, 1) := by decide +kernel
theorem dX12_next_16 : decode cX12_next 16 = .ok (.getfield 148, 3) := by decide +kernel
theorem dX12_next_19 : decode cX12_next 19 = .ok (.iaload, 1) := by decide +kernel
theorem dX12_next_20 : decode cX12_next 20 = .ok (.goto 4, 3) := by decide +kernel
theorem dX12_next_23 : decode cX12_next 23 = .ok (.iconst (-1), 1) := by decide +kernel
theorem dX12_next_24 : decode cX12_next 24 = .ok (.ireturn, 1) := by decide +kernel
theorem dX12_accepts_0 : decode cX12_accepts 0 = .ok (.aload_n 0, 1) := by decide +kernel
theorem dX12_accepts_1 : decode cX12_accepts 1 = .ok (.invokevirtual 154, 3) := by decide +kernel
theorem dX12_accepts_4 : decode cX12_accepts 4 = .ok (.iload_n 1, 1) := by decide +kernel
theorem dX12_accepts_5 : decode cX12_accepts 5 = .ok (.if_icmp .eq 5, 3) := by decide +kernel
theorem dX12_accepts_8 : decode cX12_accepts 8 = .ok (.iconst 0, 1) := by decide +kernel
theorem dX12_accepts_9 : decode cX12_accepts 9 = .ok (.ireturn, 1) := by decide +kernel
theorem dX12_accepts_10 : decode cX12_accepts 10 = .ok (.aload_n 0, 1) := by decide +kernel
theorem dX12_accepts_11 : decode cX12_accepts 11 = .ok (.dup, 1) := by decide +kernel
theorem dX12_accepts_12 : decode cX12_accepts 12 = .ok (.getfield 148, 3) := by decide +kernel
theorem dX12_accepts_15 : decode cX12_accepts 15 = .ok (.iconst 1, 1) := by decide +kernel
theorem dX12_accepts_16 : decode cX12_accepts 16 = .ok (.iadd, 1) := by decide +kernel
theorem dX12_accepts_17 : decode cX12_accepts 17 = .ok (.putfield 148, 3) := by decide +kernel
theorem dX12_accepts_20 : decode cX12_accepts 20 = .ok (.iconst 1, 1) := by decide +kernel
theorem dX12_accepts_21 : decode cX12_accepts 21 = .ok (.ireturn, 1) := by decide +kernel
theorem dX12_parsesTerm_0 : decode cX12_parsesTerm 0 = .ok (.aload_n 0, 1) := by decide +kernel
theorem dX12_parsesTerm_1 : decode cX12_parsesTerm 1 = .ok (.invokevirtual 154, 3) := by decide +kernel
theorem dX12_parsesTerm_4 : decode cX12_parsesTerm 4 = .ok (.istore_n 1, 1) := by decide +kernel
theorem dX12_parsesTerm_5 : decode cX12_parsesTerm 5 = .ok (.iload_n 1, 1) := by decide +kernel
theorem dX12_parsesTerm_6 : decode cX12_parsesTerm 6 = .ok (.invokestatic 109, 3) := by decide +kernel
theorem dX12_parsesTerm_9 : decode cX12_parsesTerm 9 = .ok (.ifCond .ne 30, 3) := by decide +kernel
theorem dX12_parsesTerm_12 : decode cX12_parsesTerm 12 = .ok (.iload_n 1, 1) := by decide +kernel
theorem dX12_parsesTerm_13 : decode cX12_parsesTerm 13 = .ok (.invokestatic 128, 3) := by decide +kernel
theorem dX12_parsesTerm_16 : decode cX12_parsesTerm 16 = .ok (.ifCond .ne 23, 3) := by decide +kernel
theorem dX12_parsesTerm_19 : decode cX12_parsesTerm 19 = .ok (.iload_n 1, 1) := by decide +kernel
theorem dX12_parsesTerm_20 : decode cX12_parsesTerm 20 = .ok (.bipush 122, 2) := by decide +kernel
theorem dX12_parsesTerm_22 : decode cX12_parsesTerm 22 = .ok (.if_icmp .eq 17, 3) := by decide +kernel
theorem dX12_parsesTerm_25 : decode cX12_parsesTerm 25 = .ok (.iload_n 1, 1) := by decide +kernel
theorem dX12_parsesTerm_26 : decode cX12_parsesTerm 26 = .ok (.bipush 115, 2) := by decide +kernel
theorem dX12_parsesTerm_28 : decode cX12_parsesTerm 28 = .ok (.if_icmp .eq 11, 3) := by decide +kernel
theorem dX12_parsesTerm_31 : decode cX12_parsesTerm 31 = .ok (.iload_n 1, 1) := by decide +kernel
theorem dX12_parsesTerm_32 : decode cX12_parsesTerm 32 = .ok (.bipush 99, 2) := by decide +kernel
theorem dX12_parsesTerm_34 : decode cX12_parsesTerm 34 = .ok (.if_icmp .eq 5, 3) := by decide +kernel
theorem dX12_parsesTerm_37 : decode cX12_parsesTerm 37 = .ok (.iconst 0, 1) := by decide +kernel
theorem dX12_parsesTerm_38 : decode cX12_parsesTerm 38 = .ok (.ireturn, 1) := by decide +kernel
theorem dX12_parsesTerm_39 : decode cX12_parsesTerm 39 = .ok (.aload_n 0, 1) := by decide +kernel
theorem dX12_parsesTerm_40 : decode cX12_parsesTerm 40 = .ok (.dup, 1) := by decide +kernel
theorem dX12_parsesTerm_41 : decode cX12_parsesTerm 41 = .ok (.getfield 148, 3) := by decide +kernel
theorem dX12_parsesTerm_44 : decode cX12_parsesTerm 44 = .ok (.iconst 1, 1) := by decide +kernel
theorem dX12_parsesTerm_45 : decode cX12_parsesTerm 45 = .ok (.iadd, 1) := by decide +kernel
theorem dX12_parsesTerm_46 : decode cX12_parsesTerm 46 = .ok (.putfield 148, 3) := by decide +kernel
theorem dX12_parsesTerm_49 : decode cX12_parsesTerm 49 = .ok (.aload_n 0, 1) := by decide +kernel
theorem dX12_parsesTerm_50 : decode cX12_parsesTerm 50 = .ok (.getfield 40, 3) := by decide +kernel
theorem dX12_parsesTerm_53 : decode cX12_parsesTerm 53 = .ok (.iconst 0, 1) := by decide +kernel
theorem dX12_parsesTerm_54 : decode cX12_parsesTerm 54 = .ok (.dup2, 1) := by decide +kernel
theorem dX12_parsesTerm_55 : decode cX12_parsesTerm 55 = .ok (.iaload, 1) := by decide +kernel
theorem dX12_parsesTerm_56 : decode cX12_parsesTerm 56 = .ok (.iconst 1, 1) := by decide +kernel
theorem dX12_parsesTerm_57 : decode cX12_parsesTerm 57 = .ok (.iadd, 1) := by decide +kernel
theorem dX12_parsesTerm_58 : decode cX12_parsesTerm 58 = .ok (.iastore, 1) := by decide +kernel
theorem dX12_parsesTerm_59 : decode cX12_parsesTerm 59 = .ok (.aload_n 0, 1) := by decide +kernel
theorem dX12_parsesTerm_60 : decode cX12_parsesTerm 60 = .ok (.getfield 40, 3) := by decide +kernel
theorem dX12_parsesTerm_63 : decode cX12_parsesTerm 63 = .ok (.aload_n 0, 1) := by decide +kernel
theorem dX12_parsesTerm_64 : decode cX12_parsesTerm 64 = .ok (.getfield 40, 3) := by decide +kernel
theorem dX12_parsesTerm_67 : decode cX12_parsesTerm 67 = .ok (.iconst 0, 1) := by decide +kernel
theorem dX12_parsesTerm_68 : decode cX12_parsesTerm 68 = .ok (.iaload, 1) := by decide +kernel
theorem dX12_parsesTerm_69 : decode cX12_parsesTerm 69 = .ok (.iload_n 1, 1) := by decide +kernel
theorem dX12_parsesTerm_70 : decode cX12_parsesTerm 70 = .ok (.iastore, 1) := by decide +kernel
theorem dX12_parsesTerm_71 : decode cX12_parsesTerm 71 = .ok (.aload_n 0, 1) := by decide +kernel
theorem dX12_parsesTerm_72 : decode cX12_parsesTerm 72 = .ok (.iload_n 1, 1) := by decide +kernel
theorem dX12_parsesTerm_73 : decode cX12_parsesTerm 73 = .ok (.invokevirtual 113, 3) := by decide +kernel
theorem dX12_parsesTerm_76 : decode cX12_parsesTerm 76 = .ok (.istore_n 2, 1) := by decide +kernel
theorem dX12_parsesTerm_77 : decode cX12_parsesTerm 77 = .ok (.iconst 0, 1) := by decide +kernel
theorem dX12_parsesTerm_78 : decode cX12_parsesTerm 78 = .ok (.istore_n 3, 1) := by decide +kernel
theorem dX12_parsesTerm_79 : decode cX12_parsesTerm 79 = .ok (.iload_n 3, 1) := by decide +kernel
theorem dX12_parsesTerm_80 : decode cX12_parsesTerm 80 = .ok (.iload_n 2, 1) := by decide +kernel
theorem dX12_parsesTerm_81 : decode cX12_parsesTerm 81 = .ok (.if_icmp .ge 36, 3) := by decide +kernel
theorem dX12_parsesTerm_84 : decode cX12_parsesTerm 84 = .ok (.aload_n 0, 1) := by decide +kernel
theorem dX12_parsesTerm_85 : decode cX12_parsesTerm 85 = .ok (.iload_n 3, 1) := by decide +kernel
theorem dX12_parsesTerm_86 : decode cX12_parsesTerm 86 = .ok (.ifCond .ne 8, 3) := by decide +kernel
theorem dX12_parsesTerm_89 : decode cX12_parsesTerm 89 = .ok (.bipush 40, 2) := by decide +kernel
theorem dX12_parsesTerm_91 : decode cX12_parsesTerm 91 = .ok (.goto 5, 3) := by decide +kernel
theorem dX12_parsesTerm_94 : decode cX12_parsesTerm 94 = .ok (.bipush 44, 2) := by decide +kernel
theorem dX12_parsesTerm_96 : decode cX12_parsesTerm 96 = .ok (.invokevirtual 158, 3) := by decide +kernel
theorem dX12_parsesTerm_99 : decode cX12_parsesTerm 99 = .ok (.ifCond .eq 10, 3) := by decide +kernel
theorem dX12_parsesTerm_102 : decode cX12_parsesTerm 102 = .ok (.aload_n 0, 1) := by decide +kernel
theorem dX12_parsesTerm_103 : decode cX12_parsesTerm 103 = .ok (.invokevirtual 161, 3) := by decide +kernel
theorem dX12_parsesTerm_106 : decode cX12_parsesTerm 106 = .ok (.ifCond .ne 5, 3) := by decide +kernel
theorem dX12_parsesTerm_109 : decode cX12_parsesTerm 109 = .ok (.iconst 0, 1) := by decide +kernel
theorem dX12_parsesTerm_110 : decode cX12_parsesTerm 110 = .ok (.ireturn, 1) := by decide +kernel
theorem dX12_parsesTerm_111 : decode cX12_parsesTerm 111 = .ok (.iinc 3 1, 3) := by decide +kernel
theorem dX12_parsesTerm_114 : decode cX12_parsesTerm 114 = .ok (.goto (-35), 3) := by decide +kernel
theorem dX12_parsesTerm_117 : decode cX12_parsesTerm 117 = .ok (.iload_n 2, 1) := by decide +kernel
theorem dX12_parsesTerm_118 : decode cX12_parsesTerm 118 = .ok (.ifCond .eq 12, 3) := by decide +kernel
theorem dX12_parsesTerm_121 : decode cX12_parsesTerm 121 = .ok (.aload_n 0, 1) := by decide +kernel
theorem dX12_parsesTerm_122 : decode cX12_parsesTerm 122 = .ok (.bipush 41, 2) := by decide +kernel
theorem dX12_parsesTerm_124 : decode cX12_parsesTerm 124 = .ok (.invokevirtual 158, 3) := by decide +kernel
theorem dX12_parsesTerm_127 : decode cX12_parsesTerm 127 = .ok (.ifCond .eq 7, 3) := by decide +kernel
theorem dX12_parsesTerm_130 : decode cX12_parsesTerm 130 = .ok (.iconst 1, 1) := by decide +kernel
theorem dX12_parsesTerm_131 : decode cX12_parsesTerm 131 = .ok (.goto 4, 3) := by decide +kernel
theorem dX12_parsesTerm_134 : decode cX12_parsesTerm 134 = .ok (.iconst 0, 1) := by decide +kernel
theorem dX12_parsesTerm_135 : decode cX12_parsesTerm 135 = .ok (.ireturn, 1) := by decide +kernel
theorem dX12_hasSymbol_0 : decode cX12_hasSymbol 0 = .ok (.iconst 0, 1) := by decide +kernel
theorem dX12_hasSymbol_1 : decode cX12_hasSymbol 1 = .ok (.istore_n 2, 1) := by decide +kernel
theorem dX12_hasSymbol_2 : decode cX12_hasSymbol 2 = .ok (.iconst 1, 1) := by decide +kernel
theorem dX12_hasSymbol_3 : decode cX12_hasSymbol 3 = .ok (.istore_n 3, 1) := by decide +kernel
theorem dX12_hasSymbol_4 : decode cX12_hasSymbol 4 = .ok (.iload_n 3, 1) := by decide +kernel
theorem dX12_hasSymbol_5 : decode cX12_hasSymbol 5 = .ok (.aload_n 0, 1) := by decide +kernel
theorem dX12_hasSymbol_6 : decode cX12_hasSymbol 6 = .ok (.iconst 0, 1) := by decide +kernel
theorem dX12_hasSymbol_7 : decode cX12_hasSymbol 7 = .ok (.iaload, 1) := by decide +kernel
theorem dX12_hasSymbol_8 : decode cX12_hasSymbol 8 = .ok (.if_icmp .gt 24, 3) := by decide +kernel
theorem dX12_hasSymbol_11 : decode cX12_hasSymbol 11 = .ok (.iload_n 2, 1) := by decide +kernel
theorem dX12_hasSymbol_12 : decode cX12_hasSymbol 12 = .ok (.aload_n 0, 1) := by decide +kernel
theorem dX12_hasSymbol_13 : decode cX12_hasSymbol 13 = .ok (.iload_n 3, 1) := by decide +kernel
theorem dX12_hasSymbol_14 : decode cX12_hasSymbol 14 = .ok (.iaload, 1) := by decide +kernel
theorem dX12_hasSymbol_15 : decode cX12_hasSymbol 15 = .ok (.iload_n 1, 1) := by decide +kernel
theorem dX12_hasSymbol_16 : decode cX12_hasSymbol 16 = .ok (.if_icmp .ne 7, 3) := by decide +kernel
theorem dX12_hasSymbol_19 : decode cX12_hasSymbol 19 = .ok (.iconst 1, 1) := by decide +kernel
theorem dX12_hasSymbol_20 : decode cX12_hasSymbol 20 = .ok (.goto 4, 3) := by decide +kernel
theorem dX12_hasSymbol_23 : decode cX12_hasSymbol 23 = .ok (.iconst 0, 1) := by decide +kernel
theorem dX12_hasSymbol_24 : decode cX12_hasSymbol 24 = .ok (.ior, 1) := by decide +kernel
theorem dX12_hasSymbol_25 : decode cX12_hasSymbol 25 = .ok (.istore_n 2, 1) := by decide +kernel
theorem dX12_hasSymbol_26 : decode cX12_hasSymbol 26 = .ok (.iinc 3 1, 3) := by decide +kernel
theorem dX12_hasSymbol_29 : decode cX12_hasSymbol 29 = .ok (.goto (-25), 3) := by decide +kernel
theorem dX12_hasSymbol_32 : decode cX12_hasSymbol 32 = .ok (.iload_n 2, 1) := by decide +kernel
theorem dX12_hasSymbol_33 : decode cX12_hasSymbol 33 = .ok (.ireturn, 1) := by decide +kernel
theorem dX12_isValidRule_0 : decode cX12_isValidRule 0 = .ok (.aload_n 0, 1) := by decide +kernel
theorem dX12_isValidRule_1 : decode cX12_isValidRule 1 = .ok (.getfield 43, 3) := by decide +kernel
theorem dX12_isValidRule_4 : decode cX12_isValidRule 4 = .ok (.iconst 1, 1) := by decide +kernel
theorem dX12_isValidRule_5 : decode cX12_isValidRule 5 = .ok (.iaload, 1) := by decide +kernel
theorem dX12_isValidRule_6 : decode cX12_isValidRule 6 = .ok (.invokestatic 109, 3) := by decide +kernel
theorem dX12_isValidRule_9 : decode cX12_isValidRule 9 = .ok (.ifCond .eq 29, 3) := by decide +kernel
theorem dX12_isValidRule_12 : decode cX12_isValidRule 12 = .ok (.aload_n 0, 1) := by decide +kernel
theorem dX12_isValidRule_13 : decode cX12_isValidRule 13 = .ok (.getfield 43, 3) := by decide +kernel
theorem dX12_isValidRule_16 : decode cX12_isValidRule 16 = .ok (.iconst 0, 1) := by decide +kernel
theorem dX12_isValidRule_17 : decode cX12_isValidRule 17 = .ok (.iaload, 1) := by decide +kernel
theorem dX12_isValidRule_18 : decode cX12_isValidRule 18 = .ok (.bipush 40, 2) := by decide +kernel
theorem dX12_isValidRule_20 : decode cX12_isValidRule 20 = .ok (.if_icmp .gt 18, 3) := by decide +kernel
theorem dX12_isValidRule_23 : decode cX12_isValidRule 23 = .ok (.aload_n 0, 1) := by decide +kernel
theorem dX12_isValidRule_24 : decode cX12_isValidRule 24 = .ok (.getfield 40, 3) := by decide +kernel
theorem dX12_isValidRule_27 : decode cX12_isValidRule 27 = .ok (.iconst 0, 1) := by decide +kernel
theorem dX12_isValidRule_28 : decode cX12_isValidRule 28 = .ok (.iaload, 1) := by decide +kernel
theorem dX12_isValidRule_29 : decode cX12_isValidRule 29 = .ok (.bipush 40, 2) := by decide +kernel
theorem dX12_isValidRule_31 : decode cX12_isValidRule 31 = .ok (.if_icmp .gt 7, 3) := by decide +kernel
theorem dX12_isValidRule_34 : decode cX12_isValidRule 34 = .ok (.iconst 1, 1) := by decide +kernel
theorem dX12_isValidRule_35 : decode cX12_isValidRule 35 = .ok (.goto 4, 3) := by decide +kernel
theorem dX12_isValidRule_38 : decode cX12_isValidRule 38 = .ok (.iconst 0, 1) := by decide +kernel
theorem dX12_isValidRule_39 : decode cX12_isValidRule 39 = .ok (.istore_n 1, 1) := by decide +kernel
theorem dX12_isValidRule_40 : decode cX12_isValidRule 40 = .ok (.iconst 2, 1) := by decide +kernel
theorem dX12_isValidRule_41 : decode cX12_isValidRule 41 = .ok (.istore_n 2, 1) := by decide +kernel
theorem dX12_isValidRule_42 : decode cX12_isValidRule 42 = .ok (.iload_n 2, 1) := by decide +kernel
theorem dX12_isValidRule_43 : decode cX12_isValidRule 43 = .ok (.aload_n 0, 1) := by decide +kernel
theorem dX12_isValidRule_44 : decode cX12_isValidRule 44 = .ok (.getfield 43, 3) := by decide +kernel
theorem dX12_isValidRule_47 : decode cX12_isValidRule 47 = .ok (.iconst 0, 1) := by decide +kernel
theorem dX12_isValidRule_48 : decode cX12_isValidRule 48 = .ok (.iaload, 1) := by decide +kernel
theorem dX12_isValidRule_49 : decode cX12_isValidRule 49 = .ok (.if_icmp .gt 29, 3) := by decide +kernel
theorem dX12_isValidRule_52 : decode cX12_isValidRule 52 = .ok (.iload_n 1, 1) := by decide +kernel
theorem dX12_isValidRule_53 : decode cX12_isValidRule 53 = .ok (.aload_n 0, 1) := by decide +kernel
theorem dX12_isValidRule_54 : decode cX12_isValidRule 54 = .ok (.getfield 43, 3) := by decide +kernel
theorem dX12_isValidRule_57 : decode cX12_isValidRule 57 = .ok (.iload_n 2, 1) := by decide +kernel
theorem dX12_isValidRule_58 : decode cX12_isValidRule 58 = .ok (.iaload, 1) := by decide +kernel
theorem dX12_isValidRule_59 : decode cX12_isValidRule 59 = .ok (.invokestatic 109, 3) := by decide +kernel
theorem dX12_isValidRule_62 : decode cX12_isValidRule 62 = .ok (.ifCond .ne 7, 3) := by decide +kernel
theorem dX12_isValidRule_65 : decode cX12_isValidRule 65 = .ok (.iconst 1, 1) := by decide +kernel
theorem dX12_isValidRule_66 : decode cX12_isValidRule 66 = .ok (.goto 4, 3) := by decide +kernel
theorem dX12_isValidRule_69 : decode cX12_isValidRule 69 = .ok (.iconst 0, 1) := by decide +kernel
theorem dX12_isValidRule_70 : decode cX12_isValidRule 70 = .ok (.iand, 1) := by decide +kernel
theorem dX12_isValidRule_71 : decode cX12_isValidRule 71 = .ok (.istore_n 1, 1) := by decide +kernel
theorem dX12_isValidRule_72 : decode cX12_isValidRule 72 = .ok (.iinc 2 1, 3) := by decide +kernel
theorem dX12_isValidRule_75 : decode cX12_isValidRule 75 = .ok (.goto (-33), 3) := by decide +kernel
theorem dX12_isValidRule_78 : decode cX12_isValidRule 78 = .ok (.iconst 1, 1) := by decide +kernel
theorem dX12_isValidRule_79 : decode cX12_isValidRule 79 = .ok (.istore_n 2, 1) := by decide +kernel
theorem dX12_isValidRule_80 : decode cX12_isValidRule 80 = .ok (.iload_n 2, 1) := by decide +kernel
theorem dX12_isValidRule_81 : decode cX12_isValidRule 81 = .ok (.aload_n 0, 1) := by decide +kernel
theorem dX12_isValidRule_82 : decode cX12_isValidRule 82 = .ok (.getfield 40, 3) := by decide +kernel
theorem dX12_isValidRule_85 : decode cX12_isValidRule 85 = .ok (.iconst 0, 1) := by decide +kernel
theorem dX12_isValidRule_86 : decode cX12_isValidRule 86 = .ok (.iaload, 1) := by decide +kernel
theorem dX12_isValidRule_87 : decode cX12_isValidRule 87 = .ok (.if_icmp .gt 45, 3) := by decide +kernel
theorem dX12_isValidRule_90 : decode cX12_isValidRule 90 = .ok (.iload_n 1, 1) := by decide +kernel
theorem dX12_isValidRule_91 : decode cX12_isValidRule 91 = .ok (.aload_n 0, 1) := by decide +kernel
theorem dX12_isValidRule_92 : decode cX12_isValidRule 92 = .ok (.getfield 40, 3) := by decide +kernel
theorem dX12_isValidRule_95 : decode cX12_isValidRule 95 = .ok (.iload_n 2, 1) := by decide +kernel
theorem dX12_isValidRule_96 : decode cX12_isValidRule 96 = .ok (.iaload, 1) := by decide +kernel
theorem dX12_isValidRule_97 : decode cX12_isValidRule 97 = .ok (.invokestatic 128, 3) := by decide +kernel
theorem dX12_isValidRule_100 : decode cX12_isValidRule 100 = .ok (.ifCond .eq 19, 3) := by decide +kernel
theorem dX12_isValidRule_103 : decode cX12_isValidRule 103 = .ok (.aload_n 0, 1) := by decide +kernel
theorem dX12_isValidRule_104 : decode cX12_isValidRule 104 = .ok (.getfield 43, 3) := by decide +kernel
theorem dX12_isValidRule_107 : decode cX12_isValidRule 107 = .ok (.aload_n 0, 1) := by decide +kernel
theorem dX12_isValidRule_108 : decode cX12_isValidRule 108 = .ok (.getfield 40, 3) := by decide +kernel
theorem dX12_isValidRule_111 : decode cX12_isValidRule 111 = .ok (.iload_n 2, 1) := by decide +kernel
theorem dX12_isValidRule_112 : decode cX12_isValidRule 112 = .ok (.iaload, 1) := by decide +kernel
theorem dX12_isValidRule_113 : decode cX12_isValidRule 113 = .ok (.invokestatic 165, 3) := by decide +kernel
theorem dX12_isValidRule_116 : decode cX12_isValidRule 116 = .ok (.ifCond .eq 7, 3) := by decide +kernel
theorem dX12_isValidRule_119 : decode cX12_isValidRule 119 = .ok (.iconst 1, 1) := by decide +kernel
theorem dX12_isValidRule_120 : decode cX12_isValidRule 120 = .ok (.goto 4, 3) := by decide +kernel
theorem dX12_isValidRule_123 : decode cX12_isValidRule 123 = .ok (.iconst 0, 1) := by decide +kernel
theorem dX12_isValidRule_124 : decode cX12_isValidRule 124 = .ok (.iand, 1) := by decide +kernel
theorem dX12_isValidRule_125 : decode cX12_isValidRule 125 = .ok (.istore_n 1, 1) := by decide +kernel
theorem dX12_isValidRule_126 : decode cX12_isValidRule 126 = .ok (.iinc 2 1, 3) := by decide +kernel
theorem dX12_isValidRule_129 : decode cX12_isValidRule 129 = .ok (.goto (-49), 3) := by decide +kernel
theorem dX12_isValidRule_132 : decode cX12_isValidRule 132 = .ok (.iload_n 1, 1) := by decide +kernel
theorem dX12_isValidRule_133 : decode cX12_isValidRule 133 = .ok (.ireturn, 1) := by decide +kernel
theorem dX12_addRule_0 : decode cX12_addRule 0 = .ok (.aload_n 0, 1) := by decide +kernel
theorem dX12_addRule_1 : decode cX12_addRule 1 = .ok (.getfield 121, 3) := by decide +kernel
theorem dX12_addRule_4 : decode cX12_addRule 4 = .ok (.bipush 6, 2) := by decide +kernel
theorem dX12_addRule_6 : decode cX12_addRule 6 = .ok (.if_icmp .ne 6, 3) := by decide +kernel
theorem dX12_addRule_9 : decode cX12_addRule 9 = .ok (.bipush (-4), 2) := by decide +kernel
theorem dX12_addRule_11 : decode cX12_addRule 11 = .ok (.ireturn, 1) := by decide +kernel
theorem dX12_addRule_12 : decode cX12_addRule 12 = .ok (.aload_n 0, 1) := by decide +kernel
theorem dX12_addRule_13 : decode cX12_addRule 13 = .ok (.iconst 0, 1) := by decide +kernel
theorem dX12_addRule_14 : decode cX12_addRule 14 = .ok (.putfield 148, 3) := by decide +kernel
theorem dX12_addRule_17 : decode cX12_addRule 17 = .ok (.aload_n 0, 1) := by decide +kernel
theorem dX12_addRule_18 : decode cX12_addRule 18 = .ok (.getfield 40, 3) := by decide +kernel
theorem dX12_addRule_21 : decode cX12_addRule 21 = .ok (.iconst 0, 1) := by decide +kernel
theorem dX12_addRule_22 : decode cX12_addRule 22 = .ok (.iconst 0, 1) := by decide +kernel
theorem dX12_addRule_23 : decode cX12_addRule 23 = .ok (.iastore, 1) := by decide +kernel
theorem dX12_addRule_24 : decode cX12_addRule 24 = .ok (.aload_n 0, 1) := by decide +kernel
theorem dX12_addRule_25 : decode cX12_addRule 25 = .ok (.invokevirtual 161, 3) := by decide +kernel
theorem dX12_addRule_28 : decode cX12_addRule 28 = .ok (.ifCond .eq 16, 3) := by decide +kernel
theorem dX12_addRule_31 : decode cX12_addRule 31 = .ok (.aload_n 0, 1) := by decide +kernel
theorem dX12_addRule_32 : decode cX12_addRule 32 = .ok (.bipush 62, 2) := by decide +kernel
theorem dX12_addRule_34 : decode cX12_addRule 34 = .ok (.invokevirtual 158, 3) := by decide +kernel
theorem dX12_addRule_37 : decode cX12_addRule 37 = .ok (.ifCond .eq 7, 3) := by decide +kernel
theorem dX12_addRule_40 : decode cX12_addRule 40 = .ok (.iconst 1, 1) := by decide +kernel
theorem dX12_addRule_41 : decode cX12_addRule 41 = .ok (.goto 4, 3) := by decide +kernel
theorem dX12_addRule_44 : decode cX12_addRule 44 = .ok (.iconst 0, 1) := by decide +kernel
theorem dX12_addRule_45 : decode cX12_addRule 45 = .ok (.istore_n 1, 1) := by decide +kernel
theorem dX12_addRule_46 : decode cX12_addRule 46 = .ok (.iload_n 1, 1) := by decide +kernel
theorem dX12_addRule_47 : decode cX12_addRule 47 = .ok (.ifCond .eq 49, 3) := by decide +kernel
theorem dX12_addRule_50 : decode cX12_addRule 50 = .ok (.aload_n 0, 1) := by decide +kernel
theorem dX12_addRule_51 : decode cX12_addRule 51 = .ok (.getfield 40, 3) := by decide +kernel
theorem dX12_addRule_54 : decode cX12_addRule 54 = .ok (.iconst 0, 1) := by decide +kernel
theorem dX12_addRule_55 : decode cX12_addRule 55 = .ok (.aload_n 0, 1) := by decide +kernel
theorem dX12_addRule_56 : decode cX12_addRule 56 = .ok (.getfield 43, 3) := by decide +kernel
theorem dX12_addRule_59 : decode cX12_addRule 59 = .ok (.iconst 0, 1) := by decide +kernel
theorem dX12_addRule_60 : decode cX12_addRule 60 = .ok (.bipush 96, 2) := by decide +kernel
theorem dX12_addRule_62 : decode cX12_addRule 62 = .ok (.invokestatic 169, 3) := by decide +kernel
theorem dX12_addRule_65 : decode cX12_addRule 65 = .ok (.aload_n 0, 1) := by decide +kernel
theorem dX12_addRule_66 : decode cX12_addRule 66 = .ok (.getfield 40, 3) := by decide +kernel
theorem dX12_addRule_69 : decode cX12_addRule 69 = .ok (.iconst 0, 1) := by decide +kernel
theorem dX12_addRule_70 : decode cX12_addRule 70 = .ok (.iconst 0, 1) := by decide +kernel
theorem dX12_addRule_71 : decode cX12_addRule 71 = .ok (.iastore, 1) := by decide +kernel
theorem dX12_addRule_72 : decode cX12_addRule 72 = .ok (.aload_n 0, 1) := by decide +kernel
theorem dX12_addRule_73 : decode cX12_addRule 73 = .ok (.invokevirtual 161, 3) := by decide +kernel
theorem dX12_addRule_76 : decode cX12_addRule 76 = .ok (.ifCond .eq 18, 3) := by decide +kernel
theorem dX12_addRule_79 : decode cX12_addRule 79 = .ok (.aload_n 0, 1) := by decide +kernel
theorem dX12_addRule_80 : decode cX12_addRule 80 = .ok (.getfield 148, 3) := by decide +kernel
theorem dX12_addRule_83 : decode cX12_addRule 83 = .ok (.aload_n 0, 1) := by decide +kernel
theorem dX12_addRule_84 : decode cX12_addRule 84 = .ok (.getfield 151, 3) := by decide +kernel
theorem dX12_addRule_87 : decode cX12_addRule 87 = .ok (.if_icmp .ne 7, 3) := by decide +kernel
theorem dX12_addRule_90 : decode cX12_addRule 90 = .ok (.iconst 1, 1) := by decide +kernel
theorem dX12_addRule_91 : decode cX12_addRule 91 = .ok (.goto 4, 3) := by decide +kernel
theorem dX12_addRule_94 : decode cX12_addRule 94 = .ok (.iconst 0, 1) := by decide +kernel
theorem dX12_addRule_95 : decode cX12_addRule 95 = .ok (.istore_n 1, 1) := by decide +kernel
theorem dX12_addRule_96 : decode cX12_addRule 96 = .ok (.aload_n 0, 1) := by decide +kernel
theorem dX12_addRule_97 : decode cX12_addRule 97 = .ok (.iconst 0, 1) := by decide +kernel
theorem dX12_addRule_98 : decode cX12_addRule 98 = .ok (.putfield 151, 3) := by decide +kernel
theorem dX12_addRule_101 : decode cX12_addRule 101 = .ok (.iload_n 1, 1) := by decide +kernel
theorem dX12_addRule_102 : decode cX12_addRule 102 = .ok (.ifCond .ne 11, 3) := by decide +kernel
theorem dX12_addRule_105 : decode cX12_addRule 105 = .ok (.bipush (-100), 2) := by decide +kernel
theorem dX12_addRule_107 : decode cX12_addRule 107 = .ok (.aload_n 0, 1) := by decide +kernel
theorem dX12_addRule_108 : decode cX12_addRule 108 = .ok (.getfield 148, 3) := by decide +kernel
theorem dX12_addRule_111 : decode cX12_addRule 111 = .ok (.isub, 1) := by decide +kernel
theorem dX12_addRule_112 : decode cX12_addRule 112 = .ok (.ireturn, 1) := by decide +kernel
theorem dX12_addRule_113 : decode cX12_addRule 113 = .ok (.aload_n 0, 1) := by decide +kernel
theorem dX12_addRule_114 : decode cX12_addRule 114 = .ok (.invokevirtual 173, 3) := by decide +kernel
theorem dX12_addRule_117 : decode cX12_addRule 117 = .ok (.ifCond .ne 6, 3) := by decide +kernel
theorem dX12_addRule_120 : decode cX12_addRule 120 = .ok (.bipush (-6), 2) := by decide +kernel
theorem dX12_addRule_122 : decode cX12_addRule 122 = .ok (.ireturn, 1) := by decide +kernel
theorem dX12_addRule_123 : decode cX12_addRule 123 = .ok (.aload_n 0, 1) := by decide +kernel
theorem dX12_addRule_124 : decode cX12_addRule 124 = .ok (.getfield 43, 3) := by decide +kernel
theorem dX12_addRule_127 : decode cX12_addRule 127 = .ok (.iconst 0, 1) := by decide +kernel
theorem dX12_addRule_128 : decode cX12_addRule 128 = .ok (.aload_n 0, 1) := by decide +kernel
theorem dX12_addRule_129 : decode cX12_addRule 129 = .ok (.getfield 16, 3) := by decide +kernel
theorem dX12_addRule_132 : decode cX12_addRule 132 = .ok (.aload_n 0, 1) := by decide +kernel
theorem dX12_addRule_133 : decode cX12_addRule 133 = .ok (.getfield 121, 3) := by decide +kernel
theorem dX12_addRule_136 : decode cX12_addRule 136 = .ok (.invokestatic 125, 3) := by decide +kernel
theorem dX12_addRule_139 : decode cX12_addRule 139 = .ok (.bipush 96, 2) := by decide +kernel
theorem dX12_addRule_141 : decode cX12_addRule 141 = .ok (.invokestatic 169, 3) := by decide +kernel
theorem dX12_addRule_144 : decode cX12_addRule 144 = .ok (.aload_n 0, 1) := by decide +kernel
theorem dX12_addRule_145 : decode cX12_addRule 145 = .ok (.getfield 40, 3) := by decide +kernel
theorem dX12_addRule_148 : decode cX12_addRule 148 = .ok (.iconst 0, 1) := by decide +kernel
theorem dX12_addRule_149 : decode cX12_addRule 149 = .ok (.aload_n 0, 1) := by decide +kernel
theorem dX12_addRule_150 : decode cX12_addRule 150 = .ok (.getfield 16, 3) := by decide +kernel
theorem dX12_addRule_153 : decode cX12_addRule 153 = .ok (.aload_n 0, 1) := by decide +kernel
theorem dX12_addRule_154 : decode cX12_addRule 154 = .ok (.getfield 121, 3) := by decide +kernel
theorem dX12_addRule_157 : decode cX12_addRule 157 = .ok (.invokestatic 145, 3) := by decide +kernel
theorem dX12_addRule_160 : decode cX12_addRule 160 = .ok (.bipush 96, 2) := by decide +kernel
theorem dX12_addRule_162 : decode cX12_addRule 162 = .ok (.invokestatic 169, 3) := by decide +kernel
theorem dX12_addRule_165 : decode cX12_addRule 165 = .ok (.aload_n 0, 1) := by decide +kernel
theorem dX12_addRule_166 : decode cX12_addRule 166 = .ok (.dup, 1) := by decide +kernel
theorem dX12_addRule_167 : decode cX12_addRule 167 = .ok (.getfield 121, 3) := by decide +kernel
theorem dX12_addRule_170 : decode cX12_addRule 170 = .ok (.iconst 1, 1) := by decide +kernel
theorem dX12_addRule_171 : decode cX12_addRule 171 = .ok (.iadd, 1) := by decide +kernel
theorem dX12_addRule_172 : decode cX12_addRule 172 = .ok (.putfield 121, 3) := by decide +kernel
theorem dX12_addRule_175 : decode cX12_addRule 175 = .ok (.aload_n 0, 1) := by decide +kernel
theorem dX12_addRule_176 : decode cX12_addRule 176 = .ok (.getfield 121, 3) := by decide +kernel
theorem dX12_addRule_179 : decode cX12_addRule 179 = .ok (.iconst 1, 1) := by decide +kernel
theorem dX12_addRule_180 : decode cX12_addRule 180 = .ok (.isub, 1) := by decide +kernel
theorem dX12_addRule_181 : decode cX12_addRule 181 = .ok (.ireturn, 1) := by decide +kernel
theorem dX12_removeRule_0 : decode cX12_removeRule 0 = .ok (.aload_n 0, 1) := by decide +kernel
theorem dX12_removeRule_1 : decode cX12_removeRule 1 = .ok (.iload_n 1, 1) := by decide +kernel
theorem dX12_removeRule_2 : decode cX12_removeRule 2 = .ok (.invokevirtual 176, 3) := by decide +kernel
theorem dX12_removeRule_5 : decode cX12_removeRule 5 = .ok (.ifCond .ne 5, 3) := by decide +kernel
theorem dX12_removeRule_8 : decode cX12_removeRule 8 = .ok (.iconst (-1), 1) := by decide +kernel
theorem dX12_removeRule_9 : decode cX12_removeRule 9 = .ok (.ireturn, 1) := by decide +kernel
theorem dX12_removeRule_10 : decode cX12_removeRule 10 = .ok (.iload_n 1, 1) := by decide +kernel
theorem dX12_removeRule_11 : decode cX12_removeRule 11 = .ok (.invokestatic 125, 3) := by decide +kernel
theorem dX12_removeRule_14 : decode cX12_removeRule 14 = .ok (.istore_n 2, 1) := by decide +kernel
theorem dX12_removeRule_15 : decode cX12_removeRule 15 = .ok (.iload_n 2, 1) := by decide +kernel
theorem dX12_removeRule_16 : decode cX12_removeRule 16 = .ok (.aload_n 0, 1) := by decide +kernel
theorem dX12_removeRule_17 : decode cX12_removeRule 17 = .ok (.getfield 121, 3) := by decide +kernel
theorem dX12_removeRule_20 : decode cX12_removeRule 20 = .ok (.iconst 1, 1) := by decide +kernel
theorem dX12_removeRule_21 : decode cX12_removeRule 21 = .ok (.isub, 1) := by decide +kernel
theorem dX12_removeRule_22 : decode cX12_removeRule 22 = .ok (.invokestatic 125, 3) := by decide +kernel
theorem dX12_removeRule_25 : decode cX12_removeRule 25 = .ok (.if_icmp .ge 25, 3) := by decide +kernel
theorem dX12_removeRule_28 : decode cX12_removeRule 28 = .ok (.aload_n 0, 1) := by decide +kernel
theorem dX12_removeRule_29 : decode cX12_removeRule 29 = .ok (.getfield 16, 3) := by decide +kernel
theorem dX12_removeRule_32 : decode cX12_removeRule 32 = .ok (.iload_n 2, 1) := by decide +kernel
theorem dX12_removeRule_33 : decode cX12_removeRule 33 = .ok (.aload_n 0, 1) := by decide +kernel
theorem dX12_removeRule_34 : decode cX12_removeRule 34 = .ok (.getfield 16, 3) := by decide +kernel
theorem dX12_removeRule_37 : decode cX12_removeRule 37 = .ok (.iload_n 2, 1) := by decide +kernel
theorem dX12_removeRule_38 : decode cX12_removeRule 38 = .ok (.sipush 192, 3) := by decide +kernel
theorem dX12_removeRule_41 : decode cX12_removeRule 41 = .ok (.iadd, 1) := by decide +kernel
theorem dX12_removeRule_42 : decode cX12_removeRule 42 = .ok (.iaload, 1) := by decide +kernel
theorem dX12_removeRule_43 : decode cX12_removeRule 43 = .ok (.iastore, 1) := by decide +kernel
theorem dX12_removeRule_44 : decode cX12_removeRule 44 = .ok (.iinc 2 1, 3) := by decide +kernel
theorem dX12_removeRule_47 : decode cX12_removeRule 47 = .ok (.goto (-32), 3) := by decide +kernel
theorem dX12_removeRule_50 : decode cX12_removeRule 50 = .ok (.aload_n 0, 1) := by decide +kernel
theorem dX12_removeRule_51 : decode cX12_removeRule 51 = .ok (.dup, 1) := by decide +kernel
theorem dX12_removeRule_52 : decode cX12_removeRule 52 = .ok (.getfield 121, 3) := by decide +kernel
theorem dX12_removeRule_55 : decode cX12_removeRule 55 = .ok (.iconst 1, 1) := by decide +kernel
theorem dX12_removeRule_56 : decode cX12_removeRule 56 = .ok (.isub, 1) := by decide +kernel
theorem dX12_removeRule_57 : decode cX12_removeRule 57 = .ok (.putfield 121, 3) := by decide +kernel
theorem dX12_removeRule_60 : decode cX12_removeRule 60 = .ok (.aload_n 0, 1) := by decide +kernel
theorem dX12_removeRule_61 : decode cX12_removeRule 61 = .ok (.getfield 121, 3) := by decide +kernel
theorem dX12_removeRule_64 : decode cX12_removeRule 64 = .ok (.ireturn, 1) := by decide +kernel
theorem dX12_ruleCount_0 : decode cX12_ruleCount 0 = .ok (.aload_n 0, 1) := by decide +kernel
theorem dX12_ruleCount_1 : decode cX12_ruleCount 1 = .ok (.getfield 121, 3) := by decide +kernel
theorem dX12_ruleCount_4 : decode cX12_ruleCount 4 = .ok (.ireturn, 1) := by decide +kernel
theorem dX12_leftSize_0 : decode cX12_leftSize 0 = .ok (.aload_n 0, 1) := by decide +kernel
theorem dX12_leftSize_1 : decode cX12_leftSize 1 = .ok (.iload_n 1, 1) := by decide +kernel
theorem dX12_leftSize_2 : decode cX12_leftSize 2 = .ok (.invokevirtual 176, 3) := by decide +kernel
theorem dX12_leftSize_5 : decode cX12_leftSize 5 = .ok (.ifCond .eq 15, 3) := by decide +kernel
theorem dX12_leftSize_8 : decode cX12_leftSize 8 = .ok (.aload_n 0, 1) := by decide +kernel
theorem dX12_leftSize_9 : decode cX12_leftSize 9 = .ok (.getfield 16, 3) := by decide +kernel
theorem dX12_leftSize_12 : decode cX12_leftSize 12 = .ok (.iload_n 1, 1) := by decide +kernel
theorem dX12_leftSize_13 : decode cX12_leftSize 13 = .ok (.invokestatic 125, 3) := by decide +kernel
theorem dX12_leftSize_16 : decode cX12_leftSize 16 = .ok (.iaload, 1) := by decide +kernel
theorem dX12_leftSize_17 : decode cX12_leftSize 17 = .ok (.goto 4, 3) := by decide +kernel
theorem dX12_leftSize_20 : decode cX12_leftSize 20 = .ok (.iconst (-1), 1) := by decide +kernel
theorem dX12_leftSize_21 : decode cX12_leftSize 21 = .ok (.ireturn, 1) := by decide +kernel
theorem dX12_rightSize_0 : decode cX12_rightSize 0 = .ok (.aload_n 0, 1) := by decide +kernel
theorem dX12_rightSize_1 : decode cX12_rightSize 1 = .ok (.iload_n 1, 1) := by decide +kernel
theorem dX12_rightSize_2 : decode cX12_rightSize 2 = .ok (.invokevirtual 176, 3) := by decide +kernel
theorem dX12_rightSize_5 : decode cX12_rightSize 5 = .ok (.ifCond .eq 15, 3) := by decide +kernel
theorem dX12_rightSize_8 : decode cX12_rightSize 8 = .ok (.aload_n 0, 1) := by decide +kernel
theorem dX12_rightSize_9 : decode cX12_rightSize 9 = .ok (.getfield 16, 3) := by decide +kernel
theorem dX12_rightSize_12 : decode cX12_rightSize 12 = .ok (.iload_n 1, 1) := by decide +kernel
theorem dX12_rightSize_13 : decode cX12_rightSize 13 = .ok (.invokestatic 145, 3) := by decide +kernel
theorem dX12_rightSize_16 : decode cX12_rightSize 16 = .ok (.iaload, 1) := by decide +kernel
theorem dX12_rightSize_17 : decode cX12_rightSize 17 = .ok (.goto 4, 3) := by decide +kernel
theorem dX12_rightSize_20 : decode cX12_rightSize 20 = .ok (.iconst (-1), 1) := by decide +kernel
theorem dX12_rightSize_21 : decode cX12_rightSize 21 = .ok (.ireturn, 1) := by decide +kernel
theorem dX12_findPairs_0 : decode cX12_findPairs 0 = .ok (.iconst 0, 1) := by decide +kernel
theorem dX12_findPairs_1 : decode cX12_findPairs 1 = .ok (.istore_n 1, 1) := by decide +kernel
theorem dX12_findPairs_2 : decode cX12_findPairs 2 = .ok (.iconst 0, 1) := by decide +kernel
theorem dX12_findPairs_3 : decode cX12_findPairs 3 = .ok (.istore_n 2, 1) := by decide +kernel
theorem dX12_findPairs_4 : decode cX12_findPairs 4 = .ok (.iload_n 2, 1) := by decide +kernel
theorem dX12_findPairs_5 : decode cX12_findPairs 5 = .ok (.aload_n 0, 1) := by decide +kernel
theorem dX12_findPairs_6 : decode cX12_findPairs 6 = .ok (.getfield 121, 3) := by decide +kernel
theorem dX12_findPairs_9 : decode cX12_findPairs 9 = .ok (.if_icmp .ge 66, 3) := by decide +kernel
theorem dX12_findPairs_12 : decode cX12_findPairs 12 = .ok (.iconst 0, 1) := by decide +kernel
theorem dX12_findPairs_13 : decode cX12_findPairs 13 = .ok (.istore_n 3, 1) := by decide +kernel
theorem dX12_findPairs_14 : decode cX12_findPairs 14 = .ok (.iload_n 3, 1) := by decide +kernel
theorem dX12_findPairs_15 : decode cX12_findPairs 15 = .ok (.aload_n 0, 1) := by decide +kernel
theorem dX12_findPairs_16 : decode cX12_findPairs 16 = .ok (.getfield 16, 3) := by decide +kernel
theorem dX12_findPairs_19 : decode cX12_findPairs 19 = .ok (.iload_n 2, 1) := by decide +kernel
theorem dX12_findPairs_20 : decode cX12_findPairs 20 = .ok (.invokestatic 145, 3) := by decide +kernel
theorem dX12_findPairs_23 : decode cX12_findPairs 23 = .ok (.iaload, 1) := by decide +kernel
theorem dX12_findPairs_24 : decode cX12_findPairs 24 = .ok (.if_icmp .ge 45, 3) := by decide +kernel
theorem dX12_findPairs_27 : decode cX12_findPairs 27 = .ok (.aload_n 0, 1) := by decide +kernel
theorem dX12_findPairs_28 : decode cX12_findPairs 28 = .ok (.getfield 16, 3) := by decide +kernel
theorem dX12_findPairs_31 : decode cX12_findPairs 31 = .ok (.iload_n 2, 1) := by decide +kernel
theorem dX12_findPairs_32 : decode cX12_findPairs 32 = .ok (.invokestatic 145, 3) := by decide +kernel
theorem dX12_findPairs_35 : decode cX12_findPairs 35 = .ok (.iconst 1, 1) := by decide +kernel
theorem dX12_findPairs_36 : decode cX12_findPairs 36 = .ok (.iadd, 1) := by decide +kernel
theorem dX12_findPairs_37 : decode cX12_findPairs 37 = .ok (.iload_n 3, 1) := by decide +kernel
theorem dX12_findPairs_38 : decode cX12_findPairs 38 = .ok (.iadd, 1) := by decide +kernel
theorem dX12_findPairs_39 : decode cX12_findPairs 39 = .ok (.iaload, 1) := by decide +kernel
theorem dX12_findPairs_40 : decode cX12_findPairs 40 = .ok (.invokestatic 109, 3) := by decide +kernel
theorem dX12_findPairs_43 : decode cX12_findPairs 43 = .ok (.ifCond .eq 20, 3) := by decide +kernel
theorem dX12_findPairs_46 : decode cX12_findPairs 46 = .ok (.aload_n 0, 1) := by decide +kernel
theorem dX12_findPairs_47 : decode cX12_findPairs 47 = .ok (.getfield 46, 3) := by decide +kernel
theorem dX12_findPairs_50 : decode cX12_findPairs 50 = .ok (.iload_n 1, 1) := by decide +kernel
theorem dX12_findPairs_51 : decode cX12_findPairs 51 = .ok (.iload_n 2, 1) := by decide +kernel
theorem dX12_findPairs_52 : decode cX12_findPairs 52 = .ok (.iastore, 1) := by decide +kernel
theorem dX12_findPairs_53 : decode cX12_findPairs 53 = .ok (.aload_n 0, 1) := by decide +kernel
theorem dX12_findPairs_54 : decode cX12_findPairs 54 = .ok (.getfield 49, 3) := by decide +kernel
theorem dX12_findPairs_57 : decode cX12_findPairs 57 = .ok (.iload_n 1, 1) := by decide +kernel
theorem dX12_findPairs_58 : decode cX12_findPairs 58 = .ok (.iload_n 3, 1) := by decide +kernel
theorem dX12_findPairs_59 : decode cX12_findPairs 59 = .ok (.iastore, 1) := by decide +kernel
theorem dX12_findPairs_60 : decode cX12_findPairs 60 = .ok (.iinc 1 1, 3) := by decide +kernel
theorem dX12_findPairs_63 : decode cX12_findPairs 63 = .ok (.iinc 3 1, 3) := by decide +kernel
theorem dX12_findPairs_66 : decode cX12_findPairs 66 = .ok (.goto (-52), 3) := by decide +kernel
theorem dX12_findPairs_69 : decode cX12_findPairs 69 = .ok (.iinc 2 1, 3) := by decide +kernel
theorem dX12_findPairs_72 : decode cX12_findPairs 72 = .ok (.goto (-68), 3) := by decide +kernel
theorem dX12_findPairs_75 : decode cX12_findPairs 75 = .ok (.iload_n 1, 1) := by decide +kernel
theorem dX12_findPairs_76 : decode cX12_findPairs 76 = .ok (.ireturn, 1) := by decide +kernel
theorem dX12_source_0 : decode cX12_source 0 = .ok (.aload_n 0, 1) := by decide +kernel
theorem dX12_source_1 : decode cX12_source 1 = .ok (.getfield 46, 3) := by decide +kernel
theorem dX12_source_4 : decode cX12_source 4 = .ok (.iload_n 1, 1) := by decide +kernel
theorem dX12_source_5 : decode cX12_source 5 = .ok (.iaload, 1) := by decide +kernel
theorem dX12_source_6 : decode cX12_source 6 = .ok (.invokestatic 125, 3) := by decide +kernel
theorem dX12_source_9 : decode cX12_source 9 = .ok (.iconst 1, 1) := by decide +kernel
theorem dX12_source_10 : decode cX12_source 10 = .ok (.iadd, 1) := by decide +kernel
theorem dX12_source_11 : decode cX12_source 11 = .ok (.ireturn, 1) := by decide +kernel
theorem dX12_target_0 : decode cX12_target 0 = .ok (.aload_n 0, 1) := by decide +kernel
theorem dX12_target_1 : decode cX12_target 1 = .ok (.getfield 46, 3) := by decide +kernel
theorem dX12_target_4 : decode cX12_target 4 = .ok (.iload_n 1, 1) := by decide +kernel
theorem dX12_target_5 : decode cX12_target 5 = .ok (.iaload, 1) := by decide +kernel
theorem dX12_target_6 : decode cX12_target 6 = .ok (.invokestatic 145, 3) := by decide +kernel
theorem dX12_target_9 : decode cX12_target 9 = .ok (.iconst 1, 1) := by decide +kernel
theorem dX12_target_10 : decode cX12_target 10 = .ok (.iadd, 1) := by decide +kernel
theorem dX12_target_11 : decode cX12_target 11 = .ok (.aload_n 0, 1) := by decide +kernel
theorem dX12_target_12 : decode cX12_target 12 = .ok (.getfield 49, 3) := by decide +kernel
theorem dX12_target_15 : decode cX12_target 15 = .ok (.iload_n 1, 1) := by decide +kernel
theorem dX12_target_16 : decode cX12_target 16 = .ok (.iaload, 1) := by decide +kernel
theorem dX12_target_17 : decode cX12_target 17 = .ok (.iadd, 1) := by decide +kernel
theorem dX12_target_18 : decode cX12_target 18 = .ok (.ireturn, 1) := by decide +kernel
theorem dX12_sourceOf_0 : decode cX12_sourceOf 0 = .ok (.aload_n 0, 1) := by decide +kernel
theorem dX12_sourceOf_1 : decode cX12_sourceOf 1 = .ok (.getfield 16, 3) := by decide +kernel
theorem dX12_sourceOf_4 : decode cX12_sourceOf 4 = .ok (.aload_n 0, 1) := by decide +kernel
theorem dX12_sourceOf_5 : decode cX12_sourceOf 5 = .ok (.iload_n 1, 1) := by decide +kernel
theorem dX12_sourceOf_6 : decode cX12_sourceOf 6 = .ok (.invokevirtual 179, 3) := by decide +kernel
theorem dX12_sourceOf_9 : decode cX12_sourceOf 9 = .ok (.iaload, 1) := by decide +kernel
theorem dX12_sourceOf_10 : decode cX12_sourceOf 10 = .ok (.bipush 102, 2) := by decide +kernel
theorem dX12_sourceOf_12 : decode cX12_sourceOf 12 = .ok (.isub, 1) := by decide +kernel
theorem dX12_sourceOf_13 : decode cX12_sourceOf 13 = .ok (.ireturn, 1) := by decide +kernel
theorem dX12_targetOf_0 : decode cX12_targetOf 0 = .ok (.aload_n 0, 1) := by decide +kernel
theorem dX12_targetOf_1 : decode cX12_targetOf 1 = .ok (.getfield 16, 3) := by decide +kernel
theorem dX12_targetOf_4 : decode cX12_targetOf 4 = .ok (.aload_n 0, 1) := by decide +kernel
theorem dX12_targetOf_5 : decode cX12_targetOf 5 = .ok (.iload_n 1, 1) := by decide +kernel
theorem dX12_targetOf_6 : decode cX12_targetOf 6 = .ok (.invokevirtual 182, 3) := by decide +kernel
theorem dX12_targetOf_9 : decode cX12_targetOf 9 = .ok (.iaload, 1) := by decide +kernel
theorem dX12_targetOf_10 : decode cX12_targetOf 10 = .ok (.bipush 102, 2) := by decide +kernel
theorem dX12_targetOf_12 : decode cX12_targetOf 12 = .ok (.isub, 1) := by decide +kernel
theorem dX12_targetOf_13 : decode cX12_targetOf 13 = .ok (.ireturn, 1) := by decide +kernel
theorem dX12_pairCount_0 : decode cX12_pairCount 0 = .ok (.aload_n 0, 1) := by decide +kernel
theorem dX12_pairCount_1 : decode cX12_pairCount 1 = .ok (.invokevirtual 185, 3) := by decide +kernel
theorem dX12_pairCount_4 : decode cX12_pairCount 4 = .ok (.ireturn, 1) := by decide +kernel
theorem dX12_isPair_0 : decode cX12_isPair 0 = .ok (.iload_n 1, 1) := by decide +kernel
theorem dX12_isPair_1 : decode cX12_isPair 1 = .ok (.iconst 0, 1) := by decide +kernel
theorem dX12_isPair_2 : decode cX12_isPair 2 = .ok (.aload_n 0, 1) := by decide +kernel
theorem dX12_isPair_3 : decode cX12_isPair 3 = .ok (.invokevirtual 185, 3) := by decide +kernel
theorem dX12_isPair_6 : decode cX12_isPair 6 = .ok (.iconst 1, 1) := by decide +kernel
theorem dX12_isPair_7 : decode cX12_isPair 7 = .ok (.isub, 1) := by decide +kernel
theorem dX12_isPair_8 : decode cX12_isPair 8 = .ok (.invokestatic 105, 3) := by decide +kernel
theorem dX12_isPair_11 : decode cX12_isPair 11 = .ok (.ireturn, 1) := by decide +kernel
theorem dX12_pairRule_0 : decode cX12_pairRule 0 = .ok (.aload_n 0, 1) := by decide +kernel
theorem dX12_pairRule_1 : decode cX12_pairRule 1 = .ok (.iload_n 1, 1) := by decide +kernel
theorem dX12_pairRule_2 : decode cX12_pairRule 2 = .ok (.invokevirtual 188, 3) := by decide +kernel
theorem dX12_pairRule_5 : decode cX12_pairRule 5 = .ok (.ifCond .eq 12, 3) := by decide +kernel
theorem dX12_pairRule_8 : decode cX12_pairRule 8 = .ok (.aload_n 0, 1) := by decide +kernel
theorem dX12_pairRule_9 : decode cX12_pairRule 9 = .ok (.getfield 46, 3) := by decide +kernel
theorem dX12_pairRule_12 : decode cX12_pairRule 12 = .ok (.iload_n 1, 1) := by decide +kernel
theorem dX12_pairRule_13 : decode cX12_pairRule 13 = .ok (.iaload, 1) := by decide +kernel
theorem dX12_pairRule_14 : decode cX12_pairRule 14 = .ok (.goto 4, 3) := by decide +kernel
theorem dX12_pairRule_17 : decode cX12_pairRule 17 = .ok (.iconst (-1), 1) := by decide +kernel
theorem dX12_pairRule_18 : decode cX12_pairRule 18 = .ok (.ireturn, 1) := by decide +kernel
theorem dX12_pairPosition_0 : decode cX12_pairPosition 0 = .ok (.aload_n 0, 1) := by decide +kernel
theorem dX12_pairPosition_1 : decode cX12_pairPosition 1 = .ok (.iload_n 1, 1) := by decide +kernel
theorem dX12_pairPosition_2 : decode cX12_pairPosition 2 = .ok (.invokevirtual 188, 3) := by decide +kernel
theorem dX12_pairPosition_5 : decode cX12_pairPosition 5 = .ok (.ifCond .eq 12, 3) := by decide +kernel
theorem dX12_pairPosition_8 : decode cX12_pairPosition 8 = .ok (.aload_n 0, 1) := by decide +kernel
theorem dX12_pairPosition_9 : decode cX12_pairPosition 9 = .ok (.getfield 49, 3) := by decide +kernel
theorem dX12_pairPosition_12 : decode cX12_pairPosition 12 = .ok (.iload_n 1, 1) := by decide +kernel
theorem dX12_pairPosition_13 : decode cX12_pairPosition 13 = .ok (.iaload, 1) := by decide +kernel
theorem dX12_pairPosition_14 : decode cX12_pairPosition 14 = .ok (.goto 4, 3) := by decide +kernel
theorem dX12_pairPosition_17 : decode cX12_pairPosition 17 = .ok (.iconst (-1), 1) := by decide +kernel
theorem dX12_pairPosition_18 : decode cX12_pairPosition 18 = .ok (.ireturn, 1) := by decide +kernel
theorem dX12_sourceFunction_0 : decode cX12_sourceFunction 0 = .ok (.aload_n 0, 1) := by decide +kernel
theorem dX12_sourceFunction_1 : decode cX12_sourceFunction 1 = .ok (.iload_n 1, 1) := by decide +kernel
theorem dX12_sourceFunction_2 : decode cX12_sourceFunction 2 = .ok (.invokevirtual 188, 3) := by decide +kernel
theorem dX12_sourceFunction_5 : decode cX12_sourceFunction 5 = .ok (.ifCond .eq 11, 3) := by decide +kernel
theorem dX12_sourceFunction_8 : decode cX12_sourceFunction 8 = .ok (.aload_n 0, 1) := by decide +kernel
theorem dX12_sourceFunction_9 : decode cX12_sourceFunction 9 = .ok (.iload_n 1, 1) := by decide +kernel
theorem dX12_sourceFunction_10 : decode cX12_sourceFunction 10 = .ok (.invokevirtual 191, 3) := by decide +kernel
theorem dX12_sourceFunction_13 : decode cX12_sourceFunction 13 = .ok (.goto 4, 3) := by decide +kernel
theorem dX12_sourceFunction_16 : decode cX12_sourceFunction 16 = .ok (.iconst (-1), 1) := by decide +kernel
theorem dX12_sourceFunction_17 : decode cX12_sourceFunction 17 = .ok (.ireturn, 1) := by decide +kernel
theorem dX12_targetFunction_0 : decode cX12_targetFunction 0 = .ok (.aload_n 0, 1) := by decide +kernel
theorem dX12_targetFunction_1 : decode cX12_targetFunction 1 = .ok (.iload_n 1, 1) := by decide +kernel
theorem dX12_targetFunction_2 : decode cX12_targetFunction 2 = .ok (.invokevirtual 188, 3) := by decide +kernel
theorem dX12_targetFunction_5 : decode cX12_targetFunction 5 = .ok (.ifCond .eq 11, 3) := by decide +kernel
theorem dX12_targetFunction_8 : decode cX12_targetFunction 8 = .ok (.aload_n 0, 1) := by decide +kernel
theorem dX12_targetFunction_9 : decode cX12_targetFunction 9 = .ok (.iload_n 1, 1) := by decide +kernel
theorem dX12_targetFunction_10 : decode cX12_targetFunction 10 = .ok (.invokevirtual 194, 3) := by decide +kernel
theorem dX12_targetFunction_13 : decode cX12_targetFunction 13 = .ok (.goto 4, 3) := by decide +kernel
theorem dX12_targetFunction_16 : decode cX12_targetFunction 16 = .ok (.iconst (-1), 1) := by decide +kernel
theorem dX12_targetFunction_17 : decode cX12_targetFunction 17 = .ok (.ireturn, 1) := by decide +kernel
theorem dX12_isCompatible_0 : decode cX12_isCompatible 0 = .ok (.aload_n 0, 1) := by decide +kernel
theorem dX12_isCompatible_1 : decode cX12_isCompatible 1 = .ok (.getfield 16, 3) := by decide +kernel
theorem dX12_isCompatible_4 : decode cX12_isCompatible 4 = .ok (.iload_n 1, 1) := by decide +kernel
theorem dX12_isCompatible_5 : decode cX12_isCompatible 5 = .ok (.iaload, 1) := by decide +kernel
theorem dX12_isCompatible_6 : decode cX12_isCompatible 6 = .ok (.istore_n 3, 1) := by decide +kernel
theorem dX12_isCompatible_7 : decode cX12_isCompatible 7 = .ok (.aload_n 0, 1) := by decide +kernel
theorem dX12_isCompatible_8 : decode cX12_isCompatible 8 = .ok (.getfield 16, 3) := by decide +kernel
theorem dX12_isCompatible_11 : decode cX12_isCompatible 11 = .ok (.iload_n 2, 1) := by decide +kernel
theorem dX12_isCompatible_12 : decode cX12_isCompatible 12 = .ok (.iaload, 1) := by decide +kernel
theorem dX12_isCompatible_13 : decode cX12_isCompatible 13 = .ok (.istore 4, 2) := by decide +kernel
theorem dX12_isCompatible_15 : decode cX12_isCompatible 15 = .ok (.iload_n 3, 1) := by decide +kernel
theorem dX12_isCompatible_16 : decode cX12_isCompatible 16 = .ok (.invokestatic 128, 3) := by decide +kernel
theorem dX12_isCompatible_19 : decode cX12_isCompatible 19 = .ok (.ifCond .ne 18, 3) := by decide +kernel
theorem dX12_isCompatible_22 : decode cX12_isCompatible 22 = .ok (.iload 4, 2) := by decide +kernel
theorem dX12_isCompatible_24 : decode cX12_isCompatible 24 = .ok (.invokestatic 128, 3) := by decide +kernel
theorem dX12_isCompatible_27 : decode cX12_isCompatible 27 = .ok (.ifCond .ne 10, 3) := by decide +kernel
theorem dX12_isCompatible_30 : decode cX12_isCompatible 30 = .ok (.iload_n 3, 1) := by decide +kernel
theorem dX12_isCompatible_31 : decode cX12_isCompatible 31 = .ok (.invokestatic 109, 3) := by decide +kernel
theorem dX12_isCompatible_34 : decode cX12_isCompatible 34 = .ok (.ifCond .eq 5, 3) := by decide +kernel
theorem dX12_isCompatible_37 : decode cX12_isCompatible 37 = .ok (.iconst 1, 1) := by decide +kernel
theorem dX12_isCompatible_38 : decode cX12_isCompatible 38 = .ok (.ireturn, 1) := by decide +kernel
theorem dX12_isCompatible_39 : decode cX12_isCompatible 39 = .ok (.iload_n 3, 1) := by decide +kernel
theorem dX12_isCompatible_40 : decode cX12_isCompatible 40 = .ok (.iload 4, 2) := by decide +kernel
theorem dX12_isCompatible_42 : decode cX12_isCompatible 42 = .ok (.if_icmp .ne 16, 3) := by decide +kernel
theorem dX12_isCompatible_45 : decode cX12_isCompatible 45 = .ok (.aload_n 0, 1) := by decide +kernel
theorem dX12_isCompatible_46 : decode cX12_isCompatible 46 = .ok (.iload_n 1, 1) := by decide +kernel
theorem dX12_isCompatible_47 : decode cX12_isCompatible 47 = .ok (.iload_n 2, 1) := by decide +kernel
theorem dX12_isCompatible_48 : decode cX12_isCompatible 48 = .ok (.invokevirtual 197, 3) := by decide +kernel
theorem dX12_isCompatible_51 : decode cX12_isCompatible 51 = .ok (.ifCond .eq 7, 3) := by decide +kernel
theorem dX12_isCompatible_54 : decode cX12_isCompatible 54 = .ok (.iconst 1, 1) := by decide +kernel
theorem dX12_isCompatible_55 : decode cX12_isCompatible 55 = .ok (.goto 4, 3) := by decide +kernel
theorem dX12_isCompatible_58 : decode cX12_isCompatible 58 = .ok (.iconst 0, 1) := by decide +kernel
theorem dX12_isCompatible_59 : decode cX12_isCompatible 59 = .ok (.ireturn, 1) := by decide +kernel
theorem dX12_areArgumentsCompatible_0 : decode cX12_areArgumentsCompatible 0 = .ok (.iconst 1, 1) := by decide +kernel
theorem dX12_areArgumentsCompatible_1 : decode cX12_areArgumentsCompatible 1 = .ok (.istore_n 3, 1) := by decide +kernel
theorem dX12_areArgumentsCompatible_2 : decode cX12_areArgumentsCompatible 2 = .ok (.iconst 0, 1) := by decide +kernel
theorem dX12_areArgumentsCompatible_3 : decode cX12_areArgumentsCompatible 3 = .ok (.istore 4, 2) := by decide +kernel
theorem dX12_areArgumentsCompatible_5 : decode cX12_areArgumentsCompatible 5 = .ok (.iload 4, 2) := by decide +kernel
theorem dX12_areArgumentsCompatible_7 : decode cX12_areArgumentsCompatible 7 = .ok (.aload_n 0, 1) := by decide +kernel
theorem dX12_areArgumentsCompatible_8 : decode cX12_areArgumentsCompatible 8 = .ok (.aload_n 0, 1) := by decide +kernel
theorem dX12_areArgumentsCompatible_9 : decode cX12_areArgumentsCompatible 9 = .ok (.getfield 16, 3) := by decide +kernel
theorem dX12_areArgumentsCompatible_12 : decode cX12_areArgumentsCompatible 12 = .ok (.iload_n 1, 1) := by decide +kernel
theorem dX12_areArgumentsCompatible_13 : decode cX12_areArgumentsCompatible 13 = .ok (.iaload, 1) := by decide +kernel
theorem dX12_areArgumentsCompatible_14 : decode cX12_areArgumentsCompatible 14 = .ok (.invokevirtual 113, 3) := by decide +kernel
theorem dX12_areArgumentsCompatible_17 : decode cX12_areArgumentsCompatible 17 = .ok (.if_icmp .ge 40, 3) := by decide +kernel
theorem dX12_areArgumentsCompatible_20 : decode cX12_areArgumentsCompatible 20 = .ok (.iload_n 3, 1) := by decide +kernel
theorem dX12_areArgumentsCompatible_21 : decode cX12_areArgumentsCompatible 21 = .ok (.ifCond .eq 36, 3) := by decide +kernel
theorem dX12_areArgumentsCompatible_24 : decode cX12_areArgumentsCompatible 24 = .ok (.aload_n 0, 1) := by decide +kernel
theorem dX12_areArgumentsCompatible_25 : decode cX12_areArgumentsCompatible 25 = .ok (.aload_n 0, 1) := by decide +kernel
theorem dX12_areArgumentsCompatible_26 : decode cX12_areArgumentsCompatible 26 = .ok (.aload_n 0, 1) := by decide +kernel
theorem dX12_areArgumentsCompatible_27 : decode cX12_areArgumentsCompatible 27 = .ok (.getfield 16, 3) := by decide +kernel
theorem dX12_areArgumentsCompatible_30 : decode cX12_areArgumentsCompatible 30 = .ok (.iload_n 1, 1) := by decide +kernel
theorem dX12_areArgumentsCompatible_31 : decode cX12_areArgumentsCompatible 31 = .ok (.iload 4, 2) := by decide +kernel
theorem dX12_areArgumentsCompatible_33 : decode cX12_areArgumentsCompatible 33 = .ok (.invokevirtual 201, 3) := by decide +kernel
theorem dX12_areArgumentsCompatible_36 : decode cX12_areArgumentsCompatible 36 = .ok (.aload_n 0, 1) := by decide +kernel
theorem dX12_areArgumentsCompatible_37 : decode cX12_areArgumentsCompatible 37 = .ok (.aload_n 0, 1) := by decide +kernel
theorem dX12_areArgumentsCompatible_38 : decode cX12_areArgumentsCompatible 38 = .ok (.getfield 16, 3) := by decide +kernel
theorem dX12_areArgumentsCompatible_41 : decode cX12_areArgumentsCompatible 41 = .ok (.iload_n 2, 1) := by decide +kernel
theorem dX12_areArgumentsCompatible_42 : decode cX12_areArgumentsCompatible 42 = .ok (.iload 4, 2) := by decide +kernel
theorem dX12_areArgumentsCompatible_44 : decode cX12_areArgumentsCompatible 44 = .ok (.invokevirtual 201, 3) := by decide +kernel
theorem dX12_areArgumentsCompatible_47 : decode cX12_areArgumentsCompatible 47 = .ok (.invokevirtual 205, 3) := by decide +kernel
theorem dX12_areArgumentsCompatible_50 : decode cX12_areArgumentsCompatible 50 = .ok (.istore_n 3, 1) := by decide +kernel
theorem dX12_areArgumentsCompatible_51 : decode cX12_areArgumentsCompatible 51 = .ok (.iinc 4 1, 3) := by decide +kernel
theorem dX12_areArgumentsCompatible_54 : decode cX12_areArgumentsCompatible 54 = .ok (.goto (-49), 3) := by decide +kernel
theorem dX12_areArgumentsCompatible_57 : decode cX12_areArgumentsCompatible 57 = .ok (.iload_n 3, 1) := by decide +kernel
theorem dX12_areArgumentsCompatible_58 : decode cX12_areArgumentsCompatible 58 = .ok (.ireturn, 1) := by decide +kernel
theorem dX12_isEdge_0 : decode cX12_isEdge 0 = .ok (.aload_n 0, 1) := by decide +kernel
theorem dX12_isEdge_1 : decode cX12_isEdge 1 = .ok (.iload_n 1, 1) := by decide +kernel
theorem dX12_isEdge_2 : decode cX12_isEdge 2 = .ok (.invokevirtual 194, 3) := by decide +kernel
theorem dX12_isEdge_5 : decode cX12_isEdge 5 = .ok (.aload_n 0, 1) := by decide +kernel
theorem dX12_isEdge_6 : decode cX12_isEdge 6 = .ok (.iload_n 2, 1) := by decide +kernel
theorem dX12_isEdge_7 : decode cX12_isEdge 7 = .ok (.invokevirtual 191, 3) := by decide +kernel
theorem dX12_isEdge_10 : decode cX12_isEdge 10 = .ok (.if_icmp .ne 24, 3) := by decide +kernel
theorem dX12_isEdge_13 : decode cX12_isEdge 13 = .ok (.aload_n 0, 1) := by decide +kernel
theorem dX12_isEdge_14 : decode cX12_isEdge 14 = .ok (.aload_n 0, 1) := by decide +kernel
theorem dX12_isEdge_15 : decode cX12_isEdge 15 = .ok (.iload_n 1, 1) := by decide +kernel
theorem dX12_isEdge_16 : decode cX12_isEdge 16 = .ok (.invokevirtual 182, 3) := by decide +kernel
theorem dX12_isEdge_19 : decode cX12_isEdge 19 = .ok (.aload_n 0, 1) := by decide +kernel
theorem dX12_isEdge_20 : decode cX12_isEdge 20 = .ok (.iload_n 2, 1) := by decide +kernel
theorem dX12_isEdge_21 : decode cX12_isEdge 21 = .ok (.invokevirtual 179, 3) := by decide +kernel
theorem dX12_isEdge_24 : decode cX12_isEdge 24 = .ok (.invokevirtual 197, 3) := by decide +kernel
theorem dX12_isEdge_27 : decode cX12_isEdge 27 = .ok (.ifCond .eq 7, 3) := by decide +kernel
theorem dX12_isEdge_30 : decode cX12_isEdge 30 = .ok (.iconst 1, 1) := by decide +kernel
theorem dX12_isEdge_31 : decode cX12_isEdge 31 = .ok (.goto 4, 3) := by decide +kernel
theorem dX12_isEdge_34 : decode cX12_isEdge 34 = .ok (.iconst 0, 1) := by decide +kernel
theorem dX12_isEdge_35 : decode cX12_isEdge 35 = .ok (.ireturn, 1) := by decide +kernel
theorem dX12_hasEdge_0 : decode cX12_hasEdge 0 = .ok (.aload_n 0, 1) := by decide +kernel
theorem dX12_hasEdge_1 : decode cX12_hasEdge 1 = .ok (.iload_n 1, 1) := by decide +kernel
theorem dX12_hasEdge_2 : decode cX12_hasEdge 2 = .ok (.invokevirtual 188, 3) := by decide +kernel
theorem dX12_hasEdge_5 : decode cX12_hasEdge 5 = .ok (.ifCond .eq 28, 3) := by decide +kernel
theorem dX12_hasEdge_8 : decode cX12_hasEdge 8 = .ok (.aload_n 0, 1) := by decide +kernel
theorem dX12_hasEdge_9 : decode cX12_hasEdge 9 = .ok (.iload_n 2, 1) := by decide +kernel
theorem dX12_hasEdge_10 : decode cX12_hasEdge 10 = .ok (.invokevirtual 188, 3) := by decide +kernel
theorem dX12_hasEdge_13 : decode cX12_hasEdge 13 = .ok (.ifCond .eq 20, 3) := by decide +kernel
theorem dX12_hasEdge_16 : decode cX12_hasEdge 16 = .ok (.aload_n 0, 1) := by decide +kernel
theorem dX12_hasEdge_17 : decode cX12_hasEdge 17 = .ok (.iload_n 1, 1) := by decide +kernel
theorem dX12_hasEdge_18 : decode cX12_hasEdge 18 = .ok (.iload_n 2, 1) := by decide +kernel
theorem dX12_hasEdge_19 : decode cX12_hasEdge 19 = .ok (.invokevirtual 208, 3) := by decide +kernel
theorem dX12_hasEdge_22 : decode cX12_hasEdge 22 = .ok (.ifCond .eq 7, 3) := by decide +kernel
theorem dX12_hasEdge_25 : decode cX12_hasEdge 25 = .ok (.iconst 1, 1) := by decide +kernel
theorem dX12_hasEdge_26 : decode cX12_hasEdge 26 = .ok (.goto 8, 3) := by decide +kernel
theorem dX12_hasEdge_29 : decode cX12_hasEdge 29 = .ok (.iconst 0, 1) := by decide +kernel
theorem dX12_hasEdge_30 : decode cX12_hasEdge 30 = .ok (.goto 4, 3) := by decide +kernel
theorem dX12_hasEdge_33 : decode cX12_hasEdge 33 = .ok (.iconst (-1), 1) := by decide +kernel
theorem dX12_hasEdge_34 : decode cX12_hasEdge 34 = .ok (.ireturn, 1) := by decide +kernel
theorem dX12_edgeCount_0 : decode cX12_edgeCount 0 = .ok (.aload_n 0, 1) := by decide +kernel
theorem dX12_edgeCount_1 : decode cX12_edgeCount 1 = .ok (.invokevirtual 185, 3) := by decide +kernel
theorem dX12_edgeCount_4 : decode cX12_edgeCount 4 = .ok (.istore_n 1, 1) := by decide +kernel
theorem dX12_edgeCount_5 : decode cX12_edgeCount 5 = .ok (.iconst 0, 1) := by decide +kernel
theorem dX12_edgeCount_6 : decode cX12_edgeCount 6 = .ok (.istore_n 2, 1) := by decide +kernel
theorem dX12_edgeCount_7 : decode cX12_edgeCount 7 = .ok (.iconst 0, 1) := by decide +kernel
theorem dX12_edgeCount_8 : decode cX12_edgeCount 8 = .ok (.istore_n 3, 1) := by decide +kernel
theorem dX12_edgeCount_9 : decode cX12_edgeCount 9 = .ok (.iload_n 3, 1) := by decide +kernel
theorem dX12_edgeCount_10 : decode cX12_edgeCount 10 = .ok (.iload_n 1, 1) := by decide +kernel
theorem dX12_edgeCount_11 : decode cX12_edgeCount 11 = .ok (.if_icmp .ge 42, 3) := by decide +kernel
theorem dX12_edgeCount_14 : decode cX12_edgeCount 14 = .ok (.iconst 0, 1) := by decide +kernel
theorem dX12_edgeCount_15 : decode cX12_edgeCount 15 = .ok (.istore 4, 2) := by decide +kernel
theorem dX12_edgeCount_17 : decode cX12_edgeCount 17 = .ok (.iload 4, 2) := by decide +kernel
theorem dX12_edgeCount_19 : decode cX12_edgeCount 19 = .ok (.iload_n 1, 1) := by decide +kernel
theorem dX12_edgeCount_20 : decode cX12_edgeCount 20 = .ok (.if_icmp .ge 27, 3) := by decide +kernel
theorem dX12_edgeCount_23 : decode cX12_edgeCount 23 = .ok (.iload_n 2, 1) := by decide +kernel
theorem dX12_edgeCount_24 : decode cX12_edgeCount 24 = .ok (.aload_n 0, 1) := by decide +kernel
theorem dX12_edgeCount_25 : decode cX12_edgeCount 25 = .ok (.iload_n 3, 1) := by decide +kernel
theorem dX12_edgeCount_26 : decode cX12_edgeCount 26 = .ok (.iload 4, 2) := by decide +kernel
theorem dX12_edgeCount_28 : decode cX12_edgeCount 28 = .ok (.invokevirtual 208, 3) := by decide +kernel
theorem dX12_edgeCount_31 : decode cX12_edgeCount 31 = .ok (.ifCond .eq 7, 3) := by decide +kernel
theorem dX12_edgeCount_34 : decode cX12_edgeCount 34 = .ok (.iconst 1, 1) := by decide +kernel
theorem dX12_edgeCount_35 : decode cX12_edgeCount 35 = .ok (.goto 4, 3) := by decide +kernel
theorem dX12_edgeCount_38 : decode cX12_edgeCount 38 = .ok (.iconst 0, 1) := by decide +kernel
theorem dX12_edgeCount_39 : decode cX12_edgeCount 39 = .ok (.iadd, 1) := by decide +kernel
theorem dX12_edgeCount_40 : decode cX12_edgeCount 40 = .ok (.istore_n 2, 1) := by decide +kernel
theorem dX12_edgeCount_41 : decode cX12_edgeCount 41 = .ok (.iinc 4 1, 3) := by decide +kernel
theorem dX12_edgeCount_44 : decode cX12_edgeCount 44 = .ok (.goto (-27), 3) := by decide +kernel
theorem dX12_edgeCount_47 : decode cX12_edgeCount 47 = .ok (.iinc 3 1, 3) := by decide +kernel
theorem dX12_edgeCount_50 : decode cX12_edgeCount 50 = .ok (.goto (-41), 3) := by decide +kernel
theorem dX12_edgeCount_53 : decode cX12_edgeCount 53 = .ok (.iload_n 2, 1) := by decide +kernel
theorem dX12_edgeCount_54 : decode cX12_edgeCount 54 = .ok (.ireturn, 1) := by decide +kernel
theorem dX12_hasBit_0 : decode cX12_hasBit 0 = .ok (.aload_n 0, 1) := by decide +kernel
theorem dX12_hasBit_1 : decode cX12_hasBit 1 = .ok (.iconst 4, 1) := by decide +kernel
theorem dX12_hasBit_2 : decode cX12_hasBit 2 = .ok (.iload_n 1, 1) := by decide +kernel
theorem dX12_hasBit_3 : decode cX12_hasBit 3 = .ok (.imul, 1) := by decide +kernel
theorem dX12_hasBit_4 : decode cX12_hasBit 4 = .ok (.iload_n 2, 1) := by decide +kernel
theorem dX12_hasBit_5 : decode cX12_hasBit 5 = .ok (.bipush 64, 2) := by decide +kernel
theorem dX12_hasBit_7 : decode cX12_hasBit 7 = .ok (.idiv, 1) := by decide +kernel
theorem dX12_hasBit_8 : decode cX12_hasBit 8 = .ok (.iadd, 1) := by decide +kernel
theorem dX12_hasBit_9 : decode cX12_hasBit 9 = .ok (.laload, 1) := by decide +kernel
theorem dX12_hasBit_10 : decode cX12_hasBit 10 = .ok (.iload_n 2, 1) := by decide +kernel
theorem dX12_hasBit_11 : decode cX12_hasBit 11 = .ok (.lshr, 1) := by decide +kernel
theorem dX12_hasBit_12 : decode cX12_hasBit 12 = .ok (.lconst 1, 1) := by decide +kernel
theorem dX12_hasBit_13 : decode cX12_hasBit 13 = .ok (.land, 1) := by decide +kernel
theorem dX12_hasBit_14 : decode cX12_hasBit 14 = .ok (.lconst 1, 1) := by decide +kernel
theorem dX12_hasBit_15 : decode cX12_hasBit 15 = .ok (.lcmp, 1) := by decide +kernel
theorem dX12_hasBit_16 : decode cX12_hasBit 16 = .ok (.ifCond .ne 7, 3) := by decide +kernel
theorem dX12_hasBit_19 : decode cX12_hasBit 19 = .ok (.iconst 1, 1) := by decide +kernel
theorem dX12_hasBit_20 : decode cX12_hasBit 20 = .ok (.goto 4, 3) := by decide +kernel
theorem dX12_hasBit_23 : decode cX12_hasBit 23 = .ok (.iconst 0, 1) := by decide +kernel
theorem dX12_hasBit_24 : decode cX12_hasBit 24 = .ok (.ireturn, 1) := by decide +kernel
theorem dX12_findGraph_0 : decode cX12_findGraph 0 = .ok (.aload_n 0, 1) := by decide +kernel
theorem dX12_findGraph_1 : decode cX12_findGraph 1 = .ok (.aload_n 0, 1) := by decide +kernel
theorem dX12_findGraph_2 : decode cX12_findGraph 2 = .ok (.invokevirtual 185, 3) := by decide +kernel
theorem dX12_findGraph_5 : decode cX12_findGraph 5 = .ok (.putfield 211, 3) := by decide +kernel
theorem dX12_findGraph_8 : decode cX12_findGraph 8 = .ok (.iconst 0, 1) := by decide +kernel
theorem dX12_findGraph_9 : decode cX12_findGraph 9 = .ok (.istore_n 1, 1) := by decide +kernel
theorem dX12_findGraph_10 : decode cX12_findGraph 10 = .ok (.iload_n 1, 1) := by decide +kernel
theorem dX12_findGraph_11 : decode cX12_findGraph 11 = .ok (.aload_n 0, 1) := by decide +kernel
theorem dX12_findGraph_12 : decode cX12_findGraph 12 = .ok (.getfield 211, 3) := by decide +kernel
theorem dX12_findGraph_15 : decode cX12_findGraph 15 = .ok (.if_icmp .ge 88, 3) := by decide +kernel
theorem dX12_findGraph_18 : decode cX12_findGraph 18 = .ok (.aload_n 0, 1) := by decide +kernel
theorem dX12_findGraph_19 : decode cX12_findGraph 19 = .ok (.getfield 59, 3) := by decide +kernel
theorem dX12_findGraph_22 : decode cX12_findGraph 22 = .ok (.iload_n 1, 1) := by decide +kernel
theorem dX12_findGraph_23 : decode cX12_findGraph 23 = .ok (.iconst 1, 1) := by decide +kernel
theorem dX12_findGraph_24 : decode cX12_findGraph 24 = .ok (.bastore, 1) := by decide +kernel
theorem dX12_findGraph_25 : decode cX12_findGraph 25 = .ok (.iconst 0, 1) := by decide +kernel
theorem dX12_findGraph_26 : decode cX12_findGraph 26 = .ok (.istore_n 2, 1) := by decide +kernel
theorem dX12_findGraph_27 : decode cX12_findGraph 27 = .ok (.iload_n 2, 1) := by decide +kernel
theorem dX12_findGraph_28 : decode cX12_findGraph 28 = .ok (.iconst 4, 1) := by decide +kernel
theorem dX12_findGraph_29 : decode cX12_findGraph 29 = .ok (.if_icmp .ge 20, 3) := by decide +kernel
theorem dX12_findGraph_32 : decode cX12_findGraph 32 = .ok (.aload_n 0, 1) := by decide +kernel
theorem dX12_findGraph_33 : decode cX12_findGraph 33 = .ok (.getfield 52, 3) := by decide +kernel
theorem dX12_findGraph_36 : decode cX12_findGraph 36 = .ok (.iconst 4, 1) := by decide +kernel
theorem dX12_findGraph_37 : decode cX12_findGraph 37 = .ok (.iload_n 1, 1) := by decide +kernel
theorem dX12_findGraph_38 : decode cX12_findGraph 38 = .ok (.imul, 1) := by decide +kernel
theorem dX12_findGraph_39 : decode cX12_findGraph 39 = .ok (.iload_n 2, 1) := by decide +kernel
theorem dX12_findGraph_40 : decode cX12_findGraph 40 = .ok (.iadd, 1) := by decide +kernel
theorem dX12_findGraph_41 : decode cX12_findGraph 41 = .ok (.lconst 0, 1) := by decide +kernel
theorem dX12_findGraph_42 : decode cX12_findGraph 42 = .ok (.lastore, 1) := by decide +kernel
theorem dX12_findGraph_43 : decode cX12_findGraph 43 = .ok (.iinc 2 1, 3) := by decide +kernel
theorem dX12_findGraph_46 : decode cX12_findGraph 46 = .ok (.goto (-19), 3) := by decide +kernel
theorem dX12_findGraph_49 : decode cX12_findGraph 49 = .ok (.iconst 0, 1) := by decide +kernel
theorem dX12_findGraph_50 : decode cX12_findGraph 50 = .ok (.istore_n 2, 1) := by decide +kernel
theorem dX12_findGraph_51 : decode cX12_findGraph 51 = .ok (.iload_n 2, 1) := by decide +kernel
theorem dX12_findGraph_52 : decode cX12_findGraph 52 = .ok (.aload_n 0, 1) := by decide +kernel
theorem dX12_findGraph_53 : decode cX12_findGraph 53 = .ok (.getfield 211, 3) := by decide +kernel
theorem dX12_findGraph_56 : decode cX12_findGraph 56 = .ok (.if_icmp .ge 41, 3) := by decide +kernel
theorem dX12_findGraph_59 : decode cX12_findGraph 59 = .ok (.aload_n 0, 1) := by decide +kernel
theorem dX12_findGraph_60 : decode cX12_findGraph 60 = .ok (.getfield 52, 3) := by decide +kernel
theorem dX12_findGraph_63 : decode cX12_findGraph 63 = .ok (.iconst 4, 1) := by decide +kernel
theorem dX12_findGraph_64 : decode cX12_findGraph 64 = .ok (.iload_n 1, 1) := by decide +kernel
theorem dX12_findGraph_65 : decode cX12_findGraph 65 = .ok (.imul, 1) := by decide +kernel
theorem dX12_findGraph_66 : decode cX12_findGraph 66 = .ok (.iload_n 2, 1) := by decide +kernel
theorem dX12_findGraph_67 : decode cX12_findGraph 67 = .ok (.bipush 64, 2) := by decide +kernel
theorem dX12_findGraph_69 : decode cX12_findGraph 69 = .ok (.idiv, 1) := by decide +kernel
theorem dX12_findGraph_70 : decode cX12_findGraph 70 = .ok (.iadd, 1) := by decide +kernel
theorem dX12_findGraph_71 : decode cX12_findGraph 71 = .ok (.dup2, 1) := by decide +kernel
theorem dX12_findGraph_72 : decode cX12_findGraph 72 = .ok (.laload, 1) := by decide +kernel
theorem dX12_findGraph_73 : decode cX12_findGraph 73 = .ok (.aload_n 0, 1) := by decide +kernel
theorem dX12_findGraph_74 : decode cX12_findGraph 74 = .ok (.iload_n 1, 1) := by decide +kernel
theorem dX12_findGraph_75 : decode cX12_findGraph 75 = .ok (.iload_n 2, 1) := by decide +kernel
theorem dX12_findGraph_76 : decode cX12_findGraph 76 = .ok (.invokevirtual 208, 3) := by decide +kernel
theorem dX12_findGraph_79 : decode cX12_findGraph 79 = .ok (.ifCond .eq 9, 3) := by decide +kernel
theorem dX12_findGraph_82 : decode cX12_findGraph 82 = .ok (.lconst 1, 1) := by decide +kernel
theorem dX12_findGraph_83 : decode cX12_findGraph 83 = .ok (.iload_n 2, 1) := by decide +kernel
theorem dX12_findGraph_84 : decode cX12_findGraph 84 = .ok (.lshl, 1) := by decide +kernel
theorem dX12_findGraph_85 : decode cX12_findGraph 85 = .ok (.goto 4, 3) := by decide +kernel
theorem dX12_findGraph_88 : decode cX12_findGraph 88 = .ok (.lconst 0, 1) := by decide +kernel
theorem dX12_findGraph_89 : decode cX12_findGraph 89 = .ok (.lor, 1) := by decide +kernel
theorem dX12_findGraph_90 : decode cX12_findGraph 90 = .ok (.lastore, 1) := by decide +kernel
theorem dX12_findGraph_91 : decode cX12_findGraph 91 = .ok (.iinc 2 1, 3) := by decide +kernel
theorem dX12_findGraph_94 : decode cX12_findGraph 94 = .ok (.goto (-43), 3) := by decide +kernel
theorem dX12_findGraph_97 : decode cX12_findGraph 97 = .ok (.iinc 1 1, 3) := by decide +kernel
theorem dX12_findGraph_100 : decode cX12_findGraph 100 = .ok (.goto (-90), 3) := by decide +kernel
theorem dX12_findGraph_103 : decode cX12_findGraph 103 = .ok (.return_, 1) := by decide +kernel
theorem dX12_findComponents_0 : decode cX12_findComponents 0 = .ok (.iconst 0, 1) := by decide +kernel
theorem dX12_findComponents_1 : decode cX12_findComponents 1 = .ok (.istore_n 1, 1) := by decide +kernel
theorem dX12_findComponents_2 : decode cX12_findComponents 2 = .ok (.iload_n 1, 1) := by decide +kernel
theorem dX12_findComponents_3 : decode cX12_findComponents 3 = .ok (.aload_n 0, 1) := by decide +kernel
theorem dX12_findComponents_4 : decode cX12_findComponents 4 = .ok (.getfield 211, 3) := by decide +kernel
theorem dX12_findComponents_7 : decode cX12_findComponents 7 = .ok (.if_icmp .ge 103, 3) := by decide +kernel
theorem dX12_findComponents_10 : decode cX12_findComponents 10 = .ok (.iconst 0, 1) := by decide +kernel
theorem dX12_findComponents_11 : decode cX12_findComponents 11 = .ok (.istore_n 2, 1) := by decide +kernel
theorem dX12_findComponents_12 : decode cX12_findComponents 12 = .ok (.iload_n 2, 1) := by decide +kernel
theorem dX12_findComponents_13 : decode cX12_findComponents 13 = .ok (.iconst 4, 1) := by decide +kernel
theorem dX12_findComponents_14 : decode cX12_findComponents 14 = .ok (.if_icmp .ge 42, 3) := by decide +kernel
theorem dX12_findComponents_17 : decode cX12_findComponents 17 = .ok (.aload_n 0, 1) := by decide +kernel
theorem dX12_findComponents_18 : decode cX12_findComponents 18 = .ok (.getfield 56, 3) := by decide +kernel
theorem dX12_findComponents_21 : decode cX12_findComponents 21 = .ok (.iconst 4, 1) := by decide +kernel
theorem dX12_findComponents_22 : decode cX12_findComponents 22 = .ok (.iload_n 1, 1) := by decide +kernel
theorem dX12_findComponents_23 : decode cX12_findComponents 23 = .ok (.imul, 1) := by decide +kernel
theorem dX12_findComponents_24 : decode cX12_findComponents 24 = .ok (.iload_n 2, 1) := by decide +kernel
theorem dX12_findComponents_25 : decode cX12_findComponents 25 = .ok (.iadd, 1) := by decide +kernel
theorem dX12_findComponents_26 : decode cX12_findComponents 26 = .ok (.aload_n 0, 1) := by decide +kernel
theorem dX12_findComponents_27 : decode cX12_findComponents 27 = .ok (.getfield 59, 3) := by decide +kernel
theorem dX12_findComponents_30 : decode cX12_findComponents 30 = .ok (.iload_n 1, 1) := by decide +kernel
theorem dX12_findComponents_31 : decode cX12_findComponents 31 = .ok (.baload, 1) := by decide +kernel
theorem dX12_findComponents_32 : decode cX12_findComponents 32 = .ok (.ifCond .eq 16, 3) := by decide +kernel
theorem dX12_findComponents_35 : decode cX12_findComponents 35 = .ok (.aload_n 0, 1) := by decide +kernel
theorem dX12_findComponents_36 : decode cX12_findComponents 36 = .ok (.getfield 52, 3) := by decide +kernel
theorem dX12_findComponents_39 : decode cX12_findComponents 39 = .ok (.iconst 4, 1) := by decide +kernel
theorem dX12_findComponents_40 : decode cX12_findComponents 40 = .ok (.iload_n 1, 1) := by decide +kernel
theorem dX12_findComponents_41 : decode cX12_findComponents 41 = .ok (.imul, 1) := by decide +kernel
theorem dX12_findComponents_42 : decode cX12_findComponents 42 = .ok (.iload_n 2, 1) := by decide +kernel
theorem dX12_findComponents_43 : decode cX12_findComponents 43 = .ok (.iadd, 1) := by decide +kernel
theorem dX12_findComponents_44 : decode cX12_findComponents 44 = .ok (.laload, 1) := by decide +kernel
theorem dX12_findComponents_45 : decode cX12_findComponents 45 = .ok (.goto 4, 3) := by decide +kernel
theorem dX12_findComponents_48 : decode cX12_findComponents 48 = .ok (.lconst 0, 1) := by decide +kernel
theorem dX12_findComponents_49 : decode cX12_findComponents 49 = .ok (.lastore, 1) := by decide +kernel
theorem dX12_findComponents_50 : decode cX12_findComponents 50 = .ok (.iinc 2 1, 3) := by decide +kernel
theorem dX12_findComponents_53 : decode cX12_findComponents 53 = .ok (.goto (-41), 3) := by decide +kernel
theorem dX12_findComponents_56 : decode cX12_findComponents 56 = .ok (.iconst 0, 1) := by decide +kernel
theorem dX12_findComponents_57 : decode cX12_findComponents 57 = .ok (.istore_n 2, 1) := by decide +kernel
theorem dX12_findComponents_58 : decode cX12_findComponents 58 = .ok (.iload_n 2, 1) := by decide +kernel
theorem dX12_findComponents_59 : decode cX12_findComponents 59 = .ok (.aload_n 0, 1) := by decide +kernel
theorem dX12_findComponents_60 : decode cX12_findComponents 60 = .ok (.getfield 211, 3) := by decide +kernel
theorem dX12_findComponents_63 : decode cX12_findComponents 63 = .ok (.if_icmp .ge 41, 3) := by decide +kernel
theorem dX12_findComponents_66 : decode cX12_findComponents 66 = .ok (.aload_n 0, 1) := by decide +kernel
theorem dX12_findComponents_67 : decode cX12_findComponents 67 = .ok (.getfield 59, 3) := by decide +kernel
theorem dX12_findComponents_70 : decode cX12_findComponents 70 = .ok (.iload_n 2, 1) := by decide +kernel
theorem dX12_findComponents_71 : decode cX12_findComponents 71 = .ok (.baload, 1) := by decide +kernel
theorem dX12_findComponents_72 : decode cX12_findComponents 72 = .ok (.ifCond .ne 26, 3) := by decide +kernel
theorem dX12_findComponents_75 : decode cX12_findComponents 75 = .ok (.aload_n 0, 1) := by decide +kernel
theorem dX12_findComponents_76 : decode cX12_findComponents 76 = .ok (.getfield 56, 3) := by decide +kernel
theorem dX12_findComponents_79 : decode cX12_findComponents 79 = .ok (.iconst 4, 1) := by decide +kernel
theorem dX12_findComponents_80 : decode cX12_findComponents 80 = .ok (.iload_n 1, 1) := by decide +kernel
theorem dX12_findComponents_81 : decode cX12_findComponents 81 = .ok (.imul, 1) := by decide +kernel
theorem dX12_findComponents_82 : decode cX12_findComponents 82 = .ok (.iload_n 2, 1) := by decide +kernel
theorem dX12_findComponents_83 : decode cX12_findComponents 83 = .ok (.bipush 64, 2) := by decide +kernel
theorem dX12_findComponents_85 : decode cX12_findComponents 85 = .ok (.idiv, 1) := by decide +kernel
theorem dX12_findComponents_86 : decode cX12_findComponents 86 = .ok (.iadd, 1) := by decide +kernel
theorem dX12_findComponents_87 : decode cX12_findComponents 87 = .ok (.dup2, 1) := by decide +kernel
theorem dX12_findComponents_88 : decode cX12_findComponents 88 = .ok (.laload, 1) := by decide +kernel
theorem dX12_findComponents_89 : decode cX12_findComponents 89 = .ok (.lconst 1, 1) := by decide +kernel
theorem dX12_findComponents_90 : decode cX12_findComponents 90 = .ok (.iload_n 2, 1) := by decide +kernel
theorem dX12_findComponents_91 : decode cX12_findComponents 91 = .ok (.lshl, 1) := by decide +kernel
theorem dX12_findComponents_92 : decode cX12_findComponents 92 = .ok (.ldc2_w 214, 3) := by decide +kernel
theorem dX12_findComponents_95 : decode cX12_findComponents 95 = .ok (.lxor, 1) := by decide +kernel
theorem dX12_findComponents_96 : decode cX12_findComponents 96 = .ok (.land, 1) := by decide +kernel
theorem dX12_findComponents_97 : decode cX12_findComponents 97 = .ok (.lastore, 1) := by decide +kernel
theorem dX12_findComponents_98 : decode cX12_findComponents 98 = .ok (.iinc 2 1, 3) := by decide +kernel
theorem dX12_findComponents_101 : decode cX12_findComponents 101 = .ok (.goto (-43), 3) := by decide +kernel
theorem dX12_findComponents_104 : decode cX12_findComponents 104 = .ok (.iinc 1 1, 3) := by decide +kernel
theorem dX12_findComponents_107 : decode cX12_findComponents 107 = .ok (.goto (-105), 3) := by decide +kernel
theorem dX12_findComponents_110 : decode cX12_findComponents 110 = .ok (.iconst 0, 1) := by decide +kernel
theorem dX12_findComponents_111 : decode cX12_findComponents 111 = .ok (.istore_n 1, 1) := by decide +kernel
theorem dX12_findComponents_112 : decode cX12_findComponents 112 = .ok (.iload_n 1, 1) := by decide +kernel
theorem dX12_findComponents_113 : decode cX12_findComponents 113 = .ok (.aload_n 0, 1) := by decide +kernel
theorem dX12_findComponents_114 : decode cX12_findComponents 114 = .ok (.getfield 211, 3) := by decide +kernel
theorem dX12_findComponents_117 : decode cX12_findComponents 117 = .ok (.if_icmp .ge 73, 3) := by decide +kernel
theorem dX12_findComponents_120 : decode cX12_findComponents 120 = .ok (.iconst 0, 1) := by decide +kernel
theorem dX12_findComponents_121 : decode cX12_findComponents 121 = .ok (.istore_n 2, 1) := by decide +kernel
theorem dX12_findComponents_122 : decode cX12_findComponents 122 = .ok (.iload_n 2, 1) := by decide +kernel
theorem dX12_findComponents_123 : decode cX12_findComponents 123 = .ok (.aload_n 0, 1) := by decide +kernel
theorem dX12_findComponents_124 : decode cX12_findComponents 124 = .ok (.getfield 211, 3) := by decide +kernel
theorem dX12_findComponents_127 : decode cX12_findComponents 127 = .ok (.if_icmp .ge 57, 3) := by decide +kernel
theorem dX12_findComponents_130 : decode cX12_findComponents 130 = .ok (.aload_n 0, 1) := by decide +kernel
theorem dX12_findComponents_131 : decode cX12_findComponents 131 = .ok (.getfield 56, 3) := by decide +kernel
theorem dX12_findComponents_134 : decode cX12_findComponents 134 = .ok (.iload_n 2, 1) := by decide +kernel
theorem dX12_findComponents_135 : decode cX12_findComponents 135 = .ok (.iload_n 1, 1) := by decide +kernel
theorem dX12_findComponents_136 : decode cX12_findComponents 136 = .ok (.invokestatic 216, 3) := by decide +kernel
theorem dX12_findComponents_139 : decode cX12_findComponents 139 = .ok (.ifCond .eq 39, 3) := by decide +kernel
theorem dX12_findComponents_142 : decode cX12_findComponents 142 = .ok (.iconst 0, 1) := by decide +kernel
theorem dX12_findComponents_143 : decode cX12_findComponents 143 = .ok (.istore_n 3, 1) := by decide +kernel
theorem dX12_findComponents_144 : decode cX12_findComponents 144 = .ok (.iload_n 3, 1) := by decide +kernel
theorem dX12_findComponents_145 : decode cX12_findComponents 145 = .ok (.iconst 4, 1) := by decide +kernel
theorem dX12_findComponents_146 : decode cX12_findComponents 146 = .ok (.if_icmp .ge 32, 3) := by decide +kernel
theorem dX12_findComponents_149 : decode cX12_findComponents 149 = .ok (.aload_n 0, 1) := by decide +kernel
theorem dX12_findComponents_150 : decode cX12_findComponents 150 = .ok (.getfield 56, 3) := by decide +kernel
theorem dX12_findComponents_153 : decode cX12_findComponents 153 = .ok (.iconst 4, 1) := by decide +kernel
theorem dX12_findComponents_154 : decode cX12_findComponents 154 = .ok (.iload_n 2, 1) := by decide +kernel
theorem dX12_findComponents_155 : decode cX12_findComponents 155 = .ok (.imul, 1) := by decide +kernel
theorem dX12_findComponents_156 : decode cX12_findComponents 156 = .ok (.iload_n 3, 1) := by decide +kernel
theorem dX12_findComponents_157 : decode cX12_findComponents 157 = .ok (.iadd, 1) := by decide +kernel
theorem dX12_findComponents_158 : decode cX12_findComponents 158 = .ok (.dup2, 1) := by decide +kernel
theorem dX12_findComponents_159 : decode cX12_findComponents 159 = .ok (.laload, 1) := by decide +kernel
theorem dX12_findComponents_160 : decode cX12_findComponents 160 = .ok (.aload_n 0, 1) := by decide +kernel
theorem dX12_findComponents_161 : decode cX12_findComponents 161 = .ok (.getfield 56, 3) := by decide +kernel
theorem dX12_findComponents_164 : decode cX12_findComponents 164 = .ok (.iconst 4, 1) := by decide +kernel
theorem dX12_findComponents_165 : decode cX12_findComponents 165 = .ok (.iload_n 1, 1) := by decide +kernel
theorem dX12_findComponents_166 : decode cX12_findComponents 166 = .ok (.imul, 1) := by decide +kernel
theorem dX12_findComponents_167 : decode cX12_findComponents 167 = .ok (.iload_n 3, 1) := by decide +kernel
theorem dX12_findComponents_168 : decode cX12_findComponents 168 = .ok (.iadd, 1) := by decide +kernel
theorem dX12_findComponents_169 : decode cX12_findComponents 169 = .ok (.laload, 1) := by decide +kernel
theorem dX12_findComponents_170 : decode cX12_findComponents 170 = .ok (.lor, 1) := by decide +kernel
theorem dX12_findComponents_171 : decode cX12_findComponents 171 = .ok (.lastore, 1) := by decide +kernel
theorem dX12_findComponents_172 : decode cX12_findComponents 172 = .ok (.iinc 3 1, 3) := by decide +kernel
theorem dX12_findComponents_175 : decode cX12_findComponents 175 = .ok (.goto (-31), 3) := by decide +kernel
theorem dX12_findComponents_178 : decode cX12_findComponents 178 = .ok (.iinc 2 1, 3) := by decide +kernel
theorem dX12_findComponents_181 : decode cX12_findComponents 181 = .ok (.goto (-59), 3) := by decide +kernel
theorem dX12_findComponents_184 : decode cX12_findComponents 184 = .ok (.iinc 1 1, 3) := by decide +kernel
theorem dX12_findComponents_187 : decode cX12_findComponents 187 = .ok (.goto (-75), 3) := by decide +kernel
theorem dX12_findComponents_190 : decode cX12_findComponents 190 = .ok (.aload_n 0, 1) := by decide +kernel
theorem dX12_findComponents_191 : decode cX12_findComponents 191 = .ok (.iconst 0, 1) := by decide +kernel
theorem dX12_findComponents_192 : decode cX12_findComponents 192 = .ok (.putfield 220, 3) := by decide +kernel
theorem dX12_findComponents_195 : decode cX12_findComponents 195 = .ok (.iconst 0, 1) := by decide +kernel
theorem dX12_findComponents_196 : decode cX12_findComponents 196 = .ok (.istore_n 1, 1) := by decide +kernel
theorem dX12_findComponents_197 : decode cX12_findComponents 197 = .ok (.iload_n 1, 1) := by decide +kernel
theorem dX12_findComponents_198 : decode cX12_findComponents 198 = .ok (.aload_n 0, 1) := by decide +kernel
theorem dX12_findComponents_199 : decode cX12_findComponents 199 = .ok (.getfield 211, 3) := by decide +kernel
theorem dX12_findComponents_202 : decode cX12_findComponents 202 = .ok (.if_icmp .ge 17, 3) := by decide +kernel
theorem dX12_findComponents_205 : decode cX12_findComponents 205 = .ok (.aload_n 0, 1) := by decide +kernel
theorem dX12_findComponents_206 : decode cX12_findComponents 206 = .ok (.getfield 63, 3) := by decide +kernel
theorem dX12_findComponents_209 : decode cX12_findComponents 209 = .ok (.iload_n 1, 1) := by decide +kernel
theorem dX12_findComponents_210 : decode cX12_findComponents 210 = .ok (.bipush (-5), 2) := by decide +kernel
theorem dX12_findComponents_212 : decode cX12_findComponents 212 = .ok (.iastore, 1) := by decide +kernel
theorem dX12_findComponents_213 : decode cX12_findComponents 213 = .ok (.iinc 1 1, 3) := by decide +kernel
theorem dX12_findComponents_216 : decode cX12_findComponents 216 = .ok (.goto (-19), 3) := by decide +kernel
theorem dX12_findComponents_219 : decode cX12_findComponents 219 = .ok (.iconst 0, 1) := by decide +kernel
theorem dX12_findComponents_220 : decode cX12_findComponents 220 = .ok (.istore_n 1, 1) := by decide +kernel
theorem dX12_findComponents_221 : decode cX12_findComponents 221 = .ok (.iload_n 1, 1) := by decide +kernel
theorem dX12_findComponents_222 : decode cX12_findComponents 222 = .ok (.aload_n 0, 1) := by decide +kernel
theorem dX12_findComponents_223 : decode cX12_findComponents 223 = .ok (.getfield 211, 3) := by decide +kernel
theorem dX12_findComponents_226 : decode cX12_findComponents 226 = .ok (.if_icmp .ge 95, 3) := by decide +kernel
theorem dX12_findComponents_229 : decode cX12_findComponents 229 = .ok (.aload_n 0, 1) := by decide +kernel
theorem dX12_findComponents_230 : decode cX12_findComponents 230 = .ok (.getfield 63, 3) := by decide +kernel
theorem dX12_findComponents_233 : decode cX12_findComponents 233 = .ok (.iload_n 1, 1) := by decide +kernel
theorem dX12_findComponents_234 : decode cX12_findComponents 234 = .ok (.iaload, 1) := by decide +kernel
theorem dX12_findComponents_235 : decode cX12_findComponents 235 = .ok (.bipush (-5), 2) := by decide +kernel
theorem dX12_findComponents_237 : decode cX12_findComponents 237 = .ok (.if_icmp .ne 78, 3) := by decide +kernel
theorem dX12_findComponents_240 : decode cX12_findComponents 240 = .ok (.aload_n 0, 1) := by decide +kernel
theorem dX12_findComponents_241 : decode cX12_findComponents 241 = .ok (.getfield 56, 3) := by decide +kernel
theorem dX12_findComponents_244 : decode cX12_findComponents 244 = .ok (.iload_n 1, 1) := by decide +kernel
theorem dX12_findComponents_245 : decode cX12_findComponents 245 = .ok (.iload_n 1, 1) := by decide +kernel
theorem dX12_findComponents_246 : decode cX12_findComponents 246 = .ok (.invokestatic 216, 3) := by decide +kernel
theorem dX12_findComponents_249 : decode cX12_findComponents 249 = .ok (.ifCond .ne 6, 3) := by decide +kernel
theorem dX12_findComponents_252 : decode cX12_findComponents 252 = .ok (.goto 63, 3) := by decide +kernel
theorem dX12_findComponents_255 : decode cX12_findComponents 255 = .ok (.iload_n 1, 1) := by decide +kernel
theorem dX12_findComponents_256 : decode cX12_findComponents 256 = .ok (.istore_n 2, 1) := by decide +kernel
theorem dX12_findComponents_257 : decode cX12_findComponents 257 = .ok (.iload_n 2, 1) := by decide +kernel
theorem dX12_findComponents_258 : decode cX12_findComponents 258 = .ok (.aload_n 0, 1) := by decide +kernel
theorem dX12_findComponents_259 : decode cX12_findComponents 259 = .ok (.getfield 211, 3) := by decide +kernel
theorem dX12_findComponents_262 : decode cX12_findComponents 262 = .ok (.if_icmp .ge 43, 3) := by decide +kernel
theorem dX12_findComponents_265 : decode cX12_findComponents 265 = .ok (.aload_n 0, 1) := by decide +kernel
theorem dX12_findComponents_266 : decode cX12_findComponents 266 = .ok (.getfield 56, 3) := by decide +kernel
theorem dX12_findComponents_269 : decode cX12_findComponents 269 = .ok (.iload_n 1, 1) := by decide +kernel
theorem dX12_findComponents_270 : decode cX12_findComponents 270 = .ok (.iload_n 2, 1) := by decide +kernel
theorem dX12_findComponents_271 : decode cX12_findComponents 271 = .ok (.invokestatic 216, 3) := by decide +kernel
theorem dX12_findComponents_274 : decode cX12_findComponents 274 = .ok (.ifCond .eq 25, 3) := by decide +kernel
theorem dX12_findComponents_277 : decode cX12_findComponents 277 = .ok (.aload_n 0, 1) := by decide +kernel
theorem dX12_findComponents_278 : decode cX12_findComponents 278 = .ok (.getfield 56, 3) := by decide +kernel
theorem dX12_findComponents_281 : decode cX12_findComponents 281 = .ok (.iload_n 2, 1) := by decide +kernel
theorem dX12_findComponents_282 : decode cX12_findComponents 282 = .ok (.iload_n 1, 1) := by decide +kernel
theorem dX12_findComponents_283 : decode cX12_findComponents 283 = .ok (.invokestatic 216, 3) := by decide +kernel
theorem dX12_findComponents_286 : decode cX12_findComponents 286 = .ok (.ifCond .eq 13, 3) := by decide +kernel
theorem dX12_findComponents_289 : decode cX12_findComponents 289 = .ok (.aload_n 0, 1) := by decide +kernel
theorem dX12_findComponents_290 : decode cX12_findComponents 290 = .ok (.getfield 63, 3) := by decide +kernel
theorem dX12_findComponents_293 : decode cX12_findComponents 293 = .ok (.iload_n 2, 1) := by decide +kernel
theorem dX12_findComponents_294 : decode cX12_findComponents 294 = .ok (.aload_n 0, 1) := by decide +kernel
theorem dX12_findComponents_295 : decode cX12_findComponents 295 = .ok (.getfield 220, 3) := by decide +kernel
theorem dX12_findComponents_298 : decode cX12_findComponents 298 = .ok (.iastore, 1) := by decide +kernel
theorem dX12_findComponents_299 : decode cX12_findComponents 299 = .ok (.iinc 2 1, 3) := by decide +kernel
theorem dX12_findComponents_302 : decode cX12_findComponents 302 = .ok (.goto (-45), 3) := by decide +kernel
theorem dX12_findComponents_305 : decode cX12_findComponents 305 = .ok (.aload_n 0, 1) := by decide +kernel
theorem dX12_findComponents_306 : decode cX12_findComponents 306 = .ok (.dup, 1) := by decide +kernel
theorem dX12_findComponents_307 : decode cX12_findComponents 307 = .ok (.getfield 220, 3) := by decide +kernel
theorem dX12_findComponents_310 : decode cX12_findComponents 310 = .ok (.iconst 1, 1) := by decide +kernel
theorem dX12_findComponents_311 : decode cX12_findComponents 311 = .ok (.iadd, 1) := by decide +kernel
theorem dX12_findComponents_312 : decode cX12_findComponents 312 = .ok (.putfield 220, 3) := by decide +kernel
theorem dX12_findComponents_315 : decode cX12_findComponents 315 = .ok (.iinc 1 1, 3) := by decide +kernel
theorem dX12_findComponents_318 : decode cX12_findComponents 318 = .ok (.goto (-97), 3) := by decide +kernel
theorem dX12_findComponents_321 : decode cX12_findComponents 321 = .ok (.return_, 1) := by decide +kernel
theorem dX12_componentCount_0 : decode cX12_componentCount 0 = .ok (.aload_n 0, 1) := by decide +kernel
theorem dX12_componentCount_1 : decode cX12_componentCount 1 = .ok (.invokevirtual 223, 3) := by decide +kernel
theorem dX12_componentCount_4 : decode cX12_componentCount 4 = .ok (.aload_n 0, 1) := by decide +kernel
theorem dX12_componentCount_5 : decode cX12_componentCount 5 = .ok (.invokevirtual 226, 3) := by decide +kernel
theorem dX12_componentCount_8 : decode cX12_componentCount 8 = .ok (.aload_n 0, 1) := by decide +kernel
theorem dX12_componentCount_9 : decode cX12_componentCount 9 = .ok (.getfield 220, 3) := by decide +kernel
theorem dX12_componentCount_12 : decode cX12_componentCount 12 = .ok (.ireturn, 1) := by decide +kernel
theorem dX12_componentOf_0 : decode cX12_componentOf 0 = .ok (.aload_n 0, 1) := by decide +kernel
theorem dX12_componentOf_1 : decode cX12_componentOf 1 = .ok (.iload_n 1, 1) := by decide +kernel
theorem dX12_componentOf_2 : decode cX12_componentOf 2 = .ok (.invokevirtual 188, 3) := by decide +kernel
theorem dX12_componentOf_5 : decode cX12_componentOf 5 = .ok (.ifCond .ne 5, 3) := by decide +kernel
theorem dX12_componentOf_8 : decode cX12_componentOf 8 = .ok (.iconst (-1), 1) := by decide +kernel
theorem dX12_componentOf_9 : decode cX12_componentOf 9 = .ok (.ireturn, 1) := by decide +kernel
theorem dX12_componentOf_10 : decode cX12_componentOf 10 = .ok (.aload_n 0, 1) := by decide +kernel
theorem dX12_componentOf_11 : decode cX12_componentOf 11 = .ok (.invokevirtual 223, 3) := by decide +kernel
theorem dX12_componentOf_14 : decode cX12_componentOf 14 = .ok (.aload_n 0, 1) := by decide +kernel
theorem dX12_componentOf_15 : decode cX12_componentOf 15 = .ok (.invokevirtual 226, 3) := by decide +kernel
theorem dX12_componentOf_18 : decode cX12_componentOf 18 = .ok (.aload_n 0, 1) := by decide +kernel
theorem dX12_componentOf_19 : decode cX12_componentOf 19 = .ok (.getfield 63, 3) := by decide +kernel
theorem dX12_componentOf_22 : decode cX12_componentOf 22 = .ok (.iload_n 1, 1) := by decide +kernel
theorem dX12_componentOf_23 : decode cX12_componentOf 23 = .ok (.iaload, 1) := by decide +kernel
theorem dX12_componentOf_24 : decode cX12_componentOf 24 = .ok (.ireturn, 1) := by decide +kernel
theorem dX12_relation_0 : decode cX12_relation 0 = .ok (.aload_n 0, 1) := by decide +kernel
theorem dX12_relation_1 : decode cX12_relation 1 = .ok (.aload_n 0, 1) := by decide +kernel
theorem dX12_relation_2 : decode cX12_relation 2 = .ok (.getfield 16, 3) := by decide +kernel
theorem dX12_relation_5 : decode cX12_relation 5 = .ok (.aload_n 0, 1) := by decide +kernel
theorem dX12_relation_6 : decode cX12_relation 6 = .ok (.iload_n 1, 1) := by decide +kernel
theorem dX12_relation_7 : decode cX12_relation 7 = .ok (.invokevirtual 179, 3) := by decide +kernel
theorem dX12_relation_10 : decode cX12_relation 10 = .ok (.iload_n 2, 1) := by decide +kernel
theorem dX12_relation_11 : decode cX12_relation 11 = .ok (.invokevirtual 201, 3) := by decide +kernel
theorem dX12_relation_14 : decode cX12_relation 14 = .ok (.istore 4, 2) := by decide +kernel
theorem dX12_relation_16 : decode cX12_relation 16 = .ok (.aload_n 0, 1) := by decide +kernel
theorem dX12_relation_17 : decode cX12_relation 17 = .ok (.aload_n 0, 1) := by decide +kernel
theorem dX12_relation_18 : decode cX12_relation 18 = .ok (.getfield 16, 3) := by decide +kernel
theorem dX12_relation_21 : decode cX12_relation 21 = .ok (.aload_n 0, 1) := by decide +kernel
theorem dX12_relation_22 : decode cX12_relation 22 = .ok (.iload_n 1, 1) := by decide +kernel
theorem dX12_relation_23 : decode cX12_relation 23 = .ok (.invokevirtual 182, 3) := by decide +kernel
theorem dX12_relation_26 : decode cX12_relation 26 = .ok (.iload_n 3, 1) := by decide +kernel
theorem dX12_relation_27 : decode cX12_relation 27 = .ok (.invokevirtual 201, 3) := by decide +kernel
theorem dX12_relation_30 : decode cX12_relation 30 = .ok (.istore 5, 2) := by decide +kernel
theorem dX12_relation_32 : decode cX12_relation 32 = .ok (.aload_n 0, 1) := by decide +kernel
theorem dX12_relation_33 : decode cX12_relation 33 = .ok (.aload_n 0, 1) := by decide +kernel
theorem dX12_relation_34 : decode cX12_relation 34 = .ok (.getfield 16, 3) := by decide +kernel
theorem dX12_relation_37 : decode cX12_relation 37 = .ok (.iload 5, 2) := by decide +kernel
theorem dX12_relation_39 : decode cX12_relation 39 = .ok (.invokevirtual 117, 3) := by decide +kernel
theorem dX12_relation_42 : decode cX12_relation 42 = .ok (.iload 5, 2) := by decide +kernel
theorem dX12_relation_44 : decode cX12_relation 44 = .ok (.isub, 1) := by decide +kernel
theorem dX12_relation_45 : decode cX12_relation 45 = .ok (.istore 6, 2) := by decide +kernel
theorem dX12_relation_47 : decode cX12_relation 47 = .ok (.aload_n 0, 1) := by decide +kernel
theorem dX12_relation_48 : decode cX12_relation 48 = .ok (.aload_n 0, 1) := by decide +kernel
theorem dX12_relation_49 : decode cX12_relation 49 = .ok (.getfield 16, 3) := by decide +kernel
theorem dX12_relation_52 : decode cX12_relation 52 = .ok (.iload 4, 2) := by decide +kernel
theorem dX12_relation_54 : decode cX12_relation 54 = .ok (.invokevirtual 117, 3) := by decide +kernel
theorem dX12_relation_57 : decode cX12_relation 57 = .ok (.istore 7, 2) := by decide +kernel
theorem dX12_relation_59 : decode cX12_relation 59 = .ok (.iload 4, 2) := by decide +kernel
theorem dX12_relation_61 : decode cX12_relation 61 = .ok (.istore 8, 2) := by decide +kernel
theorem dX12_relation_63 : decode cX12_relation 63 = .ok (.iload 8, 2) := by decide +kernel
theorem dX12_relation_65 : decode cX12_relation 65 = .ok (.iload 7, 2) := by decide +kernel
theorem dX12_relation_67 : decode cX12_relation 67 = .ok (.if_icmp .ge 60, 3) := by decide +kernel
theorem dX12_relation_70 : decode cX12_relation 70 = .ok (.aload_n 0, 1) := by decide +kernel
theorem dX12_relation_71 : decode cX12_relation 71 = .ok (.aload_n 0, 1) := by decide +kernel
theorem dX12_relation_72 : decode cX12_relation 72 = .ok (.getfield 16, 3) := by decide +kernel
theorem dX12_relation_75 : decode cX12_relation 75 = .ok (.iload 8, 2) := by decide +kernel
theorem dX12_relation_77 : decode cX12_relation 77 = .ok (.invokevirtual 117, 3) := by decide +kernel
theorem dX12_relation_80 : decode cX12_relation 80 = .ok (.iload 8, 2) := by decide +kernel
theorem dX12_relation_82 : decode cX12_relation 82 = .ok (.isub, 1) := by decide +kernel
theorem dX12_relation_83 : decode cX12_relation 83 = .ok (.iload 6, 2) := by decide +kernel
theorem dX12_relation_85 : decode cX12_relation 85 = .ok (.if_icmp .ne 36, 3) := by decide +kernel
theorem dX12_relation_88 : decode cX12_relation 88 = .ok (.aload_n 0, 1) := by decide +kernel
theorem dX12_relation_89 : decode cX12_relation 89 = .ok (.getfield 16, 3) := by decide +kernel
theorem dX12_relation_92 : decode cX12_relation 92 = .ok (.iload 8, 2) := by decide +kernel
theorem dX12_relation_94 : decode cX12_relation 94 = .ok (.aload_n 0, 1) := by decide +kernel
theorem dX12_relation_95 : decode cX12_relation 95 = .ok (.getfield 16, 3) := by decide +kernel
theorem dX12_relation_98 : decode cX12_relation 98 = .ok (.iload 5, 2) := by decide +kernel
theorem dX12_relation_100 : decode cX12_relation 100 = .ok (.iload 6, 2) := by decide +kernel
theorem dX12_relation_102 : decode cX12_relation 102 = .ok (.invokestatic 134, 3) := by decide +kernel
theorem dX12_relation_105 : decode cX12_relation 105 = .ok (.ifCond .eq 16, 3) := by decide +kernel
theorem dX12_relation_108 : decode cX12_relation 108 = .ok (.iload 8, 2) := by decide +kernel
theorem dX12_relation_110 : decode cX12_relation 110 = .ok (.iload 4, 2) := by decide +kernel
theorem dX12_relation_112 : decode cX12_relation 112 = .ok (.if_icmp .ne 7, 3) := by decide +kernel
theorem dX12_relation_115 : decode cX12_relation 115 = .ok (.iconst 1, 1) := by decide +kernel
theorem dX12_relation_116 : decode cX12_relation 116 = .ok (.goto 4, 3) := by decide +kernel
theorem dX12_relation_119 : decode cX12_relation 119 = .ok (.iconst 2, 1) := by decide +kernel
theorem dX12_relation_120 : decode cX12_relation 120 = .ok (.ireturn, 1) := by decide +kernel
theorem dX12_relation_121 : decode cX12_relation 121 = .ok (.iinc 8 1, 3) := by decide +kernel
theorem dX12_relation_124 : decode cX12_relation 124 = .ok (.goto (-61), 3) := by decide +kernel
theorem dX12_relation_127 : decode cX12_relation 127 = .ok (.iconst 0, 1) := by decide +kernel
theorem dX12_relation_128 : decode cX12_relation 128 = .ok (.ireturn, 1) := by decide +kernel
theorem dX12_sizeRelation_0 : decode cX12_sizeRelation 0 = .ok (.aload_n 0, 1) := by decide +kernel
theorem dX12_sizeRelation_1 : decode cX12_sizeRelation 1 = .ok (.iload_n 1, 1) := by decide +kernel
theorem dX12_sizeRelation_2 : decode cX12_sizeRelation 2 = .ok (.invokevirtual 188, 3) := by decide +kernel
theorem dX12_sizeRelation_5 : decode cX12_sizeRelation 5 = .ok (.ifCond .eq 43, 3) := by decide +kernel
theorem dX12_sizeRelation_8 : decode cX12_sizeRelation 8 = .ok (.iload_n 2, 1) := by decide +kernel
theorem dX12_sizeRelation_9 : decode cX12_sizeRelation 9 = .ok (.iconst 0, 1) := by decide +kernel
theorem dX12_sizeRelation_10 : decode cX12_sizeRelation 10 = .ok (.aload_n 0, 1) := by decide +kernel
theorem dX12_sizeRelation_11 : decode cX12_sizeRelation 11 = .ok (.getfield 9, 3) := by decide +kernel
theorem dX12_sizeRelation_14 : decode cX12_sizeRelation 14 = .ok (.aload_n 0, 1) := by decide +kernel
theorem dX12_sizeRelation_15 : decode cX12_sizeRelation 15 = .ok (.iload_n 1, 1) := by decide +kernel
theorem dX12_sizeRelation_16 : decode cX12_sizeRelation 16 = .ok (.invokevirtual 191, 3) := by decide +kernel
theorem dX12_sizeRelation_19 : decode cX12_sizeRelation 19 = .ok (.iaload, 1) := by decide +kernel
theorem dX12_sizeRelation_20 : decode cX12_sizeRelation 20 = .ok (.iconst 1, 1) := by decide +kernel
theorem dX12_sizeRelation_21 : decode cX12_sizeRelation 21 = .ok (.isub, 1) := by decide +kernel
theorem dX12_sizeRelation_22 : decode cX12_sizeRelation 22 = .ok (.invokestatic 105, 3) := by decide +kernel
theorem dX12_sizeRelation_25 : decode cX12_sizeRelation 25 = .ok (.ifCond .eq 23, 3) := by decide +kernel
theorem dX12_sizeRelation_28 : decode cX12_sizeRelation 28 = .ok (.iload_n 3, 1) := by decide +kernel
theorem dX12_sizeRelation_29 : decode cX12_sizeRelation 29 = .ok (.iconst 0, 1) := by decide +kernel
theorem dX12_sizeRelation_30 : decode cX12_sizeRelation 30 = .ok (.aload_n 0, 1) := by decide +kernel
theorem dX12_sizeRelation_31 : decode cX12_sizeRelation 31 = .ok (.getfield 9, 3) := by decide +kernel
theorem dX12_sizeRelation_34 : decode cX12_sizeRelation 34 = .ok (.aload_n 0, 1) := by decide +kernel
theorem dX12_sizeRelation_35 : decode cX12_sizeRelation 35 = .ok (.iload_n 1, 1) := by decide +kernel
theorem dX12_sizeRelation_36 : decode cX12_sizeRelation 36 = .ok (.invokevirtual 194, 3) := by decide +kernel
theorem dX12_sizeRelation_39 : decode cX12_sizeRelation 39 = .ok (.iaload, 1) := by decide +kernel
theorem dX12_sizeRelation_40 : decode cX12_sizeRelation 40 = .ok (.iconst 1, 1) := by decide +kernel
theorem dX12_sizeRelation_41 : decode cX12_sizeRelation 41 = .ok (.isub, 1) := by decide +kernel
theorem dX12_sizeRelation_42 : decode cX12_sizeRelation 42 = .ok (.invokestatic 105, 3) := by decide +kernel
theorem dX12_sizeRelation_45 : decode cX12_sizeRelation 45 = .ok (.ifCond .ne 5, 3) := by decide +kernel
theorem dX12_sizeRelation_48 : decode cX12_sizeRelation 48 = .ok (.iconst (-1), 1) := by decide +kernel
theorem dX12_sizeRelation_49 : decode cX12_sizeRelation 49 = .ok (.ireturn, 1) := by decide +kernel
theorem dX12_sizeRelation_50 : decode cX12_sizeRelation 50 = .ok (.aload_n 0, 1) := by decide +kernel
theorem dX12_sizeRelation_51 : decode cX12_sizeRelation 51 = .ok (.iload_n 1, 1) := by decide +kernel
theorem dX12_sizeRelation_52 : decode cX12_sizeRelation 52 = .ok (.iload_n 2, 1) := by decide +kernel
theorem dX12_sizeRelation_53 : decode cX12_sizeRelation 53 = .ok (.iload_n 3, 1) := by decide +kernel
theorem dX12_sizeRelation_54 : decode cX12_sizeRelation 54 = .ok (.invokevirtual 229, 3) := by decide +kernel
theorem dX12_sizeRelation_57 : decode cX12_sizeRelation 57 = .ok (.ireturn, 1) := by decide +kernel
theorem dX12_decode_0 : decode cX12_decode 0 = .ok (.iload_n 0, 1) := by decide +kernel
theorem dX12_decode_1 : decode cX12_decode 1 = .ok (.istore_n 2, 1) := by decide +kernel
theorem dX12_decode_2 : decode cX12_decode 2 = .ok (.iconst 0, 1) := by decide +kernel
theorem dX12_decode_3 : decode cX12_decode 3 = .ok (.istore_n 3, 1) := by decide +kernel
theorem dX12_decode_4 : decode cX12_decode 4 = .ok (.iload_n 3, 1) := by decide +kernel
theorem dX12_decode_5 : decode cX12_decode 5 = .ok (.bipush 9, 2) := by decide +kernel
theorem dX12_decode_7 : decode cX12_decode 7 = .ok (.if_icmp .ge 19, 3) := by decide +kernel
