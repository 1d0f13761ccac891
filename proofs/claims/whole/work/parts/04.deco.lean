/-! the rows that decode (printed) -/
theorem dX0_mark_0 : decode cX0_mark 0 = .ok (.aload_n 0, 1) := by decide +kernel
theorem dX0_mark_1 : decode cX0_mark 1 = .ok (.getfield 9, 3) := by decide +kernel
theorem dX0_mark_4 : decode cX0_mark 4 = .ok (.iload_n 1, 1) := by decide +kernel
theorem dX0_mark_5 : decode cX0_mark 5 = .ok (.bipush 6, 2) := by decide +kernel
theorem dX0_mark_7 : decode cX0_mark 7 = .ok (.ishr, 1) := by decide +kernel
theorem dX0_mark_8 : decode cX0_mark 8 = .ok (.dup2, 1) := by decide +kernel
theorem dX0_mark_9 : decode cX0_mark 9 = .ok (.laload, 1) := by decide +kernel
theorem dX0_mark_10 : decode cX0_mark 10 = .ok (.lconst 1, 1) := by decide +kernel
theorem dX0_mark_11 : decode cX0_mark 11 = .ok (.iload_n 1, 1) := by decide +kernel
theorem dX0_mark_12 : decode cX0_mark 12 = .ok (.bipush 63, 2) := by decide +kernel
theorem dX0_mark_14 : decode cX0_mark 14 = .ok (.iand, 1) := by decide +kernel
theorem dX0_mark_15 : decode cX0_mark 15 = .ok (.lshl, 1) := by decide +kernel
theorem dX0_mark_16 : decode cX0_mark 16 = .ok (.lor, 1) := by decide +kernel
theorem dX0_mark_17 : decode cX0_mark 17 = .ok (.lastore, 1) := by decide +kernel
theorem dX0_mark_18 : decode cX0_mark 18 = .ok (.return_, 1) := by decide +kernel
theorem dX0_isMarked_0 : decode cX0_isMarked 0 = .ok (.aload_n 0, 1) := by decide +kernel
theorem dX0_isMarked_1 : decode cX0_isMarked 1 = .ok (.getfield 9, 3) := by decide +kernel
theorem dX0_isMarked_4 : decode cX0_isMarked 4 = .ok (.iload_n 1, 1) := by decide +kernel
theorem dX0_isMarked_5 : decode cX0_isMarked 5 = .ok (.bipush 6, 2) := by decide +kernel
theorem dX0_isMarked_7 : decode cX0_isMarked 7 = .ok (.ishr, 1) := by decide +kernel
theorem dX0_isMarked_8 : decode cX0_isMarked 8 = .ok (.laload, 1) := by decide +kernel
theorem dX0_isMarked_9 : decode cX0_isMarked 9 = .ok (.iload_n 1, 1) := by decide +kernel
theorem dX0_isMarked_10 : decode cX0_isMarked 10 = .ok (.bipush 63, 2) := by decide +kernel
theorem dX0_isMarked_12 : decode cX0_isMarked 12 = .ok (.iand, 1) := by decide +kernel
theorem dX0_isMarked_13 : decode cX0_isMarked 13 = .ok (.lshr, 1) := by decide +kernel
theorem dX0_isMarked_14 : decode cX0_isMarked 14 = .ok (.lconst 1, 1) := by decide +kernel
theorem dX0_isMarked_15 : decode cX0_isMarked 15 = .ok (.land, 1) := by decide +kernel
theorem dX0_isMarked_16 : decode cX0_isMarked 16 = .ok (.lconst 0, 1) := by decide +kernel
theorem dX0_isMarked_17 : decode cX0_isMarked 17 = .ok (.lcmp, 1) := by decide +kernel
theorem dX0_isMarked_18 : decode cX0_isMarked 18 = .ok (.ifCond .eq 7, 3) := by decide +kernel
theorem dX0_isMarked_21 : decode cX0_isMarked 21 = .ok (.iconst 1, 1) := by decide +kernel
theorem dX0_isMarked_22 : decode cX0_isMarked 22 = .ok (.goto 4, 3) := by decide +kernel
theorem dX0_isMarked_25 : decode cX0_isMarked 25 = .ok (.iconst 0, 1) := by decide +kernel
theorem dX0_isMarked_26 : decode cX0_isMarked 26 = .ok (.ireturn, 1) := by decide +kernel
theorem dX1_knowsDebt_0 : decode cX1_knowsDebt 0 = .ok (.iload_n 1, 1) := by decide +kernel
theorem dX1_knowsDebt_1 : decode cX1_knowsDebt 1 = .ok (.ifCond .lt 15, 3) := by decide +kernel
theorem dX1_knowsDebt_4 : decode cX1_knowsDebt 4 = .ok (.iload_n 1, 1) := by decide +kernel
theorem dX1_knowsDebt_5 : decode cX1_knowsDebt 5 = .ok (.aload_n 0, 1) := by decide +kernel
theorem dX1_knowsDebt_6 : decode cX1_knowsDebt 6 = .ok (.getfield 24, 3) := by decide +kernel
theorem dX1_knowsDebt_9 : decode cX1_knowsDebt 9 = .ok (.if_icmp .ge 7, 3) := by decide +kernel
theorem dX1_knowsDebt_12 : decode cX1_knowsDebt 12 = .ok (.iconst 1, 1) := by decide +kernel
theorem dX1_knowsDebt_13 : decode cX1_knowsDebt 13 = .ok (.goto 4, 3) := by decide +kernel
theorem dX1_knowsDebt_16 : decode cX1_knowsDebt 16 = .ok (.iconst 0, 1) := by decide +kernel
theorem dX1_knowsDebt_17 : decode cX1_knowsDebt 17 = .ok (.ireturn, 1) := by decide +kernel
theorem dX1_knowsThing_0 : decode cX1_knowsThing 0 = .ok (.iload_n 1, 1) := by decide +kernel
theorem dX1_knowsThing_1 : decode cX1_knowsThing 1 = .ok (.ifCond .lt 15, 3) := by decide +kernel
theorem dX1_knowsThing_4 : decode cX1_knowsThing 4 = .ok (.iload_n 1, 1) := by decide +kernel
theorem dX1_knowsThing_5 : decode cX1_knowsThing 5 = .ok (.aload_n 0, 1) := by decide +kernel
theorem dX1_knowsThing_6 : decode cX1_knowsThing 6 = .ok (.getfield 40, 3) := by decide +kernel
theorem dX1_knowsThing_9 : decode cX1_knowsThing 9 = .ok (.if_icmp .ge 7, 3) := by decide +kernel
theorem dX1_knowsThing_12 : decode cX1_knowsThing 12 = .ok (.iconst 1, 1) := by decide +kernel
theorem dX1_knowsThing_13 : decode cX1_knowsThing 13 = .ok (.goto 4, 3) := by decide +kernel
theorem dX1_knowsThing_16 : decode cX1_knowsThing 16 = .ok (.iconst 0, 1) := by decide +kernel
theorem dX1_knowsThing_17 : decode cX1_knowsThing 17 = .ok (.ireturn, 1) := by decide +kernel
theorem dX1_addDebt_0 : decode cX1_addDebt 0 = .ok (.aload_n 0, 1) := by decide +kernel
theorem dX1_addDebt_1 : decode cX1_addDebt 1 = .ok (.getfield 24, 3) := by decide +kernel
theorem dX1_addDebt_4 : decode cX1_addDebt 4 = .ok (.istore 5, 2) := by decide +kernel
theorem dX1_addDebt_6 : decode cX1_addDebt 6 = .ok (.aload_n 0, 1) := by decide +kernel
theorem dX1_addDebt_7 : decode cX1_addDebt 7 = .ok (.getfield 9, 3) := by decide +kernel
theorem dX1_addDebt_10 : decode cX1_addDebt 10 = .ok (.iload 5, 2) := by decide +kernel
theorem dX1_addDebt_12 : decode cX1_addDebt 12 = .ok (.iload_n 1, 1) := by decide +kernel
theorem dX1_addDebt_13 : decode cX1_addDebt 13 = .ok (.iastore, 1) := by decide +kernel
theorem dX1_addDebt_14 : decode cX1_addDebt 14 = .ok (.aload_n 0, 1) := by decide +kernel
theorem dX1_addDebt_15 : decode cX1_addDebt 15 = .ok (.getfield 15, 3) := by decide +kernel
theorem dX1_addDebt_18 : decode cX1_addDebt 18 = .ok (.iload 5, 2) := by decide +kernel
theorem dX1_addDebt_20 : decode cX1_addDebt 20 = .ok (.iload_n 2, 1) := by decide +kernel
theorem dX1_addDebt_21 : decode cX1_addDebt 21 = .ok (.iastore, 1) := by decide +kernel
theorem dX1_addDebt_22 : decode cX1_addDebt 22 = .ok (.aload_n 0, 1) := by decide +kernel
theorem dX1_addDebt_23 : decode cX1_addDebt 23 = .ok (.getfield 18, 3) := by decide +kernel
theorem dX1_addDebt_26 : decode cX1_addDebt 26 = .ok (.iload 5, 2) := by decide +kernel
theorem dX1_addDebt_28 : decode cX1_addDebt 28 = .ok (.iload_n 3, 1) := by decide +kernel
theorem dX1_addDebt_29 : decode cX1_addDebt 29 = .ok (.iastore, 1) := by decide +kernel
theorem dX1_addDebt_30 : decode cX1_addDebt 30 = .ok (.aload_n 0, 1) := by decide +kernel
theorem dX1_addDebt_31 : decode cX1_addDebt 31 = .ok (.getfield 21, 3) := by decide +kernel
theorem dX1_addDebt_34 : decode cX1_addDebt 34 = .ok (.iload 5, 2) := by decide +kernel
theorem dX1_addDebt_36 : decode cX1_addDebt 36 = .ok (.iload 4, 2) := by decide +kernel
theorem dX1_addDebt_38 : decode cX1_addDebt 38 = .ok (.iastore, 1) := by decide +kernel
theorem dX1_addDebt_39 : decode cX1_addDebt 39 = .ok (.aload_n 0, 1) := by decide +kernel
theorem dX1_addDebt_40 : decode cX1_addDebt 40 = .ok (.aload_n 0, 1) := by decide +kernel
theorem dX1_addDebt_41 : decode cX1_addDebt 41 = .ok (.getfield 28, 3) := by decide +kernel
theorem dX1_addDebt_44 : decode cX1_addDebt 44 = .ok (.iload 4, 2) := by decide +kernel
theorem dX1_addDebt_46 : decode cX1_addDebt 46 = .ok (.invokestatic 50, 3) := by decide +kernel
theorem dX1_addDebt_49 : decode cX1_addDebt 49 = .ok (.putfield 28, 3) := by decide +kernel
theorem dX1_addDebt_52 : decode cX1_addDebt 52 = .ok (.aload_n 0, 1) := by decide +kernel
theorem dX1_addDebt_53 : decode cX1_addDebt 53 = .ok (.dup, 1) := by decide +kernel
theorem dX1_addDebt_54 : decode cX1_addDebt 54 = .ok (.getfield 24, 3) := by decide +kernel
theorem dX1_addDebt_57 : decode cX1_addDebt 57 = .ok (.iconst 1, 1) := by decide +kernel
theorem dX1_addDebt_58 : decode cX1_addDebt 58 = .ok (.iadd, 1) := by decide +kernel
theorem dX1_addDebt_59 : decode cX1_addDebt 59 = .ok (.putfield 24, 3) := by decide +kernel
theorem dX1_addDebt_62 : decode cX1_addDebt 62 = .ok (.iload 5, 2) := by decide +kernel
theorem dX1_addDebt_64 : decode cX1_addDebt 64 = .ok (.ireturn, 1) := by decide +kernel
theorem dX1_addThing_0 : decode cX1_addThing 0 = .ok (.aload_n 0, 1) := by decide +kernel
theorem dX1_addThing_1 : decode cX1_addThing 1 = .ok (.getfield 40, 3) := by decide +kernel
theorem dX1_addThing_4 : decode cX1_addThing 4 = .ok (.istore 4, 2) := by decide +kernel
theorem dX1_addThing_6 : decode cX1_addThing 6 = .ok (.aload_n 0, 1) := by decide +kernel
theorem dX1_addThing_7 : decode cX1_addThing 7 = .ok (.getfield 31, 3) := by decide +kernel
theorem dX1_addThing_10 : decode cX1_addThing 10 = .ok (.iload 4, 2) := by decide +kernel
theorem dX1_addThing_12 : decode cX1_addThing 12 = .ok (.iload_n 1, 1) := by decide +kernel
theorem dX1_addThing_13 : decode cX1_addThing 13 = .ok (.iastore, 1) := by decide +kernel
theorem dX1_addThing_14 : decode cX1_addThing 14 = .ok (.aload_n 0, 1) := by decide +kernel
theorem dX1_addThing_15 : decode cX1_addThing 15 = .ok (.getfield 34, 3) := by decide +kernel
theorem dX1_addThing_18 : decode cX1_addThing 18 = .ok (.iload 4, 2) := by decide +kernel
theorem dX1_addThing_20 : decode cX1_addThing 20 = .ok (.iload_n 2, 1) := by decide +kernel
theorem dX1_addThing_21 : decode cX1_addThing 21 = .ok (.iastore, 1) := by decide +kernel
theorem dX1_addThing_22 : decode cX1_addThing 22 = .ok (.aload_n 0, 1) := by decide +kernel
theorem dX1_addThing_23 : decode cX1_addThing 23 = .ok (.getfield 37, 3) := by decide +kernel
theorem dX1_addThing_26 : decode cX1_addThing 26 = .ok (.iload 4, 2) := by decide +kernel
theorem dX1_addThing_28 : decode cX1_addThing 28 = .ok (.iload_n 3, 1) := by decide +kernel
theorem dX1_addThing_29 : decode cX1_addThing 29 = .ok (.iastore, 1) := by decide +kernel
theorem dX1_addThing_30 : decode cX1_addThing 30 = .ok (.aload_n 0, 1) := by decide +kernel
theorem dX1_addThing_31 : decode cX1_addThing 31 = .ok (.dup, 1) := by decide +kernel
theorem dX1_addThing_32 : decode cX1_addThing 32 = .ok (.getfield 40, 3) := by decide +kernel
theorem dX1_addThing_35 : decode cX1_addThing 35 = .ok (.iconst 1, 1) := by decide +kernel
theorem dX1_addThing_36 : decode cX1_addThing 36 = .ok (.iadd, 1) := by decide +kernel
theorem dX1_addThing_37 : decode cX1_addThing 37 = .ok (.putfield 40, 3) := by decide +kernel
theorem dX1_addThing_40 : decode cX1_addThing 40 = .ok (.iload 4, 2) := by decide +kernel
theorem dX1_addThing_42 : decode cX1_addThing 42 = .ok (.ireturn, 1) := by decide +kernel
theorem dX1_owedBy_0 : decode cX1_owedBy 0 = .ok (.iload_n 3, 1) := by decide +kernel
theorem dX1_owedBy_1 : decode cX1_owedBy 1 = .ok (.aload_n 0, 1) := by decide +kernel
theorem dX1_owedBy_2 : decode cX1_owedBy 2 = .ok (.getfield 21, 3) := by decide +kernel
theorem dX1_owedBy_5 : decode cX1_owedBy 5 = .ok (.iload_n 1, 1) := by decide +kernel
theorem dX1_owedBy_6 : decode cX1_owedBy 6 = .ok (.iaload, 1) := by decide +kernel
theorem dX1_owedBy_7 : decode cX1_owedBy 7 = .ok (.if_icmp .ge 5, 3) := by decide +kernel
theorem dX1_owedBy_10 : decode cX1_owedBy 10 = .ok (.iconst 0, 1) := by decide +kernel
theorem dX1_owedBy_11 : decode cX1_owedBy 11 = .ok (.ireturn, 1) := by decide +kernel
theorem dX1_owedBy_12 : decode cX1_owedBy 12 = .ok (.aload_n 0, 1) := by decide +kernel
theorem dX1_owedBy_13 : decode cX1_owedBy 13 = .ok (.getfield 46, 3) := by decide +kernel
theorem dX1_owedBy_16 : decode cX1_owedBy 16 = .ok (.iload_n 3, 1) := by decide +kernel
theorem dX1_owedBy_17 : decode cX1_owedBy 17 = .ok (.invokevirtual 56, 3) := by decide +kernel
theorem dX1_owedBy_20 : decode cX1_owedBy 20 = .ok (.istore 5, 2) := by decide +kernel
theorem dX1_owedBy_22 : decode cX1_owedBy 22 = .ok (.aload_n 0, 1) := by decide +kernel
theorem dX1_owedBy_23 : decode cX1_owedBy 23 = .ok (.getfield 18, 3) := by decide +kernel
theorem dX1_owedBy_26 : decode cX1_owedBy 26 = .ok (.iload_n 1, 1) := by decide +kernel
theorem dX1_owedBy_27 : decode cX1_owedBy 27 = .ok (.iaload, 1) := by decide +kernel
theorem dX1_owedBy_28 : decode cX1_owedBy 28 = .ok (.iconst (-1), 1) := by decide +kernel
theorem dX1_owedBy_29 : decode cX1_owedBy 29 = .ok (.if_icmp .eq 33, 3) := by decide +kernel
theorem dX1_owedBy_32 : decode cX1_owedBy 32 = .ok (.aload_n 0, 1) := by decide +kernel
theorem dX1_owedBy_33 : decode cX1_owedBy 33 = .ok (.getfield 46, 3) := by decide +kernel
theorem dX1_owedBy_36 : decode cX1_owedBy 36 = .ok (.aload_n 0, 1) := by decide +kernel
theorem dX1_owedBy_37 : decode cX1_owedBy 37 = .ok (.getfield 18, 3) := by decide +kernel
theorem dX1_owedBy_40 : decode cX1_owedBy 40 = .ok (.iload_n 1, 1) := by decide +kernel
theorem dX1_owedBy_41 : decode cX1_owedBy 41 = .ok (.iaload, 1) := by decide +kernel
theorem dX1_owedBy_42 : decode cX1_owedBy 42 = .ok (.iload 5, 2) := by decide +kernel
theorem dX1_owedBy_44 : decode cX1_owedBy 44 = .ok (.invokevirtual 62, 3) := by decide +kernel
theorem dX1_owedBy_47 : decode cX1_owedBy 47 = .ok (.iload_n 2, 1) := by decide +kernel
theorem dX1_owedBy_48 : decode cX1_owedBy 48 = .ok (.if_icmp .ne 12, 3) := by decide +kernel
theorem dX1_owedBy_51 : decode cX1_owedBy 51 = .ok (.aload_n 0, 1) := by decide +kernel
theorem dX1_owedBy_52 : decode cX1_owedBy 52 = .ok (.getfield 15, 3) := by decide +kernel
theorem dX1_owedBy_55 : decode cX1_owedBy 55 = .ok (.iload_n 1, 1) := by decide +kernel
theorem dX1_owedBy_56 : decode cX1_owedBy 56 = .ok (.iaload, 1) := by decide +kernel
theorem dX1_owedBy_57 : decode cX1_owedBy 57 = .ok (.goto 4, 3) := by decide +kernel
theorem dX1_owedBy_60 : decode cX1_owedBy 60 = .ok (.iconst 0, 1) := by decide +kernel
theorem dX1_owedBy_61 : decode cX1_owedBy 61 = .ok (.ireturn, 1) := by decide +kernel
theorem dX1_owedBy_62 : decode cX1_owedBy 62 = .ok (.aload_n 0, 1) := by decide +kernel
theorem dX1_owedBy_63 : decode cX1_owedBy 63 = .ok (.aload_n 0, 1) := by decide +kernel
theorem dX1_owedBy_64 : decode cX1_owedBy 64 = .ok (.getfield 9, 3) := by decide +kernel
theorem dX1_owedBy_67 : decode cX1_owedBy 67 = .ok (.iload_n 1, 1) := by decide +kernel
theorem dX1_owedBy_68 : decode cX1_owedBy 68 = .ok (.iaload, 1) := by decide +kernel
theorem dX1_owedBy_69 : decode cX1_owedBy 69 = .ok (.aload_n 0, 1) := by decide +kernel
theorem dX1_owedBy_70 : decode cX1_owedBy 70 = .ok (.getfield 15, 3) := by decide +kernel
theorem dX1_owedBy_73 : decode cX1_owedBy 73 = .ok (.iload_n 1, 1) := by decide +kernel
theorem dX1_owedBy_74 : decode cX1_owedBy 74 = .ok (.iaload, 1) := by decide +kernel
theorem dX1_owedBy_75 : decode cX1_owedBy 75 = .ok (.aload_n 0, 1) := by decide +kernel
theorem dX1_owedBy_76 : decode cX1_owedBy 76 = .ok (.getfield 46, 3) := by decide +kernel
theorem dX1_owedBy_79 : decode cX1_owedBy 79 = .ok (.aload_n 0, 1) := by decide +kernel
theorem dX1_owedBy_80 : decode cX1_owedBy 80 = .ok (.getfield 21, 3) := by decide +kernel
theorem dX1_owedBy_83 : decode cX1_owedBy 83 = .ok (.iload_n 1, 1) := by decide +kernel
theorem dX1_owedBy_84 : decode cX1_owedBy 84 = .ok (.iaload, 1) := by decide +kernel
theorem dX1_owedBy_85 : decode cX1_owedBy 85 = .ok (.invokevirtual 56, 3) := by decide +kernel
theorem dX1_owedBy_88 : decode cX1_owedBy 88 = .ok (.iload 5, 2) := by decide +kernel
theorem dX1_owedBy_90 : decode cX1_owedBy 90 = .ok (.iload 4, 2) := by decide +kernel
theorem dX1_owedBy_92 : decode cX1_owedBy 92 = .ok (.invokevirtual 65, 3) := by decide +kernel
theorem dX1_owedBy_95 : decode cX1_owedBy 95 = .ok (.aload_n 0, 1) := by decide +kernel
theorem dX1_owedBy_96 : decode cX1_owedBy 96 = .ok (.getfield 43, 3) := by decide +kernel
theorem dX1_owedBy_99 : decode cX1_owedBy 99 = .ok (.iload_n 2, 1) := by decide +kernel
theorem dX1_owedBy_100 : decode cX1_owedBy 100 = .ok (.iaload, 1) := by decide +kernel
theorem dX1_owedBy_101 : decode cX1_owedBy 101 = .ok (.ireturn, 1) := by decide +kernel
theorem dX1_ownedBy_0 : decode cX1_ownedBy 0 = .ok (.aload_n 0, 1) := by decide +kernel
theorem dX1_ownedBy_1 : decode cX1_ownedBy 1 = .ok (.getfield 46, 3) := by decide +kernel
theorem dX1_ownedBy_4 : decode cX1_ownedBy 4 = .ok (.iload_n 3, 1) := by decide +kernel
theorem dX1_ownedBy_5 : decode cX1_ownedBy 5 = .ok (.invokevirtual 56, 3) := by decide +kernel
theorem dX1_ownedBy_8 : decode cX1_ownedBy 8 = .ok (.istore 5, 2) := by decide +kernel
theorem dX1_ownedBy_10 : decode cX1_ownedBy 10 = .ok (.aload_n 0, 1) := by decide +kernel
theorem dX1_ownedBy_11 : decode cX1_ownedBy 11 = .ok (.getfield 31, 3) := by decide +kernel
theorem dX1_ownedBy_14 : decode cX1_ownedBy 14 = .ok (.iload_n 1, 1) := by decide +kernel
theorem dX1_ownedBy_15 : decode cX1_ownedBy 15 = .ok (.iaload, 1) := by decide +kernel
theorem dX1_ownedBy_16 : decode cX1_ownedBy 16 = .ok (.ifCond .ne 28, 3) := by decide +kernel
theorem dX1_ownedBy_19 : decode cX1_ownedBy 19 = .ok (.aload_n 0, 1) := by decide +kernel
theorem dX1_ownedBy_20 : decode cX1_ownedBy 20 = .ok (.getfield 46, 3) := by decide +kernel
theorem dX1_ownedBy_23 : decode cX1_ownedBy 23 = .ok (.aload_n 0, 1) := by decide +kernel
theorem dX1_ownedBy_24 : decode cX1_ownedBy 24 = .ok (.getfield 37, 3) := by decide +kernel
theorem dX1_ownedBy_27 : decode cX1_ownedBy 27 = .ok (.iload_n 1, 1) := by decide +kernel
theorem dX1_ownedBy_28 : decode cX1_ownedBy 28 = .ok (.iaload, 1) := by decide +kernel
theorem dX1_ownedBy_29 : decode cX1_ownedBy 29 = .ok (.iload 5, 2) := by decide +kernel
theorem dX1_ownedBy_31 : decode cX1_ownedBy 31 = .ok (.invokevirtual 62, 3) := by decide +kernel
theorem dX1_ownedBy_34 : decode cX1_ownedBy 34 = .ok (.iload_n 2, 1) := by decide +kernel
theorem dX1_ownedBy_35 : decode cX1_ownedBy 35 = .ok (.if_icmp .ne 7, 3) := by decide +kernel
theorem dX1_ownedBy_38 : decode cX1_ownedBy 38 = .ok (.iconst 1, 1) := by decide +kernel
theorem dX1_ownedBy_39 : decode cX1_ownedBy 39 = .ok (.goto 4, 3) := by decide +kernel
theorem dX1_ownedBy_42 : decode cX1_ownedBy 42 = .ok (.iconst 0, 1) := by decide +kernel
theorem dX1_ownedBy_43 : decode cX1_ownedBy 43 = .ok (.ireturn, 1) := by decide +kernel
theorem dX1_ownedBy_44 : decode cX1_ownedBy 44 = .ok (.aload_n 0, 1) := by decide +kernel
theorem dX1_ownedBy_45 : decode cX1_ownedBy 45 = .ok (.getfield 31, 3) := by decide +kernel
theorem dX1_ownedBy_48 : decode cX1_ownedBy 48 = .ok (.iload_n 1, 1) := by decide +kernel
theorem dX1_ownedBy_49 : decode cX1_ownedBy 49 = .ok (.iaload, 1) := by decide +kernel
theorem dX1_ownedBy_50 : decode cX1_ownedBy 50 = .ok (.iconst 2, 1) := by decide +kernel
theorem dX1_ownedBy_51 : decode cX1_ownedBy 51 = .ok (.if_icmp .ne 21, 3) := by decide +kernel
theorem dX1_ownedBy_54 : decode cX1_ownedBy 54 = .ok (.aload_n 0, 1) := by decide +kernel
theorem dX1_ownedBy_55 : decode cX1_ownedBy 55 = .ok (.iload 5, 2) := by decide +kernel
theorem dX1_ownedBy_57 : decode cX1_ownedBy 57 = .ok (.iload 4, 2) := by decide +kernel
theorem dX1_ownedBy_59 : decode cX1_ownedBy 59 = .ok (.invokevirtual 69, 3) := by decide +kernel
theorem dX1_ownedBy_62 : decode cX1_ownedBy 62 = .ok (.iload_n 2, 1) := by decide +kernel
theorem dX1_ownedBy_63 : decode cX1_ownedBy 63 = .ok (.if_icmp .ne 7, 3) := by decide +kernel
theorem dX1_ownedBy_66 : decode cX1_ownedBy 66 = .ok (.iconst 1, 1) := by decide +kernel
theorem dX1_ownedBy_67 : decode cX1_ownedBy 67 = .ok (.goto 4, 3) := by decide +kernel
theorem dX1_ownedBy_70 : decode cX1_ownedBy 70 = .ok (.iconst 0, 1) := by decide +kernel
theorem dX1_ownedBy_71 : decode cX1_ownedBy 71 = .ok (.ireturn, 1) := by decide +kernel
theorem dX1_ownedBy_72 : decode cX1_ownedBy 72 = .ok (.aload_n 0, 1) := by decide +kernel
theorem dX1_ownedBy_73 : decode cX1_ownedBy 73 = .ok (.iconst 0, 1) := by decide +kernel
theorem dX1_ownedBy_74 : decode cX1_ownedBy 74 = .ok (.aload_n 0, 1) := by decide +kernel
theorem dX1_ownedBy_75 : decode cX1_ownedBy 75 = .ok (.getfield 34, 3) := by decide +kernel
theorem dX1_ownedBy_78 : decode cX1_ownedBy 78 = .ok (.iload_n 1, 1) := by decide +kernel
theorem dX1_ownedBy_79 : decode cX1_ownedBy 79 = .ok (.iaload, 1) := by decide +kernel
theorem dX1_ownedBy_80 : decode cX1_ownedBy 80 = .ok (.iconst 0, 1) := by decide +kernel
theorem dX1_ownedBy_81 : decode cX1_ownedBy 81 = .ok (.iload 5, 2) := by decide +kernel
theorem dX1_ownedBy_83 : decode cX1_ownedBy 83 = .ok (.iload 4, 2) := by decide +kernel
theorem dX1_ownedBy_85 : decode cX1_ownedBy 85 = .ok (.invokevirtual 65, 3) := by decide +kernel
theorem dX1_ownedBy_88 : decode cX1_ownedBy 88 = .ok (.aload_n 0, 1) := by decide +kernel
theorem dX1_ownedBy_89 : decode cX1_ownedBy 89 = .ok (.getfield 43, 3) := by decide +kernel
theorem dX1_ownedBy_92 : decode cX1_ownedBy 92 = .ok (.iload_n 2, 1) := by decide +kernel
theorem dX1_ownedBy_93 : decode cX1_ownedBy 93 = .ok (.iaload, 1) := by decide +kernel
theorem dX1_ownedBy_94 : decode cX1_ownedBy 94 = .ok (.ireturn, 1) := by decide +kernel
theorem dX1_burdenOf_0 : decode cX1_burdenOf 0 = .ok (.iconst 0, 1) := by decide +kernel
theorem dX1_burdenOf_1 : decode cX1_burdenOf 1 = .ok (.istore 4, 2) := by decide +kernel
theorem dX1_burdenOf_3 : decode cX1_burdenOf 3 = .ok (.iconst 0, 1) := by decide +kernel
theorem dX1_burdenOf_4 : decode cX1_burdenOf 4 = .ok (.istore 5, 2) := by decide +kernel
theorem dX1_burdenOf_6 : decode cX1_burdenOf 6 = .ok (.iload 5, 2) := by decide +kernel
theorem dX1_burdenOf_8 : decode cX1_burdenOf 8 = .ok (.aload_n 0, 1) := by decide +kernel
theorem dX1_burdenOf_9 : decode cX1_burdenOf 9 = .ok (.getfield 24, 3) := by decide +kernel
theorem dX1_burdenOf_12 : decode cX1_burdenOf 12 = .ok (.if_icmp .ge 23, 3) := by decide +kernel
theorem dX1_burdenOf_15 : decode cX1_burdenOf 15 = .ok (.iload 4, 2) := by decide +kernel
theorem dX1_burdenOf_17 : decode cX1_burdenOf 17 = .ok (.aload_n 0, 1) := by decide +kernel
theorem dX1_burdenOf_18 : decode cX1_burdenOf 18 = .ok (.iload 5, 2) := by decide +kernel
theorem dX1_burdenOf_20 : decode cX1_burdenOf 20 = .ok (.iload_n 1, 1) := by decide +kernel
theorem dX1_burdenOf_21 : decode cX1_burdenOf 21 = .ok (.iload_n 2, 1) := by decide +kernel
theorem dX1_burdenOf_22 : decode cX1_burdenOf 22 = .ok (.iload_n 3, 1) := by decide +kernel
theorem dX1_burdenOf_23 : decode cX1_burdenOf 23 = .ok (.invokevirtual 72, 3) := by decide +kernel
theorem dX1_burdenOf_26 : decode cX1_burdenOf 26 = .ok (.iadd, 1) := by decide +kernel
theorem dX1_burdenOf_27 : decode cX1_burdenOf 27 = .ok (.istore 4, 2) := by decide +kernel
theorem dX1_burdenOf_29 : decode cX1_burdenOf 29 = .ok (.iinc 5 1, 3) := by decide +kernel
theorem dX1_burdenOf_32 : decode cX1_burdenOf 32 = .ok (.goto (-26), 3) := by decide +kernel
theorem dX1_burdenOf_35 : decode cX1_burdenOf 35 = .ok (.iconst 0, 1) := by decide +kernel
theorem dX1_burdenOf_36 : decode cX1_burdenOf 36 = .ok (.istore 5, 2) := by decide +kernel
theorem dX1_burdenOf_38 : decode cX1_burdenOf 38 = .ok (.iload 5, 2) := by decide +kernel
theorem dX1_burdenOf_40 : decode cX1_burdenOf 40 = .ok (.aload_n 0, 1) := by decide +kernel
theorem dX1_burdenOf_41 : decode cX1_burdenOf 41 = .ok (.getfield 40, 3) := by decide +kernel
theorem dX1_burdenOf_44 : decode cX1_burdenOf 44 = .ok (.if_icmp .ge 33, 3) := by decide +kernel
theorem dX1_burdenOf_47 : decode cX1_burdenOf 47 = .ok (.aload_n 0, 1) := by decide +kernel
theorem dX1_burdenOf_48 : decode cX1_burdenOf 48 = .ok (.getfield 31, 3) := by decide +kernel
theorem dX1_burdenOf_51 : decode cX1_burdenOf 51 = .ok (.iload 5, 2) := by decide +kernel
theorem dX1_burdenOf_53 : decode cX1_burdenOf 53 = .ok (.iaload, 1) := by decide +kernel
theorem dX1_burdenOf_54 : decode cX1_burdenOf 54 = .ok (.ifCond .eq 17, 3) := by decide +kernel
theorem dX1_burdenOf_57 : decode cX1_burdenOf 57 = .ok (.iload 4, 2) := by decide +kernel
theorem dX1_burdenOf_59 : decode cX1_burdenOf 59 = .ok (.aload_n 0, 1) := by decide +kernel
theorem dX1_burdenOf_60 : decode cX1_burdenOf 60 = .ok (.iload 5, 2) := by decide +kernel
theorem dX1_burdenOf_62 : decode cX1_burdenOf 62 = .ok (.iload_n 1, 1) := by decide +kernel
theorem dX1_burdenOf_63 : decode cX1_burdenOf 63 = .ok (.iload_n 2, 1) := by decide +kernel
theorem dX1_burdenOf_64 : decode cX1_burdenOf 64 = .ok (.iload_n 3, 1) := by decide +kernel
theorem dX1_burdenOf_65 : decode cX1_burdenOf 65 = .ok (.invokevirtual 76, 3) := by decide +kernel
theorem dX1_burdenOf_68 : decode cX1_burdenOf 68 = .ok (.isub, 1) := by decide +kernel
theorem dX1_burdenOf_69 : decode cX1_burdenOf 69 = .ok (.istore 4, 2) := by decide +kernel
theorem dX1_burdenOf_71 : decode cX1_burdenOf 71 = .ok (.iinc 5 1, 3) := by decide +kernel
theorem dX1_burdenOf_74 : decode cX1_burdenOf 74 = .ok (.goto (-36), 3) := by decide +kernel
theorem dX1_burdenOf_77 : decode cX1_burdenOf 77 = .ok (.iload 4, 2) := by decide +kernel
theorem dX1_burdenOf_79 : decode cX1_burdenOf 79 = .ok (.ireturn, 1) := by decide +kernel
theorem dX1_divide_0 : decode cX1_divide 0 = .ok (.aload_n 0, 1) := by decide +kernel
theorem dX1_divide_1 : decode cX1_divide 1 = .ok (.getfield 43, 3) := by decide +kernel
theorem dX1_divide_4 : decode cX1_divide 4 = .ok (.iconst 0, 1) := by decide +kernel
theorem dX1_divide_5 : decode cX1_divide 5 = .ok (.invokestatic 79, 3) := by decide +kernel
theorem dX1_divide_8 : decode cX1_divide 8 = .ok (.aload_n 0, 1) := by decide +kernel
theorem dX1_divide_9 : decode cX1_divide 9 = .ok (.getfield 43, 3) := by decide +kernel
theorem dX1_divide_12 : decode cX1_divide 12 = .ok (.iload_n 1, 1) := by decide +kernel
theorem dX1_divide_13 : decode cX1_divide 13 = .ok (.iload_n 2, 1) := by decide +kernel
theorem dX1_divide_14 : decode cX1_divide 14 = .ok (.iastore, 1) := by decide +kernel
theorem dX1_divide_15 : decode cX1_divide 15 = .ok (.iload_n 3, 1) := by decide +kernel
theorem dX1_divide_16 : decode cX1_divide 16 = .ok (.istore 6, 2) := by decide +kernel
theorem dX1_divide_18 : decode cX1_divide 18 = .ok (.iload 6, 2) := by decide +kernel
theorem dX1_divide_20 : decode cX1_divide 20 = .ok (.iload 4, 2) := by decide +kernel
theorem dX1_divide_22 : decode cX1_divide 22 = .ok (.if_icmp .ge 17, 3) := by decide +kernel
theorem dX1_divide_25 : decode cX1_divide 25 = .ok (.aload_n 0, 1) := by decide +kernel
theorem dX1_divide_26 : decode cX1_divide 26 = .ok (.iload 6, 2) := by decide +kernel
theorem dX1_divide_28 : decode cX1_divide 28 = .ok (.iload 5, 2) := by decide +kernel
theorem dX1_divide_30 : decode cX1_divide 30 = .ok (.invokevirtual 85, 3) := by decide +kernel
theorem dX1_divide_33 : decode cX1_divide 33 = .ok (.iinc 6 1, 3) := by decide +kernel
theorem dX1_divide_36 : decode cX1_divide 36 = .ok (.goto (-18), 3) := by decide +kernel
theorem dX1_divide_39 : decode cX1_divide 39 = .ok (.return_, 1) := by decide +kernel
theorem dX1_divideAt_0 : decode cX1_divideAt 0 = .ok (.aload_n 0, 1) := by decide +kernel
theorem dX1_divideAt_1 : decode cX1_divideAt 1 = .ok (.getfield 46, 3) := by decide +kernel
theorem dX1_divideAt_4 : decode cX1_divideAt 4 = .ok (.getfield 89, 3) := by decide +kernel
theorem dX1_divideAt_7 : decode cX1_divideAt 7 = .ok (.iload_n 1, 1) := by decide +kernel
theorem dX1_divideAt_8 : decode cX1_divideAt 8 = .ok (.iaload, 1) := by decide +kernel
theorem dX1_divideAt_9 : decode cX1_divideAt 9 = .ok (.istore_n 3, 1) := by decide +kernel
theorem dX1_divideAt_10 : decode cX1_divideAt 10 = .ok (.aload_n 0, 1) := by decide +kernel
theorem dX1_divideAt_11 : decode cX1_divideAt 11 = .ok (.getfield 46, 3) := by decide +kernel
theorem dX1_divideAt_14 : decode cX1_divideAt 14 = .ok (.getfield 92, 3) := by decide +kernel
theorem dX1_divideAt_17 : decode cX1_divideAt 17 = .ok (.iload_n 1, 1) := by decide +kernel
theorem dX1_divideAt_18 : decode cX1_divideAt 18 = .ok (.iaload, 1) := by decide +kernel
theorem dX1_divideAt_19 : decode cX1_divideAt 19 = .ok (.istore 4, 2) := by decide +kernel
theorem dX1_divideAt_21 : decode cX1_divideAt 21 = .ok (.aload_n 0, 1) := by decide +kernel
theorem dX1_divideAt_22 : decode cX1_divideAt 22 = .ok (.getfield 46, 3) := by decide +kernel
theorem dX1_divideAt_25 : decode cX1_divideAt 25 = .ok (.getfield 95, 3) := by decide +kernel
theorem dX1_divideAt_28 : decode cX1_divideAt 28 = .ok (.iload_n 1, 1) := by decide +kernel
theorem dX1_divideAt_29 : decode cX1_divideAt 29 = .ok (.iaload, 1) := by decide +kernel
theorem dX1_divideAt_30 : decode cX1_divideAt 30 = .ok (.istore 5, 2) := by decide +kernel
theorem dX1_divideAt_32 : decode cX1_divideAt 32 = .ok (.aload_n 0, 1) := by decide +kernel
theorem dX1_divideAt_33 : decode cX1_divideAt 33 = .ok (.getfield 46, 3) := by decide +kernel
theorem dX1_divideAt_36 : decode cX1_divideAt 36 = .ok (.getfield 98, 3) := by decide +kernel
theorem dX1_divideAt_39 : decode cX1_divideAt 39 = .ok (.iload_n 1, 1) := by decide +kernel
theorem dX1_divideAt_40 : decode cX1_divideAt 40 = .ok (.iaload, 1) := by decide +kernel
theorem dX1_divideAt_41 : decode cX1_divideAt 41 = .ok (.tableswitch 144 0 2 #[27, 65, 117], 27) := by decide +kernel
theorem dX1_divideAt_68 : decode cX1_divideAt 68 = .ok (.aload_n 0, 1) := by decide +kernel
theorem dX1_divideAt_69 : decode cX1_divideAt 69 = .ok (.getfield 43, 3) := by decide +kernel
theorem dX1_divideAt_72 : decode cX1_divideAt 72 = .ok (.iload 5, 2) := by decide +kernel
theorem dX1_divideAt_74 : decode cX1_divideAt 74 = .ok (.aload_n 0, 1) := by decide +kernel
theorem dX1_divideAt_75 : decode cX1_divideAt 75 = .ok (.aload_n 0, 1) := by decide +kernel
theorem dX1_divideAt_76 : decode cX1_divideAt 76 = .ok (.getfield 43, 3) := by decide +kernel
theorem dX1_divideAt_79 : decode cX1_divideAt 79 = .ok (.iload_n 3, 1) := by decide +kernel
theorem dX1_divideAt_80 : decode cX1_divideAt 80 = .ok (.iaload, 1) := by decide +kernel
theorem dX1_divideAt_81 : decode cX1_divideAt 81 = .ok (.iload_n 1, 1) := by decide +kernel
theorem dX1_divideAt_82 : decode cX1_divideAt 82 = .ok (.iload_n 2, 1) := by decide +kernel
theorem dX1_divideAt_83 : decode cX1_divideAt 83 = .ok (.invokevirtual 99, 3) := by decide +kernel
theorem dX1_divideAt_86 : decode cX1_divideAt 86 = .ok (.iastore, 1) := by decide +kernel
theorem dX1_divideAt_87 : decode cX1_divideAt 87 = .ok (.aload_n 0, 1) := by decide +kernel
theorem dX1_divideAt_88 : decode cX1_divideAt 88 = .ok (.getfield 43, 3) := by decide +kernel
theorem dX1_divideAt_91 : decode cX1_divideAt 91 = .ok (.iload_n 3, 1) := by decide +kernel
theorem dX1_divideAt_92 : decode cX1_divideAt 92 = .ok (.dup2, 1) := by decide +kernel
theorem dX1_divideAt_93 : decode cX1_divideAt 93 = .ok (.iaload, 1) := by decide +kernel
theorem dX1_divideAt_94 : decode cX1_divideAt 94 = .ok (.aload_n 0, 1) := by decide +kernel
theorem dX1_divideAt_95 : decode cX1_divideAt 95 = .ok (.getfield 43, 3) := by decide +kernel
theorem dX1_divideAt_98 : decode cX1_divideAt 98 = .ok (.iload 5, 2) := by decide +kernel
theorem dX1_divideAt_100 : decode cX1_divideAt 100 = .ok (.iaload, 1) := by decide +kernel
theorem dX1_divideAt_101 : decode cX1_divideAt 101 = .ok (.isub, 1) := by decide +kernel
theorem dX1_divideAt_102 : decode cX1_divideAt 102 = .ok (.iastore, 1) := by decide +kernel
theorem dX1_divideAt_103 : decode cX1_divideAt 103 = .ok (.goto 82, 3) := by decide +kernel
theorem dX1_divideAt_106 : decode cX1_divideAt 106 = .ok (.aload_n 0, 1) := by decide +kernel
theorem dX1_divideAt_107 : decode cX1_divideAt 107 = .ok (.getfield 43, 3) := by decide +kernel
theorem dX1_divideAt_110 : decode cX1_divideAt 110 = .ok (.iload 5, 2) := by decide +kernel
theorem dX1_divideAt_112 : decode cX1_divideAt 112 = .ok (.aload_n 0, 1) := by decide +kernel
theorem dX1_divideAt_113 : decode cX1_divideAt 113 = .ok (.aload_n 0, 1) := by decide +kernel
theorem dX1_divideAt_114 : decode cX1_divideAt 114 = .ok (.getfield 43, 3) := by decide +kernel
theorem dX1_divideAt_117 : decode cX1_divideAt 117 = .ok (.iload_n 3, 1) := by decide +kernel
theorem dX1_divideAt_118 : decode cX1_divideAt 118 = .ok (.iaload, 1) := by decide +kernel
theorem dX1_divideAt_119 : decode cX1_divideAt 119 = .ok (.iload_n 1, 1) := by decide +kernel
theorem dX1_divideAt_120 : decode cX1_divideAt 120 = .ok (.iload_n 2, 1) := by decide +kernel
theorem dX1_divideAt_121 : decode cX1_divideAt 121 = .ok (.invokevirtual 99, 3) := by decide +kernel
theorem dX1_divideAt_124 : decode cX1_divideAt 124 = .ok (.iastore, 1) := by decide +kernel
theorem dX1_divideAt_125 : decode cX1_divideAt 125 = .ok (.aload_n 0, 1) := by decide +kernel
theorem dX1_divideAt_126 : decode cX1_divideAt 126 = .ok (.getfield 43, 3) := by decide +kernel
theorem dX1_divideAt_129 : decode cX1_divideAt 129 = .ok (.iload 5, 2) := by decide +kernel
theorem dX1_divideAt_131 : decode cX1_divideAt 131 = .ok (.iconst 1, 1) := by decide +kernel
theorem dX1_divideAt_132 : decode cX1_divideAt 132 = .ok (.iadd, 1) := by decide +kernel
theorem dX1_divideAt_133 : decode cX1_divideAt 133 = .ok (.aload_n 0, 1) := by decide +kernel
theorem dX1_divideAt_134 : decode cX1_divideAt 134 = .ok (.getfield 43, 3) := by decide +kernel
theorem dX1_divideAt_137 : decode cX1_divideAt 137 = .ok (.iload_n 3, 1) := by decide +kernel
theorem dX1_divideAt_138 : decode cX1_divideAt 138 = .ok (.iaload, 1) := by decide +kernel
theorem dX1_divideAt_139 : decode cX1_divideAt 139 = .ok (.aload_n 0, 1) := by decide +kernel
theorem dX1_divideAt_140 : decode cX1_divideAt 140 = .ok (.getfield 43, 3) := by decide +kernel
theorem dX1_divideAt_143 : decode cX1_divideAt 143 = .ok (.iload 5, 2) := by decide +kernel
theorem dX1_divideAt_145 : decode cX1_divideAt 145 = .ok (.iaload, 1) := by decide +kernel
theorem dX1_divideAt_146 : decode cX1_divideAt 146 = .ok (.isub, 1) := by decide +kernel
theorem dX1_divideAt_147 : decode cX1_divideAt 147 = .ok (.iastore, 1) := by decide +kernel
theorem dX1_divideAt_148 : decode cX1_divideAt 148 = .ok (.aload_n 0, 1) := by decide +kernel
theorem dX1_divideAt_149 : decode cX1_divideAt 149 = .ok (.getfield 43, 3) := by decide +kernel
theorem dX1_divideAt_152 : decode cX1_divideAt 152 = .ok (.iload_n 3, 1) := by decide +kernel
theorem dX1_divideAt_153 : decode cX1_divideAt 153 = .ok (.iconst 0, 1) := by decide +kernel
theorem dX1_divideAt_154 : decode cX1_divideAt 154 = .ok (.iastore, 1) := by decide +kernel
theorem dX1_divideAt_155 : decode cX1_divideAt 155 = .ok (.goto 30, 3) := by decide +kernel
theorem dX1_divideAt_158 : decode cX1_divideAt 158 = .ok (.aload_n 0, 1) := by decide +kernel
theorem dX1_divideAt_159 : decode cX1_divideAt 159 = .ok (.getfield 43, 3) := by decide +kernel
theorem dX1_divideAt_162 : decode cX1_divideAt 162 = .ok (.iload_n 3, 1) := by decide +kernel
theorem dX1_divideAt_163 : decode cX1_divideAt 163 = .ok (.dup2, 1) := by decide +kernel
theorem dX1_divideAt_164 : decode cX1_divideAt 164 = .ok (.iaload, 1) := by decide +kernel
theorem dX1_divideAt_165 : decode cX1_divideAt 165 = .ok (.aload_n 0, 1) := by decide +kernel
theorem dX1_divideAt_166 : decode cX1_divideAt 166 = .ok (.getfield 43, 3) := by decide +kernel
theorem dX1_divideAt_169 : decode cX1_divideAt 169 = .ok (.iload 4, 2) := by decide +kernel
theorem dX1_divideAt_171 : decode cX1_divideAt 171 = .ok (.iaload, 1) := by decide +kernel
theorem dX1_divideAt_172 : decode cX1_divideAt 172 = .ok (.iadd, 1) := by decide +kernel
theorem dX1_divideAt_173 : decode cX1_divideAt 173 = .ok (.iastore, 1) := by decide +kernel
theorem dX1_divideAt_174 : decode cX1_divideAt 174 = .ok (.aload_n 0, 1) := by decide +kernel
theorem dX1_divideAt_175 : decode cX1_divideAt 175 = .ok (.getfield 43, 3) := by decide +kernel
theorem dX1_divideAt_178 : decode cX1_divideAt 178 = .ok (.iload 4, 2) := by decide +kernel
theorem dX1_divideAt_180 : decode cX1_divideAt 180 = .ok (.iconst 0, 1) := by decide +kernel
theorem dX1_divideAt_181 : decode cX1_divideAt 181 = .ok (.iastore, 1) := by decide +kernel
theorem dX1_divideAt_182 : decode cX1_divideAt 182 = .ok (.goto 3, 3) := by decide +kernel
theorem dX1_divideAt_185 : decode cX1_divideAt 185 = .ok (.return_, 1) := by decide +kernel
theorem dX1_partOfFirst_0 : decode cX1_partOfFirst 0 = .ok (.aload_n 0, 1) := by decide +kernel
theorem dX1_partOfFirst_1 : decode cX1_partOfFirst 1 = .ok (.aload_n 0, 1) := by decide +kernel
theorem dX1_partOfFirst_2 : decode cX1_partOfFirst 2 = .ok (.getfield 46, 3) := by decide +kernel
theorem dX1_partOfFirst_5 : decode cX1_partOfFirst 5 = .ok (.getfield 103, 3) := by decide +kernel
theorem dX1_partOfFirst_8 : decode cX1_partOfFirst 8 = .ok (.iload_n 2, 1) := by decide +kernel
theorem dX1_partOfFirst_9 : decode cX1_partOfFirst 9 = .ok (.iaload, 1) := by decide +kernel
theorem dX1_partOfFirst_10 : decode cX1_partOfFirst 10 = .ok (.iload_n 2, 1) := by decide +kernel
theorem dX1_partOfFirst_11 : decode cX1_partOfFirst 11 = .ok (.iload_n 3, 1) := by decide +kernel
theorem dX1_partOfFirst_12 : decode cX1_partOfFirst 12 = .ok (.invokevirtual 106, 3) := by decide +kernel
theorem dX1_partOfFirst_15 : decode cX1_partOfFirst 15 = .ok (.istore 4, 2) := by decide +kernel
theorem dX1_partOfFirst_17 : decode cX1_partOfFirst 17 = .ok (.iload 4, 2) := by decide +kernel
theorem dX1_partOfFirst_19 : decode cX1_partOfFirst 19 = .ok (.aload_n 0, 1) := by decide +kernel
theorem dX1_partOfFirst_20 : decode cX1_partOfFirst 20 = .ok (.aload_n 0, 1) := by decide +kernel
theorem dX1_partOfFirst_21 : decode cX1_partOfFirst 21 = .ok (.getfield 46, 3) := by decide +kernel
theorem dX1_partOfFirst_24 : decode cX1_partOfFirst 24 = .ok (.getfield 109, 3) := by decide +kernel
theorem dX1_partOfFirst_27 : decode cX1_partOfFirst 27 = .ok (.iload_n 2, 1) := by decide +kernel
theorem dX1_partOfFirst_28 : decode cX1_partOfFirst 28 = .ok (.iaload, 1) := by decide +kernel
theorem dX1_partOfFirst_29 : decode cX1_partOfFirst 29 = .ok (.iload_n 2, 1) := by decide +kernel
theorem dX1_partOfFirst_30 : decode cX1_partOfFirst 30 = .ok (.iload_n 3, 1) := by decide +kernel
theorem dX1_partOfFirst_31 : decode cX1_partOfFirst 31 = .ok (.invokevirtual 106, 3) := by decide +kernel
theorem dX1_partOfFirst_34 : decode cX1_partOfFirst 34 = .ok (.iadd, 1) := by decide +kernel
theorem dX1_partOfFirst_35 : decode cX1_partOfFirst 35 = .ok (.istore 5, 2) := by decide +kernel
theorem dX1_partOfFirst_37 : decode cX1_partOfFirst 37 = .ok (.iload 5, 2) := by decide +kernel
theorem dX1_partOfFirst_39 : decode cX1_partOfFirst 39 = .ok (.ifCond .gt 7, 3) := by decide +kernel
theorem dX1_partOfFirst_42 : decode cX1_partOfFirst 42 = .ok (.iconst 0, 1) := by decide +kernel
theorem dX1_partOfFirst_43 : decode cX1_partOfFirst 43 = .ok (.goto 10, 3) := by decide +kernel
theorem dX1_partOfFirst_46 : decode cX1_partOfFirst 46 = .ok (.iload_n 1, 1) := by decide +kernel
theorem dX1_partOfFirst_47 : decode cX1_partOfFirst 47 = .ok (.iload 4, 2) := by decide +kernel
theorem dX1_partOfFirst_49 : decode cX1_partOfFirst 49 = .ok (.imul, 1) := by decide +kernel
theorem dX1_partOfFirst_50 : decode cX1_partOfFirst 50 = .ok (.iload 5, 2) := by decide +kernel
theorem dX1_partOfFirst_52 : decode cX1_partOfFirst 52 = .ok (.idiv, 1) := by decide +kernel
theorem dX1_partOfFirst_53 : decode cX1_partOfFirst 53 = .ok (.ireturn, 1) := by decide +kernel
theorem dX1_ownerAbroad_0 : decode cX1_ownerAbroad 0 = .ok (.iconst 0, 1) := by decide +kernel
theorem dX1_ownerAbroad_1 : decode cX1_ownerAbroad 1 = .ok (.istore_n 3, 1) := by decide +kernel
theorem dX1_ownerAbroad_2 : decode cX1_ownerAbroad 2 = .ok (.iconst 0, 1) := by decide +kernel
theorem dX1_ownerAbroad_3 : decode cX1_ownerAbroad 3 = .ok (.istore 4, 2) := by decide +kernel
theorem dX1_ownerAbroad_5 : decode cX1_ownerAbroad 5 = .ok (.iload 4, 2) := by decide +kernel
theorem dX1_ownerAbroad_7 : decode cX1_ownerAbroad 7 = .ok (.iload_n 1, 1) := by decide +kernel
theorem dX1_ownerAbroad_8 : decode cX1_ownerAbroad 8 = .ok (.if_icmp .ge 73, 3) := by decide +kernel
theorem dX1_ownerAbroad_11 : decode cX1_ownerAbroad 11 = .ok (.aload_n 0, 1) := by decide +kernel
theorem dX1_ownerAbroad_12 : decode cX1_ownerAbroad 12 = .ok (.getfield 46, 3) := by decide +kernel
theorem dX1_ownerAbroad_15 : decode cX1_ownerAbroad 15 = .ok (.getfield 98, 3) := by decide +kernel
theorem dX1_ownerAbroad_18 : decode cX1_ownerAbroad 18 = .ok (.iload 4, 2) := by decide +kernel
theorem dX1_ownerAbroad_20 : decode cX1_ownerAbroad 20 = .ok (.iaload, 1) := by decide +kernel
theorem dX1_ownerAbroad_21 : decode cX1_ownerAbroad 21 = .ok (.iconst 2, 1) := by decide +kernel
theorem dX1_ownerAbroad_22 : decode cX1_ownerAbroad 22 = .ok (.if_icmp .ne 31, 3) := by decide +kernel
theorem dX1_ownerAbroad_25 : decode cX1_ownerAbroad 25 = .ok (.aload_n 0, 1) := by decide +kernel
theorem dX1_ownerAbroad_26 : decode cX1_ownerAbroad 26 = .ok (.getfield 46, 3) := by decide +kernel
theorem dX1_ownerAbroad_29 : decode cX1_ownerAbroad 29 = .ok (.getfield 92, 3) := by decide +kernel
theorem dX1_ownerAbroad_32 : decode cX1_ownerAbroad 32 = .ok (.iload 4, 2) := by decide +kernel
theorem dX1_ownerAbroad_34 : decode cX1_ownerAbroad 34 = .ok (.iaload, 1) := by decide +kernel
theorem dX1_ownerAbroad_35 : decode cX1_ownerAbroad 35 = .ok (.iload_n 3, 1) := by decide +kernel
theorem dX1_ownerAbroad_36 : decode cX1_ownerAbroad 36 = .ok (.if_icmp .ne 17, 3) := by decide +kernel
theorem dX1_ownerAbroad_39 : decode cX1_ownerAbroad 39 = .ok (.aload_n 0, 1) := by decide +kernel
theorem dX1_ownerAbroad_40 : decode cX1_ownerAbroad 40 = .ok (.getfield 46, 3) := by decide +kernel
theorem dX1_ownerAbroad_43 : decode cX1_ownerAbroad 43 = .ok (.getfield 89, 3) := by decide +kernel
theorem dX1_ownerAbroad_46 : decode cX1_ownerAbroad 46 = .ok (.iload 4, 2) := by decide +kernel
theorem dX1_ownerAbroad_48 : decode cX1_ownerAbroad 48 = .ok (.iaload, 1) := by decide +kernel
theorem dX1_ownerAbroad_49 : decode cX1_ownerAbroad 49 = .ok (.istore_n 3, 1) := by decide +kernel
theorem dX1_ownerAbroad_50 : decode cX1_ownerAbroad 50 = .ok (.goto 25, 3) := by decide +kernel
theorem dX1_ownerAbroad_53 : decode cX1_ownerAbroad 53 = .ok (.aload_n 0, 1) := by decide +kernel
theorem dX1_ownerAbroad_54 : decode cX1_ownerAbroad 54 = .ok (.getfield 46, 3) := by decide +kernel
theorem dX1_ownerAbroad_57 : decode cX1_ownerAbroad 57 = .ok (.getfield 89, 3) := by decide +kernel
theorem dX1_ownerAbroad_60 : decode cX1_ownerAbroad 60 = .ok (.iload 4, 2) := by decide +kernel
theorem dX1_ownerAbroad_62 : decode cX1_ownerAbroad 62 = .ok (.iaload, 1) := by decide +kernel
theorem dX1_ownerAbroad_63 : decode cX1_ownerAbroad 63 = .ok (.iload_n 3, 1) := by decide +kernel
theorem dX1_ownerAbroad_64 : decode cX1_ownerAbroad 64 = .ok (.if_icmp .ne 11, 3) := by decide +kernel
theorem dX1_ownerAbroad_67 : decode cX1_ownerAbroad 67 = .ok (.aload_n 0, 1) := by decide +kernel
theorem dX1_ownerAbroad_68 : decode cX1_ownerAbroad 68 = .ok (.iload 4, 2) := by decide +kernel
theorem dX1_ownerAbroad_70 : decode cX1_ownerAbroad 70 = .ok (.iload_n 2, 1) := by decide +kernel
theorem dX1_ownerAbroad_71 : decode cX1_ownerAbroad 71 = .ok (.invokevirtual 112, 3) := by decide +kernel
theorem dX1_ownerAbroad_74 : decode cX1_ownerAbroad 74 = .ok (.istore_n 3, 1) := by decide +kernel
theorem dX1_ownerAbroad_75 : decode cX1_ownerAbroad 75 = .ok (.iinc 4 1, 3) := by decide +kernel
theorem dX1_ownerAbroad_78 : decode cX1_ownerAbroad 78 = .ok (.goto (-73), 3) := by decide +kernel
theorem dX1_ownerAbroad_81 : decode cX1_ownerAbroad 81 = .ok (.iload_n 3, 1) := by decide +kernel
theorem dX1_ownerAbroad_82 : decode cX1_ownerAbroad 82 = .ok (.ireturn, 1) := by decide +kernel
theorem dX1_ownerAbroadBehind_0 : decode cX1_ownerAbroadBehind 0 = .ok (.aload_n 0, 1) := by decide +kernel
theorem dX1_ownerAbroadBehind_1 : decode cX1_ownerAbroadBehind 1 = .ok (.getfield 46, 3) := by decide +kernel
theorem dX1_ownerAbroadBehind_4 : decode cX1_ownerAbroadBehind 4 = .ok (.getfield 89, 3) := by decide +kernel
theorem dX1_ownerAbroadBehind_7 : decode cX1_ownerAbroadBehind 7 = .ok (.iload_n 1, 1) := by decide +kernel
theorem dX1_ownerAbroadBehind_8 : decode cX1_ownerAbroadBehind 8 = .ok (.iaload, 1) := by decide +kernel
theorem dX1_ownerAbroadBehind_9 : decode cX1_ownerAbroadBehind 9 = .ok (.istore_n 3, 1) := by decide +kernel
theorem dX1_ownerAbroadBehind_10 : decode cX1_ownerAbroadBehind 10 = .ok (.aload_n 0, 1) := by decide +kernel
theorem dX1_ownerAbroadBehind_11 : decode cX1_ownerAbroadBehind 11 = .ok (.getfield 46, 3) := by decide +kernel
theorem dX1_ownerAbroadBehind_14 : decode cX1_ownerAbroadBehind 14 = .ok (.getfield 95, 3) := by decide +kernel
theorem dX1_ownerAbroadBehind_17 : decode cX1_ownerAbroadBehind 17 = .ok (.iload_n 1, 1) := by decide +kernel
theorem dX1_ownerAbroadBehind_18 : decode cX1_ownerAbroadBehind 18 = .ok (.iaload, 1) := by decide +kernel
theorem dX1_ownerAbroadBehind_19 : decode cX1_ownerAbroadBehind 19 = .ok (.istore 4, 2) := by decide +kernel
theorem dX1_ownerAbroadBehind_21 : decode cX1_ownerAbroadBehind 21 = .ok (.aload_n 0, 1) := by decide +kernel
theorem dX1_ownerAbroadBehind_22 : decode cX1_ownerAbroadBehind 22 = .ok (.getfield 46, 3) := by decide +kernel
theorem dX1_ownerAbroadBehind_25 : decode cX1_ownerAbroadBehind 25 = .ok (.getfield 98, 3) := by decide +kernel
theorem dX1_ownerAbroadBehind_28 : decode cX1_ownerAbroadBehind 28 = .ok (.iload_n 1, 1) := by decide +kernel
theorem dX1_ownerAbroadBehind_29 : decode cX1_ownerAbroadBehind 29 = .ok (.iaload, 1) := by decide +kernel
theorem dX1_ownerAbroadBehind_30 : decode cX1_ownerAbroadBehind 30 = .ok (.istore 5, 2) := by decide +kernel
theorem dX1_ownerAbroadBehind_32 : decode cX1_ownerAbroadBehind 32 = .ok (.iload 5, 2) := by decide +kernel
theorem dX1_ownerAbroadBehind_34 : decode cX1_ownerAbroadBehind 34 = .ok (.ifCond .eq 11, 3) := by decide +kernel
theorem dX1_ownerAbroadBehind_37 : decode cX1_ownerAbroadBehind 37 = .ok (.iload 5, 2) := by decide +kernel
theorem dX1_ownerAbroadBehind_39 : decode cX1_ownerAbroadBehind 39 = .ok (.iconst 1, 1) := by decide +kernel
theorem dX1_ownerAbroadBehind_40 : decode cX1_ownerAbroadBehind 40 = .ok (.if_icmp .eq 5, 3) := by decide +kernel
theorem dX1_ownerAbroadBehind_43 : decode cX1_ownerAbroadBehind 43 = .ok (.iload_n 3, 1) := by decide +kernel
theorem dX1_ownerAbroadBehind_44 : decode cX1_ownerAbroadBehind 44 = .ok (.ireturn, 1) := by decide +kernel
theorem dX1_ownerAbroadBehind_45 : decode cX1_ownerAbroadBehind 45 = .ok (.aload_n 0, 1) := by decide +kernel
theorem dX1_ownerAbroadBehind_46 : decode cX1_ownerAbroadBehind 46 = .ok (.aload_n 0, 1) := by decide +kernel
theorem dX1_ownerAbroadBehind_47 : decode cX1_ownerAbroadBehind 47 = .ok (.getfield 46, 3) := by decide +kernel
theorem dX1_ownerAbroadBehind_50 : decode cX1_ownerAbroadBehind 50 = .ok (.getfield 103, 3) := by decide +kernel
theorem dX1_ownerAbroadBehind_53 : decode cX1_ownerAbroadBehind 53 = .ok (.iload_n 1, 1) := by decide +kernel
theorem dX1_ownerAbroadBehind_54 : decode cX1_ownerAbroadBehind 54 = .ok (.iaload, 1) := by decide +kernel
theorem dX1_ownerAbroadBehind_55 : decode cX1_ownerAbroadBehind 55 = .ok (.iload_n 1, 1) := by decide +kernel
theorem dX1_ownerAbroadBehind_56 : decode cX1_ownerAbroadBehind 56 = .ok (.iload_n 2, 1) := by decide +kernel
theorem dX1_ownerAbroadBehind_57 : decode cX1_ownerAbroadBehind 57 = .ok (.invokevirtual 106, 3) := by decide +kernel
theorem dX1_ownerAbroadBehind_60 : decode cX1_ownerAbroadBehind 60 = .ok (.aload_n 0, 1) := by decide +kernel
theorem dX1_ownerAbroadBehind_61 : decode cX1_ownerAbroadBehind 61 = .ok (.aload_n 0, 1) := by decide +kernel
theorem dX1_ownerAbroadBehind_62 : decode cX1_ownerAbroadBehind 62 = .ok (.getfield 46, 3) := by decide +kernel
theorem dX1_ownerAbroadBehind_65 : decode cX1_ownerAbroadBehind 65 = .ok (.getfield 109, 3) := by decide +kernel
theorem dX1_ownerAbroadBehind_68 : decode cX1_ownerAbroadBehind 68 = .ok (.iload_n 1, 1) := by decide +kernel
theorem dX1_ownerAbroadBehind_69 : decode cX1_ownerAbroadBehind 69 = .ok (.iaload, 1) := by decide +kernel
theorem dX1_ownerAbroadBehind_70 : decode cX1_ownerAbroadBehind 70 = .ok (.iload_n 1, 1) := by decide +kernel
theorem dX1_ownerAbroadBehind_71 : decode cX1_ownerAbroadBehind 71 = .ok (.iload_n 2, 1) := by decide +kernel
theorem dX1_ownerAbroadBehind_72 : decode cX1_ownerAbroadBehind 72 = .ok (.invokevirtual 106, 3) := by decide +kernel
theorem dX1_ownerAbroadBehind_75 : decode cX1_ownerAbroadBehind 75 = .ok (.isub, 1) := by decide +kernel
theorem dX1_ownerAbroadBehind_76 : decode cX1_ownerAbroadBehind 76 = .ok (.istore 6, 2) := by decide +kernel
theorem dX1_ownerAbroadBehind_78 : decode cX1_ownerAbroadBehind 78 = .ok (.iload 5, 2) := by decide +kernel
theorem dX1_ownerAbroadBehind_80 : decode cX1_ownerAbroadBehind 80 = .ok (.ifCond .ne 15, 3) := by decide +kernel
theorem dX1_ownerAbroadBehind_83 : decode cX1_ownerAbroadBehind 83 = .ok (.iload 6, 2) := by decide +kernel
theorem dX1_ownerAbroadBehind_85 : decode cX1_ownerAbroadBehind 85 = .ok (.ifCond .le 8, 3) := by decide +kernel
theorem dX1_ownerAbroadBehind_88 : decode cX1_ownerAbroadBehind 88 = .ok (.iload 4, 2) := by decide +kernel
theorem dX1_ownerAbroadBehind_90 : decode cX1_ownerAbroadBehind 90 = .ok (.goto 4, 3) := by decide +kernel
theorem dX1_ownerAbroadBehind_93 : decode cX1_ownerAbroadBehind 93 = .ok (.iload_n 3, 1) := by decide +kernel
theorem dX1_ownerAbroadBehind_94 : decode cX1_ownerAbroadBehind 94 = .ok (.ireturn, 1) := by decide +kernel
theorem dX1_ownerAbroadBehind_95 : decode cX1_ownerAbroadBehind 95 = .ok (.iload 6, 2) := by decide +kernel
theorem dX1_ownerAbroadBehind_97 : decode cX1_ownerAbroadBehind 97 = .ok (.ifCond .lt 8, 3) := by decide +kernel
theorem dX1_ownerAbroadBehind_100 : decode cX1_ownerAbroadBehind 100 = .ok (.iload 4, 2) := by decide +kernel
theorem dX1_ownerAbroadBehind_102 : decode cX1_ownerAbroadBehind 102 = .ok (.goto 7, 3) := by decide +kernel
theorem dX1_ownerAbroadBehind_105 : decode cX1_ownerAbroadBehind 105 = .ok (.iload 4, 2) := by decide +kernel
theorem dX1_ownerAbroadBehind_107 : decode cX1_ownerAbroadBehind 107 = .ok (.iconst 1, 1) := by decide +kernel
theorem dX1_ownerAbroadBehind_108 : decode cX1_ownerAbroadBehind 108 = .ok (.iadd, 1) := by decide +kernel
theorem dX1_ownerAbroadBehind_109 : decode cX1_ownerAbroadBehind 109 = .ok (.ireturn, 1) := by decide +kernel
theorem dX1_key_0 : decode cX1_key 0 = .ok (.iload_n 3, 1) := by decide +kernel
theorem dX1_key_1 : decode cX1_key 1 = .ok (.ifCond .ne 19, 3) := by decide +kernel
theorem dX1_key_4 : decode cX1_key 4 = .ok (.aload_n 0, 1) := by decide +kernel
theorem dX1_key_5 : decode cX1_key 5 = .ok (.getfield 46, 3) := by decide +kernel
theorem dX1_key_8 : decode cX1_key 8 = .ok (.aload_n 0, 1) := by decide +kernel
theorem dX1_key_9 : decode cX1_key 9 = .ok (.getfield 46, 3) := by decide +kernel
theorem dX1_key_12 : decode cX1_key 12 = .ok (.getfield 115, 3) := by decide +kernel
theorem dX1_key_15 : decode cX1_key 15 = .ok (.iload_n 1, 1) := by decide +kernel
theorem dX1_key_16 : decode cX1_key 16 = .ok (.invokevirtual 118, 3) := by decide +kernel
theorem dX1_key_19 : decode cX1_key 19 = .ok (.ireturn, 1) := by decide +kernel
theorem dX1_key_20 : decode cX1_key 20 = .ok (.aload_n 0, 1) := by decide +kernel
theorem dX1_key_21 : decode cX1_key 21 = .ok (.getfield 46, 3) := by decide +kernel
theorem dX1_key_24 : decode cX1_key 24 = .ok (.getfield 103, 3) := by decide +kernel
theorem dX1_key_27 : decode cX1_key 27 = .ok (.iload_n 2, 1) := by decide +kernel
theorem dX1_key_28 : decode cX1_key 28 = .ok (.iaload, 1) := by decide +kernel
theorem dX1_key_29 : decode cX1_key 29 = .ok (.aload_n 0, 1) := by decide +kernel
theorem dX1_key_30 : decode cX1_key 30 = .ok (.getfield 46, 3) := by decide +kernel
theorem dX1_key_33 : decode cX1_key 33 = .ok (.getfield 109, 3) := by decide +kernel
theorem dX1_key_36 : decode cX1_key 36 = .ok (.iload_n 2, 1) := by decide +kernel
theorem dX1_key_37 : decode cX1_key 37 = .ok (.iaload, 1) := by decide +kernel
theorem dX1_key_38 : decode cX1_key 38 = .ok (.ior, 1) := by decide +kernel
theorem dX1_key_39 : decode cX1_key 39 = .ok (.istore 4, 2) := by decide +kernel
theorem dX1_key_41 : decode cX1_key 41 = .ok (.iload_n 3, 1) := by decide +kernel
theorem dX1_key_42 : decode cX1_key 42 = .ok (.iconst 2, 1) := by decide +kernel
theorem dX1_key_43 : decode cX1_key 43 = .ok (.if_icmp .eq 22, 3) := by decide +kernel
theorem dX1_key_46 : decode cX1_key 46 = .ok (.aload_n 0, 1) := by decide +kernel
theorem dX1_key_47 : decode cX1_key 47 = .ok (.getfield 46, 3) := by decide +kernel
theorem dX1_key_50 : decode cX1_key 50 = .ok (.aload_n 0, 1) := by decide +kernel
theorem dX1_key_51 : decode cX1_key 51 = .ok (.getfield 46, 3) := by decide +kernel
theorem dX1_key_54 : decode cX1_key 54 = .ok (.getfield 122, 3) := by decide +kernel
theorem dX1_key_57 : decode cX1_key 57 = .ok (.iload 4, 2) := by decide +kernel
theorem dX1_key_59 : decode cX1_key 59 = .ok (.invokevirtual 118, 3) := by decide +kernel
theorem dX1_key_62 : decode cX1_key 62 = .ok (.ifCond .ne 5, 3) := by decide +kernel
theorem dX1_key_65 : decode cX1_key 65 = .ok (.iconst 1, 1) := by decide +kernel
theorem dX1_key_66 : decode cX1_key 66 = .ok (.ireturn, 1) := by decide +kernel
theorem dX1_key_67 : decode cX1_key 67 = .ok (.aload_n 0, 1) := by decide +kernel
theorem dX1_key_68 : decode cX1_key 68 = .ok (.getfield 46, 3) := by decide +kernel
theorem dX1_key_71 : decode cX1_key 71 = .ok (.aload_n 0, 1) := by decide +kernel
theorem dX1_key_72 : decode cX1_key 72 = .ok (.getfield 46, 3) := by decide +kernel
theorem dX1_key_75 : decode cX1_key 75 = .ok (.getfield 122, 3) := by decide +kernel
theorem dX1_key_78 : decode cX1_key 78 = .ok (.iload_n 1, 1) := by decide +kernel
theorem dX1_key_79 : decode cX1_key 79 = .ok (.invokevirtual 118, 3) := by decide +kernel
theorem dX1_key_82 : decode cX1_key 82 = .ok (.ireturn, 1) := by decide +kernel
theorem dX2_knowsGround_0 : decode cX2_knowsGround 0 = .ok (.iload_n 1, 1) := by decide +kernel
theorem dX2_knowsGround_1 : decode cX2_knowsGround 1 = .ok (.ifCond .lt 15, 3) := by decide +kernel
theorem dX2_knowsGround_4 : decode cX2_knowsGround 4 = .ok (.iload_n 1, 1) := by decide +kernel
theorem dX2_knowsGround_5 : decode cX2_knowsGround 5 = .ok (.aload_n 0, 1) := by decide +kernel
theorem dX2_knowsGround_6 : decode cX2_knowsGround 6 = .ok (.getfield 18, 3) := by decide +kernel
theorem dX2_knowsGround_9 : decode cX2_knowsGround 9 = .ok (.if_icmp .ge 7, 3) := by decide +kernel
theorem dX2_knowsGround_12 : decode cX2_knowsGround 12 = .ok (.iconst 1, 1) := by decide +kernel
theorem dX2_knowsGround_13 : decode cX2_knowsGround 13 = .ok (.goto 4, 3) := by decide +kernel
theorem dX2_knowsGround_16 : decode cX2_knowsGround 16 = .ok (.iconst 0, 1) := by decide +kernel
theorem dX2_knowsGround_17 : decode cX2_knowsGround 17 = .ok (.ireturn, 1) := by decide +kernel
theorem dX2_knowsLand_0 : decode cX2_knowsLand 0 = .ok (.iload_n 1, 1) := by decide +kernel
theorem dX2_knowsLand_1 : decode cX2_knowsLand 1 = .ok (.ifCond .lt 15, 3) := by decide +kernel
theorem dX2_knowsLand_4 : decode cX2_knowsLand 4 = .ok (.iload_n 1, 1) := by decide +kernel
theorem dX2_knowsLand_5 : decode cX2_knowsLand 5 = .ok (.aload_n 0, 1) := by decide +kernel
theorem dX2_knowsLand_6 : decode cX2_knowsLand 6 = .ok (.getfield 31, 3) := by decide +kernel
theorem dX2_knowsLand_9 : decode cX2_knowsLand 9 = .ok (.if_icmp .ge 7, 3) := by decide +kernel
theorem dX2_knowsLand_12 : decode cX2_knowsLand 12 = .ok (.iconst 1, 1) := by decide +kernel
theorem dX2_knowsLand_13 : decode cX2_knowsLand 13 = .ok (.goto 4, 3) := by decide +kernel
theorem dX2_knowsLand_16 : decode cX2_knowsLand 16 = .ok (.iconst 0, 1) := by decide +kernel
theorem dX2_knowsLand_17 : decode cX2_knowsLand 17 = .ok (.ireturn, 1) := by decide +kernel
theorem dX2_addGround_0 : decode cX2_addGround 0 = .ok (.aload_n 0, 1) := by decide +kernel
theorem dX2_addGround_1 : decode cX2_addGround 1 = .ok (.getfield 18, 3) := by decide +kernel
theorem dX2_addGround_4 : decode cX2_addGround 4 = .ok (.istore_n 3, 1) := by decide +kernel
theorem dX2_addGround_5 : decode cX2_addGround 5 = .ok (.aload_n 0, 1) := by decide +kernel
theorem dX2_addGround_6 : decode cX2_addGround 6 = .ok (.getfield 9, 3) := by decide +kernel
theorem dX2_addGround_9 : decode cX2_addGround 9 = .ok (.iload_n 3, 1) := by decide +kernel
theorem dX2_addGround_10 : decode cX2_addGround 10 = .ok (.iload_n 1, 1) := by decide +kernel
theorem dX2_addGround_11 : decode cX2_addGround 11 = .ok (.iastore, 1) := by decide +kernel
theorem dX2_addGround_12 : decode cX2_addGround 12 = .ok (.aload_n 0, 1) := by decide +kernel
theorem dX2_addGround_13 : decode cX2_addGround 13 = .ok (.getfield 15, 3) := by decide +kernel
theorem dX2_addGround_16 : decode cX2_addGround 16 = .ok (.iload_n 3, 1) := by decide +kernel
theorem dX2_addGround_17 : decode cX2_addGround 17 = .ok (.iload_n 2, 1) := by decide +kernel
theorem dX2_addGround_18 : decode cX2_addGround 18 = .ok (.iastore, 1) := by decide +kernel
theorem dX2_addGround_19 : decode cX2_addGround 19 = .ok (.aload_n 0, 1) := by decide +kernel
theorem dX2_addGround_20 : decode cX2_addGround 20 = .ok (.getfield 60, 3) := by decide +kernel
theorem dX2_addGround_23 : decode cX2_addGround 23 = .ok (.iconst 0, 1) := by decide +kernel
theorem dX2_addGround_24 : decode cX2_addGround 24 = .ok (.aaload, 1) := by decide +kernel
theorem dX2_addGround_25 : decode cX2_addGround 25 = .ok (.iconst 0, 1) := by decide +kernel
theorem dX2_addGround_26 : decode cX2_addGround 26 = .ok (.dup2, 1) := by decide +kernel
theorem dX2_addGround_27 : decode cX2_addGround 27 = .ok (.iaload, 1) := by decide +kernel
theorem dX2_addGround_28 : decode cX2_addGround 28 = .ok (.iconst 1, 1) := by decide +kernel
theorem dX2_addGround_29 : decode cX2_addGround 29 = .ok (.iload_n 3, 1) := by decide +kernel
theorem dX2_addGround_30 : decode cX2_addGround 30 = .ok (.ishl, 1) := by decide +kernel
theorem dX2_addGround_31 : decode cX2_addGround 31 = .ok (.ior, 1) := by decide +kernel
theorem dX2_addGround_32 : decode cX2_addGround 32 = .ok (.iastore, 1) := by decide +kernel
theorem dX2_addGround_33 : decode cX2_addGround 33 = .ok (.aload_n 0, 1) := by decide +kernel
theorem dX2_addGround_34 : decode cX2_addGround 34 = .ok (.dup, 1) := by decide +kernel
theorem dX2_addGround_35 : decode cX2_addGround 35 = .ok (.getfield 18, 3) := by decide +kernel
theorem dX2_addGround_38 : decode cX2_addGround 38 = .ok (.iconst 1, 1) := by decide +kernel
theorem dX2_addGround_39 : decode cX2_addGround 39 = .ok (.iadd, 1) := by decide +kernel
theorem dX2_addGround_40 : decode cX2_addGround 40 = .ok (.putfield 18, 3) := by decide +kernel
theorem dX2_addGround_43 : decode cX2_addGround 43 = .ok (.iload_n 3, 1) := by decide +kernel
theorem dX2_addGround_44 : decode cX2_addGround 44 = .ok (.ireturn, 1) := by decide +kernel
theorem dX2_latestDay_0 : decode cX2_latestDay 0 = .ok (.aload_n 0, 1) := by decide +kernel
theorem dX2_latestDay_1 : decode cX2_latestDay 1 = .ok (.getfield 55, 3) := by decide +kernel
theorem dX2_latestDay_4 : decode cX2_latestDay 4 = .ok (.ifCond .ne 7, 3) := by decide +kernel
theorem dX2_latestDay_7 : decode cX2_latestDay 7 = .ok (.iconst 0, 1) := by decide +kernel
theorem dX2_latestDay_8 : decode cX2_latestDay 8 = .ok (.goto 14, 3) := by decide +kernel
theorem dX2_latestDay_11 : decode cX2_latestDay 11 = .ok (.aload_n 0, 1) := by decide +kernel
theorem dX2_latestDay_12 : decode cX2_latestDay 12 = .ok (.getfield 37, 3) := by decide +kernel
theorem dX2_latestDay_15 : decode cX2_latestDay 15 = .ok (.aload_n 0, 1) := by decide +kernel
theorem dX2_latestDay_16 : decode cX2_latestDay 16 = .ok (.getfield 55, 3) := by decide +kernel
theorem dX2_latestDay_19 : decode cX2_latestDay 19 = .ok (.iconst 1, 1) := by decide +kernel
theorem dX2_latestDay_20 : decode cX2_latestDay 20 = .ok (.isub, 1) := by decide +kernel
theorem dX2_latestDay_21 : decode cX2_latestDay 21 = .ok (.iaload, 1) := by decide +kernel
theorem dX2_latestDay_22 : decode cX2_latestDay 22 = .ok (.ireturn, 1) := by decide +kernel
theorem dX2_changesBy_0 : decode cX2_changesBy 0 = .ok (.iconst 0, 1) := by decide +kernel
theorem dX2_changesBy_1 : decode cX2_changesBy 1 = .ok (.istore_n 2, 1) := by decide +kernel
theorem dX2_changesBy_2 : decode cX2_changesBy 2 = .ok (.iload_n 2, 1) := by decide +kernel
theorem dX2_changesBy_3 : decode cX2_changesBy 3 = .ok (.aload_n 0, 1) := by decide +kernel
theorem dX2_changesBy_4 : decode cX2_changesBy 4 = .ok (.getfield 55, 3) := by decide +kernel
theorem dX2_changesBy_7 : decode cX2_changesBy 7 = .ok (.if_icmp .ge 19, 3) := by decide +kernel
theorem dX2_changesBy_10 : decode cX2_changesBy 10 = .ok (.aload_n 0, 1) := by decide +kernel
theorem dX2_changesBy_11 : decode cX2_changesBy 11 = .ok (.getfield 37, 3) := by decide +kernel
theorem dX2_changesBy_14 : decode cX2_changesBy 14 = .ok (.iload_n 2, 1) := by decide +kernel
theorem dX2_changesBy_15 : decode cX2_changesBy 15 = .ok (.iaload, 1) := by decide +kernel
theorem dX2_changesBy_16 : decode cX2_changesBy 16 = .ok (.iload_n 1, 1) := by decide +kernel
theorem dX2_changesBy_17 : decode cX2_changesBy 17 = .ok (.if_icmp .gt 9, 3) := by decide +kernel
theorem dX2_changesBy_20 : decode cX2_changesBy 20 = .ok (.iinc 2 1, 3) := by decide +kernel
theorem dX2_changesBy_23 : decode cX2_changesBy 23 = .ok (.goto (-21), 3) := by decide +kernel
theorem dX2_changesBy_26 : decode cX2_changesBy 26 = .ok (.iload_n 2, 1) := by decide +kernel
theorem dX2_changesBy_27 : decode cX2_changesBy 27 = .ok (.ireturn, 1) := by decide +kernel
theorem dX2_isThere_0 : decode cX2_isThere 0 = .ok (.aload_n 0, 1) := by decide +kernel
theorem dX2_isThere_1 : decode cX2_isThere 1 = .ok (.iload_n 1, 1) := by decide +kernel
theorem dX2_isThere_2 : decode cX2_isThere 2 = .ok (.invokevirtual 66, 3) := by decide +kernel
theorem dX2_isThere_5 : decode cX2_isThere 5 = .ok (.ifCond .eq 20, 3) := by decide +kernel
theorem dX2_isThere_8 : decode cX2_isThere 8 = .ok (.aload_n 0, 1) := by decide +kernel
theorem dX2_isThere_9 : decode cX2_isThere 9 = .ok (.getfield 63, 3) := by decide +kernel
theorem dX2_isThere_12 : decode cX2_isThere 12 = .ok (.iload_n 2, 1) := by decide +kernel
theorem dX2_isThere_13 : decode cX2_isThere 13 = .ok (.iaload, 1) := by decide +kernel
theorem dX2_isThere_14 : decode cX2_isThere 14 = .ok (.iload_n 1, 1) := by decide +kernel
theorem dX2_isThere_15 : decode cX2_isThere 15 = .ok (.invokestatic 70, 3) := by decide +kernel
theorem dX2_isThere_18 : decode cX2_isThere 18 = .ok (.ifCond .eq 7, 3) := by decide +kernel
theorem dX2_isThere_21 : decode cX2_isThere 21 = .ok (.iconst 1, 1) := by decide +kernel
theorem dX2_isThere_22 : decode cX2_isThere 22 = .ok (.goto 4, 3) := by decide +kernel
theorem dX2_isThere_25 : decode cX2_isThere 25 = .ok (.iconst 0, 1) := by decide +kernel
theorem dX2_isThere_26 : decode cX2_isThere 26 = .ok (.ireturn, 1) := by decide +kernel
theorem dX2_ownerOf_0 : decode cX2_ownerOf 0 = .ok (.iconst 0, 1) := by decide +kernel
theorem dX2_ownerOf_1 : decode cX2_ownerOf 1 = .ok (.istore_n 3, 1) := by decide +kernel
theorem dX2_ownerOf_2 : decode cX2_ownerOf 2 = .ok (.iload_n 3, 1) := by decide +kernel
theorem dX2_ownerOf_3 : decode cX2_ownerOf 3 = .ok (.aload_n 0, 1) := by decide +kernel
theorem dX2_ownerOf_4 : decode cX2_ownerOf 4 = .ok (.getfield 31, 3) := by decide +kernel
theorem dX2_ownerOf_7 : decode cX2_ownerOf 7 = .ok (.if_icmp .ge 26, 3) := by decide +kernel
theorem dX2_ownerOf_10 : decode cX2_ownerOf 10 = .ok (.aload_n 0, 1) := by decide +kernel
theorem dX2_ownerOf_11 : decode cX2_ownerOf 11 = .ok (.getfield 60, 3) := by decide +kernel
theorem dX2_ownerOf_14 : decode cX2_ownerOf 14 = .ok (.iload_n 2, 1) := by decide +kernel
theorem dX2_ownerOf_15 : decode cX2_ownerOf 15 = .ok (.aaload, 1) := by decide +kernel
theorem dX2_ownerOf_16 : decode cX2_ownerOf 16 = .ok (.iload_n 3, 1) := by decide +kernel
theorem dX2_ownerOf_17 : decode cX2_ownerOf 17 = .ok (.iaload, 1) := by decide +kernel
theorem dX2_ownerOf_18 : decode cX2_ownerOf 18 = .ok (.iload_n 1, 1) := by decide +kernel
theorem dX2_ownerOf_19 : decode cX2_ownerOf 19 = .ok (.invokestatic 70, 3) := by decide +kernel
theorem dX2_ownerOf_22 : decode cX2_ownerOf 22 = .ok (.ifCond .eq 5, 3) := by decide +kernel
theorem dX2_ownerOf_25 : decode cX2_ownerOf 25 = .ok (.iload_n 3, 1) := by decide +kernel
theorem dX2_ownerOf_26 : decode cX2_ownerOf 26 = .ok (.ireturn, 1) := by decide +kernel
theorem dX2_ownerOf_27 : decode cX2_ownerOf 27 = .ok (.iinc 3 1, 3) := by decide +kernel
theorem dX2_ownerOf_30 : decode cX2_ownerOf 30 = .ok (.goto (-28), 3) := by decide +kernel
theorem dX2_ownerOf_33 : decode cX2_ownerOf 33 = .ok (.iconst (-1), 1) := by decide +kernel
theorem dX2_ownerOf_34 : decode cX2_ownerOf 34 = .ok (.ireturn, 1) := by decide +kernel
theorem dX2_isSomeNotAll_0 : decode cX2_isSomeNotAll 0 = .ok (.aload_n 0, 1) := by decide +kernel
theorem dX2_isSomeNotAll_1 : decode cX2_isSomeNotAll 1 = .ok (.getfield 60, 3) := by decide +kernel
theorem dX2_isSomeNotAll_4 : decode cX2_isSomeNotAll 4 = .ok (.aload_n 0, 1) := by decide +kernel
theorem dX2_isSomeNotAll_5 : decode cX2_isSomeNotAll 5 = .ok (.getfield 55, 3) := by decide +kernel
theorem dX2_isSomeNotAll_8 : decode cX2_isSomeNotAll 8 = .ok (.aaload, 1) := by decide +kernel
theorem dX2_isSomeNotAll_9 : decode cX2_isSomeNotAll 9 = .ok (.iload_n 2, 1) := by decide +kernel
theorem dX2_isSomeNotAll_10 : decode cX2_isSomeNotAll 10 = .ok (.iaload, 1) := by decide +kernel
theorem dX2_isSomeNotAll_11 : decode cX2_isSomeNotAll 11 = .ok (.istore_n 3, 1) := by decide +kernel
theorem dX2_isSomeNotAll_12 : decode cX2_isSomeNotAll 12 = .ok (.iload_n 1, 1) := by decide +kernel
theorem dX2_isSomeNotAll_13 : decode cX2_isSomeNotAll 13 = .ok (.ifCond .eq 20, 3) := by decide +kernel
theorem dX2_isSomeNotAll_16 : decode cX2_isSomeNotAll 16 = .ok (.iload_n 1, 1) := by decide +kernel
theorem dX2_isSomeNotAll_17 : decode cX2_isSomeNotAll 17 = .ok (.iload_n 3, 1) := by decide +kernel
theorem dX2_isSomeNotAll_18 : decode cX2_isSomeNotAll 18 = .ok (.if_icmp .eq 15, 3) := by decide +kernel
theorem dX2_isSomeNotAll_21 : decode cX2_isSomeNotAll 21 = .ok (.iload_n 1, 1) := by decide +kernel
theorem dX2_isSomeNotAll_22 : decode cX2_isSomeNotAll 22 = .ok (.iload_n 3, 1) := by decide +kernel
theorem dX2_isSomeNotAll_23 : decode cX2_isSomeNotAll 23 = .ok (.iconst (-1), 1) := by decide +kernel
theorem dX2_isSomeNotAll_24 : decode cX2_isSomeNotAll 24 = .ok (.ixor, 1) := by decide +kernel
theorem dX2_isSomeNotAll_25 : decode cX2_isSomeNotAll 25 = .ok (.iand, 1) := by decide +kernel
theorem dX2_isSomeNotAll_26 : decode cX2_isSomeNotAll 26 = .ok (.ifCond .ne 7, 3) := by decide +kernel
theorem dX2_isSomeNotAll_29 : decode cX2_isSomeNotAll 29 = .ok (.iconst 1, 1) := by decide +kernel
theorem dX2_isSomeNotAll_30 : decode cX2_isSomeNotAll 30 = .ok (.goto 4, 3) := by decide +kernel
theorem dX2_isSomeNotAll_33 : decode cX2_isSomeNotAll 33 = .ok (.iconst 0, 1) := by decide +kernel
theorem dX2_isSomeNotAll_34 : decode cX2_isSomeNotAll 34 = .ok (.ireturn, 1) := by decide +kernel
theorem dX2_addChange_0 : decode cX2_addChange 0 = .ok (.aload_n 0, 1) := by decide +kernel
theorem dX2_addChange_1 : decode cX2_addChange 1 = .ok (.getfield 55, 3) := by decide +kernel
theorem dX2_addChange_4 : decode cX2_addChange 4 = .ok (.istore 6, 2) := by decide +kernel
theorem dX2_addChange_6 : decode cX2_addChange 6 = .ok (.aload_n 0, 1) := by decide +kernel
theorem dX2_addChange_7 : decode cX2_addChange 7 = .ok (.getfield 31, 3) := by decide +kernel
theorem dX2_addChange_10 : decode cX2_addChange 10 = .ok (.istore 7, 2) := by decide +kernel
theorem dX2_addChange_12 : decode cX2_addChange 12 = .ok (.aload_n 0, 1) := by decide +kernel
theorem dX2_addChange_13 : decode cX2_addChange 13 = .ok (.getfield 34, 3) := by decide +kernel
theorem dX2_addChange_16 : decode cX2_addChange 16 = .ok (.iload 6, 2) := by decide +kernel
theorem dX2_addChange_18 : decode cX2_addChange 18 = .ok (.iload_n 1, 1) := by decide +kernel
theorem dX2_addChange_19 : decode cX2_addChange 19 = .ok (.iastore, 1) := by decide +kernel
theorem dX2_addChange_20 : decode cX2_addChange 20 = .ok (.aload_n 0, 1) := by decide +kernel
theorem dX2_addChange_21 : decode cX2_addChange 21 = .ok (.getfield 37, 3) := by decide +kernel
theorem dX2_addChange_24 : decode cX2_addChange 24 = .ok (.iload 6, 2) := by decide +kernel
theorem dX2_addChange_26 : decode cX2_addChange 26 = .ok (.iload_n 2, 1) := by decide +kernel
theorem dX2_addChange_27 : decode cX2_addChange 27 = .ok (.iastore, 1) := by decide +kernel
theorem dX2_addChange_28 : decode cX2_addChange 28 = .ok (.aload_n 0, 1) := by decide +kernel
theorem dX2_addChange_29 : decode cX2_addChange 29 = .ok (.getfield 40, 3) := by decide +kernel
theorem dX2_addChange_32 : decode cX2_addChange 32 = .ok (.iload 6, 2) := by decide +kernel
theorem dX2_addChange_34 : decode cX2_addChange 34 = .ok (.iload_n 3, 1) := by decide +kernel
theorem dX2_addChange_35 : decode cX2_addChange 35 = .ok (.iastore, 1) := by decide +kernel
theorem dX2_addChange_36 : decode cX2_addChange 36 = .ok (.aload_n 0, 1) := by decide +kernel
theorem dX2_addChange_37 : decode cX2_addChange 37 = .ok (.getfield 43, 3) := by decide +kernel
theorem dX2_addChange_40 : decode cX2_addChange 40 = .ok (.iload 6, 2) := by decide +kernel
theorem dX2_addChange_42 : decode cX2_addChange 42 = .ok (.iload 4, 2) := by decide +kernel
theorem dX2_addChange_44 : decode cX2_addChange 44 = .ok (.iastore, 1) := by decide +kernel
theorem dX2_addChange_45 : decode cX2_addChange 45 = .ok (.aload_n 0, 1) := by decide +kernel
theorem dX2_addChange_46 : decode cX2_addChange 46 = .ok (.getfield 46, 3) := by decide +kernel
theorem dX2_addChange_49 : decode cX2_addChange 49 = .ok (.iload 6, 2) := by decide +kernel
theorem dX2_addChange_51 : decode cX2_addChange 51 = .ok (.iload 7, 2) := by decide +kernel
theorem dX2_addChange_53 : decode cX2_addChange 53 = .ok (.iastore, 1) := by decide +kernel
theorem dX2_addChange_54 : decode cX2_addChange 54 = .ok (.aload_n 0, 1) := by decide +kernel
theorem dX2_addChange_55 : decode cX2_addChange 55 = .ok (.getfield 49, 3) := by decide +kernel
theorem dX2_addChange_58 : decode cX2_addChange 58 = .ok (.iload 6, 2) := by decide +kernel
theorem dX2_addChange_60 : decode cX2_addChange 60 = .ok (.iload 5, 2) := by decide +kernel
theorem dX2_addChange_62 : decode cX2_addChange 62 = .ok (.iastore, 1) := by decide +kernel
theorem dX2_addChange_63 : decode cX2_addChange 63 = .ok (.aload_n 0, 1) := by decide +kernel
theorem dX2_addChange_64 : decode cX2_addChange 64 = .ok (.getfield 52, 3) := by decide +kernel
theorem dX2_addChange_67 : decode cX2_addChange 67 = .ok (.iload 6, 2) := by decide +kernel
theorem dX2_addChange_69 : decode cX2_addChange 69 = .ok (.aload_n 0, 1) := by decide +kernel
theorem dX2_addChange_70 : decode cX2_addChange 70 = .ok (.getfield 60, 3) := by decide +kernel
theorem dX2_addChange_73 : decode cX2_addChange 73 = .ok (.iload 6, 2) := by decide +kernel
theorem dX2_addChange_75 : decode cX2_addChange 75 = .ok (.aaload, 1) := by decide +kernel
theorem dX2_addChange_76 : decode cX2_addChange 76 = .ok (.iload_n 3, 1) := by decide +kernel
theorem dX2_addChange_77 : decode cX2_addChange 77 = .ok (.iaload, 1) := by decide +kernel
theorem dX2_addChange_78 : decode cX2_addChange 78 = .ok (.iload 5, 2) := by decide +kernel
theorem dX2_addChange_80 : decode cX2_addChange 80 = .ok (.iconst (-1), 1) := by decide +kernel
theorem dX2_addChange_81 : decode cX2_addChange 81 = .ok (.ixor, 1) := by decide +kernel
theorem dX2_addChange_82 : decode cX2_addChange 82 = .ok (.iand, 1) := by decide +kernel
theorem dX2_addChange_83 : decode cX2_addChange 83 = .ok (.iastore, 1) := by decide +kernel
theorem dX2_addChange_84 : decode cX2_addChange 84 = .ok (.aload_n 0, 1) := by decide +kernel
theorem dX2_addChange_85 : decode cX2_addChange 85 = .ok (.getfield 60, 3) := by decide +kernel
theorem dX2_addChange_88 : decode cX2_addChange 88 = .ok (.iload 6, 2) := by decide +kernel
theorem dX2_addChange_90 : decode cX2_addChange 90 = .ok (.aaload, 1) := by decide +kernel
theorem dX2_addChange_91 : decode cX2_addChange 91 = .ok (.iconst 0, 1) := by decide +kernel
theorem dX2_addChange_92 : decode cX2_addChange 92 = .ok (.aload_n 0, 1) := by decide +kernel
theorem dX2_addChange_93 : decode cX2_addChange 93 = .ok (.getfield 60, 3) := by decide +kernel
theorem dX2_addChange_96 : decode cX2_addChange 96 = .ok (.iload 6, 2) := by decide +kernel
theorem dX2_addChange_98 : decode cX2_addChange 98 = .ok (.iconst 1, 1) := by decide +kernel
theorem dX2_addChange_99 : decode cX2_addChange 99 = .ok (.iadd, 1) := by decide +kernel
theorem dX2_addChange_100 : decode cX2_addChange 100 = .ok (.aaload, 1) := by decide +kernel
theorem dX2_addChange_101 : decode cX2_addChange 101 = .ok (.iconst 0, 1) := by decide +kernel
theorem dX2_addChange_102 : decode cX2_addChange 102 = .ok (.bipush 10, 2) := by decide +kernel
theorem dX2_addChange_104 : decode cX2_addChange 104 = .ok (.invokestatic 74, 3) := by decide +kernel
theorem dX2_addChange_107 : decode cX2_addChange 107 = .ok (.aload_n 0, 1) := by decide +kernel
theorem dX2_addChange_108 : decode cX2_addChange 108 = .ok (.getfield 63, 3) := by decide +kernel
theorem dX2_addChange_111 : decode cX2_addChange 111 = .ok (.iload 6, 2) := by decide +kernel
theorem dX2_addChange_113 : decode cX2_addChange 113 = .ok (.iconst 1, 1) := by decide +kernel
theorem dX2_addChange_114 : decode cX2_addChange 114 = .ok (.iadd, 1) := by decide +kernel
theorem dX2_addChange_115 : decode cX2_addChange 115 = .ok (.aload_n 0, 1) := by decide +kernel
theorem dX2_addChange_116 : decode cX2_addChange 116 = .ok (.getfield 63, 3) := by decide +kernel
theorem dX2_addChange_119 : decode cX2_addChange 119 = .ok (.iload 6, 2) := by decide +kernel
theorem dX2_addChange_121 : decode cX2_addChange 121 = .ok (.iaload, 1) := by decide +kernel
theorem dX2_addChange_122 : decode cX2_addChange 122 = .ok (.iastore, 1) := by decide +kernel
theorem dX2_addChange_123 : decode cX2_addChange 123 = .ok (.aload_n 0, 1) := by decide +kernel
theorem dX2_addChange_124 : decode cX2_addChange 124 = .ok (.dup, 1) := by decide +kernel
theorem dX2_addChange_125 : decode cX2_addChange 125 = .ok (.getfield 55, 3) := by decide +kernel
theorem dX2_addChange_128 : decode cX2_addChange 128 = .ok (.iconst 1, 1) := by decide +kernel
theorem dX2_addChange_129 : decode cX2_addChange 129 = .ok (.iadd, 1) := by decide +kernel
theorem dX2_addChange_130 : decode cX2_addChange 130 = .ok (.putfield 55, 3) := by decide +kernel
theorem dX2_addChange_133 : decode cX2_addChange 133 = .ok (.iload_n 1, 1) := by decide +kernel
theorem dX2_addChange_134 : decode cX2_addChange 134 = .ok (.ifCond .ne 10, 3) := by decide +kernel
theorem dX2_addChange_137 : decode cX2_addChange 137 = .ok (.aload_n 0, 1) := by decide +kernel
theorem dX2_addChange_138 : decode cX2_addChange 138 = .ok (.iload_n 3, 1) := by decide +kernel
theorem dX2_addChange_139 : decode cX2_addChange 139 = .ok (.iload 5, 2) := by decide +kernel
theorem dX2_addChange_141 : decode cX2_addChange 141 = .ok (.invokevirtual 80, 3) := by decide +kernel
theorem dX2_addChange_144 : decode cX2_addChange 144 = .ok (.iload_n 1, 1) := by decide +kernel
theorem dX2_addChange_145 : decode cX2_addChange 145 = .ok (.iconst 1, 1) := by decide +kernel
theorem dX2_addChange_146 : decode cX2_addChange 146 = .ok (.if_icmp .ne 10, 3) := by decide +kernel
theorem dX2_addChange_149 : decode cX2_addChange 149 = .ok (.aload_n 0, 1) := by decide +kernel
theorem dX2_addChange_150 : decode cX2_addChange 150 = .ok (.iload_n 3, 1) := by decide +kernel
theorem dX2_addChange_151 : decode cX2_addChange 151 = .ok (.iload 5, 2) := by decide +kernel
theorem dX2_addChange_153 : decode cX2_addChange 153 = .ok (.invokevirtual 84, 3) := by decide +kernel
theorem dX2_addChange_156 : decode cX2_addChange 156 = .ok (.iload_n 1, 1) := by decide +kernel
theorem dX2_addChange_157 : decode cX2_addChange 157 = .ok (.iconst 2, 1) := by decide +kernel
theorem dX2_addChange_158 : decode cX2_addChange 158 = .ok (.if_icmp .ne 10, 3) := by decide +kernel
theorem dX2_addChange_161 : decode cX2_addChange 161 = .ok (.aload_n 0, 1) := by decide +kernel
theorem dX2_addChange_162 : decode cX2_addChange 162 = .ok (.iload_n 3, 1) := by decide +kernel
theorem dX2_addChange_163 : decode cX2_addChange 163 = .ok (.iload 4, 2) := by decide +kernel
theorem dX2_addChange_165 : decode cX2_addChange 165 = .ok (.invokevirtual 87, 3) := by decide +kernel
theorem dX2_addChange_168 : decode cX2_addChange 168 = .ok (.iload_n 1, 1) := by decide +kernel
theorem dX2_addChange_169 : decode cX2_addChange 169 = .ok (.iconst 3, 1) := by decide +kernel
theorem dX2_addChange_170 : decode cX2_addChange 170 = .ok (.if_icmp .ne 12, 3) := by decide +kernel
theorem dX2_addChange_173 : decode cX2_addChange 173 = .ok (.aload_n 0, 1) := by decide +kernel
theorem dX2_addChange_174 : decode cX2_addChange 174 = .ok (.iload_n 3, 1) := by decide +kernel
theorem dX2_addChange_175 : decode cX2_addChange 175 = .ok (.iload 4, 2) := by decide +kernel
theorem dX2_addChange_177 : decode cX2_addChange 177 = .ok (.iload 5, 2) := by decide +kernel
theorem dX2_addChange_179 : decode cX2_addChange 179 = .ok (.invokevirtual 90, 3) := by decide +kernel
theorem dX2_addChange_182 : decode cX2_addChange 182 = .ok (.iload_n 1, 1) := by decide +kernel
theorem dX2_addChange_183 : decode cX2_addChange 183 = .ok (.ifCond .eq 8, 3) := by decide +kernel
theorem dX2_addChange_186 : decode cX2_addChange 186 = .ok (.iload_n 1, 1) := by decide +kernel
theorem dX2_addChange_187 : decode cX2_addChange 187 = .ok (.iconst 1, 1) := by decide +kernel
theorem dX2_addChange_188 : decode cX2_addChange 188 = .ok (.if_icmp .ne 8, 3) := by decide +kernel
theorem dX2_addChange_191 : decode cX2_addChange 191 = .ok (.iload 7, 2) := by decide +kernel
theorem dX2_addChange_193 : decode cX2_addChange 193 = .ok (.goto 4, 3) := by decide +kernel
theorem dX2_addChange_196 : decode cX2_addChange 196 = .ok (.iload_n 3, 1) := by decide +kernel
theorem dX2_addChange_197 : decode cX2_addChange 197 = .ok (.ireturn, 1) := by decide +kernel
theorem dX2_partOff_0 : decode cX2_partOff 0 = .ok (.aload_n 0, 1) := by decide +kernel
theorem dX2_partOff_1 : decode cX2_partOff 1 = .ok (.getfield 31, 3) := by decide +kernel
theorem dX2_partOff_4 : decode cX2_partOff 4 = .ok (.istore_n 3, 1) := by decide +kernel
theorem dX2_partOff_5 : decode cX2_partOff 5 = .ok (.aload_n 0, 1) := by decide +kernel
theorem dX2_partOff_6 : decode cX2_partOff 6 = .ok (.iload_n 1, 1) := by decide +kernel
theorem dX2_partOff_7 : decode cX2_partOff 7 = .ok (.invokevirtual 94, 3) := by decide +kernel
theorem dX2_partOff_10 : decode cX2_partOff 10 = .ok (.aload_n 0, 1) := by decide +kernel
theorem dX2_partOff_11 : decode cX2_partOff 11 = .ok (.iload_n 1, 1) := by decide +kernel
theorem dX2_partOff_12 : decode cX2_partOff 12 = .ok (.iload_n 3, 1) := by decide +kernel
theorem dX2_partOff_13 : decode cX2_partOff 13 = .ok (.iload_n 2, 1) := by decide +kernel
theorem dX2_partOff_14 : decode cX2_partOff 14 = .ok (.invokevirtual 90, 3) := by decide +kernel
theorem dX2_partOff_17 : decode cX2_partOff 17 = .ok (.return_, 1) := by decide +kernel
theorem dX2_fallApart_0 : decode cX2_fallApart 0 = .ok (.aload_n 0, 1) := by decide +kernel
theorem dX2_fallApart_1 : decode cX2_fallApart 1 = .ok (.iload_n 1, 1) := by decide +kernel
theorem dX2_fallApart_2 : decode cX2_fallApart 2 = .ok (.iload_n 2, 1) := by decide +kernel
theorem dX2_fallApart_3 : decode cX2_fallApart 3 = .ok (.invokevirtual 80, 3) := by decide +kernel
theorem dX2_fallApart_6 : decode cX2_fallApart 6 = .ok (.aload_n 0, 1) := by decide +kernel
theorem dX2_fallApart_7 : decode cX2_fallApart 7 = .ok (.iload_n 1, 1) := by decide +kernel
theorem dX2_fallApart_8 : decode cX2_fallApart 8 = .ok (.aload_n 0, 1) := by decide +kernel
theorem dX2_fallApart_9 : decode cX2_fallApart 9 = .ok (.getfield 60, 3) := by decide +kernel
theorem dX2_fallApart_12 : decode cX2_fallApart 12 = .ok (.aload_n 0, 1) := by decide +kernel
theorem dX2_fallApart_13 : decode cX2_fallApart 13 = .ok (.getfield 55, 3) := by decide +kernel
theorem dX2_fallApart_16 : decode cX2_fallApart 16 = .ok (.aaload, 1) := by decide +kernel
theorem dX2_fallApart_17 : decode cX2_fallApart 17 = .ok (.iload_n 1, 1) := by decide +kernel
theorem dX2_fallApart_18 : decode cX2_fallApart 18 = .ok (.iaload, 1) := by decide +kernel
theorem dX2_fallApart_19 : decode cX2_fallApart 19 = .ok (.invokevirtual 80, 3) := by decide +kernel
theorem dX2_fallApart_22 : decode cX2_fallApart 22 = .ok (.aload_n 0, 1) := by decide +kernel
theorem dX2_fallApart_23 : decode cX2_fallApart 23 = .ok (.iload_n 1, 1) := by decide +kernel
theorem dX2_fallApart_24 : decode cX2_fallApart 24 = .ok (.invokevirtual 98, 3) := by decide +kernel
theorem dX2_fallApart_27 : decode cX2_fallApart 27 = .ok (.return_, 1) := by decide +kernel
theorem dX2_join_0 : decode cX2_join 0 = .ok (.aload_n 0, 1) := by decide +kernel
theorem dX2_join_1 : decode cX2_join 1 = .ok (.iload_n 2, 1) := by decide +kernel
theorem dX2_join_2 : decode cX2_join 2 = .ok (.iload_n 1, 1) := by decide +kernel
theorem dX2_join_3 : decode cX2_join 3 = .ok (.aload_n 0, 1) := by decide +kernel
theorem dX2_join_4 : decode cX2_join 4 = .ok (.getfield 60, 3) := by decide +kernel
theorem dX2_join_7 : decode cX2_join 7 = .ok (.aload_n 0, 1) := by decide +kernel
theorem dX2_join_8 : decode cX2_join 8 = .ok (.getfield 55, 3) := by decide +kernel
theorem dX2_join_11 : decode cX2_join 11 = .ok (.aaload, 1) := by decide +kernel
theorem dX2_join_12 : decode cX2_join 12 = .ok (.iload_n 2, 1) := by decide +kernel
theorem dX2_join_13 : decode cX2_join 13 = .ok (.iaload, 1) := by decide +kernel
theorem dX2_join_14 : decode cX2_join 14 = .ok (.invokevirtual 90, 3) := by decide +kernel
theorem dX2_join_17 : decode cX2_join 17 = .ok (.aload_n 0, 1) := by decide +kernel
theorem dX2_join_18 : decode cX2_join 18 = .ok (.iload_n 2, 1) := by decide +kernel
theorem dX2_join_19 : decode cX2_join 19 = .ok (.invokevirtual 98, 3) := by decide +kernel
theorem dX2_join_22 : decode cX2_join 22 = .ok (.return_, 1) := by decide +kernel
theorem dX2_moveGrounds_0 : decode cX2_moveGrounds 0 = .ok (.aload_n 0, 1) := by decide +kernel
theorem dX2_moveGrounds_1 : decode cX2_moveGrounds 1 = .ok (.getfield 60, 3) := by decide +kernel
theorem dX2_moveGrounds_4 : decode cX2_moveGrounds 4 = .ok (.aload_n 0, 1) := by decide +kernel
theorem dX2_moveGrounds_5 : decode cX2_moveGrounds 5 = .ok (.getfield 55, 3) := by decide +kernel
theorem dX2_moveGrounds_8 : decode cX2_moveGrounds 8 = .ok (.aaload, 1) := by decide +kernel
theorem dX2_moveGrounds_9 : decode cX2_moveGrounds 9 = .ok (.astore 4, 2) := by decide +kernel
theorem dX2_moveGrounds_11 : decode cX2_moveGrounds 11 = .ok (.aload 4, 2) := by decide +kernel
theorem dX2_moveGrounds_13 : decode cX2_moveGrounds 13 = .ok (.iload_n 1, 1) := by decide +kernel
theorem dX2_moveGrounds_14 : decode cX2_moveGrounds 14 = .ok (.dup2, 1) := by decide +kernel
theorem dX2_moveGrounds_15 : decode cX2_moveGrounds 15 = .ok (.iaload, 1) := by decide +kernel
theorem dX2_moveGrounds_16 : decode cX2_moveGrounds 16 = .ok (.iload_n 3, 1) := by decide +kernel
theorem dX2_moveGrounds_17 : decode cX2_moveGrounds 17 = .ok (.iconst (-1), 1) := by decide +kernel
theorem dX2_moveGrounds_18 : decode cX2_moveGrounds 18 = .ok (.ixor, 1) := by decide +kernel
theorem dX2_moveGrounds_19 : decode cX2_moveGrounds 19 = .ok (.iand, 1) := by decide +kernel
theorem dX2_moveGrounds_20 : decode cX2_moveGrounds 20 = .ok (.iastore, 1) := by decide +kernel
theorem dX2_moveGrounds_21 : decode cX2_moveGrounds 21 = .ok (.aload 4, 2) := by decide +kernel
theorem dX2_moveGrounds_23 : decode cX2_moveGrounds 23 = .ok (.iload_n 2, 1) := by decide +kernel
theorem dX2_moveGrounds_24 : decode cX2_moveGrounds 24 = .ok (.dup2, 1) := by decide +kernel
theorem dX2_moveGrounds_25 : decode cX2_moveGrounds 25 = .ok (.iaload, 1) := by decide +kernel
theorem dX2_moveGrounds_26 : decode cX2_moveGrounds 26 = .ok (.iload_n 3, 1) := by decide +kernel
theorem dX2_moveGrounds_27 : decode cX2_moveGrounds 27 = .ok (.ior, 1) := by decide +kernel
theorem dX2_moveGrounds_28 : decode cX2_moveGrounds 28 = .ok (.iastore, 1) := by decide +kernel
theorem dX2_moveGrounds_29 : decode cX2_moveGrounds 29 = .ok (.return_, 1) := by decide +kernel
theorem dX2_comesOutOf_0 : decode cX2_comesOutOf 0 = .ok (.aload_n 0, 1) := by decide +kernel
theorem dX2_comesOutOf_1 : decode cX2_comesOutOf 1 = .ok (.getfield 22, 3) := by decide +kernel
theorem dX2_comesOutOf_4 : decode cX2_comesOutOf 4 = .ok (.aload_n 0, 1) := by decide +kernel
theorem dX2_comesOutOf_5 : decode cX2_comesOutOf 5 = .ok (.getfield 31, 3) := by decide +kernel
theorem dX2_comesOutOf_8 : decode cX2_comesOutOf 8 = .ok (.iload_n 1, 1) := by decide +kernel
theorem dX2_comesOutOf_9 : decode cX2_comesOutOf 9 = .ok (.iastore, 1) := by decide +kernel
theorem dX2_comesOutOf_10 : decode cX2_comesOutOf 10 = .ok (.aload_n 0, 1) := by decide +kernel
theorem dX2_comesOutOf_11 : decode cX2_comesOutOf 11 = .ok (.getfield 25, 3) := by decide +kernel
theorem dX2_comesOutOf_14 : decode cX2_comesOutOf 14 = .ok (.aload_n 0, 1) := by decide +kernel
theorem dX2_comesOutOf_15 : decode cX2_comesOutOf 15 = .ok (.getfield 31, 3) := by decide +kernel
theorem dX2_comesOutOf_18 : decode cX2_comesOutOf 18 = .ok (.aload_n 0, 1) := by decide +kernel
theorem dX2_comesOutOf_19 : decode cX2_comesOutOf 19 = .ok (.invokevirtual 101, 3) := by decide +kernel
theorem dX2_comesOutOf_22 : decode cX2_comesOutOf 22 = .ok (.iastore, 1) := by decide +kernel
theorem dX2_comesOutOf_23 : decode cX2_comesOutOf 23 = .ok (.aload_n 0, 1) := by decide +kernel
theorem dX2_comesOutOf_24 : decode cX2_comesOutOf 24 = .ok (.getfield 28, 3) := by decide +kernel
theorem dX2_comesOutOf_27 : decode cX2_comesOutOf 27 = .ok (.aload_n 0, 1) := by decide +kernel
theorem dX2_comesOutOf_28 : decode cX2_comesOutOf 28 = .ok (.getfield 31, 3) := by decide +kernel
theorem dX2_comesOutOf_31 : decode cX2_comesOutOf 31 = .ok (.iconst (-1), 1) := by decide +kernel
theorem dX2_comesOutOf_32 : decode cX2_comesOutOf 32 = .ok (.iastore, 1) := by decide +kernel
theorem dX2_comesOutOf_33 : decode cX2_comesOutOf 33 = .ok (.aload_n 0, 1) := by decide +kernel
theorem dX2_comesOutOf_34 : decode cX2_comesOutOf 34 = .ok (.getfield 63, 3) := by decide +kernel
theorem dX2_comesOutOf_37 : decode cX2_comesOutOf 37 = .ok (.aload_n 0, 1) := by decide +kernel
theorem dX2_comesOutOf_38 : decode cX2_comesOutOf 38 = .ok (.getfield 55, 3) := by decide +kernel
theorem dX2_comesOutOf_41 : decode cX2_comesOutOf 41 = .ok (.dup2, 1) := by decide +kernel
theorem dX2_comesOutOf_42 : decode cX2_comesOutOf 42 = .ok (.iaload, 1) := by decide +kernel
theorem dX2_comesOutOf_43 : decode cX2_comesOutOf 43 = .ok (.iconst 1, 1) := by decide +kernel
theorem dX2_comesOutOf_44 : decode cX2_comesOutOf 44 = .ok (.aload_n 0, 1) := by decide +kernel
theorem dX2_comesOutOf_45 : decode cX2_comesOutOf 45 = .ok (.getfield 31, 3) := by decide +kernel
theorem dX2_comesOutOf_48 : decode cX2_comesOutOf 48 = .ok (.ishl, 1) := by decide +kernel
theorem dX2_comesOutOf_49 : decode cX2_comesOutOf 49 = .ok (.ior, 1) := by decide +kernel
theorem dX2_comesOutOf_50 : decode cX2_comesOutOf 50 = .ok (.iastore, 1) := by decide +kernel
theorem dX2_comesOutOf_51 : decode cX2_comesOutOf 51 = .ok (.aload_n 0, 1) := by decide +kernel
theorem dX2_comesOutOf_52 : decode cX2_comesOutOf 52 = .ok (.dup, 1) := by decide +kernel
theorem dX2_comesOutOf_53 : decode cX2_comesOutOf 53 = .ok (.getfield 31, 3) := by decide +kernel
theorem dX2_comesOutOf_56 : decode cX2_comesOutOf 56 = .ok (.iconst 1, 1) := by decide +kernel
theorem dX2_comesOutOf_57 : decode cX2_comesOutOf 57 = .ok (.iadd, 1) := by decide +kernel
theorem dX2_comesOutOf_58 : decode cX2_comesOutOf 58 = .ok (.putfield 31, 3) := by decide +kernel
theorem dX2_comesOutOf_61 : decode cX2_comesOutOf 61 = .ok (.return_, 1) := by decide +kernel
theorem dX2_ends_0 : decode cX2_ends 0 = .ok (.aload_n 0, 1) := by decide +kernel
theorem dX2_ends_1 : decode cX2_ends 1 = .ok (.getfield 63, 3) := by decide +kernel
theorem dX2_ends_4 : decode cX2_ends 4 = .ok (.aload_n 0, 1) := by decide +kernel
theorem dX2_ends_5 : decode cX2_ends 5 = .ok (.getfield 55, 3) := by decide +kernel
theorem dX2_ends_8 : decode cX2_ends 8 = .ok (.dup2, 1) := by decide +kernel
theorem dX2_ends_9 : decode cX2_ends 9 = .ok (.iaload, 1) := by decide +kernel
theorem dX2_ends_10 : decode cX2_ends 10 = .ok (.iconst 1, 1) := by decide +kernel
theorem dX2_ends_11 : decode cX2_ends 11 = .ok (.iload_n 1, 1) := by decide +kernel
theorem dX2_ends_12 : decode cX2_ends 12 = .ok (.ishl, 1) := by decide +kernel
theorem dX2_ends_13 : decode cX2_ends 13 = .ok (.iconst (-1), 1) := by decide +kernel
theorem dX2_ends_14 : decode cX2_ends 14 = .ok (.ixor, 1) := by decide +kernel
theorem dX2_ends_15 : decode cX2_ends 15 = .ok (.iand, 1) := by decide +kernel
theorem dX2_ends_16 : decode cX2_ends 16 = .ok (.iastore, 1) := by decide +kernel
theorem dX2_ends_17 : decode cX2_ends 17 = .ok (.aload_n 0, 1) := by decide +kernel
theorem dX2_ends_18 : decode cX2_ends 18 = .ok (.getfield 28, 3) := by decide +kernel
theorem dX2_ends_21 : decode cX2_ends 21 = .ok (.iload_n 1, 1) := by decide +kernel
theorem dX2_ends_22 : decode cX2_ends 22 = .ok (.aload_n 0, 1) := by decide +kernel
theorem dX2_ends_23 : decode cX2_ends 23 = .ok (.getfield 55, 3) := by decide +kernel
theorem dX2_ends_26 : decode cX2_ends 26 = .ok (.iconst 1, 1) := by decide +kernel
theorem dX2_ends_27 : decode cX2_ends 27 = .ok (.isub, 1) := by decide +kernel
theorem dX2_ends_28 : decode cX2_ends 28 = .ok (.iastore, 1) := by decide +kernel
theorem dX2_ends_29 : decode cX2_ends 29 = .ok (.return_, 1) := by decide +kernel
theorem dX2_heirOf_0 : decode cX2_heirOf 0 = .ok (.aload_n 0, 1) := by decide +kernel
theorem dX2_heirOf_1 : decode cX2_heirOf 1 = .ok (.getfield 25, 3) := by decide +kernel
theorem dX2_heirOf_4 : decode cX2_heirOf 4 = .ok (.iload_n 1, 1) := by decide +kernel
theorem dX2_heirOf_5 : decode cX2_heirOf 5 = .ok (.iaload, 1) := by decide +kernel
theorem dX2_heirOf_6 : decode cX2_heirOf 6 = .ok (.iload_n 2, 1) := by decide +kernel
theorem dX2_heirOf_7 : decode cX2_heirOf 7 = .ok (.if_icmp .le 5, 3) := by decide +kernel
theorem dX2_heirOf_10 : decode cX2_heirOf 10 = .ok (.iconst (-1), 1) := by decide +kernel
theorem dX2_heirOf_11 : decode cX2_heirOf 11 = .ok (.ireturn, 1) := by decide +kernel
theorem dX2_heirOf_12 : decode cX2_heirOf 12 = .ok (.aload_n 0, 1) := by decide +kernel
theorem dX2_heirOf_13 : decode cX2_heirOf 13 = .ok (.iload_n 2, 1) := by decide +kernel
theorem dX2_heirOf_14 : decode cX2_heirOf 14 = .ok (.invokevirtual 105, 3) := by decide +kernel
theorem dX2_heirOf_17 : decode cX2_heirOf 17 = .ok (.istore_n 3, 1) := by decide +kernel
theorem dX2_heirOf_18 : decode cX2_heirOf 18 = .ok (.iload_n 1, 1) := by decide +kernel
theorem dX2_heirOf_19 : decode cX2_heirOf 19 = .ok (.istore 4, 2) := by decide +kernel
theorem dX2_heirOf_21 : decode cX2_heirOf 21 = .ok (.iconst 0, 1) := by decide +kernel
theorem dX2_heirOf_22 : decode cX2_heirOf 22 = .ok (.istore 5, 2) := by decide +kernel
theorem dX2_heirOf_24 : decode cX2_heirOf 24 = .ok (.iload 5, 2) := by decide +kernel
theorem dX2_heirOf_26 : decode cX2_heirOf 26 = .ok (.iload_n 3, 1) := by decide +kernel
theorem dX2_heirOf_27 : decode cX2_heirOf 27 = .ok (.if_icmp .ge 31, 3) := by decide +kernel
theorem dX2_heirOf_30 : decode cX2_heirOf 30 = .ok (.aload_n 0, 1) := by decide +kernel
theorem dX2_heirOf_31 : decode cX2_heirOf 31 = .ok (.getfield 63, 3) := by decide +kernel
theorem dX2_heirOf_34 : decode cX2_heirOf 34 = .ok (.iload_n 3, 1) := by decide +kernel
theorem dX2_heirOf_35 : decode cX2_heirOf 35 = .ok (.iaload, 1) := by decide +kernel
theorem dX2_heirOf_36 : decode cX2_heirOf 36 = .ok (.iload 4, 2) := by decide +kernel
theorem dX2_heirOf_38 : decode cX2_heirOf 38 = .ok (.invokestatic 70, 3) := by decide +kernel
theorem dX2_heirOf_41 : decode cX2_heirOf 41 = .ok (.ifCond .ne 17, 3) := by decide +kernel
theorem dX2_heirOf_44 : decode cX2_heirOf 44 = .ok (.aload_n 0, 1) := by decide +kernel
theorem dX2_heirOf_45 : decode cX2_heirOf 45 = .ok (.iload 4, 2) := by decide +kernel
theorem dX2_heirOf_47 : decode cX2_heirOf 47 = .ok (.invokevirtual 109, 3) := by decide +kernel
theorem dX2_heirOf_50 : decode cX2_heirOf 50 = .ok (.istore 4, 2) := by decide +kernel
theorem dX2_heirOf_52 : decode cX2_heirOf 52 = .ok (.iinc 5 1, 3) := by decide +kernel
theorem dX2_heirOf_55 : decode cX2_heirOf 55 = .ok (.goto (-31), 3) := by decide +kernel
theorem dX2_heirOf_58 : decode cX2_heirOf 58 = .ok (.iload 4, 2) := by decide +kernel
theorem dX2_heirOf_60 : decode cX2_heirOf 60 = .ok (.ireturn, 1) := by decide +kernel
theorem dX2_nextHeir_0 : decode cX2_nextHeir 0 = .ok (.aload_n 0, 1) := by decide +kernel
theorem dX2_nextHeir_1 : decode cX2_nextHeir 1 = .ok (.getfield 28, 3) := by decide +kernel
theorem dX2_nextHeir_4 : decode cX2_nextHeir 4 = .ok (.iload_n 1, 1) := by decide +kernel
theorem dX2_nextHeir_5 : decode cX2_nextHeir 5 = .ok (.iaload, 1) := by decide +kernel
theorem dX2_nextHeir_6 : decode cX2_nextHeir 6 = .ok (.istore_n 2, 1) := by decide +kernel
theorem dX2_nextHeir_7 : decode cX2_nextHeir 7 = .ok (.iload_n 2, 1) := by decide +kernel
theorem dX2_nextHeir_8 : decode cX2_nextHeir 8 = .ok (.ifCond .ge 5, 3) := by decide +kernel
theorem dX2_nextHeir_11 : decode cX2_nextHeir 11 = .ok (.iload_n 1, 1) := by decide +kernel
theorem dX2_nextHeir_12 : decode cX2_nextHeir 12 = .ok (.ireturn, 1) := by decide +kernel
theorem dX2_nextHeir_13 : decode cX2_nextHeir 13 = .ok (.aload_n 0, 1) := by decide +kernel
theorem dX2_nextHeir_14 : decode cX2_nextHeir 14 = .ok (.getfield 34, 3) := by decide +kernel
theorem dX2_nextHeir_17 : decode cX2_nextHeir 17 = .ok (.iload_n 2, 1) := by decide +kernel
theorem dX2_nextHeir_18 : decode cX2_nextHeir 18 = .ok (.iaload, 1) := by decide +kernel
theorem dX2_nextHeir_19 : decode cX2_nextHeir 19 = .ok (.iconst 2, 1) := by decide +kernel
theorem dX2_nextHeir_20 : decode cX2_nextHeir 20 = .ok (.if_icmp .ne 10, 3) := by decide +kernel
theorem dX2_nextHeir_23 : decode cX2_nextHeir 23 = .ok (.aload_n 0, 1) := by decide +kernel
theorem dX2_nextHeir_24 : decode cX2_nextHeir 24 = .ok (.getfield 40, 3) := by decide +kernel
theorem dX2_nextHeir_27 : decode cX2_nextHeir 27 = .ok (.iload_n 2, 1) := by decide +kernel
theorem dX2_nextHeir_28 : decode cX2_nextHeir 28 = .ok (.iaload, 1) := by decide +kernel
theorem dX2_nextHeir_29 : decode cX2_nextHeir 29 = .ok (.ireturn, 1) := by decide +kernel
theorem dX2_nextHeir_30 : decode cX2_nextHeir 30 = .ok (.aload_n 0, 1) := by decide +kernel
theorem dX2_nextHeir_31 : decode cX2_nextHeir 31 = .ok (.getfield 46, 3) := by decide +kernel
theorem dX2_nextHeir_34 : decode cX2_nextHeir 34 = .ok (.iload_n 2, 1) := by decide +kernel
theorem dX2_nextHeir_35 : decode cX2_nextHeir 35 = .ok (.iaload, 1) := by decide +kernel
theorem dX2_nextHeir_36 : decode cX2_nextHeir 36 = .ok (.istore_n 3, 1) := by decide +kernel
theorem dX2_nextHeir_37 : decode cX2_nextHeir 37 = .ok (.aload_n 0, 1) := by decide +kernel
theorem dX2_nextHeir_38 : decode cX2_nextHeir 38 = .ok (.aload_n 0, 1) := by decide +kernel
theorem dX2_nextHeir_39 : decode cX2_nextHeir 39 = .ok (.getfield 9, 3) := by decide +kernel
theorem dX2_nextHeir_42 : decode cX2_nextHeir 42 = .ok (.aload_n 0, 1) := by decide +kernel
theorem dX2_nextHeir_43 : decode cX2_nextHeir 43 = .ok (.getfield 49, 3) := by decide +kernel
theorem dX2_nextHeir_46 : decode cX2_nextHeir 46 = .ok (.iload_n 2, 1) := by decide +kernel
theorem dX2_nextHeir_47 : decode cX2_nextHeir 47 = .ok (.iaload, 1) := by decide +kernel
theorem dX2_nextHeir_48 : decode cX2_nextHeir 48 = .ok (.invokevirtual 112, 3) := by decide +kernel
theorem dX2_nextHeir_51 : decode cX2_nextHeir 51 = .ok (.aload_n 0, 1) := by decide +kernel
theorem dX2_nextHeir_52 : decode cX2_nextHeir 52 = .ok (.aload_n 0, 1) := by decide +kernel
theorem dX2_nextHeir_53 : decode cX2_nextHeir 53 = .ok (.getfield 9, 3) := by decide +kernel
theorem dX2_nextHeir_56 : decode cX2_nextHeir 56 = .ok (.aload_n 0, 1) := by decide +kernel
theorem dX2_nextHeir_57 : decode cX2_nextHeir 57 = .ok (.getfield 52, 3) := by decide +kernel
theorem dX2_nextHeir_60 : decode cX2_nextHeir 60 = .ok (.iload_n 2, 1) := by decide +kernel
theorem dX2_nextHeir_61 : decode cX2_nextHeir 61 = .ok (.iaload, 1) := by decide +kernel
theorem dX2_nextHeir_62 : decode cX2_nextHeir 62 = .ok (.invokevirtual 112, 3) := by decide +kernel
theorem dX2_nextHeir_65 : decode cX2_nextHeir 65 = .ok (.if_icmp .lt 7, 3) := by decide +kernel
theorem dX2_nextHeir_68 : decode cX2_nextHeir 68 = .ok (.iload_n 3, 1) := by decide +kernel
theorem dX2_nextHeir_69 : decode cX2_nextHeir 69 = .ok (.goto 6, 3) := by decide +kernel
theorem dX2_nextHeir_72 : decode cX2_nextHeir 72 = .ok (.iload_n 3, 1) := by decide +kernel
theorem dX2_nextHeir_73 : decode cX2_nextHeir 73 = .ok (.iconst 1, 1) := by decide +kernel
theorem dX2_nextHeir_74 : decode cX2_nextHeir 74 = .ok (.iadd, 1) := by decide +kernel
theorem dX2_nextHeir_75 : decode cX2_nextHeir 75 = .ok (.ireturn, 1) := by decide +kernel
theorem dX2_saidSame_0 : decode cX2_saidSame 0 = .ok (.iconst 0, 1) := by decide +kernel
theorem dX2_saidSame_1 : decode cX2_saidSame 1 = .ok (.istore_n 3, 1) := by decide +kernel
theorem dX2_saidSame_2 : decode cX2_saidSame 2 = .ok (.iload_n 3, 1) := by decide +kernel
theorem dX2_saidSame_3 : decode cX2_saidSame 3 = .ok (.iload_n 2, 1) := by decide +kernel
theorem dX2_saidSame_4 : decode cX2_saidSame 4 = .ok (.if_icmp .ge 31, 3) := by decide +kernel
theorem dX2_saidSame_7 : decode cX2_saidSame 7 = .ok (.aload_n 0, 1) := by decide +kernel
theorem dX2_saidSame_8 : decode cX2_saidSame 8 = .ok (.getfield 34, 3) := by decide +kernel
theorem dX2_saidSame_11 : decode cX2_saidSame 11 = .ok (.iload_n 3, 1) := by decide +kernel
theorem dX2_saidSame_12 : decode cX2_saidSame 12 = .ok (.iaload, 1) := by decide +kernel
theorem dX2_saidSame_13 : decode cX2_saidSame 13 = .ok (.iconst 4, 1) := by decide +kernel
theorem dX2_saidSame_14 : decode cX2_saidSame 14 = .ok (.if_icmp .ne 15, 3) := by decide +kernel
theorem dX2_saidSame_17 : decode cX2_saidSame 17 = .ok (.aload_n 0, 1) := by decide +kernel
theorem dX2_saidSame_18 : decode cX2_saidSame 18 = .ok (.getfield 40, 3) := by decide +kernel
theorem dX2_saidSame_21 : decode cX2_saidSame 21 = .ok (.iload_n 3, 1) := by decide +kernel
theorem dX2_saidSame_22 : decode cX2_saidSame 22 = .ok (.iaload, 1) := by decide +kernel
theorem dX2_saidSame_23 : decode cX2_saidSame 23 = .ok (.iload_n 1, 1) := by decide +kernel
theorem dX2_saidSame_24 : decode cX2_saidSame 24 = .ok (.if_icmp .ne 5, 3) := by decide +kernel
theorem dX2_saidSame_27 : decode cX2_saidSame 27 = .ok (.iconst 1, 1) := by decide +kernel
theorem dX2_saidSame_28 : decode cX2_saidSame 28 = .ok (.ireturn, 1) := by decide +kernel
theorem dX2_saidSame_29 : decode cX2_saidSame 29 = .ok (.iinc 3 1, 3) := by decide +kernel
theorem dX2_saidSame_32 : decode cX2_saidSame 32 = .ok (.goto (-30), 3) := by decide +kernel
theorem dX2_saidSame_35 : decode cX2_saidSame 35 = .ok (.iconst 0, 1) := by decide +kernel
theorem dX2_saidSame_36 : decode cX2_saidSame 36 = .ok (.ireturn, 1) := by decide +kernel
theorem dX2_sumOf_0 : decode cX2_sumOf 0 = .ok (.iconst 0, 1) := by decide +kernel
theorem dX2_sumOf_1 : decode cX2_sumOf 1 = .ok (.istore_n 3, 1) := by decide +kernel
theorem dX2_sumOf_2 : decode cX2_sumOf 2 = .ok (.iconst 0, 1) := by decide +kernel
theorem dX2_sumOf_3 : decode cX2_sumOf 3 = .ok (.istore 4, 2) := by decide +kernel
theorem dX2_sumOf_5 : decode cX2_sumOf 5 = .ok (.iload 4, 2) := by decide +kernel
theorem dX2_sumOf_7 : decode cX2_sumOf 7 = .ok (.aload_n 0, 1) := by decide +kernel
theorem dX2_sumOf_8 : decode cX2_sumOf 8 = .ok (.getfield 18, 3) := by decide +kernel
theorem dX2_sumOf_11 : decode cX2_sumOf 11 = .ok (.if_icmp .ge 25, 3) := by decide +kernel
theorem dX2_sumOf_14 : decode cX2_sumOf 14 = .ok (.iload_n 2, 1) := by decide +kernel
theorem dX2_sumOf_15 : decode cX2_sumOf 15 = .ok (.iload 4, 2) := by decide +kernel
theorem dX2_sumOf_17 : decode cX2_sumOf 17 = .ok (.ishr, 1) := by decide +kernel
theorem dX2_sumOf_18 : decode cX2_sumOf 18 = .ok (.iconst 1, 1) := by decide +kernel
theorem dX2_sumOf_19 : decode cX2_sumOf 19 = .ok (.iand, 1) := by decide +kernel
theorem dX2_sumOf_20 : decode cX2_sumOf 20 = .ok (.ifCond .eq 10, 3) := by decide +kernel
theorem dX2_sumOf_23 : decode cX2_sumOf 23 = .ok (.iload_n 3, 1) := by decide +kernel
theorem dX2_sumOf_24 : decode cX2_sumOf 24 = .ok (.aload_n 1, 1) := by decide +kernel
theorem dX2_sumOf_25 : decode cX2_sumOf 25 = .ok (.iload 4, 2) := by decide +kernel
theorem dX2_sumOf_27 : decode cX2_sumOf 27 = .ok (.iaload, 1) := by decide +kernel
theorem dX2_sumOf_28 : decode cX2_sumOf 28 = .ok (.iadd, 1) := by decide +kernel
theorem dX2_sumOf_29 : decode cX2_sumOf 29 = .ok (.istore_n 3, 1) := by decide +kernel
theorem dX2_sumOf_30 : decode cX2_sumOf 30 = .ok (.iinc 4 1, 3) := by decide +kernel
theorem dX2_sumOf_33 : decode cX2_sumOf 33 = .ok (.goto (-28), 3) := by decide +kernel
theorem dX2_sumOf_36 : decode cX2_sumOf 36 = .ok (.iload_n 3, 1) := by decide +kernel
theorem dX2_sumOf_37 : decode cX2_sumOf 37 = .ok (.ireturn, 1) := by decide +kernel
theorem dX3_knowsPact_0 : decode cX3_knowsPact 0 = .ok (.iload_n 1, 1) := by decide +kernel
theorem dX3_knowsPact_1 : decode cX3_knowsPact 1 = .ok (.ifCond .lt 15, 3) := by decide +kernel
theorem dX3_knowsPact_4 : decode cX3_knowsPact 4 = .ok (.iload_n 1, 1) := by decide +kernel
theorem dX3_knowsPact_5 : decode cX3_knowsPact 5 = .ok (.aload_n 0, 1) := by decide +kernel
theorem dX3_knowsPact_6 : decode cX3_knowsPact 6 = .ok (.getfield 24, 3) := by decide +kernel
theorem dX3_knowsPact_9 : decode cX3_knowsPact 9 = .ok (.if_icmp .ge 7, 3) := by decide +kernel
theorem dX3_knowsPact_12 : decode cX3_knowsPact 12 = .ok (.iconst 1, 1) := by decide +kernel
theorem dX3_knowsPact_13 : decode cX3_knowsPact 13 = .ok (.goto 4, 3) := by decide +kernel
theorem dX3_knowsPact_16 : decode cX3_knowsPact 16 = .ok (.iconst 0, 1) := by decide +kernel
theorem dX3_knowsPact_17 : decode cX3_knowsPact 17 = .ok (.ireturn, 1) := by decide +kernel
theorem dX3_addPact_0 : decode cX3_addPact 0 = .ok (.aload_n 0, 1) := by decide +kernel
theorem dX3_addPact_1 : decode cX3_addPact 1 = .ok (.getfield 24, 3) := by decide +kernel
theorem dX3_addPact_4 : decode cX3_addPact 4 = .ok (.istore 5, 2) := by decide +kernel
theorem dX3_addPact_6 : decode cX3_addPact 6 = .ok (.aload_n 0, 1) := by decide +kernel
theorem dX3_addPact_7 : decode cX3_addPact 7 = .ok (.getfield 9, 3) := by decide +kernel
theorem dX3_addPact_10 : decode cX3_addPact 10 = .ok (.iload 5, 2) := by decide +kernel
theorem dX3_addPact_12 : decode cX3_addPact 12 = .ok (.iload_n 1, 1) := by decide +kernel
theorem dX3_addPact_13 : decode cX3_addPact 13 = .ok (.iastore, 1) := by decide +kernel
theorem dX3_addPact_14 : decode cX3_addPact 14 = .ok (.aload_n 0, 1) := by decide +kernel
theorem dX3_addPact_15 : decode cX3_addPact 15 = .ok (.getfield 15, 3) := by decide +kernel
theorem dX3_addPact_18 : decode cX3_addPact 18 = .ok (.iload 5, 2) := by decide +kernel
theorem dX3_addPact_20 : decode cX3_addPact 20 = .ok (.iload_n 2, 1) := by decide +kernel
theorem dX3_addPact_21 : decode cX3_addPact 21 = .ok (.iastore, 1) := by decide +kernel
theorem dX3_addPact_22 : decode cX3_addPact 22 = .ok (.aload_n 0, 1) := by decide +kernel
theorem dX3_addPact_23 : decode cX3_addPact 23 = .ok (.getfield 18, 3) := by decide +kernel
theorem dX3_addPact_26 : decode cX3_addPact 26 = .ok (.iload 5, 2) := by decide +kernel
theorem dX3_addPact_28 : decode cX3_addPact 28 = .ok (.iload_n 3, 1) := by decide +kernel
theorem dX3_addPact_29 : decode cX3_addPact 29 = .ok (.iastore, 1) := by decide +kernel
theorem dX3_addPact_30 : decode cX3_addPact 30 = .ok (.aload_n 0, 1) := by decide +kernel
theorem dX3_addPact_31 : decode cX3_addPact 31 = .ok (.getfield 21, 3) := by decide +kernel
theorem dX3_addPact_34 : decode cX3_addPact 34 = .ok (.iload 5, 2) := by decide +kernel
theorem dX3_addPact_36 : decode cX3_addPact 36 = .ok (.iload 4, 2) := by decide +kernel
theorem dX3_addPact_38 : decode cX3_addPact 38 = .ok (.iastore, 1) := by decide +kernel
theorem dX3_addPact_39 : decode cX3_addPact 39 = .ok (.aload_n 0, 1) := by decide +kernel
theorem dX3_addPact_40 : decode cX3_addPact 40 = .ok (.aload_n 0, 1) := by decide +kernel
theorem dX3_addPact_41 : decode cX3_addPact 41 = .ok (.getfield 28, 3) := by decide +kernel
theorem dX3_addPact_44 : decode cX3_addPact 44 = .ok (.iload 4, 2) := by decide +kernel
theorem dX3_addPact_46 : decode cX3_addPact 46 = .ok (.invokestatic 56, 3) := by decide +kernel
theorem dX3_addPact_49 : decode cX3_addPact 49 = .ok (.putfield 28, 3) := by decide +kernel
theorem dX3_addPact_52 : decode cX3_addPact 52 = .ok (.aload_n 0, 1) := by decide +kernel
theorem dX3_addPact_53 : decode cX3_addPact 53 = .ok (.dup, 1) := by decide +kernel
theorem dX3_addPact_54 : decode cX3_addPact 54 = .ok (.getfield 24, 3) := by decide +kernel
theorem dX3_addPact_57 : decode cX3_addPact 57 = .ok (.iconst 1, 1) := by decide +kernel
theorem dX3_addPact_58 : decode cX3_addPact 58 = .ok (.iadd, 1) := by decide +kernel
theorem dX3_addPact_59 : decode cX3_addPact 59 = .ok (.putfield 24, 3) := by decide +kernel
theorem dX3_addPact_62 : decode cX3_addPact 62 = .ok (.iload 5, 2) := by decide +kernel
theorem dX3_addPact_64 : decode cX3_addPact 64 = .ok (.ireturn, 1) := by decide +kernel
theorem dX3_boundOn_0 : decode cX3_boundOn 0 = .ok (.iload_n 2, 1) := by decide +kernel
theorem dX3_boundOn_1 : decode cX3_boundOn 1 = .ok (.aload_n 0, 1) := by decide +kernel
theorem dX3_boundOn_2 : decode cX3_boundOn 2 = .ok (.getfield 21, 3) := by decide +kernel
theorem dX3_boundOn_5 : decode cX3_boundOn 5 = .ok (.iload_n 1, 1) := by decide +kernel
theorem dX3_boundOn_6 : decode cX3_boundOn 6 = .ok (.iaload, 1) := by decide +kernel
theorem dX3_boundOn_7 : decode cX3_boundOn 7 = .ok (.if_icmp .ge 5, 3) := by decide +kernel
theorem dX3_boundOn_10 : decode cX3_boundOn 10 = .ok (.iconst 0, 1) := by decide +kernel
theorem dX3_boundOn_11 : decode cX3_boundOn 11 = .ok (.ireturn, 1) := by decide +kernel
theorem dX3_boundOn_12 : decode cX3_boundOn 12 = .ok (.aload_n 0, 1) := by decide +kernel
theorem dX3_boundOn_13 : decode cX3_boundOn 13 = .ok (.getfield 9, 3) := by decide +kernel
theorem dX3_boundOn_16 : decode cX3_boundOn 16 = .ok (.iload_n 1, 1) := by decide +kernel
theorem dX3_boundOn_17 : decode cX3_boundOn 17 = .ok (.iaload, 1) := by decide +kernel
theorem dX3_boundOn_18 : decode cX3_boundOn 18 = .ok (.iconst 2, 1) := by decide +kernel
theorem dX3_boundOn_19 : decode cX3_boundOn 19 = .ok (.if_icmp .ne 11, 3) := by decide +kernel
theorem dX3_boundOn_22 : decode cX3_boundOn 22 = .ok (.aload_n 0, 1) := by decide +kernel
theorem dX3_boundOn_23 : decode cX3_boundOn 23 = .ok (.iload_n 1, 1) := by decide +kernel
theorem dX3_boundOn_24 : decode cX3_boundOn 24 = .ok (.iload_n 2, 1) := by decide +kernel
theorem dX3_boundOn_25 : decode cX3_boundOn 25 = .ok (.iload_n 3, 1) := by decide +kernel
theorem dX3_boundOn_26 : decode cX3_boundOn 26 = .ok (.invokevirtual 62, 3) := by decide +kernel
theorem dX3_boundOn_29 : decode cX3_boundOn 29 = .ok (.ireturn, 1) := by decide +kernel
theorem dX3_boundOn_30 : decode cX3_boundOn 30 = .ok (.aload_n 0, 1) := by decide +kernel
theorem dX3_boundOn_31 : decode cX3_boundOn 31 = .ok (.getfield 40, 3) := by decide +kernel
theorem dX3_boundOn_34 : decode cX3_boundOn 34 = .ok (.iload_n 2, 1) := by decide +kernel
theorem dX3_boundOn_35 : decode cX3_boundOn 35 = .ok (.invokevirtual 66, 3) := by decide +kernel
theorem dX3_boundOn_38 : decode cX3_boundOn 38 = .ok (.istore 4, 2) := by decide +kernel
theorem dX3_boundOn_40 : decode cX3_boundOn 40 = .ok (.aload_n 0, 1) := by decide +kernel
theorem dX3_boundOn_41 : decode cX3_boundOn 41 = .ok (.getfield 9, 3) := by decide +kernel
theorem dX3_boundOn_44 : decode cX3_boundOn 44 = .ok (.iload_n 1, 1) := by decide +kernel
theorem dX3_boundOn_45 : decode cX3_boundOn 45 = .ok (.iaload, 1) := by decide +kernel
theorem dX3_boundOn_46 : decode cX3_boundOn 46 = .ok (.iconst 1, 1) := by decide +kernel
theorem dX3_boundOn_47 : decode cX3_boundOn 47 = .ok (.if_icmp .ne 14, 3) := by decide +kernel
theorem dX3_boundOn_50 : decode cX3_boundOn 50 = .ok (.aload_n 0, 1) := by decide +kernel
theorem dX3_boundOn_51 : decode cX3_boundOn 51 = .ok (.iload_n 1, 1) := by decide +kernel
theorem dX3_boundOn_52 : decode cX3_boundOn 52 = .ok (.iload_n 2, 1) := by decide +kernel
theorem dX3_boundOn_53 : decode cX3_boundOn 53 = .ok (.iload 4, 2) := by decide +kernel
theorem dX3_boundOn_55 : decode cX3_boundOn 55 = .ok (.invokevirtual 72, 3) := by decide +kernel
theorem dX3_boundOn_58 : decode cX3_boundOn 58 = .ok (.goto 18, 3) := by decide +kernel
theorem dX3_boundOn_61 : decode cX3_boundOn 61 = .ok (.aload_n 0, 1) := by decide +kernel
theorem dX3_boundOn_62 : decode cX3_boundOn 62 = .ok (.getfield 40, 3) := by decide +kernel
theorem dX3_boundOn_65 : decode cX3_boundOn 65 = .ok (.aload_n 0, 1) := by decide +kernel
theorem dX3_boundOn_66 : decode cX3_boundOn 66 = .ok (.getfield 18, 3) := by decide +kernel
theorem dX3_boundOn_69 : decode cX3_boundOn 69 = .ok (.iload_n 1, 1) := by decide +kernel
theorem dX3_boundOn_70 : decode cX3_boundOn 70 = .ok (.iaload, 1) := by decide +kernel
theorem dX3_boundOn_71 : decode cX3_boundOn 71 = .ok (.iload 4, 2) := by decide +kernel
theorem dX3_boundOn_73 : decode cX3_boundOn 73 = .ok (.invokevirtual 75, 3) := by decide +kernel
theorem dX3_boundOn_76 : decode cX3_boundOn 76 = .ok (.istore 5, 2) := by decide +kernel
theorem dX3_boundOn_78 : decode cX3_boundOn 78 = .ok (.aload_n 0, 1) := by decide +kernel
theorem dX3_boundOn_79 : decode cX3_boundOn 79 = .ok (.getfield 40, 3) := by decide +kernel
theorem dX3_boundOn_82 : decode cX3_boundOn 82 = .ok (.iload 5, 2) := by decide +kernel
theorem dX3_boundOn_84 : decode cX3_boundOn 84 = .ok (.iload 4, 2) := by decide +kernel
theorem dX3_boundOn_86 : decode cX3_boundOn 86 = .ok (.invokevirtual 78, 3) := by decide +kernel
theorem dX3_boundOn_89 : decode cX3_boundOn 89 = .ok (.ifCond .eq 10, 3) := by decide +kernel
theorem dX3_boundOn_92 : decode cX3_boundOn 92 = .ok (.iconst 1, 1) := by decide +kernel
theorem dX3_boundOn_93 : decode cX3_boundOn 93 = .ok (.iload 5, 2) := by decide +kernel
theorem dX3_boundOn_95 : decode cX3_boundOn 95 = .ok (.ishl, 1) := by decide +kernel
theorem dX3_boundOn_96 : decode cX3_boundOn 96 = .ok (.goto 4, 3) := by decide +kernel
theorem dX3_boundOn_99 : decode cX3_boundOn 99 = .ok (.iconst 0, 1) := by decide +kernel
theorem dX3_boundOn_100 : decode cX3_boundOn 100 = .ok (.ireturn, 1) := by decide +kernel
theorem dX3_boundByRank_0 : decode cX3_boundByRank 0 = .ok (.iconst 0, 1) := by decide +kernel
theorem dX3_boundByRank_1 : decode cX3_boundByRank 1 = .ok (.istore 4, 2) := by decide +kernel
theorem dX3_boundByRank_3 : decode cX3_boundByRank 3 = .ok (.iload 4, 2) := by decide +kernel
theorem dX3_boundByRank_5 : decode cX3_boundByRank 5 = .ok (.aload_n 0, 1) := by decide +kernel
theorem dX3_boundByRank_6 : decode cX3_boundByRank 6 = .ok (.getfield 40, 3) := by decide +kernel
theorem dX3_boundByRank_9 : decode cX3_boundByRank 9 = .ok (.getfield 82, 3) := by decide +kernel
theorem dX3_boundByRank_12 : decode cX3_boundByRank 12 = .ok (.if_icmp .ge 82, 3) := by decide +kernel
theorem dX3_boundByRank_15 : decode cX3_boundByRank 15 = .ok (.aload_n 0, 1) := by decide +kernel
theorem dX3_boundByRank_16 : decode cX3_boundByRank 16 = .ok (.getfield 40, 3) := by decide +kernel
theorem dX3_boundByRank_19 : decode cX3_boundByRank 19 = .ok (.getfield 85, 3) := by decide +kernel
theorem dX3_boundByRank_22 : decode cX3_boundByRank 22 = .ok (.iload 4, 2) := by decide +kernel
theorem dX3_boundByRank_24 : decode cX3_boundByRank 24 = .ok (.iaload, 1) := by decide +kernel
theorem dX3_boundByRank_25 : decode cX3_boundByRank 25 = .ok (.aload_n 0, 1) := by decide +kernel
theorem dX3_boundByRank_26 : decode cX3_boundByRank 26 = .ok (.getfield 15, 3) := by decide +kernel
theorem dX3_boundByRank_29 : decode cX3_boundByRank 29 = .ok (.iload_n 1, 1) := by decide +kernel
theorem dX3_boundByRank_30 : decode cX3_boundByRank 30 = .ok (.iaload, 1) := by decide +kernel
theorem dX3_boundByRank_31 : decode cX3_boundByRank 31 = .ok (.if_icmp .ne 20, 3) := by decide +kernel
theorem dX3_boundByRank_34 : decode cX3_boundByRank 34 = .ok (.aload_n 0, 1) := by decide +kernel
theorem dX3_boundByRank_35 : decode cX3_boundByRank 35 = .ok (.getfield 40, 3) := by decide +kernel
theorem dX3_boundByRank_38 : decode cX3_boundByRank 38 = .ok (.iload 4, 2) := by decide +kernel
theorem dX3_boundByRank_40 : decode cX3_boundByRank 40 = .ok (.iload_n 3, 1) := by decide +kernel
theorem dX3_boundByRank_41 : decode cX3_boundByRank 41 = .ok (.invokevirtual 78, 3) := by decide +kernel
theorem dX3_boundByRank_44 : decode cX3_boundByRank 44 = .ok (.ifCond .eq 7, 3) := by decide +kernel
theorem dX3_boundByRank_47 : decode cX3_boundByRank 47 = .ok (.iconst 1, 1) := by decide +kernel
theorem dX3_boundByRank_48 : decode cX3_boundByRank 48 = .ok (.goto 4, 3) := by decide +kernel
theorem dX3_boundByRank_51 : decode cX3_boundByRank 51 = .ok (.iconst 0, 1) := by decide +kernel
theorem dX3_boundByRank_52 : decode cX3_boundByRank 52 = .ok (.istore 5, 2) := by decide +kernel
theorem dX3_boundByRank_54 : decode cX3_boundByRank 54 = .ok (.iload 5, 2) := by decide +kernel
theorem dX3_boundByRank_56 : decode cX3_boundByRank 56 = .ok (.ifCond .eq 32, 3) := by decide +kernel
theorem dX3_boundByRank_59 : decode cX3_boundByRank 59 = .ok (.aload_n 0, 1) := by decide +kernel
theorem dX3_boundByRank_60 : decode cX3_boundByRank 60 = .ok (.getfield 40, 3) := by decide +kernel
theorem dX3_boundByRank_63 : decode cX3_boundByRank 63 = .ok (.iload 4, 2) := by decide +kernel
theorem dX3_boundByRank_65 : decode cX3_boundByRank 65 = .ok (.iload_n 3, 1) := by decide +kernel
theorem dX3_boundByRank_66 : decode cX3_boundByRank 66 = .ok (.invokevirtual 88, 3) := by decide +kernel
theorem dX3_boundByRank_69 : decode cX3_boundByRank 69 = .ok (.ifCond .eq 19, 3) := by decide +kernel
theorem dX3_boundByRank_72 : decode cX3_boundByRank 72 = .ok (.aload_n 0, 1) := by decide +kernel
theorem dX3_boundByRank_73 : decode cX3_boundByRank 73 = .ok (.getfield 52, 3) := by decide +kernel
theorem dX3_boundByRank_76 : decode cX3_boundByRank 76 = .ok (.iload 4, 2) := by decide +kernel
theorem dX3_boundByRank_78 : decode cX3_boundByRank 78 = .ok (.iload_n 2, 1) := by decide +kernel
theorem dX3_boundByRank_79 : decode cX3_boundByRank 79 = .ok (.invokevirtual 91, 3) := by decide +kernel
theorem dX3_boundByRank_82 : decode cX3_boundByRank 82 = .ok (.ifCond .eq 6, 3) := by decide +kernel
theorem dX3_boundByRank_85 : decode cX3_boundByRank 85 = .ok (.iload 4, 2) := by decide +kernel
theorem dX3_boundByRank_87 : decode cX3_boundByRank 87 = .ok (.ireturn, 1) := by decide +kernel
theorem dX3_boundByRank_88 : decode cX3_boundByRank 88 = .ok (.iinc 4 1, 3) := by decide +kernel
theorem dX3_boundByRank_91 : decode cX3_boundByRank 91 = .ok (.goto (-88), 3) := by decide +kernel
theorem dX3_boundByRank_94 : decode cX3_boundByRank 94 = .ok (.aload_n 0, 1) := by decide +kernel
theorem dX3_boundByRank_95 : decode cX3_boundByRank 95 = .ok (.getfield 15, 3) := by decide +kernel
theorem dX3_boundByRank_98 : decode cX3_boundByRank 98 = .ok (.iload_n 1, 1) := by decide +kernel
theorem dX3_boundByRank_99 : decode cX3_boundByRank 99 = .ok (.iaload, 1) := by decide +kernel
theorem dX3_boundByRank_100 : decode cX3_boundByRank 100 = .ok (.ireturn, 1) := by decide +kernel
theorem dX3_boundByTrade_0 : decode cX3_boundByTrade 0 = .ok (.aload_n 0, 1) := by decide +kernel
theorem dX3_boundByTrade_1 : decode cX3_boundByTrade 1 = .ok (.getfield 40, 3) := by decide +kernel
theorem dX3_boundByTrade_4 : decode cX3_boundByTrade 4 = .ok (.iload_n 2, 1) := by decide +kernel
theorem dX3_boundByTrade_5 : decode cX3_boundByTrade 5 = .ok (.invokevirtual 66, 3) := by decide +kernel
theorem dX3_boundByTrade_8 : decode cX3_boundByTrade 8 = .ok (.istore 4, 2) := by decide +kernel
theorem dX3_boundByTrade_10 : decode cX3_boundByTrade 10 = .ok (.aload_n 0, 1) := by decide +kernel
theorem dX3_boundByTrade_11 : decode cX3_boundByTrade 11 = .ok (.iconst 0, 1) := by decide +kernel
theorem dX3_boundByTrade_12 : decode cX3_boundByTrade 12 = .ok (.putfield 31, 3) := by decide +kernel
theorem dX3_boundByTrade_15 : decode cX3_boundByTrade 15 = .ok (.aload_n 0, 1) := by decide +kernel
theorem dX3_boundByTrade_16 : decode cX3_boundByTrade 16 = .ok (.iconst 0, 1) := by decide +kernel
theorem dX3_boundByTrade_17 : decode cX3_boundByTrade 17 = .ok (.putfield 34, 3) := by decide +kernel
theorem dX3_boundByTrade_20 : decode cX3_boundByTrade 20 = .ok (.aload_n 0, 1) := by decide +kernel
theorem dX3_boundByTrade_21 : decode cX3_boundByTrade 21 = .ok (.getfield 40, 3) := by decide +kernel
theorem dX3_boundByTrade_24 : decode cX3_boundByTrade 24 = .ok (.aload_n 0, 1) := by decide +kernel
theorem dX3_boundByTrade_25 : decode cX3_boundByTrade 25 = .ok (.getfield 21, 3) := by decide +kernel
theorem dX3_boundByTrade_28 : decode cX3_boundByTrade 28 = .ok (.iload_n 1, 1) := by decide +kernel
theorem dX3_boundByTrade_29 : decode cX3_boundByTrade 29 = .ok (.iaload, 1) := by decide +kernel
theorem dX3_boundByTrade_30 : decode cX3_boundByTrade 30 = .ok (.invokevirtual 66, 3) := by decide +kernel
theorem dX3_boundByTrade_33 : decode cX3_boundByTrade 33 = .ok (.istore 5, 2) := by decide +kernel
theorem dX3_boundByTrade_35 : decode cX3_boundByTrade 35 = .ok (.iload 5, 2) := by decide +kernel
theorem dX3_boundByTrade_37 : decode cX3_boundByTrade 37 = .ok (.iload 4, 2) := by decide +kernel
theorem dX3_boundByTrade_39 : decode cX3_boundByTrade 39 = .ok (.if_icmp .ge 17, 3) := by decide +kernel
theorem dX3_boundByTrade_42 : decode cX3_boundByTrade 42 = .ok (.aload_n 0, 1) := by decide +kernel
theorem dX3_boundByTrade_43 : decode cX3_boundByTrade 43 = .ok (.iload_n 1, 1) := by decide +kernel
theorem dX3_boundByTrade_44 : decode cX3_boundByTrade 44 = .ok (.iload 5, 2) := by decide +kernel
theorem dX3_boundByTrade_46 : decode cX3_boundByTrade 46 = .ok (.iload_n 3, 1) := by decide +kernel
theorem dX3_boundByTrade_47 : decode cX3_boundByTrade 47 = .ok (.invokevirtual 96, 3) := by decide +kernel
theorem dX3_boundByTrade_50 : decode cX3_boundByTrade 50 = .ok (.iinc 5 1, 3) := by decide +kernel
theorem dX3_boundByTrade_53 : decode cX3_boundByTrade 53 = .ok (.goto (-18), 3) := by decide +kernel
theorem dX3_boundByTrade_56 : decode cX3_boundByTrade 56 = .ok (.iconst 0, 1) := by decide +kernel
theorem dX3_boundByTrade_57 : decode cX3_boundByTrade 57 = .ok (.istore 5, 2) := by decide +kernel
theorem dX3_boundByTrade_59 : decode cX3_boundByTrade 59 = .ok (.iconst 0, 1) := by decide +kernel
theorem dX3_boundByTrade_60 : decode cX3_boundByTrade 60 = .ok (.istore 6, 2) := by decide +kernel
theorem dX3_boundByTrade_62 : decode cX3_boundByTrade 62 = .ok (.iload 6, 2) := by decide +kernel
theorem dX3_boundByTrade_64 : decode cX3_boundByTrade 64 = .ok (.aload_n 0, 1) := by decide +kernel
theorem dX3_boundByTrade_65 : decode cX3_boundByTrade 65 = .ok (.getfield 40, 3) := by decide +kernel
theorem dX3_boundByTrade_68 : decode cX3_boundByTrade 68 = .ok (.getfield 82, 3) := by decide +kernel
theorem dX3_boundByTrade_71 : decode cX3_boundByTrade 71 = .ok (.if_icmp .ge 44, 3) := by decide +kernel
theorem dX3_boundByTrade_74 : decode cX3_boundByTrade 74 = .ok (.aload_n 0, 1) := by decide +kernel
theorem dX3_boundByTrade_75 : decode cX3_boundByTrade 75 = .ok (.getfield 40, 3) := by decide +kernel
theorem dX3_boundByTrade_78 : decode cX3_boundByTrade 78 = .ok (.iload 6, 2) := by decide +kernel
theorem dX3_boundByTrade_80 : decode cX3_boundByTrade 80 = .ok (.iload 4, 2) := by decide +kernel
theorem dX3_boundByTrade_82 : decode cX3_boundByTrade 82 = .ok (.invokevirtual 78, 3) := by decide +kernel
theorem dX3_boundByTrade_85 : decode cX3_boundByTrade 85 = .ok (.ifCond .eq 24, 3) := by decide +kernel
theorem dX3_boundByTrade_88 : decode cX3_boundByTrade 88 = .ok (.aload_n 0, 1) := by decide +kernel
theorem dX3_boundByTrade_89 : decode cX3_boundByTrade 89 = .ok (.iload_n 1, 1) := by decide +kernel
theorem dX3_boundByTrade_90 : decode cX3_boundByTrade 90 = .ok (.iload 6, 2) := by decide +kernel
theorem dX3_boundByTrade_92 : decode cX3_boundByTrade 92 = .ok (.iload_n 2, 1) := by decide +kernel
theorem dX3_boundByTrade_93 : decode cX3_boundByTrade 93 = .ok (.iload_n 3, 1) := by decide +kernel
theorem dX3_boundByTrade_94 : decode cX3_boundByTrade 94 = .ok (.invokevirtual 100, 3) := by decide +kernel
theorem dX3_boundByTrade_97 : decode cX3_boundByTrade 97 = .ok (.ifCond .eq 12, 3) := by decide +kernel
theorem dX3_boundByTrade_100 : decode cX3_boundByTrade 100 = .ok (.iload 5, 2) := by decide +kernel
theorem dX3_boundByTrade_102 : decode cX3_boundByTrade 102 = .ok (.iconst 1, 1) := by decide +kernel
theorem dX3_boundByTrade_103 : decode cX3_boundByTrade 103 = .ok (.iload 6, 2) := by decide +kernel
theorem dX3_boundByTrade_105 : decode cX3_boundByTrade 105 = .ok (.ishl, 1) := by decide +kernel
theorem dX3_boundByTrade_106 : decode cX3_boundByTrade 106 = .ok (.ior, 1) := by decide +kernel
theorem dX3_boundByTrade_107 : decode cX3_boundByTrade 107 = .ok (.istore 5, 2) := by decide +kernel
theorem dX3_boundByTrade_109 : decode cX3_boundByTrade 109 = .ok (.iinc 6 1, 3) := by decide +kernel
theorem dX3_boundByTrade_112 : decode cX3_boundByTrade 112 = .ok (.goto (-50), 3) := by decide +kernel
theorem dX3_boundByTrade_115 : decode cX3_boundByTrade 115 = .ok (.iload 5, 2) := by decide +kernel
theorem dX3_boundByTrade_117 : decode cX3_boundByTrade 117 = .ok (.ireturn, 1) := by decide +kernel
theorem dX3_handOn_0 : decode cX3_handOn 0 = .ok (.aload_n 0, 1) := by decide +kernel
theorem dX3_handOn_1 : decode cX3_handOn 1 = .ok (.getfield 40, 3) := by decide +kernel
theorem dX3_handOn_4 : decode cX3_handOn 4 = .ok (.getfield 104, 3) := by decide +kernel
theorem dX3_handOn_7 : decode cX3_handOn 7 = .ok (.iload_n 2, 1) := by decide +kernel
theorem dX3_handOn_8 : decode cX3_handOn 8 = .ok (.iaload, 1) := by decide +kernel
theorem dX3_handOn_9 : decode cX3_handOn 9 = .ok (.istore 4, 2) := by decide +kernel
theorem dX3_handOn_11 : decode cX3_handOn 11 = .ok (.aload_n 0, 1) := by decide +kernel
theorem dX3_handOn_12 : decode cX3_handOn 12 = .ok (.getfield 40, 3) := by decide +kernel
theorem dX3_handOn_15 : decode cX3_handOn 15 = .ok (.getfield 105, 3) := by decide +kernel
theorem dX3_handOn_18 : decode cX3_handOn 18 = .ok (.iload_n 2, 1) := by decide +kernel
theorem dX3_handOn_19 : decode cX3_handOn 19 = .ok (.iaload, 1) := by decide +kernel
theorem dX3_handOn_20 : decode cX3_handOn 20 = .ok (.istore 5, 2) := by decide +kernel
theorem dX3_handOn_22 : decode cX3_handOn 22 = .ok (.iload 4, 2) := by decide +kernel
theorem dX3_handOn_24 : decode cX3_handOn 24 = .ok (.ifCond .eq 9, 3) := by decide +kernel
theorem dX3_handOn_27 : decode cX3_handOn 27 = .ok (.iload 4, 2) := by decide +kernel
theorem dX3_handOn_29 : decode cX3_handOn 29 = .ok (.iconst 1, 1) := by decide +kernel
theorem dX3_handOn_30 : decode cX3_handOn 30 = .ok (.if_icmp .ne 56, 3) := by decide +kernel
theorem dX3_handOn_33 : decode cX3_handOn 33 = .ok (.aload_n 0, 1) := by decide +kernel
theorem dX3_handOn_34 : decode cX3_handOn 34 = .ok (.iload_n 1, 1) := by decide +kernel
theorem dX3_handOn_35 : decode cX3_handOn 35 = .ok (.aload_n 0, 1) := by decide +kernel
theorem dX3_handOn_36 : decode cX3_handOn 36 = .ok (.getfield 40, 3) := by decide +kernel
theorem dX3_handOn_39 : decode cX3_handOn 39 = .ok (.getfield 106, 3) := by decide +kernel
theorem dX3_handOn_42 : decode cX3_handOn 42 = .ok (.iload_n 2, 1) := by decide +kernel
theorem dX3_handOn_43 : decode cX3_handOn 43 = .ok (.iaload, 1) := by decide +kernel
theorem dX3_handOn_44 : decode cX3_handOn 44 = .ok (.iload 5, 2) := by decide +kernel
theorem dX3_handOn_46 : decode cX3_handOn 46 = .ok (.iload_n 3, 1) := by decide +kernel
theorem dX3_handOn_47 : decode cX3_handOn 47 = .ok (.invokevirtual 100, 3) := by decide +kernel
theorem dX3_handOn_50 : decode cX3_handOn 50 = .ok (.ifCond .ne 4, 3) := by decide +kernel
theorem dX3_handOn_53 : decode cX3_handOn 53 = .ok (.return_, 1) := by decide +kernel
theorem dX3_handOn_54 : decode cX3_handOn 54 = .ok (.aload_n 0, 1) := by decide +kernel
theorem dX3_handOn_55 : decode cX3_handOn 55 = .ok (.dup, 1) := by decide +kernel
theorem dX3_handOn_56 : decode cX3_handOn 56 = .ok (.getfield 31, 3) := by decide +kernel
theorem dX3_handOn_59 : decode cX3_handOn 59 = .ok (.iload 4, 2) := by decide +kernel
theorem dX3_handOn_61 : decode cX3_handOn 61 = .ok (.ifCond .ne 7, 3) := by decide +kernel
theorem dX3_handOn_64 : decode cX3_handOn 64 = .ok (.iconst 1, 1) := by decide +kernel
theorem dX3_handOn_65 : decode cX3_handOn 65 = .ok (.goto 4, 3) := by decide +kernel
theorem dX3_handOn_68 : decode cX3_handOn 68 = .ok (.iconst 3, 1) := by decide +kernel
theorem dX3_handOn_69 : decode cX3_handOn 69 = .ok (.aload_n 0, 1) := by decide +kernel
theorem dX3_handOn_70 : decode cX3_handOn 70 = .ok (.getfield 40, 3) := by decide +kernel
theorem dX3_handOn_73 : decode cX3_handOn 73 = .ok (.getfield 109, 3) := by decide +kernel
theorem dX3_handOn_76 : decode cX3_handOn 76 = .ok (.iload_n 2, 1) := by decide +kernel
theorem dX3_handOn_77 : decode cX3_handOn 77 = .ok (.iaload, 1) := by decide +kernel
theorem dX3_handOn_78 : decode cX3_handOn 78 = .ok (.ishl, 1) := by decide +kernel
theorem dX3_handOn_79 : decode cX3_handOn 79 = .ok (.ior, 1) := by decide +kernel
theorem dX3_handOn_80 : decode cX3_handOn 80 = .ok (.putfield 31, 3) := by decide +kernel
theorem dX3_handOn_83 : decode cX3_handOn 83 = .ok (.goto 61, 3) := by decide +kernel
theorem dX3_handOn_86 : decode cX3_handOn 86 = .ok (.iload 4, 2) := by decide +kernel
theorem dX3_handOn_88 : decode cX3_handOn 88 = .ok (.iconst 2, 1) := by decide +kernel
theorem dX3_handOn_89 : decode cX3_handOn 89 = .ok (.if_icmp .ne 55, 3) := by decide +kernel
theorem dX3_handOn_92 : decode cX3_handOn 92 = .ok (.aload_n 0, 1) := by decide +kernel
theorem dX3_handOn_93 : decode cX3_handOn 93 = .ok (.getfield 44, 3) := by decide +kernel
theorem dX3_handOn_96 : decode cX3_handOn 96 = .ok (.getfield 112, 3) := by decide +kernel
theorem dX3_handOn_99 : decode cX3_handOn 99 = .ok (.iconst 0, 1) := by decide +kernel
theorem dX3_handOn_100 : decode cX3_handOn 100 = .ok (.iaload, 1) := by decide +kernel
theorem dX3_handOn_101 : decode cX3_handOn 101 = .ok (.ifCond .ne 43, 3) := by decide +kernel
theorem dX3_handOn_104 : decode cX3_handOn 104 = .ok (.aload_n 0, 1) := by decide +kernel
theorem dX3_handOn_105 : decode cX3_handOn 105 = .ok (.iload_n 1, 1) := by decide +kernel
theorem dX3_handOn_106 : decode cX3_handOn 106 = .ok (.aload_n 0, 1) := by decide +kernel
theorem dX3_handOn_107 : decode cX3_handOn 107 = .ok (.getfield 40, 3) := by decide +kernel
theorem dX3_handOn_110 : decode cX3_handOn 110 = .ok (.getfield 117, 3) := by decide +kernel
theorem dX3_handOn_113 : decode cX3_handOn 113 = .ok (.iload_n 2, 1) := by decide +kernel
theorem dX3_handOn_114 : decode cX3_handOn 114 = .ok (.iaload, 1) := by decide +kernel
theorem dX3_handOn_115 : decode cX3_handOn 115 = .ok (.iload 5, 2) := by decide +kernel
theorem dX3_handOn_117 : decode cX3_handOn 117 = .ok (.iload_n 3, 1) := by decide +kernel
theorem dX3_handOn_118 : decode cX3_handOn 118 = .ok (.invokevirtual 100, 3) := by decide +kernel
theorem dX3_handOn_121 : decode cX3_handOn 121 = .ok (.ifCond .eq 23, 3) := by decide +kernel
theorem dX3_handOn_124 : decode cX3_handOn 124 = .ok (.aload_n 0, 1) := by decide +kernel
theorem dX3_handOn_125 : decode cX3_handOn 125 = .ok (.dup, 1) := by decide +kernel
theorem dX3_handOn_126 : decode cX3_handOn 126 = .ok (.getfield 34, 3) := by decide +kernel
theorem dX3_handOn_129 : decode cX3_handOn 129 = .ok (.iconst 1, 1) := by decide +kernel
theorem dX3_handOn_130 : decode cX3_handOn 130 = .ok (.aload_n 0, 1) := by decide +kernel
theorem dX3_handOn_131 : decode cX3_handOn 131 = .ok (.getfield 40, 3) := by decide +kernel
theorem dX3_handOn_134 : decode cX3_handOn 134 = .ok (.getfield 106, 3) := by decide +kernel
theorem dX3_handOn_137 : decode cX3_handOn 137 = .ok (.iload_n 2, 1) := by decide +kernel
theorem dX3_handOn_138 : decode cX3_handOn 138 = .ok (.iaload, 1) := by decide +kernel
theorem dX3_handOn_139 : decode cX3_handOn 139 = .ok (.ishl, 1) := by decide +kernel
theorem dX3_handOn_140 : decode cX3_handOn 140 = .ok (.ior, 1) := by decide +kernel
theorem dX3_handOn_141 : decode cX3_handOn 141 = .ok (.putfield 34, 3) := by decide +kernel
theorem dX3_handOn_144 : decode cX3_handOn 144 = .ok (.return_, 1) := by decide +kernel
theorem dX3_isHeld_0 : decode cX3_isHeld 0 = .ok (.iload_n 2, 1) := by decide +kernel
theorem dX3_isHeld_1 : decode cX3_isHeld 1 = .ok (.aload_n 0, 1) := by decide +kernel
theorem dX3_isHeld_2 : decode cX3_isHeld 2 = .ok (.getfield 15, 3) := by decide +kernel
theorem dX3_isHeld_5 : decode cX3_isHeld 5 = .ok (.iload_n 1, 1) := by decide +kernel
theorem dX3_isHeld_6 : decode cX3_isHeld 6 = .ok (.iaload, 1) := by decide +kernel
theorem dX3_isHeld_7 : decode cX3_isHeld 7 = .ok (.if_icmp .eq 14, 3) := by decide +kernel
theorem dX3_isHeld_10 : decode cX3_isHeld 10 = .ok (.aload_n 0, 1) := by decide +kernel
theorem dX3_isHeld_11 : decode cX3_isHeld 11 = .ok (.getfield 34, 3) := by decide +kernel
theorem dX3_isHeld_14 : decode cX3_isHeld 14 = .ok (.iload_n 2, 1) := by decide +kernel
theorem dX3_isHeld_15 : decode cX3_isHeld 15 = .ok (.invokestatic 120, 3) := by decide +kernel
theorem dX3_isHeld_18 : decode cX3_isHeld 18 = .ok (.ifCond .eq 5, 3) := by decide +kernel
theorem dX3_isHeld_21 : decode cX3_isHeld 21 = .ok (.iconst 1, 1) := by decide +kernel
theorem dX3_isHeld_22 : decode cX3_isHeld 22 = .ok (.ireturn, 1) := by decide +kernel
theorem dX3_isHeld_23 : decode cX3_isHeld 23 = .ok (.aload_n 0, 1) := by decide +kernel
theorem dX3_isHeld_24 : decode cX3_isHeld 24 = .ok (.getfield 31, 3) := by decide +kernel
theorem dX3_isHeld_27 : decode cX3_isHeld 27 = .ok (.iload_n 2, 1) := by decide +kernel
theorem dX3_isHeld_28 : decode cX3_isHeld 28 = .ok (.invokestatic 120, 3) := by decide +kernel
theorem dX3_isHeld_31 : decode cX3_isHeld 31 = .ok (.ifCond .ne 5, 3) := by decide +kernel
theorem dX3_isHeld_34 : decode cX3_isHeld 34 = .ok (.iconst 0, 1) := by decide +kernel
theorem dX3_isHeld_35 : decode cX3_isHeld 35 = .ok (.ireturn, 1) := by decide +kernel
theorem dX3_isHeld_36 : decode cX3_isHeld 36 = .ok (.aload_n 0, 1) := by decide +kernel
theorem dX3_isHeld_37 : decode cX3_isHeld 37 = .ok (.getfield 48, 3) := by decide +kernel
theorem dX3_isHeld_40 : decode cX3_isHeld 40 = .ok (.iload_n 1, 1) := by decide +kernel
theorem dX3_isHeld_41 : decode cX3_isHeld 41 = .ok (.iload_n 2, 1) := by decide +kernel
theorem dX3_isHeld_42 : decode cX3_isHeld 42 = .ok (.iconst 0, 1) := by decide +kernel
theorem dX3_isHeld_43 : decode cX3_isHeld 43 = .ok (.iload_n 3, 1) := by decide +kernel
theorem dX3_isHeld_44 : decode cX3_isHeld 44 = .ok (.iload 4, 2) := by decide +kernel
theorem dX3_isHeld_46 : decode cX3_isHeld 46 = .ok (.invokevirtual 123, 3) := by decide +kernel
theorem dX3_isHeld_49 : decode cX3_isHeld 49 = .ok (.istore 5, 2) := by decide +kernel
theorem dX3_isHeld_51 : decode cX3_isHeld 51 = .ok (.aload_n 0, 1) := by decide +kernel
theorem dX3_isHeld_52 : decode cX3_isHeld 52 = .ok (.getfield 44, 3) := by decide +kernel
theorem dX3_isHeld_55 : decode cX3_isHeld 55 = .ok (.getfield 112, 3) := by decide +kernel
theorem dX3_isHeld_58 : decode cX3_isHeld 58 = .ok (.iconst 0, 1) := by decide +kernel
theorem dX3_isHeld_59 : decode cX3_isHeld 59 = .ok (.iaload, 1) := by decide +kernel
theorem dX3_isHeld_60 : decode cX3_isHeld 60 = .ok (.ifCond .ne 14, 3) := by decide +kernel
theorem dX3_isHeld_63 : decode cX3_isHeld 63 = .ok (.iload 5, 2) := by decide +kernel
theorem dX3_isHeld_65 : decode cX3_isHeld 65 = .ok (.ifCond .eq 7, 3) := by decide +kernel
theorem dX3_isHeld_68 : decode cX3_isHeld 68 = .ok (.iconst 1, 1) := by decide +kernel
theorem dX3_isHeld_69 : decode cX3_isHeld 69 = .ok (.goto 4, 3) := by decide +kernel
theorem dX3_isHeld_72 : decode cX3_isHeld 72 = .ok (.iconst 0, 1) := by decide +kernel
theorem dX3_isHeld_73 : decode cX3_isHeld 73 = .ok (.ireturn, 1) := by decide +kernel
theorem dX3_isHeld_74 : decode cX3_isHeld 74 = .ok (.iload 5, 2) := by decide +kernel
theorem dX3_isHeld_76 : decode cX3_isHeld 76 = .ok (.iconst 1, 1) := by decide +kernel
theorem dX3_isHeld_77 : decode cX3_isHeld 77 = .ok (.if_icmp .eq 5, 3) := by decide +kernel
theorem dX3_isHeld_80 : decode cX3_isHeld 80 = .ok (.iconst 0, 1) := by decide +kernel
theorem dX3_isHeld_81 : decode cX3_isHeld 81 = .ok (.ireturn, 1) := by decide +kernel
theorem dX3_isHeld_82 : decode cX3_isHeld 82 = .ok (.aload_n 0, 1) := by decide +kernel
theorem dX3_isHeld_83 : decode cX3_isHeld 83 = .ok (.getfield 48, 3) := by decide +kernel
theorem dX3_isHeld_86 : decode cX3_isHeld 86 = .ok (.iload_n 1, 1) := by decide +kernel
theorem dX3_isHeld_87 : decode cX3_isHeld 87 = .ok (.iload_n 2, 1) := by decide +kernel
theorem dX3_isHeld_88 : decode cX3_isHeld 88 = .ok (.iload 4, 2) := by decide +kernel
theorem dX3_isHeld_90 : decode cX3_isHeld 90 = .ok (.invokevirtual 129, 3) := by decide +kernel
theorem dX3_isHeld_93 : decode cX3_isHeld 93 = .ok (.aload_n 0, 1) := by decide +kernel
theorem dX3_isHeld_94 : decode cX3_isHeld 94 = .ok (.getfield 40, 3) := by decide +kernel
theorem dX3_isHeld_97 : decode cX3_isHeld 97 = .ok (.getfield 132, 3) := by decide +kernel
theorem dX3_isHeld_100 : decode cX3_isHeld 100 = .ok (.iload_n 2, 1) := by decide +kernel
theorem dX3_isHeld_101 : decode cX3_isHeld 101 = .ok (.iaload, 1) := by decide +kernel
theorem dX3_isHeld_102 : decode cX3_isHeld 102 = .ok (.isub, 1) := by decide +kernel
theorem dX3_isHeld_103 : decode cX3_isHeld 103 = .ok (.aload_n 0, 1) := by decide +kernel
theorem dX3_isHeld_104 : decode cX3_isHeld 104 = .ok (.getfield 44, 3) := by decide +kernel
theorem dX3_isHeld_107 : decode cX3_isHeld 107 = .ok (.getfield 112, 3) := by decide +kernel
theorem dX3_isHeld_110 : decode cX3_isHeld 110 = .ok (.iconst 2, 1) := by decide +kernel
theorem dX3_isHeld_111 : decode cX3_isHeld 111 = .ok (.iaload, 1) := by decide +kernel
theorem dX3_isHeld_112 : decode cX3_isHeld 112 = .ok (.if_icmp .le 5, 3) := by decide +kernel
theorem dX3_isHeld_115 : decode cX3_isHeld 115 = .ok (.iconst 0, 1) := by decide +kernel
theorem dX3_isHeld_116 : decode cX3_isHeld 116 = .ok (.ireturn, 1) := by decide +kernel
theorem dX3_isHeld_117 : decode cX3_isHeld 117 = .ok (.aload_n 0, 1) := by decide +kernel
theorem dX3_isHeld_118 : decode cX3_isHeld 118 = .ok (.getfield 48, 3) := by decide +kernel
theorem dX3_isHeld_121 : decode cX3_isHeld 121 = .ok (.iload_n 1, 1) := by decide +kernel
theorem dX3_isHeld_122 : decode cX3_isHeld 122 = .ok (.iload_n 2, 1) := by decide +kernel
theorem dX3_isHeld_123 : decode cX3_isHeld 123 = .ok (.iconst 1, 1) := by decide +kernel
theorem dX3_isHeld_124 : decode cX3_isHeld 124 = .ok (.iload_n 3, 1) := by decide +kernel
theorem dX3_isHeld_125 : decode cX3_isHeld 125 = .ok (.iload 4, 2) := by decide +kernel
theorem dX3_isHeld_127 : decode cX3_isHeld 127 = .ok (.invokevirtual 123, 3) := by decide +kernel
theorem dX3_isHeld_130 : decode cX3_isHeld 130 = .ok (.istore 6, 2) := by decide +kernel
theorem dX3_isHeld_132 : decode cX3_isHeld 132 = .ok (.iload 6, 2) := by decide +kernel
theorem dX3_isHeld_134 : decode cX3_isHeld 134 = .ok (.iconst 1, 1) := by decide +kernel
theorem dX3_isHeld_135 : decode cX3_isHeld 135 = .ok (.if_icmp .eq 22, 3) := by decide +kernel
theorem dX3_isHeld_138 : decode cX3_isHeld 138 = .ok (.iload 6, 2) := by decide +kernel
theorem dX3_isHeld_140 : decode cX3_isHeld 140 = .ok (.iconst (-1), 1) := by decide +kernel
theorem dX3_isHeld_141 : decode cX3_isHeld 141 = .ok (.if_icmp .ne 20, 3) := by decide +kernel
theorem dX3_isHeld_144 : decode cX3_isHeld 144 = .ok (.aload_n 0, 1) := by decide +kernel
theorem dX3_isHeld_145 : decode cX3_isHeld 145 = .ok (.getfield 44, 3) := by decide +kernel
theorem dX3_isHeld_148 : decode cX3_isHeld 148 = .ok (.getfield 112, 3) := by decide +kernel
theorem dX3_isHeld_151 : decode cX3_isHeld 151 = .ok (.iconst 1, 1) := by decide +kernel
theorem dX3_isHeld_152 : decode cX3_isHeld 152 = .ok (.iaload, 1) := by decide +kernel
theorem dX3_isHeld_153 : decode cX3_isHeld 153 = .ok (.iconst 1, 1) := by decide +kernel
theorem dX3_isHeld_154 : decode cX3_isHeld 154 = .ok (.if_icmp .ne 7, 3) := by decide +kernel
theorem dX3_isHeld_157 : decode cX3_isHeld 157 = .ok (.iconst 1, 1) := by decide +kernel
theorem dX3_isHeld_158 : decode cX3_isHeld 158 = .ok (.goto 4, 3) := by decide +kernel
theorem dX3_isHeld_161 : decode cX3_isHeld 161 = .ok (.iconst 0, 1) := by decide +kernel
theorem dX3_isHeld_162 : decode cX3_isHeld 162 = .ok (.ireturn, 1) := by decide +kernel
theorem dX3_turnsOn_0 : decode cX3_turnsOn 0 = .ok (.iconst 0, 1) := by decide +kernel
theorem dX3_turnsOn_1 : decode cX3_turnsOn 1 = .ok (.istore_n 2, 1) := by decide +kernel
theorem dX3_turnsOn_2 : decode cX3_turnsOn 2 = .ok (.iconst 0, 1) := by decide +kernel
theorem dX3_turnsOn_3 : decode cX3_turnsOn 3 = .ok (.istore_n 3, 1) := by decide +kernel
theorem dX3_turnsOn_4 : decode cX3_turnsOn 4 = .ok (.iload_n 3, 1) := by decide +kernel
theorem dX3_turnsOn_5 : decode cX3_turnsOn 5 = .ok (.aload_n 0, 1) := by decide +kernel
theorem dX3_turnsOn_6 : decode cX3_turnsOn 6 = .ok (.getfield 24, 3) := by decide +kernel
theorem dX3_turnsOn_9 : decode cX3_turnsOn 9 = .ok (.if_icmp .ge 32, 3) := by decide +kernel
theorem dX3_turnsOn_12 : decode cX3_turnsOn 12 = .ok (.iload_n 2, 1) := by decide +kernel
theorem dX3_turnsOn_13 : decode cX3_turnsOn 13 = .ok (.aload_n 0, 1) := by decide +kernel
theorem dX3_turnsOn_14 : decode cX3_turnsOn 14 = .ok (.iload_n 3, 1) := by decide +kernel
theorem dX3_turnsOn_15 : decode cX3_turnsOn 15 = .ok (.iload_n 1, 1) := by decide +kernel
theorem dX3_turnsOn_16 : decode cX3_turnsOn 16 = .ok (.iconst 0, 1) := by decide +kernel
theorem dX3_turnsOn_17 : decode cX3_turnsOn 17 = .ok (.invokevirtual 135, 3) := by decide +kernel
theorem dX3_turnsOn_20 : decode cX3_turnsOn 20 = .ok (.aload_n 0, 1) := by decide +kernel
theorem dX3_turnsOn_21 : decode cX3_turnsOn 21 = .ok (.iload_n 3, 1) := by decide +kernel
theorem dX3_turnsOn_22 : decode cX3_turnsOn 22 = .ok (.iload_n 1, 1) := by decide +kernel
theorem dX3_turnsOn_23 : decode cX3_turnsOn 23 = .ok (.iconst 1, 1) := by decide +kernel
theorem dX3_turnsOn_24 : decode cX3_turnsOn 24 = .ok (.isub, 1) := by decide +kernel
theorem dX3_turnsOn_25 : decode cX3_turnsOn 25 = .ok (.iconst 0, 1) := by decide +kernel
theorem dX3_turnsOn_26 : decode cX3_turnsOn 26 = .ok (.invokevirtual 135, 3) := by decide +kernel
theorem dX3_turnsOn_29 : decode cX3_turnsOn 29 = .ok (.ixor, 1) := by decide +kernel
theorem dX3_turnsOn_30 : decode cX3_turnsOn 30 = .ok (.invokestatic 138, 3) := by decide +kernel
theorem dX3_turnsOn_33 : decode cX3_turnsOn 33 = .ok (.iadd, 1) := by decide +kernel
theorem dX3_turnsOn_34 : decode cX3_turnsOn 34 = .ok (.istore_n 2, 1) := by decide +kernel
theorem dX3_turnsOn_35 : decode cX3_turnsOn 35 = .ok (.iinc 3 1, 3) := by decide +kernel
theorem dX3_turnsOn_38 : decode cX3_turnsOn 38 = .ok (.goto (-34), 3) := by decide +kernel
theorem dX3_turnsOn_41 : decode cX3_turnsOn 41 = .ok (.iload_n 2, 1) := by decide +kernel
theorem dX3_turnsOn_42 : decode cX3_turnsOn 42 = .ok (.ireturn, 1) := by decide +kernel
theorem dX3_dayOfMostTurns_0 : decode cX3_dayOfMostTurns 0 = .ok (.iconst 0, 1) := by decide +kernel
theorem dX3_dayOfMostTurns_1 : decode cX3_dayOfMostTurns 1 = .ok (.istore_n 3, 1) := by decide +kernel
theorem dX3_dayOfMostTurns_2 : decode cX3_dayOfMostTurns 2 = .ok (.iload_n 3, 1) := by decide +kernel
theorem dX3_dayOfMostTurns_3 : decode cX3_dayOfMostTurns 3 = .ok (.aload_n 0, 1) := by decide +kernel
theorem dX3_dayOfMostTurns_4 : decode cX3_dayOfMostTurns 4 = .ok (.getfield 24, 3) := by decide +kernel
theorem dX3_dayOfMostTurns_7 : decode cX3_dayOfMostTurns 7 = .ok (.if_icmp .ge 22, 3) := by decide +kernel
theorem dX3_dayOfMostTurns_10 : decode cX3_dayOfMostTurns 10 = .ok (.aload_n 0, 1) := by decide +kernel
theorem dX3_dayOfMostTurns_11 : decode cX3_dayOfMostTurns 11 = .ok (.getfield 37, 3) := by decide +kernel
theorem dX3_dayOfMostTurns_14 : decode cX3_dayOfMostTurns 14 = .ok (.iload_n 3, 1) := by decide +kernel
theorem dX3_dayOfMostTurns_15 : decode cX3_dayOfMostTurns 15 = .ok (.aload_n 0, 1) := by decide +kernel
theorem dX3_dayOfMostTurns_16 : decode cX3_dayOfMostTurns 16 = .ok (.iload_n 3, 1) := by decide +kernel
theorem dX3_dayOfMostTurns_17 : decode cX3_dayOfMostTurns 17 = .ok (.iconst 0, 1) := by decide +kernel
theorem dX3_dayOfMostTurns_18 : decode cX3_dayOfMostTurns 18 = .ok (.iconst 0, 1) := by decide +kernel
theorem dX3_dayOfMostTurns_19 : decode cX3_dayOfMostTurns 19 = .ok (.invokevirtual 135, 3) := by decide +kernel
theorem dX3_dayOfMostTurns_22 : decode cX3_dayOfMostTurns 22 = .ok (.iastore, 1) := by decide +kernel
theorem dX3_dayOfMostTurns_23 : decode cX3_dayOfMostTurns 23 = .ok (.iinc 3 1, 3) := by decide +kernel
theorem dX3_dayOfMostTurns_26 : decode cX3_dayOfMostTurns 26 = .ok (.goto (-24), 3) := by decide +kernel
theorem dX3_dayOfMostTurns_29 : decode cX3_dayOfMostTurns 29 = .ok (.iconst 1, 1) := by decide +kernel
theorem dX3_dayOfMostTurns_30 : decode cX3_dayOfMostTurns 30 = .ok (.istore_n 3, 1) := by decide +kernel
theorem dX3_dayOfMostTurns_31 : decode cX3_dayOfMostTurns 31 = .ok (.iconst 0, 1) := by decide +kernel
theorem dX3_dayOfMostTurns_32 : decode cX3_dayOfMostTurns 32 = .ok (.istore 4, 2) := by decide +kernel
theorem dX3_dayOfMostTurns_34 : decode cX3_dayOfMostTurns 34 = .ok (.iconst 1, 1) := by decide +kernel
theorem dX3_dayOfMostTurns_35 : decode cX3_dayOfMostTurns 35 = .ok (.istore 5, 2) := by decide +kernel
theorem dX3_dayOfMostTurns_37 : decode cX3_dayOfMostTurns 37 = .ok (.iload 5, 2) := by decide +kernel
theorem dX3_dayOfMostTurns_39 : decode cX3_dayOfMostTurns 39 = .ok (.iload_n 1, 1) := by decide +kernel
theorem dX3_dayOfMostTurns_40 : decode cX3_dayOfMostTurns 40 = .ok (.if_icmp .gt 43, 3) := by decide +kernel
theorem dX3_dayOfMostTurns_43 : decode cX3_dayOfMostTurns 43 = .ok (.aload_n 2, 1) := by decide +kernel
theorem dX3_dayOfMostTurns_44 : decode cX3_dayOfMostTurns 44 = .ok (.iload 5, 2) := by decide +kernel
theorem dX3_dayOfMostTurns_46 : decode cX3_dayOfMostTurns 46 = .ok (.invokevirtual 143, 3) := by decide +kernel
theorem dX3_dayOfMostTurns_49 : decode cX3_dayOfMostTurns 49 = .ok (.ifCond .ne 6, 3) := by decide +kernel
theorem dX3_dayOfMostTurns_52 : decode cX3_dayOfMostTurns 52 = .ok (.goto 25, 3) := by decide +kernel
theorem dX3_dayOfMostTurns_55 : decode cX3_dayOfMostTurns 55 = .ok (.aload_n 0, 1) := by decide +kernel
theorem dX3_dayOfMostTurns_56 : decode cX3_dayOfMostTurns 56 = .ok (.iload 5, 2) := by decide +kernel
theorem dX3_dayOfMostTurns_58 : decode cX3_dayOfMostTurns 58 = .ok (.invokevirtual 149, 3) := by decide +kernel
theorem dX3_dayOfMostTurns_61 : decode cX3_dayOfMostTurns 61 = .ok (.istore 6, 2) := by decide +kernel
theorem dX3_dayOfMostTurns_63 : decode cX3_dayOfMostTurns 63 = .ok (.iload 6, 2) := by decide +kernel
theorem dX3_dayOfMostTurns_65 : decode cX3_dayOfMostTurns 65 = .ok (.iload 4, 2) := by decide +kernel
theorem dX3_dayOfMostTurns_67 : decode cX3_dayOfMostTurns 67 = .ok (.if_icmp .le 10, 3) := by decide +kernel
theorem dX3_dayOfMostTurns_70 : decode cX3_dayOfMostTurns 70 = .ok (.iload 6, 2) := by decide +kernel
theorem dX3_dayOfMostTurns_72 : decode cX3_dayOfMostTurns 72 = .ok (.istore 4, 2) := by decide +kernel
theorem dX3_dayOfMostTurns_74 : decode cX3_dayOfMostTurns 74 = .ok (.iload 5, 2) := by decide +kernel
theorem dX3_dayOfMostTurns_76 : decode cX3_dayOfMostTurns 76 = .ok (.istore_n 3, 1) := by decide +kernel
theorem dX3_dayOfMostTurns_77 : decode cX3_dayOfMostTurns 77 = .ok (.iinc 5 1, 3) := by decide +kernel
theorem dX3_dayOfMostTurns_80 : decode cX3_dayOfMostTurns 80 = .ok (.goto (-43), 3) := by decide +kernel
theorem dX3_dayOfMostTurns_83 : decode cX3_dayOfMostTurns 83 = .ok (.iload_n 3, 1) := by decide +kernel
theorem dX3_dayOfMostTurns_84 : decode cX3_dayOfMostTurns 84 = .ok (.ireturn, 1) := by decide +kernel
theorem dX3_turnsSinceAhead_0 : decode cX3_turnsSinceAhead 0 = .ok (.iconst 0, 1) := by decide +kernel
theorem dX3_turnsSinceAhead_1 : decode cX3_turnsSinceAhead 1 = .ok (.istore_n 2, 1) := by decide +kernel
theorem dX3_turnsSinceAhead_2 : decode cX3_turnsSinceAhead 2 = .ok (.iconst 0, 1) := by decide +kernel
theorem dX3_turnsSinceAhead_3 : decode cX3_turnsSinceAhead 3 = .ok (.istore_n 3, 1) := by decide +kernel
theorem dX3_turnsSinceAhead_4 : decode cX3_turnsSinceAhead 4 = .ok (.iload_n 3, 1) := by decide +kernel
theorem dX3_turnsSinceAhead_5 : decode cX3_turnsSinceAhead 5 = .ok (.aload_n 0, 1) := by decide +kernel
theorem dX3_turnsSinceAhead_6 : decode cX3_turnsSinceAhead 6 = .ok (.getfield 24, 3) := by decide +kernel
theorem dX3_turnsSinceAhead_9 : decode cX3_turnsSinceAhead 9 = .ok (.if_icmp .ge 41, 3) := by decide +kernel
theorem dX3_turnsSinceAhead_12 : decode cX3_turnsSinceAhead 12 = .ok (.aload_n 0, 1) := by decide +kernel
theorem dX3_turnsSinceAhead_13 : decode cX3_turnsSinceAhead 13 = .ok (.iload_n 3, 1) := by decide +kernel
theorem dX3_turnsSinceAhead_14 : decode cX3_turnsSinceAhead 14 = .ok (.iload_n 1, 1) := by decide +kernel
theorem dX3_turnsSinceAhead_15 : decode cX3_turnsSinceAhead 15 = .ok (.iconst 0, 1) := by decide +kernel
theorem dX3_turnsSinceAhead_16 : decode cX3_turnsSinceAhead 16 = .ok (.invokevirtual 135, 3) := by decide +kernel
theorem dX3_turnsSinceAhead_19 : decode cX3_turnsSinceAhead 19 = .ok (.istore 4, 2) := by decide +kernel
theorem dX3_turnsSinceAhead_21 : decode cX3_turnsSinceAhead 21 = .ok (.iload_n 2, 1) := by decide +kernel
theorem dX3_turnsSinceAhead_22 : decode cX3_turnsSinceAhead 22 = .ok (.iload 4, 2) := by decide +kernel
theorem dX3_turnsSinceAhead_24 : decode cX3_turnsSinceAhead 24 = .ok (.aload_n 0, 1) := by decide +kernel
theorem dX3_turnsSinceAhead_25 : decode cX3_turnsSinceAhead 25 = .ok (.getfield 37, 3) := by decide +kernel
theorem dX3_turnsSinceAhead_28 : decode cX3_turnsSinceAhead 28 = .ok (.iload_n 3, 1) := by decide +kernel
theorem dX3_turnsSinceAhead_29 : decode cX3_turnsSinceAhead 29 = .ok (.iaload, 1) := by decide +kernel
theorem dX3_turnsSinceAhead_30 : decode cX3_turnsSinceAhead 30 = .ok (.ixor, 1) := by decide +kernel
theorem dX3_turnsSinceAhead_31 : decode cX3_turnsSinceAhead 31 = .ok (.invokestatic 138, 3) := by decide +kernel
theorem dX3_turnsSinceAhead_34 : decode cX3_turnsSinceAhead 34 = .ok (.iadd, 1) := by decide +kernel
theorem dX3_turnsSinceAhead_35 : decode cX3_turnsSinceAhead 35 = .ok (.istore_n 2, 1) := by decide +kernel
theorem dX3_turnsSinceAhead_36 : decode cX3_turnsSinceAhead 36 = .ok (.aload_n 0, 1) := by decide +kernel
theorem dX3_turnsSinceAhead_37 : decode cX3_turnsSinceAhead 37 = .ok (.getfield 37, 3) := by decide +kernel
theorem dX3_turnsSinceAhead_40 : decode cX3_turnsSinceAhead 40 = .ok (.iload_n 3, 1) := by decide +kernel
theorem dX3_turnsSinceAhead_41 : decode cX3_turnsSinceAhead 41 = .ok (.iload 4, 2) := by decide +kernel
theorem dX3_turnsSinceAhead_43 : decode cX3_turnsSinceAhead 43 = .ok (.iastore, 1) := by decide +kernel
theorem dX3_turnsSinceAhead_44 : decode cX3_turnsSinceAhead 44 = .ok (.iinc 3 1, 3) := by decide +kernel
theorem dX3_turnsSinceAhead_47 : decode cX3_turnsSinceAhead 47 = .ok (.goto (-43), 3) := by decide +kernel
theorem dX3_turnsSinceAhead_50 : decode cX3_turnsSinceAhead 50 = .ok (.iload_n 2, 1) := by decide +kernel
theorem dX3_turnsSinceAhead_51 : decode cX3_turnsSinceAhead 51 = .ok (.ireturn, 1) := by decide +kernel
theorem dX3_fewestLeftOut_0 : decode cX3_fewestLeftOut 0 = .ok (.aload_n 0, 1) := by decide +kernel
theorem dX3_fewestLeftOut_1 : decode cX3_fewestLeftOut 1 = .ok (.getfield 48, 3) := by decide +kernel
theorem dX3_fewestLeftOut_4 : decode cX3_fewestLeftOut 4 = .ok (.iload_n 1, 1) := by decide +kernel
theorem dX3_fewestLeftOut_5 : decode cX3_fewestLeftOut 5 = .ok (.invokevirtual 152, 3) := by decide +kernel
theorem dX3_fewestLeftOut_8 : decode cX3_fewestLeftOut 8 = .ok (.istore 5, 2) := by decide +kernel
theorem dX3_fewestLeftOut_10 : decode cX3_fewestLeftOut 10 = .ok (.iconst (-1), 1) := by decide +kernel
theorem dX3_fewestLeftOut_11 : decode cX3_fewestLeftOut 11 = .ok (.istore 6, 2) := by decide +kernel
theorem dX3_fewestLeftOut_13 : decode cX3_fewestLeftOut 13 = .ok (.iconst 0, 1) := by decide +kernel
theorem dX3_fewestLeftOut_14 : decode cX3_fewestLeftOut 14 = .ok (.istore 7, 2) := by decide +kernel
theorem dX3_fewestLeftOut_16 : decode cX3_fewestLeftOut 16 = .ok (.iload 7, 2) := by decide +kernel
theorem dX3_fewestLeftOut_18 : decode cX3_fewestLeftOut 18 = .ok (.sipush 1024, 3) := by decide +kernel
theorem dX3_fewestLeftOut_21 : decode cX3_fewestLeftOut 21 = .ok (.if_icmp .ge 64, 3) := by decide +kernel
theorem dX3_fewestLeftOut_24 : decode cX3_fewestLeftOut 24 = .ok (.iload 7, 2) := by decide +kernel
theorem dX3_fewestLeftOut_26 : decode cX3_fewestLeftOut 26 = .ok (.iload 5, 2) := by decide +kernel
theorem dX3_fewestLeftOut_28 : decode cX3_fewestLeftOut 28 = .ok (.iconst (-1), 1) := by decide +kernel
theorem dX3_fewestLeftOut_29 : decode cX3_fewestLeftOut 29 = .ok (.ixor, 1) := by decide +kernel
theorem dX3_fewestLeftOut_30 : decode cX3_fewestLeftOut 30 = .ok (.iand, 1) := by decide +kernel
theorem dX3_fewestLeftOut_31 : decode cX3_fewestLeftOut 31 = .ok (.ifCond .eq 6, 3) := by decide +kernel
theorem dX3_fewestLeftOut_34 : decode cX3_fewestLeftOut 34 = .ok (.goto 45, 3) := by decide +kernel
theorem dX3_fewestLeftOut_37 : decode cX3_fewestLeftOut 37 = .ok (.iload 6, 2) := by decide +kernel
theorem dX3_fewestLeftOut_39 : decode cX3_fewestLeftOut 39 = .ok (.ifCond .lt 19, 3) := by decide +kernel
theorem dX3_fewestLeftOut_42 : decode cX3_fewestLeftOut 42 = .ok (.iload 7, 2) := by decide +kernel
theorem dX3_fewestLeftOut_44 : decode cX3_fewestLeftOut 44 = .ok (.invokestatic 138, 3) := by decide +kernel
theorem dX3_fewestLeftOut_47 : decode cX3_fewestLeftOut 47 = .ok (.iload 6, 2) := by decide +kernel
theorem dX3_fewestLeftOut_49 : decode cX3_fewestLeftOut 49 = .ok (.invokestatic 138, 3) := by decide +kernel
theorem dX3_fewestLeftOut_52 : decode cX3_fewestLeftOut 52 = .ok (.if_icmp .lt 6, 3) := by decide +kernel
theorem dX3_fewestLeftOut_55 : decode cX3_fewestLeftOut 55 = .ok (.goto 24, 3) := by decide +kernel
theorem dX3_fewestLeftOut_58 : decode cX3_fewestLeftOut 58 = .ok (.aload_n 0, 1) := by decide +kernel
theorem dX3_fewestLeftOut_59 : decode cX3_fewestLeftOut 59 = .ok (.iload_n 1, 1) := by decide +kernel
theorem dX3_fewestLeftOut_60 : decode cX3_fewestLeftOut 60 = .ok (.iload_n 3, 1) := by decide +kernel
theorem dX3_fewestLeftOut_61 : decode cX3_fewestLeftOut 61 = .ok (.iload 7, 2) := by decide +kernel
theorem dX3_fewestLeftOut_63 : decode cX3_fewestLeftOut 63 = .ok (.invokevirtual 135, 3) := by decide +kernel
theorem dX3_fewestLeftOut_66 : decode cX3_fewestLeftOut 66 = .ok (.iload_n 2, 1) := by decide +kernel
theorem dX3_fewestLeftOut_67 : decode cX3_fewestLeftOut 67 = .ok (.invokestatic 120, 3) := by decide +kernel
theorem dX3_fewestLeftOut_70 : decode cX3_fewestLeftOut 70 = .ok (.iload 4, 2) := by decide +kernel
theorem dX3_fewestLeftOut_72 : decode cX3_fewestLeftOut 72 = .ok (.if_icmp .ne 7, 3) := by decide +kernel
theorem dX3_fewestLeftOut_75 : decode cX3_fewestLeftOut 75 = .ok (.iload 7, 2) := by decide +kernel
theorem dX3_fewestLeftOut_77 : decode cX3_fewestLeftOut 77 = .ok (.istore 6, 2) := by decide +kernel
theorem dX3_fewestLeftOut_79 : decode cX3_fewestLeftOut 79 = .ok (.iinc 7 1, 3) := by decide +kernel
theorem dX3_fewestLeftOut_82 : decode cX3_fewestLeftOut 82 = .ok (.goto (-66), 3) := by decide +kernel
theorem dX3_fewestLeftOut_85 : decode cX3_fewestLeftOut 85 = .ok (.iload 6, 2) := by decide +kernel
theorem dX3_fewestLeftOut_87 : decode cX3_fewestLeftOut 87 = .ok (.ireturn, 1) := by decide +kernel
theorem dX4_knowsPensioner_0 : decode cX4_knowsPensioner 0 = .ok (.iload_n 1, 1) := by decide +kernel
theorem dX4_knowsPensioner_1 : decode cX4_knowsPensioner 1 = .ok (.ifCond .lt 15, 3) := by decide +kernel
theorem dX4_knowsPensioner_4 : decode cX4_knowsPensioner 4 = .ok (.iload_n 1, 1) := by decide +kernel
theorem dX4_knowsPensioner_5 : decode cX4_knowsPensioner 5 = .ok (.aload_n 0, 1) := by decide +kernel
theorem dX4_knowsPensioner_6 : decode cX4_knowsPensioner 6 = .ok (.getfield 21, 3) := by decide +kernel
theorem dX4_knowsPensioner_9 : decode cX4_knowsPensioner 9 = .ok (.if_icmp .ge 7, 3) := by decide +kernel
theorem dX4_knowsPensioner_12 : decode cX4_knowsPensioner 12 = .ok (.iconst 1, 1) := by decide +kernel
theorem dX4_knowsPensioner_13 : decode cX4_knowsPensioner 13 = .ok (.goto 4, 3) := by decide +kernel
theorem dX4_knowsPensioner_16 : decode cX4_knowsPensioner 16 = .ok (.iconst 0, 1) := by decide +kernel
theorem dX4_knowsPensioner_17 : decode cX4_knowsPensioner 17 = .ok (.ireturn, 1) := by decide +kernel
theorem dX4_addPensioner_0 : decode cX4_addPensioner 0 = .ok (.aload_n 0, 1) := by decide +kernel
theorem dX4_addPensioner_1 : decode cX4_addPensioner 1 = .ok (.getfield 21, 3) := by decide +kernel
theorem dX4_addPensioner_4 : decode cX4_addPensioner 4 = .ok (.istore 4, 2) := by decide +kernel
theorem dX4_addPensioner_6 : decode cX4_addPensioner 6 = .ok (.aload_n 0, 1) := by decide +kernel
theorem dX4_addPensioner_7 : decode cX4_addPensioner 7 = .ok (.getfield 9, 3) := by decide +kernel
theorem dX4_addPensioner_10 : decode cX4_addPensioner 10 = .ok (.iload 4, 2) := by decide +kernel
theorem dX4_addPensioner_12 : decode cX4_addPensioner 12 = .ok (.iload_n 1, 1) := by decide +kernel
theorem dX4_addPensioner_13 : decode cX4_addPensioner 13 = .ok (.iastore, 1) := by decide +kernel
theorem dX4_addPensioner_14 : decode cX4_addPensioner 14 = .ok (.aload_n 0, 1) := by decide +kernel
theorem dX4_addPensioner_15 : decode cX4_addPensioner 15 = .ok (.getfield 15, 3) := by decide +kernel
theorem dX4_addPensioner_18 : decode cX4_addPensioner 18 = .ok (.iload 4, 2) := by decide +kernel
theorem dX4_addPensioner_20 : decode cX4_addPensioner 20 = .ok (.iload_n 2, 1) := by decide +kernel
theorem dX4_addPensioner_21 : decode cX4_addPensioner 21 = .ok (.iastore, 1) := by decide +kernel
theorem dX4_addPensioner_22 : decode cX4_addPensioner 22 = .ok (.aload_n 0, 1) := by decide +kernel
theorem dX4_addPensioner_23 : decode cX4_addPensioner 23 = .ok (.getfield 18, 3) := by decide +kernel
theorem dX4_addPensioner_26 : decode cX4_addPensioner 26 = .ok (.iload 4, 2) := by decide +kernel
theorem dX4_addPensioner_28 : decode cX4_addPensioner 28 = .ok (.iload_n 3, 1) := by decide +kernel
theorem dX4_addPensioner_29 : decode cX4_addPensioner 29 = .ok (.iastore, 1) := by decide +kernel
theorem dX4_addPensioner_30 : decode cX4_addPensioner 30 = .ok (.aload_n 0, 1) := by decide +kernel
theorem dX4_addPensioner_31 : decode cX4_addPensioner 31 = .ok (.dup, 1) := by decide +kernel
theorem dX4_addPensioner_32 : decode cX4_addPensioner 32 = .ok (.getfield 21, 3) := by decide +kernel
theorem dX4_addPensioner_35 : decode cX4_addPensioner 35 = .ok (.iconst 1, 1) := by decide +kernel
theorem dX4_addPensioner_36 : decode cX4_addPensioner 36 = .ok (.iadd, 1) := by decide +kernel
theorem dX4_addPensioner_37 : decode cX4_addPensioner 37 = .ok (.putfield 21, 3) := by decide +kernel
theorem dX4_addPensioner_40 : decode cX4_addPensioner 40 = .ok (.iload 4, 2) := by decide +kernel
theorem dX4_addPensioner_42 : decode cX4_addPensioner 42 = .ok (.ireturn, 1) := by decide +kernel
theorem dX5_append_0 : decode cX5_append 0 = .ok (.iconst 0, 1) := by decide +kernel
theorem dX5_append_1 : decode cX5_append 1 = .ok (.istore 4, 2) := by decide +kernel
theorem dX5_append_3 : decode cX5_append 3 = .ok (.iload 4, 2) := by decide +kernel
theorem dX5_append_5 : decode cX5_append 5 = .ok (.iload_n 3, 1) := by decide +kernel
theorem dX5_append_6 : decode cX5_append 6 = .ok (.if_icmp .ge 33, 3) := by decide +kernel
theorem dX5_append_9 : decode cX5_append 9 = .ok (.aload_n 0, 1) := by decide +kernel
theorem dX5_append_10 : decode cX5_append 10 = .ok (.getfield 9, 3) := by decide +kernel
theorem dX5_append_13 : decode cX5_append 13 = .ok (.aload_n 0, 1) := by decide +kernel
theorem dX5_append_14 : decode cX5_append 14 = .ok (.getfield 15, 3) := by decide +kernel
theorem dX5_append_17 : decode cX5_append 17 = .ok (.iload 4, 2) := by decide +kernel
theorem dX5_append_19 : decode cX5_append 19 = .ok (.iadd, 1) := by decide +kernel
theorem dX5_append_20 : decode cX5_append 20 = .ok (.lload_n 1, 1) := by decide +kernel
theorem dX5_append_21 : decode cX5_append 21 = .ok (.bipush 8, 2) := by decide +kernel
theorem dX5_append_23 : decode cX5_append 23 = .ok (.iload 4, 2) := by decide +kernel
theorem dX5_append_25 : decode cX5_append 25 = .ok (.imul, 1) := by decide +kernel
theorem dX5_append_26 : decode cX5_append 26 = .ok (.lshr, 1) := by decide +kernel
theorem dX5_append_27 : decode cX5_append 27 = .ok (.l2i, 1) := by decide +kernel
theorem dX5_append_28 : decode cX5_append 28 = .ok (.sipush 255, 3) := by decide +kernel
theorem dX5_append_31 : decode cX5_append 31 = .ok (.iand, 1) := by decide +kernel
theorem dX5_append_32 : decode cX5_append 32 = .ok (.iastore, 1) := by decide +kernel
theorem dX5_append_33 : decode cX5_append 33 = .ok (.iinc 4 1, 3) := by decide +kernel
theorem dX5_append_36 : decode cX5_append 36 = .ok (.goto (-33), 3) := by decide +kernel
theorem dX5_append_39 : decode cX5_append 39 = .ok (.aload_n 0, 1) := by decide +kernel
theorem dX5_append_40 : decode cX5_append 40 = .ok (.dup, 1) := by decide +kernel
theorem dX5_append_41 : decode cX5_append 41 = .ok (.getfield 15, 3) := by decide +kernel
theorem dX5_append_44 : decode cX5_append 44 = .ok (.iload_n 3, 1) := by decide +kernel
theorem dX5_append_45 : decode cX5_append 45 = .ok (.iadd, 1) := by decide +kernel
theorem dX5_append_46 : decode cX5_append 46 = .ok (.putfield 15, 3) := by decide +kernel
theorem dX5_append_49 : decode cX5_append 49 = .ok (.aload_n 0, 1) := by decide +kernel
theorem dX5_append_50 : decode cX5_append 50 = .ok (.getfield 15, 3) := by decide +kernel
theorem dX5_append_53 : decode cX5_append 53 = .ok (.ireturn, 1) := by decide +kernel
theorem dX5_empty_0 : decode cX5_empty 0 = .ok (.aload_n 0, 1) := by decide +kernel
theorem dX5_empty_1 : decode cX5_empty 1 = .ok (.getfield 15, 3) := by decide +kernel
theorem dX5_empty_4 : decode cX5_empty 4 = .ok (.istore_n 1, 1) := by decide +kernel
theorem dX5_empty_5 : decode cX5_empty 5 = .ok (.aload_n 0, 1) := by decide +kernel
theorem dX5_empty_6 : decode cX5_empty 6 = .ok (.iconst 0, 1) := by decide +kernel
theorem dX5_empty_7 : decode cX5_empty 7 = .ok (.putfield 15, 3) := by decide +kernel
theorem dX5_empty_10 : decode cX5_empty 10 = .ok (.iload_n 1, 1) := by decide +kernel
theorem dX5_empty_11 : decode cX5_empty 11 = .ok (.ireturn, 1) := by decide +kernel
theorem dX5_takeAsRules_0 : decode cX5_takeAsRules 0 = .ok (.aload_n 0, 1) := by decide +kernel
theorem dX5_takeAsRules_1 : decode cX5_takeAsRules 1 = .ok (.getfield 31, 3) := by decide +kernel
theorem dX5_takeAsRules_4 : decode cX5_takeAsRules 4 = .ok (.iconst 0, 1) := by decide +kernel
theorem dX5_takeAsRules_5 : decode cX5_takeAsRules 5 = .ok (.aload_n 0, 1) := by decide +kernel
theorem dX5_takeAsRules_6 : decode cX5_takeAsRules 6 = .ok (.getfield 19, 3) := by decide +kernel
theorem dX5_takeAsRules_9 : decode cX5_takeAsRules 9 = .ok (.iconst 0, 1) := by decide +kernel
theorem dX5_takeAsRules_10 : decode cX5_takeAsRules 10 = .ok (.iconst 5, 1) := by decide +kernel
theorem dX5_takeAsRules_11 : decode cX5_takeAsRules 11 = .ok (.invokestatic 34, 3) := by decide +kernel
theorem dX5_takeAsRules_14 : decode cX5_takeAsRules 14 = .ok (.aload_n 0, 1) := by decide +kernel
theorem dX5_takeAsRules_15 : decode cX5_takeAsRules 15 = .ok (.invokevirtual 40, 3) := by decide +kernel
theorem dX5_takeAsRules_18 : decode cX5_takeAsRules 18 = .ok (.pop, 1) := by decide +kernel
theorem dX5_takeAsRules_19 : decode cX5_takeAsRules 19 = .ok (.aload_n 0, 1) := by decide +kernel
theorem dX5_takeAsRules_20 : decode cX5_takeAsRules 20 = .ok (.getfield 28, 3) := by decide +kernel
theorem dX5_takeAsRules_23 : decode cX5_takeAsRules 23 = .ok (.ireturn, 1) := by decide +kernel
theorem dX5_firstFault_0 : decode cX5_firstFault 0 = .ok (.aload_n 0, 1) := by decide +kernel
theorem dX5_firstFault_1 : decode cX5_firstFault 1 = .ok (.getfield 31, 3) := by decide +kernel
theorem dX5_firstFault_4 : decode cX5_firstFault 4 = .ok (.iconst 0, 1) := by decide +kernel
theorem dX5_firstFault_5 : decode cX5_firstFault 5 = .ok (.invokestatic 44, 3) := by decide +kernel
theorem dX5_firstFault_8 : decode cX5_firstFault 8 = .ok (.aload_n 0, 1) := by decide +kernel
theorem dX5_firstFault_9 : decode cX5_firstFault 9 = .ok (.getfield 31, 3) := by decide +kernel
theorem dX5_firstFault_12 : decode cX5_firstFault 12 = .ok (.iconst 2, 1) := by decide +kernel
theorem dX5_firstFault_13 : decode cX5_firstFault 13 = .ok (.bipush 100, 2) := by decide +kernel
theorem dX5_firstFault_15 : decode cX5_firstFault 15 = .ok (.iastore, 1) := by decide +kernel
theorem dX5_firstFault_16 : decode cX5_firstFault 16 = .ok (.aload_n 0, 1) := by decide +kernel
theorem dX5_firstFault_17 : decode cX5_firstFault 17 = .ok (.iconst 0, 1) := by decide +kernel
theorem dX5_firstFault_18 : decode cX5_firstFault 18 = .ok (.putfield 25, 3) := by decide +kernel
theorem dX5_firstFault_21 : decode cX5_firstFault 21 = .ok (.iconst 1, 1) := by decide +kernel
theorem dX5_firstFault_22 : decode cX5_firstFault 22 = .ok (.istore_n 1, 1) := by decide +kernel
theorem dX5_firstFault_23 : decode cX5_firstFault 23 = .ok (.iload_n 1, 1) := by decide +kernel
theorem dX5_firstFault_24 : decode cX5_firstFault 24 = .ok (.bipush 8, 2) := by decide +kernel
theorem dX5_firstFault_26 : decode cX5_firstFault 26 = .ok (.if_icmp .gt 62, 3) := by decide +kernel
theorem dX5_firstFault_29 : decode cX5_firstFault 29 = .ok (.aload_n 0, 1) := by decide +kernel
theorem dX5_firstFault_30 : decode cX5_firstFault 30 = .ok (.invokevirtual 50, 3) := by decide +kernel
theorem dX5_firstFault_33 : decode cX5_firstFault 33 = .ok (.ifCond .ne 8, 3) := by decide +kernel
theorem dX5_firstFault_36 : decode cX5_firstFault 36 = .ok (.aload_n 0, 1) := by decide +kernel
theorem dX5_firstFault_37 : decode cX5_firstFault 37 = .ok (.getfield 22, 3) := by decide +kernel
theorem dX5_firstFault_40 : decode cX5_firstFault 40 = .ok (.ireturn, 1) := by decide +kernel
theorem dX5_firstFault_41 : decode cX5_firstFault 41 = .ok (.aload_n 0, 1) := by decide +kernel
theorem dX5_firstFault_42 : decode cX5_firstFault 42 = .ok (.iload_n 1, 1) := by decide +kernel
theorem dX5_firstFault_43 : decode cX5_firstFault 43 = .ok (.putfield 28, 3) := by decide +kernel
theorem dX5_firstFault_46 : decode cX5_firstFault 46 = .ok (.aload_n 0, 1) := by decide +kernel
theorem dX5_firstFault_47 : decode cX5_firstFault 47 = .ok (.invokevirtual 54, 3) := by decide +kernel
theorem dX5_firstFault_50 : decode cX5_firstFault 50 = .ok (.aload_n 0, 1) := by decide +kernel
theorem dX5_firstFault_51 : decode cX5_firstFault 51 = .ok (.getfield 22, 3) := by decide +kernel
theorem dX5_firstFault_54 : decode cX5_firstFault 54 = .ok (.aload_n 0, 1) := by decide +kernel
theorem dX5_firstFault_55 : decode cX5_firstFault 55 = .ok (.getfield 15, 3) := by decide +kernel
theorem dX5_firstFault_58 : decode cX5_firstFault 58 = .ok (.if_icmp .lt 5, 3) := by decide +kernel
theorem dX5_firstFault_61 : decode cX5_firstFault 61 = .ok (.iconst (-1), 1) := by decide +kernel
theorem dX5_firstFault_62 : decode cX5_firstFault 62 = .ok (.ireturn, 1) := by decide +kernel
theorem dX5_firstFault_63 : decode cX5_firstFault 63 = .ok (.aload_n 0, 1) := by decide +kernel
theorem dX5_firstFault_64 : decode cX5_firstFault 64 = .ok (.getfield 9, 3) := by decide +kernel
theorem dX5_firstFault_67 : decode cX5_firstFault 67 = .ok (.aload_n 0, 1) := by decide +kernel
theorem dX5_firstFault_68 : decode cX5_firstFault 68 = .ok (.getfield 22, 3) := by decide +kernel
theorem dX5_firstFault_71 : decode cX5_firstFault 71 = .ok (.iaload, 1) := by decide +kernel
theorem dX5_firstFault_72 : decode cX5_firstFault 72 = .ok (.bipush 59, 2) := by decide +kernel
theorem dX5_firstFault_74 : decode cX5_firstFault 74 = .ok (.if_icmp .eq 8, 3) := by decide +kernel
theorem dX5_firstFault_77 : decode cX5_firstFault 77 = .ok (.aload_n 0, 1) := by decide +kernel
theorem dX5_firstFault_78 : decode cX5_firstFault 78 = .ok (.getfield 22, 3) := by decide +kernel
theorem dX5_firstFault_81 : decode cX5_firstFault 81 = .ok (.ireturn, 1) := by decide +kernel
theorem dX5_firstFault_82 : decode cX5_firstFault 82 = .ok (.iinc 1 1, 3) := by decide +kernel
theorem dX5_firstFault_85 : decode cX5_firstFault 85 = .ok (.goto (-62), 3) := by decide +kernel
theorem dX5_firstFault_88 : decode cX5_firstFault 88 = .ok (.aload_n 0, 1) := by decide +kernel
theorem dX5_firstFault_89 : decode cX5_firstFault 89 = .ok (.getfield 22, 3) := by decide +kernel
theorem dX5_firstFault_92 : decode cX5_firstFault 92 = .ok (.ireturn, 1) := by decide +kernel
theorem dX5_readLine_0 : decode cX5_readLine 0 = .ok (.aload_n 0, 1) := by decide +kernel
theorem dX5_readLine_1 : decode cX5_readLine 1 = .ok (.invokevirtual 54, 3) := by decide +kernel
theorem dX5_readLine_4 : decode cX5_readLine 4 = .ok (.aload_n 0, 1) := by decide +kernel
theorem dX5_readLine_5 : decode cX5_readLine 5 = .ok (.ldc 57, 2) := by decide +kernel
theorem dX5_readLine_7 : decode cX5_readLine 7 = .ok (.invokevirtual 59, 3) := by decide +kernel
theorem dX5_readLine_10 : decode cX5_readLine 10 = .ok (.ifCond .eq 10, 3) := by decide +kernel
theorem dX5_readLine_13 : decode cX5_readLine 13 = .ok (.aload_n 0, 1) := by decide +kernel
theorem dX5_readLine_14 : decode cX5_readLine 14 = .ok (.iconst 0, 1) := by decide +kernel
theorem dX5_readLine_15 : decode cX5_readLine 15 = .ok (.iconst 0, 1) := by decide +kernel
theorem dX5_readLine_16 : decode cX5_readLine 16 = .ok (.invokevirtual 63, 3) := by decide +kernel
theorem dX5_readLine_19 : decode cX5_readLine 19 = .ok (.ireturn, 1) := by decide +kernel
theorem dX5_readLine_20 : decode cX5_readLine 20 = .ok (.aload_n 0, 1) := by decide +kernel
theorem dX5_readLine_21 : decode cX5_readLine 21 = .ok (.ldc 67, 2) := by decide +kernel
theorem dX5_readLine_23 : decode cX5_readLine 23 = .ok (.invokevirtual 59, 3) := by decide +kernel
theorem dX5_readLine_26 : decode cX5_readLine 26 = .ok (.ifCond .eq 10, 3) := by decide +kernel
theorem dX5_readLine_29 : decode cX5_readLine 29 = .ok (.aload_n 0, 1) := by decide +kernel
theorem dX5_readLine_30 : decode cX5_readLine 30 = .ok (.iconst 0, 1) := by decide +kernel
theorem dX5_readLine_31 : decode cX5_readLine 31 = .ok (.iconst 1, 1) := by decide +kernel
theorem dX5_readLine_32 : decode cX5_readLine 32 = .ok (.invokevirtual 63, 3) := by decide +kernel
theorem dX5_readLine_35 : decode cX5_readLine 35 = .ok (.ireturn, 1) := by decide +kernel
theorem dX5_readLine_36 : decode cX5_readLine 36 = .ok (.aload_n 0, 1) := by decide +kernel
theorem dX5_readLine_37 : decode cX5_readLine 37 = .ok (.ldc 69, 2) := by decide +kernel
theorem dX5_readLine_39 : decode cX5_readLine 39 = .ok (.invokevirtual 59, 3) := by decide +kernel
theorem dX5_readLine_42 : decode cX5_readLine 42 = .ok (.ifCond .eq 8, 3) := by decide +kernel
theorem dX5_readLine_45 : decode cX5_readLine 45 = .ok (.aload_n 0, 1) := by decide +kernel
theorem dX5_readLine_46 : decode cX5_readLine 46 = .ok (.invokevirtual 71, 3) := by decide +kernel
theorem dX5_readLine_49 : decode cX5_readLine 49 = .ok (.ireturn, 1) := by decide +kernel
theorem dX5_readLine_50 : decode cX5_readLine 50 = .ok (.aload_n 0, 1) := by decide +kernel
theorem dX5_readLine_51 : decode cX5_readLine 51 = .ok (.ldc 74, 2) := by decide +kernel
theorem dX5_readLine_53 : decode cX5_readLine 53 = .ok (.invokevirtual 59, 3) := by decide +kernel
theorem dX5_readLine_56 : decode cX5_readLine 56 = .ok (.ifCond .eq 8, 3) := by decide +kernel
theorem dX5_readLine_59 : decode cX5_readLine 59 = .ok (.aload_n 0, 1) := by decide +kernel
theorem dX5_readLine_60 : decode cX5_readLine 60 = .ok (.invokevirtual 76, 3) := by decide +kernel
theorem dX5_readLine_63 : decode cX5_readLine 63 = .ok (.ireturn, 1) := by decide +kernel
theorem dX5_readLine_64 : decode cX5_readLine 64 = .ok (.aload_n 0, 1) := by decide +kernel
theorem dX5_readLine_65 : decode cX5_readLine 65 = .ok (.ldc 79, 2) := by decide +kernel
theorem dX5_readLine_67 : decode cX5_readLine 67 = .ok (.invokevirtual 59, 3) := by decide +kernel
theorem dX5_readLine_70 : decode cX5_readLine 70 = .ok (.ifCond .eq 15, 3) := by decide +kernel
theorem dX5_readLine_73 : decode cX5_readLine 73 = .ok (.aload_n 0, 1) := by decide +kernel
theorem dX5_readLine_74 : decode cX5_readLine 74 = .ok (.iconst 3, 1) := by decide +kernel
theorem dX5_readLine_75 : decode cX5_readLine 75 = .ok (.ldc 81, 2) := by decide +kernel
theorem dX5_readLine_77 : decode cX5_readLine 77 = .ok (.ldc 83, 2) := by decide +kernel
theorem dX5_readLine_79 : decode cX5_readLine 79 = .ok (.ldc 85, 2) := by decide +kernel
theorem dX5_readLine_81 : decode cX5_readLine 81 = .ok (.invokevirtual 87, 3) := by decide +kernel
theorem dX5_readLine_84 : decode cX5_readLine 84 = .ok (.ireturn, 1) := by decide +kernel
theorem dX5_readLine_85 : decode cX5_readLine 85 = .ok (.aload_n 0, 1) := by decide +kernel
theorem dX5_readLine_86 : decode cX5_readLine 86 = .ok (.ldc 91, 2) := by decide +kernel
theorem dX5_readLine_88 : decode cX5_readLine 88 = .ok (.invokevirtual 59, 3) := by decide +kernel
theorem dX5_readLine_91 : decode cX5_readLine 91 = .ok (.ifCond .eq 15, 3) := by decide +kernel
theorem dX5_readLine_94 : decode cX5_readLine 94 = .ok (.aload_n 0, 1) := by decide +kernel
theorem dX5_readLine_95 : decode cX5_readLine 95 = .ok (.iconst 4, 1) := by decide +kernel
theorem dX5_readLine_96 : decode cX5_readLine 96 = .ok (.ldc 93, 2) := by decide +kernel
theorem dX5_readLine_98 : decode cX5_readLine 98 = .ok (.ldc 95, 2) := by decide +kernel
theorem dX5_readLine_100 : decode cX5_readLine 100 = .ok (.ldc 97, 2) := by decide +kernel
theorem dX5_readLine_102 : decode cX5_readLine 102 = .ok (.invokevirtual 87, 3) := by decide +kernel
theorem dX5_readLine_105 : decode cX5_readLine 105 = .ok (.ireturn, 1) := by decide +kernel
theorem dX5_readLine_106 : decode cX5_readLine 106 = .ok (.iconst 0, 1) := by decide +kernel
theorem dX5_readLine_107 : decode cX5_readLine 107 = .ok (.ireturn, 1) := by decide +kernel
theorem dX5_put_0 : decode cX5_put 0 = .ok (.aload_n 0, 1) := by decide +kernel
theorem dX5_put_1 : decode cX5_put 1 = .ok (.getfield 31, 3) := by decide +kernel
theorem dX5_put_4 : decode cX5_put 4 = .ok (.iload_n 1, 1) := by decide +kernel
theorem dX5_put_5 : decode cX5_put 5 = .ok (.iload_n 2, 1) := by decide +kernel
theorem dX5_put_6 : decode cX5_put 6 = .ok (.iastore, 1) := by decide +kernel
theorem dX5_put_7 : decode cX5_put 7 = .ok (.iconst 1, 1) := by decide +kernel
theorem dX5_put_8 : decode cX5_put 8 = .ok (.ireturn, 1) := by decide +kernel
theorem dX5_readSilence_0 : decode cX5_readSilence 0 = .ok (.aload_n 0, 1) := by decide +kernel
theorem dX5_readSilence_1 : decode cX5_readSilence 1 = .ok (.invokevirtual 54, 3) := by decide +kernel
theorem dX5_readSilence_4 : decode cX5_readSilence 4 = .ok (.aload_n 0, 1) := by decide +kernel
theorem dX5_readSilence_5 : decode cX5_readSilence 5 = .ok (.ldc 99, 2) := by decide +kernel
theorem dX5_readSilence_7 : decode cX5_readSilence 7 = .ok (.invokevirtual 59, 3) := by decide +kernel
theorem dX5_readSilence_10 : decode cX5_readSilence 10 = .ok (.ifCond .eq 10, 3) := by decide +kernel
theorem dX5_readSilence_13 : decode cX5_readSilence 13 = .ok (.aload_n 0, 1) := by decide +kernel
theorem dX5_readSilence_14 : decode cX5_readSilence 14 = .ok (.iconst 1, 1) := by decide +kernel
theorem dX5_readSilence_15 : decode cX5_readSilence 15 = .ok (.iconst 0, 1) := by decide +kernel
theorem dX5_readSilence_16 : decode cX5_readSilence 16 = .ok (.invokevirtual 63, 3) := by decide +kernel
theorem dX5_readSilence_19 : decode cX5_readSilence 19 = .ok (.ireturn, 1) := by decide +kernel
theorem dX5_readSilence_20 : decode cX5_readSilence 20 = .ok (.aload_n 0, 1) := by decide +kernel
theorem dX5_readSilence_21 : decode cX5_readSilence 21 = .ok (.ldc 101, 2) := by decide +kernel
theorem dX5_readSilence_23 : decode cX5_readSilence 23 = .ok (.invokevirtual 59, 3) := by decide +kernel
theorem dX5_readSilence_26 : decode cX5_readSilence 26 = .ok (.ifCond .eq 10, 3) := by decide +kernel
theorem dX5_readSilence_29 : decode cX5_readSilence 29 = .ok (.aload_n 0, 1) := by decide +kernel
theorem dX5_readSilence_30 : decode cX5_readSilence 30 = .ok (.iconst 1, 1) := by decide +kernel
theorem dX5_readSilence_31 : decode cX5_readSilence 31 = .ok (.iconst 1, 1) := by decide +kernel
theorem dX5_readSilence_32 : decode cX5_readSilence 32 = .ok (.invokevirtual 63, 3) := by decide +kernel
theorem dX5_readSilence_35 : decode cX5_readSilence 35 = .ok (.ireturn, 1) := by decide +kernel
theorem dX5_readSilence_36 : decode cX5_readSilence 36 = .ok (.iconst 0, 1) := by decide +kernel
theorem dX5_readSilence_37 : decode cX5_readSilence 37 = .ok (.ireturn, 1) := by decide +kernel
theorem dX5_readChoice_0 : decode cX5_readChoice 0 = .ok (.aload_n 0, 1) := by decide +kernel
theorem dX5_readChoice_1 : decode cX5_readChoice 1 = .ok (.invokevirtual 54, 3) := by decide +kernel
theorem dX5_readChoice_4 : decode cX5_readChoice 4 = .ok (.aload_n 0, 1) := by decide +kernel
theorem dX5_readChoice_5 : decode cX5_readChoice 5 = .ok (.aload_n 2, 1) := by decide +kernel
theorem dX5_readChoice_6 : decode cX5_readChoice 6 = .ok (.invokevirtual 59, 3) := by decide +kernel
theorem dX5_readChoice_9 : decode cX5_readChoice 9 = .ok (.ifCond .eq 10, 3) := by decide +kernel
theorem dX5_readChoice_12 : decode cX5_readChoice 12 = .ok (.aload_n 0, 1) := by decide +kernel
theorem dX5_readChoice_13 : decode cX5_readChoice 13 = .ok (.iload_n 1, 1) := by decide +kernel
theorem dX5_readChoice_14 : decode cX5_readChoice 14 = .ok (.iconst 0, 1) := by decide +kernel
theorem dX5_readChoice_15 : decode cX5_readChoice 15 = .ok (.invokevirtual 63, 3) := by decide +kernel
theorem dX5_readChoice_18 : decode cX5_readChoice 18 = .ok (.ireturn, 1) := by decide +kernel
theorem dX5_readChoice_19 : decode cX5_readChoice 19 = .ok (.aload_n 0, 1) := by decide +kernel
theorem dX5_readChoice_20 : decode cX5_readChoice 20 = .ok (.aload_n 3, 1) := by decide +kernel
theorem dX5_readChoice_21 : decode cX5_readChoice 21 = .ok (.invokevirtual 59, 3) := by decide +kernel
theorem dX5_readChoice_24 : decode cX5_readChoice 24 = .ok (.ifCond .eq 10, 3) := by decide +kernel
theorem dX5_readChoice_27 : decode cX5_readChoice 27 = .ok (.aload_n 0, 1) := by decide +kernel
theorem dX5_readChoice_28 : decode cX5_readChoice 28 = .ok (.iload_n 1, 1) := by decide +kernel
theorem dX5_readChoice_29 : decode cX5_readChoice 29 = .ok (.iconst 1, 1) := by decide +kernel
theorem dX5_readChoice_30 : decode cX5_readChoice 30 = .ok (.invokevirtual 63, 3) := by decide +kernel
theorem dX5_readChoice_33 : decode cX5_readChoice 33 = .ok (.ireturn, 1) := by decide +kernel
theorem dX5_readChoice_34 : decode cX5_readChoice 34 = .ok (.aload_n 0, 1) := by decide +kernel
theorem dX5_readChoice_35 : decode cX5_readChoice 35 = .ok (.aload 4, 2) := by decide +kernel
theorem dX5_readChoice_37 : decode cX5_readChoice 37 = .ok (.invokevirtual 59, 3) := by decide +kernel
theorem dX5_readChoice_40 : decode cX5_readChoice 40 = .ok (.ifCond .eq 10, 3) := by decide +kernel
theorem dX5_readChoice_43 : decode cX5_readChoice 43 = .ok (.aload_n 0, 1) := by decide +kernel
theorem dX5_readChoice_44 : decode cX5_readChoice 44 = .ok (.iload_n 1, 1) := by decide +kernel
theorem dX5_readChoice_45 : decode cX5_readChoice 45 = .ok (.iconst 2, 1) := by decide +kernel
theorem dX5_readChoice_46 : decode cX5_readChoice 46 = .ok (.invokevirtual 63, 3) := by decide +kernel
theorem dX5_readChoice_49 : decode cX5_readChoice 49 = .ok (.ireturn, 1) := by decide +kernel
theorem dX5_readChoice_50 : decode cX5_readChoice 50 = .ok (.iconst 0, 1) := by decide +kernel
theorem dX5_readChoice_51 : decode cX5_readChoice 51 = .ok (.ireturn, 1) := by decide +kernel
theorem dX5_readNumber_0 : decode cX5_readNumber 0 = .ok (.aload_n 0, 1) := by decide +kernel
theorem dX5_readNumber_1 : decode cX5_readNumber 1 = .ok (.invokevirtual 54, 3) := by decide +kernel
theorem dX5_readNumber_4 : decode cX5_readNumber 4 = .ok (.aload_n 0, 1) := by decide +kernel
theorem dX5_readNumber_5 : decode cX5_readNumber 5 = .ok (.getfield 25, 3) := by decide +kernel
theorem dX5_readNumber_8 : decode cX5_readNumber 8 = .ok (.aload_n 0, 1) := by decide +kernel
theorem dX5_readNumber_9 : decode cX5_readNumber 9 = .ok (.getfield 22, 3) := by decide +kernel
theorem dX5_readNumber_12 : decode cX5_readNumber 12 = .ok (.if_icmp .le 31, 3) := by decide +kernel
theorem dX5_readNumber_15 : decode cX5_readNumber 15 = .ok (.aload_n 0, 1) := by decide +kernel
theorem dX5_readNumber_16 : decode cX5_readNumber 16 = .ok (.getfield 25, 3) := by decide +kernel
theorem dX5_readNumber_19 : decode cX5_readNumber 19 = .ok (.aload_n 0, 1) := by decide +kernel
theorem dX5_readNumber_20 : decode cX5_readNumber 20 = .ok (.getfield 22, 3) := by decide +kernel
theorem dX5_readNumber_23 : decode cX5_readNumber 23 = .ok (.isub, 1) := by decide +kernel
theorem dX5_readNumber_24 : decode cX5_readNumber 24 = .ok (.iconst 3, 1) := by decide +kernel
theorem dX5_readNumber_25 : decode cX5_readNumber 25 = .ok (.if_icmp .gt 18, 3) := by decide +kernel
theorem dX5_readNumber_28 : decode cX5_readNumber 28 = .ok (.aload_n 0, 1) := by decide +kernel
theorem dX5_readNumber_29 : decode cX5_readNumber 29 = .ok (.getfield 9, 3) := by decide +kernel
theorem dX5_readNumber_32 : decode cX5_readNumber 32 = .ok (.aload_n 0, 1) := by decide +kernel
theorem dX5_readNumber_33 : decode cX5_readNumber 33 = .ok (.getfield 22, 3) := by decide +kernel
theorem dX5_readNumber_36 : decode cX5_readNumber 36 = .ok (.iaload, 1) := by decide +kernel
theorem dX5_readNumber_37 : decode cX5_readNumber 37 = .ok (.invokestatic 103, 3) := by decide +kernel
theorem dX5_readNumber_40 : decode cX5_readNumber 40 = .ok (.ifCond .ne 5, 3) := by decide +kernel
theorem dX5_readNumber_43 : decode cX5_readNumber 43 = .ok (.iconst 0, 1) := by decide +kernel
theorem dX5_readNumber_44 : decode cX5_readNumber 44 = .ok (.ireturn, 1) := by decide +kernel
theorem dX5_readNumber_45 : decode cX5_readNumber 45 = .ok (.iconst 0, 1) := by decide +kernel
theorem dX5_readNumber_46 : decode cX5_readNumber 46 = .ok (.istore_n 1, 1) := by decide +kernel
theorem dX5_readNumber_47 : decode cX5_readNumber 47 = .ok (.aload_n 0, 1) := by decide +kernel
theorem dX5_readNumber_48 : decode cX5_readNumber 48 = .ok (.getfield 22, 3) := by decide +kernel
theorem dX5_readNumber_51 : decode cX5_readNumber 51 = .ok (.istore_n 2, 1) := by decide +kernel
theorem dX5_readNumber_52 : decode cX5_readNumber 52 = .ok (.iload_n 2, 1) := by decide +kernel
theorem dX5_readNumber_53 : decode cX5_readNumber 53 = .ok (.aload_n 0, 1) := by decide +kernel
theorem dX5_readNumber_54 : decode cX5_readNumber 54 = .ok (.getfield 25, 3) := by decide +kernel
theorem dX5_readNumber_57 : decode cX5_readNumber 57 = .ok (.if_icmp .ge 24, 3) := by decide +kernel
theorem dX5_readNumber_60 : decode cX5_readNumber 60 = .ok (.iload_n 1, 1) := by decide +kernel
theorem dX5_readNumber_61 : decode cX5_readNumber 61 = .ok (.bipush 10, 2) := by decide +kernel
theorem dX5_readNumber_63 : decode cX5_readNumber 63 = .ok (.imul, 1) := by decide +kernel
theorem dX5_readNumber_64 : decode cX5_readNumber 64 = .ok (.aload_n 0, 1) := by decide +kernel
theorem dX5_readNumber_65 : decode cX5_readNumber 65 = .ok (.getfield 9, 3) := by decide +kernel
theorem dX5_readNumber_68 : decode cX5_readNumber 68 = .ok (.iload_n 2, 1) := by decide +kernel
theorem dX5_readNumber_69 : decode cX5_readNumber 69 = .ok (.iaload, 1) := by decide +kernel
theorem dX5_readNumber_70 : decode cX5_readNumber 70 = .ok (.iadd, 1) := by decide +kernel
theorem dX5_readNumber_71 : decode cX5_readNumber 71 = .ok (.bipush 48, 2) := by decide +kernel
theorem dX5_readNumber_73 : decode cX5_readNumber 73 = .ok (.isub, 1) := by decide +kernel
theorem dX5_readNumber_74 : decode cX5_readNumber 74 = .ok (.istore_n 1, 1) := by decide +kernel
theorem dX5_readNumber_75 : decode cX5_readNumber 75 = .ok (.iinc 2 1, 3) := by decide +kernel
theorem dX5_readNumber_78 : decode cX5_readNumber 78 = .ok (.goto (-26), 3) := by decide +kernel
theorem dX5_readNumber_81 : decode cX5_readNumber 81 = .ok (.aload_n 0, 1) := by decide +kernel
theorem dX5_readNumber_82 : decode cX5_readNumber 82 = .ok (.iconst 2, 1) := by decide +kernel
theorem dX5_readNumber_83 : decode cX5_readNumber 83 = .ok (.iload_n 1, 1) := by decide +kernel
theorem dX5_readNumber_84 : decode cX5_readNumber 84 = .ok (.invokevirtual 63, 3) := by decide +kernel
theorem dX5_readNumber_87 : decode cX5_readNumber 87 = .ok (.ireturn, 1) := by decide +kernel
theorem dX5_nextToken_0 : decode cX5_nextToken 0 = .ok (.aload_n 0, 1) := by decide +kernel
theorem dX5_nextToken_1 : decode cX5_nextToken 1 = .ok (.aload_n 0, 1) := by decide +kernel
theorem dX5_nextToken_2 : decode cX5_nextToken 2 = .ok (.getfield 25, 3) := by decide +kernel
theorem dX5_nextToken_5 : decode cX5_nextToken 5 = .ok (.putfield 22, 3) := by decide +kernel
theorem dX5_nextToken_8 : decode cX5_nextToken 8 = .ok (.aload_n 0, 1) := by decide +kernel
theorem dX5_nextToken_9 : decode cX5_nextToken 9 = .ok (.getfield 22, 3) := by decide +kernel
theorem dX5_nextToken_12 : decode cX5_nextToken 12 = .ok (.aload_n 0, 1) := by decide +kernel
theorem dX5_nextToken_13 : decode cX5_nextToken 13 = .ok (.getfield 15, 3) := by decide +kernel
theorem dX5_nextToken_16 : decode cX5_nextToken 16 = .ok (.if_icmp .ge 30, 3) := by decide +kernel
theorem dX5_nextToken_19 : decode cX5_nextToken 19 = .ok (.aload_n 0, 1) := by decide +kernel
theorem dX5_nextToken_20 : decode cX5_nextToken 20 = .ok (.getfield 9, 3) := by decide +kernel
theorem dX5_nextToken_23 : decode cX5_nextToken 23 = .ok (.aload_n 0, 1) := by decide +kernel
theorem dX5_nextToken_24 : decode cX5_nextToken 24 = .ok (.getfield 22, 3) := by decide +kernel
theorem dX5_nextToken_27 : decode cX5_nextToken 27 = .ok (.iaload, 1) := by decide +kernel
theorem dX5_nextToken_28 : decode cX5_nextToken 28 = .ok (.bipush 32, 2) := by decide +kernel
theorem dX5_nextToken_30 : decode cX5_nextToken 30 = .ok (.if_icmp .ne 16, 3) := by decide +kernel
theorem dX5_nextToken_33 : decode cX5_nextToken 33 = .ok (.aload_n 0, 1) := by decide +kernel
theorem dX5_nextToken_34 : decode cX5_nextToken 34 = .ok (.dup, 1) := by decide +kernel
theorem dX5_nextToken_35 : decode cX5_nextToken 35 = .ok (.getfield 22, 3) := by decide +kernel
theorem dX5_nextToken_38 : decode cX5_nextToken 38 = .ok (.iconst 1, 1) := by decide +kernel
theorem dX5_nextToken_39 : decode cX5_nextToken 39 = .ok (.iadd, 1) := by decide +kernel
theorem dX5_nextToken_40 : decode cX5_nextToken 40 = .ok (.putfield 22, 3) := by decide +kernel
theorem dX5_nextToken_43 : decode cX5_nextToken 43 = .ok (.goto (-35), 3) := by decide +kernel
theorem dX5_nextToken_46 : decode cX5_nextToken 46 = .ok (.aload_n 0, 1) := by decide +kernel
theorem dX5_nextToken_47 : decode cX5_nextToken 47 = .ok (.aload_n 0, 1) := by decide +kernel
theorem dX5_nextToken_48 : decode cX5_nextToken 48 = .ok (.getfield 22, 3) := by decide +kernel
theorem dX5_nextToken_51 : decode cX5_nextToken 51 = .ok (.putfield 25, 3) := by decide +kernel
theorem dX5_nextToken_54 : decode cX5_nextToken 54 = .ok (.aload_n 0, 1) := by decide +kernel
theorem dX5_nextToken_55 : decode cX5_nextToken 55 = .ok (.getfield 25, 3) := by decide +kernel
theorem dX5_nextToken_58 : decode cX5_nextToken 58 = .ok (.aload_n 0, 1) := by decide +kernel
theorem dX5_nextToken_59 : decode cX5_nextToken 59 = .ok (.getfield 15, 3) := by decide +kernel
theorem dX5_nextToken_62 : decode cX5_nextToken 62 = .ok (.if_icmp .ge 31, 3) := by decide +kernel
theorem dX5_nextToken_65 : decode cX5_nextToken 65 = .ok (.aload_n 0, 1) := by decide +kernel
theorem dX5_nextToken_66 : decode cX5_nextToken 66 = .ok (.getfield 9, 3) := by decide +kernel
theorem dX5_nextToken_69 : decode cX5_nextToken 69 = .ok (.aload_n 0, 1) := by decide +kernel
theorem dX5_nextToken_70 : decode cX5_nextToken 70 = .ok (.getfield 25, 3) := by decide +kernel
theorem dX5_nextToken_73 : decode cX5_nextToken 73 = .ok (.iaload, 1) := by decide +kernel
theorem dX5_nextToken_74 : decode cX5_nextToken 74 = .ok (.invokestatic 107, 3) := by decide +kernel
theorem dX5_nextToken_77 : decode cX5_nextToken 77 = .ok (.ifCond .eq 16, 3) := by decide +kernel
theorem dX5_nextToken_80 : decode cX5_nextToken 80 = .ok (.aload_n 0, 1) := by decide +kernel
theorem dX5_nextToken_81 : decode cX5_nextToken 81 = .ok (.dup, 1) := by decide +kernel
theorem dX5_nextToken_82 : decode cX5_nextToken 82 = .ok (.getfield 25, 3) := by decide +kernel
theorem dX5_nextToken_85 : decode cX5_nextToken 85 = .ok (.iconst 1, 1) := by decide +kernel
theorem dX5_nextToken_86 : decode cX5_nextToken 86 = .ok (.iadd, 1) := by decide +kernel
theorem dX5_nextToken_87 : decode cX5_nextToken 87 = .ok (.putfield 25, 3) := by decide +kernel
theorem dX5_nextToken_90 : decode cX5_nextToken 90 = .ok (.goto (-36), 3) := by decide +kernel
theorem dX5_nextToken_93 : decode cX5_nextToken 93 = .ok (.aload_n 0, 1) := by decide +kernel
theorem dX5_nextToken_94 : decode cX5_nextToken 94 = .ok (.getfield 25, 3) := by decide +kernel
theorem dX5_nextToken_97 : decode cX5_nextToken 97 = .ok (.aload_n 0, 1) := by decide +kernel
theorem dX5_nextToken_98 : decode cX5_nextToken 98 = .ok (.getfield 22, 3) := by decide +kernel
theorem dX5_nextToken_101 : decode cX5_nextToken 101 = .ok (.if_icmp .le 4, 3) := by decide +kernel
theorem dX5_nextToken_104 : decode cX5_nextToken 104 = .ok (.return_, 1) := by decide +kernel
theorem dX5_nextToken_105 : decode cX5_nextToken 105 = .ok (.aload_n 0, 1) := by decide +kernel
theorem dX5_nextToken_106 : decode cX5_nextToken 106 = .ok (.getfield 25, 3) := by decide +kernel
theorem dX5_nextToken_109 : decode cX5_nextToken 109 = .ok (.aload_n 0, 1) := by decide +kernel
theorem dX5_nextToken_110 : decode cX5_nextToken 110 = .ok (.getfield 15, 3) := by decide +kernel
theorem dX5_nextToken_113 : decode cX5_nextToken 113 = .ok (.if_icmp .ge 31, 3) := by decide +kernel
theorem dX5_nextToken_116 : decode cX5_nextToken 116 = .ok (.aload_n 0, 1) := by decide +kernel
theorem dX5_nextToken_117 : decode cX5_nextToken 117 = .ok (.getfield 9, 3) := by decide +kernel
theorem dX5_nextToken_120 : decode cX5_nextToken 120 = .ok (.aload_n 0, 1) := by decide +kernel
theorem dX5_nextToken_121 : decode cX5_nextToken 121 = .ok (.getfield 25, 3) := by decide +kernel
theorem dX5_nextToken_124 : decode cX5_nextToken 124 = .ok (.iaload, 1) := by decide +kernel
theorem dX5_nextToken_125 : decode cX5_nextToken 125 = .ok (.invokestatic 103, 3) := by decide +kernel
theorem dX5_nextToken_128 : decode cX5_nextToken 128 = .ok (.ifCond .eq 16, 3) := by decide +kernel
theorem dX5_nextToken_131 : decode cX5_nextToken 131 = .ok (.aload_n 0, 1) := by decide +kernel
theorem dX5_nextToken_132 : decode cX5_nextToken 132 = .ok (.dup, 1) := by decide +kernel
theorem dX5_nextToken_133 : decode cX5_nextToken 133 = .ok (.getfield 25, 3) := by decide +kernel
theorem dX5_nextToken_136 : decode cX5_nextToken 136 = .ok (.iconst 1, 1) := by decide +kernel
theorem dX5_nextToken_137 : decode cX5_nextToken 137 = .ok (.iadd, 1) := by decide +kernel
theorem dX5_nextToken_138 : decode cX5_nextToken 138 = .ok (.putfield 25, 3) := by decide +kernel
theorem dX5_nextToken_141 : decode cX5_nextToken 141 = .ok (.goto (-36), 3) := by decide +kernel
theorem dX5_nextToken_144 : decode cX5_nextToken 144 = .ok (.aload_n 0, 1) := by decide +kernel
theorem dX5_nextToken_145 : decode cX5_nextToken 145 = .ok (.getfield 25, 3) := by decide +kernel
theorem dX5_nextToken_148 : decode cX5_nextToken 148 = .ok (.aload_n 0, 1) := by decide +kernel
theorem dX5_nextToken_149 : decode cX5_nextToken 149 = .ok (.getfield 22, 3) := by decide +kernel
theorem dX5_nextToken_152 : decode cX5_nextToken 152 = .ok (.if_icmp .ne 24, 3) := by decide +kernel
theorem dX5_nextToken_155 : decode cX5_nextToken 155 = .ok (.aload_n 0, 1) := by decide +kernel
theorem dX5_nextToken_156 : decode cX5_nextToken 156 = .ok (.getfield 25, 3) := by decide +kernel
theorem dX5_nextToken_159 : decode cX5_nextToken 159 = .ok (.aload_n 0, 1) := by decide +kernel
theorem dX5_nextToken_160 : decode cX5_nextToken 160 = .ok (.getfield 15, 3) := by decide +kernel
theorem dX5_nextToken_163 : decode cX5_nextToken 163 = .ok (.if_icmp .ge 13, 3) := by decide +kernel
theorem dX5_nextToken_166 : decode cX5_nextToken 166 = .ok (.aload_n 0, 1) := by decide +kernel
theorem dX5_nextToken_167 : decode cX5_nextToken 167 = .ok (.dup, 1) := by decide +kernel
theorem dX5_nextToken_168 : decode cX5_nextToken 168 = .ok (.getfield 25, 3) := by decide +kernel
theorem dX5_nextToken_171 : decode cX5_nextToken 171 = .ok (.iconst 1, 1) := by decide +kernel
theorem dX5_nextToken_172 : decode cX5_nextToken 172 = .ok (.iadd, 1) := by decide +kernel
theorem dX5_nextToken_173 : decode cX5_nextToken 173 = .ok (.putfield 25, 3) := by decide +kernel
theorem dX5_nextToken_176 : decode cX5_nextToken 176 = .ok (.return_, 1) := by decide +kernel
theorem dX5_isLetter_0 : decode cX5_isLetter 0 = .ok (.iload_n 0, 1) := by decide +kernel
theorem dX5_isLetter_1 : decode cX5_isLetter 1 = .ok (.bipush 97, 2) := by decide +kernel
theorem dX5_isLetter_3 : decode cX5_isLetter 3 = .ok (.if_icmp .lt 13, 3) := by decide +kernel
theorem dX5_isLetter_6 : decode cX5_isLetter 6 = .ok (.iload_n 0, 1) := by decide +kernel
theorem dX5_isLetter_7 : decode cX5_isLetter 7 = .ok (.bipush 122, 2) := by decide +kernel
theorem dX5_isLetter_9 : decode cX5_isLetter 9 = .ok (.if_icmp .gt 7, 3) := by decide +kernel
theorem dX5_isLetter_12 : decode cX5_isLetter 12 = .ok (.iconst 1, 1) := by decide +kernel
theorem dX5_isLetter_13 : decode cX5_isLetter 13 = .ok (.goto 4, 3) := by decide +kernel
theorem dX5_isLetter_16 : decode cX5_isLetter 16 = .ok (.iconst 0, 1) := by decide +kernel
theorem dX5_isLetter_17 : decode cX5_isLetter 17 = .ok (.ireturn, 1) := by decide +kernel
theorem dX5_isDigit_0 : decode cX5_isDigit 0 = .ok (.iload_n 0, 1) := by decide +kernel
theorem dX5_isDigit_1 : decode cX5_isDigit 1 = .ok (.bipush 48, 2) := by decide +kernel
theorem dX5_isDigit_3 : decode cX5_isDigit 3 = .ok (.if_icmp .lt 13, 3) := by decide +kernel
theorem dX5_isDigit_6 : decode cX5_isDigit 6 = .ok (.iload_n 0, 1) := by decide +kernel
theorem dX5_isDigit_7 : decode cX5_isDigit 7 = .ok (.bipush 57, 2) := by decide +kernel
theorem dX5_isDigit_9 : decode cX5_isDigit 9 = .ok (.if_icmp .gt 7, 3) := by decide +kernel
theorem dX5_isDigit_12 : decode cX5_isDigit 12 = .ok (.iconst 1, 1) := by decide +kernel
theorem dX5_isDigit_13 : decode cX5_isDigit 13 = .ok (.goto 4, 3) := by decide +kernel
theorem dX5_isDigit_16 : decode cX5_isDigit 16 = .ok (.iconst 0, 1) := by decide +kernel
theorem dX5_isDigit_17 : decode cX5_isDigit 17 = .ok (.ireturn, 1) := by decide +kernel
theorem dX5_isWord_0 : decode cX5_isWord 0 = .ok (.aload_n 0, 1) := by decide +kernel
theorem dX5_isWord_1 : decode cX5_isWord 1 = .ok (.getfield 25, 3) := by decide +kernel
theorem dX5_isWord_4 : decode cX5_isWord 4 = .ok (.aload_n 0, 1) := by decide +kernel
theorem dX5_isWord_5 : decode cX5_isWord 5 = .ok (.getfield 22, 3) := by decide +kernel
theorem dX5_isWord_8 : decode cX5_isWord 8 = .ok (.isub, 1) := by decide +kernel
theorem dX5_isWord_9 : decode cX5_isWord 9 = .ok (.aload_n 1, 1) := by decide +kernel
theorem dX5_isWord_10 : decode cX5_isWord 10 = .ok (.invokevirtual 110, 3) := by decide +kernel
theorem dX5_isWord_13 : decode cX5_isWord 13 = .ok (.if_icmp .eq 5, 3) := by decide +kernel
theorem dX5_isWord_16 : decode cX5_isWord 16 = .ok (.iconst 0, 1) := by decide +kernel
theorem dX5_isWord_17 : decode cX5_isWord 17 = .ok (.ireturn, 1) := by decide +kernel
theorem dX5_isWord_18 : decode cX5_isWord 18 = .ok (.iconst 0, 1) := by decide +kernel
theorem dX5_isWord_19 : decode cX5_isWord 19 = .ok (.istore_n 2, 1) := by decide +kernel
theorem dX5_isWord_20 : decode cX5_isWord 20 = .ok (.iload_n 2, 1) := by decide +kernel
theorem dX5_isWord_21 : decode cX5_isWord 21 = .ok (.aload_n 1, 1) := by decide +kernel
theorem dX5_isWord_22 : decode cX5_isWord 22 = .ok (.invokevirtual 110, 3) := by decide +kernel
theorem dX5_isWord_25 : decode cX5_isWord 25 = .ok (.if_icmp .ge 30, 3) := by decide +kernel
theorem dX5_isWord_28 : decode cX5_isWord 28 = .ok (.aload_n 0, 1) := by decide +kernel
theorem dX5_isWord_29 : decode cX5_isWord 29 = .ok (.getfield 9, 3) := by decide +kernel
theorem dX5_isWord_32 : decode cX5_isWord 32 = .ok (.aload_n 0, 1) := by decide +kernel
theorem dX5_isWord_33 : decode cX5_isWord 33 = .ok (.getfield 22, 3) := by decide +kernel
theorem dX5_isWord_36 : decode cX5_isWord 36 = .ok (.iload_n 2, 1) := by decide +kernel
theorem dX5_isWord_37 : decode cX5_isWord 37 = .ok (.iadd, 1) := by decide +kernel
theorem dX5_isWord_38 : decode cX5_isWord 38 = .ok (.iaload, 1) := by decide +kernel
theorem dX5_isWord_39 : decode cX5_isWord 39 = .ok (.aload_n 1, 1) := by decide +kernel
theorem dX5_isWord_40 : decode cX5_isWord 40 = .ok (.iload_n 2, 1) := by decide +kernel
theorem dX5_isWord_41 : decode cX5_isWord 41 = .ok (.invokevirtual 114, 3) := by decide +kernel
theorem dX5_isWord_44 : decode cX5_isWord 44 = .ok (.if_icmp .eq 5, 3) := by decide +kernel
theorem dX5_isWord_47 : decode cX5_isWord 47 = .ok (.iconst 0, 1) := by decide +kernel
theorem dX5_isWord_48 : decode cX5_isWord 48 = .ok (.ireturn, 1) := by decide +kernel
theorem dX5_isWord_49 : decode cX5_isWord 49 = .ok (.iinc 2 1, 3) := by decide +kernel
theorem dX5_isWord_52 : decode cX5_isWord 52 = .ok (.goto (-32), 3) := by decide +kernel
theorem dX5_isWord_55 : decode cX5_isWord 55 = .ok (.iconst 1, 1) := by decide +kernel
theorem dX5_isWord_56 : decode cX5_isWord 56 = .ok (.ireturn, 1) := by decide +kernel
theorem dX6_addVoice_0 : decode cX6_addVoice 0 = .ok (.aload_n 0, 1) := by decide +kernel
theorem dX6_addVoice_1 : decode cX6_addVoice 1 = .ok (.getfield 9, 3) := by decide +kernel
theorem dX6_addVoice_4 : decode cX6_addVoice 4 = .ok (.aload_n 0, 1) := by decide +kernel
theorem dX6_addVoice_5 : decode cX6_addVoice 5 = .ok (.getfield 25, 3) := by decide +kernel
theorem dX6_addVoice_8 : decode cX6_addVoice 8 = .ok (.iload_n 1, 1) := by decide +kernel
theorem dX6_addVoice_9 : decode cX6_addVoice 9 = .ok (.iastore, 1) := by decide +kernel
theorem dX6_addVoice_10 : decode cX6_addVoice 10 = .ok (.aload_n 0, 1) := by decide +kernel
theorem dX6_addVoice_11 : decode cX6_addVoice 11 = .ok (.getfield 15, 3) := by decide +kernel
theorem dX6_addVoice_14 : decode cX6_addVoice 14 = .ok (.aload_n 0, 1) := by decide +kernel
theorem dX6_addVoice_15 : decode cX6_addVoice 15 = .ok (.getfield 25, 3) := by decide +kernel
theorem dX6_addVoice_18 : decode cX6_addVoice 18 = .ok (.iload_n 2, 1) := by decide +kernel
theorem dX6_addVoice_19 : decode cX6_addVoice 19 = .ok (.iastore, 1) := by decide +kernel
theorem dX6_addVoice_20 : decode cX6_addVoice 20 = .ok (.aload_n 0, 1) := by decide +kernel
theorem dX6_addVoice_21 : decode cX6_addVoice 21 = .ok (.getfield 18, 3) := by decide +kernel
theorem dX6_addVoice_24 : decode cX6_addVoice 24 = .ok (.aload_n 0, 1) := by decide +kernel
theorem dX6_addVoice_25 : decode cX6_addVoice 25 = .ok (.getfield 25, 3) := by decide +kernel
theorem dX6_addVoice_28 : decode cX6_addVoice 28 = .ok (.iload_n 3, 1) := by decide +kernel
theorem dX6_addVoice_29 : decode cX6_addVoice 29 = .ok (.bastore, 1) := by decide +kernel
theorem dX6_addVoice_30 : decode cX6_addVoice 30 = .ok (.aload_n 0, 1) := by decide +kernel
theorem dX6_addVoice_31 : decode cX6_addVoice 31 = .ok (.getfield 22, 3) := by decide +kernel
theorem dX6_addVoice_34 : decode cX6_addVoice 34 = .ok (.aload_n 0, 1) := by decide +kernel
theorem dX6_addVoice_35 : decode cX6_addVoice 35 = .ok (.getfield 25, 3) := by decide +kernel
theorem dX6_addVoice_38 : decode cX6_addVoice 38 = .ok (.iload 4, 2) := by decide +kernel
theorem dX6_addVoice_40 : decode cX6_addVoice 40 = .ok (.iastore, 1) := by decide +kernel
theorem dX6_addVoice_41 : decode cX6_addVoice 41 = .ok (.aload_n 0, 1) := by decide +kernel
theorem dX6_addVoice_42 : decode cX6_addVoice 42 = .ok (.dup, 1) := by decide +kernel
theorem dX6_addVoice_43 : decode cX6_addVoice 43 = .ok (.getfield 25, 3) := by decide +kernel
theorem dX6_addVoice_46 : decode cX6_addVoice 46 = .ok (.iconst 1, 1) := by decide +kernel
theorem dX6_addVoice_47 : decode cX6_addVoice 47 = .ok (.iadd, 1) := by decide +kernel
theorem dX6_addVoice_48 : decode cX6_addVoice 48 = .ok (.putfield 25, 3) := by decide +kernel
theorem dX6_addVoice_51 : decode cX6_addVoice 51 = .ok (.aload_n 0, 1) := by decide +kernel
theorem dX6_addVoice_52 : decode cX6_addVoice 52 = .ok (.getfield 25, 3) := by decide +kernel
theorem dX6_addVoice_55 : decode cX6_addVoice 55 = .ok (.ireturn, 1) := by decide +kernel
theorem dX6_moreYesThanNo_0 : decode cX6_moreYesThanNo 0 = .ok (.iconst 0, 1) := by decide +kernel
theorem dX6_moreYesThanNo_1 : decode cX6_moreYesThanNo 1 = .ok (.istore_n 3, 1) := by decide +kernel
theorem dX6_moreYesThanNo_2 : decode cX6_moreYesThanNo 2 = .ok (.iconst 0, 1) := by decide +kernel
theorem dX6_moreYesThanNo_3 : decode cX6_moreYesThanNo 3 = .ok (.istore 4, 2) := by decide +kernel
theorem dX6_moreYesThanNo_5 : decode cX6_moreYesThanNo 5 = .ok (.iload 4, 2) := by decide +kernel
theorem dX6_moreYesThanNo_7 : decode cX6_moreYesThanNo 7 = .ok (.bipush 6, 2) := by decide +kernel
theorem dX6_moreYesThanNo_9 : decode cX6_moreYesThanNo 9 = .ok (.if_icmp .ge 42, 3) := by decide +kernel
theorem dX6_moreYesThanNo_12 : decode cX6_moreYesThanNo 12 = .ok (.aload_n 0, 1) := by decide +kernel
theorem dX6_moreYesThanNo_13 : decode cX6_moreYesThanNo 13 = .ok (.iload 4, 2) := by decide +kernel
theorem dX6_moreYesThanNo_15 : decode cX6_moreYesThanNo 15 = .ok (.iload_n 1, 1) := by decide +kernel
theorem dX6_moreYesThanNo_16 : decode cX6_moreYesThanNo 16 = .ok (.iload_n 2, 1) := by decide +kernel
theorem dX6_moreYesThanNo_17 : decode cX6_moreYesThanNo 17 = .ok (.invokevirtual 29, 3) := by decide +kernel
theorem dX6_moreYesThanNo_20 : decode cX6_moreYesThanNo 20 = .ok (.istore 5, 2) := by decide +kernel
theorem dX6_moreYesThanNo_22 : decode cX6_moreYesThanNo 22 = .ok (.iload 5, 2) := by decide +kernel
theorem dX6_moreYesThanNo_24 : decode cX6_moreYesThanNo 24 = .ok (.ifCond .lt 21, 3) := by decide +kernel
theorem dX6_moreYesThanNo_27 : decode cX6_moreYesThanNo 27 = .ok (.iload_n 3, 1) := by decide +kernel
theorem dX6_moreYesThanNo_28 : decode cX6_moreYesThanNo 28 = .ok (.aload_n 0, 1) := by decide +kernel
theorem dX6_moreYesThanNo_29 : decode cX6_moreYesThanNo 29 = .ok (.getfield 18, 3) := by decide +kernel
theorem dX6_moreYesThanNo_32 : decode cX6_moreYesThanNo 32 = .ok (.iload 5, 2) := by decide +kernel
theorem dX6_moreYesThanNo_34 : decode cX6_moreYesThanNo 34 = .ok (.baload, 1) := by decide +kernel
theorem dX6_moreYesThanNo_35 : decode cX6_moreYesThanNo 35 = .ok (.ifCond .eq 7, 3) := by decide +kernel
theorem dX6_moreYesThanNo_38 : decode cX6_moreYesThanNo 38 = .ok (.iconst 1, 1) := by decide +kernel
theorem dX6_moreYesThanNo_39 : decode cX6_moreYesThanNo 39 = .ok (.goto 4, 3) := by decide +kernel
theorem dX6_moreYesThanNo_42 : decode cX6_moreYesThanNo 42 = .ok (.iconst (-1), 1) := by decide +kernel
theorem dX6_moreYesThanNo_43 : decode cX6_moreYesThanNo 43 = .ok (.iadd, 1) := by decide +kernel
theorem dX6_moreYesThanNo_44 : decode cX6_moreYesThanNo 44 = .ok (.istore_n 3, 1) := by decide +kernel
theorem dX6_moreYesThanNo_45 : decode cX6_moreYesThanNo 45 = .ok (.iinc 4 1, 3) := by decide +kernel
theorem dX6_moreYesThanNo_48 : decode cX6_moreYesThanNo 48 = .ok (.goto (-43), 3) := by decide +kernel
theorem dX6_moreYesThanNo_51 : decode cX6_moreYesThanNo 51 = .ok (.iload_n 3, 1) := by decide +kernel
theorem dX6_moreYesThanNo_52 : decode cX6_moreYesThanNo 52 = .ok (.ifCond .le 7, 3) := by decide +kernel
theorem dX6_moreYesThanNo_55 : decode cX6_moreYesThanNo 55 = .ok (.iconst 1, 1) := by decide +kernel
theorem dX6_moreYesThanNo_56 : decode cX6_moreYesThanNo 56 = .ok (.goto 4, 3) := by decide +kernel
theorem dX6_moreYesThanNo_59 : decode cX6_moreYesThanNo 59 = .ok (.iconst 0, 1) := by decide +kernel
theorem dX6_moreYesThanNo_60 : decode cX6_moreYesThanNo 60 = .ok (.ireturn, 1) := by decide +kernel
theorem dX6_latest_0 : decode cX6_latest 0 = .ok (.iconst (-1), 1) := by decide +kernel
theorem dX6_latest_1 : decode cX6_latest 1 = .ok (.istore 4, 2) := by decide +kernel
theorem dX6_latest_3 : decode cX6_latest 3 = .ok (.iconst 0, 1) := by decide +kernel
theorem dX6_latest_4 : decode cX6_latest 4 = .ok (.istore 5, 2) := by decide +kernel
theorem dX6_latest_6 : decode cX6_latest 6 = .ok (.iload 5, 2) := by decide +kernel
theorem dX6_latest_8 : decode cX6_latest 8 = .ok (.aload_n 0, 1) := by decide +kernel
theorem dX6_latest_9 : decode cX6_latest 9 = .ok (.getfield 25, 3) := by decide +kernel
theorem dX6_latest_12 : decode cX6_latest 12 = .ok (.if_icmp .ge 71, 3) := by decide +kernel
theorem dX6_latest_15 : decode cX6_latest 15 = .ok (.aload_n 0, 1) := by decide +kernel
theorem dX6_latest_16 : decode cX6_latest 16 = .ok (.getfield 9, 3) := by decide +kernel
theorem dX6_latest_19 : decode cX6_latest 19 = .ok (.iload 5, 2) := by decide +kernel
theorem dX6_latest_21 : decode cX6_latest 21 = .ok (.iaload, 1) := by decide +kernel
theorem dX6_latest_22 : decode cX6_latest 22 = .ok (.iload_n 1, 1) := by decide +kernel
theorem dX6_latest_23 : decode cX6_latest 23 = .ok (.if_icmp .ne 54, 3) := by decide +kernel
theorem dX6_latest_26 : decode cX6_latest 26 = .ok (.aload_n 0, 1) := by decide +kernel
theorem dX6_latest_27 : decode cX6_latest 27 = .ok (.getfield 15, 3) := by decide +kernel
theorem dX6_latest_30 : decode cX6_latest 30 = .ok (.iload 5, 2) := by decide +kernel
theorem dX6_latest_32 : decode cX6_latest 32 = .ok (.iaload, 1) := by decide +kernel
theorem dX6_latest_33 : decode cX6_latest 33 = .ok (.iload_n 2, 1) := by decide +kernel
theorem dX6_latest_34 : decode cX6_latest 34 = .ok (.if_icmp .ne 43, 3) := by decide +kernel
theorem dX6_latest_37 : decode cX6_latest 37 = .ok (.aload_n 0, 1) := by decide +kernel
theorem dX6_latest_38 : decode cX6_latest 38 = .ok (.getfield 22, 3) := by decide +kernel
theorem dX6_latest_41 : decode cX6_latest 41 = .ok (.iload 5, 2) := by decide +kernel
theorem dX6_latest_43 : decode cX6_latest 43 = .ok (.iaload, 1) := by decide +kernel
theorem dX6_latest_44 : decode cX6_latest 44 = .ok (.iload_n 3, 1) := by decide +kernel
theorem dX6_latest_45 : decode cX6_latest 45 = .ok (.if_icmp .le 6, 3) := by decide +kernel
theorem dX6_latest_48 : decode cX6_latest 48 = .ok (.goto 29, 3) := by decide +kernel
theorem dX6_latest_51 : decode cX6_latest 51 = .ok (.iload 4, 2) := by decide +kernel
theorem dX6_latest_53 : decode cX6_latest 53 = .ok (.ifCond .lt 20, 3) := by decide +kernel
theorem dX6_latest_56 : decode cX6_latest 56 = .ok (.aload_n 0, 1) := by decide +kernel
theorem dX6_latest_57 : decode cX6_latest 57 = .ok (.getfield 22, 3) := by decide +kernel
theorem dX6_latest_60 : decode cX6_latest 60 = .ok (.iload 5, 2) := by decide +kernel
theorem dX6_latest_62 : decode cX6_latest 62 = .ok (.iaload, 1) := by decide +kernel
theorem dX6_latest_63 : decode cX6_latest 63 = .ok (.aload_n 0, 1) := by decide +kernel
theorem dX6_latest_64 : decode cX6_latest 64 = .ok (.getfield 22, 3) := by decide +kernel
theorem dX6_latest_67 : decode cX6_latest 67 = .ok (.iload 4, 2) := by decide +kernel
theorem dX6_latest_69 : decode cX6_latest 69 = .ok (.iaload, 1) := by decide +kernel
theorem dX6_latest_70 : decode cX6_latest 70 = .ok (.if_icmp .lt 7, 3) := by decide +kernel
theorem dX6_latest_73 : decode cX6_latest 73 = .ok (.iload 5, 2) := by decide +kernel
theorem dX6_latest_75 : decode cX6_latest 75 = .ok (.istore 4, 2) := by decide +kernel
theorem dX6_latest_77 : decode cX6_latest 77 = .ok (.iinc 5 1, 3) := by decide +kernel
theorem dX6_latest_80 : decode cX6_latest 80 = .ok (.goto (-74), 3) := by decide +kernel
theorem dX6_latest_83 : decode cX6_latest 83 = .ok (.iload 4, 2) := by decide +kernel
theorem dX6_latest_85 : decode cX6_latest 85 = .ok (.ireturn, 1) := by decide +kernel
theorem dX7_addWord_0 : decode cX7_addWord 0 = .ok (.aload_n 0, 1) := by decide +kernel
theorem dX7_addWord_1 : decode cX7_addWord 1 = .ok (.getfield 9, 3) := by decide +kernel
theorem dX7_addWord_4 : decode cX7_addWord 4 = .ok (.aload_n 0, 1) := by decide +kernel
theorem dX7_addWord_5 : decode cX7_addWord 5 = .ok (.getfield 28, 3) := by decide +kernel
theorem dX7_addWord_8 : decode cX7_addWord 8 = .ok (.iload_n 1, 1) := by decide +kernel
theorem dX7_addWord_9 : decode cX7_addWord 9 = .ok (.iastore, 1) := by decide +kernel
theorem dX7_addWord_10 : decode cX7_addWord 10 = .ok (.aload_n 0, 1) := by decide +kernel
theorem dX7_addWord_11 : decode cX7_addWord 11 = .ok (.getfield 15, 3) := by decide +kernel
theorem dX7_addWord_14 : decode cX7_addWord 14 = .ok (.aload_n 0, 1) := by decide +kernel
theorem dX7_addWord_15 : decode cX7_addWord 15 = .ok (.getfield 28, 3) := by decide +kernel
theorem dX7_addWord_18 : decode cX7_addWord 18 = .ok (.iload_n 2, 1) := by decide +kernel
theorem dX7_addWord_19 : decode cX7_addWord 19 = .ok (.iastore, 1) := by decide +kernel
theorem dX7_addWord_20 : decode cX7_addWord 20 = .ok (.aload_n 0, 1) := by decide +kernel
theorem dX7_addWord_21 : decode cX7_addWord 21 = .ok (.getfield 18, 3) := by decide +kernel
theorem dX7_addWord_24 : decode cX7_addWord 24 = .ok (.aload_n 0, 1) := by decide +kernel
theorem dX7_addWord_25 : decode cX7_addWord 25 = .ok (.getfield 28, 3) := by decide +kernel
theorem dX7_addWord_28 : decode cX7_addWord 28 = .ok (.iload_n 3, 1) := by decide +kernel
theorem dX7_addWord_29 : decode cX7_addWord 29 = .ok (.bastore, 1) := by decide +kernel
theorem dX7_addWord_30 : decode cX7_addWord 30 = .ok (.aload_n 0, 1) := by decide +kernel
theorem dX7_addWord_31 : decode cX7_addWord 31 = .ok (.getfield 22, 3) := by decide +kernel
theorem dX7_addWord_34 : decode cX7_addWord 34 = .ok (.aload_n 0, 1) := by decide +kernel
theorem dX7_addWord_35 : decode cX7_addWord 35 = .ok (.getfield 28, 3) := by decide +kernel
theorem dX7_addWord_38 : decode cX7_addWord 38 = .ok (.iload 4, 2) := by decide +kernel
theorem dX7_addWord_40 : decode cX7_addWord 40 = .ok (.bastore, 1) := by decide +kernel
theorem dX7_addWord_41 : decode cX7_addWord 41 = .ok (.aload_n 0, 1) := by decide +kernel
theorem dX7_addWord_42 : decode cX7_addWord 42 = .ok (.getfield 25, 3) := by decide +kernel
theorem dX7_addWord_45 : decode cX7_addWord 45 = .ok (.aload_n 0, 1) := by decide +kernel
theorem dX7_addWord_46 : decode cX7_addWord 46 = .ok (.getfield 28, 3) := by decide +kernel
theorem dX7_addWord_49 : decode cX7_addWord 49 = .ok (.iload 5, 2) := by decide +kernel
theorem dX7_addWord_51 : decode cX7_addWord 51 = .ok (.iastore, 1) := by decide +kernel
theorem dX7_addWord_52 : decode cX7_addWord 52 = .ok (.aload_n 0, 1) := by decide +kernel
theorem dX7_addWord_53 : decode cX7_addWord 53 = .ok (.dup, 1) := by decide +kernel
theorem dX7_addWord_54 : decode cX7_addWord 54 = .ok (.getfield 28, 3) := by decide +kernel
theorem dX7_addWord_57 : decode cX7_addWord 57 = .ok (.iconst 1, 1) := by decide +kernel
theorem dX7_addWord_58 : decode cX7_addWord 58 = .ok (.iadd, 1) := by decide +kernel
theorem dX7_addWord_59 : decode cX7_addWord 59 = .ok (.putfield 28, 3) := by decide +kernel
theorem dX7_addWord_62 : decode cX7_addWord 62 = .ok (.aload_n 0, 1) := by decide +kernel
theorem dX7_addWord_63 : decode cX7_addWord 63 = .ok (.getfield 28, 3) := by decide +kernel
theorem dX7_addWord_66 : decode cX7_addWord 66 = .ok (.ireturn, 1) := by decide +kernel
theorem dX7_latest_0 : decode cX7_latest 0 = .ok (.iconst (-1), 1) := by decide +kernel
theorem dX7_latest_1 : decode cX7_latest 1 = .ok (.istore 6, 2) := by decide +kernel
theorem dX7_latest_3 : decode cX7_latest 3 = .ok (.iconst 0, 1) := by decide +kernel
theorem dX7_latest_4 : decode cX7_latest 4 = .ok (.istore 7, 2) := by decide +kernel
theorem dX7_latest_6 : decode cX7_latest 6 = .ok (.iload 7, 2) := by decide +kernel
theorem dX7_latest_8 : decode cX7_latest 8 = .ok (.aload_n 0, 1) := by decide +kernel
theorem dX7_latest_9 : decode cX7_latest 9 = .ok (.getfield 28, 3) := by decide +kernel
theorem dX7_latest_12 : decode cX7_latest 12 = .ok (.if_icmp .ge 96, 3) := by decide +kernel
theorem dX7_latest_15 : decode cX7_latest 15 = .ok (.aload_n 0, 1) := by decide +kernel
theorem dX7_latest_16 : decode cX7_latest 16 = .ok (.getfield 9, 3) := by decide +kernel
theorem dX7_latest_19 : decode cX7_latest 19 = .ok (.iload 7, 2) := by decide +kernel
theorem dX7_latest_21 : decode cX7_latest 21 = .ok (.iaload, 1) := by decide +kernel
theorem dX7_latest_22 : decode cX7_latest 22 = .ok (.iload_n 1, 1) := by decide +kernel
theorem dX7_latest_23 : decode cX7_latest 23 = .ok (.if_icmp .ne 79, 3) := by decide +kernel
theorem dX7_latest_26 : decode cX7_latest 26 = .ok (.aload_n 0, 1) := by decide +kernel
theorem dX7_latest_27 : decode cX7_latest 27 = .ok (.getfield 15, 3) := by decide +kernel
theorem dX7_latest_30 : decode cX7_latest 30 = .ok (.iload 7, 2) := by decide +kernel
theorem dX7_latest_32 : decode cX7_latest 32 = .ok (.iaload, 1) := by decide +kernel
theorem dX7_latest_33 : decode cX7_latest 33 = .ok (.iload_n 2, 1) := by decide +kernel
theorem dX7_latest_34 : decode cX7_latest 34 = .ok (.if_icmp .ne 68, 3) := by decide +kernel
theorem dX7_latest_37 : decode cX7_latest 37 = .ok (.aload_n 0, 1) := by decide +kernel
theorem dX7_latest_38 : decode cX7_latest 38 = .ok (.getfield 18, 3) := by decide +kernel
theorem dX7_latest_41 : decode cX7_latest 41 = .ok (.iload 7, 2) := by decide +kernel
theorem dX7_latest_43 : decode cX7_latest 43 = .ok (.baload, 1) := by decide +kernel
theorem dX7_latest_44 : decode cX7_latest 44 = .ok (.iload_n 3, 1) := by decide +kernel
theorem dX7_latest_45 : decode cX7_latest 45 = .ok (.if_icmp .eq 6, 3) := by decide +kernel
theorem dX7_latest_48 : decode cX7_latest 48 = .ok (.goto 54, 3) := by decide +kernel
theorem dX7_latest_51 : decode cX7_latest 51 = .ok (.aload_n 0, 1) := by decide +kernel
theorem dX7_latest_52 : decode cX7_latest 52 = .ok (.getfield 25, 3) := by decide +kernel
theorem dX7_latest_55 : decode cX7_latest 55 = .ok (.iload 7, 2) := by decide +kernel
theorem dX7_latest_57 : decode cX7_latest 57 = .ok (.iaload, 1) := by decide +kernel
theorem dX7_latest_58 : decode cX7_latest 58 = .ok (.iload 4, 2) := by decide +kernel
theorem dX7_latest_60 : decode cX7_latest 60 = .ok (.if_icmp .gt 42, 3) := by decide +kernel
theorem dX7_latest_63 : decode cX7_latest 63 = .ok (.iload 5, 2) := by decide +kernel
theorem dX7_latest_65 : decode cX7_latest 65 = .ok (.iload 7, 2) := by decide +kernel
theorem dX7_latest_67 : decode cX7_latest 67 = .ok (.ishr, 1) := by decide +kernel
theorem dX7_latest_68 : decode cX7_latest 68 = .ok (.iconst 1, 1) := by decide +kernel
theorem dX7_latest_69 : decode cX7_latest 69 = .ok (.iand, 1) := by decide +kernel
theorem dX7_latest_70 : decode cX7_latest 70 = .ok (.ifCond .eq 6, 3) := by decide +kernel
theorem dX7_latest_73 : decode cX7_latest 73 = .ok (.goto 29, 3) := by decide +kernel
theorem dX7_latest_76 : decode cX7_latest 76 = .ok (.iload 6, 2) := by decide +kernel
theorem dX7_latest_78 : decode cX7_latest 78 = .ok (.ifCond .lt 20, 3) := by decide +kernel
theorem dX7_latest_81 : decode cX7_latest 81 = .ok (.aload_n 0, 1) := by decide +kernel
theorem dX7_latest_82 : decode cX7_latest 82 = .ok (.getfield 25, 3) := by decide +kernel
theorem dX7_latest_85 : decode cX7_latest 85 = .ok (.iload 7, 2) := by decide +kernel
theorem dX7_latest_87 : decode cX7_latest 87 = .ok (.iaload, 1) := by decide +kernel
theorem dX7_latest_88 : decode cX7_latest 88 = .ok (.aload_n 0, 1) := by decide +kernel
theorem dX7_latest_89 : decode cX7_latest 89 = .ok (.getfield 25, 3) := by decide +kernel
theorem dX7_latest_92 : decode cX7_latest 92 = .ok (.iload 6, 2) := by decide +kernel
theorem dX7_latest_94 : decode cX7_latest 94 = .ok (.iaload, 1) := by decide +kernel
theorem dX7_latest_95 : decode cX7_latest 95 = .ok (.if_icmp .lt 7, 3) := by decide +kernel
theorem dX7_latest_98 : decode cX7_latest 98 = .ok (.iload 7, 2) := by decide +kernel
theorem dX7_latest_100 : decode cX7_latest 100 = .ok (.istore 6, 2) := by decide +kernel
theorem dX7_latest_102 : decode cX7_latest 102 = .ok (.iinc 7 1, 3) := by decide +kernel
theorem dX7_latest_105 : decode cX7_latest 105 = .ok (.goto (-99), 3) := by decide +kernel
theorem dX7_latest_108 : decode cX7_latest 108 = .ok (.iload 6, 2) := by decide +kernel
theorem dX7_latest_110 : decode cX7_latest 110 = .ok (.ifCond .ge 5, 3) := by decide +kernel
theorem dX7_latest_113 : decode cX7_latest 113 = .ok (.iconst (-1), 1) := by decide +kernel
theorem dX7_latest_114 : decode cX7_latest 114 = .ok (.ireturn, 1) := by decide +kernel
theorem dX7_latest_115 : decode cX7_latest 115 = .ok (.aload_n 0, 1) := by decide +kernel
theorem dX7_latest_116 : decode cX7_latest 116 = .ok (.getfield 22, 3) := by decide +kernel
theorem dX7_latest_119 : decode cX7_latest 119 = .ok (.iload 6, 2) := by decide +kernel
theorem dX7_latest_121 : decode cX7_latest 121 = .ok (.baload, 1) := by decide +kernel
theorem dX7_latest_122 : decode cX7_latest 122 = .ok (.ifCond .eq 7, 3) := by decide +kernel
theorem dX7_latest_125 : decode cX7_latest 125 = .ok (.iconst 1, 1) := by decide +kernel
theorem dX7_latest_126 : decode cX7_latest 126 = .ok (.goto 4, 3) := by decide +kernel
theorem dX7_latest_129 : decode cX7_latest 129 = .ok (.iconst 0, 1) := by decide +kernel
theorem dX7_latest_130 : decode cX7_latest 130 = .ok (.ireturn, 1) := by decide +kernel
theorem dX7_firstYes_0 : decode cX7_firstYes 0 = .ok (.sipush 1000, 3) := by decide +kernel
theorem dX7_firstYes_3 : decode cX7_firstYes 3 = .ok (.istore 4, 2) := by decide +kernel
theorem dX7_firstYes_5 : decode cX7_firstYes 5 = .ok (.iconst 0, 1) := by decide +kernel
theorem dX7_firstYes_6 : decode cX7_firstYes 6 = .ok (.istore 5, 2) := by decide +kernel
theorem dX7_firstYes_8 : decode cX7_firstYes 8 = .ok (.iload 5, 2) := by decide +kernel
theorem dX7_firstYes_10 : decode cX7_firstYes 10 = .ok (.aload_n 0, 1) := by decide +kernel
theorem dX7_firstYes_11 : decode cX7_firstYes 11 = .ok (.getfield 28, 3) := by decide +kernel
theorem dX7_firstYes_14 : decode cX7_firstYes 14 = .ok (.if_icmp .ge 84, 3) := by decide +kernel
theorem dX7_firstYes_17 : decode cX7_firstYes 17 = .ok (.aload_n 0, 1) := by decide +kernel
theorem dX7_firstYes_18 : decode cX7_firstYes 18 = .ok (.getfield 9, 3) := by decide +kernel
theorem dX7_firstYes_21 : decode cX7_firstYes 21 = .ok (.iload 5, 2) := by decide +kernel
theorem dX7_firstYes_23 : decode cX7_firstYes 23 = .ok (.iaload, 1) := by decide +kernel
theorem dX7_firstYes_24 : decode cX7_firstYes 24 = .ok (.iload_n 1, 1) := by decide +kernel
theorem dX7_firstYes_25 : decode cX7_firstYes 25 = .ok (.if_icmp .ne 67, 3) := by decide +kernel
theorem dX7_firstYes_28 : decode cX7_firstYes 28 = .ok (.aload_n 0, 1) := by decide +kernel
theorem dX7_firstYes_29 : decode cX7_firstYes 29 = .ok (.getfield 15, 3) := by decide +kernel
theorem dX7_firstYes_32 : decode cX7_firstYes 32 = .ok (.iload 5, 2) := by decide +kernel
theorem dX7_firstYes_34 : decode cX7_firstYes 34 = .ok (.iaload, 1) := by decide +kernel
theorem dX7_firstYes_35 : decode cX7_firstYes 35 = .ok (.iload_n 2, 1) := by decide +kernel
theorem dX7_firstYes_36 : decode cX7_firstYes 36 = .ok (.if_icmp .ne 56, 3) := by decide +kernel
theorem dX7_firstYes_39 : decode cX7_firstYes 39 = .ok (.aload_n 0, 1) := by decide +kernel
theorem dX7_firstYes_40 : decode cX7_firstYes 40 = .ok (.getfield 18, 3) := by decide +kernel
theorem dX7_firstYes_43 : decode cX7_firstYes 43 = .ok (.iload 5, 2) := by decide +kernel
theorem dX7_firstYes_45 : decode cX7_firstYes 45 = .ok (.baload, 1) := by decide +kernel
theorem dX7_firstYes_46 : decode cX7_firstYes 46 = .ok (.ifCond .ne 46, 3) := by decide +kernel
theorem dX7_firstYes_49 : decode cX7_firstYes 49 = .ok (.aload_n 0, 1) := by decide +kernel
theorem dX7_firstYes_50 : decode cX7_firstYes 50 = .ok (.getfield 22, 3) := by decide +kernel
theorem dX7_firstYes_53 : decode cX7_firstYes 53 = .ok (.iload 5, 2) := by decide +kernel
theorem dX7_firstYes_55 : decode cX7_firstYes 55 = .ok (.baload, 1) := by decide +kernel
theorem dX7_firstYes_56 : decode cX7_firstYes 56 = .ok (.ifCond .ne 6, 3) := by decide +kernel
theorem dX7_firstYes_59 : decode cX7_firstYes 59 = .ok (.goto 33, 3) := by decide +kernel
theorem dX7_firstYes_62 : decode cX7_firstYes 62 = .ok (.iload_n 3, 1) := by decide +kernel
theorem dX7_firstYes_63 : decode cX7_firstYes 63 = .ok (.iload 5, 2) := by decide +kernel
theorem dX7_firstYes_65 : decode cX7_firstYes 65 = .ok (.ishr, 1) := by decide +kernel
theorem dX7_firstYes_66 : decode cX7_firstYes 66 = .ok (.iconst 1, 1) := by decide +kernel
theorem dX7_firstYes_67 : decode cX7_firstYes 67 = .ok (.iand, 1) := by decide +kernel
theorem dX7_firstYes_68 : decode cX7_firstYes 68 = .ok (.ifCond .ne 24, 3) := by decide +kernel
theorem dX7_firstYes_71 : decode cX7_firstYes 71 = .ok (.aload_n 0, 1) := by decide +kernel
theorem dX7_firstYes_72 : decode cX7_firstYes 72 = .ok (.getfield 25, 3) := by decide +kernel
theorem dX7_firstYes_75 : decode cX7_firstYes 75 = .ok (.iload 5, 2) := by decide +kernel
theorem dX7_firstYes_77 : decode cX7_firstYes 77 = .ok (.iaload, 1) := by decide +kernel
theorem dX7_firstYes_78 : decode cX7_firstYes 78 = .ok (.iload 4, 2) := by decide +kernel
theorem dX7_firstYes_80 : decode cX7_firstYes 80 = .ok (.if_icmp .ge 12, 3) := by decide +kernel
theorem dX7_firstYes_83 : decode cX7_firstYes 83 = .ok (.aload_n 0, 1) := by decide +kernel
theorem dX7_firstYes_84 : decode cX7_firstYes 84 = .ok (.getfield 25, 3) := by decide +kernel
theorem dX7_firstYes_87 : decode cX7_firstYes 87 = .ok (.iload 5, 2) := by decide +kernel
theorem dX7_firstYes_89 : decode cX7_firstYes 89 = .ok (.iaload, 1) := by decide +kernel
theorem dX7_firstYes_90 : decode cX7_firstYes 90 = .ok (.istore 4, 2) := by decide +kernel
theorem dX7_firstYes_92 : decode cX7_firstYes 92 = .ok (.iinc 5 1, 3) := by decide +kernel
theorem dX7_firstYes_95 : decode cX7_firstYes 95 = .ok (.goto (-87), 3) := by decide +kernel
theorem dX7_firstYes_98 : decode cX7_firstYes 98 = .ok (.iload 4, 2) := by decide +kernel
theorem dX7_firstYes_100 : decode cX7_firstYes 100 = .ok (.ireturn, 1) := by decide +kernel
theorem dX7_firstWordsAbout_0 : decode cX7_firstWordsAbout 0 = .ok (.iconst 0, 1) := by decide +kernel
theorem dX7_firstWordsAbout_1 : decode cX7_firstWordsAbout 1 = .ok (.istore_n 2, 1) := by decide +kernel
theorem dX7_firstWordsAbout_2 : decode cX7_firstWordsAbout 2 = .ok (.iconst 0, 1) := by decide +kernel
theorem dX7_firstWordsAbout_3 : decode cX7_firstWordsAbout 3 = .ok (.istore_n 3, 1) := by decide +kernel
theorem dX7_firstWordsAbout_4 : decode cX7_firstWordsAbout 4 = .ok (.iload_n 3, 1) := by decide +kernel
theorem dX7_firstWordsAbout_5 : decode cX7_firstWordsAbout 5 = .ok (.aload_n 0, 1) := by decide +kernel
theorem dX7_firstWordsAbout_6 : decode cX7_firstWordsAbout 6 = .ok (.getfield 28, 3) := by decide +kernel
theorem dX7_firstWordsAbout_9 : decode cX7_firstWordsAbout 9 = .ok (.if_icmp .ge 31, 3) := by decide +kernel
theorem dX7_firstWordsAbout_12 : decode cX7_firstWordsAbout 12 = .ok (.iload_n 3, 1) := by decide +kernel
theorem dX7_firstWordsAbout_13 : decode cX7_firstWordsAbout 13 = .ok (.bipush 10, 2) := by decide +kernel
theorem dX7_firstWordsAbout_15 : decode cX7_firstWordsAbout 15 = .ok (.if_icmp .ge 25, 3) := by decide +kernel
theorem dX7_firstWordsAbout_18 : decode cX7_firstWordsAbout 18 = .ok (.aload_n 0, 1) := by decide +kernel
theorem dX7_firstWordsAbout_19 : decode cX7_firstWordsAbout 19 = .ok (.getfield 9, 3) := by decide +kernel
theorem dX7_firstWordsAbout_22 : decode cX7_firstWordsAbout 22 = .ok (.iload_n 3, 1) := by decide +kernel
theorem dX7_firstWordsAbout_23 : decode cX7_firstWordsAbout 23 = .ok (.iaload, 1) := by decide +kernel
theorem dX7_firstWordsAbout_24 : decode cX7_firstWordsAbout 24 = .ok (.iload_n 1, 1) := by decide +kernel
theorem dX7_firstWordsAbout_25 : decode cX7_firstWordsAbout 25 = .ok (.if_icmp .ne 9, 3) := by decide +kernel
theorem dX7_firstWordsAbout_28 : decode cX7_firstWordsAbout 28 = .ok (.iload_n 2, 1) := by decide +kernel
theorem dX7_firstWordsAbout_29 : decode cX7_firstWordsAbout 29 = .ok (.iconst 1, 1) := by decide +kernel
theorem dX7_firstWordsAbout_30 : decode cX7_firstWordsAbout 30 = .ok (.iload_n 3, 1) := by decide +kernel
theorem dX7_firstWordsAbout_31 : decode cX7_firstWordsAbout 31 = .ok (.ishl, 1) := by decide +kernel
theorem dX7_firstWordsAbout_32 : decode cX7_firstWordsAbout 32 = .ok (.ior, 1) := by decide +kernel
theorem dX7_firstWordsAbout_33 : decode cX7_firstWordsAbout 33 = .ok (.istore_n 2, 1) := by decide +kernel
theorem dX7_firstWordsAbout_34 : decode cX7_firstWordsAbout 34 = .ok (.iinc 3 1, 3) := by decide +kernel
theorem dX7_firstWordsAbout_37 : decode cX7_firstWordsAbout 37 = .ok (.goto (-33), 3) := by decide +kernel
theorem dX7_firstWordsAbout_40 : decode cX7_firstWordsAbout 40 = .ok (.iload_n 2, 1) := by decide +kernel
theorem dX7_firstWordsAbout_41 : decode cX7_firstWordsAbout 41 = .ok (.ireturn, 1) := by decide +kernel
theorem dX8_ground_0 : decode cX8_ground 0 = .ok (.iload_n 1, 1) := by decide +kernel
theorem dX8_ground_1 : decode cX8_ground 1 = .ok (.iconst 1, 1) := by decide +kernel
theorem dX8_ground_2 : decode cX8_ground 2 = .ok (.if_icmp .lt 21, 3) := by decide +kernel
theorem dX8_ground_5 : decode cX8_ground 5 = .ok (.iload_n 1, 1) := by decide +kernel
theorem dX8_ground_6 : decode cX8_ground 6 = .ok (.sipush 999, 3) := by decide +kernel
theorem dX8_ground_9 : decode cX8_ground 9 = .ok (.if_icmp .gt 14, 3) := by decide +kernel
theorem dX8_ground_12 : decode cX8_ground 12 = .ok (.iload_n 2, 1) := by decide +kernel
theorem dX8_ground_13 : decode cX8_ground 13 = .ok (.ifCond .lt 10, 3) := by decide +kernel
theorem dX8_ground_16 : decode cX8_ground 16 = .ok (.iload_n 2, 1) := by decide +kernel
theorem dX8_ground_17 : decode cX8_ground 17 = .ok (.sipush 999, 3) := by decide +kernel
theorem dX8_ground_20 : decode cX8_ground 20 = .ok (.if_icmp .le 6, 3) := by decide +kernel
theorem dX8_ground_23 : decode cX8_ground 23 = .ok (.bipush (-3), 2) := by decide +kernel
theorem dX8_ground_25 : decode cX8_ground 25 = .ok (.ireturn, 1) := by decide +kernel
theorem dX8_ground_26 : decode cX8_ground 26 = .ok (.aload_n 0, 1) := by decide +kernel
theorem dX8_ground_27 : decode cX8_ground 27 = .ok (.getfield 10, 3) := by decide +kernel
theorem dX8_ground_30 : decode cX8_ground 30 = .ok (.getfield 69, 3) := by decide +kernel
theorem dX8_ground_33 : decode cX8_ground 33 = .ok (.ifCond .le 6, 3) := by decide +kernel
theorem dX8_ground_36 : decode cX8_ground 36 = .ok (.bipush (-4), 2) := by decide +kernel
theorem dX8_ground_38 : decode cX8_ground 38 = .ok (.ireturn, 1) := by decide +kernel
theorem dX8_ground_39 : decode cX8_ground 39 = .ok (.aload_n 0, 1) := by decide +kernel
theorem dX8_ground_40 : decode cX8_ground 40 = .ok (.getfield 10, 3) := by decide +kernel
theorem dX8_ground_43 : decode cX8_ground 43 = .ok (.getfield 73, 3) := by decide +kernel
theorem dX8_ground_46 : decode cX8_ground 46 = .ok (.bipush 8, 2) := by decide +kernel
theorem dX8_ground_48 : decode cX8_ground 48 = .ok (.if_icmp .lt 6, 3) := by decide +kernel
theorem dX8_ground_51 : decode cX8_ground 51 = .ok (.bipush (-5), 2) := by decide +kernel
theorem dX8_ground_53 : decode cX8_ground 53 = .ok (.ireturn, 1) := by decide +kernel
theorem dX8_ground_54 : decode cX8_ground 54 = .ok (.aload_n 0, 1) := by decide +kernel
theorem dX8_ground_55 : decode cX8_ground 55 = .ok (.getfield 10, 3) := by decide +kernel
theorem dX8_ground_58 : decode cX8_ground 58 = .ok (.iload_n 1, 1) := by decide +kernel
theorem dX8_ground_59 : decode cX8_ground 59 = .ok (.iload_n 2, 1) := by decide +kernel
theorem dX8_ground_60 : decode cX8_ground 60 = .ok (.invokevirtual 76, 3) := by decide +kernel
theorem dX8_ground_63 : decode cX8_ground 63 = .ok (.ireturn, 1) := by decide +kernel
theorem dX8_change_0 : decode cX8_change 0 = .ok (.iload_n 1, 1) := by decide +kernel
theorem dX8_change_1 : decode cX8_change 1 = .ok (.ifCond .lt 16, 3) := by decide +kernel
theorem dX8_change_4 : decode cX8_change 4 = .ok (.iload_n 1, 1) := by decide +kernel
theorem dX8_change_5 : decode cX8_change 5 = .ok (.iconst 4, 1) := by decide +kernel
theorem dX8_change_6 : decode cX8_change 6 = .ok (.if_icmp .gt 11, 3) := by decide +kernel
theorem dX8_change_9 : decode cX8_change 9 = .ok (.aload_n 0, 1) := by decide +kernel
theorem dX8_change_10 : decode cX8_change 10 = .ok (.iload_n 2, 1) := by decide +kernel
theorem dX8_change_11 : decode cX8_change 11 = .ok (.invokevirtual 80, 3) := by decide +kernel
theorem dX8_change_14 : decode cX8_change 14 = .ok (.ifCond .ne 6, 3) := by decide +kernel
theorem dX8_change_17 : decode cX8_change 17 = .ok (.bipush (-3), 2) := by decide +kernel
theorem dX8_change_19 : decode cX8_change 19 = .ok (.ireturn, 1) := by decide +kernel
theorem dX8_change_20 : decode cX8_change 20 = .ok (.aload_n 0, 1) := by decide +kernel
theorem dX8_change_21 : decode cX8_change 21 = .ok (.getfield 10, 3) := by decide +kernel
theorem dX8_change_24 : decode cX8_change 24 = .ok (.getfield 69, 3) := by decide +kernel
theorem dX8_change_27 : decode cX8_change 27 = .ok (.istore 6, 2) := by decide +kernel
theorem dX8_change_29 : decode cX8_change 29 = .ok (.iload_n 1, 1) := by decide +kernel
theorem dX8_change_30 : decode cX8_change 30 = .ok (.iconst 2, 1) := by decide +kernel
theorem dX8_change_31 : decode cX8_change 31 = .ok (.if_icmp .eq 8, 3) := by decide +kernel
theorem dX8_change_34 : decode cX8_change 34 = .ok (.iload_n 1, 1) := by decide +kernel
theorem dX8_change_35 : decode cX8_change 35 = .ok (.iconst 3, 1) := by decide +kernel
theorem dX8_change_36 : decode cX8_change 36 = .ok (.if_icmp .ne 7, 3) := by decide +kernel
theorem dX8_change_39 : decode cX8_change 39 = .ok (.iconst 1, 1) := by decide +kernel
theorem dX8_change_40 : decode cX8_change 40 = .ok (.goto 4, 3) := by decide +kernel
theorem dX8_change_43 : decode cX8_change 43 = .ok (.iconst 0, 1) := by decide +kernel
theorem dX8_change_44 : decode cX8_change 44 = .ok (.istore 7, 2) := by decide +kernel
theorem dX8_change_46 : decode cX8_change 46 = .ok (.aload_n 0, 1) := by decide +kernel
theorem dX8_change_47 : decode cX8_change 47 = .ok (.getfield 10, 3) := by decide +kernel
theorem dX8_change_50 : decode cX8_change 50 = .ok (.iload_n 3, 1) := by decide +kernel
theorem dX8_change_51 : decode cX8_change 51 = .ok (.iload 6, 2) := by decide +kernel
theorem dX8_change_53 : decode cX8_change 53 = .ok (.invokevirtual 84, 3) := by decide +kernel
theorem dX8_change_56 : decode cX8_change 56 = .ok (.ifCond .eq 22, 3) := by decide +kernel
theorem dX8_change_59 : decode cX8_change 59 = .ok (.iload 7, 2) := by decide +kernel
theorem dX8_change_61 : decode cX8_change 61 = .ok (.ifCond .eq 20, 3) := by decide +kernel
theorem dX8_change_64 : decode cX8_change 64 = .ok (.aload_n 0, 1) := by decide +kernel
theorem dX8_change_65 : decode cX8_change 65 = .ok (.getfield 10, 3) := by decide +kernel
theorem dX8_change_68 : decode cX8_change 68 = .ok (.iload 4, 2) := by decide +kernel
theorem dX8_change_70 : decode cX8_change 70 = .ok (.iload 6, 2) := by decide +kernel
theorem dX8_change_72 : decode cX8_change 72 = .ok (.invokevirtual 84, 3) := by decide +kernel
theorem dX8_change_75 : decode cX8_change 75 = .ok (.ifCond .ne 6, 3) := by decide +kernel
theorem dX8_change_78 : decode cX8_change 78 = .ok (.bipush (-2), 2) := by decide +kernel
theorem dX8_change_80 : decode cX8_change 80 = .ok (.ireturn, 1) := by decide +kernel
theorem dX8_change_81 : decode cX8_change 81 = .ok (.iload 7, 2) := by decide +kernel
theorem dX8_change_83 : decode cX8_change 83 = .ok (.ifCond .eq 12, 3) := by decide +kernel
theorem dX8_change_86 : decode cX8_change 86 = .ok (.iload_n 3, 1) := by decide +kernel
theorem dX8_change_87 : decode cX8_change 87 = .ok (.iload 4, 2) := by decide +kernel
theorem dX8_change_89 : decode cX8_change 89 = .ok (.if_icmp .ne 6, 3) := by decide +kernel
theorem dX8_change_92 : decode cX8_change 92 = .ok (.bipush (-4), 2) := by decide +kernel
theorem dX8_change_94 : decode cX8_change 94 = .ok (.ireturn, 1) := by decide +kernel
theorem dX8_change_95 : decode cX8_change 95 = .ok (.iload_n 1, 1) := by decide +kernel
theorem dX8_change_96 : decode cX8_change 96 = .ok (.ifCond .eq 13, 3) := by decide +kernel
theorem dX8_change_99 : decode cX8_change 99 = .ok (.iload_n 1, 1) := by decide +kernel
theorem dX8_change_100 : decode cX8_change 100 = .ok (.iconst 1, 1) := by decide +kernel
theorem dX8_change_101 : decode cX8_change 101 = .ok (.if_icmp .eq 8, 3) := by decide +kernel
theorem dX8_change_104 : decode cX8_change 104 = .ok (.iload_n 1, 1) := by decide +kernel
theorem dX8_change_105 : decode cX8_change 105 = .ok (.iconst 3, 1) := by decide +kernel
theorem dX8_change_106 : decode cX8_change 106 = .ok (.if_icmp .ne 19, 3) := by decide +kernel
theorem dX8_change_109 : decode cX8_change 109 = .ok (.aload_n 0, 1) := by decide +kernel
theorem dX8_change_110 : decode cX8_change 110 = .ok (.getfield 10, 3) := by decide +kernel
theorem dX8_change_113 : decode cX8_change 113 = .ok (.iload 5, 2) := by decide +kernel
theorem dX8_change_115 : decode cX8_change 115 = .ok (.iload_n 3, 1) := by decide +kernel
theorem dX8_change_116 : decode cX8_change 116 = .ok (.invokevirtual 88, 3) := by decide +kernel
theorem dX8_change_119 : decode cX8_change 119 = .ok (.ifCond .ne 6, 3) := by decide +kernel
theorem dX8_change_122 : decode cX8_change 122 = .ok (.bipush (-4), 2) := by decide +kernel
theorem dX8_change_124 : decode cX8_change 124 = .ok (.ireturn, 1) := by decide +kernel
theorem dX8_change_125 : decode cX8_change 125 = .ok (.iload_n 1, 1) := by decide +kernel
theorem dX8_change_126 : decode cX8_change 126 = .ok (.iconst 4, 1) := by decide +kernel
theorem dX8_change_127 : decode cX8_change 127 = .ok (.if_icmp .ne 19, 3) := by decide +kernel
theorem dX8_change_130 : decode cX8_change 130 = .ok (.aload_n 0, 1) := by decide +kernel
theorem dX8_change_131 : decode cX8_change 131 = .ok (.getfield 10, 3) := by decide +kernel
theorem dX8_change_134 : decode cX8_change 134 = .ok (.getfield 91, 3) := by decide +kernel
theorem dX8_change_137 : decode cX8_change 137 = .ok (.iload_n 3, 1) := by decide +kernel
theorem dX8_change_138 : decode cX8_change 138 = .ok (.iaload, 1) := by decide +kernel
theorem dX8_change_139 : decode cX8_change 139 = .ok (.iconst (-1), 1) := by decide +kernel
theorem dX8_change_140 : decode cX8_change 140 = .ok (.if_icmp .ne 6, 3) := by decide +kernel
theorem dX8_change_143 : decode cX8_change 143 = .ok (.bipush (-4), 2) := by decide +kernel
theorem dX8_change_145 : decode cX8_change 145 = .ok (.ireturn, 1) := by decide +kernel
theorem dX8_change_146 : decode cX8_change 146 = .ok (.iload 6, 2) := by decide +kernel
theorem dX8_change_148 : decode cX8_change 148 = .ok (.bipush 12, 2) := by decide +kernel
theorem dX8_change_150 : decode cX8_change 150 = .ok (.if_icmp .ge 20, 3) := by decide +kernel
theorem dX8_change_153 : decode cX8_change 153 = .ok (.aload_n 0, 1) := by decide +kernel
theorem dX8_change_154 : decode cX8_change 154 = .ok (.getfield 10, 3) := by decide +kernel
theorem dX8_change_157 : decode cX8_change 157 = .ok (.getfield 95, 3) := by decide +kernel
theorem dX8_change_160 : decode cX8_change 160 = .ok (.iload_n 1, 1) := by decide +kernel
theorem dX8_change_161 : decode cX8_change 161 = .ok (.invokestatic 98, 3) := by decide +kernel
theorem dX8_change_164 : decode cX8_change 164 = .ok (.iadd, 1) := by decide +kernel
theorem dX8_change_165 : decode cX8_change 165 = .ok (.bipush 10, 2) := by decide +kernel
theorem dX8_change_167 : decode cX8_change 167 = .ok (.if_icmp .le 6, 3) := by decide +kernel
theorem dX8_change_170 : decode cX8_change 170 = .ok (.bipush (-5), 2) := by decide +kernel
theorem dX8_change_172 : decode cX8_change 172 = .ok (.ireturn, 1) := by decide +kernel
theorem dX8_change_173 : decode cX8_change 173 = .ok (.aload_n 0, 1) := by decide +kernel
theorem dX8_change_174 : decode cX8_change 174 = .ok (.getfield 65, 3) := by decide +kernel
theorem dX8_change_177 : decode cX8_change 177 = .ok (.iload_n 2, 1) := by decide +kernel
theorem dX8_change_178 : decode cX8_change 178 = .ok (.invokevirtual 102, 3) := by decide +kernel
theorem dX8_change_181 : decode cX8_change 181 = .ok (.aload_n 0, 1) := by decide +kernel
theorem dX8_change_182 : decode cX8_change 182 = .ok (.getfield 10, 3) := by decide +kernel
theorem dX8_change_185 : decode cX8_change 185 = .ok (.iload_n 1, 1) := by decide +kernel
theorem dX8_change_186 : decode cX8_change 186 = .ok (.iload_n 2, 1) := by decide +kernel
theorem dX8_change_187 : decode cX8_change 187 = .ok (.iload_n 3, 1) := by decide +kernel
theorem dX8_change_188 : decode cX8_change 188 = .ok (.iload 4, 2) := by decide +kernel
theorem dX8_change_190 : decode cX8_change 190 = .ok (.iload 5, 2) := by decide +kernel
theorem dX8_change_192 : decode cX8_change 192 = .ok (.invokevirtual 106, 3) := by decide +kernel
theorem dX8_change_195 : decode cX8_change 195 = .ok (.ireturn, 1) := by decide +kernel
theorem dX8_lands_0 : decode cX8_lands 0 = .ok (.iload_n 1, 1) := by decide +kernel
theorem dX8_lands_1 : decode cX8_lands 1 = .ok (.invokestatic 110, 3) := by decide +kernel
theorem dX8_lands_4 : decode cX8_lands 4 = .ok (.ifCond .ne 6, 3) := by decide +kernel
theorem dX8_lands_7 : decode cX8_lands 7 = .ok (.bipush (-3), 2) := by decide +kernel
theorem dX8_lands_9 : decode cX8_lands 9 = .ok (.ireturn, 1) := by decide +kernel
theorem dX8_lands_10 : decode cX8_lands 10 = .ok (.aload_n 0, 1) := by decide +kernel
theorem dX8_lands_11 : decode cX8_lands 11 = .ok (.getfield 10, 3) := by decide +kernel
theorem dX8_lands_14 : decode cX8_lands 14 = .ok (.getfield 113, 3) := by decide +kernel
theorem dX8_lands_17 : decode cX8_lands 17 = .ok (.aload_n 0, 1) := by decide +kernel
theorem dX8_lands_18 : decode cX8_lands 18 = .ok (.getfield 10, 3) := by decide +kernel
theorem dX8_lands_21 : decode cX8_lands 21 = .ok (.iload_n 1, 1) := by decide +kernel
theorem dX8_lands_22 : decode cX8_lands 22 = .ok (.invokevirtual 116, 3) := by decide +kernel
theorem dX8_lands_25 : decode cX8_lands 25 = .ok (.iaload, 1) := by decide +kernel
theorem dX8_lands_26 : decode cX8_lands 26 = .ok (.ireturn, 1) := by decide +kernel
theorem dX8_has_0 : decode cX8_has 0 = .ok (.aload_n 0, 1) := by decide +kernel
theorem dX8_has_1 : decode cX8_has 1 = .ok (.getfield 10, 3) := by decide +kernel
theorem dX8_has_4 : decode cX8_has 4 = .ok (.iload_n 1, 1) := by decide +kernel
theorem dX8_has_5 : decode cX8_has 5 = .ok (.invokevirtual 119, 3) := by decide +kernel
theorem dX8_has_8 : decode cX8_has 8 = .ok (.ifCond .ne 6, 3) := by decide +kernel
theorem dX8_has_11 : decode cX8_has 11 = .ok (.bipush (-2), 2) := by decide +kernel
theorem dX8_has_13 : decode cX8_has 13 = .ok (.ireturn, 1) := by decide +kernel
theorem dX8_has_14 : decode cX8_has 14 = .ok (.iload_n 2, 1) := by decide +kernel
theorem dX8_has_15 : decode cX8_has 15 = .ok (.invokestatic 110, 3) := by decide +kernel
theorem dX8_has_18 : decode cX8_has 18 = .ok (.ifCond .ne 6, 3) := by decide +kernel
theorem dX8_has_21 : decode cX8_has 21 = .ok (.bipush (-3), 2) := by decide +kernel
theorem dX8_has_23 : decode cX8_has 23 = .ok (.ireturn, 1) := by decide +kernel
theorem dX8_has_24 : decode cX8_has 24 = .ok (.aload_n 0, 1) := by decide +kernel
theorem dX8_has_25 : decode cX8_has 25 = .ok (.getfield 10, 3) := by decide +kernel
theorem dX8_has_28 : decode cX8_has 28 = .ok (.getfield 122, 3) := by decide +kernel
theorem dX8_has_31 : decode cX8_has 31 = .ok (.aload_n 0, 1) := by decide +kernel
theorem dX8_has_32 : decode cX8_has 32 = .ok (.getfield 10, 3) := by decide +kernel
theorem dX8_has_35 : decode cX8_has 35 = .ok (.iload_n 2, 1) := by decide +kernel
theorem dX8_has_36 : decode cX8_has 36 = .ok (.invokevirtual 116, 3) := by decide +kernel
theorem dX8_has_39 : decode cX8_has 39 = .ok (.aaload, 1) := by decide +kernel
theorem dX8_has_40 : decode cX8_has 40 = .ok (.iload_n 1, 1) := by decide +kernel
theorem dX8_has_41 : decode cX8_has 41 = .ok (.iaload, 1) := by decide +kernel
theorem dX8_has_42 : decode cX8_has 42 = .ok (.ireturn, 1) := by decide +kernel
theorem dX8_whose_0 : decode cX8_whose 0 = .ok (.aload_n 0, 1) := by decide +kernel
theorem dX8_whose_1 : decode cX8_whose 1 = .ok (.getfield 10, 3) := by decide +kernel
theorem dX8_whose_4 : decode cX8_whose 4 = .ok (.iload_n 1, 1) := by decide +kernel
theorem dX8_whose_5 : decode cX8_whose 5 = .ok (.invokevirtual 126, 3) := by decide +kernel
theorem dX8_whose_8 : decode cX8_whose 8 = .ok (.ifCond .ne 6, 3) := by decide +kernel
theorem dX8_whose_11 : decode cX8_whose 11 = .ok (.bipush (-2), 2) := by decide +kernel
theorem dX8_whose_13 : decode cX8_whose 13 = .ok (.ireturn, 1) := by decide +kernel
theorem dX8_whose_14 : decode cX8_whose 14 = .ok (.iload_n 2, 1) := by decide +kernel
theorem dX8_whose_15 : decode cX8_whose 15 = .ok (.invokestatic 110, 3) := by decide +kernel
theorem dX8_whose_18 : decode cX8_whose 18 = .ok (.ifCond .ne 6, 3) := by decide +kernel
theorem dX8_whose_21 : decode cX8_whose 21 = .ok (.bipush (-3), 2) := by decide +kernel
theorem dX8_whose_23 : decode cX8_whose 23 = .ok (.ireturn, 1) := by decide +kernel
theorem dX8_whose_24 : decode cX8_whose 24 = .ok (.aload_n 0, 1) := by decide +kernel
theorem dX8_whose_25 : decode cX8_whose 25 = .ok (.getfield 10, 3) := by decide +kernel
theorem dX8_whose_28 : decode cX8_whose 28 = .ok (.iload_n 1, 1) := by decide +kernel
theorem dX8_whose_29 : decode cX8_whose 29 = .ok (.aload_n 0, 1) := by decide +kernel
theorem dX8_whose_30 : decode cX8_whose 30 = .ok (.getfield 10, 3) := by decide +kernel
theorem dX8_whose_33 : decode cX8_whose 33 = .ok (.iload_n 2, 1) := by decide +kernel
theorem dX8_whose_34 : decode cX8_whose 34 = .ok (.invokevirtual 116, 3) := by decide +kernel
theorem dX8_whose_37 : decode cX8_whose 37 = .ok (.invokevirtual 129, 3) := by decide +kernel
theorem dX8_whose_40 : decode cX8_whose 40 = .ok (.ireturn, 1) := by decide +kernel
theorem dX8_from_0 : decode cX8_from 0 = .ok (.aload_n 0, 1) := by decide +kernel
theorem dX8_from_1 : decode cX8_from 1 = .ok (.getfield 10, 3) := by decide +kernel
theorem dX8_from_4 : decode cX8_from 4 = .ok (.iload_n 1, 1) := by decide +kernel
theorem dX8_from_5 : decode cX8_from 5 = .ok (.invokevirtual 119, 3) := by decide +kernel
theorem dX8_from_8 : decode cX8_from 8 = .ok (.ifCond .ne 6, 3) := by decide +kernel
theorem dX8_from_11 : decode cX8_from 11 = .ok (.bipush (-2), 2) := by decide +kernel
theorem dX8_from_13 : decode cX8_from 13 = .ok (.ireturn, 1) := by decide +kernel
theorem dX8_from_14 : decode cX8_from 14 = .ok (.iload_n 2, 1) := by decide +kernel
theorem dX8_from_15 : decode cX8_from 15 = .ok (.ifCond .ne 13, 3) := by decide +kernel
theorem dX8_from_18 : decode cX8_from 18 = .ok (.aload_n 0, 1) := by decide +kernel
theorem dX8_from_19 : decode cX8_from 19 = .ok (.getfield 10, 3) := by decide +kernel
theorem dX8_from_22 : decode cX8_from 22 = .ok (.getfield 91, 3) := by decide +kernel
theorem dX8_from_25 : decode cX8_from 25 = .ok (.iload_n 1, 1) := by decide +kernel
theorem dX8_from_26 : decode cX8_from 26 = .ok (.iaload, 1) := by decide +kernel
theorem dX8_from_27 : decode cX8_from 27 = .ok (.ireturn, 1) := by decide +kernel
theorem dX8_from_28 : decode cX8_from 28 = .ok (.iload_n 2, 1) := by decide +kernel
theorem dX8_from_29 : decode cX8_from 29 = .ok (.iconst 1, 1) := by decide +kernel
theorem dX8_from_30 : decode cX8_from 30 = .ok (.if_icmp .ne 13, 3) := by decide +kernel
theorem dX8_from_33 : decode cX8_from 33 = .ok (.aload_n 0, 1) := by decide +kernel
theorem dX8_from_34 : decode cX8_from 34 = .ok (.getfield 10, 3) := by decide +kernel
theorem dX8_from_37 : decode cX8_from 37 = .ok (.getfield 132, 3) := by decide +kernel
theorem dX8_from_40 : decode cX8_from 40 = .ok (.iload_n 1, 1) := by decide +kernel
theorem dX8_from_41 : decode cX8_from 41 = .ok (.iaload, 1) := by decide +kernel
theorem dX8_from_42 : decode cX8_from 42 = .ok (.ireturn, 1) := by decide +kernel
theorem dX8_from_43 : decode cX8_from 43 = .ok (.bipush (-3), 2) := by decide +kernel
theorem dX8_from_45 : decode cX8_from 45 = .ok (.ireturn, 1) := by decide +kernel
theorem dX8_heir_0 : decode cX8_heir 0 = .ok (.aload_n 0, 1) := by decide +kernel
theorem dX8_heir_1 : decode cX8_heir 1 = .ok (.getfield 10, 3) := by decide +kernel
theorem dX8_heir_4 : decode cX8_heir 4 = .ok (.iload_n 1, 1) := by decide +kernel
theorem dX8_heir_5 : decode cX8_heir 5 = .ok (.invokevirtual 119, 3) := by decide +kernel
theorem dX8_heir_8 : decode cX8_heir 8 = .ok (.ifCond .ne 6, 3) := by decide +kernel
theorem dX8_heir_11 : decode cX8_heir 11 = .ok (.bipush (-2), 2) := by decide +kernel
theorem dX8_heir_13 : decode cX8_heir 13 = .ok (.ireturn, 1) := by decide +kernel
theorem dX8_heir_14 : decode cX8_heir 14 = .ok (.iload_n 2, 1) := by decide +kernel
theorem dX8_heir_15 : decode cX8_heir 15 = .ok (.invokestatic 110, 3) := by decide +kernel
theorem dX8_heir_18 : decode cX8_heir 18 = .ok (.ifCond .ne 6, 3) := by decide +kernel
theorem dX8_heir_21 : decode cX8_heir 21 = .ok (.bipush (-3), 2) := by decide +kernel
theorem dX8_heir_23 : decode cX8_heir 23 = .ok (.ireturn, 1) := by decide +kernel
theorem dX8_heir_24 : decode cX8_heir 24 = .ok (.aload_n 0, 1) := by decide +kernel
theorem dX8_heir_25 : decode cX8_heir 25 = .ok (.getfield 10, 3) := by decide +kernel
theorem dX8_heir_28 : decode cX8_heir 28 = .ok (.iload_n 1, 1) := by decide +kernel
theorem dX8_heir_29 : decode cX8_heir 29 = .ok (.iload_n 2, 1) := by decide +kernel
theorem dX8_heir_30 : decode cX8_heir 30 = .ok (.invokevirtual 135, 3) := by decide +kernel
theorem dX8_heir_33 : decode cX8_heir 33 = .ok (.ireturn, 1) := by decide +kernel
theorem dX8_write_0 : decode cX8_write 0 = .ok (.iload_n 3, 1) := by decide +kernel
theorem dX8_write_1 : decode cX8_write 1 = .ok (.iconst 1, 1) := by decide +kernel
theorem dX8_write_2 : decode cX8_write 2 = .ok (.if_icmp .lt 9, 3) := by decide +kernel
theorem dX8_write_5 : decode cX8_write 5 = .ok (.iload_n 3, 1) := by decide +kernel
theorem dX8_write_6 : decode cX8_write 6 = .ok (.bipush 8, 2) := by decide +kernel
theorem dX8_write_8 : decode cX8_write 8 = .ok (.if_icmp .le 6, 3) := by decide +kernel
theorem dX8_write_11 : decode cX8_write 11 = .ok (.bipush (-3), 2) := by decide +kernel
theorem dX8_write_13 : decode cX8_write 13 = .ok (.ireturn, 1) := by decide +kernel
theorem dX8_write_14 : decode cX8_write 14 = .ok (.aload_n 0, 1) := by decide +kernel
theorem dX8_write_15 : decode cX8_write 15 = .ok (.getfield 19, 3) := by decide +kernel
theorem dX8_write_18 : decode cX8_write 18 = .ok (.getfield 138, 3) := by decide +kernel
theorem dX8_write_21 : decode cX8_write 21 = .ok (.iload_n 3, 1) := by decide +kernel
theorem dX8_write_22 : decode cX8_write 22 = .ok (.iadd, 1) := by decide +kernel
theorem dX8_write_23 : decode cX8_write 23 = .ok (.sipush 160, 3) := by decide +kernel
theorem dX8_write_26 : decode cX8_write 26 = .ok (.if_icmp .le 6, 3) := by decide +kernel
theorem dX8_write_29 : decode cX8_write 29 = .ok (.bipush (-5), 2) := by decide +kernel
theorem dX8_write_31 : decode cX8_write 31 = .ok (.ireturn, 1) := by decide +kernel
theorem dX8_write_32 : decode cX8_write 32 = .ok (.aload_n 0, 1) := by decide +kernel
theorem dX8_write_33 : decode cX8_write 33 = .ok (.getfield 19, 3) := by decide +kernel
theorem dX8_write_36 : decode cX8_write 36 = .ok (.lload_n 1, 1) := by decide +kernel
theorem dX8_write_37 : decode cX8_write 37 = .ok (.iload_n 3, 1) := by decide +kernel
theorem dX8_write_38 : decode cX8_write 38 = .ok (.invokevirtual 141, 3) := by decide +kernel
theorem dX8_write_41 : decode cX8_write 41 = .ok (.ireturn, 1) := by decide +kernel
theorem dX8_erase_0 : decode cX8_erase 0 = .ok (.aload_n 0, 1) := by decide +kernel
theorem dX8_erase_1 : decode cX8_erase 1 = .ok (.getfield 19, 3) := by decide +kernel
theorem dX8_erase_4 : decode cX8_erase 4 = .ok (.invokevirtual 145, 3) := by decide +kernel
theorem dX8_erase_7 : decode cX8_erase 7 = .ok (.ireturn, 1) := by decide +kernel
theorem dX8_fault_0 : decode cX8_fault 0 = .ok (.aload_n 0, 1) := by decide +kernel
theorem dX8_fault_1 : decode cX8_fault 1 = .ok (.getfield 19, 3) := by decide +kernel
theorem dX8_fault_4 : decode cX8_fault 4 = .ok (.invokevirtual 149, 3) := by decide +kernel
theorem dX8_fault_7 : decode cX8_fault 7 = .ok (.ireturn, 1) := by decide +kernel
theorem dX8_rules_0 : decode cX8_rules 0 = .ok (.aload_n 0, 1) := by decide +kernel
theorem dX8_rules_1 : decode cX8_rules 1 = .ok (.getfield 19, 3) := by decide +kernel
theorem dX8_rules_4 : decode cX8_rules 4 = .ok (.invokevirtual 149, 3) := by decide +kernel
theorem dX8_rules_7 : decode cX8_rules 7 = .ok (.iconst (-1), 1) := by decide +kernel
theorem dX8_rules_8 : decode cX8_rules 8 = .ok (.if_icmp .eq 6, 3) := by decide +kernel
theorem dX8_rules_11 : decode cX8_rules 11 = .ok (.bipush (-4), 2) := by decide +kernel
theorem dX8_rules_13 : decode cX8_rules 13 = .ok (.ireturn, 1) := by decide +kernel
theorem dX8_rules_14 : decode cX8_rules 14 = .ok (.aload_n 0, 1) := by decide +kernel
theorem dX8_rules_15 : decode cX8_rules 15 = .ok (.getfield 19, 3) := by decide +kernel
theorem dX8_rules_18 : decode cX8_rules 18 = .ok (.invokevirtual 152, 3) := by decide +kernel
theorem dX8_rules_21 : decode cX8_rules 21 = .ok (.ireturn, 1) := by decide +kernel
theorem dX8_rule_0 : decode cX8_rule 0 = .ok (.iload_n 1, 1) := by decide +kernel
theorem dX8_rule_1 : decode cX8_rule 1 = .ok (.ifCond .lt 8, 3) := by decide +kernel
theorem dX8_rule_4 : decode cX8_rule 4 = .ok (.iload_n 1, 1) := by decide +kernel
theorem dX8_rule_5 : decode cX8_rule 5 = .ok (.iconst 5, 1) := by decide +kernel
theorem dX8_rule_6 : decode cX8_rule 6 = .ok (.if_icmp .lt 6, 3) := by decide +kernel
theorem dX8_rule_9 : decode cX8_rule 9 = .ok (.bipush (-3), 2) := by decide +kernel
theorem dX8_rule_11 : decode cX8_rule 11 = .ok (.ireturn, 1) := by decide +kernel
theorem dX8_rule_12 : decode cX8_rule 12 = .ok (.aload_n 0, 1) := by decide +kernel
theorem dX8_rule_13 : decode cX8_rule 13 = .ok (.getfield 19, 3) := by decide +kernel
theorem dX8_rule_16 : decode cX8_rule 16 = .ok (.getfield 155, 3) := by decide +kernel
theorem dX8_rule_19 : decode cX8_rule 19 = .ok (.iload_n 1, 1) := by decide +kernel
theorem dX8_rule_20 : decode cX8_rule 20 = .ok (.iaload, 1) := by decide +kernel
theorem dX8_rule_21 : decode cX8_rule 21 = .ok (.ireturn, 1) := by decide +kernel
theorem dX8_pact_0 : decode cX8_pact 0 = .ok (.aload_n 0, 1) := by decide +kernel
theorem dX8_pact_1 : decode cX8_pact 1 = .ok (.getfield 10, 3) := by decide +kernel
theorem dX8_pact_4 : decode cX8_pact 4 = .ok (.iload_n 2, 1) := by decide +kernel
theorem dX8_pact_5 : decode cX8_pact 5 = .ok (.invokevirtual 119, 3) := by decide +kernel
theorem dX8_pact_8 : decode cX8_pact 8 = .ok (.ifCond .eq 10, 3) := by decide +kernel
theorem dX8_pact_11 : decode cX8_pact 11 = .ok (.iload_n 3, 1) := by decide +kernel
theorem dX8_pact_12 : decode cX8_pact 12 = .ok (.invokestatic 158, 3) := by decide +kernel
theorem dX8_pact_15 : decode cX8_pact 15 = .ok (.ifCond .ne 6, 3) := by decide +kernel
theorem dX8_pact_18 : decode cX8_pact 18 = .ok (.bipush (-2), 2) := by decide +kernel
theorem dX8_pact_20 : decode cX8_pact 20 = .ok (.ireturn, 1) := by decide +kernel
theorem dX8_pact_21 : decode cX8_pact 21 = .ok (.iload_n 1, 1) := by decide +kernel
theorem dX8_pact_22 : decode cX8_pact 22 = .ok (.ifCond .ne 18, 3) := by decide +kernel
theorem dX8_pact_25 : decode cX8_pact 25 = .ok (.aload_n 0, 1) := by decide +kernel
theorem dX8_pact_26 : decode cX8_pact 26 = .ok (.getfield 10, 3) := by decide +kernel
theorem dX8_pact_29 : decode cX8_pact 29 = .ok (.iload 4, 2) := by decide +kernel
theorem dX8_pact_31 : decode cX8_pact 31 = .ok (.invokevirtual 126, 3) := by decide +kernel
theorem dX8_pact_34 : decode cX8_pact 34 = .ok (.ifCond .ne 6, 3) := by decide +kernel
theorem dX8_pact_37 : decode cX8_pact 37 = .ok (.bipush (-2), 2) := by decide +kernel
theorem dX8_pact_39 : decode cX8_pact 39 = .ok (.ireturn, 1) := by decide +kernel
theorem dX8_pact_40 : decode cX8_pact 40 = .ok (.iload_n 1, 1) := by decide +kernel
theorem dX8_pact_41 : decode cX8_pact 41 = .ok (.ifCond .lt 16, 3) := by decide +kernel
theorem dX8_pact_44 : decode cX8_pact 44 = .ok (.iload_n 1, 1) := by decide +kernel
theorem dX8_pact_45 : decode cX8_pact 45 = .ok (.iconst 2, 1) := by decide +kernel
theorem dX8_pact_46 : decode cX8_pact 46 = .ok (.if_icmp .gt 11, 3) := by decide +kernel
theorem dX8_pact_49 : decode cX8_pact 49 = .ok (.iload 5, 2) := by decide +kernel
theorem dX8_pact_51 : decode cX8_pact 51 = .ok (.invokestatic 110, 3) := by decide +kernel
theorem dX8_pact_54 : decode cX8_pact 54 = .ok (.ifCond .ne 6, 3) := by decide +kernel
theorem dX8_pact_57 : decode cX8_pact 57 = .ok (.bipush (-3), 2) := by decide +kernel
theorem dX8_pact_59 : decode cX8_pact 59 = .ok (.ireturn, 1) := by decide +kernel
theorem dX8_pact_60 : decode cX8_pact 60 = .ok (.aload_n 0, 1) := by decide +kernel
theorem dX8_pact_61 : decode cX8_pact 61 = .ok (.getfield 10, 3) := by decide +kernel
theorem dX8_pact_64 : decode cX8_pact 64 = .ok (.iload 5, 2) := by decide +kernel
theorem dX8_pact_66 : decode cX8_pact 66 = .ok (.invokevirtual 116, 3) := by decide +kernel
theorem dX8_pact_69 : decode cX8_pact 69 = .ok (.istore 6, 2) := by decide +kernel
theorem dX8_pact_71 : decode cX8_pact 71 = .ok (.aload_n 0, 1) := by decide +kernel
theorem dX8_pact_72 : decode cX8_pact 72 = .ok (.getfield 10, 3) := by decide +kernel
theorem dX8_pact_75 : decode cX8_pact 75 = .ok (.iload_n 2, 1) := by decide +kernel
theorem dX8_pact_76 : decode cX8_pact 76 = .ok (.iload 6, 2) := by decide +kernel
theorem dX8_pact_78 : decode cX8_pact 78 = .ok (.invokevirtual 84, 3) := by decide +kernel
theorem dX8_pact_81 : decode cX8_pact 81 = .ok (.ifCond .ne 6, 3) := by decide +kernel
theorem dX8_pact_84 : decode cX8_pact 84 = .ok (.bipush (-4), 2) := by decide +kernel
theorem dX8_pact_86 : decode cX8_pact 86 = .ok (.ireturn, 1) := by decide +kernel
theorem dX8_pact_87 : decode cX8_pact 87 = .ok (.iload_n 1, 1) := by decide +kernel
theorem dX8_pact_88 : decode cX8_pact 88 = .ok (.ifCond .ne 21, 3) := by decide +kernel
theorem dX8_pact_91 : decode cX8_pact 91 = .ok (.aload_n 0, 1) := by decide +kernel
theorem dX8_pact_92 : decode cX8_pact 92 = .ok (.getfield 10, 3) := by decide +kernel
theorem dX8_pact_95 : decode cX8_pact 95 = .ok (.iload 4, 2) := by decide +kernel
theorem dX8_pact_97 : decode cX8_pact 97 = .ok (.iload 6, 2) := by decide +kernel
theorem dX8_pact_99 : decode cX8_pact 99 = .ok (.invokevirtual 129, 3) := by decide +kernel
theorem dX8_pact_102 : decode cX8_pact 102 = .ok (.iload_n 2, 1) := by decide +kernel
theorem dX8_pact_103 : decode cX8_pact 103 = .ok (.if_icmp .eq 6, 3) := by decide +kernel
theorem dX8_pact_106 : decode cX8_pact 106 = .ok (.bipush (-4), 2) := by decide +kernel
theorem dX8_pact_108 : decode cX8_pact 108 = .ok (.ireturn, 1) := by decide +kernel
theorem dX8_pact_109 : decode cX8_pact 109 = .ok (.aload_n 0, 1) := by decide +kernel
theorem dX8_pact_110 : decode cX8_pact 110 = .ok (.getfield 42, 3) := by decide +kernel
theorem dX8_pact_113 : decode cX8_pact 113 = .ok (.getfield 161, 3) := by decide +kernel
theorem dX8_pact_116 : decode cX8_pact 116 = .ok (.bipush 12, 2) := by decide +kernel
theorem dX8_pact_118 : decode cX8_pact 118 = .ok (.if_icmp .lt 6, 3) := by decide +kernel
theorem dX8_pact_121 : decode cX8_pact 121 = .ok (.bipush (-5), 2) := by decide +kernel
theorem dX8_pact_123 : decode cX8_pact 123 = .ok (.ireturn, 1) := by decide +kernel
theorem dX8_pact_124 : decode cX8_pact 124 = .ok (.aload_n 0, 1) := by decide +kernel
theorem dX8_pact_125 : decode cX8_pact 125 = .ok (.getfield 65, 3) := by decide +kernel
theorem dX8_pact_128 : decode cX8_pact 128 = .ok (.iload 5, 2) := by decide +kernel
theorem dX8_pact_130 : decode cX8_pact 130 = .ok (.invokevirtual 102, 3) := by decide +kernel
theorem dX8_pact_133 : decode cX8_pact 133 = .ok (.aload_n 0, 1) := by decide +kernel
theorem dX8_pact_134 : decode cX8_pact 134 = .ok (.getfield 42, 3) := by decide +kernel
theorem dX8_pact_137 : decode cX8_pact 137 = .ok (.iload_n 1, 1) := by decide +kernel
theorem dX8_pact_138 : decode cX8_pact 138 = .ok (.iload_n 2, 1) := by decide +kernel
theorem dX8_pact_139 : decode cX8_pact 139 = .ok (.iload_n 1, 1) := by decide +kernel
theorem dX8_pact_140 : decode cX8_pact 140 = .ok (.ifCond .ne 8, 3) := by decide +kernel
theorem dX8_pact_143 : decode cX8_pact 143 = .ok (.iload 4, 2) := by decide +kernel
theorem dX8_pact_145 : decode cX8_pact 145 = .ok (.goto 4, 3) := by decide +kernel
theorem dX8_pact_148 : decode cX8_pact 148 = .ok (.iconst (-1), 1) := by decide +kernel
theorem dX8_pact_149 : decode cX8_pact 149 = .ok (.iload 5, 2) := by decide +kernel
theorem dX8_pact_151 : decode cX8_pact 151 = .ok (.invokevirtual 164, 3) := by decide +kernel
theorem dX8_pact_154 : decode cX8_pact 154 = .ok (.ireturn, 1) := by decide +kernel
theorem dX8_word_0 : decode cX8_word 0 = .ok (.aload_n 0, 1) := by decide +kernel
theorem dX8_word_1 : decode cX8_word 1 = .ok (.getfield 42, 3) := by decide +kernel
theorem dX8_word_4 : decode cX8_word 4 = .ok (.iload_n 1, 1) := by decide +kernel
theorem dX8_word_5 : decode cX8_word 5 = .ok (.invokevirtual 168, 3) := by decide +kernel
theorem dX8_word_8 : decode cX8_word 8 = .ok (.ifCond .eq 14, 3) := by decide +kernel
theorem dX8_word_11 : decode cX8_word 11 = .ok (.aload_n 0, 1) := by decide +kernel
theorem dX8_word_12 : decode cX8_word 12 = .ok (.getfield 10, 3) := by decide +kernel
theorem dX8_word_15 : decode cX8_word 15 = .ok (.iload_n 2, 1) := by decide +kernel
theorem dX8_word_16 : decode cX8_word 16 = .ok (.invokevirtual 119, 3) := by decide +kernel
theorem dX8_word_19 : decode cX8_word 19 = .ok (.ifCond .ne 6, 3) := by decide +kernel
theorem dX8_word_22 : decode cX8_word 22 = .ok (.bipush (-2), 2) := by decide +kernel
theorem dX8_word_24 : decode cX8_word 24 = .ok (.ireturn, 1) := by decide +kernel
theorem dX8_word_25 : decode cX8_word 25 = .ok (.iload 5, 2) := by decide +kernel
theorem dX8_word_27 : decode cX8_word 27 = .ok (.invokestatic 110, 3) := by decide +kernel
theorem dX8_word_30 : decode cX8_word 30 = .ok (.ifCond .ne 6, 3) := by decide +kernel
theorem dX8_word_33 : decode cX8_word 33 = .ok (.bipush (-3), 2) := by decide +kernel
theorem dX8_word_35 : decode cX8_word 35 = .ok (.ireturn, 1) := by decide +kernel
theorem dX8_word_36 : decode cX8_word 36 = .ok (.aload_n 0, 1) := by decide +kernel
theorem dX8_word_37 : decode cX8_word 37 = .ok (.getfield 26, 3) := by decide +kernel
theorem dX8_word_40 : decode cX8_word 40 = .ok (.getfield 171, 3) := by decide +kernel
theorem dX8_word_43 : decode cX8_word 43 = .ok (.bipush 24, 2) := by decide +kernel
theorem dX8_word_45 : decode cX8_word 45 = .ok (.if_icmp .lt 6, 3) := by decide +kernel
theorem dX8_word_48 : decode cX8_word 48 = .ok (.bipush (-5), 2) := by decide +kernel
theorem dX8_word_50 : decode cX8_word 50 = .ok (.ireturn, 1) := by decide +kernel
theorem dX8_word_51 : decode cX8_word 51 = .ok (.aload_n 0, 1) := by decide +kernel
theorem dX8_word_52 : decode cX8_word 52 = .ok (.getfield 65, 3) := by decide +kernel
theorem dX8_word_55 : decode cX8_word 55 = .ok (.iload 5, 2) := by decide +kernel
theorem dX8_word_57 : decode cX8_word 57 = .ok (.invokevirtual 102, 3) := by decide +kernel
theorem dX8_word_60 : decode cX8_word 60 = .ok (.aload_n 0, 1) := by decide +kernel
theorem dX8_word_61 : decode cX8_word 61 = .ok (.getfield 26, 3) := by decide +kernel
theorem dX8_word_64 : decode cX8_word 64 = .ok (.iload_n 1, 1) := by decide +kernel
theorem dX8_word_65 : decode cX8_word 65 = .ok (.iload_n 2, 1) := by decide +kernel
theorem dX8_word_66 : decode cX8_word 66 = .ok (.iload_n 3, 1) := by decide +kernel
theorem dX8_word_67 : decode cX8_word 67 = .ok (.iload 4, 2) := by decide +kernel
theorem dX8_word_69 : decode cX8_word 69 = .ok (.iload 5, 2) := by decide +kernel
theorem dX8_word_71 : decode cX8_word 71 = .ok (.invokevirtual 174, 3) := by decide +kernel
theorem dX8_word_74 : decode cX8_word 74 = .ok (.ireturn, 1) := by decide +kernel
theorem dX8_voice_0 : decode cX8_voice 0 = .ok (.iload_n 1, 1) := by decide +kernel
theorem dX8_voice_1 : decode cX8_voice 1 = .ok (.invokestatic 158, 3) := by decide +kernel
theorem dX8_voice_4 : decode cX8_voice 4 = .ok (.ifCond .eq 14, 3) := by decide +kernel
theorem dX8_voice_7 : decode cX8_voice 7 = .ok (.aload_n 0, 1) := by decide +kernel
theorem dX8_voice_8 : decode cX8_voice 8 = .ok (.getfield 10, 3) := by decide +kernel
theorem dX8_voice_11 : decode cX8_voice 11 = .ok (.iload_n 2, 1) := by decide +kernel
theorem dX8_voice_12 : decode cX8_voice 12 = .ok (.invokevirtual 119, 3) := by decide +kernel
theorem dX8_voice_15 : decode cX8_voice 15 = .ok (.ifCond .ne 6, 3) := by decide +kernel
theorem dX8_voice_18 : decode cX8_voice 18 = .ok (.bipush (-2), 2) := by decide +kernel
theorem dX8_voice_20 : decode cX8_voice 20 = .ok (.ireturn, 1) := by decide +kernel
theorem dX8_voice_21 : decode cX8_voice 21 = .ok (.iload 4, 2) := by decide +kernel
theorem dX8_voice_23 : decode cX8_voice 23 = .ok (.invokestatic 110, 3) := by decide +kernel
theorem dX8_voice_26 : decode cX8_voice 26 = .ok (.ifCond .ne 6, 3) := by decide +kernel
theorem dX8_voice_29 : decode cX8_voice 29 = .ok (.bipush (-3), 2) := by decide +kernel
theorem dX8_voice_31 : decode cX8_voice 31 = .ok (.ireturn, 1) := by decide +kernel
theorem dX8_voice_32 : decode cX8_voice 32 = .ok (.aload_n 0, 1) := by decide +kernel
theorem dX8_voice_33 : decode cX8_voice 33 = .ok (.getfield 33, 3) := by decide +kernel
theorem dX8_voice_36 : decode cX8_voice 36 = .ok (.getfield 178, 3) := by decide +kernel
theorem dX8_voice_39 : decode cX8_voice 39 = .ok (.bipush 24, 2) := by decide +kernel
theorem dX8_voice_41 : decode cX8_voice 41 = .ok (.if_icmp .lt 6, 3) := by decide +kernel
theorem dX8_voice_44 : decode cX8_voice 44 = .ok (.bipush (-5), 2) := by decide +kernel
theorem dX8_voice_46 : decode cX8_voice 46 = .ok (.ireturn, 1) := by decide +kernel
theorem dX8_voice_47 : decode cX8_voice 47 = .ok (.aload_n 0, 1) := by decide +kernel
theorem dX8_voice_48 : decode cX8_voice 48 = .ok (.getfield 65, 3) := by decide +kernel
theorem dX8_voice_51 : decode cX8_voice 51 = .ok (.iload 4, 2) := by decide +kernel
theorem dX8_voice_53 : decode cX8_voice 53 = .ok (.invokevirtual 102, 3) := by decide +kernel
theorem dX8_voice_56 : decode cX8_voice 56 = .ok (.aload_n 0, 1) := by decide +kernel
theorem dX8_voice_57 : decode cX8_voice 57 = .ok (.getfield 33, 3) := by decide +kernel
theorem dX8_voice_60 : decode cX8_voice 60 = .ok (.iload_n 1, 1) := by decide +kernel
theorem dX8_voice_61 : decode cX8_voice 61 = .ok (.iload_n 2, 1) := by decide +kernel
theorem dX8_voice_62 : decode cX8_voice 62 = .ok (.iload_n 3, 1) := by decide +kernel
theorem dX8_voice_63 : decode cX8_voice 63 = .ok (.iload 4, 2) := by decide +kernel
theorem dX8_voice_65 : decode cX8_voice 65 = .ok (.invokevirtual 181, 3) := by decide +kernel
theorem dX8_voice_68 : decode cX8_voice 68 = .ok (.ireturn, 1) := by decide +kernel
theorem dX8_bound_0 : decode cX8_bound 0 = .ok (.aload_n 0, 1) := by decide +kernel
theorem dX8_bound_1 : decode cX8_bound 1 = .ok (.getfield 42, 3) := by decide +kernel
theorem dX8_bound_4 : decode cX8_bound 4 = .ok (.iload_n 1, 1) := by decide +kernel
theorem dX8_bound_5 : decode cX8_bound 5 = .ok (.invokevirtual 168, 3) := by decide +kernel
theorem dX8_bound_8 : decode cX8_bound 8 = .ok (.ifCond .ne 6, 3) := by decide +kernel
theorem dX8_bound_11 : decode cX8_bound 11 = .ok (.bipush (-2), 2) := by decide +kernel
theorem dX8_bound_13 : decode cX8_bound 13 = .ok (.ireturn, 1) := by decide +kernel
theorem dX8_bound_14 : decode cX8_bound 14 = .ok (.iload_n 2, 1) := by decide +kernel
theorem dX8_bound_15 : decode cX8_bound 15 = .ok (.invokestatic 110, 3) := by decide +kernel
theorem dX8_bound_18 : decode cX8_bound 18 = .ok (.ifCond .ne 6, 3) := by decide +kernel
theorem dX8_bound_21 : decode cX8_bound 21 = .ok (.bipush (-3), 2) := by decide +kernel
theorem dX8_bound_23 : decode cX8_bound 23 = .ok (.ireturn, 1) := by decide +kernel
theorem dX8_bound_24 : decode cX8_bound 24 = .ok (.aload_n 0, 1) := by decide +kernel
theorem dX8_bound_25 : decode cX8_bound 25 = .ok (.getfield 42, 3) := by decide +kernel
theorem dX8_bound_28 : decode cX8_bound 28 = .ok (.iload_n 1, 1) := by decide +kernel
theorem dX8_bound_29 : decode cX8_bound 29 = .ok (.iload_n 2, 1) := by decide +kernel
theorem dX8_bound_30 : decode cX8_bound 30 = .ok (.iconst 0, 1) := by decide +kernel
theorem dX8_bound_31 : decode cX8_bound 31 = .ok (.invokevirtual 185, 3) := by decide +kernel
theorem dX8_bound_34 : decode cX8_bound 34 = .ok (.ireturn, 1) := by decide +kernel
theorem dX8_since_0 : decode cX8_since 0 = .ok (.aload_n 0, 1) := by decide +kernel
theorem dX8_since_1 : decode cX8_since 1 = .ok (.getfield 42, 3) := by decide +kernel
theorem dX8_since_4 : decode cX8_since 4 = .ok (.iload_n 1, 1) := by decide +kernel
theorem dX8_since_5 : decode cX8_since 5 = .ok (.invokevirtual 168, 3) := by decide +kernel
theorem dX8_since_8 : decode cX8_since 8 = .ok (.ifCond .eq 14, 3) := by decide +kernel
theorem dX8_since_11 : decode cX8_since 11 = .ok (.aload_n 0, 1) := by decide +kernel
theorem dX8_since_12 : decode cX8_since 12 = .ok (.getfield 10, 3) := by decide +kernel
theorem dX8_since_15 : decode cX8_since 15 = .ok (.iload_n 2, 1) := by decide +kernel
theorem dX8_since_16 : decode cX8_since 16 = .ok (.invokevirtual 119, 3) := by decide +kernel
theorem dX8_since_19 : decode cX8_since 19 = .ok (.ifCond .ne 6, 3) := by decide +kernel
theorem dX8_since_22 : decode cX8_since 22 = .ok (.bipush (-2), 2) := by decide +kernel
theorem dX8_since_24 : decode cX8_since 24 = .ok (.ireturn, 1) := by decide +kernel
theorem dX8_since_25 : decode cX8_since 25 = .ok (.iconst 0, 1) := by decide +kernel
theorem dX8_since_26 : decode cX8_since 26 = .ok (.istore_n 3, 1) := by decide +kernel
theorem dX8_since_27 : decode cX8_since 27 = .ok (.iload_n 3, 1) := by decide +kernel
theorem dX8_since_28 : decode cX8_since 28 = .ok (.sipush 999, 3) := by decide +kernel
theorem dX8_since_31 : decode cX8_since 31 = .ok (.if_icmp .gt 39, 3) := by decide +kernel
theorem dX8_since_34 : decode cX8_since 34 = .ok (.aload_n 0, 1) := by decide +kernel
theorem dX8_since_35 : decode cX8_since 35 = .ok (.getfield 65, 3) := by decide +kernel
theorem dX8_since_38 : decode cX8_since 38 = .ok (.iload_n 3, 1) := by decide +kernel
theorem dX8_since_39 : decode cX8_since 39 = .ok (.invokevirtual 189, 3) := by decide +kernel
theorem dX8_since_42 : decode cX8_since 42 = .ok (.ifCond .eq 22, 3) := by decide +kernel
theorem dX8_since_45 : decode cX8_since 45 = .ok (.aload_n 0, 1) := by decide +kernel
theorem dX8_since_46 : decode cX8_since 46 = .ok (.getfield 42, 3) := by decide +kernel
theorem dX8_since_49 : decode cX8_since 49 = .ok (.iload_n 1, 1) := by decide +kernel
theorem dX8_since_50 : decode cX8_since 50 = .ok (.iload_n 3, 1) := by decide +kernel
theorem dX8_since_51 : decode cX8_since 51 = .ok (.iconst 0, 1) := by decide +kernel
theorem dX8_since_52 : decode cX8_since 52 = .ok (.invokevirtual 185, 3) := by decide +kernel
theorem dX8_since_55 : decode cX8_since 55 = .ok (.iload_n 2, 1) := by decide +kernel
theorem dX8_since_56 : decode cX8_since 56 = .ok (.invokestatic 192, 3) := by decide +kernel
theorem dX8_since_59 : decode cX8_since 59 = .ok (.ifCond .eq 5, 3) := by decide +kernel
theorem dX8_since_62 : decode cX8_since 62 = .ok (.iload_n 3, 1) := by decide +kernel
theorem dX8_since_63 : decode cX8_since 63 = .ok (.ireturn, 1) := by decide +kernel
theorem dX8_since_64 : decode cX8_since 64 = .ok (.iinc 3 1, 3) := by decide +kernel
theorem dX8_since_67 : decode cX8_since 67 = .ok (.goto (-40), 3) := by decide +kernel
theorem dX8_since_70 : decode cX8_since 70 = .ok (.iconst (-1), 1) := by decide +kernel
theorem dX8_since_71 : decode cX8_since 71 = .ok (.ireturn, 1) := by decide +kernel
theorem dX8_debt_0 : decode cX8_debt 0 = .ok (.aload_n 0, 1) := by decide +kernel
theorem dX8_debt_1 : decode cX8_debt 1 = .ok (.getfield 10, 3) := by decide +kernel
theorem dX8_debt_4 : decode cX8_debt 4 = .ok (.iload_n 1, 1) := by decide +kernel
theorem dX8_debt_5 : decode cX8_debt 5 = .ok (.invokevirtual 119, 3) := by decide +kernel
theorem dX8_debt_8 : decode cX8_debt 8 = .ok (.ifCond .ne 6, 3) := by decide +kernel
theorem dX8_debt_11 : decode cX8_debt 11 = .ok (.bipush (-2), 2) := by decide +kernel
theorem dX8_debt_13 : decode cX8_debt 13 = .ok (.ireturn, 1) := by decide +kernel
theorem dX8_debt_14 : decode cX8_debt 14 = .ok (.iload_n 3, 1) := by decide +kernel
theorem dX8_debt_15 : decode cX8_debt 15 = .ok (.iconst (-1), 1) := by decide +kernel
theorem dX8_debt_16 : decode cX8_debt 16 = .ok (.if_icmp .eq 17, 3) := by decide +kernel
theorem dX8_debt_19 : decode cX8_debt 19 = .ok (.aload_n 0, 1) := by decide +kernel
theorem dX8_debt_20 : decode cX8_debt 20 = .ok (.getfield 10, 3) := by decide +kernel
theorem dX8_debt_23 : decode cX8_debt 23 = .ok (.iload_n 3, 1) := by decide +kernel
theorem dX8_debt_24 : decode cX8_debt 24 = .ok (.invokevirtual 126, 3) := by decide +kernel
theorem dX8_debt_27 : decode cX8_debt 27 = .ok (.ifCond .ne 6, 3) := by decide +kernel
theorem dX8_debt_30 : decode cX8_debt 30 = .ok (.bipush (-2), 2) := by decide +kernel
theorem dX8_debt_32 : decode cX8_debt 32 = .ok (.ireturn, 1) := by decide +kernel
theorem dX8_debt_33 : decode cX8_debt 33 = .ok (.iload_n 2, 1) := by decide +kernel
theorem dX8_debt_34 : decode cX8_debt 34 = .ok (.iconst 1, 1) := by decide +kernel
theorem dX8_debt_35 : decode cX8_debt 35 = .ok (.if_icmp .lt 18, 3) := by decide +kernel
theorem dX8_debt_38 : decode cX8_debt 38 = .ok (.iload_n 2, 1) := by decide +kernel
theorem dX8_debt_39 : decode cX8_debt 39 = .ok (.sipush 9999, 3) := by decide +kernel
theorem dX8_debt_42 : decode cX8_debt 42 = .ok (.if_icmp .gt 11, 3) := by decide +kernel
theorem dX8_debt_45 : decode cX8_debt 45 = .ok (.iload 4, 2) := by decide +kernel
theorem dX8_debt_47 : decode cX8_debt 47 = .ok (.invokestatic 110, 3) := by decide +kernel
theorem dX8_debt_50 : decode cX8_debt 50 = .ok (.ifCond .ne 6, 3) := by decide +kernel
theorem dX8_debt_53 : decode cX8_debt 53 = .ok (.bipush (-3), 2) := by decide +kernel
theorem dX8_debt_55 : decode cX8_debt 55 = .ok (.ireturn, 1) := by decide +kernel
theorem dX8_debt_56 : decode cX8_debt 56 = .ok (.aload_n 0, 1) := by decide +kernel
theorem dX8_debt_57 : decode cX8_debt 57 = .ok (.getfield 10, 3) := by decide +kernel
theorem dX8_debt_60 : decode cX8_debt 60 = .ok (.iload 4, 2) := by decide +kernel
theorem dX8_debt_62 : decode cX8_debt 62 = .ok (.invokevirtual 116, 3) := by decide +kernel
theorem dX8_debt_65 : decode cX8_debt 65 = .ok (.istore 5, 2) := by decide +kernel
theorem dX8_debt_67 : decode cX8_debt 67 = .ok (.aload_n 0, 1) := by decide +kernel
theorem dX8_debt_68 : decode cX8_debt 68 = .ok (.getfield 10, 3) := by decide +kernel
theorem dX8_debt_71 : decode cX8_debt 71 = .ok (.iload_n 1, 1) := by decide +kernel
theorem dX8_debt_72 : decode cX8_debt 72 = .ok (.iload 5, 2) := by decide +kernel
theorem dX8_debt_74 : decode cX8_debt 74 = .ok (.invokevirtual 84, 3) := by decide +kernel
theorem dX8_debt_77 : decode cX8_debt 77 = .ok (.ifCond .ne 6, 3) := by decide +kernel
theorem dX8_debt_80 : decode cX8_debt 80 = .ok (.bipush (-4), 2) := by decide +kernel
theorem dX8_debt_82 : decode cX8_debt 82 = .ok (.ireturn, 1) := by decide +kernel
theorem dX8_debt_83 : decode cX8_debt 83 = .ok (.iload_n 3, 1) := by decide +kernel
theorem dX8_debt_84 : decode cX8_debt 84 = .ok (.iconst (-1), 1) := by decide +kernel
theorem dX8_debt_85 : decode cX8_debt 85 = .ok (.if_icmp .eq 20, 3) := by decide +kernel
theorem dX8_debt_88 : decode cX8_debt 88 = .ok (.aload_n 0, 1) := by decide +kernel
theorem dX8_debt_89 : decode cX8_debt 89 = .ok (.getfield 10, 3) := by decide +kernel
theorem dX8_debt_92 : decode cX8_debt 92 = .ok (.iload_n 3, 1) := by decide +kernel
theorem dX8_debt_93 : decode cX8_debt 93 = .ok (.iload 5, 2) := by decide +kernel
theorem dX8_debt_95 : decode cX8_debt 95 = .ok (.invokevirtual 129, 3) := by decide +kernel
theorem dX8_debt_98 : decode cX8_debt 98 = .ok (.iload_n 1, 1) := by decide +kernel
theorem dX8_debt_99 : decode cX8_debt 99 = .ok (.if_icmp .eq 6, 3) := by decide +kernel
theorem dX8_debt_102 : decode cX8_debt 102 = .ok (.bipush (-4), 2) := by decide +kernel
theorem dX8_debt_104 : decode cX8_debt 104 = .ok (.ireturn, 1) := by decide +kernel
theorem dX8_debt_105 : decode cX8_debt 105 = .ok (.aload_n 0, 1) := by decide +kernel
theorem dX8_debt_106 : decode cX8_debt 106 = .ok (.getfield 51, 3) := by decide +kernel
theorem dX8_debt_109 : decode cX8_debt 109 = .ok (.getfield 195, 3) := by decide +kernel
theorem dX8_debt_112 : decode cX8_debt 112 = .ok (.bipush 8, 2) := by decide +kernel
theorem dX8_debt_114 : decode cX8_debt 114 = .ok (.if_icmp .lt 6, 3) := by decide +kernel
theorem dX8_debt_117 : decode cX8_debt 117 = .ok (.bipush (-5), 2) := by decide +kernel
theorem dX8_debt_119 : decode cX8_debt 119 = .ok (.ireturn, 1) := by decide +kernel
theorem dX8_debt_120 : decode cX8_debt 120 = .ok (.aload_n 0, 1) := by decide +kernel
theorem dX8_debt_121 : decode cX8_debt 121 = .ok (.getfield 51, 3) := by decide +kernel
theorem dX8_debt_124 : decode cX8_debt 124 = .ok (.iload_n 1, 1) := by decide +kernel
theorem dX8_debt_125 : decode cX8_debt 125 = .ok (.iload_n 2, 1) := by decide +kernel
theorem dX8_debt_126 : decode cX8_debt 126 = .ok (.iload_n 3, 1) := by decide +kernel
theorem dX8_debt_127 : decode cX8_debt 127 = .ok (.iload 4, 2) := by decide +kernel
theorem dX8_debt_129 : decode cX8_debt 129 = .ok (.invokevirtual 198, 3) := by decide +kernel
theorem dX8_debt_132 : decode cX8_debt 132 = .ok (.ireturn, 1) := by decide +kernel
theorem dX8_owes_0 : decode cX8_owes 0 = .ok (.aload_n 0, 1) := by decide +kernel
theorem dX8_owes_1 : decode cX8_owes 1 = .ok (.getfield 51, 3) := by decide +kernel
theorem dX8_owes_4 : decode cX8_owes 4 = .ok (.iload_n 1, 1) := by decide +kernel
theorem dX8_owes_5 : decode cX8_owes 5 = .ok (.invokevirtual 201, 3) := by decide +kernel
theorem dX8_owes_8 : decode cX8_owes 8 = .ok (.ifCond .eq 14, 3) := by decide +kernel
theorem dX8_owes_11 : decode cX8_owes 11 = .ok (.aload_n 0, 1) := by decide +kernel
theorem dX8_owes_12 : decode cX8_owes 12 = .ok (.getfield 10, 3) := by decide +kernel
theorem dX8_owes_15 : decode cX8_owes 15 = .ok (.iload_n 2, 1) := by decide +kernel
theorem dX8_owes_16 : decode cX8_owes 16 = .ok (.invokevirtual 119, 3) := by decide +kernel
theorem dX8_owes_19 : decode cX8_owes 19 = .ok (.ifCond .ne 6, 3) := by decide +kernel
theorem dX8_owes_22 : decode cX8_owes 22 = .ok (.bipush (-2), 2) := by decide +kernel
theorem dX8_owes_24 : decode cX8_owes 24 = .ok (.ireturn, 1) := by decide +kernel
theorem dX8_owes_25 : decode cX8_owes 25 = .ok (.iload_n 3, 1) := by decide +kernel
theorem dX8_owes_26 : decode cX8_owes 26 = .ok (.invokestatic 110, 3) := by decide +kernel
theorem dX8_owes_29 : decode cX8_owes 29 = .ok (.ifCond .ne 6, 3) := by decide +kernel
theorem dX8_owes_32 : decode cX8_owes 32 = .ok (.bipush (-3), 2) := by decide +kernel
theorem dX8_owes_34 : decode cX8_owes 34 = .ok (.ireturn, 1) := by decide +kernel
theorem dX8_owes_35 : decode cX8_owes 35 = .ok (.aload_n 0, 1) := by decide +kernel
theorem dX8_owes_36 : decode cX8_owes 36 = .ok (.getfield 51, 3) := by decide +kernel
theorem dX8_owes_39 : decode cX8_owes 39 = .ok (.iload_n 1, 1) := by decide +kernel
theorem dX8_owes_40 : decode cX8_owes 40 = .ok (.iload_n 2, 1) := by decide +kernel
theorem dX8_owes_41 : decode cX8_owes 41 = .ok (.iload_n 3, 1) := by decide +kernel
theorem dX8_owes_42 : decode cX8_owes 42 = .ok (.aload_n 0, 1) := by decide +kernel
theorem dX8_owes_43 : decode cX8_owes 43 = .ok (.getfield 19, 3) := by decide +kernel
theorem dX8_owes_46 : decode cX8_owes 46 = .ok (.getfield 155, 3) := by decide +kernel
theorem dX8_owes_49 : decode cX8_owes 49 = .ok (.iconst 3, 1) := by decide +kernel
theorem dX8_owes_50 : decode cX8_owes 50 = .ok (.iaload, 1) := by decide +kernel
theorem dX8_owes_51 : decode cX8_owes 51 = .ok (.invokevirtual 204, 3) := by decide +kernel
theorem dX8_owes_54 : decode cX8_owes 54 = .ok (.ireturn, 1) := by decide +kernel
theorem dX8_thing_0 : decode cX8_thing 0 = .ok (.iload_n 1, 1) := by decide +kernel
theorem dX8_thing_1 : decode cX8_thing 1 = .ok (.ifCond .lt 8, 3) := by decide +kernel
theorem dX8_thing_4 : decode cX8_thing 4 = .ok (.iload_n 1, 1) := by decide +kernel
theorem dX8_thing_5 : decode cX8_thing 5 = .ok (.iconst 2, 1) := by decide +kernel
theorem dX8_thing_6 : decode cX8_thing 6 = .ok (.if_icmp .le 6, 3) := by decide +kernel
theorem dX8_thing_9 : decode cX8_thing 9 = .ok (.bipush (-3), 2) := by decide +kernel
theorem dX8_thing_11 : decode cX8_thing 11 = .ok (.ireturn, 1) := by decide +kernel
theorem dX8_thing_12 : decode cX8_thing 12 = .ok (.iload_n 1, 1) := by decide +kernel
theorem dX8_thing_13 : decode cX8_thing 13 = .ok (.iconst 1, 1) := by decide +kernel
theorem dX8_thing_14 : decode cX8_thing 14 = .ok (.if_icmp .ne 18, 3) := by decide +kernel
theorem dX8_thing_17 : decode cX8_thing 17 = .ok (.iload_n 2, 1) := by decide +kernel
theorem dX8_thing_18 : decode cX8_thing 18 = .ok (.iconst 1, 1) := by decide +kernel
theorem dX8_thing_19 : decode cX8_thing 19 = .ok (.if_icmp .lt 10, 3) := by decide +kernel
theorem dX8_thing_22 : decode cX8_thing 22 = .ok (.iload_n 2, 1) := by decide +kernel
theorem dX8_thing_23 : decode cX8_thing 23 = .ok (.sipush 9999, 3) := by decide +kernel
theorem dX8_thing_26 : decode cX8_thing 26 = .ok (.if_icmp .le 6, 3) := by decide +kernel
theorem dX8_thing_29 : decode cX8_thing 29 = .ok (.bipush (-3), 2) := by decide +kernel
theorem dX8_thing_31 : decode cX8_thing 31 = .ok (.ireturn, 1) := by decide +kernel
theorem dX8_thing_32 : decode cX8_thing 32 = .ok (.iload_n 1, 1) := by decide +kernel
theorem dX8_thing_33 : decode cX8_thing 33 = .ok (.ifCond .ne 17, 3) := by decide +kernel
theorem dX8_thing_36 : decode cX8_thing 36 = .ok (.aload_n 0, 1) := by decide +kernel
theorem dX8_thing_37 : decode cX8_thing 37 = .ok (.getfield 10, 3) := by decide +kernel
theorem dX8_thing_40 : decode cX8_thing 40 = .ok (.iload_n 3, 1) := by decide +kernel
theorem dX8_thing_41 : decode cX8_thing 41 = .ok (.invokevirtual 126, 3) := by decide +kernel
theorem dX8_thing_44 : decode cX8_thing 44 = .ok (.ifCond .ne 6, 3) := by decide +kernel
theorem dX8_thing_47 : decode cX8_thing 47 = .ok (.bipush (-2), 2) := by decide +kernel
theorem dX8_thing_49 : decode cX8_thing 49 = .ok (.ireturn, 1) := by decide +kernel
theorem dX8_thing_50 : decode cX8_thing 50 = .ok (.aload_n 0, 1) := by decide +kernel
theorem dX8_thing_51 : decode cX8_thing 51 = .ok (.getfield 51, 3) := by decide +kernel
theorem dX8_thing_54 : decode cX8_thing 54 = .ok (.getfield 207, 3) := by decide +kernel
theorem dX8_thing_57 : decode cX8_thing 57 = .ok (.bipush 8, 2) := by decide +kernel
theorem dX8_thing_59 : decode cX8_thing 59 = .ok (.if_icmp .lt 6, 3) := by decide +kernel
theorem dX8_thing_62 : decode cX8_thing 62 = .ok (.bipush (-5), 2) := by decide +kernel
theorem dX8_thing_64 : decode cX8_thing 64 = .ok (.ireturn, 1) := by decide +kernel
theorem dX8_thing_65 : decode cX8_thing 65 = .ok (.aload_n 0, 1) := by decide +kernel
theorem dX8_thing_66 : decode cX8_thing 66 = .ok (.getfield 51, 3) := by decide +kernel
theorem dX8_thing_69 : decode cX8_thing 69 = .ok (.iload_n 1, 1) := by decide +kernel
theorem dX8_thing_70 : decode cX8_thing 70 = .ok (.iload_n 1, 1) := by decide +kernel
theorem dX8_thing_71 : decode cX8_thing 71 = .ok (.iconst 1, 1) := by decide +kernel
theorem dX8_thing_72 : decode cX8_thing 72 = .ok (.if_icmp .ne 7, 3) := by decide +kernel
theorem dX8_thing_75 : decode cX8_thing 75 = .ok (.iload_n 2, 1) := by decide +kernel
theorem dX8_thing_76 : decode cX8_thing 76 = .ok (.goto 4, 3) := by decide +kernel
theorem dX8_thing_79 : decode cX8_thing 79 = .ok (.iconst 1, 1) := by decide +kernel
theorem dX8_thing_80 : decode cX8_thing 80 = .ok (.iload_n 1, 1) := by decide +kernel
theorem dX8_thing_81 : decode cX8_thing 81 = .ok (.ifCond .ne 7, 3) := by decide +kernel
theorem dX8_thing_84 : decode cX8_thing 84 = .ok (.iload_n 3, 1) := by decide +kernel
theorem dX8_thing_85 : decode cX8_thing 85 = .ok (.goto 4, 3) := by decide +kernel
theorem dX8_thing_88 : decode cX8_thing 88 = .ok (.iconst (-1), 1) := by decide +kernel
theorem dX8_thing_89 : decode cX8_thing 89 = .ok (.invokevirtual 210, 3) := by decide +kernel
theorem dX8_thing_92 : decode cX8_thing 92 = .ok (.ireturn, 1) := by decide +kernel
theorem dX8_owns_0 : decode cX8_owns 0 = .ok (.aload_n 0, 1) := by decide +kernel
theorem dX8_owns_1 : decode cX8_owns 1 = .ok (.getfield 51, 3) := by decide +kernel
theorem dX8_owns_4 : decode cX8_owns 4 = .ok (.iload_n 1, 1) := by decide +kernel
theorem dX8_owns_5 : decode cX8_owns 5 = .ok (.invokevirtual 213, 3) := by decide +kernel
theorem dX8_owns_8 : decode cX8_owns 8 = .ok (.ifCond .eq 14, 3) := by decide +kernel
theorem dX8_owns_11 : decode cX8_owns 11 = .ok (.aload_n 0, 1) := by decide +kernel
theorem dX8_owns_12 : decode cX8_owns 12 = .ok (.getfield 10, 3) := by decide +kernel
theorem dX8_owns_15 : decode cX8_owns 15 = .ok (.iload_n 2, 1) := by decide +kernel
theorem dX8_owns_16 : decode cX8_owns 16 = .ok (.invokevirtual 119, 3) := by decide +kernel
theorem dX8_owns_19 : decode cX8_owns 19 = .ok (.ifCond .ne 6, 3) := by decide +kernel
theorem dX8_owns_22 : decode cX8_owns 22 = .ok (.bipush (-2), 2) := by decide +kernel
theorem dX8_owns_24 : decode cX8_owns 24 = .ok (.ireturn, 1) := by decide +kernel
theorem dX8_owns_25 : decode cX8_owns 25 = .ok (.iload_n 3, 1) := by decide +kernel
theorem dX8_owns_26 : decode cX8_owns 26 = .ok (.invokestatic 110, 3) := by decide +kernel
theorem dX8_owns_29 : decode cX8_owns 29 = .ok (.ifCond .ne 6, 3) := by decide +kernel
theorem dX8_owns_32 : decode cX8_owns 32 = .ok (.bipush (-3), 2) := by decide +kernel
theorem dX8_owns_34 : decode cX8_owns 34 = .ok (.ireturn, 1) := by decide +kernel
theorem dX8_owns_35 : decode cX8_owns 35 = .ok (.aload_n 0, 1) := by decide +kernel
theorem dX8_owns_36 : decode cX8_owns 36 = .ok (.getfield 51, 3) := by decide +kernel
theorem dX8_owns_39 : decode cX8_owns 39 = .ok (.iload_n 1, 1) := by decide +kernel
theorem dX8_owns_40 : decode cX8_owns 40 = .ok (.iload_n 2, 1) := by decide +kernel
theorem dX8_owns_41 : decode cX8_owns 41 = .ok (.iload_n 3, 1) := by decide +kernel
theorem dX8_owns_42 : decode cX8_owns 42 = .ok (.aload_n 0, 1) := by decide +kernel
theorem dX8_owns_43 : decode cX8_owns 43 = .ok (.getfield 19, 3) := by decide +kernel
theorem dX8_owns_46 : decode cX8_owns 46 = .ok (.getfield 155, 3) := by decide +kernel
theorem dX8_owns_49 : decode cX8_owns 49 = .ok (.iconst 3, 1) := by decide +kernel
theorem dX8_owns_50 : decode cX8_owns 50 = .ok (.iaload, 1) := by decide +kernel
theorem dX8_owns_51 : decode cX8_owns 51 = .ok (.invokevirtual 216, 3) := by decide +kernel
theorem dX8_owns_54 : decode cX8_owns 54 = .ok (.ireturn, 1) := by decide +kernel
theorem dX8_served_0 : decode cX8_served 0 = .ok (.aload_n 0, 1) := by decide +kernel
theorem dX8_served_1 : decode cX8_served 1 = .ok (.getfield 10, 3) := by decide +kernel
theorem dX8_served_4 : decode cX8_served 4 = .ok (.iload_n 1, 1) := by decide +kernel
theorem dX8_served_5 : decode cX8_served 5 = .ok (.invokevirtual 119, 3) := by decide +kernel
theorem dX8_served_8 : decode cX8_served 8 = .ok (.ifCond .eq 25, 3) := by decide +kernel
theorem dX8_served_11 : decode cX8_served 11 = .ok (.aload_n 0, 1) := by decide +kernel
theorem dX8_served_12 : decode cX8_served 12 = .ok (.getfield 10, 3) := by decide +kernel
theorem dX8_served_15 : decode cX8_served 15 = .ok (.iload_n 2, 1) := by decide +kernel
theorem dX8_served_16 : decode cX8_served 16 = .ok (.invokevirtual 126, 3) := by decide +kernel
theorem dX8_served_19 : decode cX8_served 19 = .ok (.ifCond .eq 14, 3) := by decide +kernel
theorem dX8_served_22 : decode cX8_served 22 = .ok (.aload_n 0, 1) := by decide +kernel
theorem dX8_served_23 : decode cX8_served 23 = .ok (.getfield 10, 3) := by decide +kernel
theorem dX8_served_26 : decode cX8_served 26 = .ok (.iload_n 3, 1) := by decide +kernel
theorem dX8_served_27 : decode cX8_served 27 = .ok (.invokevirtual 126, 3) := by decide +kernel
theorem dX8_served_30 : decode cX8_served 30 = .ok (.ifCond .ne 6, 3) := by decide +kernel
theorem dX8_served_33 : decode cX8_served 33 = .ok (.bipush (-2), 2) := by decide +kernel
theorem dX8_served_35 : decode cX8_served 35 = .ok (.ireturn, 1) := by decide +kernel
theorem dX8_served_36 : decode cX8_served 36 = .ok (.aload_n 0, 1) := by decide +kernel
theorem dX8_served_37 : decode cX8_served 37 = .ok (.getfield 58, 3) := by decide +kernel
theorem dX8_served_40 : decode cX8_served 40 = .ok (.getfield 219, 3) := by decide +kernel
theorem dX8_served_43 : decode cX8_served 43 = .ok (.bipush 12, 2) := by decide +kernel
theorem dX8_served_45 : decode cX8_served 45 = .ok (.if_icmp .lt 6, 3) := by decide +kernel
theorem dX8_served_48 : decode cX8_served 48 = .ok (.bipush (-5), 2) := by decide +kernel
theorem dX8_served_50 : decode cX8_served 50 = .ok (.ireturn, 1) := by decide +kernel
theorem dX8_served_51 : decode cX8_served 51 = .ok (.aload_n 0, 1) := by decide +kernel
theorem dX8_served_52 : decode cX8_served 52 = .ok (.getfield 58, 3) := by decide +kernel
theorem dX8_served_55 : decode cX8_served 55 = .ok (.iload_n 1, 1) := by decide +kernel
theorem dX8_served_56 : decode cX8_served 56 = .ok (.iload_n 2, 1) := by decide +kernel
theorem dX8_served_57 : decode cX8_served 57 = .ok (.iload_n 3, 1) := by decide +kernel
theorem dX8_served_58 : decode cX8_served 58 = .ok (.invokevirtual 222, 3) := by decide +kernel
theorem dX8_served_61 : decode cX8_served 61 = .ok (.ireturn, 1) := by decide +kernel
theorem dX8_paid_0 : decode cX8_paid 0 = .ok (.aload_n 0, 1) := by decide +kernel
theorem dX8_paid_1 : decode cX8_paid 1 = .ok (.getfield 58, 3) := by decide +kernel
theorem dX8_paid_4 : decode cX8_paid 4 = .ok (.iload_n 1, 1) := by decide +kernel
theorem dX8_paid_5 : decode cX8_paid 5 = .ok (.invokevirtual 225, 3) := by decide +kernel
theorem dX8_paid_8 : decode cX8_paid 8 = .ok (.ifCond .ne 6, 3) := by decide +kernel
theorem dX8_paid_11 : decode cX8_paid 11 = .ok (.bipush (-2), 2) := by decide +kernel
theorem dX8_paid_13 : decode cX8_paid 13 = .ok (.ireturn, 1) := by decide +kernel
theorem dX8_paid_14 : decode cX8_paid 14 = .ok (.iload_n 2, 1) := by decide +kernel
theorem dX8_paid_15 : decode cX8_paid 15 = .ok (.invokestatic 110, 3) := by decide +kernel
theorem dX8_paid_18 : decode cX8_paid 18 = .ok (.ifCond .ne 6, 3) := by decide +kernel
theorem dX8_paid_21 : decode cX8_paid 21 = .ok (.bipush (-3), 2) := by decide +kernel
theorem dX8_paid_23 : decode cX8_paid 23 = .ok (.ireturn, 1) := by decide +kernel
theorem dX8_paid_24 : decode cX8_paid 24 = .ok (.aload_n 0, 1) := by decide +kernel
theorem dX8_paid_25 : decode cX8_paid 25 = .ok (.getfield 19, 3) := by decide +kernel
theorem dX8_paid_28 : decode cX8_paid 28 = .ok (.getfield 155, 3) := by decide +kernel
theorem dX8_paid_31 : decode cX8_paid 31 = .ok (.iconst 4, 1) := by decide +kernel
theorem dX8_paid_32 : decode cX8_paid 32 = .ok (.iaload, 1) := by decide +kernel
theorem dX8_paid_33 : decode cX8_paid 33 = .ok (.istore_n 3, 1) := by decide +kernel
theorem dX8_paid_34 : decode cX8_paid 34 = .ok (.iload_n 3, 1) := by decide +kernel
theorem dX8_paid_35 : decode cX8_paid 35 = .ok (.ifCond .ne 21, 3) := by decide +kernel
theorem dX8_paid_38 : decode cX8_paid 38 = .ok (.aload_n 0, 1) := by decide +kernel
theorem dX8_paid_39 : decode cX8_paid 39 = .ok (.getfield 10, 3) := by decide +kernel
theorem dX8_paid_42 : decode cX8_paid 42 = .ok (.aload_n 0, 1) := by decide +kernel
theorem dX8_paid_43 : decode cX8_paid 43 = .ok (.getfield 58, 3) := by decide +kernel
theorem dX8_paid_46 : decode cX8_paid 46 = .ok (.getfield 228, 3) := by decide +kernel
theorem dX8_paid_49 : decode cX8_paid 49 = .ok (.iload_n 1, 1) := by decide +kernel
theorem dX8_paid_50 : decode cX8_paid 50 = .ok (.iaload, 1) := by decide +kernel
theorem dX8_paid_51 : decode cX8_paid 51 = .ok (.iload_n 2, 1) := by decide +kernel
theorem dX8_paid_52 : decode cX8_paid 52 = .ok (.invokevirtual 135, 3) := by decide +kernel
theorem dX8_paid_55 : decode cX8_paid 55 = .ok (.ireturn, 1) := by decide +kernel
theorem dX8_paid_56 : decode cX8_paid 56 = .ok (.iload_n 3, 1) := by decide +kernel
theorem dX8_paid_57 : decode cX8_paid 57 = .ok (.iconst 1, 1) := by decide +kernel
theorem dX8_paid_58 : decode cX8_paid 58 = .ok (.if_icmp .ne 15, 3) := by decide +kernel
theorem dX8_paid_61 : decode cX8_paid 61 = .ok (.aload_n 0, 1) := by decide +kernel
theorem dX8_paid_62 : decode cX8_paid 62 = .ok (.getfield 58, 3) := by decide +kernel
theorem dX8_paid_65 : decode cX8_paid 65 = .ok (.getfield 231, 3) := by decide +kernel
theorem dX8_paid_68 : decode cX8_paid 68 = .ok (.iload_n 1, 1) := by decide +kernel
theorem dX8_paid_69 : decode cX8_paid 69 = .ok (.iaload, 1) := by decide +kernel
theorem dX8_paid_70 : decode cX8_paid 70 = .ok (.goto 12, 3) := by decide +kernel
theorem dX8_paid_73 : decode cX8_paid 73 = .ok (.aload_n 0, 1) := by decide +kernel
theorem dX8_paid_74 : decode cX8_paid 74 = .ok (.getfield 58, 3) := by decide +kernel
theorem dX8_paid_77 : decode cX8_paid 77 = .ok (.getfield 234, 3) := by decide +kernel
theorem dX8_paid_80 : decode cX8_paid 80 = .ok (.iload_n 1, 1) := by decide +kernel
theorem dX8_paid_81 : decode cX8_paid 81 = .ok (.iaload, 1) := by decide +kernel
theorem dX8_paid_82 : decode cX8_paid 82 = .ok (.istore 4, 2) := by decide +kernel
theorem dX8_paid_84 : decode cX8_paid 84 = .ok (.aload_n 0, 1) := by decide +kernel
theorem dX8_paid_85 : decode cX8_paid 85 = .ok (.getfield 10, 3) := by decide +kernel
theorem dX8_paid_88 : decode cX8_paid 88 = .ok (.iload 4, 2) := by decide +kernel
theorem dX8_paid_90 : decode cX8_paid 90 = .ok (.aload_n 0, 1) := by decide +kernel
theorem dX8_paid_91 : decode cX8_paid 91 = .ok (.getfield 10, 3) := by decide +kernel
theorem dX8_paid_94 : decode cX8_paid 94 = .ok (.iload_n 2, 1) := by decide +kernel
theorem dX8_paid_95 : decode cX8_paid 95 = .ok (.invokevirtual 116, 3) := by decide +kernel
theorem dX8_paid_98 : decode cX8_paid 98 = .ok (.invokevirtual 129, 3) := by decide +kernel
theorem dX8_paid_101 : decode cX8_paid 101 = .ok (.ireturn, 1) := by decide +kernel
theorem dX8_hangs_0 : decode cX8_hangs 0 = .ok (.iload_n 1, 1) := by decide +kernel
theorem dX8_hangs_1 : decode cX8_hangs 1 = .ok (.iconst 1, 1) := by decide +kernel
theorem dX8_hangs_2 : decode cX8_hangs 2 = .ok (.if_icmp .lt 19, 3) := by decide +kernel
theorem dX8_hangs_5 : decode cX8_hangs 5 = .ok (.iload_n 1, 1) := by decide +kernel
theorem dX8_hangs_6 : decode cX8_hangs 6 = .ok (.sipush 999, 3) := by decide +kernel
theorem dX8_hangs_9 : decode cX8_hangs 9 = .ok (.if_icmp .gt 12, 3) := by decide +kernel
theorem dX8_hangs_12 : decode cX8_hangs 12 = .ok (.iload_n 2, 1) := by decide +kernel
theorem dX8_hangs_13 : decode cX8_hangs 13 = .ok (.ifCond .lt 8, 3) := by decide +kernel
theorem dX8_hangs_16 : decode cX8_hangs 16 = .ok (.iload_n 2, 1) := by decide +kernel
theorem dX8_hangs_17 : decode cX8_hangs 17 = .ok (.iconst 1, 1) := by decide +kernel
theorem dX8_hangs_18 : decode cX8_hangs 18 = .ok (.if_icmp .le 6, 3) := by decide +kernel
theorem dX8_hangs_21 : decode cX8_hangs 21 = .ok (.bipush (-3), 2) := by decide +kernel
theorem dX8_hangs_23 : decode cX8_hangs 23 = .ok (.ireturn, 1) := by decide +kernel
theorem dX8_hangs_24 : decode cX8_hangs 24 = .ok (.iload_n 2, 1) := by decide +kernel
theorem dX8_hangs_25 : decode cX8_hangs 25 = .ok (.ifCond .ne 14, 3) := by decide +kernel
theorem dX8_hangs_28 : decode cX8_hangs 28 = .ok (.aload_n 0, 1) := by decide +kernel
theorem dX8_hangs_29 : decode cX8_hangs 29 = .ok (.getfield 42, 3) := by decide +kernel
theorem dX8_hangs_32 : decode cX8_hangs 32 = .ok (.iload_n 1, 1) := by decide +kernel
theorem dX8_hangs_33 : decode cX8_hangs 33 = .ok (.invokevirtual 237, 3) := by decide +kernel
theorem dX8_hangs_36 : decode cX8_hangs 36 = .ok (.goto 15, 3) := by decide +kernel
theorem dX8_hangs_39 : decode cX8_hangs 39 = .ok (.aload_n 0, 1) := by decide +kernel
theorem dX8_hangs_40 : decode cX8_hangs 40 = .ok (.getfield 42, 3) := by decide +kernel
theorem dX8_hangs_43 : decode cX8_hangs 43 = .ok (.iload_n 1, 1) := by decide +kernel
theorem dX8_hangs_44 : decode cX8_hangs 44 = .ok (.aload_n 0, 1) := by decide +kernel
theorem dX8_hangs_45 : decode cX8_hangs 45 = .ok (.getfield 65, 3) := by decide +kernel
theorem dX8_hangs_48 : decode cX8_hangs 48 = .ok (.invokevirtual 240, 3) := by decide +kernel
theorem dX8_hangs_51 : decode cX8_hangs 51 = .ok (.ireturn, 1) := by decide +kernel
theorem dX8_without_0 : decode cX8_without 0 = .ok (.aload_n 0, 1) := by decide +kernel
theorem dX8_without_1 : decode cX8_without 1 = .ok (.getfield 42, 3) := by decide +kernel
theorem dX8_without_4 : decode cX8_without 4 = .ok (.iload_n 1, 1) := by decide +kernel
theorem dX8_without_5 : decode cX8_without 5 = .ok (.invokevirtual 168, 3) := by decide +kernel
theorem dX8_without_8 : decode cX8_without 8 = .ok (.ifCond .eq 14, 3) := by decide +kernel
theorem dX8_without_11 : decode cX8_without 11 = .ok (.aload_n 0, 1) := by decide +kernel
theorem dX8_without_12 : decode cX8_without 12 = .ok (.getfield 10, 3) := by decide +kernel
theorem dX8_without_15 : decode cX8_without 15 = .ok (.iload_n 2, 1) := by decide +kernel
theorem dX8_without_16 : decode cX8_without 16 = .ok (.invokevirtual 119, 3) := by decide +kernel
theorem dX8_without_19 : decode cX8_without 19 = .ok (.ifCond .ne 6, 3) := by decide +kernel
theorem dX8_without_22 : decode cX8_without 22 = .ok (.bipush (-2), 2) := by decide +kernel
theorem dX8_without_24 : decode cX8_without 24 = .ok (.ireturn, 1) := by decide +kernel
theorem dX8_without_25 : decode cX8_without 25 = .ok (.iload_n 3, 1) := by decide +kernel
theorem dX8_without_26 : decode cX8_without 26 = .ok (.invokestatic 110, 3) := by decide +kernel
theorem dX8_without_29 : decode cX8_without 29 = .ok (.ifCond .ne 6, 3) := by decide +kernel
theorem dX8_without_32 : decode cX8_without 32 = .ok (.bipush (-3), 2) := by decide +kernel
theorem dX8_without_34 : decode cX8_without 34 = .ok (.ireturn, 1) := by decide +kernel
theorem dX8_without_35 : decode cX8_without 35 = .ok (.aload_n 0, 1) := by decide +kernel
theorem dX8_without_36 : decode cX8_without 36 = .ok (.getfield 42, 3) := by decide +kernel
theorem dX8_without_39 : decode cX8_without 39 = .ok (.iload_n 1, 1) := by decide +kernel
theorem dX8_without_40 : decode cX8_without 40 = .ok (.iload_n 2, 1) := by decide +kernel
theorem dX8_without_41 : decode cX8_without 41 = .ok (.iload_n 3, 1) := by decide +kernel
theorem dX8_without_42 : decode cX8_without 42 = .ok (.iload 4, 2) := by decide +kernel
theorem dX8_without_44 : decode cX8_without 44 = .ok (.invokevirtual 244, 3) := by decide +kernel
theorem dX8_without_47 : decode cX8_without 47 = .ok (.ireturn, 1) := by decide +kernel
theorem dX8_burden_0 : decode cX8_burden 0 = .ok (.aload_n 0, 1) := by decide +kernel
theorem dX8_burden_1 : decode cX8_burden 1 = .ok (.getfield 10, 3) := by decide +kernel
theorem dX8_burden_4 : decode cX8_burden 4 = .ok (.iload_n 1, 1) := by decide +kernel
theorem dX8_burden_5 : decode cX8_burden 5 = .ok (.invokevirtual 119, 3) := by decide +kernel
theorem dX8_burden_8 : decode cX8_burden 8 = .ok (.ifCond .ne 6, 3) := by decide +kernel
theorem dX8_burden_11 : decode cX8_burden 11 = .ok (.bipush (-2), 2) := by decide +kernel
theorem dX8_burden_13 : decode cX8_burden 13 = .ok (.ireturn, 1) := by decide +kernel
theorem dX8_burden_14 : decode cX8_burden 14 = .ok (.iload_n 2, 1) := by decide +kernel
theorem dX8_burden_15 : decode cX8_burden 15 = .ok (.invokestatic 110, 3) := by decide +kernel
theorem dX8_burden_18 : decode cX8_burden 18 = .ok (.ifCond .eq 12, 3) := by decide +kernel
theorem dX8_burden_21 : decode cX8_burden 21 = .ok (.iload_n 3, 1) := by decide +kernel
theorem dX8_burden_22 : decode cX8_burden 22 = .ok (.ifCond .lt 8, 3) := by decide +kernel
theorem dX8_burden_25 : decode cX8_burden 25 = .ok (.iload_n 3, 1) := by decide +kernel
theorem dX8_burden_26 : decode cX8_burden 26 = .ok (.iconst 2, 1) := by decide +kernel
theorem dX8_burden_27 : decode cX8_burden 27 = .ok (.if_icmp .le 6, 3) := by decide +kernel
theorem dX8_burden_30 : decode cX8_burden 30 = .ok (.bipush (-3), 2) := by decide +kernel
theorem dX8_burden_32 : decode cX8_burden 32 = .ok (.ireturn, 1) := by decide +kernel
theorem dX8_burden_33 : decode cX8_burden 33 = .ok (.ldc 248, 2) := by decide +kernel
theorem dX8_burden_35 : decode cX8_burden 35 = .ok (.aload_n 0, 1) := by decide +kernel
theorem dX8_burden_36 : decode cX8_burden 36 = .ok (.getfield 51, 3) := by decide +kernel
theorem dX8_burden_39 : decode cX8_burden 39 = .ok (.iload_n 1, 1) := by decide +kernel
theorem dX8_burden_40 : decode cX8_burden 40 = .ok (.iload_n 2, 1) := by decide +kernel
theorem dX8_burden_41 : decode cX8_burden 41 = .ok (.iload_n 3, 1) := by decide +kernel
theorem dX8_burden_42 : decode cX8_burden 42 = .ok (.invokevirtual 249, 3) := by decide +kernel
theorem dX8_burden_45 : decode cX8_burden 45 = .ok (.iadd, 1) := by decide +kernel
theorem dX8_burden_46 : decode cX8_burden 46 = .ok (.ireturn, 1) := by decide +kernel
theorem dX8_best_0 : decode cX8_best 0 = .ok (.aload_n 0, 1) := by decide +kernel
theorem dX8_best_1 : decode cX8_best 1 = .ok (.getfield 10, 3) := by decide +kernel
theorem dX8_best_4 : decode cX8_best 4 = .ok (.iload_n 1, 1) := by decide +kernel
theorem dX8_best_5 : decode cX8_best 5 = .ok (.invokevirtual 119, 3) := by decide +kernel
theorem dX8_best_8 : decode cX8_best 8 = .ok (.ifCond .ne 6, 3) := by decide +kernel
theorem dX8_best_11 : decode cX8_best 11 = .ok (.bipush (-2), 2) := by decide +kernel
theorem dX8_best_13 : decode cX8_best 13 = .ok (.ireturn, 1) := by decide +kernel
theorem dX8_best_14 : decode cX8_best 14 = .ok (.iload_n 2, 1) := by decide +kernel
theorem dX8_best_15 : decode cX8_best 15 = .ok (.invokestatic 110, 3) := by decide +kernel
theorem dX8_best_18 : decode cX8_best 18 = .ok (.ifCond .ne 6, 3) := by decide +kernel
theorem dX8_best_21 : decode cX8_best 21 = .ok (.bipush (-3), 2) := by decide +kernel
theorem dX8_best_23 : decode cX8_best 23 = .ok (.ireturn, 1) := by decide +kernel
theorem dX8_best_24 : decode cX8_best 24 = .ok (.iconst 0, 1) := by decide +kernel
theorem dX8_best_25 : decode cX8_best 25 = .ok (.istore_n 3, 1) := by decide +kernel
theorem dX8_best_26 : decode cX8_best 26 = .ok (.iconst 1, 1) := by decide +kernel
theorem dX8_best_27 : decode cX8_best 27 = .ok (.istore 4, 2) := by decide +kernel
theorem dX8_best_29 : decode cX8_best 29 = .ok (.iload 4, 2) := by decide +kernel
theorem dX8_best_31 : decode cX8_best 31 = .ok (.iconst 2, 1) := by decide +kernel
theorem dX8_best_32 : decode cX8_best 32 = .ok (.if_icmp .gt 36, 3) := by decide +kernel
theorem dX8_best_35 : decode cX8_best 35 = .ok (.aload_n 0, 1) := by decide +kernel
theorem dX8_best_36 : decode cX8_best 36 = .ok (.getfield 51, 3) := by decide +kernel
theorem dX8_best_39 : decode cX8_best 39 = .ok (.iload_n 1, 1) := by decide +kernel
theorem dX8_best_40 : decode cX8_best 40 = .ok (.iload_n 2, 1) := by decide +kernel
theorem dX8_best_41 : decode cX8_best 41 = .ok (.iload 4, 2) := by decide +kernel
theorem dX8_best_43 : decode cX8_best 43 = .ok (.invokevirtual 249, 3) := by decide +kernel
theorem dX8_best_46 : decode cX8_best 46 = .ok (.aload_n 0, 1) := by decide +kernel
theorem dX8_best_47 : decode cX8_best 47 = .ok (.getfield 51, 3) := by decide +kernel
theorem dX8_best_50 : decode cX8_best 50 = .ok (.iload_n 1, 1) := by decide +kernel
theorem dX8_best_51 : decode cX8_best 51 = .ok (.iload_n 2, 1) := by decide +kernel
theorem dX8_best_52 : decode cX8_best 52 = .ok (.iload_n 3, 1) := by decide +kernel
theorem dX8_best_53 : decode cX8_best 53 = .ok (.invokevirtual 249, 3) := by decide +kernel
theorem dX8_best_56 : decode cX8_best 56 = .ok (.if_icmp .ge 6, 3) := by decide +kernel
theorem dX8_best_59 : decode cX8_best 59 = .ok (.iload 4, 2) := by decide +kernel
theorem dX8_best_61 : decode cX8_best 61 = .ok (.istore_n 3, 1) := by decide +kernel
theorem dX8_best_62 : decode cX8_best 62 = .ok (.iinc 4 1, 3) := by decide +kernel
theorem dX8_best_65 : decode cX8_best 65 = .ok (.goto (-36), 3) := by decide +kernel
theorem dX8_best_68 : decode cX8_best 68 = .ok (.iload_n 3, 1) := by decide +kernel
theorem dX8_best_69 : decode cX8_best 69 = .ok (.ireturn, 1) := by decide +kernel
theorem dX8_count_0 : decode cX8_count 0 = .ok (.iload_n 1, 1) := by decide +kernel
theorem dX8_count_1 : decode cX8_count 1 = .ok (.tableswitch 135 0 9 #[55, 63, 71, 79, 87, 95, 103, 111, 119, 127], 55) := by decide +kernel
theorem dX8_count_56 : decode cX8_count 56 = .ok (.aload_n 0, 1) := by decide +kernel
theorem dX8_count_57 : decode cX8_count 57 = .ok (.getfield 10, 3) := by decide +kernel
theorem dX8_count_60 : decode cX8_count 60 = .ok (.getfield 73, 3) := by decide +kernel
theorem dX8_count_63 : decode cX8_count 63 = .ok (.ireturn, 1) := by decide +kernel
theorem dX8_count_64 : decode cX8_count 64 = .ok (.aload_n 0, 1) := by decide +kernel
theorem dX8_count_65 : decode cX8_count 65 = .ok (.getfield 10, 3) := by decide +kernel
theorem dX8_count_68 : decode cX8_count 68 = .ok (.getfield 95, 3) := by decide +kernel
theorem dX8_count_71 : decode cX8_count 71 = .ok (.ireturn, 1) := by decide +kernel
theorem dX8_count_72 : decode cX8_count 72 = .ok (.aload_n 0, 1) := by decide +kernel
theorem dX8_count_73 : decode cX8_count 73 = .ok (.getfield 10, 3) := by decide +kernel
theorem dX8_count_76 : decode cX8_count 76 = .ok (.getfield 69, 3) := by decide +kernel
theorem dX8_count_79 : decode cX8_count 79 = .ok (.ireturn, 1) := by decide +kernel
theorem dX8_count_80 : decode cX8_count 80 = .ok (.aload_n 0, 1) := by decide +kernel
theorem dX8_count_81 : decode cX8_count 81 = .ok (.getfield 19, 3) := by decide +kernel
theorem dX8_count_84 : decode cX8_count 84 = .ok (.getfield 138, 3) := by decide +kernel
theorem dX8_count_87 : decode cX8_count 87 = .ok (.ireturn, 1) := by decide +kernel
theorem dX8_count_88 : decode cX8_count 88 = .ok (.aload_n 0, 1) := by decide +kernel
theorem dX8_count_89 : decode cX8_count 89 = .ok (.getfield 42, 3) := by decide +kernel
theorem dX8_count_92 : decode cX8_count 92 = .ok (.getfield 161, 3) := by decide +kernel
theorem dX8_count_95 : decode cX8_count 95 = .ok (.ireturn, 1) := by decide +kernel
theorem dX8_count_96 : decode cX8_count 96 = .ok (.aload_n 0, 1) := by decide +kernel
theorem dX8_count_97 : decode cX8_count 97 = .ok (.getfield 26, 3) := by decide +kernel
theorem dX8_count_100 : decode cX8_count 100 = .ok (.getfield 171, 3) := by decide +kernel
theorem dX8_count_103 : decode cX8_count 103 = .ok (.ireturn, 1) := by decide +kernel
theorem dX8_count_104 : decode cX8_count 104 = .ok (.aload_n 0, 1) := by decide +kernel
theorem dX8_count_105 : decode cX8_count 105 = .ok (.getfield 33, 3) := by decide +kernel
theorem dX8_count_108 : decode cX8_count 108 = .ok (.getfield 178, 3) := by decide +kernel
theorem dX8_count_111 : decode cX8_count 111 = .ok (.ireturn, 1) := by decide +kernel
theorem dX8_count_112 : decode cX8_count 112 = .ok (.aload_n 0, 1) := by decide +kernel
theorem dX8_count_113 : decode cX8_count 113 = .ok (.getfield 51, 3) := by decide +kernel
theorem dX8_count_116 : decode cX8_count 116 = .ok (.getfield 195, 3) := by decide +kernel
theorem dX8_count_119 : decode cX8_count 119 = .ok (.ireturn, 1) := by decide +kernel
theorem dX8_count_120 : decode cX8_count 120 = .ok (.aload_n 0, 1) := by decide +kernel
theorem dX8_count_121 : decode cX8_count 121 = .ok (.getfield 51, 3) := by decide +kernel
theorem dX8_count_124 : decode cX8_count 124 = .ok (.getfield 207, 3) := by decide +kernel
theorem dX8_count_127 : decode cX8_count 127 = .ok (.ireturn, 1) := by decide +kernel
theorem dX8_count_128 : decode cX8_count 128 = .ok (.aload_n 0, 1) := by decide +kernel
theorem dX8_count_129 : decode cX8_count 129 = .ok (.getfield 58, 3) := by decide +kernel
theorem dX8_count_132 : decode cX8_count 132 = .ok (.getfield 219, 3) := by decide +kernel
theorem dX8_count_135 : decode cX8_count 135 = .ok (.ireturn, 1) := by decide +kernel
theorem dX8_count_136 : decode cX8_count 136 = .ok (.bipush (-3), 2) := by decide +kernel
theorem dX8_count_138 : decode cX8_count 138 = .ok (.ireturn, 1) := by decide +kernel
theorem dX8_mayChangeOn_0 : decode cX8_mayChangeOn 0 = .ok (.iload_n 1, 1) := by decide +kernel
theorem dX8_mayChangeOn_1 : decode cX8_mayChangeOn 1 = .ok (.invokestatic 110, 3) := by decide +kernel
theorem dX8_mayChangeOn_4 : decode cX8_mayChangeOn 4 = .ok (.ifCond .eq 40, 3) := by decide +kernel
theorem dX8_mayChangeOn_7 : decode cX8_mayChangeOn 7 = .ok (.iload_n 1, 1) := by decide +kernel
theorem dX8_mayChangeOn_8 : decode cX8_mayChangeOn 8 = .ok (.aload_n 0, 1) := by decide +kernel
theorem dX8_mayChangeOn_9 : decode cX8_mayChangeOn 9 = .ok (.getfield 10, 3) := by decide +kernel
theorem dX8_mayChangeOn_12 : decode cX8_mayChangeOn 12 = .ok (.invokevirtual 252, 3) := by decide +kernel
theorem dX8_mayChangeOn_15 : decode cX8_mayChangeOn 15 = .ok (.if_icmp .lt 29, 3) := by decide +kernel
theorem dX8_mayChangeOn_18 : decode cX8_mayChangeOn 18 = .ok (.iload_n 1, 1) := by decide +kernel
theorem dX8_mayChangeOn_19 : decode cX8_mayChangeOn 19 = .ok (.aload_n 0, 1) := by decide +kernel
theorem dX8_mayChangeOn_20 : decode cX8_mayChangeOn 20 = .ok (.getfield 42, 3) := by decide +kernel
theorem dX8_mayChangeOn_23 : decode cX8_mayChangeOn 23 = .ok (.getfield 255, 3) := by decide +kernel
theorem dX8_mayChangeOn_26 : decode cX8_mayChangeOn 26 = .ok (.if_icmp .le 18, 3) := by decide +kernel
theorem dX8_mayChangeOn_29 : decode cX8_mayChangeOn 29 = .ok (.iload_n 1, 1) := by decide +kernel
theorem dX8_mayChangeOn_30 : decode cX8_mayChangeOn 30 = .ok (.aload_n 0, 1) := by decide +kernel
theorem dX8_mayChangeOn_31 : decode cX8_mayChangeOn 31 = .ok (.getfield 51, 3) := by decide +kernel
theorem dX8_mayChangeOn_34 : decode cX8_mayChangeOn 34 = .ok (.getfield 257, 3) := by decide +kernel
theorem dX8_mayChangeOn_37 : decode cX8_mayChangeOn 37 = .ok (.if_icmp .le 7, 3) := by decide +kernel
theorem dX8_mayChangeOn_40 : decode cX8_mayChangeOn 40 = .ok (.iconst 1, 1) := by decide +kernel
theorem dX8_mayChangeOn_41 : decode cX8_mayChangeOn 41 = .ok (.goto 4, 3) := by decide +kernel
theorem dX8_mayChangeOn_44 : decode cX8_mayChangeOn 44 = .ok (.iconst 0, 1) := by decide +kernel
theorem dX8_mayChangeOn_45 : decode cX8_mayChangeOn 45 = .ok (.ireturn, 1) := by decide +kernel
theorem dX8_landsThatCome_0 : decode cX8_landsThatCome 0 = .ok (.iload_n 0, 1) := by decide +kernel
theorem dX8_landsThatCome_1 : decode cX8_landsThatCome 1 = .ok (.iconst 1, 1) := by decide +kernel
theorem dX8_landsThatCome_2 : decode cX8_landsThatCome 2 = .ok (.if_icmp .ne 7, 3) := by decide +kernel
theorem dX8_landsThatCome_5 : decode cX8_landsThatCome 5 = .ok (.iconst 2, 1) := by decide +kernel
theorem dX8_landsThatCome_6 : decode cX8_landsThatCome 6 = .ok (.goto 12, 3) := by decide +kernel
theorem dX8_landsThatCome_9 : decode cX8_landsThatCome 9 = .ok (.iload_n 0, 1) := by decide +kernel
theorem dX8_landsThatCome_10 : decode cX8_landsThatCome 10 = .ok (.ifCond .ne 7, 3) := by decide +kernel
theorem dX8_landsThatCome_13 : decode cX8_landsThatCome 13 = .ok (.iconst 1, 1) := by decide +kernel
theorem dX8_landsThatCome_14 : decode cX8_landsThatCome 14 = .ok (.goto 4, 3) := by decide +kernel
theorem dX8_landsThatCome_17 : decode cX8_landsThatCome 17 = .ok (.iconst 0, 1) := by decide +kernel
theorem dX8_landsThatCome_18 : decode cX8_landsThatCome 18 = .ok (.ireturn, 1) := by decide +kernel
theorem dX8_isDay_0 : decode cX8_isDay 0 = .ok (.iload_n 0, 1) := by decide +kernel
theorem dX8_isDay_1 : decode cX8_isDay 1 = .ok (.ifCond .lt 14, 3) := by decide +kernel
theorem dX8_isDay_4 : decode cX8_isDay 4 = .ok (.iload_n 0, 1) := by decide +kernel
theorem dX8_isDay_5 : decode cX8_isDay 5 = .ok (.sipush 999, 3) := by decide +kernel
theorem dX8_isDay_8 : decode cX8_isDay 8 = .ok (.if_icmp .gt 7, 3) := by decide +kernel
theorem dX8_isDay_11 : decode cX8_isDay 11 = .ok (.iconst 1, 1) := by decide +kernel
theorem dX8_isDay_12 : decode cX8_isDay 12 = .ok (.goto 4, 3) := by decide +kernel
theorem dX8_isDay_15 : decode cX8_isDay 15 = .ok (.iconst 0, 1) := by decide +kernel
theorem dX8_isDay_16 : decode cX8_isDay 16 = .ok (.ireturn, 1) := by decide +kernel
theorem dX8_isThird_0 : decode cX8_isThird 0 = .ok (.iload_n 0, 1) := by decide +kernel
theorem dX8_isThird_1 : decode cX8_isThird 1 = .ok (.ifCond .lt 13, 3) := by decide +kernel
theorem dX8_isThird_4 : decode cX8_isThird 4 = .ok (.iload_n 0, 1) := by decide +kernel
theorem dX8_isThird_5 : decode cX8_isThird 5 = .ok (.bipush 6, 2) := by decide +kernel
theorem dX8_isThird_7 : decode cX8_isThird 7 = .ok (.if_icmp .ge 7, 3) := by decide +kernel
theorem dX8_isThird_10 : decode cX8_isThird 10 = .ok (.iconst 1, 1) := by decide +kernel
theorem dX8_isThird_11 : decode cX8_isThird 11 = .ok (.goto 4, 3) := by decide +kernel
theorem dX8_isThird_14 : decode cX8_isThird 14 = .ok (.iconst 0, 1) := by decide +kernel
theorem dX8_isThird_15 : decode cX8_isThird 15 = .ok (.ireturn, 1) := by decide +kernel
theorem dX8_isIn_0 : decode cX8_isIn 0 = .ok (.iload_n 0, 1) := by decide +kernel
theorem dX8_isIn_1 : decode cX8_isIn 1 = .ok (.iload_n 1, 1) := by decide +kernel
theorem dX8_isIn_2 : decode cX8_isIn 2 = .ok (.ishr, 1) := by decide +kernel
theorem dX8_isIn_3 : decode cX8_isIn 3 = .ok (.iconst 1, 1) := by decide +kernel
theorem dX8_isIn_4 : decode cX8_isIn 4 = .ok (.iand, 1) := by decide +kernel
theorem dX8_isIn_5 : decode cX8_isIn 5 = .ok (.ifCond .eq 7, 3) := by decide +kernel
theorem dX8_isIn_8 : decode cX8_isIn 8 = .ok (.iconst 1, 1) := by decide +kernel
theorem dX8_isIn_9 : decode cX8_isIn 9 = .ok (.goto 4, 3) := by decide +kernel
theorem dX8_isIn_12 : decode cX8_isIn 12 = .ok (.iconst 0, 1) := by decide +kernel
theorem dX8_isIn_13 : decode cX8_isIn 13 = .ok (.ireturn, 1) := by decide +kernel
theorem dX9_firstRules_0 : decode cX9_firstRules 0 = .ok (.iconst 0, 1) := by decide +kernel
theorem dX9_firstRules_1 : decode cX9_firstRules 1 = .ok (.istore_n 1, 1) := by decide +kernel
theorem dX9_firstRules_2 : decode cX9_firstRules 2 = .ok (.iload_n 1, 1) := by decide +kernel
theorem dX9_firstRules_3 : decode cX9_firstRules 3 = .ok (.iconst 5, 1) := by decide +kernel
theorem dX9_firstRules_4 : decode cX9_firstRules 4 = .ok (.if_icmp .ge 23, 3) := by decide +kernel
theorem dX9_firstRules_7 : decode cX9_firstRules 7 = .ok (.aload_n 0, 1) := by decide +kernel
theorem dX9_firstRules_8 : decode cX9_firstRules 8 = .ok (.iload_n 1, 1) := by decide +kernel
theorem dX9_firstRules_9 : decode cX9_firstRules 9 = .ok (.iload_n 1, 1) := by decide +kernel
theorem dX9_firstRules_10 : decode cX9_firstRules 10 = .ok (.iconst 2, 1) := by decide +kernel
theorem dX9_firstRules_11 : decode cX9_firstRules 11 = .ok (.if_icmp .ne 8, 3) := by decide +kernel
theorem dX9_firstRules_14 : decode cX9_firstRules 14 = .ok (.bipush 100, 2) := by decide +kernel
theorem dX9_firstRules_16 : decode cX9_firstRules 16 = .ok (.goto 4, 3) := by decide +kernel
theorem dX9_firstRules_19 : decode cX9_firstRules 19 = .ok (.iconst 0, 1) := by decide +kernel
theorem dX9_firstRules_20 : decode cX9_firstRules 20 = .ok (.iastore, 1) := by decide +kernel
theorem dX9_firstRules_21 : decode cX9_firstRules 21 = .ok (.iinc 1 1, 3) := by decide +kernel
theorem dX9_firstRules_24 : decode cX9_firstRules 24 = .ok (.goto (-22), 3) := by decide +kernel
theorem dX9_firstRules_27 : decode cX9_firstRules 27 = .ok (.return_, 1) := by decide +kernel
theorem dX9_in_0 : decode cX9_in 0 = .ok (.iload_n 0, 1) := by decide +kernel
theorem dX9_in_1 : decode cX9_in 1 = .ok (.iload_n 1, 1) := by decide +kernel
theorem dX9_in_2 : decode cX9_in 2 = .ok (.if_icmp .lt 12, 3) := by decide +kernel
theorem dX9_in_5 : decode cX9_in 5 = .ok (.iload_n 0, 1) := by decide +kernel
theorem dX9_in_6 : decode cX9_in 6 = .ok (.iload_n 2, 1) := by decide +kernel
theorem dX9_in_7 : decode cX9_in 7 = .ok (.if_icmp .gt 7, 3) := by decide +kernel
theorem dX9_in_10 : decode cX9_in 10 = .ok (.iconst 1, 1) := by decide +kernel
theorem dX9_in_11 : decode cX9_in 11 = .ok (.goto 4, 3) := by decide +kernel
theorem dX9_in_14 : decode cX9_in 14 = .ok (.iconst 0, 1) := by decide +kernel
theorem dX9_in_15 : decode cX9_in 15 = .ok (.ireturn, 1) := by decide +kernel
theorem dX9_isGround_0 : decode cX9_isGround 0 = .ok (.iload_n 1, 1) := by decide +kernel
theorem dX9_isGround_1 : decode cX9_isGround 1 = .ok (.iconst 0, 1) := by decide +kernel
theorem dX9_isGround_2 : decode cX9_isGround 2 = .ok (.aload_n 0, 1) := by decide +kernel
theorem dX9_isGround_3 : decode cX9_isGround 3 = .ok (.getfield 145, 3) := by decide +kernel
theorem dX9_isGround_6 : decode cX9_isGround 6 = .ok (.iconst 1, 1) := by decide +kernel
theorem dX9_isGround_7 : decode cX9_isGround 7 = .ok (.isub, 1) := by decide +kernel
theorem dX9_isGround_8 : decode cX9_isGround 8 = .ok (.invokestatic 148, 3) := by decide +kernel
theorem dX9_isGround_11 : decode cX9_isGround 11 = .ok (.ireturn, 1) := by decide +kernel
theorem dX9_isLand_0 : decode cX9_isLand 0 = .ok (.iload_n 1, 1) := by decide +kernel
theorem dX9_isLand_1 : decode cX9_isLand 1 = .ok (.iconst 0, 1) := by decide +kernel
theorem dX9_isLand_2 : decode cX9_isLand 2 = .ok (.aload_n 0, 1) := by decide +kernel
theorem dX9_isLand_3 : decode cX9_isLand 3 = .ok (.getfield 16, 3) := by decide +kernel
theorem dX9_isLand_6 : decode cX9_isLand 6 = .ok (.iconst 1, 1) := by decide +kernel
theorem dX9_isLand_7 : decode cX9_isLand 7 = .ok (.isub, 1) := by decide +kernel
theorem dX9_isLand_8 : decode cX9_isLand 8 = .ok (.invokestatic 148, 3) := by decide +kernel
theorem dX9_isLand_11 : decode cX9_isLand 11 = .ok (.ireturn, 1) := by decide +kernel
theorem dX9_isThird_0 : decode cX9_isThird 0 = .ok (.iload_n 0, 1) := by decide +kernel
theorem dX9_isThird_1 : decode cX9_isThird 1 = .ok (.iconst 0, 1) := by decide +kernel
theorem dX9_isThird_2 : decode cX9_isThird 2 = .ok (.iconst 5, 1) := by decide +kernel
theorem dX9_isThird_3 : decode cX9_isThird 3 = .ok (.invokestatic 148, 3) := by decide +kernel
theorem dX9_isThird_6 : decode cX9_isThird 6 = .ok (.ireturn, 1) := by decide +kernel
theorem dX9_isDay_0 : decode cX9_isDay 0 = .ok (.iload_n 0, 1) := by decide +kernel
theorem dX9_isDay_1 : decode cX9_isDay 1 = .ok (.iconst 0, 1) := by decide +kernel
theorem dX9_isDay_2 : decode cX9_isDay 2 = .ok (.sipush 999, 3) := by decide +kernel
theorem dX9_isDay_5 : decode cX9_isDay 5 = .ok (.invokestatic 148, 3) := by decide +kernel
theorem dX9_isDay_8 : decode cX9_isDay 8 = .ok (.ireturn, 1) := by decide +kernel
theorem dX9_ground_0 : decode cX9_ground 0 = .ok (.iload_n 1, 1) := by decide +kernel
theorem dX9_ground_1 : decode cX9_ground 1 = .ok (.iconst 1, 1) := by decide +kernel
theorem dX9_ground_2 : decode cX9_ground 2 = .ok (.sipush 999, 3) := by decide +kernel
theorem dX9_ground_5 : decode cX9_ground 5 = .ok (.invokestatic 148, 3) := by decide +kernel
theorem dX9_ground_8 : decode cX9_ground 8 = .ok (.ifCond .eq 14, 3) := by decide +kernel
theorem dX9_ground_11 : decode cX9_ground 11 = .ok (.iload_n 2, 1) := by decide +kernel
theorem dX9_ground_12 : decode cX9_ground 12 = .ok (.iconst 0, 1) := by decide +kernel
theorem dX9_ground_13 : decode cX9_ground 13 = .ok (.sipush 999, 3) := by decide +kernel
theorem dX9_ground_16 : decode cX9_ground 16 = .ok (.invokestatic 148, 3) := by decide +kernel
theorem dX9_ground_19 : decode cX9_ground 19 = .ok (.ifCond .ne 6, 3) := by decide +kernel
theorem dX9_ground_22 : decode cX9_ground 22 = .ok (.bipush (-3), 2) := by decide +kernel
theorem dX9_ground_24 : decode cX9_ground 24 = .ok (.ireturn, 1) := by decide +kernel
theorem dX9_ground_25 : decode cX9_ground 25 = .ok (.aload_n 0, 1) := by decide +kernel
theorem dX9_ground_26 : decode cX9_ground 26 = .ok (.getfield 152, 3) := by decide +kernel
theorem dX9_ground_29 : decode cX9_ground 29 = .ok (.ifCond .le 6, 3) := by decide +kernel
theorem dX9_ground_32 : decode cX9_ground 32 = .ok (.bipush (-4), 2) := by decide +kernel
theorem dX9_ground_34 : decode cX9_ground 34 = .ok (.ireturn, 1) := by decide +kernel
theorem dX9_ground_35 : decode cX9_ground 35 = .ok (.aload_n 0, 1) := by decide +kernel
theorem dX9_ground_36 : decode cX9_ground 36 = .ok (.getfield 145, 3) := by decide +kernel
theorem dX9_ground_39 : decode cX9_ground 39 = .ok (.bipush 8, 2) := by decide +kernel
theorem dX9_ground_41 : decode cX9_ground 41 = .ok (.if_icmp .ne 6, 3) := by decide +kernel
theorem dX9_ground_44 : decode cX9_ground 44 = .ok (.bipush (-5), 2) := by decide +kernel
theorem dX9_ground_46 : decode cX9_ground 46 = .ok (.ireturn, 1) := by decide +kernel
theorem dX9_ground_47 : decode cX9_ground 47 = .ok (.aload_n 0, 1) := by decide +kernel
theorem dX9_ground_48 : decode cX9_ground 48 = .ok (.getfield 7, 3) := by decide +kernel
theorem dX9_ground_51 : decode cX9_ground 51 = .ok (.aload_n 0, 1) := by decide +kernel
theorem dX9_ground_52 : decode cX9_ground 52 = .ok (.getfield 145, 3) := by decide +kernel
theorem dX9_ground_55 : decode cX9_ground 55 = .ok (.iload_n 1, 1) := by decide +kernel
theorem dX9_ground_56 : decode cX9_ground 56 = .ok (.iastore, 1) := by decide +kernel
theorem dX9_ground_57 : decode cX9_ground 57 = .ok (.aload_n 0, 1) := by decide +kernel
theorem dX9_ground_58 : decode cX9_ground 58 = .ok (.getfield 13, 3) := by decide +kernel
theorem dX9_ground_61 : decode cX9_ground 61 = .ok (.aload_n 0, 1) := by decide +kernel
theorem dX9_ground_62 : decode cX9_ground 62 = .ok (.getfield 145, 3) := by decide +kernel
theorem dX9_ground_65 : decode cX9_ground 65 = .ok (.iload_n 2, 1) := by decide +kernel
theorem dX9_ground_66 : decode cX9_ground 66 = .ok (.iastore, 1) := by decide +kernel
theorem dX9_ground_67 : decode cX9_ground 67 = .ok (.aload_n 0, 1) := by decide +kernel
theorem dX9_ground_68 : decode cX9_ground 68 = .ok (.getfield 44, 3) := by decide +kernel
theorem dX9_ground_71 : decode cX9_ground 71 = .ok (.aload_n 0, 1) := by decide +kernel
theorem dX9_ground_72 : decode cX9_ground 72 = .ok (.getfield 145, 3) := by decide +kernel
theorem dX9_ground_75 : decode cX9_ground 75 = .ok (.iconst 0, 1) := by decide +kernel
theorem dX9_ground_76 : decode cX9_ground 76 = .ok (.iastore, 1) := by decide +kernel
theorem dX9_ground_77 : decode cX9_ground 77 = .ok (.aload_n 0, 1) := by decide +kernel
theorem dX9_ground_78 : decode cX9_ground 78 = .ok (.dup, 1) := by decide +kernel
theorem dX9_ground_79 : decode cX9_ground 79 = .ok (.getfield 145, 3) := by decide +kernel
theorem dX9_ground_82 : decode cX9_ground 82 = .ok (.iconst 1, 1) := by decide +kernel
theorem dX9_ground_83 : decode cX9_ground 83 = .ok (.iadd, 1) := by decide +kernel
theorem dX9_ground_84 : decode cX9_ground 84 = .ok (.putfield 145, 3) := by decide +kernel
theorem dX9_ground_87 : decode cX9_ground 87 = .ok (.aload_n 0, 1) := by decide +kernel
theorem dX9_ground_88 : decode cX9_ground 88 = .ok (.getfield 145, 3) := by decide +kernel
theorem dX9_ground_91 : decode cX9_ground 91 = .ok (.iconst 1, 1) := by decide +kernel
theorem dX9_ground_92 : decode cX9_ground 92 = .ok (.isub, 1) := by decide +kernel
theorem dX9_ground_93 : decode cX9_ground 93 = .ok (.ireturn, 1) := by decide +kernel
theorem dX9_groundsOf_0 : decode cX9_groundsOf 0 = .ok (.iconst 0, 1) := by decide +kernel
theorem dX9_groundsOf_1 : decode cX9_groundsOf 1 = .ok (.istore_n 3, 1) := by decide +kernel
theorem dX9_groundsOf_2 : decode cX9_groundsOf 2 = .ok (.iconst 0, 1) := by decide +kernel
theorem dX9_groundsOf_3 : decode cX9_groundsOf 3 = .ok (.istore 4, 2) := by decide +kernel
theorem dX9_groundsOf_5 : decode cX9_groundsOf 5 = .ok (.iload 4, 2) := by decide +kernel
theorem dX9_groundsOf_7 : decode cX9_groundsOf 7 = .ok (.aload_n 0, 1) := by decide +kernel
theorem dX9_groundsOf_8 : decode cX9_groundsOf 8 = .ok (.getfield 145, 3) := by decide +kernel
theorem dX9_groundsOf_11 : decode cX9_groundsOf 11 = .ok (.if_icmp .ge 36, 3) := by decide +kernel
theorem dX9_groundsOf_14 : decode cX9_groundsOf 14 = .ok (.iload_n 3, 1) := by decide +kernel
theorem dX9_groundsOf_15 : decode cX9_groundsOf 15 = .ok (.aload_n 0, 1) := by decide +kernel
theorem dX9_groundsOf_16 : decode cX9_groundsOf 16 = .ok (.getfield 44, 3) := by decide +kernel
theorem dX9_groundsOf_19 : decode cX9_groundsOf 19 = .ok (.bipush 8, 2) := by decide +kernel
theorem dX9_groundsOf_21 : decode cX9_groundsOf 21 = .ok (.iload_n 2, 1) := by decide +kernel
theorem dX9_groundsOf_22 : decode cX9_groundsOf 22 = .ok (.imul, 1) := by decide +kernel
theorem dX9_groundsOf_23 : decode cX9_groundsOf 23 = .ok (.iload 4, 2) := by decide +kernel
theorem dX9_groundsOf_25 : decode cX9_groundsOf 25 = .ok (.iadd, 1) := by decide +kernel
theorem dX9_groundsOf_26 : decode cX9_groundsOf 26 = .ok (.iaload, 1) := by decide +kernel
theorem dX9_groundsOf_27 : decode cX9_groundsOf 27 = .ok (.iload_n 1, 1) := by decide +kernel
theorem dX9_groundsOf_28 : decode cX9_groundsOf 28 = .ok (.if_icmp .ne 10, 3) := by decide +kernel
theorem dX9_groundsOf_31 : decode cX9_groundsOf 31 = .ok (.iconst 1, 1) := by decide +kernel
theorem dX9_groundsOf_32 : decode cX9_groundsOf 32 = .ok (.iload 4, 2) := by decide +kernel
theorem dX9_groundsOf_34 : decode cX9_groundsOf 34 = .ok (.ishl, 1) := by decide +kernel
theorem dX9_groundsOf_35 : decode cX9_groundsOf 35 = .ok (.goto 4, 3) := by decide +kernel
theorem dX9_groundsOf_38 : decode cX9_groundsOf 38 = .ok (.iconst 0, 1) := by decide +kernel
theorem dX9_groundsOf_39 : decode cX9_groundsOf 39 = .ok (.ior, 1) := by decide +kernel
theorem dX9_groundsOf_40 : decode cX9_groundsOf 40 = .ok (.istore_n 3, 1) := by decide +kernel
theorem dX9_groundsOf_41 : decode cX9_groundsOf 41 = .ok (.iinc 4 1, 3) := by decide +kernel
theorem dX9_groundsOf_44 : decode cX9_groundsOf 44 = .ok (.goto (-39), 3) := by decide +kernel
theorem dX9_groundsOf_47 : decode cX9_groundsOf 47 = .ok (.iload_n 3, 1) := by decide +kernel
theorem dX9_groundsOf_48 : decode cX9_groundsOf 48 = .ok (.ireturn, 1) := by decide +kernel
theorem dX9_isThere_0 : decode cX9_isThere 0 = .ok (.iload_n 1, 1) := by decide +kernel
theorem dX9_isThere_1 : decode cX9_isThere 1 = .ok (.iconst 0, 1) := by decide +kernel
theorem dX9_isThere_2 : decode cX9_isThere 2 = .ok (.bipush 9, 2) := by decide +kernel
theorem dX9_isThere_4 : decode cX9_isThere 4 = .ok (.invokestatic 148, 3) := by decide +kernel
theorem dX9_isThere_7 : decode cX9_isThere 7 = .ok (.ifCond .eq 21, 3) := by decide +kernel
theorem dX9_isThere_10 : decode cX9_isThere 10 = .ok (.aload_n 0, 1) := by decide +kernel
theorem dX9_isThere_11 : decode cX9_isThere 11 = .ok (.getfield 47, 3) := by decide +kernel
theorem dX9_isThere_14 : decode cX9_isThere 14 = .ok (.iload_n 2, 1) := by decide +kernel
theorem dX9_isThere_15 : decode cX9_isThere 15 = .ok (.iaload, 1) := by decide +kernel
theorem dX9_isThere_16 : decode cX9_isThere 16 = .ok (.iload_n 1, 1) := by decide +kernel
theorem dX9_isThere_17 : decode cX9_isThere 17 = .ok (.ishr, 1) := by decide +kernel
theorem dX9_isThere_18 : decode cX9_isThere 18 = .ok (.iconst 1, 1) := by decide +kernel
theorem dX9_isThere_19 : decode cX9_isThere 19 = .ok (.iand, 1) := by decide +kernel
theorem dX9_isThere_20 : decode cX9_isThere 20 = .ok (.iconst 1, 1) := by decide +kernel
theorem dX9_isThere_21 : decode cX9_isThere 21 = .ok (.if_icmp .ne 7, 3) := by decide +kernel
theorem dX9_isThere_24 : decode cX9_isThere 24 = .ok (.iconst 1, 1) := by decide +kernel
theorem dX9_isThere_25 : decode cX9_isThere 25 = .ok (.goto 4, 3) := by decide +kernel
theorem dX9_isThere_28 : decode cX9_isThere 28 = .ok (.iconst 0, 1) := by decide +kernel
theorem dX9_isThere_29 : decode cX9_isThere 29 = .ok (.ireturn, 1) := by decide +kernel
theorem dX9_isSome_0 : decode cX9_isSome 0 = .ok (.aload_n 0, 1) := by decide +kernel
theorem dX9_isSome_1 : decode cX9_isSome 1 = .ok (.iload_n 2, 1) := by decide +kernel
theorem dX9_isSome_2 : decode cX9_isSome 2 = .ok (.aload_n 0, 1) := by decide +kernel
theorem dX9_isSome_3 : decode cX9_isSome 3 = .ok (.getfield 152, 3) := by decide +kernel
theorem dX9_isSome_6 : decode cX9_isSome 6 = .ok (.invokevirtual 155, 3) := by decide +kernel
theorem dX9_isSome_9 : decode cX9_isSome 9 = .ok (.istore_n 3, 1) := by decide +kernel
theorem dX9_isSome_10 : decode cX9_isSome 10 = .ok (.iload_n 1, 1) := by decide +kernel
theorem dX9_isSome_11 : decode cX9_isSome 11 = .ok (.ifCond .le 20, 3) := by decide +kernel
theorem dX9_isSome_14 : decode cX9_isSome 14 = .ok (.iload_n 1, 1) := by decide +kernel
theorem dX9_isSome_15 : decode cX9_isSome 15 = .ok (.iload_n 3, 1) := by decide +kernel
theorem dX9_isSome_16 : decode cX9_isSome 16 = .ok (.iconst (-1), 1) := by decide +kernel
theorem dX9_isSome_17 : decode cX9_isSome 17 = .ok (.ixor, 1) := by decide +kernel
theorem dX9_isSome_18 : decode cX9_isSome 18 = .ok (.iand, 1) := by decide +kernel
theorem dX9_isSome_19 : decode cX9_isSome 19 = .ok (.ifCond .ne 12, 3) := by decide +kernel
theorem dX9_isSome_22 : decode cX9_isSome 22 = .ok (.iload_n 1, 1) := by decide +kernel
theorem dX9_isSome_23 : decode cX9_isSome 23 = .ok (.iload_n 3, 1) := by decide +kernel
theorem dX9_isSome_24 : decode cX9_isSome 24 = .ok (.if_icmp .eq 7, 3) := by decide +kernel
theorem dX9_isSome_27 : decode cX9_isSome 27 = .ok (.iconst 1, 1) := by decide +kernel
theorem dX9_isSome_28 : decode cX9_isSome 28 = .ok (.goto 4, 3) := by decide +kernel
theorem dX9_isSome_31 : decode cX9_isSome 31 = .ok (.iconst 0, 1) := by decide +kernel
theorem dX9_isSome_32 : decode cX9_isSome 32 = .ok (.ireturn, 1) := by decide +kernel
theorem dX9_isLate_0 : decode cX9_isLate 0 = .ok (.iconst 1, 1) := by decide +kernel
theorem dX9_isLate_1 : decode cX9_isLate 1 = .ok (.istore_n 2, 1) := by decide +kernel
theorem dX9_isLate_2 : decode cX9_isLate 2 = .ok (.iconst 0, 1) := by decide +kernel
theorem dX9_isLate_3 : decode cX9_isLate 3 = .ok (.istore_n 3, 1) := by decide +kernel
theorem dX9_isLate_4 : decode cX9_isLate 4 = .ok (.iload_n 3, 1) := by decide +kernel
theorem dX9_isLate_5 : decode cX9_isLate 5 = .ok (.aload_n 0, 1) := by decide +kernel
theorem dX9_isLate_6 : decode cX9_isLate 6 = .ok (.getfield 159, 3) := by decide +kernel
theorem dX9_isLate_9 : decode cX9_isLate 9 = .ok (.if_icmp .ge 29, 3) := by decide +kernel
theorem dX9_isLate_12 : decode cX9_isLate 12 = .ok (.iload_n 2, 1) := by decide +kernel
theorem dX9_isLate_13 : decode cX9_isLate 13 = .ok (.ifCond .eq 17, 3) := by decide +kernel
theorem dX9_isLate_16 : decode cX9_isLate 16 = .ok (.iload_n 1, 1) := by decide +kernel
theorem dX9_isLate_17 : decode cX9_isLate 17 = .ok (.aload_n 0, 1) := by decide +kernel
theorem dX9_isLate_18 : decode cX9_isLate 18 = .ok (.getfield 71, 3) := by decide +kernel
theorem dX9_isLate_21 : decode cX9_isLate 21 = .ok (.iload_n 3, 1) := by decide +kernel
theorem dX9_isLate_22 : decode cX9_isLate 22 = .ok (.iaload, 1) := by decide +kernel
theorem dX9_isLate_23 : decode cX9_isLate 23 = .ok (.if_icmp .le 7, 3) := by decide +kernel
theorem dX9_isLate_26 : decode cX9_isLate 26 = .ok (.iconst 1, 1) := by decide +kernel
theorem dX9_isLate_27 : decode cX9_isLate 27 = .ok (.goto 4, 3) := by decide +kernel
theorem dX9_isLate_30 : decode cX9_isLate 30 = .ok (.iconst 0, 1) := by decide +kernel
theorem dX9_isLate_31 : decode cX9_isLate 31 = .ok (.istore_n 2, 1) := by decide +kernel
theorem dX9_isLate_32 : decode cX9_isLate 32 = .ok (.iinc 3 1, 3) := by decide +kernel
theorem dX9_isLate_35 : decode cX9_isLate 35 = .ok (.goto (-31), 3) := by decide +kernel
theorem dX9_isLate_38 : decode cX9_isLate 38 = .ok (.iconst 0, 1) := by decide +kernel
theorem dX9_isLate_39 : decode cX9_isLate 39 = .ok (.istore_n 3, 1) := by decide +kernel
theorem dX9_isLate_40 : decode cX9_isLate 40 = .ok (.iload_n 3, 1) := by decide +kernel
theorem dX9_isLate_41 : decode cX9_isLate 41 = .ok (.aload_n 0, 1) := by decide +kernel
theorem dX9_isLate_42 : decode cX9_isLate 42 = .ok (.getfield 162, 3) := by decide +kernel
theorem dX9_isLate_45 : decode cX9_isLate 45 = .ok (.if_icmp .ge 29, 3) := by decide +kernel
theorem dX9_isLate_48 : decode cX9_isLate 48 = .ok (.iload_n 2, 1) := by decide +kernel
theorem dX9_isLate_49 : decode cX9_isLate 49 = .ok (.ifCond .eq 17, 3) := by decide +kernel
theorem dX9_isLate_52 : decode cX9_isLate 52 = .ok (.iload_n 1, 1) := by decide +kernel
theorem dX9_isLate_53 : decode cX9_isLate 53 = .ok (.aload_n 0, 1) := by decide +kernel
theorem dX9_isLate_54 : decode cX9_isLate 54 = .ok (.getfield 117, 3) := by decide +kernel
theorem dX9_isLate_57 : decode cX9_isLate 57 = .ok (.iload_n 3, 1) := by decide +kernel
theorem dX9_isLate_58 : decode cX9_isLate 58 = .ok (.iaload, 1) := by decide +kernel
theorem dX9_isLate_59 : decode cX9_isLate 59 = .ok (.if_icmp .le 7, 3) := by decide +kernel
theorem dX9_isLate_62 : decode cX9_isLate 62 = .ok (.iconst 1, 1) := by decide +kernel
theorem dX9_isLate_63 : decode cX9_isLate 63 = .ok (.goto 4, 3) := by decide +kernel
theorem dX9_isLate_66 : decode cX9_isLate 66 = .ok (.iconst 0, 1) := by decide +kernel
theorem dX9_isLate_67 : decode cX9_isLate 67 = .ok (.istore_n 2, 1) := by decide +kernel
theorem dX9_isLate_68 : decode cX9_isLate 68 = .ok (.iinc 3 1, 3) := by decide +kernel
theorem dX9_isLate_71 : decode cX9_isLate 71 = .ok (.goto (-31), 3) := by decide +kernel
theorem dX9_isLate_74 : decode cX9_isLate 74 = .ok (.iload_n 2, 1) := by decide +kernel
theorem dX9_isLate_75 : decode cX9_isLate 75 = .ok (.ireturn, 1) := by decide +kernel
theorem dX9_change_0 : decode cX9_change 0 = .ok (.iload_n 1, 1) := by decide +kernel
theorem dX9_change_1 : decode cX9_change 1 = .ok (.iconst 0, 1) := by decide +kernel
theorem dX9_change_2 : decode cX9_change 2 = .ok (.iconst 4, 1) := by decide +kernel
theorem dX9_change_3 : decode cX9_change 3 = .ok (.invokestatic 148, 3) := by decide +kernel
theorem dX9_change_6 : decode cX9_change 6 = .ok (.ifCond .eq 40, 3) := by decide +kernel
theorem dX9_change_9 : decode cX9_change 9 = .ok (.iload_n 2, 1) := by decide +kernel
theorem dX9_change_10 : decode cX9_change 10 = .ok (.invokestatic 165, 3) := by decide +kernel
theorem dX9_change_13 : decode cX9_change 13 = .ok (.ifCond .eq 33, 3) := by decide +kernel
theorem dX9_change_16 : decode cX9_change 16 = .ok (.aload_n 0, 1) := by decide +kernel
theorem dX9_change_17 : decode cX9_change 17 = .ok (.getfield 152, 3) := by decide +kernel
theorem dX9_change_20 : decode cX9_change 20 = .ok (.ifCond .le 18, 3) := by decide +kernel
theorem dX9_change_23 : decode cX9_change 23 = .ok (.iload_n 2, 1) := by decide +kernel
theorem dX9_change_24 : decode cX9_change 24 = .ok (.aload_n 0, 1) := by decide +kernel
theorem dX9_change_25 : decode cX9_change 25 = .ok (.getfield 29, 3) := by decide +kernel
theorem dX9_change_28 : decode cX9_change 28 = .ok (.aload_n 0, 1) := by decide +kernel
theorem dX9_change_29 : decode cX9_change 29 = .ok (.getfield 152, 3) := by decide +kernel
theorem dX9_change_32 : decode cX9_change 32 = .ok (.iconst 1, 1) := by decide +kernel
theorem dX9_change_33 : decode cX9_change 33 = .ok (.isub, 1) := by decide +kernel
theorem dX9_change_34 : decode cX9_change 34 = .ok (.iaload, 1) := by decide +kernel
theorem dX9_change_35 : decode cX9_change 35 = .ok (.if_icmp .lt 11, 3) := by decide +kernel
theorem dX9_change_38 : decode cX9_change 38 = .ok (.aload_n 0, 1) := by decide +kernel
theorem dX9_change_39 : decode cX9_change 39 = .ok (.iload_n 2, 1) := by decide +kernel
theorem dX9_change_40 : decode cX9_change 40 = .ok (.invokevirtual 169, 3) := by decide +kernel
theorem dX9_change_43 : decode cX9_change 43 = .ok (.ifCond .ne 6, 3) := by decide +kernel
theorem dX9_change_46 : decode cX9_change 46 = .ok (.bipush (-3), 2) := by decide +kernel
theorem dX9_change_48 : decode cX9_change 48 = .ok (.ireturn, 1) := by decide +kernel
theorem dX9_change_49 : decode cX9_change 49 = .ok (.iload_n 1, 1) := by decide +kernel
theorem dX9_change_50 : decode cX9_change 50 = .ok (.iconst 2, 1) := by decide +kernel
theorem dX9_change_51 : decode cX9_change 51 = .ok (.if_icmp .eq 8, 3) := by decide +kernel
theorem dX9_change_54 : decode cX9_change 54 = .ok (.iload_n 1, 1) := by decide +kernel
theorem dX9_change_55 : decode cX9_change 55 = .ok (.iconst 3, 1) := by decide +kernel
theorem dX9_change_56 : decode cX9_change 56 = .ok (.if_icmp .ne 7, 3) := by decide +kernel
theorem dX9_change_59 : decode cX9_change 59 = .ok (.iconst 1, 1) := by decide +kernel
theorem dX9_change_60 : decode cX9_change 60 = .ok (.goto 4, 3) := by decide +kernel
theorem dX9_change_63 : decode cX9_change 63 = .ok (.iconst 0, 1) := by decide +kernel
theorem dX9_change_64 : decode cX9_change 64 = .ok (.istore 6, 2) := by decide +kernel
theorem dX9_change_66 : decode cX9_change 66 = .ok (.aload_n 0, 1) := by decide +kernel
theorem dX9_change_67 : decode cX9_change 67 = .ok (.iload_n 3, 1) := by decide +kernel
theorem dX9_change_68 : decode cX9_change 68 = .ok (.aload_n 0, 1) := by decide +kernel
theorem dX9_change_69 : decode cX9_change 69 = .ok (.getfield 152, 3) := by decide +kernel
theorem dX9_change_72 : decode cX9_change 72 = .ok (.invokevirtual 172, 3) := by decide +kernel
theorem dX9_change_75 : decode cX9_change 75 = .ok (.ifCond .eq 21, 3) := by decide +kernel
theorem dX9_change_78 : decode cX9_change 78 = .ok (.iload 6, 2) := by decide +kernel
theorem dX9_change_80 : decode cX9_change 80 = .ok (.ifCond .eq 19, 3) := by decide +kernel
theorem dX9_change_83 : decode cX9_change 83 = .ok (.aload_n 0, 1) := by decide +kernel
theorem dX9_change_84 : decode cX9_change 84 = .ok (.iload 4, 2) := by decide +kernel
theorem dX9_change_86 : decode cX9_change 86 = .ok (.aload_n 0, 1) := by decide +kernel
theorem dX9_change_87 : decode cX9_change 87 = .ok (.getfield 152, 3) := by decide +kernel
theorem dX9_change_90 : decode cX9_change 90 = .ok (.invokevirtual 172, 3) := by decide +kernel
theorem dX9_change_93 : decode cX9_change 93 = .ok (.ifCond .ne 6, 3) := by decide +kernel
theorem dX9_change_96 : decode cX9_change 96 = .ok (.bipush (-2), 2) := by decide +kernel
theorem dX9_change_98 : decode cX9_change 98 = .ok (.ireturn, 1) := by decide +kernel
theorem dX9_change_99 : decode cX9_change 99 = .ok (.iload 6, 2) := by decide +kernel
theorem dX9_change_101 : decode cX9_change 101 = .ok (.ifCond .eq 9, 3) := by decide +kernel
theorem dX9_change_104 : decode cX9_change 104 = .ok (.iload_n 3, 1) := by decide +kernel
theorem dX9_change_105 : decode cX9_change 105 = .ok (.iload 4, 2) := by decide +kernel
theorem dX9_change_107 : decode cX9_change 107 = .ok (.if_icmp .eq 38, 3) := by decide +kernel
theorem dX9_change_110 : decode cX9_change 110 = .ok (.iload_n 1, 1) := by decide +kernel
theorem dX9_change_111 : decode cX9_change 111 = .ok (.iconst 2, 1) := by decide +kernel
theorem dX9_change_112 : decode cX9_change 112 = .ok (.if_icmp .eq 18, 3) := by decide +kernel
theorem dX9_change_115 : decode cX9_change 115 = .ok (.iload_n 1, 1) := by decide +kernel
theorem dX9_change_116 : decode cX9_change 116 = .ok (.iconst 4, 1) := by decide +kernel
theorem dX9_change_117 : decode cX9_change 117 = .ok (.if_icmp .eq 13, 3) := by decide +kernel
theorem dX9_change_120 : decode cX9_change 120 = .ok (.aload_n 0, 1) := by decide +kernel
theorem dX9_change_121 : decode cX9_change 121 = .ok (.iload 5, 2) := by decide +kernel
theorem dX9_change_123 : decode cX9_change 123 = .ok (.iload_n 3, 1) := by decide +kernel
theorem dX9_change_124 : decode cX9_change 124 = .ok (.invokevirtual 176, 3) := by decide +kernel
theorem dX9_change_127 : decode cX9_change 127 = .ok (.ifCond .eq 18, 3) := by decide +kernel
theorem dX9_change_130 : decode cX9_change 130 = .ok (.iload_n 1, 1) := by decide +kernel
theorem dX9_change_131 : decode cX9_change 131 = .ok (.iconst 4, 1) := by decide +kernel
theorem dX9_change_132 : decode cX9_change 132 = .ok (.if_icmp .ne 16, 3) := by decide +kernel
theorem dX9_change_135 : decode cX9_change 135 = .ok (.aload_n 0, 1) := by decide +kernel
theorem dX9_change_136 : decode cX9_change 136 = .ok (.getfield 20, 3) := by decide +kernel
theorem dX9_change_139 : decode cX9_change 139 = .ok (.iload_n 3, 1) := by decide +kernel
theorem dX9_change_140 : decode cX9_change 140 = .ok (.iaload, 1) := by decide +kernel
theorem dX9_change_141 : decode cX9_change 141 = .ok (.iconst (-1), 1) := by decide +kernel
theorem dX9_change_142 : decode cX9_change 142 = .ok (.if_icmp .ne 6, 3) := by decide +kernel
theorem dX9_change_145 : decode cX9_change 145 = .ok (.bipush (-4), 2) := by decide +kernel
theorem dX9_change_147 : decode cX9_change 147 = .ok (.ireturn, 1) := by decide +kernel
theorem dX9_change_148 : decode cX9_change 148 = .ok (.iload_n 1, 1) := by decide +kernel
theorem dX9_change_149 : decode cX9_change 149 = .ok (.ifCond .ne 7, 3) := by decide +kernel
theorem dX9_change_152 : decode cX9_change 152 = .ok (.iconst 1, 1) := by decide +kernel
theorem dX9_change_153 : decode cX9_change 153 = .ok (.goto 13, 3) := by decide +kernel
theorem dX9_change_156 : decode cX9_change 156 = .ok (.iload_n 1, 1) := by decide +kernel
theorem dX9_change_157 : decode cX9_change 157 = .ok (.iconst 1, 1) := by decide +kernel
theorem dX9_change_158 : decode cX9_change 158 = .ok (.if_icmp .ne 7, 3) := by decide +kernel
theorem dX9_change_161 : decode cX9_change 161 = .ok (.iconst 2, 1) := by decide +kernel
theorem dX9_change_162 : decode cX9_change 162 = .ok (.goto 4, 3) := by decide +kernel
theorem dX9_change_165 : decode cX9_change 165 = .ok (.iconst 0, 1) := by decide +kernel
theorem dX9_change_166 : decode cX9_change 166 = .ok (.istore 7, 2) := by decide +kernel
theorem dX9_change_168 : decode cX9_change 168 = .ok (.aload_n 0, 1) := by decide +kernel
theorem dX9_change_169 : decode cX9_change 169 = .ok (.getfield 152, 3) := by decide +kernel
theorem dX9_change_172 : decode cX9_change 172 = .ok (.bipush 12, 2) := by decide +kernel
theorem dX9_change_174 : decode cX9_change 174 = .ok (.if_icmp .eq 15, 3) := by decide +kernel
theorem dX9_change_177 : decode cX9_change 177 = .ok (.aload_n 0, 1) := by decide +kernel
theorem dX9_change_178 : decode cX9_change 178 = .ok (.getfield 16, 3) := by decide +kernel
theorem dX9_change_181 : decode cX9_change 181 = .ok (.iload 7, 2) := by decide +kernel
theorem dX9_change_183 : decode cX9_change 183 = .ok (.iadd, 1) := by decide +kernel
theorem dX9_change_184 : decode cX9_change 184 = .ok (.bipush 10, 2) := by decide +kernel
theorem dX9_change_186 : decode cX9_change 186 = .ok (.if_icmp .le 6, 3) := by decide +kernel
theorem dX9_change_189 : decode cX9_change 189 = .ok (.bipush (-5), 2) := by decide +kernel
theorem dX9_change_191 : decode cX9_change 191 = .ok (.ireturn, 1) := by decide +kernel
theorem dX9_change_192 : decode cX9_change 192 = .ok (.aload_n 0, 1) := by decide +kernel
theorem dX9_change_193 : decode cX9_change 193 = .ok (.getfield 26, 3) := by decide +kernel
theorem dX9_change_196 : decode cX9_change 196 = .ok (.aload_n 0, 1) := by decide +kernel
theorem dX9_change_197 : decode cX9_change 197 = .ok (.getfield 152, 3) := by decide +kernel
theorem dX9_change_200 : decode cX9_change 200 = .ok (.iload_n 1, 1) := by decide +kernel
theorem dX9_change_201 : decode cX9_change 201 = .ok (.iastore, 1) := by decide +kernel
theorem dX9_change_202 : decode cX9_change 202 = .ok (.aload_n 0, 1) := by decide +kernel
theorem dX9_change_203 : decode cX9_change 203 = .ok (.getfield 29, 3) := by decide +kernel
theorem dX9_change_206 : decode cX9_change 206 = .ok (.aload_n 0, 1) := by decide +kernel
theorem dX9_change_207 : decode cX9_change 207 = .ok (.getfield 152, 3) := by decide +kernel
theorem dX9_change_210 : decode cX9_change 210 = .ok (.iload_n 2, 1) := by decide +kernel
theorem dX9_change_211 : decode cX9_change 211 = .ok (.iastore, 1) := by decide +kernel
theorem dX9_change_212 : decode cX9_change 212 = .ok (.aload_n 0, 1) := by decide +kernel
theorem dX9_change_213 : decode cX9_change 213 = .ok (.getfield 32, 3) := by decide +kernel
theorem dX9_change_216 : decode cX9_change 216 = .ok (.aload_n 0, 1) := by decide +kernel
theorem dX9_change_217 : decode cX9_change 217 = .ok (.getfield 152, 3) := by decide +kernel
theorem dX9_change_220 : decode cX9_change 220 = .ok (.iload_n 3, 1) := by decide +kernel
theorem dX9_change_221 : decode cX9_change 221 = .ok (.iastore, 1) := by decide +kernel
theorem dX9_change_222 : decode cX9_change 222 = .ok (.aload_n 0, 1) := by decide +kernel
theorem dX9_change_223 : decode cX9_change 223 = .ok (.getfield 35, 3) := by decide +kernel
theorem dX9_change_226 : decode cX9_change 226 = .ok (.aload_n 0, 1) := by decide +kernel
theorem dX9_change_227 : decode cX9_change 227 = .ok (.getfield 152, 3) := by decide +kernel
theorem dX9_change_230 : decode cX9_change 230 = .ok (.iload 4, 2) := by decide +kernel
theorem dX9_change_232 : decode cX9_change 232 = .ok (.iastore, 1) := by decide +kernel
theorem dX9_change_233 : decode cX9_change 233 = .ok (.aload_n 0, 1) := by decide +kernel
theorem dX9_change_234 : decode cX9_change 234 = .ok (.getfield 38, 3) := by decide +kernel
theorem dX9_change_237 : decode cX9_change 237 = .ok (.aload_n 0, 1) := by decide +kernel
theorem dX9_change_238 : decode cX9_change 238 = .ok (.getfield 152, 3) := by decide +kernel
theorem dX9_change_241 : decode cX9_change 241 = .ok (.iload 5, 2) := by decide +kernel
theorem dX9_change_243 : decode cX9_change 243 = .ok (.iastore, 1) := by decide +kernel
theorem dX9_change_244 : decode cX9_change 244 = .ok (.aload_n 0, 1) := by decide +kernel
theorem dX9_change_245 : decode cX9_change 245 = .ok (.getfield 41, 3) := by decide +kernel
theorem dX9_change_248 : decode cX9_change 248 = .ok (.aload_n 0, 1) := by decide +kernel
theorem dX9_change_249 : decode cX9_change 249 = .ok (.getfield 152, 3) := by decide +kernel
theorem dX9_change_252 : decode cX9_change 252 = .ok (.aload_n 0, 1) := by decide +kernel
theorem dX9_change_253 : decode cX9_change 253 = .ok (.getfield 16, 3) := by decide +kernel
theorem dX9_change_256 : decode cX9_change 256 = .ok (.iastore, 1) := by decide +kernel
theorem dX9_change_257 : decode cX9_change 257 = .ok (.aload_n 0, 1) := by decide +kernel
theorem dX9_change_258 : decode cX9_change 258 = .ok (.getfield 16, 3) := by decide +kernel
theorem dX9_change_261 : decode cX9_change 261 = .ok (.istore 8, 2) := by decide +kernel
theorem dX9_change_263 : decode cX9_change 263 = .ok (.iload 8, 2) := by decide +kernel
theorem dX9_change_265 : decode cX9_change 265 = .ok (.aload_n 0, 1) := by decide +kernel
theorem dX9_change_266 : decode cX9_change 266 = .ok (.getfield 16, 3) := by decide +kernel
theorem dX9_change_269 : decode cX9_change 269 = .ok (.iload 7, 2) := by decide +kernel
theorem dX9_change_271 : decode cX9_change 271 = .ok (.iadd, 1) := by decide +kernel
theorem dX9_change_272 : decode cX9_change 272 = .ok (.if_icmp .ge 25, 3) := by decide +kernel
theorem dX9_change_275 : decode cX9_change 275 = .ok (.aload_n 0, 1) := by decide +kernel
theorem dX9_change_276 : decode cX9_change 276 = .ok (.getfield 20, 3) := by decide +kernel
theorem dX9_change_279 : decode cX9_change 279 = .ok (.iload 8, 2) := by decide +kernel
theorem dX9_change_281 : decode cX9_change 281 = .ok (.iload_n 3, 1) := by decide +kernel
theorem dX9_change_282 : decode cX9_change 282 = .ok (.iastore, 1) := by decide +kernel
theorem dX9_change_283 : decode cX9_change 283 = .ok (.aload_n 0, 1) := by decide +kernel
theorem dX9_change_284 : decode cX9_change 284 = .ok (.getfield 23, 3) := by decide +kernel
theorem dX9_change_287 : decode cX9_change 287 = .ok (.iload 8, 2) := by decide +kernel
theorem dX9_change_289 : decode cX9_change 289 = .ok (.iload_n 2, 1) := by decide +kernel
theorem dX9_change_290 : decode cX9_change 290 = .ok (.iastore, 1) := by decide +kernel
theorem dX9_change_291 : decode cX9_change 291 = .ok (.iinc 8 1, 3) := by decide +kernel
theorem dX9_change_294 : decode cX9_change 294 = .ok (.goto (-31), 3) := by decide +kernel
theorem dX9_change_297 : decode cX9_change 297 = .ok (.aload_n 0, 1) := by decide +kernel
theorem dX9_change_298 : decode cX9_change 298 = .ok (.dup, 1) := by decide +kernel
theorem dX9_change_299 : decode cX9_change 299 = .ok (.getfield 16, 3) := by decide +kernel
theorem dX9_change_302 : decode cX9_change 302 = .ok (.iload 7, 2) := by decide +kernel
theorem dX9_change_304 : decode cX9_change 304 = .ok (.iadd, 1) := by decide +kernel
theorem dX9_change_305 : decode cX9_change 305 = .ok (.putfield 16, 3) := by decide +kernel
theorem dX9_change_308 : decode cX9_change 308 = .ok (.aload_n 0, 1) := by decide +kernel
theorem dX9_change_309 : decode cX9_change 309 = .ok (.dup, 1) := by decide +kernel
theorem dX9_change_310 : decode cX9_change 310 = .ok (.getfield 152, 3) := by decide +kernel
theorem dX9_change_313 : decode cX9_change 313 = .ok (.iconst 1, 1) := by decide +kernel
theorem dX9_change_314 : decode cX9_change 314 = .ok (.iadd, 1) := by decide +kernel
theorem dX9_change_315 : decode cX9_change 315 = .ok (.putfield 152, 3) := by decide +kernel
theorem dX9_change_318 : decode cX9_change 318 = .ok (.aload_n 0, 1) := by decide +kernel
theorem dX9_change_319 : decode cX9_change 319 = .ok (.iload_n 1, 1) := by decide +kernel
theorem dX9_change_320 : decode cX9_change 320 = .ok (.iload_n 3, 1) := by decide +kernel
theorem dX9_change_321 : decode cX9_change 321 = .ok (.iload 4, 2) := by decide +kernel
theorem dX9_change_323 : decode cX9_change 323 = .ok (.iload 5, 2) := by decide +kernel
theorem dX9_change_325 : decode cX9_change 325 = .ok (.invokevirtual 179, 3) := by decide +kernel
theorem dX9_change_328 : decode cX9_change 328 = .ok (.iload 7, 2) := by decide +kernel
theorem dX9_change_330 : decode cX9_change 330 = .ok (.ifCond .le 17, 3) := by decide +kernel
theorem dX9_change_333 : decode cX9_change 333 = .ok (.aload_n 0, 1) := by decide +kernel
theorem dX9_change_334 : decode cX9_change 334 = .ok (.getfield 41, 3) := by decide +kernel
theorem dX9_change_337 : decode cX9_change 337 = .ok (.aload_n 0, 1) := by decide +kernel
theorem dX9_change_338 : decode cX9_change 338 = .ok (.getfield 152, 3) := by decide +kernel
theorem dX9_change_341 : decode cX9_change 341 = .ok (.iconst 1, 1) := by decide +kernel
theorem dX9_change_342 : decode cX9_change 342 = .ok (.isub, 1) := by decide +kernel
theorem dX9_change_343 : decode cX9_change 343 = .ok (.iaload, 1) := by decide +kernel
theorem dX9_change_344 : decode cX9_change 344 = .ok (.goto 4, 3) := by decide +kernel
theorem dX9_change_347 : decode cX9_change 347 = .ok (.iload_n 3, 1) := by decide +kernel
theorem dX9_change_348 : decode cX9_change 348 = .ok (.ireturn, 1) := by decide +kernel
theorem dX9_doLast_0 : decode cX9_doLast 0 = .ok (.aload_n 0, 1) := by decide +kernel
theorem dX9_doLast_1 : decode cX9_doLast 1 = .ok (.getfield 152, 3) := by decide +kernel
theorem dX9_doLast_4 : decode cX9_doLast 4 = .ok (.istore 5, 2) := by decide +kernel
theorem dX9_doLast_6 : decode cX9_doLast 6 = .ok (.aload_n 0, 1) := by decide +kernel
theorem dX9_doLast_7 : decode cX9_doLast 7 = .ok (.getfield 41, 3) := by decide +kernel
theorem dX9_doLast_10 : decode cX9_doLast 10 = .ok (.iload 5, 2) := by decide +kernel
theorem dX9_doLast_12 : decode cX9_doLast 12 = .ok (.iconst 1, 1) := by decide +kernel
theorem dX9_doLast_13 : decode cX9_doLast 13 = .ok (.isub, 1) := by decide +kernel
theorem dX9_doLast_14 : decode cX9_doLast 14 = .ok (.iaload, 1) := by decide +kernel
theorem dX9_doLast_15 : decode cX9_doLast 15 = .ok (.istore 6, 2) := by decide +kernel
theorem dX9_doLast_17 : decode cX9_doLast 17 = .ok (.iconst 0, 1) := by decide +kernel
theorem dX9_doLast_18 : decode cX9_doLast 18 = .ok (.istore 7, 2) := by decide +kernel
theorem dX9_doLast_20 : decode cX9_doLast 20 = .ok (.iload 7, 2) := by decide +kernel
theorem dX9_doLast_22 : decode cX9_doLast 22 = .ok (.bipush 8, 2) := by decide +kernel
theorem dX9_doLast_24 : decode cX9_doLast 24 = .ok (.if_icmp .ge 156, 3) := by decide +kernel
theorem dX9_doLast_27 : decode cX9_doLast 27 = .ok (.aload_n 0, 1) := by decide +kernel
theorem dX9_doLast_28 : decode cX9_doLast 28 = .ok (.getfield 44, 3) := by decide +kernel
theorem dX9_doLast_31 : decode cX9_doLast 31 = .ok (.bipush 8, 2) := by decide +kernel
theorem dX9_doLast_33 : decode cX9_doLast 33 = .ok (.iload 5, 2) := by decide +kernel
theorem dX9_doLast_35 : decode cX9_doLast 35 = .ok (.iconst 1, 1) := by decide +kernel
theorem dX9_doLast_36 : decode cX9_doLast 36 = .ok (.isub, 1) := by decide +kernel
theorem dX9_doLast_37 : decode cX9_doLast 37 = .ok (.imul, 1) := by decide +kernel
theorem dX9_doLast_38 : decode cX9_doLast 38 = .ok (.iload 7, 2) := by decide +kernel
theorem dX9_doLast_40 : decode cX9_doLast 40 = .ok (.iadd, 1) := by decide +kernel
theorem dX9_doLast_41 : decode cX9_doLast 41 = .ok (.iaload, 1) := by decide +kernel
theorem dX9_doLast_42 : decode cX9_doLast 42 = .ok (.istore 8, 2) := by decide +kernel
theorem dX9_doLast_44 : decode cX9_doLast 44 = .ok (.iload 4, 2) := by decide +kernel
theorem dX9_doLast_46 : decode cX9_doLast 46 = .ok (.iload 7, 2) := by decide +kernel
theorem dX9_doLast_48 : decode cX9_doLast 48 = .ok (.ishr, 1) := by decide +kernel
theorem dX9_doLast_49 : decode cX9_doLast 49 = .ok (.iconst 1, 1) := by decide +kernel
theorem dX9_doLast_50 : decode cX9_doLast 50 = .ok (.iand, 1) := by decide +kernel
theorem dX9_doLast_51 : decode cX9_doLast 51 = .ok (.iconst 1, 1) := by decide +kernel
theorem dX9_doLast_52 : decode cX9_doLast 52 = .ok (.if_icmp .ne 7, 3) := by decide +kernel
theorem dX9_doLast_55 : decode cX9_doLast 55 = .ok (.iconst 1, 1) := by decide +kernel
theorem dX9_doLast_56 : decode cX9_doLast 56 = .ok (.goto 4, 3) := by decide +kernel
theorem dX9_doLast_59 : decode cX9_doLast 59 = .ok (.iconst 0, 1) := by decide +kernel
theorem dX9_doLast_60 : decode cX9_doLast 60 = .ok (.istore 9, 2) := by decide +kernel
theorem dX9_doLast_62 : decode cX9_doLast 62 = .ok (.iload 8, 2) := by decide +kernel
theorem dX9_doLast_64 : decode cX9_doLast 64 = .ok (.istore 10, 2) := by decide +kernel
theorem dX9_doLast_66 : decode cX9_doLast 66 = .ok (.iload_n 1, 1) := by decide +kernel
theorem dX9_doLast_67 : decode cX9_doLast 67 = .ok (.ifCond .eq 8, 3) := by decide +kernel
theorem dX9_doLast_70 : decode cX9_doLast 70 = .ok (.iload_n 1, 1) := by decide +kernel
theorem dX9_doLast_71 : decode cX9_doLast 71 = .ok (.iconst 1, 1) := by decide +kernel
theorem dX9_doLast_72 : decode cX9_doLast 72 = .ok (.if_icmp .ne 41, 3) := by decide +kernel
theorem dX9_doLast_75 : decode cX9_doLast 75 = .ok (.iload 8, 2) := by decide +kernel
theorem dX9_doLast_77 : decode cX9_doLast 77 = .ok (.iload_n 2, 1) := by decide +kernel
theorem dX9_doLast_78 : decode cX9_doLast 78 = .ok (.if_icmp .eq 8, 3) := by decide +kernel
theorem dX9_doLast_81 : decode cX9_doLast 81 = .ok (.iload 8, 2) := by decide +kernel
theorem dX9_doLast_83 : decode cX9_doLast 83 = .ok (.goto 25, 3) := by decide +kernel
theorem dX9_doLast_86 : decode cX9_doLast 86 = .ok (.iload 9, 2) := by decide +kernel
theorem dX9_doLast_88 : decode cX9_doLast 88 = .ok (.ifCond .eq 8, 3) := by decide +kernel
theorem dX9_doLast_91 : decode cX9_doLast 91 = .ok (.iload 6, 2) := by decide +kernel
theorem dX9_doLast_93 : decode cX9_doLast 93 = .ok (.goto 15, 3) := by decide +kernel
theorem dX9_doLast_96 : decode cX9_doLast 96 = .ok (.iload_n 1, 1) := by decide +kernel
theorem dX9_doLast_97 : decode cX9_doLast 97 = .ok (.ifCond .ne 7, 3) := by decide +kernel
theorem dX9_doLast_100 : decode cX9_doLast 100 = .ok (.iload_n 2, 1) := by decide +kernel
theorem dX9_doLast_101 : decode cX9_doLast 101 = .ok (.goto 7, 3) := by decide +kernel
theorem dX9_doLast_104 : decode cX9_doLast 104 = .ok (.iload 6, 2) := by decide +kernel
theorem dX9_doLast_106 : decode cX9_doLast 106 = .ok (.iconst 1, 1) := by decide +kernel
theorem dX9_doLast_107 : decode cX9_doLast 107 = .ok (.iadd, 1) := by decide +kernel
theorem dX9_doLast_108 : decode cX9_doLast 108 = .ok (.istore 10, 2) := by decide +kernel
theorem dX9_doLast_110 : decode cX9_doLast 110 = .ok (.goto 49, 3) := by decide +kernel
theorem dX9_doLast_113 : decode cX9_doLast 113 = .ok (.iload_n 1, 1) := by decide +kernel
theorem dX9_doLast_114 : decode cX9_doLast 114 = .ok (.iconst 2, 1) := by decide +kernel
theorem dX9_doLast_115 : decode cX9_doLast 115 = .ok (.if_icmp .ne 20, 3) := by decide +kernel
theorem dX9_doLast_118 : decode cX9_doLast 118 = .ok (.iload 8, 2) := by decide +kernel
theorem dX9_doLast_120 : decode cX9_doLast 120 = .ok (.iload_n 3, 1) := by decide +kernel
theorem dX9_doLast_121 : decode cX9_doLast 121 = .ok (.if_icmp .ne 7, 3) := by decide +kernel
theorem dX9_doLast_124 : decode cX9_doLast 124 = .ok (.iload_n 2, 1) := by decide +kernel
theorem dX9_doLast_125 : decode cX9_doLast 125 = .ok (.goto 5, 3) := by decide +kernel
theorem dX9_doLast_128 : decode cX9_doLast 128 = .ok (.iload 8, 2) := by decide +kernel
theorem dX9_doLast_130 : decode cX9_doLast 130 = .ok (.istore 10, 2) := by decide +kernel
theorem dX9_doLast_132 : decode cX9_doLast 132 = .ok (.goto 27, 3) := by decide +kernel
theorem dX9_doLast_135 : decode cX9_doLast 135 = .ok (.iload_n 1, 1) := by decide +kernel
theorem dX9_doLast_136 : decode cX9_doLast 136 = .ok (.iconst 3, 1) := by decide +kernel
theorem dX9_doLast_137 : decode cX9_doLast 137 = .ok (.if_icmp .ne 22, 3) := by decide +kernel
theorem dX9_doLast_140 : decode cX9_doLast 140 = .ok (.iload 8, 2) := by decide +kernel
theorem dX9_doLast_142 : decode cX9_doLast 142 = .ok (.iload_n 2, 1) := by decide +kernel
theorem dX9_doLast_143 : decode cX9_doLast 143 = .ok (.if_icmp .ne 12, 3) := by decide +kernel
theorem dX9_doLast_146 : decode cX9_doLast 146 = .ok (.iload 9, 2) := by decide +kernel
theorem dX9_doLast_148 : decode cX9_doLast 148 = .ok (.ifCond .eq 7, 3) := by decide +kernel
theorem dX9_doLast_151 : decode cX9_doLast 151 = .ok (.iload_n 3, 1) := by decide +kernel
theorem dX9_doLast_152 : decode cX9_doLast 152 = .ok (.goto 5, 3) := by decide +kernel
theorem dX9_doLast_155 : decode cX9_doLast 155 = .ok (.iload 8, 2) := by decide +kernel
theorem dX9_doLast_157 : decode cX9_doLast 157 = .ok (.istore 10, 2) := by decide +kernel
theorem dX9_doLast_159 : decode cX9_doLast 159 = .ok (.aload_n 0, 1) := by decide +kernel
theorem dX9_doLast_160 : decode cX9_doLast 160 = .ok (.getfield 44, 3) := by decide +kernel
theorem dX9_doLast_163 : decode cX9_doLast 163 = .ok (.bipush 8, 2) := by decide +kernel
theorem dX9_doLast_165 : decode cX9_doLast 165 = .ok (.iload 5, 2) := by decide +kernel
theorem dX9_doLast_167 : decode cX9_doLast 167 = .ok (.imul, 1) := by decide +kernel
theorem dX9_doLast_168 : decode cX9_doLast 168 = .ok (.iload 7, 2) := by decide +kernel
theorem dX9_doLast_170 : decode cX9_doLast 170 = .ok (.iadd, 1) := by decide +kernel
theorem dX9_doLast_171 : decode cX9_doLast 171 = .ok (.iload 10, 2) := by decide +kernel
theorem dX9_doLast_173 : decode cX9_doLast 173 = .ok (.iastore, 1) := by decide +kernel
theorem dX9_doLast_174 : decode cX9_doLast 174 = .ok (.iinc 7 1, 3) := by decide +kernel
theorem dX9_doLast_177 : decode cX9_doLast 177 = .ok (.goto (-157), 3) := by decide +kernel
theorem dX9_doLast_180 : decode cX9_doLast 180 = .ok (.aload_n 0, 1) := by decide +kernel
theorem dX9_doLast_181 : decode cX9_doLast 181 = .ok (.getfield 47, 3) := by decide +kernel
theorem dX9_doLast_184 : decode cX9_doLast 184 = .ok (.iload 5, 2) := by decide +kernel
theorem dX9_doLast_186 : decode cX9_doLast 186 = .ok (.aload_n 0, 1) := by decide +kernel
theorem dX9_doLast_187 : decode cX9_doLast 187 = .ok (.getfield 47, 3) := by decide +kernel
theorem dX9_doLast_190 : decode cX9_doLast 190 = .ok (.iload 5, 2) := by decide +kernel
theorem dX9_doLast_192 : decode cX9_doLast 192 = .ok (.iconst 1, 1) := by decide +kernel
theorem dX9_doLast_193 : decode cX9_doLast 193 = .ok (.isub, 1) := by decide +kernel
theorem dX9_doLast_194 : decode cX9_doLast 194 = .ok (.iaload, 1) := by decide +kernel
theorem dX9_doLast_195 : decode cX9_doLast 195 = .ok (.iastore, 1) := by decide +kernel
theorem dX9_doLast_196 : decode cX9_doLast 196 = .ok (.iload_n 1, 1) := by decide +kernel
theorem dX9_doLast_197 : decode cX9_doLast 197 = .ok (.ifCond .ne 25, 3) := by decide +kernel
theorem dX9_doLast_200 : decode cX9_doLast 200 = .ok (.aload_n 0, 1) := by decide +kernel
theorem dX9_doLast_201 : decode cX9_doLast 201 = .ok (.getfield 47, 3) := by decide +kernel
theorem dX9_doLast_204 : decode cX9_doLast 204 = .ok (.iload 5, 2) := by decide +kernel
theorem dX9_doLast_206 : decode cX9_doLast 206 = .ok (.aload_n 0, 1) := by decide +kernel
theorem dX9_doLast_207 : decode cX9_doLast 207 = .ok (.getfield 47, 3) := by decide +kernel
theorem dX9_doLast_210 : decode cX9_doLast 210 = .ok (.iload 5, 2) := by decide +kernel
theorem dX9_doLast_212 : decode cX9_doLast 212 = .ok (.iaload, 1) := by decide +kernel
theorem dX9_doLast_213 : decode cX9_doLast 213 = .ok (.iconst 1, 1) := by decide +kernel
theorem dX9_doLast_214 : decode cX9_doLast 214 = .ok (.iload 6, 2) := by decide +kernel
theorem dX9_doLast_216 : decode cX9_doLast 216 = .ok (.ishl, 1) := by decide +kernel
theorem dX9_doLast_217 : decode cX9_doLast 217 = .ok (.ior, 1) := by decide +kernel
theorem dX9_doLast_218 : decode cX9_doLast 218 = .ok (.iastore, 1) := by decide +kernel
theorem dX9_doLast_219 : decode cX9_doLast 219 = .ok (.goto 61, 3) := by decide +kernel
theorem dX9_doLast_222 : decode cX9_doLast 222 = .ok (.iload_n 1, 1) := by decide +kernel
theorem dX9_doLast_223 : decode cX9_doLast 223 = .ok (.iconst 1, 1) := by decide +kernel
theorem dX9_doLast_224 : decode cX9_doLast 224 = .ok (.if_icmp .ne 31, 3) := by decide +kernel
theorem dX9_doLast_227 : decode cX9_doLast 227 = .ok (.aload_n 0, 1) := by decide +kernel
theorem dX9_doLast_228 : decode cX9_doLast 228 = .ok (.getfield 47, 3) := by decide +kernel
theorem dX9_doLast_231 : decode cX9_doLast 231 = .ok (.iload 5, 2) := by decide +kernel
theorem dX9_doLast_233 : decode cX9_doLast 233 = .ok (.aload_n 0, 1) := by decide +kernel
theorem dX9_doLast_234 : decode cX9_doLast 234 = .ok (.getfield 47, 3) := by decide +kernel
theorem dX9_doLast_237 : decode cX9_doLast 237 = .ok (.iload 5, 2) := by decide +kernel
theorem dX9_doLast_239 : decode cX9_doLast 239 = .ok (.iaload, 1) := by decide +kernel
theorem dX9_doLast_240 : decode cX9_doLast 240 = .ok (.iconst 1, 1) := by decide +kernel
theorem dX9_doLast_241 : decode cX9_doLast 241 = .ok (.iload_n 2, 1) := by decide +kernel
theorem dX9_doLast_242 : decode cX9_doLast 242 = .ok (.ishl, 1) := by decide +kernel
theorem dX9_doLast_243 : decode cX9_doLast 243 = .ok (.iconst (-1), 1) := by decide +kernel
theorem dX9_doLast_244 : decode cX9_doLast 244 = .ok (.ixor, 1) := by decide +kernel
theorem dX9_doLast_245 : decode cX9_doLast 245 = .ok (.iand, 1) := by decide +kernel
theorem dX9_doLast_246 : decode cX9_doLast 246 = .ok (.iconst 3, 1) := by decide +kernel
theorem dX9_doLast_247 : decode cX9_doLast 247 = .ok (.iload 6, 2) := by decide +kernel
theorem dX9_doLast_249 : decode cX9_doLast 249 = .ok (.ishl, 1) := by decide +kernel
theorem dX9_doLast_250 : decode cX9_doLast 250 = .ok (.ior, 1) := by decide +kernel
theorem dX9_doLast_251 : decode cX9_doLast 251 = .ok (.iastore, 1) := by decide +kernel
theorem dX9_doLast_252 : decode cX9_doLast 252 = .ok (.goto 28, 3) := by decide +kernel
theorem dX9_doLast_255 : decode cX9_doLast 255 = .ok (.iload_n 1, 1) := by decide +kernel
theorem dX9_doLast_256 : decode cX9_doLast 256 = .ok (.iconst 2, 1) := by decide +kernel
theorem dX9_doLast_257 : decode cX9_doLast 257 = .ok (.if_icmp .ne 23, 3) := by decide +kernel
theorem dX9_doLast_260 : decode cX9_doLast 260 = .ok (.aload_n 0, 1) := by decide +kernel
theorem dX9_doLast_261 : decode cX9_doLast 261 = .ok (.getfield 47, 3) := by decide +kernel
theorem dX9_doLast_264 : decode cX9_doLast 264 = .ok (.iload 5, 2) := by decide +kernel
theorem dX9_doLast_266 : decode cX9_doLast 266 = .ok (.aload_n 0, 1) := by decide +kernel
theorem dX9_doLast_267 : decode cX9_doLast 267 = .ok (.getfield 47, 3) := by decide +kernel
theorem dX9_doLast_270 : decode cX9_doLast 270 = .ok (.iload 5, 2) := by decide +kernel
theorem dX9_doLast_272 : decode cX9_doLast 272 = .ok (.iaload, 1) := by decide +kernel
theorem dX9_doLast_273 : decode cX9_doLast 273 = .ok (.iconst 1, 1) := by decide +kernel
theorem dX9_doLast_274 : decode cX9_doLast 274 = .ok (.iload_n 3, 1) := by decide +kernel
theorem dX9_doLast_275 : decode cX9_doLast 275 = .ok (.ishl, 1) := by decide +kernel
theorem dX9_doLast_276 : decode cX9_doLast 276 = .ok (.iconst (-1), 1) := by decide +kernel
theorem dX9_doLast_277 : decode cX9_doLast 277 = .ok (.ixor, 1) := by decide +kernel
theorem dX9_doLast_278 : decode cX9_doLast 278 = .ok (.iand, 1) := by decide +kernel
theorem dX9_doLast_279 : decode cX9_doLast 279 = .ok (.iastore, 1) := by decide +kernel
theorem dX9_doLast_280 : decode cX9_doLast 280 = .ok (.return_, 1) := by decide +kernel
theorem dX9_doneBy_0 : decode cX9_doneBy 0 = .ok (.iconst 0, 1) := by decide +kernel
theorem dX9_doneBy_1 : decode cX9_doneBy 1 = .ok (.istore_n 2, 1) := by decide +kernel
theorem dX9_doneBy_2 : decode cX9_doneBy 2 = .ok (.iconst 0, 1) := by decide +kernel
theorem dX9_doneBy_3 : decode cX9_doneBy 3 = .ok (.istore_n 3, 1) := by decide +kernel
theorem dX9_doneBy_4 : decode cX9_doneBy 4 = .ok (.iload_n 3, 1) := by decide +kernel
theorem dX9_doneBy_5 : decode cX9_doneBy 5 = .ok (.aload_n 0, 1) := by decide +kernel
theorem dX9_doneBy_6 : decode cX9_doneBy 6 = .ok (.getfield 152, 3) := by decide +kernel
theorem dX9_doneBy_9 : decode cX9_doneBy 9 = .ok (.if_icmp .ge 27, 3) := by decide +kernel
theorem dX9_doneBy_12 : decode cX9_doneBy 12 = .ok (.iload_n 2, 1) := by decide +kernel
theorem dX9_doneBy_13 : decode cX9_doneBy 13 = .ok (.aload_n 0, 1) := by decide +kernel
theorem dX9_doneBy_14 : decode cX9_doneBy 14 = .ok (.getfield 29, 3) := by decide +kernel
theorem dX9_doneBy_17 : decode cX9_doneBy 17 = .ok (.iload_n 3, 1) := by decide +kernel
theorem dX9_doneBy_18 : decode cX9_doneBy 18 = .ok (.iaload, 1) := by decide +kernel
theorem dX9_doneBy_19 : decode cX9_doneBy 19 = .ok (.iload_n 1, 1) := by decide +kernel
theorem dX9_doneBy_20 : decode cX9_doneBy 20 = .ok (.if_icmp .gt 7, 3) := by decide +kernel
theorem dX9_doneBy_23 : decode cX9_doneBy 23 = .ok (.iconst 1, 1) := by decide +kernel
theorem dX9_doneBy_24 : decode cX9_doneBy 24 = .ok (.goto 4, 3) := by decide +kernel
theorem dX9_doneBy_27 : decode cX9_doneBy 27 = .ok (.iconst 0, 1) := by decide +kernel
theorem dX9_doneBy_28 : decode cX9_doneBy 28 = .ok (.iadd, 1) := by decide +kernel
theorem dX9_doneBy_29 : decode cX9_doneBy 29 = .ok (.istore_n 2, 1) := by decide +kernel
theorem dX9_doneBy_30 : decode cX9_doneBy 30 = .ok (.iinc 3 1, 3) := by decide +kernel
theorem dX9_doneBy_33 : decode cX9_doneBy 33 = .ok (.goto (-29), 3) := by decide +kernel
theorem dX9_doneBy_36 : decode cX9_doneBy 36 = .ok (.iload_n 2, 1) := by decide +kernel
theorem dX9_doneBy_37 : decode cX9_doneBy 37 = .ok (.ireturn, 1) := by decide +kernel
theorem dX9_lands_0 : decode cX9_lands 0 = .ok (.iload_n 1, 1) := by decide +kernel
theorem dX9_lands_1 : decode cX9_lands 1 = .ok (.invokestatic 165, 3) := by decide +kernel
theorem dX9_lands_4 : decode cX9_lands 4 = .ok (.ifCond .eq 16, 3) := by decide +kernel
theorem dX9_lands_7 : decode cX9_lands 7 = .ok (.aload_n 0, 1) := by decide +kernel
theorem dX9_lands_8 : decode cX9_lands 8 = .ok (.getfield 47, 3) := by decide +kernel
theorem dX9_lands_11 : decode cX9_lands 11 = .ok (.aload_n 0, 1) := by decide +kernel
theorem dX9_lands_12 : decode cX9_lands 12 = .ok (.iload_n 1, 1) := by decide +kernel
theorem dX9_lands_13 : decode cX9_lands 13 = .ok (.invokevirtual 183, 3) := by decide +kernel
theorem dX9_lands_16 : decode cX9_lands 16 = .ok (.iaload, 1) := by decide +kernel
theorem dX9_lands_17 : decode cX9_lands 17 = .ok (.goto 5, 3) := by decide +kernel
theorem dX9_lands_20 : decode cX9_lands 20 = .ok (.bipush (-3), 2) := by decide +kernel
theorem dX9_lands_22 : decode cX9_lands 22 = .ok (.ireturn, 1) := by decide +kernel
theorem dX9_has_0 : decode cX9_has 0 = .ok (.aload_n 0, 1) := by decide +kernel
theorem dX9_has_1 : decode cX9_has 1 = .ok (.iload_n 1, 1) := by decide +kernel
theorem dX9_has_2 : decode cX9_has 2 = .ok (.invokevirtual 187, 3) := by decide +kernel
theorem dX9_has_5 : decode cX9_has 5 = .ok (.ifCond .ne 6, 3) := by decide +kernel
theorem dX9_has_8 : decode cX9_has 8 = .ok (.bipush (-2), 2) := by decide +kernel
theorem dX9_has_10 : decode cX9_has 10 = .ok (.ireturn, 1) := by decide +kernel
theorem dX9_has_11 : decode cX9_has 11 = .ok (.iload_n 2, 1) := by decide +kernel
theorem dX9_has_12 : decode cX9_has 12 = .ok (.invokestatic 165, 3) := by decide +kernel
theorem dX9_has_15 : decode cX9_has 15 = .ok (.ifCond .eq 16, 3) := by decide +kernel
theorem dX9_has_18 : decode cX9_has 18 = .ok (.aload_n 0, 1) := by decide +kernel
theorem dX9_has_19 : decode cX9_has 19 = .ok (.iload_n 1, 1) := by decide +kernel
theorem dX9_has_20 : decode cX9_has 20 = .ok (.aload_n 0, 1) := by decide +kernel
theorem dX9_has_21 : decode cX9_has 21 = .ok (.iload_n 2, 1) := by decide +kernel
theorem dX9_has_22 : decode cX9_has 22 = .ok (.invokevirtual 183, 3) := by decide +kernel
theorem dX9_has_25 : decode cX9_has 25 = .ok (.invokevirtual 155, 3) := by decide +kernel
theorem dX9_has_28 : decode cX9_has 28 = .ok (.goto 5, 3) := by decide +kernel
theorem dX9_has_31 : decode cX9_has 31 = .ok (.bipush (-3), 2) := by decide +kernel
theorem dX9_has_33 : decode cX9_has 33 = .ok (.ireturn, 1) := by decide +kernel
theorem dX9_whose_0 : decode cX9_whose 0 = .ok (.aload_n 0, 1) := by decide +kernel
theorem dX9_whose_1 : decode cX9_whose 1 = .ok (.iload_n 1, 1) := by decide +kernel
theorem dX9_whose_2 : decode cX9_whose 2 = .ok (.invokevirtual 190, 3) := by decide +kernel
theorem dX9_whose_5 : decode cX9_whose 5 = .ok (.ifCond .ne 6, 3) := by decide +kernel
theorem dX9_whose_8 : decode cX9_whose 8 = .ok (.bipush (-2), 2) := by decide +kernel
theorem dX9_whose_10 : decode cX9_whose 10 = .ok (.ireturn, 1) := by decide +kernel
theorem dX9_whose_11 : decode cX9_whose 11 = .ok (.iload_n 2, 1) := by decide +kernel
theorem dX9_whose_12 : decode cX9_whose 12 = .ok (.invokestatic 165, 3) := by decide +kernel
theorem dX9_whose_15 : decode cX9_whose 15 = .ok (.ifCond .eq 21, 3) := by decide +kernel
theorem dX9_whose_18 : decode cX9_whose 18 = .ok (.aload_n 0, 1) := by decide +kernel
theorem dX9_whose_19 : decode cX9_whose 19 = .ok (.getfield 44, 3) := by decide +kernel
theorem dX9_whose_22 : decode cX9_whose 22 = .ok (.bipush 8, 2) := by decide +kernel
theorem dX9_whose_24 : decode cX9_whose 24 = .ok (.aload_n 0, 1) := by decide +kernel
theorem dX9_whose_25 : decode cX9_whose 25 = .ok (.iload_n 2, 1) := by decide +kernel
theorem dX9_whose_26 : decode cX9_whose 26 = .ok (.invokevirtual 183, 3) := by decide +kernel
theorem dX9_whose_29 : decode cX9_whose 29 = .ok (.imul, 1) := by decide +kernel
theorem dX9_whose_30 : decode cX9_whose 30 = .ok (.iload_n 1, 1) := by decide +kernel
theorem dX9_whose_31 : decode cX9_whose 31 = .ok (.iadd, 1) := by decide +kernel
theorem dX9_whose_32 : decode cX9_whose 32 = .ok (.iaload, 1) := by decide +kernel
theorem dX9_whose_33 : decode cX9_whose 33 = .ok (.goto 5, 3) := by decide +kernel
theorem dX9_whose_36 : decode cX9_whose 36 = .ok (.bipush (-3), 2) := by decide +kernel
theorem dX9_whose_38 : decode cX9_whose 38 = .ok (.ireturn, 1) := by decide +kernel
theorem dX9_from_0 : decode cX9_from 0 = .ok (.aload_n 0, 1) := by decide +kernel
theorem dX9_from_1 : decode cX9_from 1 = .ok (.iload_n 1, 1) := by decide +kernel
theorem dX9_from_2 : decode cX9_from 2 = .ok (.invokevirtual 187, 3) := by decide +kernel
theorem dX9_from_5 : decode cX9_from 5 = .ok (.ifCond .ne 6, 3) := by decide +kernel
theorem dX9_from_8 : decode cX9_from 8 = .ok (.bipush (-2), 2) := by decide +kernel
theorem dX9_from_10 : decode cX9_from 10 = .ok (.ireturn, 1) := by decide +kernel
theorem dX9_from_11 : decode cX9_from 11 = .ok (.iload_n 2, 1) := by decide +kernel
theorem dX9_from_12 : decode cX9_from 12 = .ok (.iconst 0, 1) := by decide +kernel
theorem dX9_from_13 : decode cX9_from 13 = .ok (.iconst 1, 1) := by decide +kernel
theorem dX9_from_14 : decode cX9_from 14 = .ok (.invokestatic 148, 3) := by decide +kernel
theorem dX9_from_17 : decode cX9_from 17 = .ok (.ifCond .ne 8, 3) := by decide +kernel
theorem dX9_from_20 : decode cX9_from 20 = .ok (.bipush (-3), 2) := by decide +kernel
theorem dX9_from_22 : decode cX9_from 22 = .ok (.goto 22, 3) := by decide +kernel
theorem dX9_from_25 : decode cX9_from 25 = .ok (.iload_n 2, 1) := by decide +kernel
theorem dX9_from_26 : decode cX9_from 26 = .ok (.ifCond .ne 12, 3) := by decide +kernel
theorem dX9_from_29 : decode cX9_from 29 = .ok (.aload_n 0, 1) := by decide +kernel
theorem dX9_from_30 : decode cX9_from 30 = .ok (.getfield 20, 3) := by decide +kernel
theorem dX9_from_33 : decode cX9_from 33 = .ok (.iload_n 1, 1) := by decide +kernel
theorem dX9_from_34 : decode cX9_from 34 = .ok (.iaload, 1) := by decide +kernel
theorem dX9_from_35 : decode cX9_from 35 = .ok (.goto 9, 3) := by decide +kernel
theorem dX9_from_38 : decode cX9_from 38 = .ok (.aload_n 0, 1) := by decide +kernel
theorem dX9_from_39 : decode cX9_from 39 = .ok (.getfield 23, 3) := by decide +kernel
theorem dX9_from_42 : decode cX9_from 42 = .ok (.iload_n 1, 1) := by decide +kernel
theorem dX9_from_43 : decode cX9_from 43 = .ok (.iaload, 1) := by decide +kernel
theorem dX9_from_44 : decode cX9_from 44 = .ok (.ireturn, 1) := by decide +kernel
theorem dX9_headsOf_0 : decode cX9_headsOf 0 = .ok (.iconst 0, 1) := by decide +kernel
theorem dX9_headsOf_1 : decode cX9_headsOf 1 = .ok (.istore_n 2, 1) := by decide +kernel
theorem dX9_headsOf_2 : decode cX9_headsOf 2 = .ok (.iconst 0, 1) := by decide +kernel
theorem dX9_headsOf_3 : decode cX9_headsOf 3 = .ok (.istore_n 3, 1) := by decide +kernel
theorem dX9_headsOf_4 : decode cX9_headsOf 4 = .ok (.iload_n 3, 1) := by decide +kernel
theorem dX9_headsOf_5 : decode cX9_headsOf 5 = .ok (.aload_n 0, 1) := by decide +kernel
theorem dX9_headsOf_6 : decode cX9_headsOf 6 = .ok (.getfield 145, 3) := by decide +kernel
theorem dX9_headsOf_9 : decode cX9_headsOf 9 = .ok (.if_icmp .ge 31, 3) := by decide +kernel
theorem dX9_headsOf_12 : decode cX9_headsOf 12 = .ok (.iload_n 2, 1) := by decide +kernel
theorem dX9_headsOf_13 : decode cX9_headsOf 13 = .ok (.iload_n 1, 1) := by decide +kernel
theorem dX9_headsOf_14 : decode cX9_headsOf 14 = .ok (.iload_n 3, 1) := by decide +kernel
theorem dX9_headsOf_15 : decode cX9_headsOf 15 = .ok (.ishr, 1) := by decide +kernel
theorem dX9_headsOf_16 : decode cX9_headsOf 16 = .ok (.iconst 1, 1) := by decide +kernel
theorem dX9_headsOf_17 : decode cX9_headsOf 17 = .ok (.iand, 1) := by decide +kernel
theorem dX9_headsOf_18 : decode cX9_headsOf 18 = .ok (.iconst 1, 1) := by decide +kernel
theorem dX9_headsOf_19 : decode cX9_headsOf 19 = .ok (.if_icmp .ne 12, 3) := by decide +kernel
theorem dX9_headsOf_22 : decode cX9_headsOf 22 = .ok (.aload_n 0, 1) := by decide +kernel
theorem dX9_headsOf_23 : decode cX9_headsOf 23 = .ok (.getfield 7, 3) := by decide +kernel
theorem dX9_headsOf_26 : decode cX9_headsOf 26 = .ok (.iload_n 3, 1) := by decide +kernel
theorem dX9_headsOf_27 : decode cX9_headsOf 27 = .ok (.iaload, 1) := by decide +kernel
theorem dX9_headsOf_28 : decode cX9_headsOf 28 = .ok (.goto 4, 3) := by decide +kernel
theorem dX9_headsOf_31 : decode cX9_headsOf 31 = .ok (.iconst 0, 1) := by decide +kernel
theorem dX9_headsOf_32 : decode cX9_headsOf 32 = .ok (.iadd, 1) := by decide +kernel
theorem dX9_headsOf_33 : decode cX9_headsOf 33 = .ok (.istore_n 2, 1) := by decide +kernel
theorem dX9_headsOf_34 : decode cX9_headsOf 34 = .ok (.iinc 3 1, 3) := by decide +kernel
theorem dX9_headsOf_37 : decode cX9_headsOf 37 = .ok (.goto (-33), 3) := by decide +kernel
theorem dX9_headsOf_40 : decode cX9_headsOf 40 = .ok (.iload_n 2, 1) := by decide +kernel
theorem dX9_headsOf_41 : decode cX9_headsOf 41 = .ok (.ireturn, 1) := by decide +kernel
theorem dX9_worthOf_0 : decode cX9_worthOf 0 = .ok (.iconst 0, 1) := by decide +kernel
theorem dX9_worthOf_1 : decode cX9_worthOf 1 = .ok (.istore_n 2, 1) := by decide +kernel
theorem dX9_worthOf_2 : decode cX9_worthOf 2 = .ok (.iconst 0, 1) := by decide +kernel
theorem dX9_worthOf_3 : decode cX9_worthOf 3 = .ok (.istore_n 3, 1) := by decide +kernel
theorem dX9_worthOf_4 : decode cX9_worthOf 4 = .ok (.iload_n 3, 1) := by decide +kernel
theorem dX9_worthOf_5 : decode cX9_worthOf 5 = .ok (.aload_n 0, 1) := by decide +kernel
theorem dX9_worthOf_6 : decode cX9_worthOf 6 = .ok (.getfield 145, 3) := by decide +kernel
theorem dX9_worthOf_9 : decode cX9_worthOf 9 = .ok (.if_icmp .ge 31, 3) := by decide +kernel
theorem dX9_worthOf_12 : decode cX9_worthOf 12 = .ok (.iload_n 2, 1) := by decide +kernel
theorem dX9_worthOf_13 : decode cX9_worthOf 13 = .ok (.iload_n 1, 1) := by decide +kernel
theorem dX9_worthOf_14 : decode cX9_worthOf 14 = .ok (.iload_n 3, 1) := by decide +kernel
theorem dX9_worthOf_15 : decode cX9_worthOf 15 = .ok (.ishr, 1) := by decide +kernel
theorem dX9_worthOf_16 : decode cX9_worthOf 16 = .ok (.iconst 1, 1) := by decide +kernel
theorem dX9_worthOf_17 : decode cX9_worthOf 17 = .ok (.iand, 1) := by decide +kernel
theorem dX9_worthOf_18 : decode cX9_worthOf 18 = .ok (.iconst 1, 1) := by decide +kernel
theorem dX9_worthOf_19 : decode cX9_worthOf 19 = .ok (.if_icmp .ne 12, 3) := by decide +kernel
theorem dX9_worthOf_22 : decode cX9_worthOf 22 = .ok (.aload_n 0, 1) := by decide +kernel
theorem dX9_worthOf_23 : decode cX9_worthOf 23 = .ok (.getfield 13, 3) := by decide +kernel
theorem dX9_worthOf_26 : decode cX9_worthOf 26 = .ok (.iload_n 3, 1) := by decide +kernel
theorem dX9_worthOf_27 : decode cX9_worthOf 27 = .ok (.iaload, 1) := by decide +kernel
theorem dX9_worthOf_28 : decode cX9_worthOf 28 = .ok (.goto 4, 3) := by decide +kernel
theorem dX9_worthOf_31 : decode cX9_worthOf 31 = .ok (.iconst 0, 1) := by decide +kernel
theorem dX9_worthOf_32 : decode cX9_worthOf 32 = .ok (.iadd, 1) := by decide +kernel
theorem dX9_worthOf_33 : decode cX9_worthOf 33 = .ok (.istore_n 2, 1) := by decide +kernel
theorem dX9_worthOf_34 : decode cX9_worthOf 34 = .ok (.iinc 3 1, 3) := by decide +kernel
theorem dX9_worthOf_37 : decode cX9_worthOf 37 = .ok (.goto (-33), 3) := by decide +kernel
theorem dX9_worthOf_40 : decode cX9_worthOf 40 = .ok (.iload_n 2, 1) := by decide +kernel
theorem dX9_worthOf_41 : decode cX9_worthOf 41 = .ok (.ireturn, 1) := by decide +kernel
theorem dX9_comesBy_0 : decode cX9_comesBy 0 = .ok (.aload_n 0, 1) := by decide +kernel
theorem dX9_comesBy_1 : decode cX9_comesBy 1 = .ok (.getfield 26, 3) := by decide +kernel
theorem dX9_comesBy_4 : decode cX9_comesBy 4 = .ok (.iload_n 2, 1) := by decide +kernel
theorem dX9_comesBy_5 : decode cX9_comesBy 5 = .ok (.iaload, 1) := by decide +kernel
theorem dX9_comesBy_6 : decode cX9_comesBy 6 = .ok (.ifCond .ne 13, 3) := by decide +kernel
theorem dX9_comesBy_9 : decode cX9_comesBy 9 = .ok (.aload_n 0, 1) := by decide +kernel
theorem dX9_comesBy_10 : decode cX9_comesBy 10 = .ok (.getfield 41, 3) := by decide +kernel
theorem dX9_comesBy_13 : decode cX9_comesBy 13 = .ok (.iload_n 2, 1) := by decide +kernel
theorem dX9_comesBy_14 : decode cX9_comesBy 14 = .ok (.iaload, 1) := by decide +kernel
theorem dX9_comesBy_15 : decode cX9_comesBy 15 = .ok (.iload_n 1, 1) := by decide +kernel
theorem dX9_comesBy_16 : decode cX9_comesBy 16 = .ok (.if_icmp .eq 35, 3) := by decide +kernel
theorem dX9_comesBy_19 : decode cX9_comesBy 19 = .ok (.aload_n 0, 1) := by decide +kernel
theorem dX9_comesBy_20 : decode cX9_comesBy 20 = .ok (.getfield 26, 3) := by decide +kernel
theorem dX9_comesBy_23 : decode cX9_comesBy 23 = .ok (.iload_n 2, 1) := by decide +kernel
theorem dX9_comesBy_24 : decode cX9_comesBy 24 = .ok (.iaload, 1) := by decide +kernel
theorem dX9_comesBy_25 : decode cX9_comesBy 25 = .ok (.iconst 1, 1) := by decide +kernel
theorem dX9_comesBy_26 : decode cX9_comesBy 26 = .ok (.if_icmp .ne 29, 3) := by decide +kernel
theorem dX9_comesBy_29 : decode cX9_comesBy 29 = .ok (.aload_n 0, 1) := by decide +kernel
theorem dX9_comesBy_30 : decode cX9_comesBy 30 = .ok (.getfield 41, 3) := by decide +kernel
theorem dX9_comesBy_33 : decode cX9_comesBy 33 = .ok (.iload_n 2, 1) := by decide +kernel
theorem dX9_comesBy_34 : decode cX9_comesBy 34 = .ok (.iaload, 1) := by decide +kernel
theorem dX9_comesBy_35 : decode cX9_comesBy 35 = .ok (.iload_n 1, 1) := by decide +kernel
theorem dX9_comesBy_36 : decode cX9_comesBy 36 = .ok (.if_icmp .eq 15, 3) := by decide +kernel
theorem dX9_comesBy_39 : decode cX9_comesBy 39 = .ok (.aload_n 0, 1) := by decide +kernel
theorem dX9_comesBy_40 : decode cX9_comesBy 40 = .ok (.getfield 41, 3) := by decide +kernel
theorem dX9_comesBy_43 : decode cX9_comesBy 43 = .ok (.iload_n 2, 1) := by decide +kernel
theorem dX9_comesBy_44 : decode cX9_comesBy 44 = .ok (.iaload, 1) := by decide +kernel
theorem dX9_comesBy_45 : decode cX9_comesBy 45 = .ok (.iconst 1, 1) := by decide +kernel
theorem dX9_comesBy_46 : decode cX9_comesBy 46 = .ok (.iadd, 1) := by decide +kernel
theorem dX9_comesBy_47 : decode cX9_comesBy 47 = .ok (.iload_n 1, 1) := by decide +kernel
theorem dX9_comesBy_48 : decode cX9_comesBy 48 = .ok (.if_icmp .ne 7, 3) := by decide +kernel
theorem dX9_comesBy_51 : decode cX9_comesBy 51 = .ok (.iconst 1, 1) := by decide +kernel
theorem dX9_comesBy_52 : decode cX9_comesBy 52 = .ok (.goto 4, 3) := by decide +kernel
theorem dX9_comesBy_55 : decode cX9_comesBy 55 = .ok (.iconst 0, 1) := by decide +kernel
theorem dX9_comesBy_56 : decode cX9_comesBy 56 = .ok (.ireturn, 1) := by decide +kernel
theorem dX9_heirOf_0 : decode cX9_heirOf 0 = .ok (.aload_n 0, 1) := by decide +kernel
theorem dX9_heirOf_1 : decode cX9_heirOf 1 = .ok (.iload_n 2, 1) := by decide +kernel
theorem dX9_heirOf_2 : decode cX9_heirOf 2 = .ok (.invokevirtual 183, 3) := by decide +kernel
theorem dX9_heirOf_5 : decode cX9_heirOf 5 = .ok (.istore_n 3, 1) := by decide +kernel
theorem dX9_heirOf_6 : decode cX9_heirOf 6 = .ok (.iload_n 1, 1) := by decide +kernel
theorem dX9_heirOf_7 : decode cX9_heirOf 7 = .ok (.ifCond .ne 7, 3) := by decide +kernel
theorem dX9_heirOf_10 : decode cX9_heirOf 10 = .ok (.iconst 1, 1) := by decide +kernel
theorem dX9_heirOf_11 : decode cX9_heirOf 11 = .ok (.goto 4, 3) := by decide +kernel
theorem dX9_heirOf_14 : decode cX9_heirOf 14 = .ok (.iconst 0, 1) := by decide +kernel
theorem dX9_heirOf_15 : decode cX9_heirOf 15 = .ok (.istore 4, 2) := by decide +kernel
theorem dX9_heirOf_17 : decode cX9_heirOf 17 = .ok (.iconst 0, 1) := by decide +kernel
theorem dX9_heirOf_18 : decode cX9_heirOf 18 = .ok (.istore 5, 2) := by decide +kernel
theorem dX9_heirOf_20 : decode cX9_heirOf 20 = .ok (.iload 5, 2) := by decide +kernel
theorem dX9_heirOf_22 : decode cX9_heirOf 22 = .ok (.iload_n 3, 1) := by decide +kernel
theorem dX9_heirOf_23 : decode cX9_heirOf 23 = .ok (.if_icmp .ge 31, 3) := by decide +kernel
theorem dX9_heirOf_26 : decode cX9_heirOf 26 = .ok (.iload 4, 2) := by decide +kernel
theorem dX9_heirOf_28 : decode cX9_heirOf 28 = .ok (.ifCond .ne 13, 3) := by decide +kernel
theorem dX9_heirOf_31 : decode cX9_heirOf 31 = .ok (.aload_n 0, 1) := by decide +kernel
theorem dX9_heirOf_32 : decode cX9_heirOf 32 = .ok (.iload_n 1, 1) := by decide +kernel
theorem dX9_heirOf_33 : decode cX9_heirOf 33 = .ok (.iload 5, 2) := by decide +kernel
theorem dX9_heirOf_35 : decode cX9_heirOf 35 = .ok (.invokevirtual 193, 3) := by decide +kernel
theorem dX9_heirOf_38 : decode cX9_heirOf 38 = .ok (.ifCond .eq 7, 3) := by decide +kernel
theorem dX9_heirOf_41 : decode cX9_heirOf 41 = .ok (.iconst 1, 1) := by decide +kernel
theorem dX9_heirOf_42 : decode cX9_heirOf 42 = .ok (.goto 4, 3) := by decide +kernel
theorem dX9_heirOf_45 : decode cX9_heirOf 45 = .ok (.iconst 0, 1) := by decide +kernel
theorem dX9_heirOf_46 : decode cX9_heirOf 46 = .ok (.istore 4, 2) := by decide +kernel
theorem dX9_heirOf_48 : decode cX9_heirOf 48 = .ok (.iinc 5 1, 3) := by decide +kernel
theorem dX9_heirOf_51 : decode cX9_heirOf 51 = .ok (.goto (-31), 3) := by decide +kernel
theorem dX9_heirOf_54 : decode cX9_heirOf 54 = .ok (.iload 4, 2) := by decide +kernel
theorem dX9_heirOf_56 : decode cX9_heirOf 56 = .ok (.ifCond .ne 5, 3) := by decide +kernel
theorem dX9_heirOf_59 : decode cX9_heirOf 59 = .ok (.iconst (-1), 1) := by decide +kernel
theorem dX9_heirOf_60 : decode cX9_heirOf 60 = .ok (.ireturn, 1) := by decide +kernel
theorem dX9_heirOf_61 : decode cX9_heirOf 61 = .ok (.iload_n 1, 1) := by decide +kernel
theorem dX9_heirOf_62 : decode cX9_heirOf 62 = .ok (.istore 5, 2) := by decide +kernel
theorem dX9_heirOf_64 : decode cX9_heirOf 64 = .ok (.iconst 0, 1) := by decide +kernel
theorem dX9_heirOf_65 : decode cX9_heirOf 65 = .ok (.istore 6, 2) := by decide +kernel
theorem dX9_heirOf_67 : decode cX9_heirOf 67 = .ok (.iload 6, 2) := by decide +kernel
theorem dX9_heirOf_69 : decode cX9_heirOf 69 = .ok (.iload_n 3, 1) := by decide +kernel
theorem dX9_heirOf_70 : decode cX9_heirOf 70 = .ok (.if_icmp .ge 128, 3) := by decide +kernel
theorem dX9_heirOf_73 : decode cX9_heirOf 73 = .ok (.aload_n 0, 1) := by decide +kernel
theorem dX9_heirOf_74 : decode cX9_heirOf 74 = .ok (.getfield 26, 3) := by decide +kernel
theorem dX9_heirOf_77 : decode cX9_heirOf 77 = .ok (.iload 6, 2) := by decide +kernel
theorem dX9_heirOf_79 : decode cX9_heirOf 79 = .ok (.iaload, 1) := by decide +kernel
theorem dX9_heirOf_80 : decode cX9_heirOf 80 = .ok (.iconst 1, 1) := by decide +kernel
theorem dX9_heirOf_81 : decode cX9_heirOf 81 = .ok (.if_icmp .ne 79, 3) := by decide +kernel
theorem dX9_heirOf_84 : decode cX9_heirOf 84 = .ok (.aload_n 0, 1) := by decide +kernel
theorem dX9_heirOf_85 : decode cX9_heirOf 85 = .ok (.getfield 32, 3) := by decide +kernel
theorem dX9_heirOf_88 : decode cX9_heirOf 88 = .ok (.iload 6, 2) := by decide +kernel
theorem dX9_heirOf_90 : decode cX9_heirOf 90 = .ok (.iaload, 1) := by decide +kernel
theorem dX9_heirOf_91 : decode cX9_heirOf 91 = .ok (.iload 5, 2) := by decide +kernel
theorem dX9_heirOf_93 : decode cX9_heirOf 93 = .ok (.if_icmp .ne 67, 3) := by decide +kernel
theorem dX9_heirOf_96 : decode cX9_heirOf 96 = .ok (.aload_n 0, 1) := by decide +kernel
theorem dX9_heirOf_97 : decode cX9_heirOf 97 = .ok (.iload 5, 2) := by decide +kernel
theorem dX9_heirOf_99 : decode cX9_heirOf 99 = .ok (.iload 6, 2) := by decide +kernel
theorem dX9_heirOf_101 : decode cX9_heirOf 101 = .ok (.invokevirtual 155, 3) := by decide +kernel
theorem dX9_heirOf_104 : decode cX9_heirOf 104 = .ok (.istore 7, 2) := by decide +kernel
theorem dX9_heirOf_106 : decode cX9_heirOf 106 = .ok (.aload_n 0, 1) := by decide +kernel
theorem dX9_heirOf_107 : decode cX9_heirOf 107 = .ok (.aload_n 0, 1) := by decide +kernel
theorem dX9_heirOf_108 : decode cX9_heirOf 108 = .ok (.getfield 38, 3) := by decide +kernel
theorem dX9_heirOf_111 : decode cX9_heirOf 111 = .ok (.iload 6, 2) := by decide +kernel
theorem dX9_heirOf_113 : decode cX9_heirOf 113 = .ok (.iaload, 1) := by decide +kernel
theorem dX9_heirOf_114 : decode cX9_heirOf 114 = .ok (.invokevirtual 196, 3) := by decide +kernel
theorem dX9_heirOf_117 : decode cX9_heirOf 117 = .ok (.aload_n 0, 1) := by decide +kernel
theorem dX9_heirOf_118 : decode cX9_heirOf 118 = .ok (.iload 7, 2) := by decide +kernel
theorem dX9_heirOf_120 : decode cX9_heirOf 120 = .ok (.aload_n 0, 1) := by decide +kernel
theorem dX9_heirOf_121 : decode cX9_heirOf 121 = .ok (.getfield 38, 3) := by decide +kernel
theorem dX9_heirOf_124 : decode cX9_heirOf 124 = .ok (.iload 6, 2) := by decide +kernel
theorem dX9_heirOf_126 : decode cX9_heirOf 126 = .ok (.iaload, 1) := by decide +kernel
theorem dX9_heirOf_127 : decode cX9_heirOf 127 = .ok (.iconst (-1), 1) := by decide +kernel
theorem dX9_heirOf_128 : decode cX9_heirOf 128 = .ok (.ixor, 1) := by decide +kernel
theorem dX9_heirOf_129 : decode cX9_heirOf 129 = .ok (.iand, 1) := by decide +kernel
theorem dX9_heirOf_130 : decode cX9_heirOf 130 = .ok (.invokevirtual 196, 3) := by decide +kernel
theorem dX9_heirOf_133 : decode cX9_heirOf 133 = .ok (.if_icmp .lt 13, 3) := by decide +kernel
theorem dX9_heirOf_136 : decode cX9_heirOf 136 = .ok (.aload_n 0, 1) := by decide +kernel
theorem dX9_heirOf_137 : decode cX9_heirOf 137 = .ok (.getfield 41, 3) := by decide +kernel
theorem dX9_heirOf_140 : decode cX9_heirOf 140 = .ok (.iload 6, 2) := by decide +kernel
theorem dX9_heirOf_142 : decode cX9_heirOf 142 = .ok (.iaload, 1) := by decide +kernel
theorem dX9_heirOf_143 : decode cX9_heirOf 143 = .ok (.goto 12, 3) := by decide +kernel
theorem dX9_heirOf_146 : decode cX9_heirOf 146 = .ok (.aload_n 0, 1) := by decide +kernel
theorem dX9_heirOf_147 : decode cX9_heirOf 147 = .ok (.getfield 41, 3) := by decide +kernel
theorem dX9_heirOf_150 : decode cX9_heirOf 150 = .ok (.iload 6, 2) := by decide +kernel
theorem dX9_heirOf_152 : decode cX9_heirOf 152 = .ok (.iaload, 1) := by decide +kernel
theorem dX9_heirOf_153 : decode cX9_heirOf 153 = .ok (.iconst 1, 1) := by decide +kernel
theorem dX9_heirOf_154 : decode cX9_heirOf 154 = .ok (.iadd, 1) := by decide +kernel
theorem dX9_heirOf_155 : decode cX9_heirOf 155 = .ok (.istore 5, 2) := by decide +kernel
theorem dX9_heirOf_157 : decode cX9_heirOf 157 = .ok (.goto 35, 3) := by decide +kernel
theorem dX9_heirOf_160 : decode cX9_heirOf 160 = .ok (.aload_n 0, 1) := by decide +kernel
theorem dX9_heirOf_161 : decode cX9_heirOf 161 = .ok (.getfield 26, 3) := by decide +kernel
theorem dX9_heirOf_164 : decode cX9_heirOf 164 = .ok (.iload 6, 2) := by decide +kernel
theorem dX9_heirOf_166 : decode cX9_heirOf 166 = .ok (.iaload, 1) := by decide +kernel
theorem dX9_heirOf_167 : decode cX9_heirOf 167 = .ok (.iconst 2, 1) := by decide +kernel
theorem dX9_heirOf_168 : decode cX9_heirOf 168 = .ok (.if_icmp .ne 24, 3) := by decide +kernel
theorem dX9_heirOf_171 : decode cX9_heirOf 171 = .ok (.aload_n 0, 1) := by decide +kernel
theorem dX9_heirOf_172 : decode cX9_heirOf 172 = .ok (.getfield 35, 3) := by decide +kernel
theorem dX9_heirOf_175 : decode cX9_heirOf 175 = .ok (.iload 6, 2) := by decide +kernel
theorem dX9_heirOf_177 : decode cX9_heirOf 177 = .ok (.iaload, 1) := by decide +kernel
theorem dX9_heirOf_178 : decode cX9_heirOf 178 = .ok (.iload 5, 2) := by decide +kernel
theorem dX9_heirOf_180 : decode cX9_heirOf 180 = .ok (.if_icmp .ne 12, 3) := by decide +kernel
theorem dX9_heirOf_183 : decode cX9_heirOf 183 = .ok (.aload_n 0, 1) := by decide +kernel
theorem dX9_heirOf_184 : decode cX9_heirOf 184 = .ok (.getfield 32, 3) := by decide +kernel
theorem dX9_heirOf_187 : decode cX9_heirOf 187 = .ok (.iload 6, 2) := by decide +kernel
theorem dX9_heirOf_189 : decode cX9_heirOf 189 = .ok (.iaload, 1) := by decide +kernel
theorem dX9_heirOf_190 : decode cX9_heirOf 190 = .ok (.istore 5, 2) := by decide +kernel
theorem dX9_heirOf_192 : decode cX9_heirOf 192 = .ok (.iinc 6 1, 3) := by decide +kernel
theorem dX9_heirOf_195 : decode cX9_heirOf 195 = .ok (.goto (-128), 3) := by decide +kernel
theorem dX9_heirOf_198 : decode cX9_heirOf 198 = .ok (.iload 5, 2) := by decide +kernel
theorem dX9_heirOf_200 : decode cX9_heirOf 200 = .ok (.ireturn, 1) := by decide +kernel
theorem dX9_heir_0 : decode cX9_heir 0 = .ok (.aload_n 0, 1) := by decide +kernel
theorem dX9_heir_1 : decode cX9_heir 1 = .ok (.iload_n 1, 1) := by decide +kernel
theorem dX9_heir_2 : decode cX9_heir 2 = .ok (.invokevirtual 187, 3) := by decide +kernel
theorem dX9_heir_5 : decode cX9_heir 5 = .ok (.ifCond .ne 6, 3) := by decide +kernel
theorem dX9_heir_8 : decode cX9_heir 8 = .ok (.bipush (-2), 2) := by decide +kernel
theorem dX9_heir_10 : decode cX9_heir 10 = .ok (.ireturn, 1) := by decide +kernel
theorem dX9_heir_11 : decode cX9_heir 11 = .ok (.iload_n 2, 1) := by decide +kernel
theorem dX9_heir_12 : decode cX9_heir 12 = .ok (.invokestatic 165, 3) := by decide +kernel
theorem dX9_heir_15 : decode cX9_heir 15 = .ok (.ifCond .eq 12, 3) := by decide +kernel
theorem dX9_heir_18 : decode cX9_heir 18 = .ok (.aload_n 0, 1) := by decide +kernel
theorem dX9_heir_19 : decode cX9_heir 19 = .ok (.iload_n 1, 1) := by decide +kernel
theorem dX9_heir_20 : decode cX9_heir 20 = .ok (.iload_n 2, 1) := by decide +kernel
theorem dX9_heir_21 : decode cX9_heir 21 = .ok (.invokevirtual 199, 3) := by decide +kernel
theorem dX9_heir_24 : decode cX9_heir 24 = .ok (.goto 5, 3) := by decide +kernel
theorem dX9_heir_27 : decode cX9_heir 27 = .ok (.bipush (-3), 2) := by decide +kernel
theorem dX9_heir_29 : decode cX9_heir 29 = .ok (.ireturn, 1) := by decide +kernel
theorem dX9_write_0 : decode cX9_write 0 = .ok (.iload_n 3, 1) := by decide +kernel
theorem dX9_write_1 : decode cX9_write 1 = .ok (.iconst 1, 1) := by decide +kernel
theorem dX9_write_2 : decode cX9_write 2 = .ok (.bipush 8, 2) := by decide +kernel
theorem dX9_write_4 : decode cX9_write 4 = .ok (.invokestatic 148, 3) := by decide +kernel
theorem dX9_write_7 : decode cX9_write 7 = .ok (.ifCond .ne 6, 3) := by decide +kernel
theorem dX9_write_10 : decode cX9_write 10 = .ok (.bipush (-3), 2) := by decide +kernel
theorem dX9_write_12 : decode cX9_write 12 = .ok (.ireturn, 1) := by decide +kernel
theorem dX9_write_13 : decode cX9_write 13 = .ok (.aload_n 0, 1) := by decide +kernel
theorem dX9_write_14 : decode cX9_write 14 = .ok (.getfield 202, 3) := by decide +kernel
theorem dX9_write_17 : decode cX9_write 17 = .ok (.iload_n 3, 1) := by decide +kernel
theorem dX9_write_18 : decode cX9_write 18 = .ok (.iadd, 1) := by decide +kernel
theorem dX9_write_19 : decode cX9_write 19 = .ok (.sipush 160, 3) := by decide +kernel
theorem dX9_write_22 : decode cX9_write 22 = .ok (.if_icmp .le 6, 3) := by decide +kernel
theorem dX9_write_25 : decode cX9_write 25 = .ok (.bipush (-5), 2) := by decide +kernel
theorem dX9_write_27 : decode cX9_write 27 = .ok (.ireturn, 1) := by decide +kernel
theorem dX9_write_28 : decode cX9_write 28 = .ok (.iconst 0, 1) := by decide +kernel
theorem dX9_write_29 : decode cX9_write 29 = .ok (.istore 4, 2) := by decide +kernel
theorem dX9_write_31 : decode cX9_write 31 = .ok (.iload 4, 2) := by decide +kernel
theorem dX9_write_33 : decode cX9_write 33 = .ok (.iload_n 3, 1) := by decide +kernel
theorem dX9_write_34 : decode cX9_write 34 = .ok (.if_icmp .ge 33, 3) := by decide +kernel
theorem dX9_write_37 : decode cX9_write 37 = .ok (.aload_n 0, 1) := by decide +kernel
theorem dX9_write_38 : decode cX9_write 38 = .ok (.getfield 50, 3) := by decide +kernel
theorem dX9_write_41 : decode cX9_write 41 = .ok (.aload_n 0, 1) := by decide +kernel
theorem dX9_write_42 : decode cX9_write 42 = .ok (.getfield 202, 3) := by decide +kernel
theorem dX9_write_45 : decode cX9_write 45 = .ok (.iload 4, 2) := by decide +kernel
theorem dX9_write_47 : decode cX9_write 47 = .ok (.iadd, 1) := by decide +kernel
theorem dX9_write_48 : decode cX9_write 48 = .ok (.lload_n 1, 1) := by decide +kernel
theorem dX9_write_49 : decode cX9_write 49 = .ok (.bipush 8, 2) := by decide +kernel
theorem dX9_write_51 : decode cX9_write 51 = .ok (.iload 4, 2) := by decide +kernel
theorem dX9_write_53 : decode cX9_write 53 = .ok (.imul, 1) := by decide +kernel
theorem dX9_write_54 : decode cX9_write 54 = .ok (.lshr, 1) := by decide +kernel
theorem dX9_write_55 : decode cX9_write 55 = .ok (.ldc2_w 205, 3) := by decide +kernel
theorem dX9_write_58 : decode cX9_write 58 = .ok (.land, 1) := by decide +kernel
theorem dX9_write_59 : decode cX9_write 59 = .ok (.l2i, 1) := by decide +kernel
theorem dX9_write_60 : decode cX9_write 60 = .ok (.iastore, 1) := by decide +kernel
theorem dX9_write_61 : decode cX9_write 61 = .ok (.iinc 4 1, 3) := by decide +kernel
theorem dX9_write_64 : decode cX9_write 64 = .ok (.goto (-33), 3) := by decide +kernel
theorem dX9_write_67 : decode cX9_write 67 = .ok (.aload_n 0, 1) := by decide +kernel
theorem dX9_write_68 : decode cX9_write 68 = .ok (.dup, 1) := by decide +kernel
theorem dX9_write_69 : decode cX9_write 69 = .ok (.getfield 202, 3) := by decide +kernel
theorem dX9_write_72 : decode cX9_write 72 = .ok (.iload_n 3, 1) := by decide +kernel
theorem dX9_write_73 : decode cX9_write 73 = .ok (.iadd, 1) := by decide +kernel
theorem dX9_write_74 : decode cX9_write 74 = .ok (.putfield 202, 3) := by decide +kernel
theorem dX9_write_77 : decode cX9_write 77 = .ok (.aload_n 0, 1) := by decide +kernel
theorem dX9_write_78 : decode cX9_write 78 = .ok (.getfield 202, 3) := by decide +kernel
theorem dX9_write_81 : decode cX9_write 81 = .ok (.ireturn, 1) := by decide +kernel
theorem dX9_erase_0 : decode cX9_erase 0 = .ok (.aload_n 0, 1) := by decide +kernel
theorem dX9_erase_1 : decode cX9_erase 1 = .ok (.getfield 202, 3) := by decide +kernel
theorem dX9_erase_4 : decode cX9_erase 4 = .ok (.istore_n 1, 1) := by decide +kernel
theorem dX9_erase_5 : decode cX9_erase 5 = .ok (.aload_n 0, 1) := by decide +kernel
theorem dX9_erase_6 : decode cX9_erase 6 = .ok (.iconst 0, 1) := by decide +kernel
theorem dX9_erase_7 : decode cX9_erase 7 = .ok (.putfield 202, 3) := by decide +kernel
theorem dX9_erase_10 : decode cX9_erase 10 = .ok (.iload_n 1, 1) := by decide +kernel
theorem dX9_erase_11 : decode cX9_erase 11 = .ok (.ireturn, 1) := by decide +kernel
theorem dX9_nextToken_0 : decode cX9_nextToken 0 = .ok (.aload_n 0, 1) := by decide +kernel
theorem dX9_nextToken_1 : decode cX9_nextToken 1 = .ok (.getfield 207, 3) := by decide +kernel
theorem dX9_nextToken_4 : decode cX9_nextToken 4 = .ok (.aload_n 0, 1) := by decide +kernel
theorem dX9_nextToken_5 : decode cX9_nextToken 5 = .ok (.getfield 202, 3) := by decide +kernel
theorem dX9_nextToken_8 : decode cX9_nextToken 8 = .ok (.if_icmp .ge 30, 3) := by decide +kernel
theorem dX9_nextToken_11 : decode cX9_nextToken 11 = .ok (.aload_n 0, 1) := by decide +kernel
theorem dX9_nextToken_12 : decode cX9_nextToken 12 = .ok (.getfield 50, 3) := by decide +kernel
theorem dX9_nextToken_15 : decode cX9_nextToken 15 = .ok (.aload_n 0, 1) := by decide +kernel
theorem dX9_nextToken_16 : decode cX9_nextToken 16 = .ok (.getfield 207, 3) := by decide +kernel
theorem dX9_nextToken_19 : decode cX9_nextToken 19 = .ok (.iaload, 1) := by decide +kernel
theorem dX9_nextToken_20 : decode cX9_nextToken 20 = .ok (.bipush 32, 2) := by decide +kernel
theorem dX9_nextToken_22 : decode cX9_nextToken 22 = .ok (.if_icmp .ne 16, 3) := by decide +kernel
theorem dX9_nextToken_25 : decode cX9_nextToken 25 = .ok (.aload_n 0, 1) := by decide +kernel
theorem dX9_nextToken_26 : decode cX9_nextToken 26 = .ok (.dup, 1) := by decide +kernel
theorem dX9_nextToken_27 : decode cX9_nextToken 27 = .ok (.getfield 207, 3) := by decide +kernel
theorem dX9_nextToken_30 : decode cX9_nextToken 30 = .ok (.iconst 1, 1) := by decide +kernel
theorem dX9_nextToken_31 : decode cX9_nextToken 31 = .ok (.iadd, 1) := by decide +kernel
theorem dX9_nextToken_32 : decode cX9_nextToken 32 = .ok (.putfield 207, 3) := by decide +kernel
theorem dX9_nextToken_35 : decode cX9_nextToken 35 = .ok (.goto (-35), 3) := by decide +kernel
theorem dX9_nextToken_38 : decode cX9_nextToken 38 = .ok (.aload_n 0, 1) := by decide +kernel
theorem dX9_nextToken_39 : decode cX9_nextToken 39 = .ok (.aload_n 0, 1) := by decide +kernel
theorem dX9_nextToken_40 : decode cX9_nextToken 40 = .ok (.getfield 207, 3) := by decide +kernel
theorem dX9_nextToken_43 : decode cX9_nextToken 43 = .ok (.putfield 210, 3) := by decide +kernel
theorem dX9_nextToken_46 : decode cX9_nextToken 46 = .ok (.aload_n 0, 1) := by decide +kernel
theorem dX9_nextToken_47 : decode cX9_nextToken 47 = .ok (.iconst 0, 1) := by decide +kernel
theorem dX9_nextToken_48 : decode cX9_nextToken 48 = .ok (.putfield 213, 3) := by decide +kernel
theorem dX9_nextToken_51 : decode cX9_nextToken 51 = .ok (.aload_n 0, 1) := by decide +kernel
theorem dX9_nextToken_52 : decode cX9_nextToken 52 = .ok (.iconst 0, 1) := by decide +kernel
theorem dX9_nextToken_53 : decode cX9_nextToken 53 = .ok (.putfield 216, 3) := by decide +kernel
theorem dX9_nextToken_56 : decode cX9_nextToken 56 = .ok (.aload_n 0, 1) := by decide +kernel
theorem dX9_nextToken_57 : decode cX9_nextToken 57 = .ok (.getfield 207, 3) := by decide +kernel
theorem dX9_nextToken_60 : decode cX9_nextToken 60 = .ok (.aload_n 0, 1) := by decide +kernel
theorem dX9_nextToken_61 : decode cX9_nextToken 61 = .ok (.getfield 202, 3) := by decide +kernel
theorem dX9_nextToken_64 : decode cX9_nextToken 64 = .ok (.if_icmp .ne 13, 3) := by decide +kernel
theorem dX9_nextToken_67 : decode cX9_nextToken 67 = .ok (.aload_n 0, 1) := by decide +kernel
theorem dX9_nextToken_68 : decode cX9_nextToken 68 = .ok (.ldc2_w 219, 3) := by decide +kernel
theorem dX9_nextToken_71 : decode cX9_nextToken 71 = .ok (.putfield 221, 3) := by decide +kernel
theorem dX9_nextToken_74 : decode cX9_nextToken 74 = .ok (.goto 320, 3) := by decide +kernel
theorem dX9_nextToken_77 : decode cX9_nextToken 77 = .ok (.aload_n 0, 1) := by decide +kernel
theorem dX9_nextToken_78 : decode cX9_nextToken 78 = .ok (.getfield 50, 3) := by decide +kernel
theorem dX9_nextToken_81 : decode cX9_nextToken 81 = .ok (.aload_n 0, 1) := by decide +kernel
theorem dX9_nextToken_82 : decode cX9_nextToken 82 = .ok (.getfield 207, 3) := by decide +kernel
theorem dX9_nextToken_85 : decode cX9_nextToken 85 = .ok (.iaload, 1) := by decide +kernel
theorem dX9_nextToken_86 : decode cX9_nextToken 86 = .ok (.bipush 97, 2) := by decide +kernel
theorem dX9_nextToken_88 : decode cX9_nextToken 88 = .ok (.bipush 122, 2) := by decide +kernel
theorem dX9_nextToken_90 : decode cX9_nextToken 90 = .ok (.invokestatic 148, 3) := by decide +kernel
theorem dX9_nextToken_93 : decode cX9_nextToken 93 = .ok (.ifCond .eq 129, 3) := by decide +kernel
theorem dX9_nextToken_96 : decode cX9_nextToken 96 = .ok (.aload_n 0, 1) := by decide +kernel
theorem dX9_nextToken_97 : decode cX9_nextToken 97 = .ok (.lconst 0, 1) := by decide +kernel
theorem dX9_nextToken_98 : decode cX9_nextToken 98 = .ok (.putfield 221, 3) := by decide +kernel
theorem dX9_nextToken_101 : decode cX9_nextToken 101 = .ok (.aload_n 0, 1) := by decide +kernel
theorem dX9_nextToken_102 : decode cX9_nextToken 102 = .ok (.getfield 207, 3) := by decide +kernel
theorem dX9_nextToken_105 : decode cX9_nextToken 105 = .ok (.aload_n 0, 1) := by decide +kernel
theorem dX9_nextToken_106 : decode cX9_nextToken 106 = .ok (.getfield 202, 3) := by decide +kernel
theorem dX9_nextToken_109 : decode cX9_nextToken 109 = .ok (.if_icmp .ge 82, 3) := by decide +kernel
theorem dX9_nextToken_112 : decode cX9_nextToken 112 = .ok (.aload_n 0, 1) := by decide +kernel
theorem dX9_nextToken_113 : decode cX9_nextToken 113 = .ok (.getfield 50, 3) := by decide +kernel
theorem dX9_nextToken_116 : decode cX9_nextToken 116 = .ok (.aload_n 0, 1) := by decide +kernel
theorem dX9_nextToken_117 : decode cX9_nextToken 117 = .ok (.getfield 207, 3) := by decide +kernel
theorem dX9_nextToken_120 : decode cX9_nextToken 120 = .ok (.iaload, 1) := by decide +kernel
theorem dX9_nextToken_121 : decode cX9_nextToken 121 = .ok (.bipush 97, 2) := by decide +kernel
theorem dX9_nextToken_123 : decode cX9_nextToken 123 = .ok (.bipush 122, 2) := by decide +kernel
theorem dX9_nextToken_125 : decode cX9_nextToken 125 = .ok (.invokestatic 148, 3) := by decide +kernel
theorem dX9_nextToken_128 : decode cX9_nextToken 128 = .ok (.ifCond .eq 63, 3) := by decide +kernel
theorem dX9_nextToken_131 : decode cX9_nextToken 131 = .ok (.aload_n 0, 1) := by decide +kernel
theorem dX9_nextToken_132 : decode cX9_nextToken 132 = .ok (.aload_n 0, 1) := by decide +kernel
theorem dX9_nextToken_133 : decode cX9_nextToken 133 = .ok (.getfield 207, 3) := by decide +kernel
theorem dX9_nextToken_136 : decode cX9_nextToken 136 = .ok (.aload_n 0, 1) := by decide +kernel
theorem dX9_nextToken_137 : decode cX9_nextToken 137 = .ok (.getfield 210, 3) := by decide +kernel
theorem dX9_nextToken_140 : decode cX9_nextToken 140 = .ok (.isub, 1) := by decide +kernel
theorem dX9_nextToken_141 : decode cX9_nextToken 141 = .ok (.bipush 9, 2) := by decide +kernel
theorem dX9_nextToken_143 : decode cX9_nextToken 143 = .ok (.if_icmp .ge 29, 3) := by decide +kernel
theorem dX9_nextToken_146 : decode cX9_nextToken 146 = .ok (.ldc2_w 225, 3) := by decide +kernel
theorem dX9_nextToken_149 : decode cX9_nextToken 149 = .ok (.aload_n 0, 1) := by decide +kernel
theorem dX9_nextToken_150 : decode cX9_nextToken 150 = .ok (.getfield 221, 3) := by decide +kernel
theorem dX9_nextToken_153 : decode cX9_nextToken 153 = .ok (.lmul, 1) := by decide +kernel
theorem dX9_nextToken_154 : decode cX9_nextToken 154 = .ok (.aload_n 0, 1) := by decide +kernel
theorem dX9_nextToken_155 : decode cX9_nextToken 155 = .ok (.getfield 50, 3) := by decide +kernel
theorem dX9_nextToken_158 : decode cX9_nextToken 158 = .ok (.aload_n 0, 1) := by decide +kernel
theorem dX9_nextToken_159 : decode cX9_nextToken 159 = .ok (.getfield 207, 3) := by decide +kernel
theorem dX9_nextToken_162 : decode cX9_nextToken 162 = .ok (.iaload, 1) := by decide +kernel
theorem dX9_nextToken_163 : decode cX9_nextToken 163 = .ok (.i2l, 1) := by decide +kernel
theorem dX9_nextToken_164 : decode cX9_nextToken 164 = .ok (.ladd, 1) := by decide +kernel
theorem dX9_nextToken_165 : decode cX9_nextToken 165 = .ok (.ldc2_w 227, 3) := by decide +kernel
theorem dX9_nextToken_168 : decode cX9_nextToken 168 = .ok (.lsub, 1) := by decide +kernel
theorem dX9_nextToken_169 : decode cX9_nextToken 169 = .ok (.goto 6, 3) := by decide +kernel
theorem dX9_nextToken_172 : decode cX9_nextToken 172 = .ok (.ldc2_w 229, 3) := by decide +kernel
theorem dX9_nextToken_175 : decode cX9_nextToken 175 = .ok (.putfield 221, 3) := by decide +kernel
theorem dX9_nextToken_178 : decode cX9_nextToken 178 = .ok (.aload_n 0, 1) := by decide +kernel
theorem dX9_nextToken_179 : decode cX9_nextToken 179 = .ok (.dup, 1) := by decide +kernel
theorem dX9_nextToken_180 : decode cX9_nextToken 180 = .ok (.getfield 207, 3) := by decide +kernel
theorem dX9_nextToken_183 : decode cX9_nextToken 183 = .ok (.iconst 1, 1) := by decide +kernel
theorem dX9_nextToken_184 : decode cX9_nextToken 184 = .ok (.iadd, 1) := by decide +kernel
theorem dX9_nextToken_185 : decode cX9_nextToken 185 = .ok (.putfield 207, 3) := by decide +kernel
theorem dX9_nextToken_188 : decode cX9_nextToken 188 = .ok (.goto (-87), 3) := by decide +kernel
theorem dX9_nextToken_191 : decode cX9_nextToken 191 = .ok (.aload_n 0, 1) := by decide +kernel
theorem dX9_nextToken_192 : decode cX9_nextToken 192 = .ok (.aload_n 0, 1) := by decide +kernel
theorem dX9_nextToken_193 : decode cX9_nextToken 193 = .ok (.getfield 207, 3) := by decide +kernel
theorem dX9_nextToken_196 : decode cX9_nextToken 196 = .ok (.aload_n 0, 1) := by decide +kernel
theorem dX9_nextToken_197 : decode cX9_nextToken 197 = .ok (.getfield 210, 3) := by decide +kernel
theorem dX9_nextToken_200 : decode cX9_nextToken 200 = .ok (.isub, 1) := by decide +kernel
theorem dX9_nextToken_201 : decode cX9_nextToken 201 = .ok (.bipush 9, 2) := by decide +kernel
theorem dX9_nextToken_203 : decode cX9_nextToken 203 = .ok (.if_icmp .le 9, 3) := by decide +kernel
theorem dX9_nextToken_206 : decode cX9_nextToken 206 = .ok (.ldc2_w 229, 3) := by decide +kernel
theorem dX9_nextToken_209 : decode cX9_nextToken 209 = .ok (.goto 7, 3) := by decide +kernel
theorem dX9_nextToken_212 : decode cX9_nextToken 212 = .ok (.aload_n 0, 1) := by decide +kernel
theorem dX9_nextToken_213 : decode cX9_nextToken 213 = .ok (.getfield 221, 3) := by decide +kernel
theorem dX9_nextToken_216 : decode cX9_nextToken 216 = .ok (.putfield 221, 3) := by decide +kernel
theorem dX9_nextToken_219 : decode cX9_nextToken 219 = .ok (.goto 175, 3) := by decide +kernel
theorem dX9_nextToken_222 : decode cX9_nextToken 222 = .ok (.aload_n 0, 1) := by decide +kernel
theorem dX9_nextToken_223 : decode cX9_nextToken 223 = .ok (.getfield 50, 3) := by decide +kernel
theorem dX9_nextToken_226 : decode cX9_nextToken 226 = .ok (.aload_n 0, 1) := by decide +kernel
theorem dX9_nextToken_227 : decode cX9_nextToken 227 = .ok (.getfield 207, 3) := by decide +kernel
theorem dX9_nextToken_230 : decode cX9_nextToken 230 = .ok (.iaload, 1) := by decide +kernel
theorem dX9_nextToken_231 : decode cX9_nextToken 231 = .ok (.bipush 48, 2) := by decide +kernel
theorem dX9_nextToken_233 : decode cX9_nextToken 233 = .ok (.bipush 57, 2) := by decide +kernel
theorem dX9_nextToken_235 : decode cX9_nextToken 235 = .ok (.invokestatic 148, 3) := by decide +kernel
theorem dX9_nextToken_238 : decode cX9_nextToken 238 = .ok (.ifCond .eq 119, 3) := by decide +kernel
theorem dX9_nextToken_241 : decode cX9_nextToken 241 = .ok (.aload_n 0, 1) := by decide +kernel
theorem dX9_nextToken_242 : decode cX9_nextToken 242 = .ok (.getfield 207, 3) := by decide +kernel
theorem dX9_nextToken_245 : decode cX9_nextToken 245 = .ok (.aload_n 0, 1) := by decide +kernel
theorem dX9_nextToken_246 : decode cX9_nextToken 246 = .ok (.getfield 202, 3) := by decide +kernel
theorem dX9_nextToken_249 : decode cX9_nextToken 249 = .ok (.if_icmp .ge 84, 3) := by decide +kernel
theorem dX9_nextToken_252 : decode cX9_nextToken 252 = .ok (.aload_n 0, 1) := by decide +kernel
theorem dX9_nextToken_253 : decode cX9_nextToken 253 = .ok (.getfield 50, 3) := by decide +kernel
theorem dX9_nextToken_256 : decode cX9_nextToken 256 = .ok (.aload_n 0, 1) := by decide +kernel
theorem dX9_nextToken_257 : decode cX9_nextToken 257 = .ok (.getfield 207, 3) := by decide +kernel
theorem dX9_nextToken_260 : decode cX9_nextToken 260 = .ok (.iaload, 1) := by decide +kernel
theorem dX9_nextToken_261 : decode cX9_nextToken 261 = .ok (.bipush 48, 2) := by decide +kernel
theorem dX9_nextToken_263 : decode cX9_nextToken 263 = .ok (.bipush 57, 2) := by decide +kernel
theorem dX9_nextToken_265 : decode cX9_nextToken 265 = .ok (.invokestatic 148, 3) := by decide +kernel
theorem dX9_nextToken_268 : decode cX9_nextToken 268 = .ok (.ifCond .eq 65, 3) := by decide +kernel
theorem dX9_nextToken_271 : decode cX9_nextToken 271 = .ok (.aload_n 0, 1) := by decide +kernel
theorem dX9_nextToken_272 : decode cX9_nextToken 272 = .ok (.aload_n 0, 1) := by decide +kernel
theorem dX9_nextToken_273 : decode cX9_nextToken 273 = .ok (.getfield 213, 3) := by decide +kernel
theorem dX9_nextToken_276 : decode cX9_nextToken 276 = .ok (.iconst 3, 1) := by decide +kernel
theorem dX9_nextToken_277 : decode cX9_nextToken 277 = .ok (.if_icmp .ge 26, 3) := by decide +kernel
theorem dX9_nextToken_280 : decode cX9_nextToken 280 = .ok (.bipush 10, 2) := by decide +kernel
theorem dX9_nextToken_282 : decode cX9_nextToken 282 = .ok (.aload_n 0, 1) := by decide +kernel
theorem dX9_nextToken_283 : decode cX9_nextToken 283 = .ok (.getfield 216, 3) := by decide +kernel
theorem dX9_nextToken_286 : decode cX9_nextToken 286 = .ok (.imul, 1) := by decide +kernel
theorem dX9_nextToken_287 : decode cX9_nextToken 287 = .ok (.aload_n 0, 1) := by decide +kernel
theorem dX9_nextToken_288 : decode cX9_nextToken 288 = .ok (.getfield 50, 3) := by decide +kernel
theorem dX9_nextToken_291 : decode cX9_nextToken 291 = .ok (.aload_n 0, 1) := by decide +kernel
theorem dX9_nextToken_292 : decode cX9_nextToken 292 = .ok (.getfield 207, 3) := by decide +kernel
theorem dX9_nextToken_295 : decode cX9_nextToken 295 = .ok (.iaload, 1) := by decide +kernel
theorem dX9_nextToken_296 : decode cX9_nextToken 296 = .ok (.iadd, 1) := by decide +kernel
theorem dX9_nextToken_297 : decode cX9_nextToken 297 = .ok (.bipush 48, 2) := by decide +kernel
theorem dX9_nextToken_299 : decode cX9_nextToken 299 = .ok (.isub, 1) := by decide +kernel
theorem dX9_nextToken_300 : decode cX9_nextToken 300 = .ok (.goto 7, 3) := by decide +kernel
theorem dX9_nextToken_303 : decode cX9_nextToken 303 = .ok (.aload_n 0, 1) := by decide +kernel
theorem dX9_nextToken_304 : decode cX9_nextToken 304 = .ok (.getfield 216, 3) := by decide +kernel
theorem dX9_nextToken_307 : decode cX9_nextToken 307 = .ok (.putfield 216, 3) := by decide +kernel
theorem dX9_nextToken_310 : decode cX9_nextToken 310 = .ok (.aload_n 0, 1) := by decide +kernel
theorem dX9_nextToken_311 : decode cX9_nextToken 311 = .ok (.dup, 1) := by decide +kernel
theorem dX9_nextToken_312 : decode cX9_nextToken 312 = .ok (.getfield 213, 3) := by decide +kernel
theorem dX9_nextToken_315 : decode cX9_nextToken 315 = .ok (.iconst 1, 1) := by decide +kernel
theorem dX9_nextToken_316 : decode cX9_nextToken 316 = .ok (.iadd, 1) := by decide +kernel
theorem dX9_nextToken_317 : decode cX9_nextToken 317 = .ok (.putfield 213, 3) := by decide +kernel
theorem dX9_nextToken_320 : decode cX9_nextToken 320 = .ok (.aload_n 0, 1) := by decide +kernel
theorem dX9_nextToken_321 : decode cX9_nextToken 321 = .ok (.dup, 1) := by decide +kernel
theorem dX9_nextToken_322 : decode cX9_nextToken 322 = .ok (.getfield 207, 3) := by decide +kernel
theorem dX9_nextToken_325 : decode cX9_nextToken 325 = .ok (.iconst 1, 1) := by decide +kernel
theorem dX9_nextToken_326 : decode cX9_nextToken 326 = .ok (.iadd, 1) := by decide +kernel
theorem dX9_nextToken_327 : decode cX9_nextToken 327 = .ok (.putfield 207, 3) := by decide +kernel
theorem dX9_nextToken_330 : decode cX9_nextToken 330 = .ok (.goto (-89), 3) := by decide +kernel
theorem dX9_nextToken_333 : decode cX9_nextToken 333 = .ok (.aload_n 0, 1) := by decide +kernel
theorem dX9_nextToken_334 : decode cX9_nextToken 334 = .ok (.aload_n 0, 1) := by decide +kernel
theorem dX9_nextToken_335 : decode cX9_nextToken 335 = .ok (.getfield 213, 3) := by decide +kernel
theorem dX9_nextToken_338 : decode cX9_nextToken 338 = .ok (.iconst 3, 1) := by decide +kernel
theorem dX9_nextToken_339 : decode cX9_nextToken 339 = .ok (.if_icmp .le 9, 3) := by decide +kernel
theorem dX9_nextToken_342 : decode cX9_nextToken 342 = .ok (.ldc2_w 229, 3) := by decide +kernel
theorem dX9_nextToken_345 : decode cX9_nextToken 345 = .ok (.goto 6, 3) := by decide +kernel
theorem dX9_nextToken_348 : decode cX9_nextToken 348 = .ok (.ldc2_w 231, 3) := by decide +kernel
theorem dX9_nextToken_351 : decode cX9_nextToken 351 = .ok (.putfield 221, 3) := by decide +kernel
theorem dX9_nextToken_354 : decode cX9_nextToken 354 = .ok (.goto 40, 3) := by decide +kernel
theorem dX9_nextToken_357 : decode cX9_nextToken 357 = .ok (.aload_n 0, 1) := by decide +kernel
theorem dX9_nextToken_358 : decode cX9_nextToken 358 = .ok (.aload_n 0, 1) := by decide +kernel
theorem dX9_nextToken_359 : decode cX9_nextToken 359 = .ok (.getfield 50, 3) := by decide +kernel
theorem dX9_nextToken_362 : decode cX9_nextToken 362 = .ok (.aload_n 0, 1) := by decide +kernel
theorem dX9_nextToken_363 : decode cX9_nextToken 363 = .ok (.getfield 207, 3) := by decide +kernel
theorem dX9_nextToken_366 : decode cX9_nextToken 366 = .ok (.iaload, 1) := by decide +kernel
theorem dX9_nextToken_367 : decode cX9_nextToken 367 = .ok (.bipush 59, 2) := by decide +kernel
theorem dX9_nextToken_369 : decode cX9_nextToken 369 = .ok (.if_icmp .ne 9, 3) := by decide +kernel
theorem dX9_nextToken_372 : decode cX9_nextToken 372 = .ok (.ldc2_w 233, 3) := by decide +kernel
theorem dX9_nextToken_375 : decode cX9_nextToken 375 = .ok (.goto 6, 3) := by decide +kernel
theorem dX9_nextToken_378 : decode cX9_nextToken 378 = .ok (.ldc2_w 229, 3) := by decide +kernel
theorem dX9_nextToken_381 : decode cX9_nextToken 381 = .ok (.putfield 221, 3) := by decide +kernel
theorem dX9_nextToken_384 : decode cX9_nextToken 384 = .ok (.aload_n 0, 1) := by decide +kernel
theorem dX9_nextToken_385 : decode cX9_nextToken 385 = .ok (.dup, 1) := by decide +kernel
theorem dX9_nextToken_386 : decode cX9_nextToken 386 = .ok (.getfield 207, 3) := by decide +kernel
theorem dX9_nextToken_389 : decode cX9_nextToken 389 = .ok (.iconst 1, 1) := by decide +kernel
theorem dX9_nextToken_390 : decode cX9_nextToken 390 = .ok (.iadd, 1) := by decide +kernel
theorem dX9_nextToken_391 : decode cX9_nextToken 391 = .ok (.putfield 207, 3) := by decide +kernel
theorem dX9_nextToken_394 : decode cX9_nextToken 394 = .ok (.return_, 1) := by decide +kernel
theorem dX9_fails_0 : decode cX9_fails 0 = .ok (.aload_n 0, 1) := by decide +kernel
theorem dX9_fails_1 : decode cX9_fails 1 = .ok (.aload_n 0, 1) := by decide +kernel
theorem dX9_fails_2 : decode cX9_fails 2 = .ok (.getfield 210, 3) := by decide +kernel
theorem dX9_fails_5 : decode cX9_fails 5 = .ok (.putfield 235, 3) := by decide +kernel
theorem dX9_fails_8 : decode cX9_fails 8 = .ok (.iconst 0, 1) := by decide +kernel
theorem dX9_fails_9 : decode cX9_fails 9 = .ok (.ireturn, 1) := by decide +kernel
theorem dX9_isOf_0 : decode cX9_isOf 0 = .ok (.aload_n 0, 1) := by decide +kernel
theorem dX9_isOf_1 : decode cX9_isOf 1 = .ok (.invokevirtual 238, 3) := by decide +kernel
theorem dX9_isOf_4 : decode cX9_isOf 4 = .ok (.aload_n 0, 1) := by decide +kernel
theorem dX9_isOf_5 : decode cX9_isOf 5 = .ok (.getfield 53, 3) := by decide +kernel
theorem dX9_isOf_8 : decode cX9_isOf 8 = .ok (.iload_n 1, 1) := by decide +kernel
theorem dX9_isOf_9 : decode cX9_isOf 9 = .ok (.aload_n 0, 1) := by decide +kernel
theorem dX9_isOf_10 : decode cX9_isOf 10 = .ok (.getfield 221, 3) := by decide +kernel
theorem dX9_isOf_13 : decode cX9_isOf 13 = .ok (.lload_n 2, 1) := by decide +kernel
theorem dX9_isOf_14 : decode cX9_isOf 14 = .ok (.lcmp, 1) := by decide +kernel
theorem dX9_isOf_15 : decode cX9_isOf 15 = .ok (.ifCond .ne 7, 3) := by decide +kernel
theorem dX9_isOf_18 : decode cX9_isOf 18 = .ok (.iconst 0, 1) := by decide +kernel
theorem dX9_isOf_19 : decode cX9_isOf 19 = .ok (.goto 32, 3) := by decide +kernel
theorem dX9_isOf_22 : decode cX9_isOf 22 = .ok (.aload_n 0, 1) := by decide +kernel
theorem dX9_isOf_23 : decode cX9_isOf 23 = .ok (.getfield 221, 3) := by decide +kernel
theorem dX9_isOf_26 : decode cX9_isOf 26 = .ok (.lload 4, 2) := by decide +kernel
theorem dX9_isOf_28 : decode cX9_isOf 28 = .ok (.lcmp, 1) := by decide +kernel
theorem dX9_isOf_29 : decode cX9_isOf 29 = .ok (.ifCond .ne 7, 3) := by decide +kernel
theorem dX9_isOf_32 : decode cX9_isOf 32 = .ok (.iconst 1, 1) := by decide +kernel
theorem dX9_isOf_33 : decode cX9_isOf 33 = .ok (.goto 18, 3) := by decide +kernel
theorem dX9_isOf_36 : decode cX9_isOf 36 = .ok (.aload_n 0, 1) := by decide +kernel
theorem dX9_isOf_37 : decode cX9_isOf 37 = .ok (.getfield 221, 3) := by decide +kernel
theorem dX9_isOf_40 : decode cX9_isOf 40 = .ok (.lload 6, 2) := by decide +kernel
theorem dX9_isOf_42 : decode cX9_isOf 42 = .ok (.lcmp, 1) := by decide +kernel
theorem dX9_isOf_43 : decode cX9_isOf 43 = .ok (.ifCond .ne 7, 3) := by decide +kernel
theorem dX9_isOf_46 : decode cX9_isOf 46 = .ok (.iconst 2, 1) := by decide +kernel
theorem dX9_isOf_47 : decode cX9_isOf 47 = .ok (.goto 4, 3) := by decide +kernel
theorem dX9_isOf_50 : decode cX9_isOf 50 = .ok (.iconst (-1), 1) := by decide +kernel
theorem dX9_isOf_51 : decode cX9_isOf 51 = .ok (.iastore, 1) := by decide +kernel
theorem dX9_isOf_52 : decode cX9_isOf 52 = .ok (.aload_n 0, 1) := by decide +kernel
theorem dX9_isOf_53 : decode cX9_isOf 53 = .ok (.getfield 53, 3) := by decide +kernel
theorem dX9_isOf_56 : decode cX9_isOf 56 = .ok (.iload_n 1, 1) := by decide +kernel
theorem dX9_isOf_57 : decode cX9_isOf 57 = .ok (.iaload, 1) := by decide +kernel
theorem dX9_isOf_58 : decode cX9_isOf 58 = .ok (.iconst (-1), 1) := by decide +kernel
theorem dX9_isOf_59 : decode cX9_isOf 59 = .ok (.if_icmp .ne 10, 3) := by decide +kernel
theorem dX9_isOf_62 : decode cX9_isOf 62 = .ok (.aload_n 0, 1) := by decide +kernel
theorem dX9_isOf_63 : decode cX9_isOf 63 = .ok (.invokevirtual 241, 3) := by decide +kernel
theorem dX9_isOf_66 : decode cX9_isOf 66 = .ok (.ifCond .eq 7, 3) := by decide +kernel
theorem dX9_isOf_69 : decode cX9_isOf 69 = .ok (.iconst 1, 1) := by decide +kernel
theorem dX9_isOf_70 : decode cX9_isOf 70 = .ok (.goto 4, 3) := by decide +kernel
theorem dX9_isOf_73 : decode cX9_isOf 73 = .ok (.iconst 0, 1) := by decide +kernel
theorem dX9_isOf_74 : decode cX9_isOf 74 = .ok (.ireturn, 1) := by decide +kernel
theorem dX9_isLine_0 : decode cX9_isLine 0 = .ok (.aload_n 0, 1) := by decide +kernel
theorem dX9_isLine_1 : decode cX9_isLine 1 = .ok (.invokevirtual 238, 3) := by decide +kernel
theorem dX9_isLine_4 : decode cX9_isLine 4 = .ok (.aload_n 0, 1) := by decide +kernel
theorem dX9_isLine_5 : decode cX9_isLine 5 = .ok (.getfield 221, 3) := by decide +kernel
theorem dX9_isLine_8 : decode cX9_isLine 8 = .ok (.ldc2_w 245, 3) := by decide +kernel
theorem dX9_isLine_11 : decode cX9_isLine 11 = .ok (.lcmp, 1) := by decide +kernel
theorem dX9_isLine_12 : decode cX9_isLine 12 = .ok (.ifCond .eq 14, 3) := by decide +kernel
theorem dX9_isLine_15 : decode cX9_isLine 15 = .ok (.aload_n 0, 1) := by decide +kernel
theorem dX9_isLine_16 : decode cX9_isLine 16 = .ok (.getfield 221, 3) := by decide +kernel
theorem dX9_isLine_19 : decode cX9_isLine 19 = .ok (.ldc2_w 247, 3) := by decide +kernel
theorem dX9_isLine_22 : decode cX9_isLine 22 = .ok (.lcmp, 1) := by decide +kernel
theorem dX9_isLine_23 : decode cX9_isLine 23 = .ok (.ifCond .ne 27, 3) := by decide +kernel
theorem dX9_isLine_26 : decode cX9_isLine 26 = .ok (.aload_n 0, 1) := by decide +kernel
theorem dX9_isLine_27 : decode cX9_isLine 27 = .ok (.getfield 53, 3) := by decide +kernel
theorem dX9_isLine_30 : decode cX9_isLine 30 = .ok (.iconst 0, 1) := by decide +kernel
theorem dX9_isLine_31 : decode cX9_isLine 31 = .ok (.aload_n 0, 1) := by decide +kernel
theorem dX9_isLine_32 : decode cX9_isLine 32 = .ok (.getfield 221, 3) := by decide +kernel
theorem dX9_isLine_35 : decode cX9_isLine 35 = .ok (.ldc2_w 245, 3) := by decide +kernel
theorem dX9_isLine_38 : decode cX9_isLine 38 = .ok (.lcmp, 1) := by decide +kernel
theorem dX9_isLine_39 : decode cX9_isLine 39 = .ok (.ifCond .ne 7, 3) := by decide +kernel
theorem dX9_isLine_42 : decode cX9_isLine 42 = .ok (.iconst 0, 1) := by decide +kernel
theorem dX9_isLine_43 : decode cX9_isLine 43 = .ok (.goto 4, 3) := by decide +kernel
theorem dX9_isLine_46 : decode cX9_isLine 46 = .ok (.iconst 1, 1) := by decide +kernel
theorem dX9_isLine_47 : decode cX9_isLine 47 = .ok (.iastore, 1) := by decide +kernel
theorem dX9_isLine_48 : decode cX9_isLine 48 = .ok (.iconst 1, 1) := by decide +kernel
theorem dX9_isLine_49 : decode cX9_isLine 49 = .ok (.ireturn, 1) := by decide +kernel
theorem dX9_isLine_50 : decode cX9_isLine 50 = .ok (.aload_n 0, 1) := by decide +kernel
theorem dX9_isLine_51 : decode cX9_isLine 51 = .ok (.getfield 221, 3) := by decide +kernel
theorem dX9_isLine_54 : decode cX9_isLine 54 = .ok (.ldc2_w 249, 3) := by decide +kernel
theorem dX9_isLine_57 : decode cX9_isLine 57 = .ok (.lcmp, 1) := by decide +kernel
theorem dX9_isLine_58 : decode cX9_isLine 58 = .ok (.ifCond .ne 18, 3) := by decide +kernel
theorem dX9_isLine_61 : decode cX9_isLine 61 = .ok (.aload_n 0, 1) := by decide +kernel
theorem dX9_isLine_62 : decode cX9_isLine 62 = .ok (.iconst 1, 1) := by decide +kernel
theorem dX9_isLine_63 : decode cX9_isLine 63 = .ok (.ldc2_w 251, 3) := by decide +kernel
theorem dX9_isLine_66 : decode cX9_isLine 66 = .ok (.ldc2_w 253, 3) := by decide +kernel
theorem dX9_isLine_69 : decode cX9_isLine 69 = .ok (.ldc2_w 253, 3) := by decide +kernel
theorem dX9_isLine_72 : decode cX9_isLine 72 = .ok (.invokevirtual 255, 3) := by decide +kernel
theorem dX9_isLine_75 : decode cX9_isLine 75 = .ok (.ireturn, 1) := by decide +kernel
theorem dX9_isLine_76 : decode cX9_isLine 76 = .ok (.aload_n 0, 1) := by decide +kernel
theorem dX9_isLine_77 : decode cX9_isLine 77 = .ok (.getfield 221, 3) := by decide +kernel
theorem dX9_isLine_80 : decode cX9_isLine 80 = .ok (.ldc2_w 259, 3) := by decide +kernel
theorem dX9_isLine_83 : decode cX9_isLine 83 = .ok (.lcmp, 1) := by decide +kernel
theorem dX9_isLine_84 : decode cX9_isLine 84 = .ok (.ifCond .ne 41, 3) := by decide +kernel
theorem dX9_isLine_87 : decode cX9_isLine 87 = .ok (.aload_n 0, 1) := by decide +kernel
theorem dX9_isLine_88 : decode cX9_isLine 88 = .ok (.invokevirtual 238, 3) := by decide +kernel
theorem dX9_isLine_91 : decode cX9_isLine 91 = .ok (.aload_n 0, 1) := by decide +kernel
theorem dX9_isLine_92 : decode cX9_isLine 92 = .ok (.getfield 53, 3) := by decide +kernel
theorem dX9_isLine_95 : decode cX9_isLine 95 = .ok (.iconst 2, 1) := by decide +kernel
theorem dX9_isLine_96 : decode cX9_isLine 96 = .ok (.aload_n 0, 1) := by decide +kernel
theorem dX9_isLine_97 : decode cX9_isLine 97 = .ok (.getfield 216, 3) := by decide +kernel
theorem dX9_isLine_100 : decode cX9_isLine 100 = .ok (.iastore, 1) := by decide +kernel
theorem dX9_isLine_101 : decode cX9_isLine 101 = .ok (.aload_n 0, 1) := by decide +kernel
theorem dX9_isLine_102 : decode cX9_isLine 102 = .ok (.getfield 221, 3) := by decide +kernel
theorem dX9_isLine_105 : decode cX9_isLine 105 = .ok (.ldc2_w 231, 3) := by decide +kernel
theorem dX9_isLine_108 : decode cX9_isLine 108 = .ok (.lcmp, 1) := by decide +kernel
theorem dX9_isLine_109 : decode cX9_isLine 109 = .ok (.ifCond .eq 10, 3) := by decide +kernel
theorem dX9_isLine_112 : decode cX9_isLine 112 = .ok (.aload_n 0, 1) := by decide +kernel
theorem dX9_isLine_113 : decode cX9_isLine 113 = .ok (.invokevirtual 241, 3) := by decide +kernel
theorem dX9_isLine_116 : decode cX9_isLine 116 = .ok (.ifCond .eq 7, 3) := by decide +kernel
theorem dX9_isLine_119 : decode cX9_isLine 119 = .ok (.iconst 1, 1) := by decide +kernel
theorem dX9_isLine_120 : decode cX9_isLine 120 = .ok (.goto 4, 3) := by decide +kernel
theorem dX9_isLine_123 : decode cX9_isLine 123 = .ok (.iconst 0, 1) := by decide +kernel
theorem dX9_isLine_124 : decode cX9_isLine 124 = .ok (.ireturn, 1) := by decide +kernel
theorem dX9_isLine_125 : decode cX9_isLine 125 = .ok (.aload_n 0, 1) := by decide +kernel
theorem dX9_isLine_126 : decode cX9_isLine 126 = .ok (.getfield 221, 3) := by decide +kernel
theorem dX9_isLine_129 : decode cX9_isLine 129 = .ok (.ldc2_w 261, 3) := by decide +kernel
theorem dX9_isLine_132 : decode cX9_isLine 132 = .ok (.lcmp, 1) := by decide +kernel
theorem dX9_isLine_133 : decode cX9_isLine 133 = .ok (.ifCond .ne 18, 3) := by decide +kernel
theorem dX9_isLine_136 : decode cX9_isLine 136 = .ok (.aload_n 0, 1) := by decide +kernel
theorem dX9_isLine_137 : decode cX9_isLine 137 = .ok (.iconst 3, 1) := by decide +kernel
theorem dX9_isLine_138 : decode cX9_isLine 138 = .ok (.ldc2_w 263, 3) := by decide +kernel
theorem dX9_isLine_141 : decode cX9_isLine 141 = .ok (.ldc2_w 265, 3) := by decide +kernel
theorem dX9_isLine_144 : decode cX9_isLine 144 = .ok (.ldc2_w 267, 3) := by decide +kernel
theorem dX9_isLine_147 : decode cX9_isLine 147 = .ok (.invokevirtual 255, 3) := by decide +kernel
theorem dX9_isLine_150 : decode cX9_isLine 150 = .ok (.ireturn, 1) := by decide +kernel
theorem dX9_isLine_151 : decode cX9_isLine 151 = .ok (.aload_n 0, 1) := by decide +kernel
theorem dX9_isLine_152 : decode cX9_isLine 152 = .ok (.getfield 221, 3) := by decide +kernel
theorem dX9_isLine_155 : decode cX9_isLine 155 = .ok (.ldc2_w 269, 3) := by decide +kernel
theorem dX9_isLine_158 : decode cX9_isLine 158 = .ok (.lcmp, 1) := by decide +kernel
theorem dX9_isLine_159 : decode cX9_isLine 159 = .ok (.ifCond .ne 20, 3) := by decide +kernel
theorem dX9_isLine_162 : decode cX9_isLine 162 = .ok (.aload_n 0, 1) := by decide +kernel
theorem dX9_isLine_163 : decode cX9_isLine 163 = .ok (.iconst 4, 1) := by decide +kernel
theorem dX9_isLine_164 : decode cX9_isLine 164 = .ok (.ldc2_w 271, 3) := by decide +kernel
theorem dX9_isLine_167 : decode cX9_isLine 167 = .ok (.ldc2_w 273, 3) := by decide +kernel
theorem dX9_isLine_170 : decode cX9_isLine 170 = .ok (.ldc2_w 275, 3) := by decide +kernel
theorem dX9_isLine_173 : decode cX9_isLine 173 = .ok (.invokevirtual 255, 3) := by decide +kernel
theorem dX9_isLine_176 : decode cX9_isLine 176 = .ok (.goto 7, 3) := by decide +kernel
theorem dX9_isLine_179 : decode cX9_isLine 179 = .ok (.aload_n 0, 1) := by decide +kernel
theorem dX9_isLine_180 : decode cX9_isLine 180 = .ok (.invokevirtual 241, 3) := by decide +kernel
theorem dX9_isLine_183 : decode cX9_isLine 183 = .ok (.ireturn, 1) := by decide +kernel
theorem dX9_isRead_0 : decode cX9_isRead 0 = .ok (.aload_n 0, 1) := by decide +kernel
theorem dX9_isRead_1 : decode cX9_isRead 1 = .ok (.iconst 0, 1) := by decide +kernel
theorem dX9_isRead_2 : decode cX9_isRead 2 = .ok (.putfield 207, 3) := by decide +kernel
theorem dX9_isRead_5 : decode cX9_isRead 5 = .ok (.aload_n 0, 1) := by decide +kernel
theorem dX9_isRead_6 : decode cX9_isRead 6 = .ok (.iconst 0, 1) := by decide +kernel
theorem dX9_isRead_7 : decode cX9_isRead 7 = .ok (.putfield 277, 3) := by decide +kernel
theorem dX9_isRead_10 : decode cX9_isRead 10 = .ok (.aload_n 0, 1) := by decide +kernel
theorem dX9_isRead_11 : decode cX9_isRead 11 = .ok (.getfield 53, 3) := by decide +kernel
theorem dX9_isRead_14 : decode cX9_isRead 14 = .ok (.invokestatic 141, 3) := by decide +kernel
theorem dX9_isRead_17 : decode cX9_isRead 17 = .ok (.iconst 1, 1) := by decide +kernel
theorem dX9_isRead_18 : decode cX9_isRead 18 = .ok (.istore_n 1, 1) := by decide +kernel
theorem dX9_isRead_19 : decode cX9_isRead 19 = .ok (.iload_n 1, 1) := by decide +kernel
theorem dX9_isRead_20 : decode cX9_isRead 20 = .ok (.ifCond .eq 55, 3) := by decide +kernel
theorem dX9_isRead_23 : decode cX9_isRead 23 = .ok (.aload_n 0, 1) := by decide +kernel
theorem dX9_isRead_24 : decode cX9_isRead 24 = .ok (.invokevirtual 280, 3) := by decide +kernel
theorem dX9_isRead_27 : decode cX9_isRead 27 = .ok (.ifCond .ne 5, 3) := by decide +kernel
theorem dX9_isRead_30 : decode cX9_isRead 30 = .ok (.iconst 0, 1) := by decide +kernel
theorem dX9_isRead_31 : decode cX9_isRead 31 = .ok (.ireturn, 1) := by decide +kernel
theorem dX9_isRead_32 : decode cX9_isRead 32 = .ok (.aload_n 0, 1) := by decide +kernel
theorem dX9_isRead_33 : decode cX9_isRead 33 = .ok (.dup, 1) := by decide +kernel
theorem dX9_isRead_34 : decode cX9_isRead 34 = .ok (.getfield 277, 3) := by decide +kernel
theorem dX9_isRead_37 : decode cX9_isRead 37 = .ok (.iconst 1, 1) := by decide +kernel
theorem dX9_isRead_38 : decode cX9_isRead 38 = .ok (.iadd, 1) := by decide +kernel
theorem dX9_isRead_39 : decode cX9_isRead 39 = .ok (.putfield 277, 3) := by decide +kernel
theorem dX9_isRead_42 : decode cX9_isRead 42 = .ok (.aload_n 0, 1) := by decide +kernel
theorem dX9_isRead_43 : decode cX9_isRead 43 = .ok (.invokevirtual 238, 3) := by decide +kernel
theorem dX9_isRead_46 : decode cX9_isRead 46 = .ok (.aload_n 0, 1) := by decide +kernel
theorem dX9_isRead_47 : decode cX9_isRead 47 = .ok (.getfield 221, 3) := by decide +kernel
theorem dX9_isRead_50 : decode cX9_isRead 50 = .ok (.ldc2_w 233, 3) := by decide +kernel
theorem dX9_isRead_53 : decode cX9_isRead 53 = .ok (.lcmp, 1) := by decide +kernel
theorem dX9_isRead_54 : decode cX9_isRead 54 = .ok (.ifCond .ne 16, 3) := by decide +kernel
theorem dX9_isRead_57 : decode cX9_isRead 57 = .ok (.aload_n 0, 1) := by decide +kernel
theorem dX9_isRead_58 : decode cX9_isRead 58 = .ok (.getfield 277, 3) := by decide +kernel
theorem dX9_isRead_61 : decode cX9_isRead 61 = .ok (.bipush 8, 2) := by decide +kernel
theorem dX9_isRead_63 : decode cX9_isRead 63 = .ok (.if_icmp .ge 7, 3) := by decide +kernel
theorem dX9_isRead_66 : decode cX9_isRead 66 = .ok (.iconst 1, 1) := by decide +kernel
theorem dX9_isRead_67 : decode cX9_isRead 67 = .ok (.goto 4, 3) := by decide +kernel
theorem dX9_isRead_70 : decode cX9_isRead 70 = .ok (.iconst 0, 1) := by decide +kernel
theorem dX9_isRead_71 : decode cX9_isRead 71 = .ok (.istore_n 1, 1) := by decide +kernel
theorem dX9_isRead_72 : decode cX9_isRead 72 = .ok (.goto (-53), 3) := by decide +kernel
theorem dX9_isRead_75 : decode cX9_isRead 75 = .ok (.aload_n 0, 1) := by decide +kernel
theorem dX9_isRead_76 : decode cX9_isRead 76 = .ok (.getfield 221, 3) := by decide +kernel
theorem dX9_isRead_79 : decode cX9_isRead 79 = .ok (.ldc2_w 219, 3) := by decide +kernel
theorem dX9_isRead_82 : decode cX9_isRead 82 = .ok (.lcmp, 1) := by decide +kernel
theorem dX9_isRead_83 : decode cX9_isRead 83 = .ok (.ifCond .eq 10, 3) := by decide +kernel
theorem dX9_isRead_86 : decode cX9_isRead 86 = .ok (.aload_n 0, 1) := by decide +kernel
theorem dX9_isRead_87 : decode cX9_isRead 87 = .ok (.invokevirtual 241, 3) := by decide +kernel
theorem dX9_isRead_90 : decode cX9_isRead 90 = .ok (.ifCond .eq 7, 3) := by decide +kernel
theorem dX9_isRead_93 : decode cX9_isRead 93 = .ok (.iconst 1, 1) := by decide +kernel
theorem dX9_isRead_94 : decode cX9_isRead 94 = .ok (.goto 4, 3) := by decide +kernel
theorem dX9_isRead_97 : decode cX9_isRead 97 = .ok (.iconst 0, 1) := by decide +kernel
theorem dX9_isRead_98 : decode cX9_isRead 98 = .ok (.ireturn, 1) := by decide +kernel
theorem dX9_fault_0 : decode cX9_fault 0 = .ok (.aload_n 0, 1) := by decide +kernel
theorem dX9_fault_1 : decode cX9_fault 1 = .ok (.invokevirtual 283, 3) := by decide +kernel
theorem dX9_fault_4 : decode cX9_fault 4 = .ok (.ifCond .eq 7, 3) := by decide +kernel
theorem dX9_fault_7 : decode cX9_fault 7 = .ok (.iconst (-1), 1) := by decide +kernel
theorem dX9_fault_8 : decode cX9_fault 8 = .ok (.goto 7, 3) := by decide +kernel
theorem dX9_fault_11 : decode cX9_fault 11 = .ok (.aload_n 0, 1) := by decide +kernel
theorem dX9_fault_12 : decode cX9_fault 12 = .ok (.getfield 235, 3) := by decide +kernel
theorem dX9_fault_15 : decode cX9_fault 15 = .ok (.ireturn, 1) := by decide +kernel
theorem dX9_rules_0 : decode cX9_rules 0 = .ok (.aload_n 0, 1) := by decide +kernel
theorem dX9_rules_1 : decode cX9_rules 1 = .ok (.invokevirtual 283, 3) := by decide +kernel
theorem dX9_rules_4 : decode cX9_rules 4 = .ok (.ifCond .ne 6, 3) := by decide +kernel
theorem dX9_rules_7 : decode cX9_rules 7 = .ok (.bipush (-4), 2) := by decide +kernel
theorem dX9_rules_9 : decode cX9_rules 9 = .ok (.ireturn, 1) := by decide +kernel
theorem dX9_rules_10 : decode cX9_rules 10 = .ok (.iconst 0, 1) := by decide +kernel
theorem dX9_rules_11 : decode cX9_rules 11 = .ok (.istore_n 1, 1) := by decide +kernel
theorem dX9_rules_12 : decode cX9_rules 12 = .ok (.iload_n 1, 1) := by decide +kernel
theorem dX9_rules_13 : decode cX9_rules 13 = .ok (.iconst 5, 1) := by decide +kernel
theorem dX9_rules_14 : decode cX9_rules 14 = .ok (.if_icmp .ge 21, 3) := by decide +kernel
theorem dX9_rules_17 : decode cX9_rules 17 = .ok (.aload_n 0, 1) := by decide +kernel
theorem dX9_rules_18 : decode cX9_rules 18 = .ok (.getfield 56, 3) := by decide +kernel
theorem dX9_rules_21 : decode cX9_rules 21 = .ok (.iload_n 1, 1) := by decide +kernel
theorem dX9_rules_22 : decode cX9_rules 22 = .ok (.aload_n 0, 1) := by decide +kernel
theorem dX9_rules_23 : decode cX9_rules 23 = .ok (.getfield 53, 3) := by decide +kernel
theorem dX9_rules_26 : decode cX9_rules 26 = .ok (.iload_n 1, 1) := by decide +kernel
theorem dX9_rules_27 : decode cX9_rules 27 = .ok (.iaload, 1) := by decide +kernel
theorem dX9_rules_28 : decode cX9_rules 28 = .ok (.iastore, 1) := by decide +kernel
theorem dX9_rules_29 : decode cX9_rules 29 = .ok (.iinc 1 1, 3) := by decide +kernel
theorem dX9_rules_32 : decode cX9_rules 32 = .ok (.goto (-20), 3) := by decide +kernel
theorem dX9_rules_35 : decode cX9_rules 35 = .ok (.aload_n 0, 1) := by decide +kernel
theorem dX9_rules_36 : decode cX9_rules 36 = .ok (.iconst 0, 1) := by decide +kernel
theorem dX9_rules_37 : decode cX9_rules 37 = .ok (.putfield 202, 3) := by decide +kernel
theorem dX9_rules_40 : decode cX9_rules 40 = .ok (.aload_n 0, 1) := by decide +kernel
theorem dX9_rules_41 : decode cX9_rules 41 = .ok (.getfield 277, 3) := by decide +kernel
theorem dX9_rules_44 : decode cX9_rules 44 = .ok (.ireturn, 1) := by decide +kernel
theorem dX9_rule_0 : decode cX9_rule 0 = .ok (.iload_n 1, 1) := by decide +kernel
theorem dX9_rule_1 : decode cX9_rule 1 = .ok (.iconst 0, 1) := by decide +kernel
theorem dX9_rule_2 : decode cX9_rule 2 = .ok (.iconst 4, 1) := by decide +kernel
theorem dX9_rule_3 : decode cX9_rule 3 = .ok (.invokestatic 148, 3) := by decide +kernel
theorem dX9_rule_6 : decode cX9_rule 6 = .ok (.ifCond .eq 12, 3) := by decide +kernel
theorem dX9_rule_9 : decode cX9_rule 9 = .ok (.aload_n 0, 1) := by decide +kernel
theorem dX9_rule_10 : decode cX9_rule 10 = .ok (.getfield 56, 3) := by decide +kernel
theorem dX9_rule_13 : decode cX9_rule 13 = .ok (.iload_n 1, 1) := by decide +kernel
theorem dX9_rule_14 : decode cX9_rule 14 = .ok (.iaload, 1) := by decide +kernel
theorem dX9_rule_15 : decode cX9_rule 15 = .ok (.goto 5, 3) := by decide +kernel
theorem dX9_rule_18 : decode cX9_rule 18 = .ok (.bipush (-3), 2) := by decide +kernel
theorem dX9_rule_20 : decode cX9_rule 20 = .ok (.ireturn, 1) := by decide +kernel
theorem dX9_pact_0 : decode cX9_pact 0 = .ok (.aload_n 0, 1) := by decide +kernel
theorem dX9_pact_1 : decode cX9_pact 1 = .ok (.iload_n 2, 1) := by decide +kernel
theorem dX9_pact_2 : decode cX9_pact 2 = .ok (.invokevirtual 187, 3) := by decide +kernel
theorem dX9_pact_5 : decode cX9_pact 5 = .ok (.ifCond .eq 23, 3) := by decide +kernel
theorem dX9_pact_8 : decode cX9_pact 8 = .ok (.iload_n 3, 1) := by decide +kernel
theorem dX9_pact_9 : decode cX9_pact 9 = .ok (.invokestatic 286, 3) := by decide +kernel
theorem dX9_pact_12 : decode cX9_pact 12 = .ok (.ifCond .eq 16, 3) := by decide +kernel
theorem dX9_pact_15 : decode cX9_pact 15 = .ok (.iload_n 1, 1) := by decide +kernel
theorem dX9_pact_16 : decode cX9_pact 16 = .ok (.ifCond .ne 15, 3) := by decide +kernel
theorem dX9_pact_19 : decode cX9_pact 19 = .ok (.aload_n 0, 1) := by decide +kernel
theorem dX9_pact_20 : decode cX9_pact 20 = .ok (.iload 4, 2) := by decide +kernel
theorem dX9_pact_22 : decode cX9_pact 22 = .ok (.invokevirtual 190, 3) := by decide +kernel
theorem dX9_pact_25 : decode cX9_pact 25 = .ok (.ifCond .ne 6, 3) := by decide +kernel
theorem dX9_pact_28 : decode cX9_pact 28 = .ok (.bipush (-2), 2) := by decide +kernel
theorem dX9_pact_30 : decode cX9_pact 30 = .ok (.ireturn, 1) := by decide +kernel
theorem dX9_pact_31 : decode cX9_pact 31 = .ok (.iload_n 1, 1) := by decide +kernel
theorem dX9_pact_32 : decode cX9_pact 32 = .ok (.iconst 0, 1) := by decide +kernel
theorem dX9_pact_33 : decode cX9_pact 33 = .ok (.iconst 2, 1) := by decide +kernel
theorem dX9_pact_34 : decode cX9_pact 34 = .ok (.invokestatic 148, 3) := by decide +kernel
theorem dX9_pact_37 : decode cX9_pact 37 = .ok (.ifCond .eq 11, 3) := by decide +kernel
theorem dX9_pact_40 : decode cX9_pact 40 = .ok (.iload 5, 2) := by decide +kernel
theorem dX9_pact_42 : decode cX9_pact 42 = .ok (.invokestatic 165, 3) := by decide +kernel
theorem dX9_pact_45 : decode cX9_pact 45 = .ok (.ifCond .ne 6, 3) := by decide +kernel
theorem dX9_pact_48 : decode cX9_pact 48 = .ok (.bipush (-3), 2) := by decide +kernel
theorem dX9_pact_50 : decode cX9_pact 50 = .ok (.ireturn, 1) := by decide +kernel
theorem dX9_pact_51 : decode cX9_pact 51 = .ok (.aload_n 0, 1) := by decide +kernel
theorem dX9_pact_52 : decode cX9_pact 52 = .ok (.iload 5, 2) := by decide +kernel
theorem dX9_pact_54 : decode cX9_pact 54 = .ok (.invokevirtual 183, 3) := by decide +kernel
theorem dX9_pact_57 : decode cX9_pact 57 = .ok (.istore 6, 2) := by decide +kernel
theorem dX9_pact_59 : decode cX9_pact 59 = .ok (.aload_n 0, 1) := by decide +kernel
theorem dX9_pact_60 : decode cX9_pact 60 = .ok (.iload_n 2, 1) := by decide +kernel
theorem dX9_pact_61 : decode cX9_pact 61 = .ok (.iload 6, 2) := by decide +kernel
theorem dX9_pact_63 : decode cX9_pact 63 = .ok (.invokevirtual 172, 3) := by decide +kernel
theorem dX9_pact_66 : decode cX9_pact 66 = .ok (.ifCond .eq 24, 3) := by decide +kernel
theorem dX9_pact_69 : decode cX9_pact 69 = .ok (.iload_n 1, 1) := by decide +kernel
theorem dX9_pact_70 : decode cX9_pact 70 = .ok (.ifCond .ne 23, 3) := by decide +kernel
theorem dX9_pact_73 : decode cX9_pact 73 = .ok (.aload_n 0, 1) := by decide +kernel
theorem dX9_pact_74 : decode cX9_pact 74 = .ok (.getfield 44, 3) := by decide +kernel
theorem dX9_pact_77 : decode cX9_pact 77 = .ok (.bipush 8, 2) := by decide +kernel
theorem dX9_pact_79 : decode cX9_pact 79 = .ok (.iload 6, 2) := by decide +kernel
theorem dX9_pact_81 : decode cX9_pact 81 = .ok (.imul, 1) := by decide +kernel
theorem dX9_pact_82 : decode cX9_pact 82 = .ok (.iload 4, 2) := by decide +kernel
theorem dX9_pact_84 : decode cX9_pact 84 = .ok (.iadd, 1) := by decide +kernel
theorem dX9_pact_85 : decode cX9_pact 85 = .ok (.iaload, 1) := by decide +kernel
theorem dX9_pact_86 : decode cX9_pact 86 = .ok (.iload_n 2, 1) := by decide +kernel
theorem dX9_pact_87 : decode cX9_pact 87 = .ok (.if_icmp .eq 6, 3) := by decide +kernel
theorem dX9_pact_90 : decode cX9_pact 90 = .ok (.bipush (-4), 2) := by decide +kernel
theorem dX9_pact_92 : decode cX9_pact 92 = .ok (.ireturn, 1) := by decide +kernel
theorem dX9_pact_93 : decode cX9_pact 93 = .ok (.aload_n 0, 1) := by decide +kernel
theorem dX9_pact_94 : decode cX9_pact 94 = .ok (.getfield 159, 3) := by decide +kernel
theorem dX9_pact_97 : decode cX9_pact 97 = .ok (.bipush 12, 2) := by decide +kernel
theorem dX9_pact_99 : decode cX9_pact 99 = .ok (.if_icmp .ne 6, 3) := by decide +kernel
theorem dX9_pact_102 : decode cX9_pact 102 = .ok (.bipush (-5), 2) := by decide +kernel
theorem dX9_pact_104 : decode cX9_pact 104 = .ok (.ireturn, 1) := by decide +kernel
theorem dX9_pact_105 : decode cX9_pact 105 = .ok (.aload_n 0, 1) := by decide +kernel
theorem dX9_pact_106 : decode cX9_pact 106 = .ok (.getfield 59, 3) := by decide +kernel
theorem dX9_pact_109 : decode cX9_pact 109 = .ok (.aload_n 0, 1) := by decide +kernel
theorem dX9_pact_110 : decode cX9_pact 110 = .ok (.getfield 159, 3) := by decide +kernel
theorem dX9_pact_113 : decode cX9_pact 113 = .ok (.iload_n 1, 1) := by decide +kernel
theorem dX9_pact_114 : decode cX9_pact 114 = .ok (.iastore, 1) := by decide +kernel
theorem dX9_pact_115 : decode cX9_pact 115 = .ok (.aload_n 0, 1) := by decide +kernel
theorem dX9_pact_116 : decode cX9_pact 116 = .ok (.getfield 62, 3) := by decide +kernel
theorem dX9_pact_119 : decode cX9_pact 119 = .ok (.aload_n 0, 1) := by decide +kernel
theorem dX9_pact_120 : decode cX9_pact 120 = .ok (.getfield 159, 3) := by decide +kernel
theorem dX9_pact_123 : decode cX9_pact 123 = .ok (.iload_n 2, 1) := by decide +kernel
theorem dX9_pact_124 : decode cX9_pact 124 = .ok (.iastore, 1) := by decide +kernel
theorem dX9_pact_125 : decode cX9_pact 125 = .ok (.aload_n 0, 1) := by decide +kernel
theorem dX9_pact_126 : decode cX9_pact 126 = .ok (.getfield 65, 3) := by decide +kernel
theorem dX9_pact_129 : decode cX9_pact 129 = .ok (.aload_n 0, 1) := by decide +kernel
theorem dX9_pact_130 : decode cX9_pact 130 = .ok (.getfield 159, 3) := by decide +kernel
theorem dX9_pact_133 : decode cX9_pact 133 = .ok (.iload_n 3, 1) := by decide +kernel
theorem dX9_pact_134 : decode cX9_pact 134 = .ok (.iastore, 1) := by decide +kernel
theorem dX9_pact_135 : decode cX9_pact 135 = .ok (.aload_n 0, 1) := by decide +kernel
theorem dX9_pact_136 : decode cX9_pact 136 = .ok (.getfield 68, 3) := by decide +kernel
theorem dX9_pact_139 : decode cX9_pact 139 = .ok (.aload_n 0, 1) := by decide +kernel
theorem dX9_pact_140 : decode cX9_pact 140 = .ok (.getfield 159, 3) := by decide +kernel
theorem dX9_pact_143 : decode cX9_pact 143 = .ok (.iload 4, 2) := by decide +kernel
theorem dX9_pact_145 : decode cX9_pact 145 = .ok (.iastore, 1) := by decide +kernel
theorem dX9_pact_146 : decode cX9_pact 146 = .ok (.aload_n 0, 1) := by decide +kernel
theorem dX9_pact_147 : decode cX9_pact 147 = .ok (.getfield 71, 3) := by decide +kernel
theorem dX9_pact_150 : decode cX9_pact 150 = .ok (.aload_n 0, 1) := by decide +kernel
theorem dX9_pact_151 : decode cX9_pact 151 = .ok (.getfield 159, 3) := by decide +kernel
theorem dX9_pact_154 : decode cX9_pact 154 = .ok (.iload 5, 2) := by decide +kernel
theorem dX9_pact_156 : decode cX9_pact 156 = .ok (.iastore, 1) := by decide +kernel
theorem dX9_pact_157 : decode cX9_pact 157 = .ok (.aload_n 0, 1) := by decide +kernel
theorem dX9_pact_158 : decode cX9_pact 158 = .ok (.dup, 1) := by decide +kernel
theorem dX9_pact_159 : decode cX9_pact 159 = .ok (.getfield 159, 3) := by decide +kernel
theorem dX9_pact_162 : decode cX9_pact 162 = .ok (.iconst 1, 1) := by decide +kernel
theorem dX9_pact_163 : decode cX9_pact 163 = .ok (.iadd, 1) := by decide +kernel
theorem dX9_pact_164 : decode cX9_pact 164 = .ok (.putfield 159, 3) := by decide +kernel
theorem dX9_pact_167 : decode cX9_pact 167 = .ok (.aload_n 0, 1) := by decide +kernel
theorem dX9_pact_168 : decode cX9_pact 168 = .ok (.getfield 159, 3) := by decide +kernel
theorem dX9_pact_171 : decode cX9_pact 171 = .ok (.iconst 1, 1) := by decide +kernel
theorem dX9_pact_172 : decode cX9_pact 172 = .ok (.isub, 1) := by decide +kernel
theorem dX9_pact_173 : decode cX9_pact 173 = .ok (.ireturn, 1) := by decide +kernel
theorem dX9_isPact_0 : decode cX9_isPact 0 = .ok (.iload_n 1, 1) := by decide +kernel
theorem dX9_isPact_1 : decode cX9_isPact 1 = .ok (.iconst 0, 1) := by decide +kernel
theorem dX9_isPact_2 : decode cX9_isPact 2 = .ok (.aload_n 0, 1) := by decide +kernel
theorem dX9_isPact_3 : decode cX9_isPact 3 = .ok (.getfield 159, 3) := by decide +kernel
theorem dX9_isPact_6 : decode cX9_isPact 6 = .ok (.iconst 1, 1) := by decide +kernel
theorem dX9_isPact_7 : decode cX9_isPact 7 = .ok (.isub, 1) := by decide +kernel
theorem dX9_isPact_8 : decode cX9_isPact 8 = .ok (.invokestatic 148, 3) := by decide +kernel
theorem dX9_isPact_11 : decode cX9_isPact 11 = .ok (.ireturn, 1) := by decide +kernel
theorem dX9_word_0 : decode cX9_word 0 = .ok (.aload_n 0, 1) := by decide +kernel
theorem dX9_word_1 : decode cX9_word 1 = .ok (.iload_n 1, 1) := by decide +kernel
theorem dX9_word_2 : decode cX9_word 2 = .ok (.invokevirtual 289, 3) := by decide +kernel
theorem dX9_word_5 : decode cX9_word 5 = .ok (.ifCond .eq 11, 3) := by decide +kernel
theorem dX9_word_8 : decode cX9_word 8 = .ok (.aload_n 0, 1) := by decide +kernel
theorem dX9_word_9 : decode cX9_word 9 = .ok (.iload_n 2, 1) := by decide +kernel
theorem dX9_word_10 : decode cX9_word 10 = .ok (.invokevirtual 187, 3) := by decide +kernel
theorem dX9_word_13 : decode cX9_word 13 = .ok (.ifCond .ne 6, 3) := by decide +kernel
theorem dX9_word_16 : decode cX9_word 16 = .ok (.bipush (-2), 2) := by decide +kernel
theorem dX9_word_18 : decode cX9_word 18 = .ok (.ireturn, 1) := by decide +kernel
theorem dX9_word_19 : decode cX9_word 19 = .ok (.iload 5, 2) := by decide +kernel
theorem dX9_word_21 : decode cX9_word 21 = .ok (.invokestatic 165, 3) := by decide +kernel
theorem dX9_word_24 : decode cX9_word 24 = .ok (.ifCond .ne 6, 3) := by decide +kernel
theorem dX9_word_27 : decode cX9_word 27 = .ok (.bipush (-3), 2) := by decide +kernel
theorem dX9_word_29 : decode cX9_word 29 = .ok (.ireturn, 1) := by decide +kernel
theorem dX9_word_30 : decode cX9_word 30 = .ok (.aload_n 0, 1) := by decide +kernel
theorem dX9_word_31 : decode cX9_word 31 = .ok (.getfield 292, 3) := by decide +kernel
theorem dX9_word_34 : decode cX9_word 34 = .ok (.bipush 24, 2) := by decide +kernel
theorem dX9_word_36 : decode cX9_word 36 = .ok (.if_icmp .ne 6, 3) := by decide +kernel
theorem dX9_word_39 : decode cX9_word 39 = .ok (.bipush (-5), 2) := by decide +kernel
theorem dX9_word_41 : decode cX9_word 41 = .ok (.ireturn, 1) := by decide +kernel
theorem dX9_word_42 : decode cX9_word 42 = .ok (.aload_n 0, 1) := by decide +kernel
theorem dX9_word_43 : decode cX9_word 43 = .ok (.getfield 74, 3) := by decide +kernel
theorem dX9_word_46 : decode cX9_word 46 = .ok (.aload_n 0, 1) := by decide +kernel
theorem dX9_word_47 : decode cX9_word 47 = .ok (.getfield 292, 3) := by decide +kernel
theorem dX9_word_50 : decode cX9_word 50 = .ok (.iload_n 1, 1) := by decide +kernel
theorem dX9_word_51 : decode cX9_word 51 = .ok (.iastore, 1) := by decide +kernel
theorem dX9_word_52 : decode cX9_word 52 = .ok (.aload_n 0, 1) := by decide +kernel
theorem dX9_word_53 : decode cX9_word 53 = .ok (.getfield 77, 3) := by decide +kernel
theorem dX9_word_56 : decode cX9_word 56 = .ok (.aload_n 0, 1) := by decide +kernel
theorem dX9_word_57 : decode cX9_word 57 = .ok (.getfield 292, 3) := by decide +kernel
theorem dX9_word_60 : decode cX9_word 60 = .ok (.iload_n 2, 1) := by decide +kernel
theorem dX9_word_61 : decode cX9_word 61 = .ok (.iastore, 1) := by decide +kernel
theorem dX9_word_62 : decode cX9_word 62 = .ok (.aload_n 0, 1) := by decide +kernel
theorem dX9_word_63 : decode cX9_word 63 = .ok (.getfield 80, 3) := by decide +kernel
theorem dX9_word_66 : decode cX9_word 66 = .ok (.aload_n 0, 1) := by decide +kernel
theorem dX9_word_67 : decode cX9_word 67 = .ok (.getfield 292, 3) := by decide +kernel
theorem dX9_word_70 : decode cX9_word 70 = .ok (.iload 5, 2) := by decide +kernel
theorem dX9_word_72 : decode cX9_word 72 = .ok (.iastore, 1) := by decide +kernel
theorem dX9_word_73 : decode cX9_word 73 = .ok (.aload_n 0, 1) := by decide +kernel
theorem dX9_word_74 : decode cX9_word 74 = .ok (.getfield 83, 3) := by decide +kernel
theorem dX9_word_77 : decode cX9_word 77 = .ok (.aload_n 0, 1) := by decide +kernel
theorem dX9_word_78 : decode cX9_word 78 = .ok (.getfield 292, 3) := by decide +kernel
theorem dX9_word_81 : decode cX9_word 81 = .ok (.iload_n 3, 1) := by decide +kernel
theorem dX9_word_82 : decode cX9_word 82 = .ok (.bastore, 1) := by decide +kernel
theorem dX9_word_83 : decode cX9_word 83 = .ok (.aload_n 0, 1) := by decide +kernel
theorem dX9_word_84 : decode cX9_word 84 = .ok (.getfield 87, 3) := by decide +kernel
theorem dX9_word_87 : decode cX9_word 87 = .ok (.aload_n 0, 1) := by decide +kernel
theorem dX9_word_88 : decode cX9_word 88 = .ok (.getfield 292, 3) := by decide +kernel
theorem dX9_word_91 : decode cX9_word 91 = .ok (.iload 4, 2) := by decide +kernel
theorem dX9_word_93 : decode cX9_word 93 = .ok (.bastore, 1) := by decide +kernel
theorem dX9_word_94 : decode cX9_word 94 = .ok (.aload_n 0, 1) := by decide +kernel
theorem dX9_word_95 : decode cX9_word 95 = .ok (.dup, 1) := by decide +kernel
theorem dX9_word_96 : decode cX9_word 96 = .ok (.getfield 292, 3) := by decide +kernel
theorem dX9_word_99 : decode cX9_word 99 = .ok (.iconst 1, 1) := by decide +kernel
theorem dX9_word_100 : decode cX9_word 100 = .ok (.iadd, 1) := by decide +kernel
theorem dX9_word_101 : decode cX9_word 101 = .ok (.putfield 292, 3) := by decide +kernel
theorem dX9_word_104 : decode cX9_word 104 = .ok (.aload_n 0, 1) := by decide +kernel
theorem dX9_word_105 : decode cX9_word 105 = .ok (.getfield 292, 3) := by decide +kernel
theorem dX9_word_108 : decode cX9_word 108 = .ok (.ireturn, 1) := by decide +kernel
theorem dX9_voice_0 : decode cX9_voice 0 = .ok (.iload_n 1, 1) := by decide +kernel
theorem dX9_voice_1 : decode cX9_voice 1 = .ok (.invokestatic 286, 3) := by decide +kernel
theorem dX9_voice_4 : decode cX9_voice 4 = .ok (.ifCond .eq 11, 3) := by decide +kernel
theorem dX9_voice_7 : decode cX9_voice 7 = .ok (.aload_n 0, 1) := by decide +kernel
theorem dX9_voice_8 : decode cX9_voice 8 = .ok (.iload_n 2, 1) := by decide +kernel
theorem dX9_voice_9 : decode cX9_voice 9 = .ok (.invokevirtual 187, 3) := by decide +kernel
theorem dX9_voice_12 : decode cX9_voice 12 = .ok (.ifCond .ne 6, 3) := by decide +kernel
theorem dX9_voice_15 : decode cX9_voice 15 = .ok (.bipush (-2), 2) := by decide +kernel
theorem dX9_voice_17 : decode cX9_voice 17 = .ok (.ireturn, 1) := by decide +kernel
theorem dX9_voice_18 : decode cX9_voice 18 = .ok (.iload 4, 2) := by decide +kernel
theorem dX9_voice_20 : decode cX9_voice 20 = .ok (.invokestatic 165, 3) := by decide +kernel
theorem dX9_voice_23 : decode cX9_voice 23 = .ok (.ifCond .ne 6, 3) := by decide +kernel
theorem dX9_voice_26 : decode cX9_voice 26 = .ok (.bipush (-3), 2) := by decide +kernel
theorem dX9_voice_28 : decode cX9_voice 28 = .ok (.ireturn, 1) := by decide +kernel
theorem dX9_voice_29 : decode cX9_voice 29 = .ok (.aload_n 0, 1) := by decide +kernel
theorem dX9_voice_30 : decode cX9_voice 30 = .ok (.getfield 295, 3) := by decide +kernel
theorem dX9_voice_33 : decode cX9_voice 33 = .ok (.bipush 24, 2) := by decide +kernel
theorem dX9_voice_35 : decode cX9_voice 35 = .ok (.if_icmp .ne 6, 3) := by decide +kernel
theorem dX9_voice_38 : decode cX9_voice 38 = .ok (.bipush (-5), 2) := by decide +kernel
theorem dX9_voice_40 : decode cX9_voice 40 = .ok (.ireturn, 1) := by decide +kernel
theorem dX9_voice_41 : decode cX9_voice 41 = .ok (.aload_n 0, 1) := by decide +kernel
theorem dX9_voice_42 : decode cX9_voice 42 = .ok (.getfield 90, 3) := by decide +kernel
theorem dX9_voice_45 : decode cX9_voice 45 = .ok (.aload_n 0, 1) := by decide +kernel
theorem dX9_voice_46 : decode cX9_voice 46 = .ok (.getfield 295, 3) := by decide +kernel
theorem dX9_voice_49 : decode cX9_voice 49 = .ok (.iload_n 1, 1) := by decide +kernel
theorem dX9_voice_50 : decode cX9_voice 50 = .ok (.iastore, 1) := by decide +kernel
theorem dX9_voice_51 : decode cX9_voice 51 = .ok (.aload_n 0, 1) := by decide +kernel
theorem dX9_voice_52 : decode cX9_voice 52 = .ok (.getfield 93, 3) := by decide +kernel
theorem dX9_voice_55 : decode cX9_voice 55 = .ok (.aload_n 0, 1) := by decide +kernel
theorem dX9_voice_56 : decode cX9_voice 56 = .ok (.getfield 295, 3) := by decide +kernel
theorem dX9_voice_59 : decode cX9_voice 59 = .ok (.iload_n 2, 1) := by decide +kernel
theorem dX9_voice_60 : decode cX9_voice 60 = .ok (.iastore, 1) := by decide +kernel
theorem dX9_voice_61 : decode cX9_voice 61 = .ok (.aload_n 0, 1) := by decide +kernel
theorem dX9_voice_62 : decode cX9_voice 62 = .ok (.getfield 96, 3) := by decide +kernel
theorem dX9_voice_65 : decode cX9_voice 65 = .ok (.aload_n 0, 1) := by decide +kernel
theorem dX9_voice_66 : decode cX9_voice 66 = .ok (.getfield 295, 3) := by decide +kernel
theorem dX9_voice_69 : decode cX9_voice 69 = .ok (.iload 4, 2) := by decide +kernel
theorem dX9_voice_71 : decode cX9_voice 71 = .ok (.iastore, 1) := by decide +kernel
theorem dX9_voice_72 : decode cX9_voice 72 = .ok (.aload_n 0, 1) := by decide +kernel
theorem dX9_voice_73 : decode cX9_voice 73 = .ok (.getfield 99, 3) := by decide +kernel
theorem dX9_voice_76 : decode cX9_voice 76 = .ok (.aload_n 0, 1) := by decide +kernel
theorem dX9_voice_77 : decode cX9_voice 77 = .ok (.getfield 295, 3) := by decide +kernel
theorem dX9_voice_80 : decode cX9_voice 80 = .ok (.iload_n 3, 1) := by decide +kernel
theorem dX9_voice_81 : decode cX9_voice 81 = .ok (.bastore, 1) := by decide +kernel
theorem dX9_voice_82 : decode cX9_voice 82 = .ok (.aload_n 0, 1) := by decide +kernel
theorem dX9_voice_83 : decode cX9_voice 83 = .ok (.dup, 1) := by decide +kernel
theorem dX9_voice_84 : decode cX9_voice 84 = .ok (.getfield 295, 3) := by decide +kernel
theorem dX9_voice_87 : decode cX9_voice 87 = .ok (.iconst 1, 1) := by decide +kernel
theorem dX9_voice_88 : decode cX9_voice 88 = .ok (.iadd, 1) := by decide +kernel
theorem dX9_voice_89 : decode cX9_voice 89 = .ok (.putfield 295, 3) := by decide +kernel
theorem dX9_voice_92 : decode cX9_voice 92 = .ok (.aload_n 0, 1) := by decide +kernel
theorem dX9_voice_93 : decode cX9_voice 93 = .ok (.getfield 295, 3) := by decide +kernel
theorem dX9_voice_96 : decode cX9_voice 96 = .ok (.ireturn, 1) := by decide +kernel
theorem dX9_latest_0 : decode cX9_latest 0 = .ok (.iconst (-1), 1) := by decide +kernel
theorem dX9_latest_1 : decode cX9_latest 1 = .ok (.istore 5, 2) := by decide +kernel
theorem dX9_latest_3 : decode cX9_latest 3 = .ok (.iconst 0, 1) := by decide +kernel
theorem dX9_latest_4 : decode cX9_latest 4 = .ok (.istore 6, 2) := by decide +kernel
theorem dX9_latest_6 : decode cX9_latest 6 = .ok (.iload 6, 2) := by decide +kernel
theorem dX9_latest_8 : decode cX9_latest 8 = .ok (.aload_n 0, 1) := by decide +kernel
theorem dX9_latest_9 : decode cX9_latest 9 = .ok (.getfield 292, 3) := by decide +kernel
theorem dX9_latest_12 : decode cX9_latest 12 = .ok (.if_icmp .ge 110, 3) := by decide +kernel
theorem dX9_latest_15 : decode cX9_latest 15 = .ok (.aload_n 0, 1) := by decide +kernel
theorem dX9_latest_16 : decode cX9_latest 16 = .ok (.getfield 298, 3) := by decide +kernel
theorem dX9_latest_19 : decode cX9_latest 19 = .ok (.iload 6, 2) := by decide +kernel
theorem dX9_latest_21 : decode cX9_latest 21 = .ok (.ishr, 1) := by decide +kernel
theorem dX9_latest_22 : decode cX9_latest 22 = .ok (.iconst 1, 1) := by decide +kernel
theorem dX9_latest_23 : decode cX9_latest 23 = .ok (.iand, 1) := by decide +kernel
theorem dX9_latest_24 : decode cX9_latest 24 = .ok (.ifCond .ne 52, 3) := by decide +kernel
theorem dX9_latest_27 : decode cX9_latest 27 = .ok (.aload_n 0, 1) := by decide +kernel
theorem dX9_latest_28 : decode cX9_latest 28 = .ok (.getfield 74, 3) := by decide +kernel
theorem dX9_latest_31 : decode cX9_latest 31 = .ok (.iload 6, 2) := by decide +kernel
theorem dX9_latest_33 : decode cX9_latest 33 = .ok (.iaload, 1) := by decide +kernel
theorem dX9_latest_34 : decode cX9_latest 34 = .ok (.iload_n 1, 1) := by decide +kernel
theorem dX9_latest_35 : decode cX9_latest 35 = .ok (.if_icmp .ne 41, 3) := by decide +kernel
theorem dX9_latest_38 : decode cX9_latest 38 = .ok (.aload_n 0, 1) := by decide +kernel
theorem dX9_latest_39 : decode cX9_latest 39 = .ok (.getfield 77, 3) := by decide +kernel
theorem dX9_latest_42 : decode cX9_latest 42 = .ok (.iload 6, 2) := by decide +kernel
theorem dX9_latest_44 : decode cX9_latest 44 = .ok (.iaload, 1) := by decide +kernel
theorem dX9_latest_45 : decode cX9_latest 45 = .ok (.iload_n 2, 1) := by decide +kernel
theorem dX9_latest_46 : decode cX9_latest 46 = .ok (.if_icmp .ne 30, 3) := by decide +kernel
theorem dX9_latest_49 : decode cX9_latest 49 = .ok (.aload_n 0, 1) := by decide +kernel
theorem dX9_latest_50 : decode cX9_latest 50 = .ok (.getfield 83, 3) := by decide +kernel
theorem dX9_latest_53 : decode cX9_latest 53 = .ok (.iload 6, 2) := by decide +kernel
theorem dX9_latest_55 : decode cX9_latest 55 = .ok (.baload, 1) := by decide +kernel
theorem dX9_latest_56 : decode cX9_latest 56 = .ok (.iload_n 3, 1) := by decide +kernel
theorem dX9_latest_57 : decode cX9_latest 57 = .ok (.if_icmp .ne 19, 3) := by decide +kernel
theorem dX9_latest_60 : decode cX9_latest 60 = .ok (.aload_n 0, 1) := by decide +kernel
theorem dX9_latest_61 : decode cX9_latest 61 = .ok (.getfield 80, 3) := by decide +kernel
theorem dX9_latest_64 : decode cX9_latest 64 = .ok (.iload 6, 2) := by decide +kernel
theorem dX9_latest_66 : decode cX9_latest 66 = .ok (.iaload, 1) := by decide +kernel
theorem dX9_latest_67 : decode cX9_latest 67 = .ok (.iload 4, 2) := by decide +kernel
theorem dX9_latest_69 : decode cX9_latest 69 = .ok (.if_icmp .gt 7, 3) := by decide +kernel
theorem dX9_latest_72 : decode cX9_latest 72 = .ok (.iconst 1, 1) := by decide +kernel
theorem dX9_latest_73 : decode cX9_latest 73 = .ok (.goto 4, 3) := by decide +kernel
theorem dX9_latest_76 : decode cX9_latest 76 = .ok (.iconst 0, 1) := by decide +kernel
theorem dX9_latest_77 : decode cX9_latest 77 = .ok (.istore 7, 2) := by decide +kernel
theorem dX9_latest_79 : decode cX9_latest 79 = .ok (.iload 7, 2) := by decide +kernel
theorem dX9_latest_81 : decode cX9_latest 81 = .ok (.ifCond .eq 31, 3) := by decide +kernel
theorem dX9_latest_84 : decode cX9_latest 84 = .ok (.iload 5, 2) := by decide +kernel
theorem dX9_latest_86 : decode cX9_latest 86 = .ok (.iconst (-1), 1) := by decide +kernel
theorem dX9_latest_87 : decode cX9_latest 87 = .ok (.if_icmp .eq 20, 3) := by decide +kernel
theorem dX9_latest_90 : decode cX9_latest 90 = .ok (.aload_n 0, 1) := by decide +kernel
theorem dX9_latest_91 : decode cX9_latest 91 = .ok (.getfield 80, 3) := by decide +kernel
theorem dX9_latest_94 : decode cX9_latest 94 = .ok (.iload 6, 2) := by decide +kernel
theorem dX9_latest_96 : decode cX9_latest 96 = .ok (.iaload, 1) := by decide +kernel
theorem dX9_latest_97 : decode cX9_latest 97 = .ok (.aload_n 0, 1) := by decide +kernel
theorem dX9_latest_98 : decode cX9_latest 98 = .ok (.getfield 80, 3) := by decide +kernel
theorem dX9_latest_101 : decode cX9_latest 101 = .ok (.iload 5, 2) := by decide +kernel
theorem dX9_latest_103 : decode cX9_latest 103 = .ok (.iaload, 1) := by decide +kernel
theorem dX9_latest_104 : decode cX9_latest 104 = .ok (.if_icmp .lt 8, 3) := by decide +kernel
theorem dX9_latest_107 : decode cX9_latest 107 = .ok (.iload 6, 2) := by decide +kernel
theorem dX9_latest_109 : decode cX9_latest 109 = .ok (.goto 5, 3) := by decide +kernel
theorem dX9_latest_112 : decode cX9_latest 112 = .ok (.iload 5, 2) := by decide +kernel
theorem dX9_latest_114 : decode cX9_latest 114 = .ok (.istore 5, 2) := by decide +kernel
theorem dX9_latest_116 : decode cX9_latest 116 = .ok (.iinc 6 1, 3) := by decide +kernel
theorem dX9_latest_119 : decode cX9_latest 119 = .ok (.goto (-113), 3) := by decide +kernel
theorem dX9_latest_122 : decode cX9_latest 122 = .ok (.iload 5, 2) := by decide +kernel
theorem dX9_latest_124 : decode cX9_latest 124 = .ok (.iconst (-1), 1) := by decide +kernel
theorem dX9_latest_125 : decode cX9_latest 125 = .ok (.if_icmp .ne 7, 3) := by decide +kernel
theorem dX9_latest_128 : decode cX9_latest 128 = .ok (.iconst (-1), 1) := by decide +kernel
theorem dX9_latest_129 : decode cX9_latest 129 = .ok (.goto 18, 3) := by decide +kernel
theorem dX9_latest_132 : decode cX9_latest 132 = .ok (.aload_n 0, 1) := by decide +kernel
theorem dX9_latest_133 : decode cX9_latest 133 = .ok (.getfield 87, 3) := by decide +kernel
theorem dX9_latest_136 : decode cX9_latest 136 = .ok (.iload 5, 2) := by decide +kernel
theorem dX9_latest_138 : decode cX9_latest 138 = .ok (.baload, 1) := by decide +kernel
theorem dX9_latest_139 : decode cX9_latest 139 = .ok (.ifCond .eq 7, 3) := by decide +kernel
theorem dX9_latest_142 : decode cX9_latest 142 = .ok (.iconst 1, 1) := by decide +kernel
theorem dX9_latest_143 : decode cX9_latest 143 = .ok (.goto 4, 3) := by decide +kernel
theorem dX9_latest_146 : decode cX9_latest 146 = .ok (.iconst 0, 1) := by decide +kernel
theorem dX9_latest_147 : decode cX9_latest 147 = .ok (.ireturn, 1) := by decide +kernel
theorem dX9_firstYes_0 : decode cX9_firstYes 0 = .ok (.iconst (-1), 1) := by decide +kernel
theorem dX9_firstYes_1 : decode cX9_firstYes 1 = .ok (.istore 4, 2) := by decide +kernel
theorem dX9_firstYes_3 : decode cX9_firstYes 3 = .ok (.iconst 0, 1) := by decide +kernel
theorem dX9_firstYes_4 : decode cX9_firstYes 4 = .ok (.istore 5, 2) := by decide +kernel
theorem dX9_firstYes_6 : decode cX9_firstYes 6 = .ok (.iload 5, 2) := by decide +kernel
theorem dX9_firstYes_8 : decode cX9_firstYes 8 = .ok (.aload_n 0, 1) := by decide +kernel
theorem dX9_firstYes_9 : decode cX9_firstYes 9 = .ok (.getfield 292, 3) := by decide +kernel
theorem dX9_firstYes_12 : decode cX9_firstYes 12 = .ok (.if_icmp .ge 118, 3) := by decide +kernel
theorem dX9_firstYes_15 : decode cX9_firstYes 15 = .ok (.aload_n 0, 1) := by decide +kernel
theorem dX9_firstYes_16 : decode cX9_firstYes 16 = .ok (.getfield 298, 3) := by decide +kernel
theorem dX9_firstYes_19 : decode cX9_firstYes 19 = .ok (.iload 5, 2) := by decide +kernel
theorem dX9_firstYes_21 : decode cX9_firstYes 21 = .ok (.ishr, 1) := by decide +kernel
theorem dX9_firstYes_22 : decode cX9_firstYes 22 = .ok (.iconst 1, 1) := by decide +kernel
theorem dX9_firstYes_23 : decode cX9_firstYes 23 = .ok (.iand, 1) := by decide +kernel
theorem dX9_firstYes_24 : decode cX9_firstYes 24 = .ok (.ifCond .ne 60, 3) := by decide +kernel
theorem dX9_firstYes_27 : decode cX9_firstYes 27 = .ok (.aload_n 0, 1) := by decide +kernel
theorem dX9_firstYes_28 : decode cX9_firstYes 28 = .ok (.getfield 74, 3) := by decide +kernel
theorem dX9_firstYes_31 : decode cX9_firstYes 31 = .ok (.iload 5, 2) := by decide +kernel
theorem dX9_firstYes_33 : decode cX9_firstYes 33 = .ok (.iaload, 1) := by decide +kernel
theorem dX9_firstYes_34 : decode cX9_firstYes 34 = .ok (.iload_n 1, 1) := by decide +kernel
theorem dX9_firstYes_35 : decode cX9_firstYes 35 = .ok (.if_icmp .ne 49, 3) := by decide +kernel
theorem dX9_firstYes_38 : decode cX9_firstYes 38 = .ok (.aload_n 0, 1) := by decide +kernel
theorem dX9_firstYes_39 : decode cX9_firstYes 39 = .ok (.getfield 77, 3) := by decide +kernel
theorem dX9_firstYes_42 : decode cX9_firstYes 42 = .ok (.iload 5, 2) := by decide +kernel
theorem dX9_firstYes_44 : decode cX9_firstYes 44 = .ok (.iaload, 1) := by decide +kernel
theorem dX9_firstYes_45 : decode cX9_firstYes 45 = .ok (.iload_n 2, 1) := by decide +kernel
theorem dX9_firstYes_46 : decode cX9_firstYes 46 = .ok (.if_icmp .ne 38, 3) := by decide +kernel
theorem dX9_firstYes_49 : decode cX9_firstYes 49 = .ok (.aload_n 0, 1) := by decide +kernel
theorem dX9_firstYes_50 : decode cX9_firstYes 50 = .ok (.getfield 83, 3) := by decide +kernel
theorem dX9_firstYes_53 : decode cX9_firstYes 53 = .ok (.iload 5, 2) := by decide +kernel
theorem dX9_firstYes_55 : decode cX9_firstYes 55 = .ok (.baload, 1) := by decide +kernel
theorem dX9_firstYes_56 : decode cX9_firstYes 56 = .ok (.ifCond .ne 28, 3) := by decide +kernel
theorem dX9_firstYes_59 : decode cX9_firstYes 59 = .ok (.aload_n 0, 1) := by decide +kernel
theorem dX9_firstYes_60 : decode cX9_firstYes 60 = .ok (.getfield 87, 3) := by decide +kernel
theorem dX9_firstYes_63 : decode cX9_firstYes 63 = .ok (.iload 5, 2) := by decide +kernel
theorem dX9_firstYes_65 : decode cX9_firstYes 65 = .ok (.baload, 1) := by decide +kernel
theorem dX9_firstYes_66 : decode cX9_firstYes 66 = .ok (.ifCond .eq 18, 3) := by decide +kernel
theorem dX9_firstYes_69 : decode cX9_firstYes 69 = .ok (.aload_n 0, 1) := by decide +kernel
theorem dX9_firstYes_70 : decode cX9_firstYes 70 = .ok (.getfield 80, 3) := by decide +kernel
theorem dX9_firstYes_73 : decode cX9_firstYes 73 = .ok (.iload 5, 2) := by decide +kernel
theorem dX9_firstYes_75 : decode cX9_firstYes 75 = .ok (.iaload, 1) := by decide +kernel
theorem dX9_firstYes_76 : decode cX9_firstYes 76 = .ok (.iload_n 3, 1) := by decide +kernel
theorem dX9_firstYes_77 : decode cX9_firstYes 77 = .ok (.if_icmp .gt 7, 3) := by decide +kernel
theorem dX9_firstYes_80 : decode cX9_firstYes 80 = .ok (.iconst 1, 1) := by decide +kernel
theorem dX9_firstYes_81 : decode cX9_firstYes 81 = .ok (.goto 4, 3) := by decide +kernel
theorem dX9_firstYes_84 : decode cX9_firstYes 84 = .ok (.iconst 0, 1) := by decide +kernel
theorem dX9_firstYes_85 : decode cX9_firstYes 85 = .ok (.istore 6, 2) := by decide +kernel
theorem dX9_firstYes_87 : decode cX9_firstYes 87 = .ok (.iload 6, 2) := by decide +kernel
theorem dX9_firstYes_89 : decode cX9_firstYes 89 = .ok (.ifCond .eq 31, 3) := by decide +kernel
theorem dX9_firstYes_92 : decode cX9_firstYes 92 = .ok (.iload 4, 2) := by decide +kernel
theorem dX9_firstYes_94 : decode cX9_firstYes 94 = .ok (.iconst (-1), 1) := by decide +kernel
theorem dX9_firstYes_95 : decode cX9_firstYes 95 = .ok (.if_icmp .eq 15, 3) := by decide +kernel
theorem dX9_firstYes_98 : decode cX9_firstYes 98 = .ok (.aload_n 0, 1) := by decide +kernel
theorem dX9_firstYes_99 : decode cX9_firstYes 99 = .ok (.getfield 80, 3) := by decide +kernel
theorem dX9_firstYes_102 : decode cX9_firstYes 102 = .ok (.iload 5, 2) := by decide +kernel
theorem dX9_firstYes_104 : decode cX9_firstYes 104 = .ok (.iaload, 1) := by decide +kernel
theorem dX9_firstYes_105 : decode cX9_firstYes 105 = .ok (.iload 4, 2) := by decide +kernel
theorem dX9_firstYes_107 : decode cX9_firstYes 107 = .ok (.if_icmp .ge 13, 3) := by decide +kernel
theorem dX9_firstYes_110 : decode cX9_firstYes 110 = .ok (.aload_n 0, 1) := by decide +kernel
theorem dX9_firstYes_111 : decode cX9_firstYes 111 = .ok (.getfield 80, 3) := by decide +kernel
theorem dX9_firstYes_114 : decode cX9_firstYes 114 = .ok (.iload 5, 2) := by decide +kernel
theorem dX9_firstYes_116 : decode cX9_firstYes 116 = .ok (.iaload, 1) := by decide +kernel
theorem dX9_firstYes_117 : decode cX9_firstYes 117 = .ok (.goto 5, 3) := by decide +kernel
theorem dX9_firstYes_120 : decode cX9_firstYes 120 = .ok (.iload 4, 2) := by decide +kernel
theorem dX9_firstYes_122 : decode cX9_firstYes 122 = .ok (.istore 4, 2) := by decide +kernel
theorem dX9_firstYes_124 : decode cX9_firstYes 124 = .ok (.iinc 5 1, 3) := by decide +kernel
theorem dX9_firstYes_127 : decode cX9_firstYes 127 = .ok (.goto (-121), 3) := by decide +kernel
theorem dX9_firstYes_130 : decode cX9_firstYes 130 = .ok (.iload 4, 2) := by decide +kernel
theorem dX9_firstYes_132 : decode cX9_firstYes 132 = .ok (.ireturn, 1) := by decide +kernel
theorem dX9_doWordsLet_0 : decode cX9_doWordsLet 0 = .ok (.aload_n 0, 1) := by decide +kernel
theorem dX9_doWordsLet_1 : decode cX9_doWordsLet 1 = .ok (.iload_n 1, 1) := by decide +kernel
theorem dX9_doWordsLet_2 : decode cX9_doWordsLet 2 = .ok (.iload_n 2, 1) := by decide +kernel
theorem dX9_doWordsLet_3 : decode cX9_doWordsLet 3 = .ok (.iconst 0, 1) := by decide +kernel
theorem dX9_doWordsLet_4 : decode cX9_doWordsLet 4 = .ok (.iload_n 3, 1) := by decide +kernel
theorem dX9_doWordsLet_5 : decode cX9_doWordsLet 5 = .ok (.invokevirtual 301, 3) := by decide +kernel
theorem dX9_doWordsLet_8 : decode cX9_doWordsLet 8 = .ok (.istore 4, 2) := by decide +kernel
theorem dX9_doWordsLet_10 : decode cX9_doWordsLet 10 = .ok (.aload_n 0, 1) := by decide +kernel
theorem dX9_doWordsLet_11 : decode cX9_doWordsLet 11 = .ok (.getfield 56, 3) := by decide +kernel
theorem dX9_doWordsLet_14 : decode cX9_doWordsLet 14 = .ok (.iconst 0, 1) := by decide +kernel
theorem dX9_doWordsLet_15 : decode cX9_doWordsLet 15 = .ok (.iaload, 1) := by decide +kernel
theorem dX9_doWordsLet_16 : decode cX9_doWordsLet 16 = .ok (.ifCond .ne 14, 3) := by decide +kernel
theorem dX9_doWordsLet_19 : decode cX9_doWordsLet 19 = .ok (.iload 4, 2) := by decide +kernel
theorem dX9_doWordsLet_21 : decode cX9_doWordsLet 21 = .ok (.ifCond .eq 7, 3) := by decide +kernel
theorem dX9_doWordsLet_24 : decode cX9_doWordsLet 24 = .ok (.iconst 1, 1) := by decide +kernel
theorem dX9_doWordsLet_25 : decode cX9_doWordsLet 25 = .ok (.goto 4, 3) := by decide +kernel
theorem dX9_doWordsLet_28 : decode cX9_doWordsLet 28 = .ok (.iconst 0, 1) := by decide +kernel
theorem dX9_doWordsLet_29 : decode cX9_doWordsLet 29 = .ok (.ireturn, 1) := by decide +kernel
theorem dX9_doWordsLet_30 : decode cX9_doWordsLet 30 = .ok (.aload_n 0, 1) := by decide +kernel
theorem dX9_doWordsLet_31 : decode cX9_doWordsLet 31 = .ok (.iload_n 1, 1) := by decide +kernel
theorem dX9_doWordsLet_32 : decode cX9_doWordsLet 32 = .ok (.iload_n 2, 1) := by decide +kernel
theorem dX9_doWordsLet_33 : decode cX9_doWordsLet 33 = .ok (.iconst 1, 1) := by decide +kernel
theorem dX9_doWordsLet_34 : decode cX9_doWordsLet 34 = .ok (.iload_n 3, 1) := by decide +kernel
theorem dX9_doWordsLet_35 : decode cX9_doWordsLet 35 = .ok (.invokevirtual 301, 3) := by decide +kernel
theorem dX9_doWordsLet_38 : decode cX9_doWordsLet 38 = .ok (.istore 5, 2) := by decide +kernel
theorem dX9_doWordsLet_40 : decode cX9_doWordsLet 40 = .ok (.iload 4, 2) := by decide +kernel
theorem dX9_doWordsLet_42 : decode cX9_doWordsLet 42 = .ok (.iconst 1, 1) := by decide +kernel
theorem dX9_doWordsLet_43 : decode cX9_doWordsLet 43 = .ok (.if_icmp .ne 52, 3) := by decide +kernel
theorem dX9_doWordsLet_46 : decode cX9_doWordsLet 46 = .ok (.aload_n 0, 1) := by decide +kernel
theorem dX9_doWordsLet_47 : decode cX9_doWordsLet 47 = .ok (.iload_n 1, 1) := by decide +kernel
theorem dX9_doWordsLet_48 : decode cX9_doWordsLet 48 = .ok (.iload_n 2, 1) := by decide +kernel
theorem dX9_doWordsLet_49 : decode cX9_doWordsLet 49 = .ok (.iload_n 3, 1) := by decide +kernel
theorem dX9_doWordsLet_50 : decode cX9_doWordsLet 50 = .ok (.invokevirtual 305, 3) := by decide +kernel
theorem dX9_doWordsLet_53 : decode cX9_doWordsLet 53 = .ok (.aload_n 0, 1) := by decide +kernel
theorem dX9_doWordsLet_54 : decode cX9_doWordsLet 54 = .ok (.getfield 23, 3) := by decide +kernel
theorem dX9_doWordsLet_57 : decode cX9_doWordsLet 57 = .ok (.iload_n 2, 1) := by decide +kernel
theorem dX9_doWordsLet_58 : decode cX9_doWordsLet 58 = .ok (.iaload, 1) := by decide +kernel
theorem dX9_doWordsLet_59 : decode cX9_doWordsLet 59 = .ok (.isub, 1) := by decide +kernel
theorem dX9_doWordsLet_60 : decode cX9_doWordsLet 60 = .ok (.aload_n 0, 1) := by decide +kernel
theorem dX9_doWordsLet_61 : decode cX9_doWordsLet 61 = .ok (.getfield 56, 3) := by decide +kernel
theorem dX9_doWordsLet_64 : decode cX9_doWordsLet 64 = .ok (.iconst 2, 1) := by decide +kernel
theorem dX9_doWordsLet_65 : decode cX9_doWordsLet 65 = .ok (.iaload, 1) := by decide +kernel
theorem dX9_doWordsLet_66 : decode cX9_doWordsLet 66 = .ok (.if_icmp .gt 29, 3) := by decide +kernel
theorem dX9_doWordsLet_69 : decode cX9_doWordsLet 69 = .ok (.iload 5, 2) := by decide +kernel
theorem dX9_doWordsLet_71 : decode cX9_doWordsLet 71 = .ok (.iconst 1, 1) := by decide +kernel
theorem dX9_doWordsLet_72 : decode cX9_doWordsLet 72 = .ok (.if_icmp .eq 19, 3) := by decide +kernel
theorem dX9_doWordsLet_75 : decode cX9_doWordsLet 75 = .ok (.iload 5, 2) := by decide +kernel
theorem dX9_doWordsLet_77 : decode cX9_doWordsLet 77 = .ok (.iconst (-1), 1) := by decide +kernel
theorem dX9_doWordsLet_78 : decode cX9_doWordsLet 78 = .ok (.if_icmp .ne 17, 3) := by decide +kernel
theorem dX9_doWordsLet_81 : decode cX9_doWordsLet 81 = .ok (.aload_n 0, 1) := by decide +kernel
theorem dX9_doWordsLet_82 : decode cX9_doWordsLet 82 = .ok (.getfield 56, 3) := by decide +kernel
theorem dX9_doWordsLet_85 : decode cX9_doWordsLet 85 = .ok (.iconst 1, 1) := by decide +kernel
theorem dX9_doWordsLet_86 : decode cX9_doWordsLet 86 = .ok (.iaload, 1) := by decide +kernel
theorem dX9_doWordsLet_87 : decode cX9_doWordsLet 87 = .ok (.iconst 1, 1) := by decide +kernel
theorem dX9_doWordsLet_88 : decode cX9_doWordsLet 88 = .ok (.if_icmp .ne 7, 3) := by decide +kernel
theorem dX9_doWordsLet_91 : decode cX9_doWordsLet 91 = .ok (.iconst 1, 1) := by decide +kernel
theorem dX9_doWordsLet_92 : decode cX9_doWordsLet 92 = .ok (.goto 4, 3) := by decide +kernel
theorem dX9_doWordsLet_95 : decode cX9_doWordsLet 95 = .ok (.iconst 0, 1) := by decide +kernel
theorem dX9_doWordsLet_96 : decode cX9_doWordsLet 96 = .ok (.ireturn, 1) := by decide +kernel
theorem dX9_isBound_0 : decode cX9_isBound 0 = .ok (.aload_n 0, 1) := by decide +kernel
theorem dX9_isBound_1 : decode cX9_isBound 1 = .ok (.getfield 62, 3) := by decide +kernel
theorem dX9_isBound_4 : decode cX9_isBound 4 = .ok (.iload_n 1, 1) := by decide +kernel
theorem dX9_isBound_5 : decode cX9_isBound 5 = .ok (.iaload, 1) := by decide +kernel
theorem dX9_isBound_6 : decode cX9_isBound 6 = .ok (.iload_n 2, 1) := by decide +kernel
theorem dX9_isBound_7 : decode cX9_isBound 7 = .ok (.if_icmp .ne 16, 3) := by decide +kernel
theorem dX9_isBound_10 : decode cX9_isBound 10 = .ok (.aload_n 0, 1) := by decide +kernel
theorem dX9_isBound_11 : decode cX9_isBound 11 = .ok (.getfield 71, 3) := by decide +kernel
theorem dX9_isBound_14 : decode cX9_isBound 14 = .ok (.iload_n 1, 1) := by decide +kernel
theorem dX9_isBound_15 : decode cX9_isBound 15 = .ok (.iaload, 1) := by decide +kernel
theorem dX9_isBound_16 : decode cX9_isBound 16 = .ok (.iload 5, 2) := by decide +kernel
theorem dX9_isBound_18 : decode cX9_isBound 18 = .ok (.if_icmp .ge 5, 3) := by decide +kernel
theorem dX9_isBound_21 : decode cX9_isBound 21 = .ok (.iconst 1, 1) := by decide +kernel
theorem dX9_isBound_22 : decode cX9_isBound 22 = .ok (.ireturn, 1) := by decide +kernel
theorem dX9_isBound_23 : decode cX9_isBound 23 = .ok (.iconst 0, 1) := by decide +kernel
theorem dX9_isBound_24 : decode cX9_isBound 24 = .ok (.istore 6, 2) := by decide +kernel
theorem dX9_isBound_26 : decode cX9_isBound 26 = .ok (.iload 6, 2) := by decide +kernel
theorem dX9_isBound_28 : decode cX9_isBound 28 = .ok (.iload_n 3, 1) := by decide +kernel
theorem dX9_isBound_29 : decode cX9_isBound 29 = .ok (.if_icmp .ge 73, 3) := by decide +kernel
theorem dX9_isBound_32 : decode cX9_isBound 32 = .ok (.aload_n 0, 1) := by decide +kernel
theorem dX9_isBound_33 : decode cX9_isBound 33 = .ok (.getfield 102, 3) := by decide +kernel
theorem dX9_isBound_36 : decode cX9_isBound 36 = .ok (.iload 6, 2) := by decide +kernel
theorem dX9_isBound_38 : decode cX9_isBound 38 = .ok (.baload, 1) := by decide +kernel
theorem dX9_isBound_39 : decode cX9_isBound 39 = .ok (.ifCond .eq 57, 3) := by decide +kernel
theorem dX9_isBound_42 : decode cX9_isBound 42 = .ok (.aload_n 0, 1) := by decide +kernel
theorem dX9_isBound_43 : decode cX9_isBound 43 = .ok (.getfield 26, 3) := by decide +kernel
theorem dX9_isBound_46 : decode cX9_isBound 46 = .ok (.iload 6, 2) := by decide +kernel
theorem dX9_isBound_48 : decode cX9_isBound 48 = .ok (.iaload, 1) := by decide +kernel
theorem dX9_isBound_49 : decode cX9_isBound 49 = .ok (.iconst 2, 1) := by decide +kernel
theorem dX9_isBound_50 : decode cX9_isBound 50 = .ok (.if_icmp .ne 23, 3) := by decide +kernel
theorem dX9_isBound_53 : decode cX9_isBound 53 = .ok (.aload_n 0, 1) := by decide +kernel
theorem dX9_isBound_54 : decode cX9_isBound 54 = .ok (.getfield 32, 3) := by decide +kernel
theorem dX9_isBound_57 : decode cX9_isBound 57 = .ok (.iload 6, 2) := by decide +kernel
theorem dX9_isBound_59 : decode cX9_isBound 59 = .ok (.iaload, 1) := by decide +kernel
theorem dX9_isBound_60 : decode cX9_isBound 60 = .ok (.iload_n 2, 1) := by decide +kernel
theorem dX9_isBound_61 : decode cX9_isBound 61 = .ok (.if_icmp .ne 12, 3) := by decide +kernel
theorem dX9_isBound_64 : decode cX9_isBound 64 = .ok (.aload_n 0, 1) := by decide +kernel
theorem dX9_isBound_65 : decode cX9_isBound 65 = .ok (.getfield 56, 3) := by decide +kernel
theorem dX9_isBound_68 : decode cX9_isBound 68 = .ok (.iconst 0, 1) := by decide +kernel
theorem dX9_isBound_69 : decode cX9_isBound 69 = .ok (.iaload, 1) := by decide +kernel
theorem dX9_isBound_70 : decode cX9_isBound 70 = .ok (.ifCond .eq 24, 3) := by decide +kernel
theorem dX9_isBound_73 : decode cX9_isBound 73 = .ok (.aload_n 0, 1) := by decide +kernel
theorem dX9_isBound_74 : decode cX9_isBound 74 = .ok (.iload_n 2, 1) := by decide +kernel
theorem dX9_isBound_75 : decode cX9_isBound 75 = .ok (.iload 6, 2) := by decide +kernel
theorem dX9_isBound_77 : decode cX9_isBound 77 = .ok (.invokevirtual 193, 3) := by decide +kernel
theorem dX9_isBound_80 : decode cX9_isBound 80 = .ok (.ifCond .eq 16, 3) := by decide +kernel
theorem dX9_isBound_83 : decode cX9_isBound 83 = .ok (.aload_n 0, 1) := by decide +kernel
theorem dX9_isBound_84 : decode cX9_isBound 84 = .ok (.iload_n 1, 1) := by decide +kernel
theorem dX9_isBound_85 : decode cX9_isBound 85 = .ok (.iload_n 2, 1) := by decide +kernel
theorem dX9_isBound_86 : decode cX9_isBound 86 = .ok (.iload 4, 2) := by decide +kernel
theorem dX9_isBound_88 : decode cX9_isBound 88 = .ok (.invokevirtual 309, 3) := by decide +kernel
theorem dX9_isBound_91 : decode cX9_isBound 91 = .ok (.ifCond .eq 5, 3) := by decide +kernel
theorem dX9_isBound_94 : decode cX9_isBound 94 = .ok (.iconst 1, 1) := by decide +kernel
theorem dX9_isBound_95 : decode cX9_isBound 95 = .ok (.ireturn, 1) := by decide +kernel
theorem dX9_isBound_96 : decode cX9_isBound 96 = .ok (.iinc 6 1, 3) := by decide +kernel
theorem dX9_isBound_99 : decode cX9_isBound 99 = .ok (.goto (-73), 3) := by decide +kernel
theorem dX9_isBound_102 : decode cX9_isBound 102 = .ok (.iconst 0, 1) := by decide +kernel
theorem dX9_isBound_103 : decode cX9_isBound 103 = .ok (.ireturn, 1) := by decide +kernel
theorem dX9_byTrade_0 : decode cX9_byTrade 0 = .ok (.iconst 0, 1) := by decide +kernel
theorem dX9_byTrade_1 : decode cX9_byTrade 1 = .ok (.istore 4, 2) := by decide +kernel
theorem dX9_byTrade_3 : decode cX9_byTrade 3 = .ok (.iload 4, 2) := by decide +kernel
theorem dX9_byTrade_5 : decode cX9_byTrade 5 = .ok (.iload_n 2, 1) := by decide +kernel
theorem dX9_byTrade_6 : decode cX9_byTrade 6 = .ok (.if_icmp .ge 88, 3) := by decide +kernel
theorem dX9_byTrade_9 : decode cX9_byTrade 9 = .ok (.aload_n 0, 1) := by decide +kernel
theorem dX9_byTrade_10 : decode cX9_byTrade 10 = .ok (.getfield 26, 3) := by decide +kernel
theorem dX9_byTrade_13 : decode cX9_byTrade 13 = .ok (.iload 4, 2) := by decide +kernel
theorem dX9_byTrade_15 : decode cX9_byTrade 15 = .ok (.iaload, 1) := by decide +kernel
theorem dX9_byTrade_16 : decode cX9_byTrade 16 = .ok (.iconst 2, 1) := by decide +kernel
theorem dX9_byTrade_17 : decode cX9_byTrade 17 = .ok (.if_icmp .ne 13, 3) := by decide +kernel
theorem dX9_byTrade_20 : decode cX9_byTrade 20 = .ok (.aload_n 0, 1) := by decide +kernel
theorem dX9_byTrade_21 : decode cX9_byTrade 21 = .ok (.getfield 35, 3) := by decide +kernel
theorem dX9_byTrade_24 : decode cX9_byTrade 24 = .ok (.iload 4, 2) := by decide +kernel
theorem dX9_byTrade_26 : decode cX9_byTrade 26 = .ok (.iaload, 1) := by decide +kernel
theorem dX9_byTrade_27 : decode cX9_byTrade 27 = .ok (.goto 10, 3) := by decide +kernel
theorem dX9_byTrade_30 : decode cX9_byTrade 30 = .ok (.aload_n 0, 1) := by decide +kernel
theorem dX9_byTrade_31 : decode cX9_byTrade 31 = .ok (.getfield 32, 3) := by decide +kernel
theorem dX9_byTrade_34 : decode cX9_byTrade 34 = .ok (.iload 4, 2) := by decide +kernel
theorem dX9_byTrade_36 : decode cX9_byTrade 36 = .ok (.iaload, 1) := by decide +kernel
theorem dX9_byTrade_37 : decode cX9_byTrade 37 = .ok (.istore 5, 2) := by decide +kernel
theorem dX9_byTrade_39 : decode cX9_byTrade 39 = .ok (.aload_n 0, 1) := by decide +kernel
theorem dX9_byTrade_40 : decode cX9_byTrade 40 = .ok (.getfield 102, 3) := by decide +kernel
theorem dX9_byTrade_43 : decode cX9_byTrade 43 = .ok (.iload 4, 2) := by decide +kernel
theorem dX9_byTrade_45 : decode cX9_byTrade 45 = .ok (.aload_n 0, 1) := by decide +kernel
theorem dX9_byTrade_46 : decode cX9_byTrade 46 = .ok (.getfield 26, 3) := by decide +kernel
theorem dX9_byTrade_49 : decode cX9_byTrade 49 = .ok (.iload 4, 2) := by decide +kernel
theorem dX9_byTrade_51 : decode cX9_byTrade 51 = .ok (.iaload, 1) := by decide +kernel
theorem dX9_byTrade_52 : decode cX9_byTrade 52 = .ok (.iconst 3, 1) := by decide +kernel
theorem dX9_byTrade_53 : decode cX9_byTrade 53 = .ok (.if_icmp .ge 33, 3) := by decide +kernel
theorem dX9_byTrade_56 : decode cX9_byTrade 56 = .ok (.aload_n 0, 1) := by decide +kernel
theorem dX9_byTrade_57 : decode cX9_byTrade 57 = .ok (.iload_n 1, 1) := by decide +kernel
theorem dX9_byTrade_58 : decode cX9_byTrade 58 = .ok (.iload 5, 2) := by decide +kernel
theorem dX9_byTrade_60 : decode cX9_byTrade 60 = .ok (.iload 4, 2) := by decide +kernel
theorem dX9_byTrade_62 : decode cX9_byTrade 62 = .ok (.aload_n 0, 1) := by decide +kernel
theorem dX9_byTrade_63 : decode cX9_byTrade 63 = .ok (.getfield 29, 3) := by decide +kernel
theorem dX9_byTrade_66 : decode cX9_byTrade 66 = .ok (.iload 4, 2) := by decide +kernel
theorem dX9_byTrade_68 : decode cX9_byTrade 68 = .ok (.iaload, 1) := by decide +kernel
theorem dX9_byTrade_69 : decode cX9_byTrade 69 = .ok (.aload_n 0, 1) := by decide +kernel
theorem dX9_byTrade_70 : decode cX9_byTrade 70 = .ok (.getfield 29, 3) := by decide +kernel
theorem dX9_byTrade_73 : decode cX9_byTrade 73 = .ok (.iload 4, 2) := by decide +kernel
theorem dX9_byTrade_75 : decode cX9_byTrade 75 = .ok (.iaload, 1) := by decide +kernel
theorem dX9_byTrade_76 : decode cX9_byTrade 76 = .ok (.invokevirtual 312, 3) := by decide +kernel
theorem dX9_byTrade_79 : decode cX9_byTrade 79 = .ok (.ifCond .eq 7, 3) := by decide +kernel
theorem dX9_byTrade_82 : decode cX9_byTrade 82 = .ok (.iconst 1, 1) := by decide +kernel
theorem dX9_byTrade_83 : decode cX9_byTrade 83 = .ok (.goto 4, 3) := by decide +kernel
theorem dX9_byTrade_86 : decode cX9_byTrade 86 = .ok (.iconst 0, 1) := by decide +kernel
theorem dX9_byTrade_87 : decode cX9_byTrade 87 = .ok (.bastore, 1) := by decide +kernel
theorem dX9_byTrade_88 : decode cX9_byTrade 88 = .ok (.iinc 4 1, 3) := by decide +kernel
theorem dX9_byTrade_91 : decode cX9_byTrade 91 = .ok (.goto (-88), 3) := by decide +kernel
theorem dX9_byTrade_94 : decode cX9_byTrade 94 = .ok (.iconst 0, 1) := by decide +kernel
theorem dX9_byTrade_95 : decode cX9_byTrade 95 = .ok (.istore 4, 2) := by decide +kernel
theorem dX9_byTrade_97 : decode cX9_byTrade 97 = .ok (.iconst 0, 1) := by decide +kernel
theorem dX9_byTrade_98 : decode cX9_byTrade 98 = .ok (.istore 5, 2) := by decide +kernel
theorem dX9_byTrade_100 : decode cX9_byTrade 100 = .ok (.iload 5, 2) := by decide +kernel
theorem dX9_byTrade_102 : decode cX9_byTrade 102 = .ok (.aload_n 0, 1) := by decide +kernel
theorem dX9_byTrade_103 : decode cX9_byTrade 103 = .ok (.getfield 16, 3) := by decide +kernel
theorem dX9_byTrade_106 : decode cX9_byTrade 106 = .ok (.if_icmp .ge 47, 3) := by decide +kernel
theorem dX9_byTrade_109 : decode cX9_byTrade 109 = .ok (.iload 4, 2) := by decide +kernel
theorem dX9_byTrade_111 : decode cX9_byTrade 111 = .ok (.aload_n 0, 1) := by decide +kernel
theorem dX9_byTrade_112 : decode cX9_byTrade 112 = .ok (.iload 5, 2) := by decide +kernel
theorem dX9_byTrade_114 : decode cX9_byTrade 114 = .ok (.iload_n 2, 1) := by decide +kernel
theorem dX9_byTrade_115 : decode cX9_byTrade 115 = .ok (.invokevirtual 172, 3) := by decide +kernel
theorem dX9_byTrade_118 : decode cX9_byTrade 118 = .ok (.ifCond .eq 25, 3) := by decide +kernel
theorem dX9_byTrade_121 : decode cX9_byTrade 121 = .ok (.aload_n 0, 1) := by decide +kernel
theorem dX9_byTrade_122 : decode cX9_byTrade 122 = .ok (.iload_n 1, 1) := by decide +kernel
theorem dX9_byTrade_123 : decode cX9_byTrade 123 = .ok (.iload 5, 2) := by decide +kernel
theorem dX9_byTrade_125 : decode cX9_byTrade 125 = .ok (.iload_n 2, 1) := by decide +kernel
theorem dX9_byTrade_126 : decode cX9_byTrade 126 = .ok (.iload_n 3, 1) := by decide +kernel
theorem dX9_byTrade_127 : decode cX9_byTrade 127 = .ok (.iload_n 3, 1) := by decide +kernel
theorem dX9_byTrade_128 : decode cX9_byTrade 128 = .ok (.iconst 1, 1) := by decide +kernel
theorem dX9_byTrade_129 : decode cX9_byTrade 129 = .ok (.iadd, 1) := by decide +kernel
theorem dX9_byTrade_130 : decode cX9_byTrade 130 = .ok (.invokevirtual 312, 3) := by decide +kernel
theorem dX9_byTrade_133 : decode cX9_byTrade 133 = .ok (.ifCond .eq 10, 3) := by decide +kernel
theorem dX9_byTrade_136 : decode cX9_byTrade 136 = .ok (.iconst 1, 1) := by decide +kernel
theorem dX9_byTrade_137 : decode cX9_byTrade 137 = .ok (.iload 5, 2) := by decide +kernel
theorem dX9_byTrade_139 : decode cX9_byTrade 139 = .ok (.ishl, 1) := by decide +kernel
theorem dX9_byTrade_140 : decode cX9_byTrade 140 = .ok (.goto 4, 3) := by decide +kernel
theorem dX9_byTrade_143 : decode cX9_byTrade 143 = .ok (.iconst 0, 1) := by decide +kernel
theorem dX9_byTrade_144 : decode cX9_byTrade 144 = .ok (.ior, 1) := by decide +kernel
theorem dX9_byTrade_145 : decode cX9_byTrade 145 = .ok (.istore 4, 2) := by decide +kernel
theorem dX9_byTrade_147 : decode cX9_byTrade 147 = .ok (.iinc 5 1, 3) := by decide +kernel
theorem dX9_byTrade_150 : decode cX9_byTrade 150 = .ok (.goto (-50), 3) := by decide +kernel
theorem dX9_byTrade_153 : decode cX9_byTrade 153 = .ok (.iload 4, 2) := by decide +kernel
theorem dX9_byTrade_155 : decode cX9_byTrade 155 = .ok (.ireturn, 1) := by decide +kernel
theorem dX9_isRecognized_0 : decode cX9_isRecognized 0 = .ok (.iconst 0, 1) := by decide +kernel
theorem dX9_isRecognized_1 : decode cX9_isRecognized 1 = .ok (.istore_n 3, 1) := by decide +kernel
theorem dX9_isRecognized_2 : decode cX9_isRecognized 2 = .ok (.iconst 0, 1) := by decide +kernel
theorem dX9_isRecognized_3 : decode cX9_isRecognized 3 = .ok (.istore 4, 2) := by decide +kernel
theorem dX9_isRecognized_5 : decode cX9_isRecognized 5 = .ok (.iload 4, 2) := by decide +kernel
theorem dX9_isRecognized_7 : decode cX9_isRecognized 7 = .ok (.bipush 6, 2) := by decide +kernel
theorem dX9_isRecognized_9 : decode cX9_isRecognized 9 = .ok (.if_icmp .ge 136, 3) := by decide +kernel
theorem dX9_isRecognized_12 : decode cX9_isRecognized 12 = .ok (.iconst (-1), 1) := by decide +kernel
theorem dX9_isRecognized_13 : decode cX9_isRecognized 13 = .ok (.istore 5, 2) := by decide +kernel
theorem dX9_isRecognized_15 : decode cX9_isRecognized 15 = .ok (.iconst 0, 1) := by decide +kernel
theorem dX9_isRecognized_16 : decode cX9_isRecognized 16 = .ok (.istore 6, 2) := by decide +kernel
theorem dX9_isRecognized_18 : decode cX9_isRecognized 18 = .ok (.iload 6, 2) := by decide +kernel
theorem dX9_isRecognized_20 : decode cX9_isRecognized 20 = .ok (.aload_n 0, 1) := by decide +kernel
theorem dX9_isRecognized_21 : decode cX9_isRecognized 21 = .ok (.getfield 295, 3) := by decide +kernel
theorem dX9_isRecognized_24 : decode cX9_isRecognized 24 = .ok (.if_icmp .ge 87, 3) := by decide +kernel
theorem dX9_isRecognized_27 : decode cX9_isRecognized 27 = .ok (.aload_n 0, 1) := by decide +kernel
theorem dX9_isRecognized_28 : decode cX9_isRecognized 28 = .ok (.getfield 90, 3) := by decide +kernel
theorem dX9_isRecognized_31 : decode cX9_isRecognized 31 = .ok (.iload 6, 2) := by decide +kernel
theorem dX9_isRecognized_33 : decode cX9_isRecognized 33 = .ok (.iaload, 1) := by decide +kernel
theorem dX9_isRecognized_34 : decode cX9_isRecognized 34 = .ok (.iload 4, 2) := by decide +kernel
theorem dX9_isRecognized_36 : decode cX9_isRecognized 36 = .ok (.if_icmp .ne 29, 3) := by decide +kernel
theorem dX9_isRecognized_39 : decode cX9_isRecognized 39 = .ok (.aload_n 0, 1) := by decide +kernel
theorem dX9_isRecognized_40 : decode cX9_isRecognized 40 = .ok (.getfield 93, 3) := by decide +kernel
theorem dX9_isRecognized_43 : decode cX9_isRecognized 43 = .ok (.iload 6, 2) := by decide +kernel
theorem dX9_isRecognized_45 : decode cX9_isRecognized 45 = .ok (.iaload, 1) := by decide +kernel
theorem dX9_isRecognized_46 : decode cX9_isRecognized 46 = .ok (.iload_n 1, 1) := by decide +kernel
theorem dX9_isRecognized_47 : decode cX9_isRecognized 47 = .ok (.if_icmp .ne 18, 3) := by decide +kernel
theorem dX9_isRecognized_50 : decode cX9_isRecognized 50 = .ok (.aload_n 0, 1) := by decide +kernel
theorem dX9_isRecognized_51 : decode cX9_isRecognized 51 = .ok (.getfield 96, 3) := by decide +kernel
theorem dX9_isRecognized_54 : decode cX9_isRecognized 54 = .ok (.iload 6, 2) := by decide +kernel
theorem dX9_isRecognized_56 : decode cX9_isRecognized 56 = .ok (.iaload, 1) := by decide +kernel
theorem dX9_isRecognized_57 : decode cX9_isRecognized 57 = .ok (.iload_n 2, 1) := by decide +kernel
theorem dX9_isRecognized_58 : decode cX9_isRecognized 58 = .ok (.if_icmp .gt 7, 3) := by decide +kernel
theorem dX9_isRecognized_61 : decode cX9_isRecognized 61 = .ok (.iconst 1, 1) := by decide +kernel
theorem dX9_isRecognized_62 : decode cX9_isRecognized 62 = .ok (.goto 4, 3) := by decide +kernel
theorem dX9_isRecognized_65 : decode cX9_isRecognized 65 = .ok (.iconst 0, 1) := by decide +kernel
theorem dX9_isRecognized_66 : decode cX9_isRecognized 66 = .ok (.istore 7, 2) := by decide +kernel
theorem dX9_isRecognized_68 : decode cX9_isRecognized 68 = .ok (.iload 7, 2) := by decide +kernel
theorem dX9_isRecognized_70 : decode cX9_isRecognized 70 = .ok (.ifCond .eq 31, 3) := by decide +kernel
theorem dX9_isRecognized_73 : decode cX9_isRecognized 73 = .ok (.iload 5, 2) := by decide +kernel
theorem dX9_isRecognized_75 : decode cX9_isRecognized 75 = .ok (.iconst (-1), 1) := by decide +kernel
theorem dX9_isRecognized_76 : decode cX9_isRecognized 76 = .ok (.if_icmp .eq 20, 3) := by decide +kernel
theorem dX9_isRecognized_79 : decode cX9_isRecognized 79 = .ok (.aload_n 0, 1) := by decide +kernel
theorem dX9_isRecognized_80 : decode cX9_isRecognized 80 = .ok (.getfield 96, 3) := by decide +kernel
theorem dX9_isRecognized_83 : decode cX9_isRecognized 83 = .ok (.iload 6, 2) := by decide +kernel
theorem dX9_isRecognized_85 : decode cX9_isRecognized 85 = .ok (.iaload, 1) := by decide +kernel
theorem dX9_isRecognized_86 : decode cX9_isRecognized 86 = .ok (.aload_n 0, 1) := by decide +kernel
theorem dX9_isRecognized_87 : decode cX9_isRecognized 87 = .ok (.getfield 96, 3) := by decide +kernel
theorem dX9_isRecognized_90 : decode cX9_isRecognized 90 = .ok (.iload 5, 2) := by decide +kernel
theorem dX9_isRecognized_92 : decode cX9_isRecognized 92 = .ok (.iaload, 1) := by decide +kernel
theorem dX9_isRecognized_93 : decode cX9_isRecognized 93 = .ok (.if_icmp .lt 8, 3) := by decide +kernel
theorem dX9_isRecognized_96 : decode cX9_isRecognized 96 = .ok (.iload 6, 2) := by decide +kernel
theorem dX9_isRecognized_98 : decode cX9_isRecognized 98 = .ok (.goto 5, 3) := by decide +kernel
theorem dX9_isRecognized_101 : decode cX9_isRecognized 101 = .ok (.iload 5, 2) := by decide +kernel
theorem dX9_isRecognized_103 : decode cX9_isRecognized 103 = .ok (.istore 5, 2) := by decide +kernel
theorem dX9_isRecognized_105 : decode cX9_isRecognized 105 = .ok (.iinc 6 1, 3) := by decide +kernel
theorem dX9_isRecognized_108 : decode cX9_isRecognized 108 = .ok (.goto (-90), 3) := by decide +kernel
theorem dX9_isRecognized_111 : decode cX9_isRecognized 111 = .ok (.iload_n 3, 1) := by decide +kernel
theorem dX9_isRecognized_112 : decode cX9_isRecognized 112 = .ok (.iload 5, 2) := by decide +kernel
theorem dX9_isRecognized_114 : decode cX9_isRecognized 114 = .ok (.iconst (-1), 1) := by decide +kernel
theorem dX9_isRecognized_115 : decode cX9_isRecognized 115 = .ok (.if_icmp .ne 7, 3) := by decide +kernel
theorem dX9_isRecognized_118 : decode cX9_isRecognized 118 = .ok (.iconst 0, 1) := by decide +kernel
theorem dX9_isRecognized_119 : decode cX9_isRecognized 119 = .ok (.goto 18, 3) := by decide +kernel
theorem dX9_isRecognized_122 : decode cX9_isRecognized 122 = .ok (.aload_n 0, 1) := by decide +kernel
theorem dX9_isRecognized_123 : decode cX9_isRecognized 123 = .ok (.getfield 99, 3) := by decide +kernel
theorem dX9_isRecognized_126 : decode cX9_isRecognized 126 = .ok (.iload 5, 2) := by decide +kernel
theorem dX9_isRecognized_128 : decode cX9_isRecognized 128 = .ok (.baload, 1) := by decide +kernel
theorem dX9_isRecognized_129 : decode cX9_isRecognized 129 = .ok (.ifCond .eq 7, 3) := by decide +kernel
theorem dX9_isRecognized_132 : decode cX9_isRecognized 132 = .ok (.iconst 1, 1) := by decide +kernel
theorem dX9_isRecognized_133 : decode cX9_isRecognized 133 = .ok (.goto 4, 3) := by decide +kernel
theorem dX9_isRecognized_136 : decode cX9_isRecognized 136 = .ok (.iconst (-1), 1) := by decide +kernel
theorem dX9_isRecognized_137 : decode cX9_isRecognized 137 = .ok (.iadd, 1) := by decide +kernel
theorem dX9_isRecognized_138 : decode cX9_isRecognized 138 = .ok (.istore_n 3, 1) := by decide +kernel
theorem dX9_isRecognized_139 : decode cX9_isRecognized 139 = .ok (.iinc 4 1, 3) := by decide +kernel
theorem dX9_isRecognized_142 : decode cX9_isRecognized 142 = .ok (.goto (-137), 3) := by decide +kernel
theorem dX9_isRecognized_145 : decode cX9_isRecognized 145 = .ok (.iload_n 3, 1) := by decide +kernel
theorem dX9_isRecognized_146 : decode cX9_isRecognized 146 = .ok (.ifCond .le 7, 3) := by decide +kernel
theorem dX9_isRecognized_149 : decode cX9_isRecognized 149 = .ok (.iconst 1, 1) := by decide +kernel
theorem dX9_isRecognized_150 : decode cX9_isRecognized 150 = .ok (.goto 4, 3) := by decide +kernel
theorem dX9_isRecognized_153 : decode cX9_isRecognized 153 = .ok (.iconst 0, 1) := by decide +kernel
theorem dX9_isRecognized_154 : decode cX9_isRecognized 154 = .ok (.ireturn, 1) := by decide +kernel
theorem dX9_byRank_0 : decode cX9_byRank 0 = .ok (.iconst 0, 1) := by decide +kernel
theorem dX9_byRank_1 : decode cX9_byRank 1 = .ok (.istore 4, 2) := by decide +kernel
theorem dX9_byRank_3 : decode cX9_byRank 3 = .ok (.iload 4, 2) := by decide +kernel
theorem dX9_byRank_5 : decode cX9_byRank 5 = .ok (.aload_n 0, 1) := by decide +kernel
theorem dX9_byRank_6 : decode cX9_byRank 6 = .ok (.getfield 16, 3) := by decide +kernel
theorem dX9_byRank_9 : decode cX9_byRank 9 = .ok (.if_icmp .ge 108, 3) := by decide +kernel
theorem dX9_byRank_12 : decode cX9_byRank 12 = .ok (.aload_n 0, 1) := by decide +kernel
theorem dX9_byRank_13 : decode cX9_byRank 13 = .ok (.iload 4, 2) := by decide +kernel
theorem dX9_byRank_15 : decode cX9_byRank 15 = .ok (.iload_n 2, 1) := by decide +kernel
theorem dX9_byRank_16 : decode cX9_byRank 16 = .ok (.invokevirtual 172, 3) := by decide +kernel
theorem dX9_byRank_19 : decode cX9_byRank 19 = .ok (.ifCond .eq 92, 3) := by decide +kernel
theorem dX9_byRank_22 : decode cX9_byRank 22 = .ok (.aload_n 0, 1) := by decide +kernel
theorem dX9_byRank_23 : decode cX9_byRank 23 = .ok (.getfield 20, 3) := by decide +kernel
theorem dX9_byRank_26 : decode cX9_byRank 26 = .ok (.iload 4, 2) := by decide +kernel
theorem dX9_byRank_28 : decode cX9_byRank 28 = .ok (.iaload, 1) := by decide +kernel
theorem dX9_byRank_29 : decode cX9_byRank 29 = .ok (.aload_n 0, 1) := by decide +kernel
theorem dX9_byRank_30 : decode cX9_byRank 30 = .ok (.getfield 62, 3) := by decide +kernel
theorem dX9_byRank_33 : decode cX9_byRank 33 = .ok (.iload_n 1, 1) := by decide +kernel
theorem dX9_byRank_34 : decode cX9_byRank 34 = .ok (.iaload, 1) := by decide +kernel
theorem dX9_byRank_35 : decode cX9_byRank 35 = .ok (.if_icmp .ne 76, 3) := by decide +kernel
theorem dX9_byRank_38 : decode cX9_byRank 38 = .ok (.iconst 0, 1) := by decide +kernel
theorem dX9_byRank_39 : decode cX9_byRank 39 = .ok (.istore 5, 2) := by decide +kernel
theorem dX9_byRank_41 : decode cX9_byRank 41 = .ok (.iconst 0, 1) := by decide +kernel
theorem dX9_byRank_42 : decode cX9_byRank 42 = .ok (.istore 6, 2) := by decide +kernel
theorem dX9_byRank_44 : decode cX9_byRank 44 = .ok (.iload 6, 2) := by decide +kernel
theorem dX9_byRank_46 : decode cX9_byRank 46 = .ok (.iload_n 2, 1) := by decide +kernel
theorem dX9_byRank_47 : decode cX9_byRank 47 = .ok (.if_icmp .ge 44, 3) := by decide +kernel
theorem dX9_byRank_50 : decode cX9_byRank 50 = .ok (.iload 5, 2) := by decide +kernel
theorem dX9_byRank_52 : decode cX9_byRank 52 = .ok (.ifCond .ne 26, 3) := by decide +kernel
theorem dX9_byRank_55 : decode cX9_byRank 55 = .ok (.aload_n 0, 1) := by decide +kernel
theorem dX9_byRank_56 : decode cX9_byRank 56 = .ok (.getfield 26, 3) := by decide +kernel
theorem dX9_byRank_59 : decode cX9_byRank 59 = .ok (.iload 6, 2) := by decide +kernel
theorem dX9_byRank_61 : decode cX9_byRank 61 = .ok (.iaload, 1) := by decide +kernel
theorem dX9_byRank_62 : decode cX9_byRank 62 = .ok (.iconst 4, 1) := by decide +kernel
theorem dX9_byRank_63 : decode cX9_byRank 63 = .ok (.if_icmp .ne 19, 3) := by decide +kernel
theorem dX9_byRank_66 : decode cX9_byRank 66 = .ok (.aload_n 0, 1) := by decide +kernel
theorem dX9_byRank_67 : decode cX9_byRank 67 = .ok (.getfield 32, 3) := by decide +kernel
theorem dX9_byRank_70 : decode cX9_byRank 70 = .ok (.iload 6, 2) := by decide +kernel
theorem dX9_byRank_72 : decode cX9_byRank 72 = .ok (.iaload, 1) := by decide +kernel
theorem dX9_byRank_73 : decode cX9_byRank 73 = .ok (.iload 4, 2) := by decide +kernel
theorem dX9_byRank_75 : decode cX9_byRank 75 = .ok (.if_icmp .ne 7, 3) := by decide +kernel
theorem dX9_byRank_78 : decode cX9_byRank 78 = .ok (.iconst 1, 1) := by decide +kernel
theorem dX9_byRank_79 : decode cX9_byRank 79 = .ok (.goto 4, 3) := by decide +kernel
theorem dX9_byRank_82 : decode cX9_byRank 82 = .ok (.iconst 0, 1) := by decide +kernel
theorem dX9_byRank_83 : decode cX9_byRank 83 = .ok (.istore 5, 2) := by decide +kernel
theorem dX9_byRank_85 : decode cX9_byRank 85 = .ok (.iinc 6 1, 3) := by decide +kernel
theorem dX9_byRank_88 : decode cX9_byRank 88 = .ok (.goto (-44), 3) := by decide +kernel
theorem dX9_byRank_91 : decode cX9_byRank 91 = .ok (.iload 5, 2) := by decide +kernel
theorem dX9_byRank_93 : decode cX9_byRank 93 = .ok (.ifCond .eq 18, 3) := by decide +kernel
theorem dX9_byRank_96 : decode cX9_byRank 96 = .ok (.aload_n 0, 1) := by decide +kernel
theorem dX9_byRank_97 : decode cX9_byRank 97 = .ok (.iload 4, 2) := by decide +kernel
theorem dX9_byRank_99 : decode cX9_byRank 99 = .ok (.iload_n 3, 1) := by decide +kernel
theorem dX9_byRank_100 : decode cX9_byRank 100 = .ok (.invokevirtual 316, 3) := by decide +kernel
theorem dX9_byRank_103 : decode cX9_byRank 103 = .ok (.ifCond .eq 8, 3) := by decide +kernel
theorem dX9_byRank_106 : decode cX9_byRank 106 = .ok (.iconst 1, 1) := by decide +kernel
theorem dX9_byRank_107 : decode cX9_byRank 107 = .ok (.iload 4, 2) := by decide +kernel
theorem dX9_byRank_109 : decode cX9_byRank 109 = .ok (.ishl, 1) := by decide +kernel
theorem dX9_byRank_110 : decode cX9_byRank 110 = .ok (.ireturn, 1) := by decide +kernel
theorem dX9_byRank_111 : decode cX9_byRank 111 = .ok (.iinc 4 1, 3) := by decide +kernel
theorem dX9_byRank_114 : decode cX9_byRank 114 = .ok (.goto (-111), 3) := by decide +kernel
theorem dX9_byRank_117 : decode cX9_byRank 117 = .ok (.aload_n 0, 1) := by decide +kernel
theorem dX9_byRank_118 : decode cX9_byRank 118 = .ok (.getfield 47, 3) := by decide +kernel
theorem dX9_byRank_121 : decode cX9_byRank 121 = .ok (.iload_n 2, 1) := by decide +kernel
theorem dX9_byRank_122 : decode cX9_byRank 122 = .ok (.iaload, 1) := by decide +kernel
theorem dX9_byRank_123 : decode cX9_byRank 123 = .ok (.iconst 1, 1) := by decide +kernel
theorem dX9_byRank_124 : decode cX9_byRank 124 = .ok (.aload_n 0, 1) := by decide +kernel
theorem dX9_byRank_125 : decode cX9_byRank 125 = .ok (.getfield 62, 3) := by decide +kernel
theorem dX9_byRank_128 : decode cX9_byRank 128 = .ok (.iload_n 1, 1) := by decide +kernel
theorem dX9_byRank_129 : decode cX9_byRank 129 = .ok (.iaload, 1) := by decide +kernel
theorem dX9_byRank_130 : decode cX9_byRank 130 = .ok (.ishl, 1) := by decide +kernel
theorem dX9_byRank_131 : decode cX9_byRank 131 = .ok (.iand, 1) := by decide +kernel
theorem dX9_byRank_132 : decode cX9_byRank 132 = .ok (.ireturn, 1) := by decide +kernel
theorem dX9_boundOf_0 : decode cX9_boundOf 0 = .ok (.iload_n 2, 1) := by decide +kernel
theorem dX9_boundOf_1 : decode cX9_boundOf 1 = .ok (.aload_n 0, 1) := by decide +kernel
theorem dX9_boundOf_2 : decode cX9_boundOf 2 = .ok (.getfield 71, 3) := by decide +kernel
theorem dX9_boundOf_5 : decode cX9_boundOf 5 = .ok (.iload_n 1, 1) := by decide +kernel
theorem dX9_boundOf_6 : decode cX9_boundOf 6 = .ok (.iaload, 1) := by decide +kernel
theorem dX9_boundOf_7 : decode cX9_boundOf 7 = .ok (.if_icmp .ge 5, 3) := by decide +kernel
theorem dX9_boundOf_10 : decode cX9_boundOf 10 = .ok (.iconst 0, 1) := by decide +kernel
theorem dX9_boundOf_11 : decode cX9_boundOf 11 = .ok (.ireturn, 1) := by decide +kernel
theorem dX9_boundOf_12 : decode cX9_boundOf 12 = .ok (.aload_n 0, 1) := by decide +kernel
theorem dX9_boundOf_13 : decode cX9_boundOf 13 = .ok (.iload_n 2, 1) := by decide +kernel
theorem dX9_boundOf_14 : decode cX9_boundOf 14 = .ok (.invokevirtual 183, 3) := by decide +kernel
theorem dX9_boundOf_17 : decode cX9_boundOf 17 = .ok (.istore_n 3, 1) := by decide +kernel
theorem dX9_boundOf_18 : decode cX9_boundOf 18 = .ok (.aload_n 0, 1) := by decide +kernel
theorem dX9_boundOf_19 : decode cX9_boundOf 19 = .ok (.getfield 59, 3) := by decide +kernel
theorem dX9_boundOf_22 : decode cX9_boundOf 22 = .ok (.iload_n 1, 1) := by decide +kernel
theorem dX9_boundOf_23 : decode cX9_boundOf 23 = .ok (.iaload, 1) := by decide +kernel
theorem dX9_boundOf_24 : decode cX9_boundOf 24 = .ok (.ifCond .ne 24, 3) := by decide +kernel
theorem dX9_boundOf_27 : decode cX9_boundOf 27 = .ok (.iconst 1, 1) := by decide +kernel
theorem dX9_boundOf_28 : decode cX9_boundOf 28 = .ok (.aload_n 0, 1) := by decide +kernel
theorem dX9_boundOf_29 : decode cX9_boundOf 29 = .ok (.getfield 44, 3) := by decide +kernel
theorem dX9_boundOf_32 : decode cX9_boundOf 32 = .ok (.bipush 8, 2) := by decide +kernel
theorem dX9_boundOf_34 : decode cX9_boundOf 34 = .ok (.iload_n 3, 1) := by decide +kernel
theorem dX9_boundOf_35 : decode cX9_boundOf 35 = .ok (.imul, 1) := by decide +kernel
theorem dX9_boundOf_36 : decode cX9_boundOf 36 = .ok (.aload_n 0, 1) := by decide +kernel
theorem dX9_boundOf_37 : decode cX9_boundOf 37 = .ok (.getfield 68, 3) := by decide +kernel
theorem dX9_boundOf_40 : decode cX9_boundOf 40 = .ok (.iload_n 1, 1) := by decide +kernel
theorem dX9_boundOf_41 : decode cX9_boundOf 41 = .ok (.iaload, 1) := by decide +kernel
theorem dX9_boundOf_42 : decode cX9_boundOf 42 = .ok (.iadd, 1) := by decide +kernel
theorem dX9_boundOf_43 : decode cX9_boundOf 43 = .ok (.iaload, 1) := by decide +kernel
theorem dX9_boundOf_44 : decode cX9_boundOf 44 = .ok (.ishl, 1) := by decide +kernel
theorem dX9_boundOf_45 : decode cX9_boundOf 45 = .ok (.goto 30, 3) := by decide +kernel
theorem dX9_boundOf_48 : decode cX9_boundOf 48 = .ok (.aload_n 0, 1) := by decide +kernel
theorem dX9_boundOf_49 : decode cX9_boundOf 49 = .ok (.getfield 59, 3) := by decide +kernel
theorem dX9_boundOf_52 : decode cX9_boundOf 52 = .ok (.iload_n 1, 1) := by decide +kernel
theorem dX9_boundOf_53 : decode cX9_boundOf 53 = .ok (.iaload, 1) := by decide +kernel
theorem dX9_boundOf_54 : decode cX9_boundOf 54 = .ok (.iconst 1, 1) := by decide +kernel
theorem dX9_boundOf_55 : decode cX9_boundOf 55 = .ok (.if_icmp .ne 13, 3) := by decide +kernel
theorem dX9_boundOf_58 : decode cX9_boundOf 58 = .ok (.aload_n 0, 1) := by decide +kernel
theorem dX9_boundOf_59 : decode cX9_boundOf 59 = .ok (.iload_n 1, 1) := by decide +kernel
theorem dX9_boundOf_60 : decode cX9_boundOf 60 = .ok (.iload_n 3, 1) := by decide +kernel
theorem dX9_boundOf_61 : decode cX9_boundOf 61 = .ok (.iload_n 2, 1) := by decide +kernel
theorem dX9_boundOf_62 : decode cX9_boundOf 62 = .ok (.invokevirtual 319, 3) := by decide +kernel
theorem dX9_boundOf_65 : decode cX9_boundOf 65 = .ok (.goto 10, 3) := by decide +kernel
theorem dX9_boundOf_68 : decode cX9_boundOf 68 = .ok (.aload_n 0, 1) := by decide +kernel
theorem dX9_boundOf_69 : decode cX9_boundOf 69 = .ok (.iload_n 1, 1) := by decide +kernel
theorem dX9_boundOf_70 : decode cX9_boundOf 70 = .ok (.iload_n 3, 1) := by decide +kernel
theorem dX9_boundOf_71 : decode cX9_boundOf 71 = .ok (.iload_n 2, 1) := by decide +kernel
theorem dX9_boundOf_72 : decode cX9_boundOf 72 = .ok (.invokevirtual 322, 3) := by decide +kernel
theorem dX9_boundOf_75 : decode cX9_boundOf 75 = .ok (.ireturn, 1) := by decide +kernel
theorem dX9_bound_0 : decode cX9_bound 0 = .ok (.aload_n 0, 1) := by decide +kernel
theorem dX9_bound_1 : decode cX9_bound 1 = .ok (.iload_n 1, 1) := by decide +kernel
theorem dX9_bound_2 : decode cX9_bound 2 = .ok (.invokevirtual 289, 3) := by decide +kernel
theorem dX9_bound_5 : decode cX9_bound 5 = .ok (.ifCond .ne 6, 3) := by decide +kernel
theorem dX9_bound_8 : decode cX9_bound 8 = .ok (.bipush (-2), 2) := by decide +kernel
theorem dX9_bound_10 : decode cX9_bound 10 = .ok (.ireturn, 1) := by decide +kernel
theorem dX9_bound_11 : decode cX9_bound 11 = .ok (.iload_n 2, 1) := by decide +kernel
theorem dX9_bound_12 : decode cX9_bound 12 = .ok (.invokestatic 165, 3) := by decide +kernel
theorem dX9_bound_15 : decode cX9_bound 15 = .ok (.ifCond .eq 12, 3) := by decide +kernel
theorem dX9_bound_18 : decode cX9_bound 18 = .ok (.aload_n 0, 1) := by decide +kernel
theorem dX9_bound_19 : decode cX9_bound 19 = .ok (.iload_n 1, 1) := by decide +kernel
theorem dX9_bound_20 : decode cX9_bound 20 = .ok (.iload_n 2, 1) := by decide +kernel
theorem dX9_bound_21 : decode cX9_bound 21 = .ok (.invokevirtual 325, 3) := by decide +kernel
theorem dX9_bound_24 : decode cX9_bound 24 = .ok (.goto 5, 3) := by decide +kernel
theorem dX9_bound_27 : decode cX9_bound 27 = .ok (.bipush (-3), 2) := by decide +kernel
theorem dX9_bound_29 : decode cX9_bound 29 = .ok (.ireturn, 1) := by decide +kernel
theorem dX9_since_0 : decode cX9_since 0 = .ok (.aload_n 0, 1) := by decide +kernel
theorem dX9_since_1 : decode cX9_since 1 = .ok (.iload_n 1, 1) := by decide +kernel
theorem dX9_since_2 : decode cX9_since 2 = .ok (.invokevirtual 289, 3) := by decide +kernel
theorem dX9_since_5 : decode cX9_since 5 = .ok (.ifCond .eq 11, 3) := by decide +kernel
theorem dX9_since_8 : decode cX9_since 8 = .ok (.aload_n 0, 1) := by decide +kernel
theorem dX9_since_9 : decode cX9_since 9 = .ok (.iload_n 2, 1) := by decide +kernel
theorem dX9_since_10 : decode cX9_since 10 = .ok (.invokevirtual 187, 3) := by decide +kernel
theorem dX9_since_13 : decode cX9_since 13 = .ok (.ifCond .ne 6, 3) := by decide +kernel
theorem dX9_since_16 : decode cX9_since 16 = .ok (.bipush (-2), 2) := by decide +kernel
theorem dX9_since_18 : decode cX9_since 18 = .ok (.ireturn, 1) := by decide +kernel
theorem dX9_since_19 : decode cX9_since 19 = .ok (.aload_n 0, 1) := by decide +kernel
theorem dX9_since_20 : decode cX9_since 20 = .ok (.getfield 71, 3) := by decide +kernel
theorem dX9_since_23 : decode cX9_since 23 = .ok (.iload_n 1, 1) := by decide +kernel
theorem dX9_since_24 : decode cX9_since 24 = .ok (.iaload, 1) := by decide +kernel
theorem dX9_since_25 : decode cX9_since 25 = .ok (.istore_n 3, 1) := by decide +kernel
theorem dX9_since_26 : decode cX9_since 26 = .ok (.iload_n 3, 1) := by decide +kernel
theorem dX9_since_27 : decode cX9_since 27 = .ok (.sipush 1000, 3) := by decide +kernel
theorem dX9_since_30 : decode cX9_since 30 = .ok (.if_icmp .ge 25, 3) := by decide +kernel
theorem dX9_since_33 : decode cX9_since 33 = .ok (.aload_n 0, 1) := by decide +kernel
theorem dX9_since_34 : decode cX9_since 34 = .ok (.iload_n 1, 1) := by decide +kernel
theorem dX9_since_35 : decode cX9_since 35 = .ok (.iload_n 3, 1) := by decide +kernel
theorem dX9_since_36 : decode cX9_since 36 = .ok (.invokevirtual 325, 3) := by decide +kernel
theorem dX9_since_39 : decode cX9_since 39 = .ok (.iload_n 2, 1) := by decide +kernel
theorem dX9_since_40 : decode cX9_since 40 = .ok (.ishr, 1) := by decide +kernel
theorem dX9_since_41 : decode cX9_since 41 = .ok (.iconst 1, 1) := by decide +kernel
theorem dX9_since_42 : decode cX9_since 42 = .ok (.iand, 1) := by decide +kernel
theorem dX9_since_43 : decode cX9_since 43 = .ok (.iconst 1, 1) := by decide +kernel
theorem dX9_since_44 : decode cX9_since 44 = .ok (.if_icmp .ne 5, 3) := by decide +kernel
theorem dX9_since_47 : decode cX9_since 47 = .ok (.iload_n 3, 1) := by decide +kernel
theorem dX9_since_48 : decode cX9_since 48 = .ok (.ireturn, 1) := by decide +kernel
theorem dX9_since_49 : decode cX9_since 49 = .ok (.iinc 3 1, 3) := by decide +kernel
theorem dX9_since_52 : decode cX9_since 52 = .ok (.goto (-26), 3) := by decide +kernel
theorem dX9_since_55 : decode cX9_since 55 = .ok (.iconst (-1), 1) := by decide +kernel
theorem dX9_since_56 : decode cX9_since 56 = .ok (.ireturn, 1) := by decide +kernel
theorem dX9_debt_0 : decode cX9_debt 0 = .ok (.aload_n 0, 1) := by decide +kernel
theorem dX9_debt_1 : decode cX9_debt 1 = .ok (.iload_n 1, 1) := by decide +kernel
theorem dX9_debt_2 : decode cX9_debt 2 = .ok (.invokevirtual 187, 3) := by decide +kernel
theorem dX9_debt_5 : decode cX9_debt 5 = .ok (.ifCond .eq 16, 3) := by decide +kernel
theorem dX9_debt_8 : decode cX9_debt 8 = .ok (.iload_n 3, 1) := by decide +kernel
theorem dX9_debt_9 : decode cX9_debt 9 = .ok (.iconst (-1), 1) := by decide +kernel
theorem dX9_debt_10 : decode cX9_debt 10 = .ok (.if_icmp .eq 14, 3) := by decide +kernel
theorem dX9_debt_13 : decode cX9_debt 13 = .ok (.aload_n 0, 1) := by decide +kernel
theorem dX9_debt_14 : decode cX9_debt 14 = .ok (.iload_n 3, 1) := by decide +kernel
theorem dX9_debt_15 : decode cX9_debt 15 = .ok (.invokevirtual 190, 3) := by decide +kernel
theorem dX9_debt_18 : decode cX9_debt 18 = .ok (.ifCond .ne 6, 3) := by decide +kernel
theorem dX9_debt_21 : decode cX9_debt 21 = .ok (.bipush (-2), 2) := by decide +kernel
theorem dX9_debt_23 : decode cX9_debt 23 = .ok (.ireturn, 1) := by decide +kernel
theorem dX9_debt_24 : decode cX9_debt 24 = .ok (.iload_n 2, 1) := by decide +kernel
theorem dX9_debt_25 : decode cX9_debt 25 = .ok (.iconst 1, 1) := by decide +kernel
theorem dX9_debt_26 : decode cX9_debt 26 = .ok (.sipush 9999, 3) := by decide +kernel
theorem dX9_debt_29 : decode cX9_debt 29 = .ok (.invokestatic 148, 3) := by decide +kernel
theorem dX9_debt_32 : decode cX9_debt 32 = .ok (.ifCond .eq 11, 3) := by decide +kernel
theorem dX9_debt_35 : decode cX9_debt 35 = .ok (.iload 4, 2) := by decide +kernel
theorem dX9_debt_37 : decode cX9_debt 37 = .ok (.invokestatic 165, 3) := by decide +kernel
theorem dX9_debt_40 : decode cX9_debt 40 = .ok (.ifCond .ne 6, 3) := by decide +kernel
theorem dX9_debt_43 : decode cX9_debt 43 = .ok (.bipush (-3), 2) := by decide +kernel
theorem dX9_debt_45 : decode cX9_debt 45 = .ok (.ireturn, 1) := by decide +kernel
theorem dX9_debt_46 : decode cX9_debt 46 = .ok (.aload_n 0, 1) := by decide +kernel
theorem dX9_debt_47 : decode cX9_debt 47 = .ok (.iload 4, 2) := by decide +kernel
theorem dX9_debt_49 : decode cX9_debt 49 = .ok (.invokevirtual 183, 3) := by decide +kernel
theorem dX9_debt_52 : decode cX9_debt 52 = .ok (.istore 5, 2) := by decide +kernel
theorem dX9_debt_54 : decode cX9_debt 54 = .ok (.aload_n 0, 1) := by decide +kernel
theorem dX9_debt_55 : decode cX9_debt 55 = .ok (.iload_n 1, 1) := by decide +kernel
theorem dX9_debt_56 : decode cX9_debt 56 = .ok (.iload 5, 2) := by decide +kernel
theorem dX9_debt_58 : decode cX9_debt 58 = .ok (.invokevirtual 172, 3) := by decide +kernel
theorem dX9_debt_61 : decode cX9_debt 61 = .ok (.ifCond .eq 24, 3) := by decide +kernel
theorem dX9_debt_64 : decode cX9_debt 64 = .ok (.iload_n 3, 1) := by decide +kernel
theorem dX9_debt_65 : decode cX9_debt 65 = .ok (.iconst (-1), 1) := by decide +kernel
theorem dX9_debt_66 : decode cX9_debt 66 = .ok (.if_icmp .eq 22, 3) := by decide +kernel
theorem dX9_debt_69 : decode cX9_debt 69 = .ok (.aload_n 0, 1) := by decide +kernel
theorem dX9_debt_70 : decode cX9_debt 70 = .ok (.getfield 44, 3) := by decide +kernel
theorem dX9_debt_73 : decode cX9_debt 73 = .ok (.bipush 8, 2) := by decide +kernel
theorem dX9_debt_75 : decode cX9_debt 75 = .ok (.iload 5, 2) := by decide +kernel
theorem dX9_debt_77 : decode cX9_debt 77 = .ok (.imul, 1) := by decide +kernel
theorem dX9_debt_78 : decode cX9_debt 78 = .ok (.iload_n 3, 1) := by decide +kernel
theorem dX9_debt_79 : decode cX9_debt 79 = .ok (.iadd, 1) := by decide +kernel
theorem dX9_debt_80 : decode cX9_debt 80 = .ok (.iaload, 1) := by decide +kernel
theorem dX9_debt_81 : decode cX9_debt 81 = .ok (.iload_n 1, 1) := by decide +kernel
theorem dX9_debt_82 : decode cX9_debt 82 = .ok (.if_icmp .eq 6, 3) := by decide +kernel
theorem dX9_debt_85 : decode cX9_debt 85 = .ok (.bipush (-4), 2) := by decide +kernel
theorem dX9_debt_87 : decode cX9_debt 87 = .ok (.ireturn, 1) := by decide +kernel
theorem dX9_debt_88 : decode cX9_debt 88 = .ok (.aload_n 0, 1) := by decide +kernel
theorem dX9_debt_89 : decode cX9_debt 89 = .ok (.getfield 162, 3) := by decide +kernel
theorem dX9_debt_92 : decode cX9_debt 92 = .ok (.bipush 8, 2) := by decide +kernel
theorem dX9_debt_94 : decode cX9_debt 94 = .ok (.if_icmp .ne 6, 3) := by decide +kernel
theorem dX9_debt_97 : decode cX9_debt 97 = .ok (.bipush (-5), 2) := by decide +kernel
theorem dX9_debt_99 : decode cX9_debt 99 = .ok (.ireturn, 1) := by decide +kernel
theorem dX9_debt_100 : decode cX9_debt 100 = .ok (.aload_n 0, 1) := by decide +kernel
theorem dX9_debt_101 : decode cX9_debt 101 = .ok (.getfield 108, 3) := by decide +kernel
theorem dX9_debt_104 : decode cX9_debt 104 = .ok (.aload_n 0, 1) := by decide +kernel
theorem dX9_debt_105 : decode cX9_debt 105 = .ok (.getfield 162, 3) := by decide +kernel
theorem dX9_debt_108 : decode cX9_debt 108 = .ok (.iload_n 1, 1) := by decide +kernel
theorem dX9_debt_109 : decode cX9_debt 109 = .ok (.iastore, 1) := by decide +kernel
theorem dX9_debt_110 : decode cX9_debt 110 = .ok (.aload_n 0, 1) := by decide +kernel
theorem dX9_debt_111 : decode cX9_debt 111 = .ok (.getfield 111, 3) := by decide +kernel
theorem dX9_debt_114 : decode cX9_debt 114 = .ok (.aload_n 0, 1) := by decide +kernel
theorem dX9_debt_115 : decode cX9_debt 115 = .ok (.getfield 162, 3) := by decide +kernel
theorem dX9_debt_118 : decode cX9_debt 118 = .ok (.iload_n 2, 1) := by decide +kernel
theorem dX9_debt_119 : decode cX9_debt 119 = .ok (.iastore, 1) := by decide +kernel
theorem dX9_debt_120 : decode cX9_debt 120 = .ok (.aload_n 0, 1) := by decide +kernel
theorem dX9_debt_121 : decode cX9_debt 121 = .ok (.getfield 114, 3) := by decide +kernel
theorem dX9_debt_124 : decode cX9_debt 124 = .ok (.aload_n 0, 1) := by decide +kernel
theorem dX9_debt_125 : decode cX9_debt 125 = .ok (.getfield 162, 3) := by decide +kernel
theorem dX9_debt_128 : decode cX9_debt 128 = .ok (.iload_n 3, 1) := by decide +kernel
theorem dX9_debt_129 : decode cX9_debt 129 = .ok (.iastore, 1) := by decide +kernel
theorem dX9_debt_130 : decode cX9_debt 130 = .ok (.aload_n 0, 1) := by decide +kernel
theorem dX9_debt_131 : decode cX9_debt 131 = .ok (.getfield 117, 3) := by decide +kernel
theorem dX9_debt_134 : decode cX9_debt 134 = .ok (.aload_n 0, 1) := by decide +kernel
theorem dX9_debt_135 : decode cX9_debt 135 = .ok (.getfield 162, 3) := by decide +kernel
theorem dX9_debt_138 : decode cX9_debt 138 = .ok (.iload 4, 2) := by decide +kernel
theorem dX9_debt_140 : decode cX9_debt 140 = .ok (.iastore, 1) := by decide +kernel
theorem dX9_debt_141 : decode cX9_debt 141 = .ok (.aload_n 0, 1) := by decide +kernel
theorem dX9_debt_142 : decode cX9_debt 142 = .ok (.dup, 1) := by decide +kernel
theorem dX9_debt_143 : decode cX9_debt 143 = .ok (.getfield 162, 3) := by decide +kernel
theorem dX9_debt_146 : decode cX9_debt 146 = .ok (.iconst 1, 1) := by decide +kernel
theorem dX9_debt_147 : decode cX9_debt 147 = .ok (.iadd, 1) := by decide +kernel
theorem dX9_debt_148 : decode cX9_debt 148 = .ok (.putfield 162, 3) := by decide +kernel
theorem dX9_debt_151 : decode cX9_debt 151 = .ok (.aload_n 0, 1) := by decide +kernel
theorem dX9_debt_152 : decode cX9_debt 152 = .ok (.getfield 162, 3) := by decide +kernel
theorem dX9_debt_155 : decode cX9_debt 155 = .ok (.iconst 1, 1) := by decide +kernel
theorem dX9_debt_156 : decode cX9_debt 156 = .ok (.isub, 1) := by decide +kernel
theorem dX9_debt_157 : decode cX9_debt 157 = .ok (.ireturn, 1) := by decide +kernel
theorem dX9_keyOf_0 : decode cX9_keyOf 0 = .ok (.iload_n 3, 1) := by decide +kernel
theorem dX9_keyOf_1 : decode cX9_keyOf 1 = .ok (.iconst 2, 1) := by decide +kernel
theorem dX9_keyOf_2 : decode cX9_keyOf 2 = .ok (.if_icmp .eq 16, 3) := by decide +kernel
theorem dX9_keyOf_5 : decode cX9_keyOf 5 = .ok (.iload_n 3, 1) := by decide +kernel
theorem dX9_keyOf_6 : decode cX9_keyOf 6 = .ok (.iconst 1, 1) := by decide +kernel
theorem dX9_keyOf_7 : decode cX9_keyOf 7 = .ok (.if_icmp .ne 15, 3) := by decide +kernel
theorem dX9_keyOf_10 : decode cX9_keyOf 10 = .ok (.aload_n 0, 1) := by decide +kernel
theorem dX9_keyOf_11 : decode cX9_keyOf 11 = .ok (.iload_n 2, 1) := by decide +kernel
theorem dX9_keyOf_12 : decode cX9_keyOf 12 = .ok (.invokevirtual 328, 3) := by decide +kernel
theorem dX9_keyOf_15 : decode cX9_keyOf 15 = .ok (.ifCond .ne 7, 3) := by decide +kernel
theorem dX9_keyOf_18 : decode cX9_keyOf 18 = .ok (.iconst 1, 1) := by decide +kernel
theorem dX9_keyOf_19 : decode cX9_keyOf 19 = .ok (.goto 20, 3) := by decide +kernel
theorem dX9_keyOf_22 : decode cX9_keyOf 22 = .ok (.iload_n 3, 1) := by decide +kernel
theorem dX9_keyOf_23 : decode cX9_keyOf 23 = .ok (.ifCond .ne 11, 3) := by decide +kernel
theorem dX9_keyOf_26 : decode cX9_keyOf 26 = .ok (.aload_n 0, 1) := by decide +kernel
theorem dX9_keyOf_27 : decode cX9_keyOf 27 = .ok (.iload_n 1, 1) := by decide +kernel
theorem dX9_keyOf_28 : decode cX9_keyOf 28 = .ok (.invokevirtual 196, 3) := by decide +kernel
theorem dX9_keyOf_31 : decode cX9_keyOf 31 = .ok (.goto 8, 3) := by decide +kernel
theorem dX9_keyOf_34 : decode cX9_keyOf 34 = .ok (.aload_n 0, 1) := by decide +kernel
theorem dX9_keyOf_35 : decode cX9_keyOf 35 = .ok (.iload_n 1, 1) := by decide +kernel
theorem dX9_keyOf_36 : decode cX9_keyOf 36 = .ok (.invokevirtual 328, 3) := by decide +kernel
theorem dX9_keyOf_39 : decode cX9_keyOf 39 = .ok (.ireturn, 1) := by decide +kernel
theorem dX9_shareAt_0 : decode cX9_shareAt 0 = .ok (.aload_n 0, 1) := by decide +kernel
theorem dX9_shareAt_1 : decode cX9_shareAt 1 = .ok (.getfield 32, 3) := by decide +kernel
theorem dX9_shareAt_4 : decode cX9_shareAt 4 = .ok (.iload_n 1, 1) := by decide +kernel
theorem dX9_shareAt_5 : decode cX9_shareAt 5 = .ok (.iaload, 1) := by decide +kernel
theorem dX9_shareAt_6 : decode cX9_shareAt 6 = .ok (.istore_n 3, 1) := by decide +kernel
theorem dX9_shareAt_7 : decode cX9_shareAt 7 = .ok (.aload_n 0, 1) := by decide +kernel
theorem dX9_shareAt_8 : decode cX9_shareAt 8 = .ok (.getfield 41, 3) := by decide +kernel
theorem dX9_shareAt_11 : decode cX9_shareAt 11 = .ok (.iload_n 1, 1) := by decide +kernel
theorem dX9_shareAt_12 : decode cX9_shareAt 12 = .ok (.iaload, 1) := by decide +kernel
theorem dX9_shareAt_13 : decode cX9_shareAt 13 = .ok (.istore 4, 2) := by decide +kernel
theorem dX9_shareAt_15 : decode cX9_shareAt 15 = .ok (.aload_n 0, 1) := by decide +kernel
theorem dX9_shareAt_16 : decode cX9_shareAt 16 = .ok (.getfield 26, 3) := by decide +kernel
theorem dX9_shareAt_19 : decode cX9_shareAt 19 = .ok (.iload_n 1, 1) := by decide +kernel
theorem dX9_shareAt_20 : decode cX9_shareAt 20 = .ok (.iaload, 1) := by decide +kernel
theorem dX9_shareAt_21 : decode cX9_shareAt 21 = .ok (.iconst 2, 1) := by decide +kernel
theorem dX9_shareAt_22 : decode cX9_shareAt 22 = .ok (.if_icmp .ne 38, 3) := by decide +kernel
theorem dX9_shareAt_25 : decode cX9_shareAt 25 = .ok (.aload_n 0, 1) := by decide +kernel
theorem dX9_shareAt_26 : decode cX9_shareAt 26 = .ok (.getfield 138, 3) := by decide +kernel
theorem dX9_shareAt_29 : decode cX9_shareAt 29 = .ok (.iload_n 3, 1) := by decide +kernel
theorem dX9_shareAt_30 : decode cX9_shareAt 30 = .ok (.dup2, 1) := by decide +kernel
theorem dX9_shareAt_31 : decode cX9_shareAt 31 = .ok (.iaload, 1) := by decide +kernel
theorem dX9_shareAt_32 : decode cX9_shareAt 32 = .ok (.aload_n 0, 1) := by decide +kernel
theorem dX9_shareAt_33 : decode cX9_shareAt 33 = .ok (.getfield 138, 3) := by decide +kernel
theorem dX9_shareAt_36 : decode cX9_shareAt 36 = .ok (.aload_n 0, 1) := by decide +kernel
theorem dX9_shareAt_37 : decode cX9_shareAt 37 = .ok (.getfield 35, 3) := by decide +kernel
theorem dX9_shareAt_40 : decode cX9_shareAt 40 = .ok (.iload_n 1, 1) := by decide +kernel
theorem dX9_shareAt_41 : decode cX9_shareAt 41 = .ok (.iaload, 1) := by decide +kernel
theorem dX9_shareAt_42 : decode cX9_shareAt 42 = .ok (.iaload, 1) := by decide +kernel
theorem dX9_shareAt_43 : decode cX9_shareAt 43 = .ok (.iadd, 1) := by decide +kernel
theorem dX9_shareAt_44 : decode cX9_shareAt 44 = .ok (.iastore, 1) := by decide +kernel
theorem dX9_shareAt_45 : decode cX9_shareAt 45 = .ok (.aload_n 0, 1) := by decide +kernel
theorem dX9_shareAt_46 : decode cX9_shareAt 46 = .ok (.getfield 138, 3) := by decide +kernel
theorem dX9_shareAt_49 : decode cX9_shareAt 49 = .ok (.aload_n 0, 1) := by decide +kernel
theorem dX9_shareAt_50 : decode cX9_shareAt 50 = .ok (.getfield 35, 3) := by decide +kernel
theorem dX9_shareAt_53 : decode cX9_shareAt 53 = .ok (.iload_n 1, 1) := by decide +kernel
theorem dX9_shareAt_54 : decode cX9_shareAt 54 = .ok (.iaload, 1) := by decide +kernel
theorem dX9_shareAt_55 : decode cX9_shareAt 55 = .ok (.iconst 0, 1) := by decide +kernel
theorem dX9_shareAt_56 : decode cX9_shareAt 56 = .ok (.iastore, 1) := by decide +kernel
theorem dX9_shareAt_57 : decode cX9_shareAt 57 = .ok (.goto 147, 3) := by decide +kernel
theorem dX9_shareAt_60 : decode cX9_shareAt 60 = .ok (.aload_n 0, 1) := by decide +kernel
theorem dX9_shareAt_61 : decode cX9_shareAt 61 = .ok (.getfield 26, 3) := by decide +kernel
theorem dX9_shareAt_64 : decode cX9_shareAt 64 = .ok (.iload_n 1, 1) := by decide +kernel
theorem dX9_shareAt_65 : decode cX9_shareAt 65 = .ok (.iaload, 1) := by decide +kernel
theorem dX9_shareAt_66 : decode cX9_shareAt 66 = .ok (.ifCond .eq 13, 3) := by decide +kernel
theorem dX9_shareAt_69 : decode cX9_shareAt 69 = .ok (.aload_n 0, 1) := by decide +kernel
theorem dX9_shareAt_70 : decode cX9_shareAt 70 = .ok (.getfield 26, 3) := by decide +kernel
theorem dX9_shareAt_73 : decode cX9_shareAt 73 = .ok (.iload_n 1, 1) := by decide +kernel
theorem dX9_shareAt_74 : decode cX9_shareAt 74 = .ok (.iaload, 1) := by decide +kernel
theorem dX9_shareAt_75 : decode cX9_shareAt 75 = .ok (.iconst 1, 1) := by decide +kernel
theorem dX9_shareAt_76 : decode cX9_shareAt 76 = .ok (.if_icmp .ne 128, 3) := by decide +kernel
theorem dX9_shareAt_79 : decode cX9_shareAt 79 = .ok (.aload_n 0, 1) := by decide +kernel
theorem dX9_shareAt_80 : decode cX9_shareAt 80 = .ok (.iload_n 3, 1) := by decide +kernel
theorem dX9_shareAt_81 : decode cX9_shareAt 81 = .ok (.iload_n 1, 1) := by decide +kernel
theorem dX9_shareAt_82 : decode cX9_shareAt 82 = .ok (.invokevirtual 155, 3) := by decide +kernel
theorem dX9_shareAt_85 : decode cX9_shareAt 85 = .ok (.istore 5, 2) := by decide +kernel
theorem dX9_shareAt_87 : decode cX9_shareAt 87 = .ok (.aload_n 0, 1) := by decide +kernel
theorem dX9_shareAt_88 : decode cX9_shareAt 88 = .ok (.aload_n 0, 1) := by decide +kernel
theorem dX9_shareAt_89 : decode cX9_shareAt 89 = .ok (.getfield 38, 3) := by decide +kernel
theorem dX9_shareAt_92 : decode cX9_shareAt 92 = .ok (.iload_n 1, 1) := by decide +kernel
theorem dX9_shareAt_93 : decode cX9_shareAt 93 = .ok (.iaload, 1) := by decide +kernel
theorem dX9_shareAt_94 : decode cX9_shareAt 94 = .ok (.iload 5, 2) := by decide +kernel
theorem dX9_shareAt_96 : decode cX9_shareAt 96 = .ok (.iload_n 2, 1) := by decide +kernel
theorem dX9_shareAt_97 : decode cX9_shareAt 97 = .ok (.invokevirtual 331, 3) := by decide +kernel
theorem dX9_shareAt_100 : decode cX9_shareAt 100 = .ok (.istore 6, 2) := by decide +kernel
theorem dX9_shareAt_102 : decode cX9_shareAt 102 = .ok (.aload_n 0, 1) := by decide +kernel
theorem dX9_shareAt_103 : decode cX9_shareAt 103 = .ok (.iload 5, 2) := by decide +kernel
theorem dX9_shareAt_105 : decode cX9_shareAt 105 = .ok (.aload_n 0, 1) := by decide +kernel
theorem dX9_shareAt_106 : decode cX9_shareAt 106 = .ok (.getfield 38, 3) := by decide +kernel
theorem dX9_shareAt_109 : decode cX9_shareAt 109 = .ok (.iload_n 1, 1) := by decide +kernel
theorem dX9_shareAt_110 : decode cX9_shareAt 110 = .ok (.iaload, 1) := by decide +kernel
theorem dX9_shareAt_111 : decode cX9_shareAt 111 = .ok (.iconst (-1), 1) := by decide +kernel
theorem dX9_shareAt_112 : decode cX9_shareAt 112 = .ok (.ixor, 1) := by decide +kernel
theorem dX9_shareAt_113 : decode cX9_shareAt 113 = .ok (.iand, 1) := by decide +kernel
theorem dX9_shareAt_114 : decode cX9_shareAt 114 = .ok (.iload 5, 2) := by decide +kernel
theorem dX9_shareAt_116 : decode cX9_shareAt 116 = .ok (.iload_n 2, 1) := by decide +kernel
theorem dX9_shareAt_117 : decode cX9_shareAt 117 = .ok (.invokevirtual 331, 3) := by decide +kernel
theorem dX9_shareAt_120 : decode cX9_shareAt 120 = .ok (.istore 7, 2) := by decide +kernel
theorem dX9_shareAt_122 : decode cX9_shareAt 122 = .ok (.aload_n 0, 1) := by decide +kernel
theorem dX9_shareAt_123 : decode cX9_shareAt 123 = .ok (.getfield 138, 3) := by decide +kernel
theorem dX9_shareAt_126 : decode cX9_shareAt 126 = .ok (.iload_n 3, 1) := by decide +kernel
theorem dX9_shareAt_127 : decode cX9_shareAt 127 = .ok (.iaload, 1) := by decide +kernel
theorem dX9_shareAt_128 : decode cX9_shareAt 128 = .ok (.iload 6, 2) := by decide +kernel
theorem dX9_shareAt_130 : decode cX9_shareAt 130 = .ok (.imul, 1) := by decide +kernel
theorem dX9_shareAt_131 : decode cX9_shareAt 131 = .ok (.iload 6, 2) := by decide +kernel
theorem dX9_shareAt_133 : decode cX9_shareAt 133 = .ok (.iload 7, 2) := by decide +kernel
theorem dX9_shareAt_135 : decode cX9_shareAt 135 = .ok (.iadd, 1) := by decide +kernel
theorem dX9_shareAt_136 : decode cX9_shareAt 136 = .ok (.idiv, 1) := by decide +kernel
theorem dX9_shareAt_137 : decode cX9_shareAt 137 = .ok (.istore 8, 2) := by decide +kernel
theorem dX9_shareAt_139 : decode cX9_shareAt 139 = .ok (.aload_n 0, 1) := by decide +kernel
theorem dX9_shareAt_140 : decode cX9_shareAt 140 = .ok (.getfield 138, 3) := by decide +kernel
theorem dX9_shareAt_143 : decode cX9_shareAt 143 = .ok (.iload 4, 2) := by decide +kernel
theorem dX9_shareAt_145 : decode cX9_shareAt 145 = .ok (.iload 8, 2) := by decide +kernel
theorem dX9_shareAt_147 : decode cX9_shareAt 147 = .ok (.iastore, 1) := by decide +kernel
theorem dX9_shareAt_148 : decode cX9_shareAt 148 = .ok (.aload_n 0, 1) := by decide +kernel
theorem dX9_shareAt_149 : decode cX9_shareAt 149 = .ok (.getfield 138, 3) := by decide +kernel
theorem dX9_shareAt_152 : decode cX9_shareAt 152 = .ok (.aload_n 0, 1) := by decide +kernel
theorem dX9_shareAt_153 : decode cX9_shareAt 153 = .ok (.getfield 26, 3) := by decide +kernel
theorem dX9_shareAt_156 : decode cX9_shareAt 156 = .ok (.iload_n 1, 1) := by decide +kernel
theorem dX9_shareAt_157 : decode cX9_shareAt 157 = .ok (.iaload, 1) := by decide +kernel
theorem dX9_shareAt_158 : decode cX9_shareAt 158 = .ok (.ifCond .ne 7, 3) := by decide +kernel
theorem dX9_shareAt_161 : decode cX9_shareAt 161 = .ok (.iload_n 3, 1) := by decide +kernel
theorem dX9_shareAt_162 : decode cX9_shareAt 162 = .ok (.goto 7, 3) := by decide +kernel
theorem dX9_shareAt_165 : decode cX9_shareAt 165 = .ok (.iload 4, 2) := by decide +kernel
theorem dX9_shareAt_167 : decode cX9_shareAt 167 = .ok (.iconst 1, 1) := by decide +kernel
theorem dX9_shareAt_168 : decode cX9_shareAt 168 = .ok (.iadd, 1) := by decide +kernel
theorem dX9_shareAt_169 : decode cX9_shareAt 169 = .ok (.aload_n 0, 1) := by decide +kernel
theorem dX9_shareAt_170 : decode cX9_shareAt 170 = .ok (.getfield 138, 3) := by decide +kernel
theorem dX9_shareAt_173 : decode cX9_shareAt 173 = .ok (.iload_n 3, 1) := by decide +kernel
theorem dX9_shareAt_174 : decode cX9_shareAt 174 = .ok (.iaload, 1) := by decide +kernel
theorem dX9_shareAt_175 : decode cX9_shareAt 175 = .ok (.iload 8, 2) := by decide +kernel
theorem dX9_shareAt_177 : decode cX9_shareAt 177 = .ok (.isub, 1) := by decide +kernel
theorem dX9_shareAt_178 : decode cX9_shareAt 178 = .ok (.iastore, 1) := by decide +kernel
theorem dX9_shareAt_179 : decode cX9_shareAt 179 = .ok (.aload_n 0, 1) := by decide +kernel
theorem dX9_shareAt_180 : decode cX9_shareAt 180 = .ok (.getfield 138, 3) := by decide +kernel
theorem dX9_shareAt_183 : decode cX9_shareAt 183 = .ok (.iload_n 3, 1) := by decide +kernel
theorem dX9_shareAt_184 : decode cX9_shareAt 184 = .ok (.aload_n 0, 1) := by decide +kernel
theorem dX9_shareAt_185 : decode cX9_shareAt 185 = .ok (.getfield 26, 3) := by decide +kernel
theorem dX9_shareAt_188 : decode cX9_shareAt 188 = .ok (.iload_n 1, 1) := by decide +kernel
theorem dX9_shareAt_189 : decode cX9_shareAt 189 = .ok (.iaload, 1) := by decide +kernel
theorem dX9_shareAt_190 : decode cX9_shareAt 190 = .ok (.ifCond .ne 12, 3) := by decide +kernel
theorem dX9_shareAt_193 : decode cX9_shareAt 193 = .ok (.aload_n 0, 1) := by decide +kernel
theorem dX9_shareAt_194 : decode cX9_shareAt 194 = .ok (.getfield 138, 3) := by decide +kernel
theorem dX9_shareAt_197 : decode cX9_shareAt 197 = .ok (.iload_n 3, 1) := by decide +kernel
theorem dX9_shareAt_198 : decode cX9_shareAt 198 = .ok (.iaload, 1) := by decide +kernel
theorem dX9_shareAt_199 : decode cX9_shareAt 199 = .ok (.goto 4, 3) := by decide +kernel
theorem dX9_shareAt_202 : decode cX9_shareAt 202 = .ok (.iconst 0, 1) := by decide +kernel
theorem dX9_shareAt_203 : decode cX9_shareAt 203 = .ok (.iastore, 1) := by decide +kernel
theorem dX9_shareAt_204 : decode cX9_shareAt 204 = .ok (.return_, 1) := by decide +kernel
theorem dX9_abroadAt_0 : decode cX9_abroadAt 0 = .ok (.aload_n 0, 1) := by decide +kernel
theorem dX9_abroadAt_1 : decode cX9_abroadAt 1 = .ok (.getfield 32, 3) := by decide +kernel
theorem dX9_abroadAt_4 : decode cX9_abroadAt 4 = .ok (.iload_n 1, 1) := by decide +kernel
theorem dX9_abroadAt_5 : decode cX9_abroadAt 5 = .ok (.iaload, 1) := by decide +kernel
theorem dX9_abroadAt_6 : decode cX9_abroadAt 6 = .ok (.istore_n 3, 1) := by decide +kernel
theorem dX9_abroadAt_7 : decode cX9_abroadAt 7 = .ok (.aload_n 0, 1) := by decide +kernel
theorem dX9_abroadAt_8 : decode cX9_abroadAt 8 = .ok (.getfield 41, 3) := by decide +kernel
theorem dX9_abroadAt_11 : decode cX9_abroadAt 11 = .ok (.iload_n 1, 1) := by decide +kernel
theorem dX9_abroadAt_12 : decode cX9_abroadAt 12 = .ok (.iaload, 1) := by decide +kernel
theorem dX9_abroadAt_13 : decode cX9_abroadAt 13 = .ok (.istore 4, 2) := by decide +kernel
theorem dX9_abroadAt_15 : decode cX9_abroadAt 15 = .ok (.aload_n 0, 1) := by decide +kernel
theorem dX9_abroadAt_16 : decode cX9_abroadAt 16 = .ok (.getfield 26, 3) := by decide +kernel
theorem dX9_abroadAt_19 : decode cX9_abroadAt 19 = .ok (.iload_n 1, 1) := by decide +kernel
theorem dX9_abroadAt_20 : decode cX9_abroadAt 20 = .ok (.iaload, 1) := by decide +kernel
theorem dX9_abroadAt_21 : decode cX9_abroadAt 21 = .ok (.iconst 2, 1) := by decide +kernel
theorem dX9_abroadAt_22 : decode cX9_abroadAt 22 = .ok (.if_icmp .ne 38, 3) := by decide +kernel
theorem dX9_abroadAt_25 : decode cX9_abroadAt 25 = .ok (.aload_n 0, 1) := by decide +kernel
theorem dX9_abroadAt_26 : decode cX9_abroadAt 26 = .ok (.getfield 138, 3) := by decide +kernel
theorem dX9_abroadAt_29 : decode cX9_abroadAt 29 = .ok (.iload_n 3, 1) := by decide +kernel
theorem dX9_abroadAt_30 : decode cX9_abroadAt 30 = .ok (.dup2, 1) := by decide +kernel
theorem dX9_abroadAt_31 : decode cX9_abroadAt 31 = .ok (.iaload, 1) := by decide +kernel
theorem dX9_abroadAt_32 : decode cX9_abroadAt 32 = .ok (.aload_n 0, 1) := by decide +kernel
theorem dX9_abroadAt_33 : decode cX9_abroadAt 33 = .ok (.getfield 138, 3) := by decide +kernel
theorem dX9_abroadAt_36 : decode cX9_abroadAt 36 = .ok (.aload_n 0, 1) := by decide +kernel
theorem dX9_abroadAt_37 : decode cX9_abroadAt 37 = .ok (.getfield 35, 3) := by decide +kernel
theorem dX9_abroadAt_40 : decode cX9_abroadAt 40 = .ok (.iload_n 1, 1) := by decide +kernel
theorem dX9_abroadAt_41 : decode cX9_abroadAt 41 = .ok (.iaload, 1) := by decide +kernel
theorem dX9_abroadAt_42 : decode cX9_abroadAt 42 = .ok (.iaload, 1) := by decide +kernel
theorem dX9_abroadAt_43 : decode cX9_abroadAt 43 = .ok (.iadd, 1) := by decide +kernel
theorem dX9_abroadAt_44 : decode cX9_abroadAt 44 = .ok (.iastore, 1) := by decide +kernel
theorem dX9_abroadAt_45 : decode cX9_abroadAt 45 = .ok (.aload_n 0, 1) := by decide +kernel
theorem dX9_abroadAt_46 : decode cX9_abroadAt 46 = .ok (.getfield 138, 3) := by decide +kernel
theorem dX9_abroadAt_49 : decode cX9_abroadAt 49 = .ok (.aload_n 0, 1) := by decide +kernel
theorem dX9_abroadAt_50 : decode cX9_abroadAt 50 = .ok (.getfield 35, 3) := by decide +kernel
theorem dX9_abroadAt_53 : decode cX9_abroadAt 53 = .ok (.iload_n 1, 1) := by decide +kernel
theorem dX9_abroadAt_54 : decode cX9_abroadAt 54 = .ok (.iaload, 1) := by decide +kernel
theorem dX9_abroadAt_55 : decode cX9_abroadAt 55 = .ok (.iconst 0, 1) := by decide +kernel
theorem dX9_abroadAt_56 : decode cX9_abroadAt 56 = .ok (.iastore, 1) := by decide +kernel
theorem dX9_abroadAt_57 : decode cX9_abroadAt 57 = .ok (.goto 129, 3) := by decide +kernel
theorem dX9_abroadAt_60 : decode cX9_abroadAt 60 = .ok (.aload_n 0, 1) := by decide +kernel
theorem dX9_abroadAt_61 : decode cX9_abroadAt 61 = .ok (.getfield 26, 3) := by decide +kernel
theorem dX9_abroadAt_64 : decode cX9_abroadAt 64 = .ok (.iload_n 1, 1) := by decide +kernel
theorem dX9_abroadAt_65 : decode cX9_abroadAt 65 = .ok (.iaload, 1) := by decide +kernel
theorem dX9_abroadAt_66 : decode cX9_abroadAt 66 = .ok (.ifCond .eq 13, 3) := by decide +kernel
theorem dX9_abroadAt_69 : decode cX9_abroadAt 69 = .ok (.aload_n 0, 1) := by decide +kernel
theorem dX9_abroadAt_70 : decode cX9_abroadAt 70 = .ok (.getfield 26, 3) := by decide +kernel
theorem dX9_abroadAt_73 : decode cX9_abroadAt 73 = .ok (.iload_n 1, 1) := by decide +kernel
theorem dX9_abroadAt_74 : decode cX9_abroadAt 74 = .ok (.iaload, 1) := by decide +kernel
theorem dX9_abroadAt_75 : decode cX9_abroadAt 75 = .ok (.iconst 1, 1) := by decide +kernel
theorem dX9_abroadAt_76 : decode cX9_abroadAt 76 = .ok (.if_icmp .ne 110, 3) := by decide +kernel
theorem dX9_abroadAt_79 : decode cX9_abroadAt 79 = .ok (.aload_n 0, 1) := by decide +kernel
theorem dX9_abroadAt_80 : decode cX9_abroadAt 80 = .ok (.getfield 138, 3) := by decide +kernel
theorem dX9_abroadAt_83 : decode cX9_abroadAt 83 = .ok (.iload_n 3, 1) := by decide +kernel
theorem dX9_abroadAt_84 : decode cX9_abroadAt 84 = .ok (.iaload, 1) := by decide +kernel
theorem dX9_abroadAt_85 : decode cX9_abroadAt 85 = .ok (.iconst 1, 1) := by decide +kernel
theorem dX9_abroadAt_86 : decode cX9_abroadAt 86 = .ok (.if_icmp .ne 100, 3) := by decide +kernel
theorem dX9_abroadAt_89 : decode cX9_abroadAt 89 = .ok (.aload_n 0, 1) := by decide +kernel
theorem dX9_abroadAt_90 : decode cX9_abroadAt 90 = .ok (.iload_n 3, 1) := by decide +kernel
theorem dX9_abroadAt_91 : decode cX9_abroadAt 91 = .ok (.iload_n 1, 1) := by decide +kernel
theorem dX9_abroadAt_92 : decode cX9_abroadAt 92 = .ok (.invokevirtual 155, 3) := by decide +kernel
theorem dX9_abroadAt_95 : decode cX9_abroadAt 95 = .ok (.istore 5, 2) := by decide +kernel
theorem dX9_abroadAt_97 : decode cX9_abroadAt 97 = .ok (.aload_n 0, 1) := by decide +kernel
theorem dX9_abroadAt_98 : decode cX9_abroadAt 98 = .ok (.aload_n 0, 1) := by decide +kernel
theorem dX9_abroadAt_99 : decode cX9_abroadAt 99 = .ok (.getfield 38, 3) := by decide +kernel
theorem dX9_abroadAt_102 : decode cX9_abroadAt 102 = .ok (.iload_n 1, 1) := by decide +kernel
theorem dX9_abroadAt_103 : decode cX9_abroadAt 103 = .ok (.iaload, 1) := by decide +kernel
theorem dX9_abroadAt_104 : decode cX9_abroadAt 104 = .ok (.iload 5, 2) := by decide +kernel
theorem dX9_abroadAt_106 : decode cX9_abroadAt 106 = .ok (.iload_n 2, 1) := by decide +kernel
theorem dX9_abroadAt_107 : decode cX9_abroadAt 107 = .ok (.invokevirtual 331, 3) := by decide +kernel
theorem dX9_abroadAt_110 : decode cX9_abroadAt 110 = .ok (.istore 6, 2) := by decide +kernel
theorem dX9_abroadAt_112 : decode cX9_abroadAt 112 = .ok (.aload_n 0, 1) := by decide +kernel
theorem dX9_abroadAt_113 : decode cX9_abroadAt 113 = .ok (.iload 5, 2) := by decide +kernel
theorem dX9_abroadAt_115 : decode cX9_abroadAt 115 = .ok (.aload_n 0, 1) := by decide +kernel
theorem dX9_abroadAt_116 : decode cX9_abroadAt 116 = .ok (.getfield 38, 3) := by decide +kernel
theorem dX9_abroadAt_119 : decode cX9_abroadAt 119 = .ok (.iload_n 1, 1) := by decide +kernel
theorem dX9_abroadAt_120 : decode cX9_abroadAt 120 = .ok (.iaload, 1) := by decide +kernel
theorem dX9_abroadAt_121 : decode cX9_abroadAt 121 = .ok (.iconst (-1), 1) := by decide +kernel
theorem dX9_abroadAt_122 : decode cX9_abroadAt 122 = .ok (.ixor, 1) := by decide +kernel
theorem dX9_abroadAt_123 : decode cX9_abroadAt 123 = .ok (.iand, 1) := by decide +kernel
theorem dX9_abroadAt_124 : decode cX9_abroadAt 124 = .ok (.iload 5, 2) := by decide +kernel
theorem dX9_abroadAt_126 : decode cX9_abroadAt 126 = .ok (.iload_n 2, 1) := by decide +kernel
theorem dX9_abroadAt_127 : decode cX9_abroadAt 127 = .ok (.invokevirtual 331, 3) := by decide +kernel
theorem dX9_abroadAt_130 : decode cX9_abroadAt 130 = .ok (.istore 7, 2) := by decide +kernel
theorem dX9_abroadAt_132 : decode cX9_abroadAt 132 = .ok (.aload_n 0, 1) := by decide +kernel
theorem dX9_abroadAt_133 : decode cX9_abroadAt 133 = .ok (.getfield 138, 3) := by decide +kernel
theorem dX9_abroadAt_136 : decode cX9_abroadAt 136 = .ok (.iload_n 3, 1) := by decide +kernel
theorem dX9_abroadAt_137 : decode cX9_abroadAt 137 = .ok (.iconst 0, 1) := by decide +kernel
theorem dX9_abroadAt_138 : decode cX9_abroadAt 138 = .ok (.iastore, 1) := by decide +kernel
theorem dX9_abroadAt_139 : decode cX9_abroadAt 139 = .ok (.aload_n 0, 1) := by decide +kernel
theorem dX9_abroadAt_140 : decode cX9_abroadAt 140 = .ok (.getfield 138, 3) := by decide +kernel
theorem dX9_abroadAt_143 : decode cX9_abroadAt 143 = .ok (.aload_n 0, 1) := by decide +kernel
theorem dX9_abroadAt_144 : decode cX9_abroadAt 144 = .ok (.getfield 26, 3) := by decide +kernel
theorem dX9_abroadAt_147 : decode cX9_abroadAt 147 = .ok (.iload_n 1, 1) := by decide +kernel
theorem dX9_abroadAt_148 : decode cX9_abroadAt 148 = .ok (.iaload, 1) := by decide +kernel
theorem dX9_abroadAt_149 : decode cX9_abroadAt 149 = .ok (.ifCond .ne 19, 3) := by decide +kernel
theorem dX9_abroadAt_152 : decode cX9_abroadAt 152 = .ok (.iload 6, 2) := by decide +kernel
theorem dX9_abroadAt_154 : decode cX9_abroadAt 154 = .ok (.iload 7, 2) := by decide +kernel
theorem dX9_abroadAt_156 : decode cX9_abroadAt 156 = .ok (.if_icmp .le 8, 3) := by decide +kernel
theorem dX9_abroadAt_159 : decode cX9_abroadAt 159 = .ok (.iload 4, 2) := by decide +kernel
theorem dX9_abroadAt_161 : decode cX9_abroadAt 161 = .ok (.goto 23, 3) := by decide +kernel
theorem dX9_abroadAt_164 : decode cX9_abroadAt 164 = .ok (.iload_n 3, 1) := by decide +kernel
theorem dX9_abroadAt_165 : decode cX9_abroadAt 165 = .ok (.goto 19, 3) := by decide +kernel
theorem dX9_abroadAt_168 : decode cX9_abroadAt 168 = .ok (.iload 6, 2) := by decide +kernel
theorem dX9_abroadAt_170 : decode cX9_abroadAt 170 = .ok (.iload 7, 2) := by decide +kernel
theorem dX9_abroadAt_172 : decode cX9_abroadAt 172 = .ok (.if_icmp .lt 8, 3) := by decide +kernel
theorem dX9_abroadAt_175 : decode cX9_abroadAt 175 = .ok (.iload 4, 2) := by decide +kernel
theorem dX9_abroadAt_177 : decode cX9_abroadAt 177 = .ok (.goto 7, 3) := by decide +kernel
theorem dX9_abroadAt_180 : decode cX9_abroadAt 180 = .ok (.iload 4, 2) := by decide +kernel
theorem dX9_abroadAt_182 : decode cX9_abroadAt 182 = .ok (.iconst 1, 1) := by decide +kernel
theorem dX9_abroadAt_183 : decode cX9_abroadAt 183 = .ok (.iadd, 1) := by decide +kernel
theorem dX9_abroadAt_184 : decode cX9_abroadAt 184 = .ok (.iconst 1, 1) := by decide +kernel
theorem dX9_abroadAt_185 : decode cX9_abroadAt 185 = .ok (.iastore, 1) := by decide +kernel
theorem dX9_abroadAt_186 : decode cX9_abroadAt 186 = .ok (.return_, 1) := by decide +kernel
theorem dX9_beginPart_0 : decode cX9_beginPart 0 = .ok (.iconst 0, 1) := by decide +kernel
theorem dX9_beginPart_1 : decode cX9_beginPart 1 = .ok (.istore_n 3, 1) := by decide +kernel
theorem dX9_beginPart_2 : decode cX9_beginPart 2 = .ok (.iload_n 3, 1) := by decide +kernel
theorem dX9_beginPart_3 : decode cX9_beginPart 3 = .ok (.bipush 10, 2) := by decide +kernel
theorem dX9_beginPart_5 : decode cX9_beginPart 5 = .ok (.if_icmp .ge 25, 3) := by decide +kernel
theorem dX9_beginPart_8 : decode cX9_beginPart 8 = .ok (.aload_n 0, 1) := by decide +kernel
theorem dX9_beginPart_9 : decode cX9_beginPart 9 = .ok (.getfield 138, 3) := by decide +kernel
theorem dX9_beginPart_12 : decode cX9_beginPart 12 = .ok (.iload_n 3, 1) := by decide +kernel
theorem dX9_beginPart_13 : decode cX9_beginPart 13 = .ok (.iload_n 3, 1) := by decide +kernel
theorem dX9_beginPart_14 : decode cX9_beginPart 14 = .ok (.iload_n 1, 1) := by decide +kernel
theorem dX9_beginPart_15 : decode cX9_beginPart 15 = .ok (.if_icmp .ne 7, 3) := by decide +kernel
theorem dX9_beginPart_18 : decode cX9_beginPart 18 = .ok (.iload_n 2, 1) := by decide +kernel
theorem dX9_beginPart_19 : decode cX9_beginPart 19 = .ok (.goto 4, 3) := by decide +kernel
theorem dX9_beginPart_22 : decode cX9_beginPart 22 = .ok (.iconst 0, 1) := by decide +kernel
theorem dX9_beginPart_23 : decode cX9_beginPart 23 = .ok (.iastore, 1) := by decide +kernel
theorem dX9_beginPart_24 : decode cX9_beginPart 24 = .ok (.iinc 3 1, 3) := by decide +kernel
theorem dX9_beginPart_27 : decode cX9_beginPart 27 = .ok (.goto (-25), 3) := by decide +kernel
theorem dX9_beginPart_30 : decode cX9_beginPart 30 = .ok (.return_, 1) := by decide +kernel
theorem dX9_owesOf_0 : decode cX9_owesOf 0 = .ok (.iload_n 3, 1) := by decide +kernel
theorem dX9_owesOf_1 : decode cX9_owesOf 1 = .ok (.aload_n 0, 1) := by decide +kernel
theorem dX9_owesOf_2 : decode cX9_owesOf 2 = .ok (.getfield 117, 3) := by decide +kernel
theorem dX9_owesOf_5 : decode cX9_owesOf 5 = .ok (.iload_n 1, 1) := by decide +kernel
theorem dX9_owesOf_6 : decode cX9_owesOf 6 = .ok (.iaload, 1) := by decide +kernel
theorem dX9_owesOf_7 : decode cX9_owesOf 7 = .ok (.if_icmp .ge 5, 3) := by decide +kernel
theorem dX9_owesOf_10 : decode cX9_owesOf 10 = .ok (.iconst 0, 1) := by decide +kernel
theorem dX9_owesOf_11 : decode cX9_owesOf 11 = .ok (.ireturn, 1) := by decide +kernel
theorem dX9_owesOf_12 : decode cX9_owesOf 12 = .ok (.aload_n 0, 1) := by decide +kernel
theorem dX9_owesOf_13 : decode cX9_owesOf 13 = .ok (.iload_n 3, 1) := by decide +kernel
theorem dX9_owesOf_14 : decode cX9_owesOf 14 = .ok (.invokevirtual 183, 3) := by decide +kernel
theorem dX9_owesOf_17 : decode cX9_owesOf 17 = .ok (.istore 5, 2) := by decide +kernel
theorem dX9_owesOf_19 : decode cX9_owesOf 19 = .ok (.aload_n 0, 1) := by decide +kernel
theorem dX9_owesOf_20 : decode cX9_owesOf 20 = .ok (.getfield 114, 3) := by decide +kernel
theorem dX9_owesOf_23 : decode cX9_owesOf 23 = .ok (.iload_n 1, 1) := by decide +kernel
theorem dX9_owesOf_24 : decode cX9_owesOf 24 = .ok (.iaload, 1) := by decide +kernel
theorem dX9_owesOf_25 : decode cX9_owesOf 25 = .ok (.iconst (-1), 1) := by decide +kernel
theorem dX9_owesOf_26 : decode cX9_owesOf 26 = .ok (.if_icmp .eq 35, 3) := by decide +kernel
theorem dX9_owesOf_29 : decode cX9_owesOf 29 = .ok (.aload_n 0, 1) := by decide +kernel
theorem dX9_owesOf_30 : decode cX9_owesOf 30 = .ok (.getfield 44, 3) := by decide +kernel
theorem dX9_owesOf_33 : decode cX9_owesOf 33 = .ok (.bipush 8, 2) := by decide +kernel
theorem dX9_owesOf_35 : decode cX9_owesOf 35 = .ok (.iload 5, 2) := by decide +kernel
theorem dX9_owesOf_37 : decode cX9_owesOf 37 = .ok (.imul, 1) := by decide +kernel
theorem dX9_owesOf_38 : decode cX9_owesOf 38 = .ok (.aload_n 0, 1) := by decide +kernel
theorem dX9_owesOf_39 : decode cX9_owesOf 39 = .ok (.getfield 114, 3) := by decide +kernel
theorem dX9_owesOf_42 : decode cX9_owesOf 42 = .ok (.iload_n 1, 1) := by decide +kernel
theorem dX9_owesOf_43 : decode cX9_owesOf 43 = .ok (.iaload, 1) := by decide +kernel
theorem dX9_owesOf_44 : decode cX9_owesOf 44 = .ok (.iadd, 1) := by decide +kernel
theorem dX9_owesOf_45 : decode cX9_owesOf 45 = .ok (.iaload, 1) := by decide +kernel
theorem dX9_owesOf_46 : decode cX9_owesOf 46 = .ok (.iload_n 2, 1) := by decide +kernel
theorem dX9_owesOf_47 : decode cX9_owesOf 47 = .ok (.if_icmp .ne 12, 3) := by decide +kernel
theorem dX9_owesOf_50 : decode cX9_owesOf 50 = .ok (.aload_n 0, 1) := by decide +kernel
theorem dX9_owesOf_51 : decode cX9_owesOf 51 = .ok (.getfield 111, 3) := by decide +kernel
theorem dX9_owesOf_54 : decode cX9_owesOf 54 = .ok (.iload_n 1, 1) := by decide +kernel
theorem dX9_owesOf_55 : decode cX9_owesOf 55 = .ok (.iaload, 1) := by decide +kernel
theorem dX9_owesOf_56 : decode cX9_owesOf 56 = .ok (.goto 4, 3) := by decide +kernel
theorem dX9_owesOf_59 : decode cX9_owesOf 59 = .ok (.iconst 0, 1) := by decide +kernel
theorem dX9_owesOf_60 : decode cX9_owesOf 60 = .ok (.ireturn, 1) := by decide +kernel
theorem dX9_owesOf_61 : decode cX9_owesOf 61 = .ok (.aload_n 0, 1) := by decide +kernel
theorem dX9_owesOf_62 : decode cX9_owesOf 62 = .ok (.aload_n 0, 1) := by decide +kernel
theorem dX9_owesOf_63 : decode cX9_owesOf 63 = .ok (.getfield 108, 3) := by decide +kernel
theorem dX9_owesOf_66 : decode cX9_owesOf 66 = .ok (.iload_n 1, 1) := by decide +kernel
theorem dX9_owesOf_67 : decode cX9_owesOf 67 = .ok (.iaload, 1) := by decide +kernel
theorem dX9_owesOf_68 : decode cX9_owesOf 68 = .ok (.aload_n 0, 1) := by decide +kernel
theorem dX9_owesOf_69 : decode cX9_owesOf 69 = .ok (.getfield 111, 3) := by decide +kernel
theorem dX9_owesOf_72 : decode cX9_owesOf 72 = .ok (.iload_n 1, 1) := by decide +kernel
theorem dX9_owesOf_73 : decode cX9_owesOf 73 = .ok (.iaload, 1) := by decide +kernel
theorem dX9_owesOf_74 : decode cX9_owesOf 74 = .ok (.invokevirtual 334, 3) := by decide +kernel
theorem dX9_owesOf_77 : decode cX9_owesOf 77 = .ok (.iconst 0, 1) := by decide +kernel
theorem dX9_owesOf_78 : decode cX9_owesOf 78 = .ok (.istore 6, 2) := by decide +kernel
theorem dX9_owesOf_80 : decode cX9_owesOf 80 = .ok (.iload 6, 2) := by decide +kernel
theorem dX9_owesOf_82 : decode cX9_owesOf 82 = .ok (.iload 5, 2) := by decide +kernel
theorem dX9_owesOf_84 : decode cX9_owesOf 84 = .ok (.if_icmp .ge 33, 3) := by decide +kernel
theorem dX9_owesOf_87 : decode cX9_owesOf 87 = .ok (.aload_n 0, 1) := by decide +kernel
theorem dX9_owesOf_88 : decode cX9_owesOf 88 = .ok (.getfield 29, 3) := by decide +kernel
theorem dX9_owesOf_91 : decode cX9_owesOf 91 = .ok (.iload 6, 2) := by decide +kernel
theorem dX9_owesOf_93 : decode cX9_owesOf 93 = .ok (.iaload, 1) := by decide +kernel
theorem dX9_owesOf_94 : decode cX9_owesOf 94 = .ok (.aload_n 0, 1) := by decide +kernel
theorem dX9_owesOf_95 : decode cX9_owesOf 95 = .ok (.getfield 117, 3) := by decide +kernel
theorem dX9_owesOf_98 : decode cX9_owesOf 98 = .ok (.iload_n 1, 1) := by decide +kernel
theorem dX9_owesOf_99 : decode cX9_owesOf 99 = .ok (.iaload, 1) := by decide +kernel
theorem dX9_owesOf_100 : decode cX9_owesOf 100 = .ok (.if_icmp .le 11, 3) := by decide +kernel
theorem dX9_owesOf_103 : decode cX9_owesOf 103 = .ok (.aload_n 0, 1) := by decide +kernel
theorem dX9_owesOf_104 : decode cX9_owesOf 104 = .ok (.iload 6, 2) := by decide +kernel
theorem dX9_owesOf_106 : decode cX9_owesOf 106 = .ok (.iload 4, 2) := by decide +kernel
theorem dX9_owesOf_108 : decode cX9_owesOf 108 = .ok (.invokevirtual 338, 3) := by decide +kernel
theorem dX9_owesOf_111 : decode cX9_owesOf 111 = .ok (.iinc 6 1, 3) := by decide +kernel
theorem dX9_owesOf_114 : decode cX9_owesOf 114 = .ok (.goto (-34), 3) := by decide +kernel
theorem dX9_owesOf_117 : decode cX9_owesOf 117 = .ok (.aload_n 0, 1) := by decide +kernel
theorem dX9_owesOf_118 : decode cX9_owesOf 118 = .ok (.getfield 138, 3) := by decide +kernel
theorem dX9_owesOf_121 : decode cX9_owesOf 121 = .ok (.iload_n 2, 1) := by decide +kernel
theorem dX9_owesOf_122 : decode cX9_owesOf 122 = .ok (.iaload, 1) := by decide +kernel
theorem dX9_owesOf_123 : decode cX9_owesOf 123 = .ok (.ireturn, 1) := by decide +kernel
theorem dX9_owes_0 : decode cX9_owes 0 = .ok (.iload_n 1, 1) := by decide +kernel
theorem dX9_owes_1 : decode cX9_owes 1 = .ok (.iconst 0, 1) := by decide +kernel
theorem dX9_owes_2 : decode cX9_owes 2 = .ok (.aload_n 0, 1) := by decide +kernel
theorem dX9_owes_3 : decode cX9_owes 3 = .ok (.getfield 162, 3) := by decide +kernel
theorem dX9_owes_6 : decode cX9_owes 6 = .ok (.iconst 1, 1) := by decide +kernel
theorem dX9_owes_7 : decode cX9_owes 7 = .ok (.isub, 1) := by decide +kernel
theorem dX9_owes_8 : decode cX9_owes 8 = .ok (.invokestatic 148, 3) := by decide +kernel
theorem dX9_owes_11 : decode cX9_owes 11 = .ok (.ifCond .eq 11, 3) := by decide +kernel
theorem dX9_owes_14 : decode cX9_owes 14 = .ok (.aload_n 0, 1) := by decide +kernel
theorem dX9_owes_15 : decode cX9_owes 15 = .ok (.iload_n 2, 1) := by decide +kernel
theorem dX9_owes_16 : decode cX9_owes 16 = .ok (.invokevirtual 187, 3) := by decide +kernel
theorem dX9_owes_19 : decode cX9_owes 19 = .ok (.ifCond .ne 6, 3) := by decide +kernel
theorem dX9_owes_22 : decode cX9_owes 22 = .ok (.bipush (-2), 2) := by decide +kernel
theorem dX9_owes_24 : decode cX9_owes 24 = .ok (.ireturn, 1) := by decide +kernel
theorem dX9_owes_25 : decode cX9_owes 25 = .ok (.iload_n 3, 1) := by decide +kernel
theorem dX9_owes_26 : decode cX9_owes 26 = .ok (.invokestatic 165, 3) := by decide +kernel
theorem dX9_owes_29 : decode cX9_owes 29 = .ok (.ifCond .eq 19, 3) := by decide +kernel
theorem dX9_owes_32 : decode cX9_owes 32 = .ok (.aload_n 0, 1) := by decide +kernel
theorem dX9_owes_33 : decode cX9_owes 33 = .ok (.iload_n 1, 1) := by decide +kernel
theorem dX9_owes_34 : decode cX9_owes 34 = .ok (.iload_n 2, 1) := by decide +kernel
theorem dX9_owes_35 : decode cX9_owes 35 = .ok (.iload_n 3, 1) := by decide +kernel
theorem dX9_owes_36 : decode cX9_owes 36 = .ok (.aload_n 0, 1) := by decide +kernel
theorem dX9_owes_37 : decode cX9_owes 37 = .ok (.getfield 56, 3) := by decide +kernel
theorem dX9_owes_40 : decode cX9_owes 40 = .ok (.iconst 3, 1) := by decide +kernel
theorem dX9_owes_41 : decode cX9_owes 41 = .ok (.iaload, 1) := by decide +kernel
theorem dX9_owes_42 : decode cX9_owes 42 = .ok (.invokevirtual 341, 3) := by decide +kernel
theorem dX9_owes_45 : decode cX9_owes 45 = .ok (.goto 5, 3) := by decide +kernel
theorem dX9_owes_48 : decode cX9_owes 48 = .ok (.bipush (-3), 2) := by decide +kernel
theorem dX9_owes_50 : decode cX9_owes 50 = .ok (.ireturn, 1) := by decide +kernel
theorem dX9_thing_0 : decode cX9_thing 0 = .ok (.iload_n 1, 1) := by decide +kernel
theorem dX9_thing_1 : decode cX9_thing 1 = .ok (.iconst 0, 1) := by decide +kernel
theorem dX9_thing_2 : decode cX9_thing 2 = .ok (.iconst 2, 1) := by decide +kernel
theorem dX9_thing_3 : decode cX9_thing 3 = .ok (.invokestatic 148, 3) := by decide +kernel
theorem dX9_thing_6 : decode cX9_thing 6 = .ok (.ifCond .eq 19, 3) := by decide +kernel
theorem dX9_thing_9 : decode cX9_thing 9 = .ok (.iload_n 1, 1) := by decide +kernel
theorem dX9_thing_10 : decode cX9_thing 10 = .ok (.iconst 1, 1) := by decide +kernel
theorem dX9_thing_11 : decode cX9_thing 11 = .ok (.if_icmp .ne 17, 3) := by decide +kernel
theorem dX9_thing_14 : decode cX9_thing 14 = .ok (.iload_n 2, 1) := by decide +kernel
theorem dX9_thing_15 : decode cX9_thing 15 = .ok (.iconst 1, 1) := by decide +kernel
theorem dX9_thing_16 : decode cX9_thing 16 = .ok (.sipush 9999, 3) := by decide +kernel
theorem dX9_thing_19 : decode cX9_thing 19 = .ok (.invokestatic 148, 3) := by decide +kernel
theorem dX9_thing_22 : decode cX9_thing 22 = .ok (.ifCond .ne 6, 3) := by decide +kernel
theorem dX9_thing_25 : decode cX9_thing 25 = .ok (.bipush (-3), 2) := by decide +kernel
theorem dX9_thing_27 : decode cX9_thing 27 = .ok (.ireturn, 1) := by decide +kernel
theorem dX9_thing_28 : decode cX9_thing 28 = .ok (.iload_n 1, 1) := by decide +kernel
theorem dX9_thing_29 : decode cX9_thing 29 = .ok (.ifCond .ne 14, 3) := by decide +kernel
theorem dX9_thing_32 : decode cX9_thing 32 = .ok (.aload_n 0, 1) := by decide +kernel
theorem dX9_thing_33 : decode cX9_thing 33 = .ok (.iload_n 3, 1) := by decide +kernel
theorem dX9_thing_34 : decode cX9_thing 34 = .ok (.invokevirtual 190, 3) := by decide +kernel
theorem dX9_thing_37 : decode cX9_thing 37 = .ok (.ifCond .ne 6, 3) := by decide +kernel
theorem dX9_thing_40 : decode cX9_thing 40 = .ok (.bipush (-2), 2) := by decide +kernel
theorem dX9_thing_42 : decode cX9_thing 42 = .ok (.ireturn, 1) := by decide +kernel
theorem dX9_thing_43 : decode cX9_thing 43 = .ok (.aload_n 0, 1) := by decide +kernel
theorem dX9_thing_44 : decode cX9_thing 44 = .ok (.getfield 345, 3) := by decide +kernel
theorem dX9_thing_47 : decode cX9_thing 47 = .ok (.bipush 8, 2) := by decide +kernel
theorem dX9_thing_49 : decode cX9_thing 49 = .ok (.if_icmp .ne 6, 3) := by decide +kernel
theorem dX9_thing_52 : decode cX9_thing 52 = .ok (.bipush (-5), 2) := by decide +kernel
theorem dX9_thing_54 : decode cX9_thing 54 = .ok (.ireturn, 1) := by decide +kernel
theorem dX9_thing_55 : decode cX9_thing 55 = .ok (.aload_n 0, 1) := by decide +kernel
theorem dX9_thing_56 : decode cX9_thing 56 = .ok (.getfield 120, 3) := by decide +kernel
theorem dX9_thing_59 : decode cX9_thing 59 = .ok (.aload_n 0, 1) := by decide +kernel
theorem dX9_thing_60 : decode cX9_thing 60 = .ok (.getfield 345, 3) := by decide +kernel
theorem dX9_thing_63 : decode cX9_thing 63 = .ok (.iload_n 1, 1) := by decide +kernel
theorem dX9_thing_64 : decode cX9_thing 64 = .ok (.iastore, 1) := by decide +kernel
theorem dX9_thing_65 : decode cX9_thing 65 = .ok (.aload_n 0, 1) := by decide +kernel
theorem dX9_thing_66 : decode cX9_thing 66 = .ok (.getfield 123, 3) := by decide +kernel
theorem dX9_thing_69 : decode cX9_thing 69 = .ok (.aload_n 0, 1) := by decide +kernel
theorem dX9_thing_70 : decode cX9_thing 70 = .ok (.getfield 345, 3) := by decide +kernel
theorem dX9_thing_73 : decode cX9_thing 73 = .ok (.iload_n 1, 1) := by decide +kernel
theorem dX9_thing_74 : decode cX9_thing 74 = .ok (.iconst 1, 1) := by decide +kernel
theorem dX9_thing_75 : decode cX9_thing 75 = .ok (.if_icmp .ne 7, 3) := by decide +kernel
theorem dX9_thing_78 : decode cX9_thing 78 = .ok (.iload_n 2, 1) := by decide +kernel
theorem dX9_thing_79 : decode cX9_thing 79 = .ok (.goto 4, 3) := by decide +kernel
theorem dX9_thing_82 : decode cX9_thing 82 = .ok (.iconst 1, 1) := by decide +kernel
theorem dX9_thing_83 : decode cX9_thing 83 = .ok (.iastore, 1) := by decide +kernel
theorem dX9_thing_84 : decode cX9_thing 84 = .ok (.aload_n 0, 1) := by decide +kernel
theorem dX9_thing_85 : decode cX9_thing 85 = .ok (.getfield 126, 3) := by decide +kernel
theorem dX9_thing_88 : decode cX9_thing 88 = .ok (.aload_n 0, 1) := by decide +kernel
theorem dX9_thing_89 : decode cX9_thing 89 = .ok (.getfield 345, 3) := by decide +kernel
theorem dX9_thing_92 : decode cX9_thing 92 = .ok (.iload_n 3, 1) := by decide +kernel
theorem dX9_thing_93 : decode cX9_thing 93 = .ok (.iastore, 1) := by decide +kernel
theorem dX9_thing_94 : decode cX9_thing 94 = .ok (.aload_n 0, 1) := by decide +kernel
theorem dX9_thing_95 : decode cX9_thing 95 = .ok (.dup, 1) := by decide +kernel
theorem dX9_thing_96 : decode cX9_thing 96 = .ok (.getfield 345, 3) := by decide +kernel
theorem dX9_thing_99 : decode cX9_thing 99 = .ok (.iconst 1, 1) := by decide +kernel
theorem dX9_thing_100 : decode cX9_thing 100 = .ok (.iadd, 1) := by decide +kernel
theorem dX9_thing_101 : decode cX9_thing 101 = .ok (.putfield 345, 3) := by decide +kernel
theorem dX9_thing_104 : decode cX9_thing 104 = .ok (.aload_n 0, 1) := by decide +kernel
theorem dX9_thing_105 : decode cX9_thing 105 = .ok (.getfield 345, 3) := by decide +kernel
theorem dX9_thing_108 : decode cX9_thing 108 = .ok (.iconst 1, 1) := by decide +kernel
theorem dX9_thing_109 : decode cX9_thing 109 = .ok (.isub, 1) := by decide +kernel
theorem dX9_thing_110 : decode cX9_thing 110 = .ok (.ireturn, 1) := by decide +kernel
theorem dX9_ownsOf_0 : decode cX9_ownsOf 0 = .ok (.aload_n 0, 1) := by decide +kernel
theorem dX9_ownsOf_1 : decode cX9_ownsOf 1 = .ok (.iload_n 3, 1) := by decide +kernel
theorem dX9_ownsOf_2 : decode cX9_ownsOf 2 = .ok (.invokevirtual 183, 3) := by decide +kernel
theorem dX9_ownsOf_5 : decode cX9_ownsOf 5 = .ok (.istore 5, 2) := by decide +kernel
theorem dX9_ownsOf_7 : decode cX9_ownsOf 7 = .ok (.aload_n 0, 1) := by decide +kernel
theorem dX9_ownsOf_8 : decode cX9_ownsOf 8 = .ok (.getfield 120, 3) := by decide +kernel
theorem dX9_ownsOf_11 : decode cX9_ownsOf 11 = .ok (.iload_n 1, 1) := by decide +kernel
theorem dX9_ownsOf_12 : decode cX9_ownsOf 12 = .ok (.iaload, 1) := by decide +kernel
theorem dX9_ownsOf_13 : decode cX9_ownsOf 13 = .ok (.ifCond .ne 30, 3) := by decide +kernel
theorem dX9_ownsOf_16 : decode cX9_ownsOf 16 = .ok (.aload_n 0, 1) := by decide +kernel
theorem dX9_ownsOf_17 : decode cX9_ownsOf 17 = .ok (.getfield 44, 3) := by decide +kernel
theorem dX9_ownsOf_20 : decode cX9_ownsOf 20 = .ok (.bipush 8, 2) := by decide +kernel
theorem dX9_ownsOf_22 : decode cX9_ownsOf 22 = .ok (.iload 5, 2) := by decide +kernel
theorem dX9_ownsOf_24 : decode cX9_ownsOf 24 = .ok (.imul, 1) := by decide +kernel
theorem dX9_ownsOf_25 : decode cX9_ownsOf 25 = .ok (.aload_n 0, 1) := by decide +kernel
theorem dX9_ownsOf_26 : decode cX9_ownsOf 26 = .ok (.getfield 126, 3) := by decide +kernel
theorem dX9_ownsOf_29 : decode cX9_ownsOf 29 = .ok (.iload_n 1, 1) := by decide +kernel
theorem dX9_ownsOf_30 : decode cX9_ownsOf 30 = .ok (.iaload, 1) := by decide +kernel
theorem dX9_ownsOf_31 : decode cX9_ownsOf 31 = .ok (.iadd, 1) := by decide +kernel
theorem dX9_ownsOf_32 : decode cX9_ownsOf 32 = .ok (.iaload, 1) := by decide +kernel
theorem dX9_ownsOf_33 : decode cX9_ownsOf 33 = .ok (.iload_n 2, 1) := by decide +kernel
theorem dX9_ownsOf_34 : decode cX9_ownsOf 34 = .ok (.if_icmp .ne 7, 3) := by decide +kernel
theorem dX9_ownsOf_37 : decode cX9_ownsOf 37 = .ok (.iconst 1, 1) := by decide +kernel
theorem dX9_ownsOf_38 : decode cX9_ownsOf 38 = .ok (.goto 4, 3) := by decide +kernel
theorem dX9_ownsOf_41 : decode cX9_ownsOf 41 = .ok (.iconst 0, 1) := by decide +kernel
theorem dX9_ownsOf_42 : decode cX9_ownsOf 42 = .ok (.ireturn, 1) := by decide +kernel
theorem dX9_ownsOf_43 : decode cX9_ownsOf 43 = .ok (.aload_n 0, 1) := by decide +kernel
theorem dX9_ownsOf_44 : decode cX9_ownsOf 44 = .ok (.iconst 0, 1) := by decide +kernel
theorem dX9_ownsOf_45 : decode cX9_ownsOf 45 = .ok (.aload_n 0, 1) := by decide +kernel
theorem dX9_ownsOf_46 : decode cX9_ownsOf 46 = .ok (.getfield 123, 3) := by decide +kernel
theorem dX9_ownsOf_49 : decode cX9_ownsOf 49 = .ok (.iload_n 1, 1) := by decide +kernel
theorem dX9_ownsOf_50 : decode cX9_ownsOf 50 = .ok (.iaload, 1) := by decide +kernel
theorem dX9_ownsOf_51 : decode cX9_ownsOf 51 = .ok (.invokevirtual 334, 3) := by decide +kernel
theorem dX9_ownsOf_54 : decode cX9_ownsOf 54 = .ok (.iconst 0, 1) := by decide +kernel
theorem dX9_ownsOf_55 : decode cX9_ownsOf 55 = .ok (.istore 6, 2) := by decide +kernel
theorem dX9_ownsOf_57 : decode cX9_ownsOf 57 = .ok (.iload 6, 2) := by decide +kernel
theorem dX9_ownsOf_59 : decode cX9_ownsOf 59 = .ok (.iload 5, 2) := by decide +kernel
theorem dX9_ownsOf_61 : decode cX9_ownsOf 61 = .ok (.if_icmp .ge 38, 3) := by decide +kernel
theorem dX9_ownsOf_64 : decode cX9_ownsOf 64 = .ok (.aload_n 0, 1) := by decide +kernel
theorem dX9_ownsOf_65 : decode cX9_ownsOf 65 = .ok (.getfield 120, 3) := by decide +kernel
theorem dX9_ownsOf_68 : decode cX9_ownsOf 68 = .ok (.iload_n 1, 1) := by decide +kernel
theorem dX9_ownsOf_69 : decode cX9_ownsOf 69 = .ok (.iaload, 1) := by decide +kernel
theorem dX9_ownsOf_70 : decode cX9_ownsOf 70 = .ok (.iconst 1, 1) := by decide +kernel
theorem dX9_ownsOf_71 : decode cX9_ownsOf 71 = .ok (.if_icmp .ne 14, 3) := by decide +kernel
theorem dX9_ownsOf_74 : decode cX9_ownsOf 74 = .ok (.aload_n 0, 1) := by decide +kernel
theorem dX9_ownsOf_75 : decode cX9_ownsOf 75 = .ok (.iload 6, 2) := by decide +kernel
theorem dX9_ownsOf_77 : decode cX9_ownsOf 77 = .ok (.iload 4, 2) := by decide +kernel
theorem dX9_ownsOf_79 : decode cX9_ownsOf 79 = .ok (.invokevirtual 338, 3) := by decide +kernel
theorem dX9_ownsOf_82 : decode cX9_ownsOf 82 = .ok (.goto 11, 3) := by decide +kernel
theorem dX9_ownsOf_85 : decode cX9_ownsOf 85 = .ok (.aload_n 0, 1) := by decide +kernel
theorem dX9_ownsOf_86 : decode cX9_ownsOf 86 = .ok (.iload 6, 2) := by decide +kernel
theorem dX9_ownsOf_88 : decode cX9_ownsOf 88 = .ok (.iload 4, 2) := by decide +kernel
theorem dX9_ownsOf_90 : decode cX9_ownsOf 90 = .ok (.invokevirtual 348, 3) := by decide +kernel
theorem dX9_ownsOf_93 : decode cX9_ownsOf 93 = .ok (.iinc 6 1, 3) := by decide +kernel
theorem dX9_ownsOf_96 : decode cX9_ownsOf 96 = .ok (.goto (-39), 3) := by decide +kernel
theorem dX9_ownsOf_99 : decode cX9_ownsOf 99 = .ok (.aload_n 0, 1) := by decide +kernel
theorem dX9_ownsOf_100 : decode cX9_ownsOf 100 = .ok (.getfield 138, 3) := by decide +kernel
theorem dX9_ownsOf_103 : decode cX9_ownsOf 103 = .ok (.iload_n 2, 1) := by decide +kernel
theorem dX9_ownsOf_104 : decode cX9_ownsOf 104 = .ok (.iaload, 1) := by decide +kernel
theorem dX9_ownsOf_105 : decode cX9_ownsOf 105 = .ok (.ireturn, 1) := by decide +kernel
theorem dX9_owns_0 : decode cX9_owns 0 = .ok (.iload_n 1, 1) := by decide +kernel
theorem dX9_owns_1 : decode cX9_owns 1 = .ok (.iconst 0, 1) := by decide +kernel
theorem dX9_owns_2 : decode cX9_owns 2 = .ok (.aload_n 0, 1) := by decide +kernel
theorem dX9_owns_3 : decode cX9_owns 3 = .ok (.getfield 345, 3) := by decide +kernel
theorem dX9_owns_6 : decode cX9_owns 6 = .ok (.iconst 1, 1) := by decide +kernel
theorem dX9_owns_7 : decode cX9_owns 7 = .ok (.isub, 1) := by decide +kernel
theorem dX9_owns_8 : decode cX9_owns 8 = .ok (.invokestatic 148, 3) := by decide +kernel
theorem dX9_owns_11 : decode cX9_owns 11 = .ok (.ifCond .eq 11, 3) := by decide +kernel
theorem dX9_owns_14 : decode cX9_owns 14 = .ok (.aload_n 0, 1) := by decide +kernel
theorem dX9_owns_15 : decode cX9_owns 15 = .ok (.iload_n 2, 1) := by decide +kernel
theorem dX9_owns_16 : decode cX9_owns 16 = .ok (.invokevirtual 187, 3) := by decide +kernel
theorem dX9_owns_19 : decode cX9_owns 19 = .ok (.ifCond .ne 6, 3) := by decide +kernel
theorem dX9_owns_22 : decode cX9_owns 22 = .ok (.bipush (-2), 2) := by decide +kernel
theorem dX9_owns_24 : decode cX9_owns 24 = .ok (.ireturn, 1) := by decide +kernel
theorem dX9_owns_25 : decode cX9_owns 25 = .ok (.iload_n 3, 1) := by decide +kernel
theorem dX9_owns_26 : decode cX9_owns 26 = .ok (.invokestatic 165, 3) := by decide +kernel
theorem dX9_owns_29 : decode cX9_owns 29 = .ok (.ifCond .eq 19, 3) := by decide +kernel
theorem dX9_owns_32 : decode cX9_owns 32 = .ok (.aload_n 0, 1) := by decide +kernel
theorem dX9_owns_33 : decode cX9_owns 33 = .ok (.iload_n 1, 1) := by decide +kernel
theorem dX9_owns_34 : decode cX9_owns 34 = .ok (.iload_n 2, 1) := by decide +kernel
theorem dX9_owns_35 : decode cX9_owns 35 = .ok (.iload_n 3, 1) := by decide +kernel
theorem dX9_owns_36 : decode cX9_owns 36 = .ok (.aload_n 0, 1) := by decide +kernel
theorem dX9_owns_37 : decode cX9_owns 37 = .ok (.getfield 56, 3) := by decide +kernel
theorem dX9_owns_40 : decode cX9_owns 40 = .ok (.iconst 3, 1) := by decide +kernel
theorem dX9_owns_41 : decode cX9_owns 41 = .ok (.iaload, 1) := by decide +kernel
theorem dX9_owns_42 : decode cX9_owns 42 = .ok (.invokevirtual 351, 3) := by decide +kernel
theorem dX9_owns_45 : decode cX9_owns 45 = .ok (.goto 5, 3) := by decide +kernel
theorem dX9_owns_48 : decode cX9_owns 48 = .ok (.bipush (-3), 2) := by decide +kernel
theorem dX9_owns_50 : decode cX9_owns 50 = .ok (.ireturn, 1) := by decide +kernel
theorem dX9_served_0 : decode cX9_served 0 = .ok (.aload_n 0, 1) := by decide +kernel
theorem dX9_served_1 : decode cX9_served 1 = .ok (.iload_n 1, 1) := by decide +kernel
theorem dX9_served_2 : decode cX9_served 2 = .ok (.invokevirtual 187, 3) := by decide +kernel
theorem dX9_served_5 : decode cX9_served 5 = .ok (.ifCond .eq 19, 3) := by decide +kernel
theorem dX9_served_8 : decode cX9_served 8 = .ok (.aload_n 0, 1) := by decide +kernel
theorem dX9_served_9 : decode cX9_served 9 = .ok (.iload_n 2, 1) := by decide +kernel
theorem dX9_served_10 : decode cX9_served 10 = .ok (.invokevirtual 190, 3) := by decide +kernel
theorem dX9_served_13 : decode cX9_served 13 = .ok (.ifCond .eq 11, 3) := by decide +kernel
theorem dX9_served_16 : decode cX9_served 16 = .ok (.aload_n 0, 1) := by decide +kernel
theorem dX9_served_17 : decode cX9_served 17 = .ok (.iload_n 3, 1) := by decide +kernel
theorem dX9_served_18 : decode cX9_served 18 = .ok (.invokevirtual 190, 3) := by decide +kernel
theorem dX9_served_21 : decode cX9_served 21 = .ok (.ifCond .ne 6, 3) := by decide +kernel
theorem dX9_served_24 : decode cX9_served 24 = .ok (.bipush (-2), 2) := by decide +kernel
theorem dX9_served_26 : decode cX9_served 26 = .ok (.ireturn, 1) := by decide +kernel
theorem dX9_served_27 : decode cX9_served 27 = .ok (.aload_n 0, 1) := by decide +kernel
theorem dX9_served_28 : decode cX9_served 28 = .ok (.getfield 354, 3) := by decide +kernel
theorem dX9_served_31 : decode cX9_served 31 = .ok (.bipush 12, 2) := by decide +kernel
theorem dX9_served_33 : decode cX9_served 33 = .ok (.if_icmp .ne 6, 3) := by decide +kernel
theorem dX9_served_36 : decode cX9_served 36 = .ok (.bipush (-5), 2) := by decide +kernel
theorem dX9_served_38 : decode cX9_served 38 = .ok (.ireturn, 1) := by decide +kernel
theorem dX9_served_39 : decode cX9_served 39 = .ok (.aload_n 0, 1) := by decide +kernel
theorem dX9_served_40 : decode cX9_served 40 = .ok (.getfield 129, 3) := by decide +kernel
theorem dX9_served_43 : decode cX9_served 43 = .ok (.aload_n 0, 1) := by decide +kernel
theorem dX9_served_44 : decode cX9_served 44 = .ok (.getfield 354, 3) := by decide +kernel
theorem dX9_served_47 : decode cX9_served 47 = .ok (.iload_n 1, 1) := by decide +kernel
theorem dX9_served_48 : decode cX9_served 48 = .ok (.iastore, 1) := by decide +kernel
theorem dX9_served_49 : decode cX9_served 49 = .ok (.aload_n 0, 1) := by decide +kernel
theorem dX9_served_50 : decode cX9_served 50 = .ok (.getfield 132, 3) := by decide +kernel
theorem dX9_served_53 : decode cX9_served 53 = .ok (.aload_n 0, 1) := by decide +kernel
theorem dX9_served_54 : decode cX9_served 54 = .ok (.getfield 354, 3) := by decide +kernel
theorem dX9_served_57 : decode cX9_served 57 = .ok (.iload_n 2, 1) := by decide +kernel
theorem dX9_served_58 : decode cX9_served 58 = .ok (.iastore, 1) := by decide +kernel
theorem dX9_served_59 : decode cX9_served 59 = .ok (.aload_n 0, 1) := by decide +kernel
theorem dX9_served_60 : decode cX9_served 60 = .ok (.getfield 135, 3) := by decide +kernel
theorem dX9_served_63 : decode cX9_served 63 = .ok (.aload_n 0, 1) := by decide +kernel
theorem dX9_served_64 : decode cX9_served 64 = .ok (.getfield 354, 3) := by decide +kernel
theorem dX9_served_67 : decode cX9_served 67 = .ok (.iload_n 3, 1) := by decide +kernel
theorem dX9_served_68 : decode cX9_served 68 = .ok (.iastore, 1) := by decide +kernel
theorem dX9_served_69 : decode cX9_served 69 = .ok (.aload_n 0, 1) := by decide +kernel
theorem dX9_served_70 : decode cX9_served 70 = .ok (.dup, 1) := by decide +kernel
theorem dX9_served_71 : decode cX9_served 71 = .ok (.getfield 354, 3) := by decide +kernel
theorem dX9_served_74 : decode cX9_served 74 = .ok (.iconst 1, 1) := by decide +kernel
theorem dX9_served_75 : decode cX9_served 75 = .ok (.iadd, 1) := by decide +kernel
theorem dX9_served_76 : decode cX9_served 76 = .ok (.putfield 354, 3) := by decide +kernel
theorem dX9_served_79 : decode cX9_served 79 = .ok (.aload_n 0, 1) := by decide +kernel
theorem dX9_served_80 : decode cX9_served 80 = .ok (.getfield 354, 3) := by decide +kernel
theorem dX9_served_83 : decode cX9_served 83 = .ok (.iconst 1, 1) := by decide +kernel
theorem dX9_served_84 : decode cX9_served 84 = .ok (.isub, 1) := by decide +kernel
theorem dX9_served_85 : decode cX9_served 85 = .ok (.ireturn, 1) := by decide +kernel
theorem dX9_paid_0 : decode cX9_paid 0 = .ok (.iload_n 1, 1) := by decide +kernel
theorem dX9_paid_1 : decode cX9_paid 1 = .ok (.iconst 0, 1) := by decide +kernel
theorem dX9_paid_2 : decode cX9_paid 2 = .ok (.aload_n 0, 1) := by decide +kernel
theorem dX9_paid_3 : decode cX9_paid 3 = .ok (.getfield 354, 3) := by decide +kernel
theorem dX9_paid_6 : decode cX9_paid 6 = .ok (.iconst 1, 1) := by decide +kernel
theorem dX9_paid_7 : decode cX9_paid 7 = .ok (.isub, 1) := by decide +kernel
theorem dX9_paid_8 : decode cX9_paid 8 = .ok (.invokestatic 148, 3) := by decide +kernel
theorem dX9_paid_11 : decode cX9_paid 11 = .ok (.ifCond .ne 6, 3) := by decide +kernel
theorem dX9_paid_14 : decode cX9_paid 14 = .ok (.bipush (-2), 2) := by decide +kernel
theorem dX9_paid_16 : decode cX9_paid 16 = .ok (.ireturn, 1) := by decide +kernel
theorem dX9_paid_17 : decode cX9_paid 17 = .ok (.iload_n 2, 1) := by decide +kernel
theorem dX9_paid_18 : decode cX9_paid 18 = .ok (.invokestatic 165, 3) := by decide +kernel
theorem dX9_paid_21 : decode cX9_paid 21 = .ok (.ifCond .ne 6, 3) := by decide +kernel
theorem dX9_paid_24 : decode cX9_paid 24 = .ok (.bipush (-3), 2) := by decide +kernel
theorem dX9_paid_26 : decode cX9_paid 26 = .ok (.ireturn, 1) := by decide +kernel
theorem dX9_paid_27 : decode cX9_paid 27 = .ok (.aload_n 0, 1) := by decide +kernel
theorem dX9_paid_28 : decode cX9_paid 28 = .ok (.iload_n 2, 1) := by decide +kernel
theorem dX9_paid_29 : decode cX9_paid 29 = .ok (.invokevirtual 183, 3) := by decide +kernel
theorem dX9_paid_32 : decode cX9_paid 32 = .ok (.istore_n 3, 1) := by decide +kernel
theorem dX9_paid_33 : decode cX9_paid 33 = .ok (.aload_n 0, 1) := by decide +kernel
theorem dX9_paid_34 : decode cX9_paid 34 = .ok (.getfield 56, 3) := by decide +kernel
theorem dX9_paid_37 : decode cX9_paid 37 = .ok (.iconst 4, 1) := by decide +kernel
theorem dX9_paid_38 : decode cX9_paid 38 = .ok (.iaload, 1) := by decide +kernel
theorem dX9_paid_39 : decode cX9_paid 39 = .ok (.ifCond .ne 17, 3) := by decide +kernel
theorem dX9_paid_42 : decode cX9_paid 42 = .ok (.aload_n 0, 1) := by decide +kernel
theorem dX9_paid_43 : decode cX9_paid 43 = .ok (.aload_n 0, 1) := by decide +kernel
theorem dX9_paid_44 : decode cX9_paid 44 = .ok (.getfield 129, 3) := by decide +kernel
theorem dX9_paid_47 : decode cX9_paid 47 = .ok (.iload_n 1, 1) := by decide +kernel
theorem dX9_paid_48 : decode cX9_paid 48 = .ok (.iaload, 1) := by decide +kernel
theorem dX9_paid_49 : decode cX9_paid 49 = .ok (.iload_n 2, 1) := by decide +kernel
theorem dX9_paid_50 : decode cX9_paid 50 = .ok (.invokevirtual 199, 3) := by decide +kernel
theorem dX9_paid_53 : decode cX9_paid 53 = .ok (.goto 38, 3) := by decide +kernel
theorem dX9_paid_56 : decode cX9_paid 56 = .ok (.aload_n 0, 1) := by decide +kernel
theorem dX9_paid_57 : decode cX9_paid 57 = .ok (.getfield 44, 3) := by decide +kernel
theorem dX9_paid_60 : decode cX9_paid 60 = .ok (.bipush 8, 2) := by decide +kernel
theorem dX9_paid_62 : decode cX9_paid 62 = .ok (.iload_n 3, 1) := by decide +kernel
theorem dX9_paid_63 : decode cX9_paid 63 = .ok (.imul, 1) := by decide +kernel
theorem dX9_paid_64 : decode cX9_paid 64 = .ok (.aload_n 0, 1) := by decide +kernel
theorem dX9_paid_65 : decode cX9_paid 65 = .ok (.getfield 56, 3) := by decide +kernel
theorem dX9_paid_68 : decode cX9_paid 68 = .ok (.iconst 4, 1) := by decide +kernel
theorem dX9_paid_69 : decode cX9_paid 69 = .ok (.iaload, 1) := by decide +kernel
theorem dX9_paid_70 : decode cX9_paid 70 = .ok (.iconst 1, 1) := by decide +kernel
theorem dX9_paid_71 : decode cX9_paid 71 = .ok (.if_icmp .ne 12, 3) := by decide +kernel
theorem dX9_paid_74 : decode cX9_paid 74 = .ok (.aload_n 0, 1) := by decide +kernel
theorem dX9_paid_75 : decode cX9_paid 75 = .ok (.getfield 135, 3) := by decide +kernel
theorem dX9_paid_78 : decode cX9_paid 78 = .ok (.iload_n 1, 1) := by decide +kernel
theorem dX9_paid_79 : decode cX9_paid 79 = .ok (.iaload, 1) := by decide +kernel
theorem dX9_paid_80 : decode cX9_paid 80 = .ok (.goto 9, 3) := by decide +kernel
theorem dX9_paid_83 : decode cX9_paid 83 = .ok (.aload_n 0, 1) := by decide +kernel
theorem dX9_paid_84 : decode cX9_paid 84 = .ok (.getfield 132, 3) := by decide +kernel
theorem dX9_paid_87 : decode cX9_paid 87 = .ok (.iload_n 1, 1) := by decide +kernel
theorem dX9_paid_88 : decode cX9_paid 88 = .ok (.iaload, 1) := by decide +kernel
theorem dX9_paid_89 : decode cX9_paid 89 = .ok (.iadd, 1) := by decide +kernel
theorem dX9_paid_90 : decode cX9_paid 90 = .ok (.iaload, 1) := by decide +kernel
theorem dX9_paid_91 : decode cX9_paid 91 = .ok (.ireturn, 1) := by decide +kernel
theorem dX9_bits_0 : decode cX9_bits 0 = .ok (.iconst 0, 1) := by decide +kernel
theorem dX9_bits_1 : decode cX9_bits 1 = .ok (.istore_n 1, 1) := by decide +kernel
theorem dX9_bits_2 : decode cX9_bits 2 = .ok (.iconst 0, 1) := by decide +kernel
theorem dX9_bits_3 : decode cX9_bits 3 = .ok (.istore_n 2, 1) := by decide +kernel
theorem dX9_bits_4 : decode cX9_bits 4 = .ok (.iload_n 2, 1) := by decide +kernel
theorem dX9_bits_5 : decode cX9_bits 5 = .ok (.bipush 10, 2) := by decide +kernel
theorem dX9_bits_7 : decode cX9_bits 7 = .ok (.if_icmp .ge 17, 3) := by decide +kernel
theorem dX9_bits_10 : decode cX9_bits 10 = .ok (.iload_n 1, 1) := by decide +kernel
theorem dX9_bits_11 : decode cX9_bits 11 = .ok (.iload_n 0, 1) := by decide +kernel
theorem dX9_bits_12 : decode cX9_bits 12 = .ok (.iload_n 2, 1) := by decide +kernel
theorem dX9_bits_13 : decode cX9_bits 13 = .ok (.ishr, 1) := by decide +kernel
theorem dX9_bits_14 : decode cX9_bits 14 = .ok (.iconst 1, 1) := by decide +kernel
theorem dX9_bits_15 : decode cX9_bits 15 = .ok (.iand, 1) := by decide +kernel
theorem dX9_bits_16 : decode cX9_bits 16 = .ok (.iadd, 1) := by decide +kernel
theorem dX9_bits_17 : decode cX9_bits 17 = .ok (.istore_n 1, 1) := by decide +kernel
theorem dX9_bits_18 : decode cX9_bits 18 = .ok (.iinc 2 1, 3) := by decide +kernel
theorem dX9_bits_21 : decode cX9_bits 21 = .ok (.goto (-17), 3) := by decide +kernel
theorem dX9_bits_24 : decode cX9_bits 24 = .ok (.iload_n 1, 1) := by decide +kernel
theorem dX9_bits_25 : decode cX9_bits 25 = .ok (.ireturn, 1) := by decide +kernel
theorem dX9_findBound_0 : decode cX9_findBound 0 = .ok (.iconst 0, 1) := by decide +kernel
theorem dX9_findBound_1 : decode cX9_findBound 1 = .ok (.istore_n 2, 1) := by decide +kernel
theorem dX9_findBound_2 : decode cX9_findBound 2 = .ok (.iload_n 2, 1) := by decide +kernel
theorem dX9_findBound_3 : decode cX9_findBound 3 = .ok (.aload_n 0, 1) := by decide +kernel
theorem dX9_findBound_4 : decode cX9_findBound 4 = .ok (.getfield 159, 3) := by decide +kernel
theorem dX9_findBound_7 : decode cX9_findBound 7 = .ok (.if_icmp .ge 21, 3) := by decide +kernel
theorem dX9_findBound_10 : decode cX9_findBound 10 = .ok (.aload_n 0, 1) := by decide +kernel
theorem dX9_findBound_11 : decode cX9_findBound 11 = .ok (.getfield 105, 3) := by decide +kernel
theorem dX9_findBound_14 : decode cX9_findBound 14 = .ok (.iload_n 2, 1) := by decide +kernel
theorem dX9_findBound_15 : decode cX9_findBound 15 = .ok (.aload_n 0, 1) := by decide +kernel
theorem dX9_findBound_16 : decode cX9_findBound 16 = .ok (.iload_n 2, 1) := by decide +kernel
theorem dX9_findBound_17 : decode cX9_findBound 17 = .ok (.iload_n 1, 1) := by decide +kernel
theorem dX9_findBound_18 : decode cX9_findBound 18 = .ok (.invokevirtual 325, 3) := by decide +kernel
theorem dX9_findBound_21 : decode cX9_findBound 21 = .ok (.iastore, 1) := by decide +kernel
theorem dX9_findBound_22 : decode cX9_findBound 22 = .ok (.iinc 2 1, 3) := by decide +kernel
theorem dX9_findBound_25 : decode cX9_findBound 25 = .ok (.goto (-23), 3) := by decide +kernel
theorem dX9_findBound_28 : decode cX9_findBound 28 = .ok (.return_, 1) := by decide +kernel
theorem dX9_hangs_0 : decode cX9_hangs 0 = .ok (.iload_n 1, 1) := by decide +kernel
theorem dX9_hangs_1 : decode cX9_hangs 1 = .ok (.iconst 1, 1) := by decide +kernel
theorem dX9_hangs_2 : decode cX9_hangs 2 = .ok (.sipush 999, 3) := by decide +kernel
theorem dX9_hangs_5 : decode cX9_hangs 5 = .ok (.invokestatic 148, 3) := by decide +kernel
theorem dX9_hangs_8 : decode cX9_hangs 8 = .ok (.ifCond .eq 12, 3) := by decide +kernel
theorem dX9_hangs_11 : decode cX9_hangs 11 = .ok (.iload_n 2, 1) := by decide +kernel
theorem dX9_hangs_12 : decode cX9_hangs 12 = .ok (.iconst 0, 1) := by decide +kernel
theorem dX9_hangs_13 : decode cX9_hangs 13 = .ok (.iconst 1, 1) := by decide +kernel
theorem dX9_hangs_14 : decode cX9_hangs 14 = .ok (.invokestatic 148, 3) := by decide +kernel
theorem dX9_hangs_17 : decode cX9_hangs 17 = .ok (.ifCond .ne 6, 3) := by decide +kernel
theorem dX9_hangs_20 : decode cX9_hangs 20 = .ok (.bipush (-3), 2) := by decide +kernel
theorem dX9_hangs_22 : decode cX9_hangs 22 = .ok (.ireturn, 1) := by decide +kernel
theorem dX9_hangs_23 : decode cX9_hangs 23 = .ok (.iconst 0, 1) := by decide +kernel
theorem dX9_hangs_24 : decode cX9_hangs 24 = .ok (.istore_n 3, 1) := by decide +kernel
theorem dX9_hangs_25 : decode cX9_hangs 25 = .ok (.iconst (-1), 1) := by decide +kernel
theorem dX9_hangs_26 : decode cX9_hangs 26 = .ok (.istore 4, 2) := by decide +kernel
theorem dX9_hangs_28 : decode cX9_hangs 28 = .ok (.iconst 0, 1) := by decide +kernel
theorem dX9_hangs_29 : decode cX9_hangs 29 = .ok (.istore 5, 2) := by decide +kernel
theorem dX9_hangs_31 : decode cX9_hangs 31 = .ok (.iload_n 2, 1) := by decide +kernel
theorem dX9_hangs_32 : decode cX9_hangs 32 = .ok (.ifCond .ne 7, 3) := by decide +kernel
theorem dX9_hangs_35 : decode cX9_hangs 35 = .ok (.iload_n 1, 1) := by decide +kernel
theorem dX9_hangs_36 : decode cX9_hangs 36 = .ok (.goto 4, 3) := by decide +kernel
theorem dX9_hangs_39 : decode cX9_hangs 39 = .ok (.iconst 1, 1) := by decide +kernel
theorem dX9_hangs_40 : decode cX9_hangs 40 = .ok (.istore 6, 2) := by decide +kernel
theorem dX9_hangs_42 : decode cX9_hangs 42 = .ok (.aload_n 0, 1) := by decide +kernel
theorem dX9_hangs_43 : decode cX9_hangs 43 = .ok (.iload 6, 2) := by decide +kernel
theorem dX9_hangs_45 : decode cX9_hangs 45 = .ok (.iconst 1, 1) := by decide +kernel
theorem dX9_hangs_46 : decode cX9_hangs 46 = .ok (.isub, 1) := by decide +kernel
theorem dX9_hangs_47 : decode cX9_hangs 47 = .ok (.invokevirtual 357, 3) := by decide +kernel
theorem dX9_hangs_50 : decode cX9_hangs 50 = .ok (.iload 6, 2) := by decide +kernel
theorem dX9_hangs_52 : decode cX9_hangs 52 = .ok (.istore 7, 2) := by decide +kernel
theorem dX9_hangs_54 : decode cX9_hangs 54 = .ok (.iload 7, 2) := by decide +kernel
theorem dX9_hangs_56 : decode cX9_hangs 56 = .ok (.iload_n 1, 1) := by decide +kernel
theorem dX9_hangs_57 : decode cX9_hangs 57 = .ok (.if_icmp .gt 97, 3) := by decide +kernel
theorem dX9_hangs_60 : decode cX9_hangs 60 = .ok (.iconst 0, 1) := by decide +kernel
theorem dX9_hangs_61 : decode cX9_hangs 61 = .ok (.istore 5, 2) := by decide +kernel
theorem dX9_hangs_63 : decode cX9_hangs 63 = .ok (.iconst 0, 1) := by decide +kernel
theorem dX9_hangs_64 : decode cX9_hangs 64 = .ok (.istore 8, 2) := by decide +kernel
theorem dX9_hangs_66 : decode cX9_hangs 66 = .ok (.iload 8, 2) := by decide +kernel
theorem dX9_hangs_68 : decode cX9_hangs 68 = .ok (.aload_n 0, 1) := by decide +kernel
theorem dX9_hangs_69 : decode cX9_hangs 69 = .ok (.getfield 159, 3) := by decide +kernel
theorem dX9_hangs_72 : decode cX9_hangs 72 = .ok (.if_icmp .ge 46, 3) := by decide +kernel
theorem dX9_hangs_75 : decode cX9_hangs 75 = .ok (.aload_n 0, 1) := by decide +kernel
theorem dX9_hangs_76 : decode cX9_hangs 76 = .ok (.iload 8, 2) := by decide +kernel
theorem dX9_hangs_78 : decode cX9_hangs 78 = .ok (.iload 7, 2) := by decide +kernel
theorem dX9_hangs_80 : decode cX9_hangs 80 = .ok (.invokevirtual 325, 3) := by decide +kernel
theorem dX9_hangs_83 : decode cX9_hangs 83 = .ok (.istore 9, 2) := by decide +kernel
theorem dX9_hangs_85 : decode cX9_hangs 85 = .ok (.iload 5, 2) := by decide +kernel
theorem dX9_hangs_87 : decode cX9_hangs 87 = .ok (.iload 9, 2) := by decide +kernel
theorem dX9_hangs_89 : decode cX9_hangs 89 = .ok (.aload_n 0, 1) := by decide +kernel
theorem dX9_hangs_90 : decode cX9_hangs 90 = .ok (.getfield 105, 3) := by decide +kernel
theorem dX9_hangs_93 : decode cX9_hangs 93 = .ok (.iload 8, 2) := by decide +kernel
theorem dX9_hangs_95 : decode cX9_hangs 95 = .ok (.iaload, 1) := by decide +kernel
theorem dX9_hangs_96 : decode cX9_hangs 96 = .ok (.ixor, 1) := by decide +kernel
theorem dX9_hangs_97 : decode cX9_hangs 97 = .ok (.invokestatic 361, 3) := by decide +kernel
theorem dX9_hangs_100 : decode cX9_hangs 100 = .ok (.iadd, 1) := by decide +kernel
theorem dX9_hangs_101 : decode cX9_hangs 101 = .ok (.istore 5, 2) := by decide +kernel
theorem dX9_hangs_103 : decode cX9_hangs 103 = .ok (.aload_n 0, 1) := by decide +kernel
theorem dX9_hangs_104 : decode cX9_hangs 104 = .ok (.getfield 105, 3) := by decide +kernel
theorem dX9_hangs_107 : decode cX9_hangs 107 = .ok (.iload 8, 2) := by decide +kernel
theorem dX9_hangs_109 : decode cX9_hangs 109 = .ok (.iload 9, 2) := by decide +kernel
theorem dX9_hangs_111 : decode cX9_hangs 111 = .ok (.iastore, 1) := by decide +kernel
theorem dX9_hangs_112 : decode cX9_hangs 112 = .ok (.iinc 8 1, 3) := by decide +kernel
theorem dX9_hangs_115 : decode cX9_hangs 115 = .ok (.goto (-49), 3) := by decide +kernel
theorem dX9_hangs_118 : decode cX9_hangs 118 = .ok (.iload 5, 2) := by decide +kernel
theorem dX9_hangs_120 : decode cX9_hangs 120 = .ok (.iload 4, 2) := by decide +kernel
theorem dX9_hangs_122 : decode cX9_hangs 122 = .ok (.if_icmp .le 8, 3) := by decide +kernel
theorem dX9_hangs_125 : decode cX9_hangs 125 = .ok (.iload 7, 2) := by decide +kernel
theorem dX9_hangs_127 : decode cX9_hangs 127 = .ok (.goto 4, 3) := by decide +kernel
theorem dX9_hangs_130 : decode cX9_hangs 130 = .ok (.iload_n 3, 1) := by decide +kernel
theorem dX9_hangs_131 : decode cX9_hangs 131 = .ok (.istore_n 3, 1) := by decide +kernel
theorem dX9_hangs_132 : decode cX9_hangs 132 = .ok (.iload 5, 2) := by decide +kernel
theorem dX9_hangs_134 : decode cX9_hangs 134 = .ok (.iload 4, 2) := by decide +kernel
theorem dX9_hangs_136 : decode cX9_hangs 136 = .ok (.if_icmp .le 8, 3) := by decide +kernel
theorem dX9_hangs_139 : decode cX9_hangs 139 = .ok (.iload 5, 2) := by decide +kernel
theorem dX9_hangs_141 : decode cX9_hangs 141 = .ok (.goto 5, 3) := by decide +kernel
theorem dX9_hangs_144 : decode cX9_hangs 144 = .ok (.iload 4, 2) := by decide +kernel
theorem dX9_hangs_146 : decode cX9_hangs 146 = .ok (.istore 4, 2) := by decide +kernel
theorem dX9_hangs_148 : decode cX9_hangs 148 = .ok (.iinc 7 1, 3) := by decide +kernel
theorem dX9_hangs_151 : decode cX9_hangs 151 = .ok (.goto (-97), 3) := by decide +kernel
theorem dX9_hangs_154 : decode cX9_hangs 154 = .ok (.iload_n 2, 1) := by decide +kernel
theorem dX9_hangs_155 : decode cX9_hangs 155 = .ok (.ifCond .ne 8, 3) := by decide +kernel
theorem dX9_hangs_158 : decode cX9_hangs 158 = .ok (.iload 5, 2) := by decide +kernel
theorem dX9_hangs_160 : decode cX9_hangs 160 = .ok (.goto 4, 3) := by decide +kernel
theorem dX9_hangs_163 : decode cX9_hangs 163 = .ok (.iload_n 3, 1) := by decide +kernel
theorem dX9_hangs_164 : decode cX9_hangs 164 = .ok (.ireturn, 1) := by decide +kernel
theorem dX9_without_0 : decode cX9_without 0 = .ok (.aload_n 0, 1) := by decide +kernel
theorem dX9_without_1 : decode cX9_without 1 = .ok (.iload_n 1, 1) := by decide +kernel
theorem dX9_without_2 : decode cX9_without 2 = .ok (.invokevirtual 289, 3) := by decide +kernel
theorem dX9_without_5 : decode cX9_without 5 = .ok (.ifCond .eq 11, 3) := by decide +kernel
theorem dX9_without_8 : decode cX9_without 8 = .ok (.aload_n 0, 1) := by decide +kernel
theorem dX9_without_9 : decode cX9_without 9 = .ok (.iload_n 2, 1) := by decide +kernel
theorem dX9_without_10 : decode cX9_without 10 = .ok (.invokevirtual 187, 3) := by decide +kernel
theorem dX9_without_13 : decode cX9_without 13 = .ok (.ifCond .ne 6, 3) := by decide +kernel
theorem dX9_without_16 : decode cX9_without 16 = .ok (.bipush (-2), 2) := by decide +kernel
theorem dX9_without_18 : decode cX9_without 18 = .ok (.ireturn, 1) := by decide +kernel
theorem dX9_without_19 : decode cX9_without 19 = .ok (.iload_n 3, 1) := by decide +kernel
theorem dX9_without_20 : decode cX9_without 20 = .ok (.invokestatic 165, 3) := by decide +kernel
theorem dX9_without_23 : decode cX9_without 23 = .ok (.ifCond .ne 6, 3) := by decide +kernel
theorem dX9_without_26 : decode cX9_without 26 = .ok (.bipush (-3), 2) := by decide +kernel
theorem dX9_without_28 : decode cX9_without 28 = .ok (.ireturn, 1) := by decide +kernel
theorem dX9_without_29 : decode cX9_without 29 = .ok (.iconst (-1), 1) := by decide +kernel
theorem dX9_without_30 : decode cX9_without 30 = .ok (.istore 5, 2) := by decide +kernel
theorem dX9_without_32 : decode cX9_without 32 = .ok (.aload_n 0, 1) := by decide +kernel
theorem dX9_without_33 : decode cX9_without 33 = .ok (.getfield 292, 3) := by decide +kernel
theorem dX9_without_36 : decode cX9_without 36 = .ok (.bipush 10, 2) := by decide +kernel
theorem dX9_without_38 : decode cX9_without 38 = .ok (.if_icmp .ge 10, 3) := by decide +kernel
theorem dX9_without_41 : decode cX9_without 41 = .ok (.aload_n 0, 1) := by decide +kernel
theorem dX9_without_42 : decode cX9_without 42 = .ok (.getfield 292, 3) := by decide +kernel
theorem dX9_without_45 : decode cX9_without 45 = .ok (.goto 5, 3) := by decide +kernel
theorem dX9_without_48 : decode cX9_without 48 = .ok (.bipush 10, 2) := by decide +kernel
theorem dX9_without_50 : decode cX9_without 50 = .ok (.istore 6, 2) := by decide +kernel
theorem dX9_without_52 : decode cX9_without 52 = .ok (.iconst 0, 1) := by decide +kernel
theorem dX9_without_53 : decode cX9_without 53 = .ok (.istore 7, 2) := by decide +kernel
theorem dX9_without_55 : decode cX9_without 55 = .ok (.iload 7, 2) := by decide +kernel
theorem dX9_without_57 : decode cX9_without 57 = .ok (.iconst 1, 1) := by decide +kernel
theorem dX9_without_58 : decode cX9_without 58 = .ok (.iload 6, 2) := by decide +kernel
theorem dX9_without_60 : decode cX9_without 60 = .ok (.ishl, 1) := by decide +kernel
theorem dX9_without_61 : decode cX9_without 61 = .ok (.if_icmp .ge 71, 3) := by decide +kernel
theorem dX9_without_64 : decode cX9_without 64 = .ok (.iload 5, 2) := by decide +kernel
theorem dX9_without_66 : decode cX9_without 66 = .ok (.iconst (-1), 1) := by decide +kernel
theorem dX9_without_67 : decode cX9_without 67 = .ok (.if_icmp .eq 16, 3) := by decide +kernel
theorem dX9_without_70 : decode cX9_without 70 = .ok (.iload 7, 2) := by decide +kernel
theorem dX9_without_72 : decode cX9_without 72 = .ok (.invokestatic 361, 3) := by decide +kernel
theorem dX9_without_75 : decode cX9_without 75 = .ok (.iload 5, 2) := by decide +kernel
theorem dX9_without_77 : decode cX9_without 77 = .ok (.invokestatic 361, 3) := by decide +kernel
theorem dX9_without_80 : decode cX9_without 80 = .ok (.if_icmp .ge 46, 3) := by decide +kernel
theorem dX9_without_83 : decode cX9_without 83 = .ok (.aload_n 0, 1) := by decide +kernel
theorem dX9_without_84 : decode cX9_without 84 = .ok (.iload 7, 2) := by decide +kernel
theorem dX9_without_86 : decode cX9_without 86 = .ok (.putfield 298, 3) := by decide +kernel
theorem dX9_without_89 : decode cX9_without 89 = .ok (.aload_n 0, 1) := by decide +kernel
theorem dX9_without_90 : decode cX9_without 90 = .ok (.iload_n 1, 1) := by decide +kernel
theorem dX9_without_91 : decode cX9_without 91 = .ok (.iload_n 3, 1) := by decide +kernel
theorem dX9_without_92 : decode cX9_without 92 = .ok (.invokevirtual 325, 3) := by decide +kernel
theorem dX9_without_95 : decode cX9_without 95 = .ok (.iload_n 2, 1) := by decide +kernel
theorem dX9_without_96 : decode cX9_without 96 = .ok (.ishr, 1) := by decide +kernel
theorem dX9_without_97 : decode cX9_without 97 = .ok (.iconst 1, 1) := by decide +kernel
theorem dX9_without_98 : decode cX9_without 98 = .ok (.iand, 1) := by decide +kernel
theorem dX9_without_99 : decode cX9_without 99 = .ok (.iconst 1, 1) := by decide +kernel
theorem dX9_without_100 : decode cX9_without 100 = .ok (.if_icmp .ne 7, 3) := by decide +kernel
theorem dX9_without_103 : decode cX9_without 103 = .ok (.iconst 1, 1) := by decide +kernel
theorem dX9_without_104 : decode cX9_without 104 = .ok (.goto 4, 3) := by decide +kernel
theorem dX9_without_107 : decode cX9_without 107 = .ok (.iconst 0, 1) := by decide +kernel
theorem dX9_without_108 : decode cX9_without 108 = .ok (.istore 8, 2) := by decide +kernel
theorem dX9_without_110 : decode cX9_without 110 = .ok (.iload 8, 2) := by decide +kernel
theorem dX9_without_112 : decode cX9_without 112 = .ok (.iload 4, 2) := by decide +kernel
theorem dX9_without_114 : decode cX9_without 114 = .ok (.if_icmp .ne 8, 3) := by decide +kernel
theorem dX9_without_117 : decode cX9_without 117 = .ok (.iload 7, 2) := by decide +kernel
theorem dX9_without_119 : decode cX9_without 119 = .ok (.goto 5, 3) := by decide +kernel
theorem dX9_without_122 : decode cX9_without 122 = .ok (.iload 5, 2) := by decide +kernel
theorem dX9_without_124 : decode cX9_without 124 = .ok (.istore 5, 2) := by decide +kernel
theorem dX9_without_126 : decode cX9_without 126 = .ok (.iinc 7 1, 3) := by decide +kernel
theorem dX9_without_129 : decode cX9_without 129 = .ok (.goto (-74), 3) := by decide +kernel
theorem dX9_without_132 : decode cX9_without 132 = .ok (.aload_n 0, 1) := by decide +kernel
theorem dX9_without_133 : decode cX9_without 133 = .ok (.iconst 0, 1) := by decide +kernel
theorem dX9_without_134 : decode cX9_without 134 = .ok (.putfield 298, 3) := by decide +kernel
theorem dX9_without_137 : decode cX9_without 137 = .ok (.iload 5, 2) := by decide +kernel
theorem dX9_without_139 : decode cX9_without 139 = .ok (.ireturn, 1) := by decide +kernel
theorem dX9_burdenOf_0 : decode cX9_burdenOf 0 = .ok (.iconst 0, 1) := by decide +kernel
theorem dX9_burdenOf_1 : decode cX9_burdenOf 1 = .ok (.istore 4, 2) := by decide +kernel
theorem dX9_burdenOf_3 : decode cX9_burdenOf 3 = .ok (.iconst 0, 1) := by decide +kernel
theorem dX9_burdenOf_4 : decode cX9_burdenOf 4 = .ok (.istore 5, 2) := by decide +kernel
theorem dX9_burdenOf_6 : decode cX9_burdenOf 6 = .ok (.iload 5, 2) := by decide +kernel
theorem dX9_burdenOf_8 : decode cX9_burdenOf 8 = .ok (.aload_n 0, 1) := by decide +kernel
theorem dX9_burdenOf_9 : decode cX9_burdenOf 9 = .ok (.getfield 162, 3) := by decide +kernel
theorem dX9_burdenOf_12 : decode cX9_burdenOf 12 = .ok (.if_icmp .ge 23, 3) := by decide +kernel
theorem dX9_burdenOf_15 : decode cX9_burdenOf 15 = .ok (.iload 4, 2) := by decide +kernel
theorem dX9_burdenOf_17 : decode cX9_burdenOf 17 = .ok (.aload_n 0, 1) := by decide +kernel
theorem dX9_burdenOf_18 : decode cX9_burdenOf 18 = .ok (.iload 5, 2) := by decide +kernel
theorem dX9_burdenOf_20 : decode cX9_burdenOf 20 = .ok (.iload_n 1, 1) := by decide +kernel
theorem dX9_burdenOf_21 : decode cX9_burdenOf 21 = .ok (.iload_n 2, 1) := by decide +kernel
theorem dX9_burdenOf_22 : decode cX9_burdenOf 22 = .ok (.iload_n 3, 1) := by decide +kernel
theorem dX9_burdenOf_23 : decode cX9_burdenOf 23 = .ok (.invokevirtual 341, 3) := by decide +kernel
theorem dX9_burdenOf_26 : decode cX9_burdenOf 26 = .ok (.iadd, 1) := by decide +kernel
theorem dX9_burdenOf_27 : decode cX9_burdenOf 27 = .ok (.istore 4, 2) := by decide +kernel
theorem dX9_burdenOf_29 : decode cX9_burdenOf 29 = .ok (.iinc 5 1, 3) := by decide +kernel
theorem dX9_burdenOf_32 : decode cX9_burdenOf 32 = .ok (.goto (-26), 3) := by decide +kernel
theorem dX9_burdenOf_35 : decode cX9_burdenOf 35 = .ok (.iconst 0, 1) := by decide +kernel
theorem dX9_burdenOf_36 : decode cX9_burdenOf 36 = .ok (.istore 5, 2) := by decide +kernel
theorem dX9_burdenOf_38 : decode cX9_burdenOf 38 = .ok (.iload 5, 2) := by decide +kernel
theorem dX9_burdenOf_40 : decode cX9_burdenOf 40 = .ok (.aload_n 0, 1) := by decide +kernel
theorem dX9_burdenOf_41 : decode cX9_burdenOf 41 = .ok (.getfield 345, 3) := by decide +kernel
theorem dX9_burdenOf_44 : decode cX9_burdenOf 44 = .ok (.if_icmp .ge 37, 3) := by decide +kernel
theorem dX9_burdenOf_47 : decode cX9_burdenOf 47 = .ok (.iload 4, 2) := by decide +kernel
theorem dX9_burdenOf_49 : decode cX9_burdenOf 49 = .ok (.aload_n 0, 1) := by decide +kernel
theorem dX9_burdenOf_50 : decode cX9_burdenOf 50 = .ok (.getfield 120, 3) := by decide +kernel
theorem dX9_burdenOf_53 : decode cX9_burdenOf 53 = .ok (.iload 5, 2) := by decide +kernel
theorem dX9_burdenOf_55 : decode cX9_burdenOf 55 = .ok (.iaload, 1) := by decide +kernel
theorem dX9_burdenOf_56 : decode cX9_burdenOf 56 = .ok (.ifCond .ne 7, 3) := by decide +kernel
theorem dX9_burdenOf_59 : decode cX9_burdenOf 59 = .ok (.iconst 0, 1) := by decide +kernel
theorem dX9_burdenOf_60 : decode cX9_burdenOf 60 = .ok (.goto 12, 3) := by decide +kernel
theorem dX9_burdenOf_63 : decode cX9_burdenOf 63 = .ok (.aload_n 0, 1) := by decide +kernel
theorem dX9_burdenOf_64 : decode cX9_burdenOf 64 = .ok (.iload 5, 2) := by decide +kernel
theorem dX9_burdenOf_66 : decode cX9_burdenOf 66 = .ok (.iload_n 1, 1) := by decide +kernel
theorem dX9_burdenOf_67 : decode cX9_burdenOf 67 = .ok (.iload_n 2, 1) := by decide +kernel
theorem dX9_burdenOf_68 : decode cX9_burdenOf 68 = .ok (.iload_n 3, 1) := by decide +kernel
theorem dX9_burdenOf_69 : decode cX9_burdenOf 69 = .ok (.invokevirtual 351, 3) := by decide +kernel
theorem dX9_burdenOf_72 : decode cX9_burdenOf 72 = .ok (.isub, 1) := by decide +kernel
theorem dX9_burdenOf_73 : decode cX9_burdenOf 73 = .ok (.istore 4, 2) := by decide +kernel
theorem dX9_burdenOf_75 : decode cX9_burdenOf 75 = .ok (.iinc 5 1, 3) := by decide +kernel
theorem dX9_burdenOf_78 : decode cX9_burdenOf 78 = .ok (.goto (-40), 3) := by decide +kernel
theorem dX9_burdenOf_81 : decode cX9_burdenOf 81 = .ok (.iload 4, 2) := by decide +kernel
theorem dX9_burdenOf_83 : decode cX9_burdenOf 83 = .ok (.ireturn, 1) := by decide +kernel
theorem dX9_burden_0 : decode cX9_burden 0 = .ok (.aload_n 0, 1) := by decide +kernel
theorem dX9_burden_1 : decode cX9_burden 1 = .ok (.iload_n 1, 1) := by decide +kernel
theorem dX9_burden_2 : decode cX9_burden 2 = .ok (.invokevirtual 187, 3) := by decide +kernel
theorem dX9_burden_5 : decode cX9_burden 5 = .ok (.ifCond .ne 6, 3) := by decide +kernel
theorem dX9_burden_8 : decode cX9_burden 8 = .ok (.bipush (-2), 2) := by decide +kernel
theorem dX9_burden_10 : decode cX9_burden 10 = .ok (.ireturn, 1) := by decide +kernel
theorem dX9_burden_11 : decode cX9_burden 11 = .ok (.iload_n 2, 1) := by decide +kernel
theorem dX9_burden_12 : decode cX9_burden 12 = .ok (.invokestatic 165, 3) := by decide +kernel
theorem dX9_burden_15 : decode cX9_burden 15 = .ok (.ifCond .eq 26, 3) := by decide +kernel
theorem dX9_burden_18 : decode cX9_burden 18 = .ok (.iload_n 3, 1) := by decide +kernel
theorem dX9_burden_19 : decode cX9_burden 19 = .ok (.iconst 0, 1) := by decide +kernel
theorem dX9_burden_20 : decode cX9_burden 20 = .ok (.iconst 2, 1) := by decide +kernel
theorem dX9_burden_21 : decode cX9_burden 21 = .ok (.invokestatic 148, 3) := by decide +kernel
theorem dX9_burden_24 : decode cX9_burden 24 = .ok (.ifCond .eq 17, 3) := by decide +kernel
theorem dX9_burden_27 : decode cX9_burden 27 = .ok (.aload_n 0, 1) := by decide +kernel
theorem dX9_burden_28 : decode cX9_burden 28 = .ok (.iload_n 1, 1) := by decide +kernel
theorem dX9_burden_29 : decode cX9_burden 29 = .ok (.iload_n 2, 1) := by decide +kernel
theorem dX9_burden_30 : decode cX9_burden 30 = .ok (.iload_n 3, 1) := by decide +kernel
theorem dX9_burden_31 : decode cX9_burden 31 = .ok (.invokevirtual 364, 3) := by decide +kernel
theorem dX9_burden_34 : decode cX9_burden 34 = .ok (.ldc_w 367, 3) := by decide +kernel
theorem dX9_burden_37 : decode cX9_burden 37 = .ok (.iadd, 1) := by decide +kernel
theorem dX9_burden_38 : decode cX9_burden 38 = .ok (.goto 5, 3) := by decide +kernel
theorem dX9_burden_41 : decode cX9_burden 41 = .ok (.bipush (-3), 2) := by decide +kernel
theorem dX9_burden_43 : decode cX9_burden 43 = .ok (.ireturn, 1) := by decide +kernel
theorem dX9_best_0 : decode cX9_best 0 = .ok (.aload_n 0, 1) := by decide +kernel
theorem dX9_best_1 : decode cX9_best 1 = .ok (.iload_n 1, 1) := by decide +kernel
theorem dX9_best_2 : decode cX9_best 2 = .ok (.invokevirtual 187, 3) := by decide +kernel
theorem dX9_best_5 : decode cX9_best 5 = .ok (.ifCond .ne 6, 3) := by decide +kernel
theorem dX9_best_8 : decode cX9_best 8 = .ok (.bipush (-2), 2) := by decide +kernel
theorem dX9_best_10 : decode cX9_best 10 = .ok (.ireturn, 1) := by decide +kernel
theorem dX9_best_11 : decode cX9_best 11 = .ok (.iload_n 2, 1) := by decide +kernel
theorem dX9_best_12 : decode cX9_best 12 = .ok (.invokestatic 165, 3) := by decide +kernel
theorem dX9_best_15 : decode cX9_best 15 = .ok (.ifCond .ne 6, 3) := by decide +kernel
theorem dX9_best_18 : decode cX9_best 18 = .ok (.bipush (-3), 2) := by decide +kernel
theorem dX9_best_20 : decode cX9_best 20 = .ok (.ireturn, 1) := by decide +kernel
theorem dX9_best_21 : decode cX9_best 21 = .ok (.iconst 0, 1) := by decide +kernel
theorem dX9_best_22 : decode cX9_best 22 = .ok (.istore_n 3, 1) := by decide +kernel
theorem dX9_best_23 : decode cX9_best 23 = .ok (.iconst 1, 1) := by decide +kernel
theorem dX9_best_24 : decode cX9_best 24 = .ok (.istore 4, 2) := by decide +kernel
theorem dX9_best_26 : decode cX9_best 26 = .ok (.iload 4, 2) := by decide +kernel
theorem dX9_best_28 : decode cX9_best 28 = .ok (.iconst 3, 1) := by decide +kernel
theorem dX9_best_29 : decode cX9_best 29 = .ok (.if_icmp .ge 34, 3) := by decide +kernel
theorem dX9_best_32 : decode cX9_best 32 = .ok (.aload_n 0, 1) := by decide +kernel
theorem dX9_best_33 : decode cX9_best 33 = .ok (.iload_n 1, 1) := by decide +kernel
theorem dX9_best_34 : decode cX9_best 34 = .ok (.iload_n 2, 1) := by decide +kernel
theorem dX9_best_35 : decode cX9_best 35 = .ok (.iload 4, 2) := by decide +kernel
theorem dX9_best_37 : decode cX9_best 37 = .ok (.invokevirtual 364, 3) := by decide +kernel
theorem dX9_best_40 : decode cX9_best 40 = .ok (.aload_n 0, 1) := by decide +kernel
theorem dX9_best_41 : decode cX9_best 41 = .ok (.iload_n 1, 1) := by decide +kernel
theorem dX9_best_42 : decode cX9_best 42 = .ok (.iload_n 2, 1) := by decide +kernel
theorem dX9_best_43 : decode cX9_best 43 = .ok (.iload_n 3, 1) := by decide +kernel
theorem dX9_best_44 : decode cX9_best 44 = .ok (.invokevirtual 364, 3) := by decide +kernel
theorem dX9_best_47 : decode cX9_best 47 = .ok (.if_icmp .ge 8, 3) := by decide +kernel
theorem dX9_best_50 : decode cX9_best 50 = .ok (.iload 4, 2) := by decide +kernel
theorem dX9_best_52 : decode cX9_best 52 = .ok (.goto 4, 3) := by decide +kernel
theorem dX9_best_55 : decode cX9_best 55 = .ok (.iload_n 3, 1) := by decide +kernel
theorem dX9_best_56 : decode cX9_best 56 = .ok (.istore_n 3, 1) := by decide +kernel
theorem dX9_best_57 : decode cX9_best 57 = .ok (.iinc 4 1, 3) := by decide +kernel
theorem dX9_best_60 : decode cX9_best 60 = .ok (.goto (-34), 3) := by decide +kernel
theorem dX9_best_63 : decode cX9_best 63 = .ok (.iload_n 3, 1) := by decide +kernel
theorem dX9_best_64 : decode cX9_best 64 = .ok (.ireturn, 1) := by decide +kernel
theorem dX9_count_0 : decode cX9_count 0 = .ok (.iload_n 1, 1) := by decide +kernel
theorem dX9_count_1 : decode cX9_count 1 = .ok (.tableswitch 105 0 9 #[55, 60, 65, 70, 75, 80, 85, 90, 95, 100], 55) := by decide +kernel
theorem dX9_count_56 : decode cX9_count 56 = .ok (.aload_n 0, 1) := by decide +kernel
theorem dX9_count_57 : decode cX9_count 57 = .ok (.getfield 145, 3) := by decide +kernel
theorem dX9_count_60 : decode cX9_count 60 = .ok (.ireturn, 1) := by decide +kernel
theorem dX9_count_61 : decode cX9_count 61 = .ok (.aload_n 0, 1) := by decide +kernel
theorem dX9_count_62 : decode cX9_count 62 = .ok (.getfield 16, 3) := by decide +kernel
theorem dX9_count_65 : decode cX9_count 65 = .ok (.ireturn, 1) := by decide +kernel
theorem dX9_count_66 : decode cX9_count 66 = .ok (.aload_n 0, 1) := by decide +kernel
theorem dX9_count_67 : decode cX9_count 67 = .ok (.getfield 152, 3) := by decide +kernel
theorem dX9_count_70 : decode cX9_count 70 = .ok (.ireturn, 1) := by decide +kernel
theorem dX9_count_71 : decode cX9_count 71 = .ok (.aload_n 0, 1) := by decide +kernel
theorem dX9_count_72 : decode cX9_count 72 = .ok (.getfield 202, 3) := by decide +kernel
theorem dX9_count_75 : decode cX9_count 75 = .ok (.ireturn, 1) := by decide +kernel
theorem dX9_count_76 : decode cX9_count 76 = .ok (.aload_n 0, 1) := by decide +kernel
theorem dX9_count_77 : decode cX9_count 77 = .ok (.getfield 159, 3) := by decide +kernel
theorem dX9_count_80 : decode cX9_count 80 = .ok (.ireturn, 1) := by decide +kernel
theorem dX9_count_81 : decode cX9_count 81 = .ok (.aload_n 0, 1) := by decide +kernel
theorem dX9_count_82 : decode cX9_count 82 = .ok (.getfield 292, 3) := by decide +kernel
theorem dX9_count_85 : decode cX9_count 85 = .ok (.ireturn, 1) := by decide +kernel
theorem dX9_count_86 : decode cX9_count 86 = .ok (.aload_n 0, 1) := by decide +kernel
theorem dX9_count_87 : decode cX9_count 87 = .ok (.getfield 295, 3) := by decide +kernel
theorem dX9_count_90 : decode cX9_count 90 = .ok (.ireturn, 1) := by decide +kernel
theorem dX9_count_91 : decode cX9_count 91 = .ok (.aload_n 0, 1) := by decide +kernel
theorem dX9_count_92 : decode cX9_count 92 = .ok (.getfield 162, 3) := by decide +kernel
theorem dX9_count_95 : decode cX9_count 95 = .ok (.ireturn, 1) := by decide +kernel
theorem dX9_count_96 : decode cX9_count 96 = .ok (.aload_n 0, 1) := by decide +kernel
theorem dX9_count_97 : decode cX9_count 97 = .ok (.getfield 345, 3) := by decide +kernel
theorem dX9_count_100 : decode cX9_count 100 = .ok (.ireturn, 1) := by decide +kernel
theorem dX9_count_101 : decode cX9_count 101 = .ok (.aload_n 0, 1) := by decide +kernel
theorem dX9_count_102 : decode cX9_count 102 = .ok (.getfield 354, 3) := by decide +kernel
theorem dX9_count_105 : decode cX9_count 105 = .ok (.ireturn, 1) := by decide +kernel
theorem dX9_count_106 : decode cX9_count 106 = .ok (.bipush (-3), 2) := by decide +kernel
theorem dX9_count_108 : decode cX9_count 108 = .ok (.ireturn, 1) := by decide +kernel
theorem dJ6_bitCount_0f7a4_0 : decode cJ6_bitCount_0f7a4 0 = .ok (.iload_n 0, 1) := by decide +kernel
theorem dJ6_bitCount_0f7a4_1 : decode cJ6_bitCount_0f7a4 1 = .ok (.iload_n 0, 1) := by decide +kernel
theorem dJ6_bitCount_0f7a4_2 : decode cJ6_bitCount_0f7a4 2 = .ok (.iconst 1, 1) := by decide +kernel
theorem dJ6_bitCount_0f7a4_3 : decode cJ6_bitCount_0f7a4 3 = .ok (.iushr, 1) := by decide +kernel
theorem dJ6_bitCount_0f7a4_4 : decode cJ6_bitCount_0f7a4 4 = .ok (.ldc_w 265, 3) := by decide +kernel
theorem dJ6_bitCount_0f7a4_7 : decode cJ6_bitCount_0f7a4 7 = .ok (.iand, 1) := by decide +kernel
theorem dJ6_bitCount_0f7a4_8 : decode cJ6_bitCount_0f7a4 8 = .ok (.isub, 1) := by decide +kernel
theorem dJ6_bitCount_0f7a4_9 : decode cJ6_bitCount_0f7a4 9 = .ok (.istore_n 0, 1) := by decide +kernel
theorem dJ6_bitCount_0f7a4_10 : decode cJ6_bitCount_0f7a4 10 = .ok (.iload_n 0, 1) := by decide +kernel
theorem dJ6_bitCount_0f7a4_11 : decode cJ6_bitCount_0f7a4 11 = .ok (.ldc_w 266, 3) := by decide +kernel
theorem dJ6_bitCount_0f7a4_14 : decode cJ6_bitCount_0f7a4 14 = .ok (.iand, 1) := by decide +kernel
theorem dJ6_bitCount_0f7a4_15 : decode cJ6_bitCount_0f7a4 15 = .ok (.iload_n 0, 1) := by decide +kernel
theorem dJ6_bitCount_0f7a4_16 : decode cJ6_bitCount_0f7a4 16 = .ok (.iconst 2, 1) := by decide +kernel
theorem dJ6_bitCount_0f7a4_17 : decode cJ6_bitCount_0f7a4 17 = .ok (.iushr, 1) := by decide +kernel
theorem dJ6_bitCount_0f7a4_18 : decode cJ6_bitCount_0f7a4 18 = .ok (.ldc_w 266, 3) := by decide +kernel
theorem dJ6_bitCount_0f7a4_21 : decode cJ6_bitCount_0f7a4 21 = .ok (.iand, 1) := by decide +kernel
theorem dJ6_bitCount_0f7a4_22 : decode cJ6_bitCount_0f7a4 22 = .ok (.iadd, 1) := by decide +kernel
theorem dJ6_bitCount_0f7a4_23 : decode cJ6_bitCount_0f7a4 23 = .ok (.istore_n 0, 1) := by decide +kernel
theorem dJ6_bitCount_0f7a4_24 : decode cJ6_bitCount_0f7a4 24 = .ok (.iload_n 0, 1) := by decide +kernel
theorem dJ6_bitCount_0f7a4_25 : decode cJ6_bitCount_0f7a4 25 = .ok (.iload_n 0, 1) := by decide +kernel
theorem dJ6_bitCount_0f7a4_26 : decode cJ6_bitCount_0f7a4 26 = .ok (.iconst 4, 1) := by decide +kernel
theorem dJ6_bitCount_0f7a4_27 : decode cJ6_bitCount_0f7a4 27 = .ok (.iushr, 1) := by decide +kernel
theorem dJ6_bitCount_0f7a4_28 : decode cJ6_bitCount_0f7a4 28 = .ok (.iadd, 1) := by decide +kernel
theorem dJ6_bitCount_0f7a4_29 : decode cJ6_bitCount_0f7a4 29 = .ok (.ldc_w 267, 3) := by decide +kernel
theorem dJ6_bitCount_0f7a4_32 : decode cJ6_bitCount_0f7a4 32 = .ok (.iand, 1) := by decide +kernel
theorem dJ6_bitCount_0f7a4_33 : decode cJ6_bitCount_0f7a4 33 = .ok (.istore_n 0, 1) := by decide +kernel
theorem dJ6_bitCount_0f7a4_34 : decode cJ6_bitCount_0f7a4 34 = .ok (.iload_n 0, 1) := by decide +kernel
theorem dJ6_bitCount_0f7a4_35 : decode cJ6_bitCount_0f7a4 35 = .ok (.iload_n 0, 1) := by decide +kernel
theorem dJ6_bitCount_0f7a4_36 : decode cJ6_bitCount_0f7a4 36 = .ok (.bipush 8, 2) := by decide +kernel
theorem dJ6_bitCount_0f7a4_38 : decode cJ6_bitCount_0f7a4 38 = .ok (.iushr, 1) := by decide +kernel
theorem dJ6_bitCount_0f7a4_39 : decode cJ6_bitCount_0f7a4 39 = .ok (.iadd, 1) := by decide +kernel
theorem dJ6_bitCount_0f7a4_40 : decode cJ6_bitCount_0f7a4 40 = .ok (.istore_n 0, 1) := by decide +kernel
theorem dJ6_bitCount_0f7a4_41 : decode cJ6_bitCount_0f7a4 41 = .ok (.iload_n 0, 1) := by decide +kernel
theorem dJ6_bitCount_0f7a4_42 : decode cJ6_bitCount_0f7a4 42 = .ok (.iload_n 0, 1) := by decide +kernel
theorem dJ6_bitCount_0f7a4_43 : decode cJ6_bitCount_0f7a4 43 = .ok (.bipush 16, 2) := by decide +kernel
theorem dJ6_bitCount_0f7a4_45 : decode cJ6_bitCount_0f7a4 45 = .ok (.iushr, 1) := by decide +kernel
theorem dJ6_bitCount_0f7a4_46 : decode cJ6_bitCount_0f7a4 46 = .ok (.iadd, 1) := by decide +kernel
theorem dJ6_bitCount_0f7a4_47 : decode cJ6_bitCount_0f7a4 47 = .ok (.istore_n 0, 1) := by decide +kernel
theorem dJ6_bitCount_0f7a4_48 : decode cJ6_bitCount_0f7a4 48 = .ok (.iload_n 0, 1) := by decide +kernel
theorem dJ6_bitCount_0f7a4_49 : decode cJ6_bitCount_0f7a4 49 = .ok (.bipush 63, 2) := by decide +kernel
theorem dJ6_bitCount_0f7a4_51 : decode cJ6_bitCount_0f7a4 51 = .ok (.iand, 1) := by decide +kernel
theorem dJ6_bitCount_0f7a4_52 : decode cJ6_bitCount_0f7a4 52 = .ok (.ireturn, 1) := by decide +kernel
theorem dJ7_fill_53178_0 : decode cJ7_fill_53178 0 = .ok (.iconst 0, 1) := by decide +kernel
theorem dJ7_fill_53178_1 : decode cJ7_fill_53178 1 = .ok (.istore_n 2, 1) := by decide +kernel
theorem dJ7_fill_53178_2 : decode cJ7_fill_53178 2 = .ok (.aload_n 0, 1) := by decide +kernel
theorem dJ7_fill_53178_3 : decode cJ7_fill_53178 3 = .ok (.arraylength, 1) := by decide +kernel
theorem dJ7_fill_53178_4 : decode cJ7_fill_53178 4 = .ok (.istore_n 3, 1) := by decide +kernel
theorem dJ7_fill_53178_5 : decode cJ7_fill_53178 5 = .ok (.iload_n 2, 1) := by decide +kernel
theorem dJ7_fill_53178_6 : decode cJ7_fill_53178 6 = .ok (.iload_n 3, 1) := by decide +kernel
theorem dJ7_fill_53178_7 : decode cJ7_fill_53178 7 = .ok (.if_icmp .ge 13, 3) := by decide +kernel
theorem dJ7_fill_53178_10 : decode cJ7_fill_53178 10 = .ok (.aload_n 0, 1) := by decide +kernel
theorem dJ7_fill_53178_11 : decode cJ7_fill_53178 11 = .ok (.iload_n 2, 1) := by decide +kernel
theorem dJ7_fill_53178_12 : decode cJ7_fill_53178 12 = .ok (.iload_n 1, 1) := by decide +kernel
theorem dJ7_fill_53178_13 : decode cJ7_fill_53178 13 = .ok (.iastore, 1) := by decide +kernel
theorem dJ7_fill_53178_14 : decode cJ7_fill_53178 14 = .ok (.iinc 2 1, 3) := by decide +kernel
theorem dJ7_fill_53178_17 : decode cJ7_fill_53178 17 = .ok (.goto (-12), 3) := by decide +kernel
theorem dJ7_fill_53178_20 : decode cJ7_fill_53178 20 = .ok (.return_, 1) := by decide +kernel
