/-! what the rules ask of the tables -/
theorem n15_8 : (8 : Nat) ≠ 15 := by decide
theorem n15_10 : (10 : Nat) ≠ 15 := by decide
theorem n15_11 : (11 : Nat) ≠ 15 := by decide
theorem n15_13 : (13 : Nat) ≠ 15 := by decide
theorem nl_104 {pc : Nat} (h : (pc == 23) = false) : ¬ (104 = dk_law ∧ pc = dk_head) := fun c => by have e : pc = 23 := c.2; subst e; cases h
theorem nl_6 {pc : Nat} : ¬ (6 = dk_law ∧ pc = dk_head) := fun h => absurd h.1 (by decide)
theorem nl_7 {pc : Nat} : ¬ (7 = dk_law ∧ pc = dk_head) := fun h => absurd h.1 (by decide)
theorem nl_8 {pc : Nat} : ¬ (8 = dk_law ∧ pc = dk_head) := fun h => absurd h.1 (by decide)
theorem nl_9 {pc : Nat} : ¬ (9 = dk_law ∧ pc = dk_head) := fun h => absurd h.1 (by decide)
theorem nl_10 {pc : Nat} : ¬ (10 = dk_law ∧ pc = dk_head) := fun h => absurd h.1 (by decide)
theorem nl_11 {pc : Nat} : ¬ (11 = dk_law ∧ pc = dk_head) := fun h => absurd h.1 (by decide)
theorem nl_12 {pc : Nat} : ¬ (12 = dk_law ∧ pc = dk_head) := fun h => absurd h.1 (by decide)
theorem nl_13 {pc : Nat} : ¬ (13 = dk_law ∧ pc = dk_head) := fun h => absurd h.1 (by decide)
theorem nl_14 {pc : Nat} : ¬ (14 = dk_law ∧ pc = dk_head) := fun h => absurd h.1 (by decide)
theorem nl_15 {pc : Nat} : ¬ (15 = dk_law ∧ pc = dk_head) := fun h => absurd h.1 (by decide)
theorem nl_16 {pc : Nat} : ¬ (16 = dk_law ∧ pc = dk_head) := fun h => absurd h.1 (by decide)
theorem nl_17 {pc : Nat} : ¬ (17 = dk_law ∧ pc = dk_head) := fun h => absurd h.1 (by decide)
theorem nl_18 {pc : Nat} : ¬ (18 = dk_law ∧ pc = dk_head) := fun h => absurd h.1 (by decide)
theorem nl_19 {pc : Nat} : ¬ (19 = dk_law ∧ pc = dk_head) := fun h => absurd h.1 (by decide)
theorem nl_20 {pc : Nat} : ¬ (20 = dk_law ∧ pc = dk_head) := fun h => absurd h.1 (by decide)
theorem nl_21 {pc : Nat} : ¬ (21 = dk_law ∧ pc = dk_head) := fun h => absurd h.1 (by decide)
theorem nl_22 {pc : Nat} : ¬ (22 = dk_law ∧ pc = dk_head) := fun h => absurd h.1 (by decide)
theorem nl_23 {pc : Nat} : ¬ (23 = dk_law ∧ pc = dk_head) := fun h => absurd h.1 (by decide)
theorem nl_24 {pc : Nat} : ¬ (24 = dk_law ∧ pc = dk_head) := fun h => absurd h.1 (by decide)
theorem nl_25 {pc : Nat} : ¬ (25 = dk_law ∧ pc = dk_head) := fun h => absurd h.1 (by decide)
theorem nl_26 {pc : Nat} : ¬ (26 = dk_law ∧ pc = dk_head) := fun h => absurd h.1 (by decide)
theorem nl_27 {pc : Nat} : ¬ (27 = dk_law ∧ pc = dk_head) := fun h => absurd h.1 (by decide)
theorem nl_28 {pc : Nat} : ¬ (28 = dk_law ∧ pc = dk_head) := fun h => absurd h.1 (by decide)
theorem nl_29 {pc : Nat} : ¬ (29 = dk_law ∧ pc = dk_head) := fun h => absurd h.1 (by decide)
theorem nl_30 {pc : Nat} : ¬ (30 = dk_law ∧ pc = dk_head) := fun h => absurd h.1 (by decide)
theorem nl_31 {pc : Nat} : ¬ (31 = dk_law ∧ pc = dk_head) := fun h => absurd h.1 (by decide)
theorem nl_32 {pc : Nat} : ¬ (32 = dk_law ∧ pc = dk_head) := fun h => absurd h.1 (by decide)
theorem nl_33 {pc : Nat} : ¬ (33 = dk_law ∧ pc = dk_head) := fun h => absurd h.1 (by decide)
theorem nl_34 {pc : Nat} : ¬ (34 = dk_law ∧ pc = dk_head) := fun h => absurd h.1 (by decide)
theorem nl_35 {pc : Nat} : ¬ (35 = dk_law ∧ pc = dk_head) := fun h => absurd h.1 (by decide)
theorem nl_36 {pc : Nat} : ¬ (36 = dk_law ∧ pc = dk_head) := fun h => absurd h.1 (by decide)
theorem nl_37 {pc : Nat} : ¬ (37 = dk_law ∧ pc = dk_head) := fun h => absurd h.1 (by decide)
theorem nl_38 {pc : Nat} : ¬ (38 = dk_law ∧ pc = dk_head) := fun h => absurd h.1 (by decide)
theorem nl_39 {pc : Nat} : ¬ (39 = dk_law ∧ pc = dk_head) := fun h => absurd h.1 (by decide)
theorem nl_40 {pc : Nat} : ¬ (40 = dk_law ∧ pc = dk_head) := fun h => absurd h.1 (by decide)
theorem nl_41 {pc : Nat} : ¬ (41 = dk_law ∧ pc = dk_head) := fun h => absurd h.1 (by decide)
theorem nl_42 {pc : Nat} : ¬ (42 = dk_law ∧ pc = dk_head) := fun h => absurd h.1 (by decide)
theorem nl_43 {pc : Nat} : ¬ (43 = dk_law ∧ pc = dk_head) := fun h => absurd h.1 (by decide)
theorem nl_44 {pc : Nat} : ¬ (44 = dk_law ∧ pc = dk_head) := fun h => absurd h.1 (by decide)
theorem nl_45 {pc : Nat} : ¬ (45 = dk_law ∧ pc = dk_head) := fun h => absurd h.1 (by decide)
theorem nl_46 {pc : Nat} : ¬ (46 = dk_law ∧ pc = dk_head) := fun h => absurd h.1 (by decide)
theorem nl_47 {pc : Nat} : ¬ (47 = dk_law ∧ pc = dk_head) := fun h => absurd h.1 (by decide)
theorem nl_48 {pc : Nat} : ¬ (48 = dk_law ∧ pc = dk_head) := fun h => absurd h.1 (by decide)
theorem nl_49 {pc : Nat} : ¬ (49 = dk_law ∧ pc = dk_head) := fun h => absurd h.1 (by decide)
theorem nl_50 {pc : Nat} : ¬ (50 = dk_law ∧ pc = dk_head) := fun h => absurd h.1 (by decide)
theorem nl_51 {pc : Nat} : ¬ (51 = dk_law ∧ pc = dk_head) := fun h => absurd h.1 (by decide)
theorem nl_52 {pc : Nat} : ¬ (52 = dk_law ∧ pc = dk_head) := fun h => absurd h.1 (by decide)
theorem nl_53 {pc : Nat} : ¬ (53 = dk_law ∧ pc = dk_head) := fun h => absurd h.1 (by decide)
theorem nl_54 {pc : Nat} : ¬ (54 = dk_law ∧ pc = dk_head) := fun h => absurd h.1 (by decide)
theorem nl_55 {pc : Nat} : ¬ (55 = dk_law ∧ pc = dk_head) := fun h => absurd h.1 (by decide)
theorem nl_56 {pc : Nat} : ¬ (56 = dk_law ∧ pc = dk_head) := fun h => absurd h.1 (by decide)
theorem nl_57 {pc : Nat} : ¬ (57 = dk_law ∧ pc = dk_head) := fun h => absurd h.1 (by decide)
theorem nl_58 {pc : Nat} : ¬ (58 = dk_law ∧ pc = dk_head) := fun h => absurd h.1 (by decide)
theorem nl_59 {pc : Nat} : ¬ (59 = dk_law ∧ pc = dk_head) := fun h => absurd h.1 (by decide)
theorem nl_60 {pc : Nat} : ¬ (60 = dk_law ∧ pc = dk_head) := fun h => absurd h.1 (by decide)
theorem nl_61 {pc : Nat} : ¬ (61 = dk_law ∧ pc = dk_head) := fun h => absurd h.1 (by decide)
theorem nl_62 {pc : Nat} : ¬ (62 = dk_law ∧ pc = dk_head) := fun h => absurd h.1 (by decide)
theorem nl_63 {pc : Nat} : ¬ (63 = dk_law ∧ pc = dk_head) := fun h => absurd h.1 (by decide)
theorem nl_64 {pc : Nat} : ¬ (64 = dk_law ∧ pc = dk_head) := fun h => absurd h.1 (by decide)
theorem nl_65 {pc : Nat} : ¬ (65 = dk_law ∧ pc = dk_head) := fun h => absurd h.1 (by decide)
theorem nl_66 {pc : Nat} : ¬ (66 = dk_law ∧ pc = dk_head) := fun h => absurd h.1 (by decide)
theorem nl_67 {pc : Nat} : ¬ (67 = dk_law ∧ pc = dk_head) := fun h => absurd h.1 (by decide)
theorem nl_68 {pc : Nat} : ¬ (68 = dk_law ∧ pc = dk_head) := fun h => absurd h.1 (by decide)
theorem nl_69 {pc : Nat} : ¬ (69 = dk_law ∧ pc = dk_head) := fun h => absurd h.1 (by decide)
theorem nl_70 {pc : Nat} : ¬ (70 = dk_law ∧ pc = dk_head) := fun h => absurd h.1 (by decide)
theorem nl_72 {pc : Nat} : ¬ (72 = dk_law ∧ pc = dk_head) := fun h => absurd h.1 (by decide)
theorem nl_73 {pc : Nat} : ¬ (73 = dk_law ∧ pc = dk_head) := fun h => absurd h.1 (by decide)
theorem nl_74 {pc : Nat} : ¬ (74 = dk_law ∧ pc = dk_head) := fun h => absurd h.1 (by decide)
theorem nl_75 {pc : Nat} : ¬ (75 = dk_law ∧ pc = dk_head) := fun h => absurd h.1 (by decide)
theorem nl_76 {pc : Nat} : ¬ (76 = dk_law ∧ pc = dk_head) := fun h => absurd h.1 (by decide)
theorem nl_77 {pc : Nat} : ¬ (77 = dk_law ∧ pc = dk_head) := fun h => absurd h.1 (by decide)
theorem nl_78 {pc : Nat} : ¬ (78 = dk_law ∧ pc = dk_head) := fun h => absurd h.1 (by decide)
theorem nl_79 {pc : Nat} : ¬ (79 = dk_law ∧ pc = dk_head) := fun h => absurd h.1 (by decide)
theorem nl_80 {pc : Nat} : ¬ (80 = dk_law ∧ pc = dk_head) := fun h => absurd h.1 (by decide)
theorem nl_81 {pc : Nat} : ¬ (81 = dk_law ∧ pc = dk_head) := fun h => absurd h.1 (by decide)
theorem nl_82 {pc : Nat} : ¬ (82 = dk_law ∧ pc = dk_head) := fun h => absurd h.1 (by decide)
theorem nl_83 {pc : Nat} : ¬ (83 = dk_law ∧ pc = dk_head) := fun h => absurd h.1 (by decide)
theorem nl_84 {pc : Nat} : ¬ (84 = dk_law ∧ pc = dk_head) := fun h => absurd h.1 (by decide)
theorem nl_85 {pc : Nat} : ¬ (85 = dk_law ∧ pc = dk_head) := fun h => absurd h.1 (by decide)
theorem nl_86 {pc : Nat} : ¬ (86 = dk_law ∧ pc = dk_head) := fun h => absurd h.1 (by decide)
theorem nl_87 {pc : Nat} : ¬ (87 = dk_law ∧ pc = dk_head) := fun h => absurd h.1 (by decide)
theorem nl_88 {pc : Nat} : ¬ (88 = dk_law ∧ pc = dk_head) := fun h => absurd h.1 (by decide)
theorem nl_89 {pc : Nat} : ¬ (89 = dk_law ∧ pc = dk_head) := fun h => absurd h.1 (by decide)
theorem nl_90 {pc : Nat} : ¬ (90 = dk_law ∧ pc = dk_head) := fun h => absurd h.1 (by decide)
theorem nl_91 {pc : Nat} : ¬ (91 = dk_law ∧ pc = dk_head) := fun h => absurd h.1 (by decide)
theorem nl_92 {pc : Nat} : ¬ (92 = dk_law ∧ pc = dk_head) := fun h => absurd h.1 (by decide)
theorem nl_93 {pc : Nat} : ¬ (93 = dk_law ∧ pc = dk_head) := fun h => absurd h.1 (by decide)
theorem nl_94 {pc : Nat} : ¬ (94 = dk_law ∧ pc = dk_head) := fun h => absurd h.1 (by decide)
theorem nl_95 {pc : Nat} : ¬ (95 = dk_law ∧ pc = dk_head) := fun h => absurd h.1 (by decide)
theorem nl_96 {pc : Nat} : ¬ (96 = dk_law ∧ pc = dk_head) := fun h => absurd h.1 (by decide)
theorem nl_97 {pc : Nat} : ¬ (97 = dk_law ∧ pc = dk_head) := fun h => absurd h.1 (by decide)
theorem nl_98 {pc : Nat} : ¬ (98 = dk_law ∧ pc = dk_head) := fun h => absurd h.1 (by decide)
theorem nl_99 {pc : Nat} : ¬ (99 = dk_law ∧ pc = dk_head) := fun h => absurd h.1 (by decide)
theorem nl_100 {pc : Nat} : ¬ (100 = dk_law ∧ pc = dk_head) := fun h => absurd h.1 (by decide)
theorem nl_101 {pc : Nat} : ¬ (101 = dk_law ∧ pc = dk_head) := fun h => absurd h.1 (by decide)
theorem nl_102 {pc : Nat} : ¬ (102 = dk_law ∧ pc = dk_head) := fun h => absurd h.1 (by decide)
theorem nl_103 {pc : Nat} : ¬ (103 = dk_law ∧ pc = dk_head) := fun h => absurd h.1 (by decide)
theorem cd_6_0 : dk_find (dk_code 6) 0 = some (.aload_n 0, 1, 0, []) := by decide +kernel
theorem cd_6_1 : dk_find (dk_code 6) 1 = some (.iconst 0, 1, 0, []) := by decide +kernel
theorem cd_6_2 : dk_find (dk_code 6) 2 = some (.putfield 9, 3, 0, []) := by decide +kernel
theorem cd_6_5 : dk_find (dk_code 6) 5 = some (.aload_n 0, 1, 0, []) := by decide +kernel
theorem cd_6_6 : dk_find (dk_code 6) 6 = some (.iconst (-1), 1, 0, []) := by decide +kernel
theorem cd_6_7 : dk_find (dk_code 6) 7 = some (.putfield 15, 3, 0, []) := by decide +kernel
theorem cd_6_10 : dk_find (dk_code 6) 10 = some (.return_, 1, 0, []) := by decide +kernel
theorem cd_7_0 : dk_find (dk_code 7) 0 = some (.aload_n 0, 1, 0, []) := by decide +kernel
theorem cd_7_1 : dk_find (dk_code 7) 1 = some (.dup, 1, 0, []) := by decide +kernel
theorem cd_7_2 : dk_find (dk_code 7) 2 = some (.getfield 54, 3, 0, []) := by decide +kernel
theorem cd_7_5 : dk_find (dk_code 7) 5 = some (.iconst 1, 1, 0, []) := by decide +kernel
theorem cd_7_6 : dk_find (dk_code 7) 6 = some (.iadd, 1, 0, []) := by decide +kernel
theorem cd_7_7 : dk_find (dk_code 7) 7 = some (.putfield 54, 3, 0, []) := by decide +kernel
theorem cd_7_10 : dk_find (dk_code 7) 10 = some (.aload_n 0, 1, 0, []) := by decide +kernel
theorem cd_7_11 : dk_find (dk_code 7) 11 = some (.getfield 67, 3, 0, []) := by decide +kernel
theorem cd_7_14 : dk_find (dk_code 7) 14 = some (.ifCond .eq (25), 3, 39, []) := by decide +kernel
theorem cd_7_17 : dk_find (dk_code 7) 17 = some (.aload_n 0, 1, 0, []) := by decide +kernel
theorem cd_7_18 : dk_find (dk_code 7) 18 = some (.getfield 54, 3, 0, []) := by decide +kernel
theorem cd_7_21 : dk_find (dk_code 7) 21 = some (.aload_n 0, 1, 0, []) := by decide +kernel
theorem cd_7_22 : dk_find (dk_code 7) 22 = some (.getfield 67, 3, 0, []) := by decide +kernel
theorem cd_7_25 : dk_find (dk_code 7) 25 = some (.if_icmp .lt (14), 3, 39, []) := by decide +kernel
theorem cd_7_28 : dk_find (dk_code 7) 28 = some (.aload_n 0, 1, 0, []) := by decide +kernel
theorem cd_7_29 : dk_find (dk_code 7) 29 = some (.getfield 12, 3, 0, []) := by decide +kernel
theorem cd_7_32 : dk_find (dk_code 7) 32 = some (.getfield 70, 3, 0, []) := by decide +kernel
theorem cd_7_35 : dk_find (dk_code 7) 35 = some (.iconst 1, 1, 0, []) := by decide +kernel
theorem cd_7_36 : dk_find (dk_code 7) 36 = some (.if_icmp .eq (5), 3, 41, []) := by decide +kernel
theorem cd_7_39 : dk_find (dk_code 7) 39 = some (.iconst 0, 1, 0, []) := by decide +kernel
theorem cd_7_40 : dk_find (dk_code 7) 40 = some (.ireturn, 1, 0, []) := by decide +kernel
theorem cd_7_41 : dk_find (dk_code 7) 41 = some (.aload_n 0, 1, 0, []) := by decide +kernel
theorem cd_7_42 : dk_find (dk_code 7) 42 = some (.getfield 12, 3, 0, []) := by decide +kernel
theorem cd_7_45 : dk_find (dk_code 7) 45 = some (.invokevirtual 64, 3, 0, []) := by decide +kernel
theorem cd_7_48 : dk_find (dk_code 7) 48 = some (.iconst 1, 1, 0, []) := by decide +kernel
theorem cd_7_49 : dk_find (dk_code 7) 49 = some (.ireturn, 1, 0, []) := by decide +kernel
theorem cd_8_0 : dk_find (dk_code 8) 0 = some (.aload_n 0, 1, 0, []) := by decide +kernel
theorem cd_8_1 : dk_find (dk_code 8) 1 = some (.dup, 1, 0, []) := by decide +kernel
theorem cd_8_2 : dk_find (dk_code 8) 2 = some (.getfield 107, 3, 0, []) := by decide +kernel
theorem cd_8_5 : dk_find (dk_code 8) 5 = some (.iconst 1, 1, 0, []) := by decide +kernel
theorem cd_8_6 : dk_find (dk_code 8) 6 = some (.iadd, 1, 0, []) := by decide +kernel
theorem cd_8_7 : dk_find (dk_code 8) 7 = some (.putfield 107, 3, 0, []) := by decide +kernel
theorem cd_8_10 : dk_find (dk_code 8) 10 = some (.iconst 0, 1, 0, []) := by decide +kernel
theorem cd_8_11 : dk_find (dk_code 8) 11 = some (.istore_n 1, 1, 0, []) := by decide +kernel
theorem cd_8_12 : dk_find (dk_code 8) 12 = some (.iconst 0, 1, 0, []) := by decide +kernel
theorem cd_8_13 : dk_find (dk_code 8) 13 = some (.istore_n 2, 1, 0, []) := by decide +kernel
theorem cd_8_14 : dk_find (dk_code 8) 14 = some (.iload_n 2, 1, 0, []) := by decide +kernel
theorem cd_8_15 : dk_find (dk_code 8) 15 = some (.bipush (16), 2, 0, []) := by decide +kernel
theorem cd_8_17 : dk_find (dk_code 8) 17 = some (.if_icmp .ge (38), 3, 55, []) := by decide +kernel
theorem cd_8_20 : dk_find (dk_code 8) 20 = some (.aload_n 0, 1, 0, []) := by decide +kernel
theorem cd_8_21 : dk_find (dk_code 8) 21 = some (.getfield 11, 3, 0, []) := by decide +kernel
theorem cd_8_24 : dk_find (dk_code 8) 24 = some (.iload_n 2, 1, 0, []) := by decide +kernel
theorem cd_8_25 : dk_find (dk_code 8) 25 = some (.aaload, 1, 0, []) := by decide +kernel
theorem cd_8_26 : dk_find (dk_code 8) 26 = some (.getfield 66, 3, 0, []) := by decide +kernel
theorem cd_8_29 : dk_find (dk_code 8) 29 = some (.bipush (9), 2, 0, []) := by decide +kernel
theorem cd_8_31 : dk_find (dk_code 8) 31 = some (.if_icmp .eq (18), 3, 49, []) := by decide +kernel
theorem cd_8_34 : dk_find (dk_code 8) 34 = some (.aload_n 0, 1, 0, []) := by decide +kernel
theorem cd_8_35 : dk_find (dk_code 8) 35 = some (.getfield 11, 3, 0, []) := by decide +kernel
theorem cd_8_38 : dk_find (dk_code 8) 38 = some (.iload_n 2, 1, 0, []) := by decide +kernel
theorem cd_8_39 : dk_find (dk_code 8) 39 = some (.aaload, 1, 0, []) := by decide +kernel
theorem cd_8_40 : dk_find (dk_code 8) 40 = some (.invokevirtual 110, 3, 0, []) := by decide +kernel
theorem cd_8_43 : dk_find (dk_code 8) 43 = some (.ifCond .eq (6), 3, 49, []) := by decide +kernel
theorem cd_8_46 : dk_find (dk_code 8) 46 = some (.iinc 1 (1), 3, 0, []) := by decide +kernel
theorem cd_8_49 : dk_find (dk_code 8) 49 = some (.iinc 2 (1), 3, 0, []) := by decide +kernel
theorem cd_8_52 : dk_find (dk_code 8) 52 = some (.goto (-38), 3, 14, []) := by decide +kernel
theorem cd_8_55 : dk_find (dk_code 8) 55 = some (.iload_n 1, 1, 0, []) := by decide +kernel
theorem cd_8_56 : dk_find (dk_code 8) 56 = some (.ireturn, 1, 0, []) := by decide +kernel
theorem cd_9_0 : dk_find (dk_code 9) 0 = some (.iconst 0, 1, 0, []) := by decide +kernel
theorem cd_9_1 : dk_find (dk_code 9) 1 = some (.istore_n 1, 1, 0, []) := by decide +kernel
theorem cd_9_2 : dk_find (dk_code 9) 2 = some (.iconst 0, 1, 0, []) := by decide +kernel
theorem cd_9_3 : dk_find (dk_code 9) 3 = some (.istore_n 2, 1, 0, []) := by decide +kernel
theorem cd_9_4 : dk_find (dk_code 9) 4 = some (.iload_n 2, 1, 0, []) := by decide +kernel
theorem cd_9_5 : dk_find (dk_code 9) 5 = some (.bipush (16), 2, 0, []) := by decide +kernel
theorem cd_9_7 : dk_find (dk_code 9) 7 = some (.if_icmp .ge (26), 3, 33, []) := by decide +kernel
theorem cd_9_10 : dk_find (dk_code 9) 10 = some (.aload_n 0, 1, 0, []) := by decide +kernel
theorem cd_9_11 : dk_find (dk_code 9) 11 = some (.getfield 11, 3, 0, []) := by decide +kernel
theorem cd_9_14 : dk_find (dk_code 9) 14 = some (.iload_n 2, 1, 0, []) := by decide +kernel
theorem cd_9_15 : dk_find (dk_code 9) 15 = some (.aaload, 1, 0, []) := by decide +kernel
theorem cd_9_16 : dk_find (dk_code 9) 16 = some (.getfield 66, 3, 0, []) := by decide +kernel
theorem cd_9_19 : dk_find (dk_code 9) 19 = some (.bipush (9), 2, 0, []) := by decide +kernel
theorem cd_9_21 : dk_find (dk_code 9) 21 = some (.if_icmp .eq (6), 3, 27, []) := by decide +kernel
theorem cd_9_24 : dk_find (dk_code 9) 24 = some (.iinc 1 (1), 3, 0, []) := by decide +kernel
theorem cd_9_27 : dk_find (dk_code 9) 27 = some (.iinc 2 (1), 3, 0, []) := by decide +kernel
theorem cd_9_30 : dk_find (dk_code 9) 30 = some (.goto (-26), 3, 4, []) := by decide +kernel
theorem cd_9_33 : dk_find (dk_code 9) 33 = some (.iload_n 1, 1, 0, []) := by decide +kernel
theorem cd_9_34 : dk_find (dk_code 9) 34 = some (.ireturn, 1, 0, []) := by decide +kernel
theorem cd_10_0 : dk_find (dk_code 10) 0 = some (.iconst 0, 1, 0, []) := by decide +kernel
theorem cd_10_1 : dk_find (dk_code 10) 1 = some (.istore_n 1, 1, 0, []) := by decide +kernel
theorem cd_10_2 : dk_find (dk_code 10) 2 = some (.iconst 0, 1, 0, []) := by decide +kernel
theorem cd_10_3 : dk_find (dk_code 10) 3 = some (.istore_n 2, 1, 0, []) := by decide +kernel
theorem cd_10_4 : dk_find (dk_code 10) 4 = some (.iload_n 2, 1, 0, []) := by decide +kernel
theorem cd_10_5 : dk_find (dk_code 10) 5 = some (.bipush (8), 2, 0, []) := by decide +kernel
theorem cd_10_7 : dk_find (dk_code 10) 7 = some (.if_icmp .ge (21), 3, 28, []) := by decide +kernel
theorem cd_10_10 : dk_find (dk_code 10) 10 = some (.iload_n 1, 1, 0, []) := by decide +kernel
theorem cd_10_11 : dk_find (dk_code 10) 11 = some (.aload_n 0, 1, 0, []) := by decide +kernel
theorem cd_10_12 : dk_find (dk_code 10) 12 = some (.getfield 17, 3, 0, []) := by decide +kernel
theorem cd_10_15 : dk_find (dk_code 10) 15 = some (.iload_n 2, 1, 0, []) := by decide +kernel
theorem cd_10_16 : dk_find (dk_code 10) 16 = some (.aaload, 1, 0, []) := by decide +kernel
theorem cd_10_17 : dk_find (dk_code 10) 17 = some (.getfield 149, 3, 0, []) := by decide +kernel
theorem cd_10_20 : dk_find (dk_code 10) 20 = some (.iadd, 1, 0, []) := by decide +kernel
theorem cd_10_21 : dk_find (dk_code 10) 21 = some (.istore_n 1, 1, 0, []) := by decide +kernel
theorem cd_10_22 : dk_find (dk_code 10) 22 = some (.iinc 2 (1), 3, 0, []) := by decide +kernel
theorem cd_10_25 : dk_find (dk_code 10) 25 = some (.goto (-21), 3, 4, []) := by decide +kernel
theorem cd_10_28 : dk_find (dk_code 10) 28 = some (.iload_n 1, 1, 0, []) := by decide +kernel
theorem cd_10_29 : dk_find (dk_code 10) 29 = some (.ireturn, 1, 0, []) := by decide +kernel
theorem cd_11_0 : dk_find (dk_code 11) 0 = some (.iload_n 1, 1, 0, []) := by decide +kernel
theorem cd_11_1 : dk_find (dk_code 11) 1 = some (.tableswitch (63) (0) (4) #[35, 40, 45, 53, 58], 35, 64, [(0, 36), (1, 41), (2, 46), (3, 54), (4, 59)]) := by decide +kernel
theorem cd_11_36 : dk_find (dk_code 11) 36 = some (.aload_n 0, 1, 0, []) := by decide +kernel
theorem cd_11_37 : dk_find (dk_code 11) 37 = some (.getfield 183, 3, 0, []) := by decide +kernel
theorem cd_11_40 : dk_find (dk_code 11) 40 = some (.ireturn, 1, 0, []) := by decide +kernel
theorem cd_11_41 : dk_find (dk_code 11) 41 = some (.aload_n 0, 1, 0, []) := by decide +kernel
theorem cd_11_42 : dk_find (dk_code 11) 42 = some (.invokevirtual 191, 3, 0, []) := by decide +kernel
theorem cd_11_45 : dk_find (dk_code 11) 45 = some (.ireturn, 1, 0, []) := by decide +kernel
theorem cd_11_46 : dk_find (dk_code 11) 46 = some (.aload_n 0, 1, 0, []) := by decide +kernel
theorem cd_11_47 : dk_find (dk_code 11) 47 = some (.getfield 24, 3, 0, []) := by decide +kernel
theorem cd_11_50 : dk_find (dk_code 11) 50 = some (.getfield 163, 3, 0, []) := by decide +kernel
theorem cd_11_53 : dk_find (dk_code 11) 53 = some (.ireturn, 1, 0, []) := by decide +kernel
theorem cd_11_54 : dk_find (dk_code 11) 54 = some (.aload_n 0, 1, 0, []) := by decide +kernel
theorem cd_11_55 : dk_find (dk_code 11) 55 = some (.invokevirtual 194, 3, 0, []) := by decide +kernel
theorem cd_11_58 : dk_find (dk_code 11) 58 = some (.ireturn, 1, 0, []) := by decide +kernel
theorem cd_11_59 : dk_find (dk_code 11) 59 = some (.aload_n 0, 1, 0, []) := by decide +kernel
theorem cd_11_60 : dk_find (dk_code 11) 60 = some (.getfield 107, 3, 0, []) := by decide +kernel
theorem cd_11_63 : dk_find (dk_code 11) 63 = some (.ireturn, 1, 0, []) := by decide +kernel
theorem cd_11_64 : dk_find (dk_code 11) 64 = some (.iconst (-1), 1, 0, []) := by decide +kernel
theorem cd_11_65 : dk_find (dk_code 11) 65 = some (.ireturn, 1, 0, []) := by decide +kernel
theorem cd_12_0 : dk_find (dk_code 12) 0 = some (.iload_n 1, 1, 0, []) := by decide +kernel
theorem cd_12_1 : dk_find (dk_code 12) 1 = some (.ifCond .lt (9), 3, 10, []) := by decide +kernel
theorem cd_12_4 : dk_find (dk_code 12) 4 = some (.iload_n 1, 1, 0, []) := by decide +kernel
theorem cd_12_5 : dk_find (dk_code 12) 5 = some (.bipush (16), 2, 0, []) := by decide +kernel
theorem cd_12_7 : dk_find (dk_code 12) 7 = some (.if_icmp .lt (13), 3, 20, []) := by decide +kernel
theorem cd_12_10 : dk_find (dk_code 12) 10 = some (.new 144, 3, 0, []) := by decide +kernel
theorem cd_12_20 : dk_find (dk_code 12) 20 = some (.aload_n 0, 1, 0, []) := by decide +kernel
theorem cd_12_21 : dk_find (dk_code 12) 21 = some (.getfield 11, 3, 0, []) := by decide +kernel
theorem cd_12_24 : dk_find (dk_code 12) 24 = some (.iload_n 1, 1, 0, []) := by decide +kernel
theorem cd_12_25 : dk_find (dk_code 12) 25 = some (.aaload, 1, 0, []) := by decide +kernel
theorem cd_12_26 : dk_find (dk_code 12) 26 = some (.areturn, 1, 0, []) := by decide +kernel
theorem cd_13_0 : dk_find (dk_code 13) 0 = some (.aload_n 0, 1, 0, []) := by decide +kernel
theorem cd_13_1 : dk_find (dk_code 13) 1 = some (.iconst 0, 1, 0, []) := by decide +kernel
theorem cd_13_2 : dk_find (dk_code 13) 2 = some (.putfield 183, 3, 0, []) := by decide +kernel
theorem cd_13_5 : dk_find (dk_code 13) 5 = some (.iconst 0, 1, 0, []) := by decide +kernel
theorem cd_13_6 : dk_find (dk_code 13) 6 = some (.istore_n 1, 1, 0, []) := by decide +kernel
theorem cd_13_7 : dk_find (dk_code 13) 7 = some (.iload_n 1, 1, 0, []) := by decide +kernel
theorem cd_13_8 : dk_find (dk_code 13) 8 = some (.bipush (16), 2, 0, []) := by decide +kernel
theorem cd_13_10 : dk_find (dk_code 13) 10 = some (.if_icmp .ge (41), 3, 51, []) := by decide +kernel
theorem cd_13_13 : dk_find (dk_code 13) 13 = some (.aload_n 0, 1, 0, []) := by decide +kernel
theorem cd_13_14 : dk_find (dk_code 13) 14 = some (.getfield 11, 3, 0, []) := by decide +kernel
theorem cd_13_17 : dk_find (dk_code 13) 17 = some (.iload_n 1, 1, 0, []) := by decide +kernel
theorem cd_13_18 : dk_find (dk_code 13) 18 = some (.aaload, 1, 0, []) := by decide +kernel
theorem cd_13_19 : dk_find (dk_code 13) 19 = some (.getfield 40, 3, 0, []) := by decide +kernel
theorem cd_13_22 : dk_find (dk_code 13) 22 = some (.ifCond .eq (23), 3, 45, []) := by decide +kernel
theorem cd_13_25 : dk_find (dk_code 13) 25 = some (.aload_n 0, 1, 0, []) := by decide +kernel
theorem cd_13_26 : dk_find (dk_code 13) 26 = some (.getfield 28, 3, 0, []) := by decide +kernel
theorem cd_13_29 : dk_find (dk_code 13) 29 = some (.aload_n 0, 1, 0, []) := by decide +kernel
theorem cd_13_30 : dk_find (dk_code 13) 30 = some (.getfield 183, 3, 0, []) := by decide +kernel
theorem cd_13_33 : dk_find (dk_code 13) 33 = some (.iload_n 1, 1, 0, []) := by decide +kernel
theorem cd_13_34 : dk_find (dk_code 13) 34 = some (.iastore, 1, 0, []) := by decide +kernel
theorem cd_13_35 : dk_find (dk_code 13) 35 = some (.aload_n 0, 1, 0, []) := by decide +kernel
theorem cd_13_36 : dk_find (dk_code 13) 36 = some (.dup, 1, 0, []) := by decide +kernel
theorem cd_13_37 : dk_find (dk_code 13) 37 = some (.getfield 183, 3, 0, []) := by decide +kernel
theorem cd_13_40 : dk_find (dk_code 13) 40 = some (.iconst 1, 1, 0, []) := by decide +kernel
theorem cd_13_41 : dk_find (dk_code 13) 41 = some (.iadd, 1, 0, []) := by decide +kernel
theorem cd_13_42 : dk_find (dk_code 13) 42 = some (.putfield 183, 3, 0, []) := by decide +kernel
theorem cd_13_45 : dk_find (dk_code 13) 45 = some (.iinc 1 (1), 3, 0, []) := by decide +kernel
theorem cd_13_48 : dk_find (dk_code 13) 48 = some (.goto (-41), 3, 7, []) := by decide +kernel
theorem cd_13_51 : dk_find (dk_code 13) 51 = some (.return_, 1, 0, []) := by decide +kernel
theorem cd_14_0 : dk_find (dk_code 14) 0 = some (.aload_n 0, 1, 0, []) := by decide +kernel
theorem cd_14_1 : dk_find (dk_code 14) 1 = some (.iload_n 1, 1, 0, []) := by decide +kernel
theorem cd_14_2 : dk_find (dk_code 14) 2 = some (.invokevirtual 36, 3, 0, []) := by decide +kernel
theorem cd_14_5 : dk_find (dk_code 14) 5 = some (.astore_n 2, 1, 0, []) := by decide +kernel
theorem cd_14_6 : dk_find (dk_code 14) 6 = some (.aload_n 2, 1, 0, []) := by decide +kernel
theorem cd_14_7 : dk_find (dk_code 14) 7 = some (.getfield 40, 3, 0, []) := by decide +kernel
theorem cd_14_10 : dk_find (dk_code 14) 10 = some (.ifCond .eq (13), 3, 23, []) := by decide +kernel
theorem cd_14_13 : dk_find (dk_code 14) 13 = some (.new 44, 3, 0, []) := by decide +kernel
theorem cd_14_23 : dk_find (dk_code 14) 23 = some (.aload_n 2, 1, 0, []) := by decide +kernel
theorem cd_14_24 : dk_find (dk_code 14) 24 = some (.iconst 1, 1, 0, []) := by decide +kernel
theorem cd_14_25 : dk_find (dk_code 14) 25 = some (.putfield 40, 3, 0, []) := by decide +kernel
theorem cd_14_28 : dk_find (dk_code 14) 28 = some (.aload_n 0, 1, 0, []) := by decide +kernel
theorem cd_14_29 : dk_find (dk_code 14) 29 = some (.invokevirtual 51, 3, 0, []) := by decide +kernel
theorem cd_14_32 : dk_find (dk_code 14) 32 = some (.return_, 1, 0, []) := by decide +kernel
theorem cd_15_0 : dk_find (dk_code 15) 0 = some (.aload_n 0, 1, 0, []) := by decide +kernel
theorem cd_15_1 : dk_find (dk_code 15) 1 = some (.iload_n 1, 1, 0, []) := by decide +kernel
theorem cd_15_2 : dk_find (dk_code 15) 2 = some (.invokevirtual 7, 3, 0, []) := by decide +kernel
theorem cd_15_5 : dk_find (dk_code 15) 5 = some (.goto (9), 3, 14, []) := by decide +kernel
theorem cd_15_9 : dk_find (dk_code 15) 9 = some (.iconst 1, 1, 0, []) := by decide +kernel
theorem cd_15_10 : dk_find (dk_code 15) 10 = some (.ireturn, 1, 0, []) := by decide +kernel
theorem cd_15_12 : dk_find (dk_code 15) 12 = some (.iconst 2, 1, 0, []) := by decide +kernel
theorem cd_15_13 : dk_find (dk_code 15) 13 = some (.ireturn, 1, 0, []) := by decide +kernel
theorem cd_15_14 : dk_find (dk_code 15) 14 = some (.iconst 0, 1, 0, []) := by decide +kernel
theorem cd_15_15 : dk_find (dk_code 15) 15 = some (.ireturn, 1, 0, []) := by decide +kernel
theorem cd_16_0 : dk_find (dk_code 16) 0 = some (.aload_n 0, 1, 0, []) := by decide +kernel
theorem cd_16_1 : dk_find (dk_code 16) 1 = some (.iload_n 1, 1, 0, []) := by decide +kernel
theorem cd_16_2 : dk_find (dk_code 16) 2 = some (.invokevirtual 36, 3, 0, []) := by decide +kernel
theorem cd_16_5 : dk_find (dk_code 16) 5 = some (.astore_n 2, 1, 0, []) := by decide +kernel
theorem cd_16_6 : dk_find (dk_code 16) 6 = some (.aload_n 2, 1, 0, []) := by decide +kernel
theorem cd_16_7 : dk_find (dk_code 16) 7 = some (.getfield 40, 3, 0, []) := by decide +kernel
theorem cd_16_10 : dk_find (dk_code 16) 10 = some (.ifCond .ne (13), 3, 23, []) := by decide +kernel
theorem cd_16_13 : dk_find (dk_code 16) 13 = some (.new 44, 3, 0, []) := by decide +kernel
theorem cd_16_23 : dk_find (dk_code 16) 23 = some (.aload_n 2, 1, 0, []) := by decide +kernel
theorem cd_16_24 : dk_find (dk_code 16) 24 = some (.areturn, 1, 0, []) := by decide +kernel
theorem cd_17_0 : dk_find (dk_code 17) 0 = some (.iload_n 0, 1, 0, []) := by decide +kernel
theorem cd_17_1 : dk_find (dk_code 17) 1 = some (.ifCond .lt (13), 3, 14, []) := by decide +kernel
theorem cd_17_4 : dk_find (dk_code 17) 4 = some (.iload_n 0, 1, 0, []) := by decide +kernel
theorem cd_17_5 : dk_find (dk_code 17) 5 = some (.bipush (8), 2, 0, []) := by decide +kernel
theorem cd_17_7 : dk_find (dk_code 17) 7 = some (.if_icmp .ge (7), 3, 14, []) := by decide +kernel
theorem cd_17_10 : dk_find (dk_code 17) 10 = some (.iconst 1, 1, 0, []) := by decide +kernel
theorem cd_17_11 : dk_find (dk_code 17) 11 = some (.goto (4), 3, 15, []) := by decide +kernel
theorem cd_17_14 : dk_find (dk_code 17) 14 = some (.iconst 0, 1, 0, []) := by decide +kernel
theorem cd_17_15 : dk_find (dk_code 17) 15 = some (.ireturn, 1, 0, []) := by decide +kernel
theorem cd_18_0 : dk_find (dk_code 18) 0 = some (.aload_n 0, 1, 0, []) := by decide +kernel
theorem cd_18_1 : dk_find (dk_code 18) 1 = some (.getfield 20, 3, 0, []) := by decide +kernel
theorem cd_18_4 : dk_find (dk_code 18) 4 = some (.aload_n 0, 1, 0, []) := by decide +kernel
theorem cd_18_5 : dk_find (dk_code 18) 5 = some (.getfield 32, 3, 0, []) := by decide +kernel
theorem cd_18_8 : dk_find (dk_code 18) 8 = some (.aaload, 1, 0, []) := by decide +kernel
theorem cd_18_9 : dk_find (dk_code 18) 9 = some (.astore 5, 2, 0, []) := by decide +kernel
theorem cd_18_11 : dk_find (dk_code 18) 11 = some (.aload 5, 2, 0, []) := by decide +kernel
theorem cd_18_13 : dk_find (dk_code 18) 13 = some (.iload_n 1, 1, 0, []) := by decide +kernel
theorem cd_18_14 : dk_find (dk_code 18) 14 = some (.putfield 35, 3, 0, []) := by decide +kernel
theorem cd_18_17 : dk_find (dk_code 18) 17 = some (.aload 5, 2, 0, []) := by decide +kernel
theorem cd_18_19 : dk_find (dk_code 18) 19 = some (.iload_n 2, 1, 0, []) := by decide +kernel
theorem cd_18_20 : dk_find (dk_code 18) 20 = some (.putfield 38, 3, 0, []) := by decide +kernel
theorem cd_18_23 : dk_find (dk_code 18) 23 = some (.aload 5, 2, 0, []) := by decide +kernel
theorem cd_18_25 : dk_find (dk_code 18) 25 = some (.iload_n 3, 1, 0, []) := by decide +kernel
theorem cd_18_26 : dk_find (dk_code 18) 26 = some (.putfield 41, 3, 0, []) := by decide +kernel
theorem cd_18_29 : dk_find (dk_code 18) 29 = some (.aload 5, 2, 0, []) := by decide +kernel
theorem cd_18_31 : dk_find (dk_code 18) 31 = some (.iload 4, 2, 0, []) := by decide +kernel
theorem cd_18_33 : dk_find (dk_code 18) 33 = some (.putfield 44, 3, 0, []) := by decide +kernel
theorem cd_18_36 : dk_find (dk_code 18) 36 = some (.aload_n 0, 1, 0, []) := by decide +kernel
theorem cd_18_37 : dk_find (dk_code 18) 37 = some (.dup, 1, 0, []) := by decide +kernel
theorem cd_18_38 : dk_find (dk_code 18) 38 = some (.getfield 32, 3, 0, []) := by decide +kernel
theorem cd_18_41 : dk_find (dk_code 18) 41 = some (.iconst 1, 1, 0, []) := by decide +kernel
theorem cd_18_42 : dk_find (dk_code 18) 42 = some (.iadd, 1, 0, []) := by decide +kernel
theorem cd_18_43 : dk_find (dk_code 18) 43 = some (.putfield 32, 3, 0, []) := by decide +kernel
theorem cd_18_46 : dk_find (dk_code 18) 46 = some (.aload_n 0, 1, 0, []) := by decide +kernel
theorem cd_18_47 : dk_find (dk_code 18) 47 = some (.getfield 32, 3, 0, []) := by decide +kernel
theorem cd_18_50 : dk_find (dk_code 18) 50 = some (.iconst 1, 1, 0, []) := by decide +kernel
theorem cd_18_51 : dk_find (dk_code 18) 51 = some (.isub, 1, 0, []) := by decide +kernel
theorem cd_18_52 : dk_find (dk_code 18) 52 = some (.ireturn, 1, 0, []) := by decide +kernel
theorem cd_19_0 : dk_find (dk_code 19) 0 = some (.aload_n 0, 1, 0, []) := by decide +kernel
theorem cd_19_1 : dk_find (dk_code 19) 1 = some (.iload_n 1, 1, 0, []) := by decide +kernel
theorem cd_19_2 : dk_find (dk_code 19) 2 = some (.invokevirtual 54, 3, 0, []) := by decide +kernel
theorem cd_19_5 : dk_find (dk_code 19) 5 = some (.astore 6, 2, 0, []) := by decide +kernel
theorem cd_19_7 : dk_find (dk_code 19) 7 = some (.iload_n 2, 1, 0, []) := by decide +kernel
theorem cd_19_8 : dk_find (dk_code 19) 8 = some (.ifCond .eq (8), 3, 16, []) := by decide +kernel
theorem cd_19_11 : dk_find (dk_code 19) 11 = some (.iload_n 2, 1, 0, []) := by decide +kernel
theorem cd_19_12 : dk_find (dk_code 19) 12 = some (.iconst 1, 1, 0, []) := by decide +kernel
theorem cd_19_13 : dk_find (dk_code 19) 13 = some (.if_icmp .ne (10), 3, 23, []) := by decide +kernel
theorem cd_19_16 : dk_find (dk_code 19) 16 = some (.iload_n 3, 1, 0, []) := by decide +kernel
theorem cd_19_17 : dk_find (dk_code 19) 17 = some (.invokestatic 57, 3, 0, []) := by decide +kernel
theorem cd_19_20 : dk_find (dk_code 19) 20 = some (.ifCond .ne (13), 3, 33, []) := by decide +kernel
theorem cd_19_23 : dk_find (dk_code 19) 23 = some (.new 61, 3, 0, []) := by decide +kernel
theorem cd_19_33 : dk_find (dk_code 19) 33 = some (.aload 6, 2, 0, []) := by decide +kernel
theorem cd_19_35 : dk_find (dk_code 19) 35 = some (.getfield 66, 3, 0, []) := by decide +kernel
theorem cd_19_38 : dk_find (dk_code 19) 38 = some (.bipush (9), 2, 0, []) := by decide +kernel
theorem cd_19_40 : dk_find (dk_code 19) 40 = some (.if_icmp .ne (12), 3, 52, []) := by decide +kernel
theorem cd_19_43 : dk_find (dk_code 19) 43 = some (.aload 6, 2, 0, []) := by decide +kernel
theorem cd_19_45 : dk_find (dk_code 19) 45 = some (.getfield 70, 3, 0, []) := by decide +kernel
theorem cd_19_48 : dk_find (dk_code 19) 48 = some (.iconst 4, 1, 0, []) := by decide +kernel
theorem cd_19_49 : dk_find (dk_code 19) 49 = some (.if_icmp .lt (13), 3, 62, []) := by decide +kernel
theorem cd_19_52 : dk_find (dk_code 19) 52 = some (.new 73, 3, 0, []) := by decide +kernel
theorem cd_19_62 : dk_find (dk_code 19) 62 = some (.aload 6, 2, 0, []) := by decide +kernel
theorem cd_19_64 : dk_find (dk_code 19) 64 = some (.iload_n 2, 1, 0, []) := by decide +kernel
theorem cd_19_65 : dk_find (dk_code 19) 65 = some (.iload_n 3, 1, 0, []) := by decide +kernel
theorem cd_19_66 : dk_find (dk_code 19) 66 = some (.iload 4, 2, 0, []) := by decide +kernel
theorem cd_19_68 : dk_find (dk_code 19) 68 = some (.iload 5, 2, 0, []) := by decide +kernel
theorem cd_19_70 : dk_find (dk_code 19) 70 = some (.invokevirtual 78, 3, 0, []) := by decide +kernel
theorem cd_19_73 : dk_find (dk_code 19) 73 = some (.ireturn, 1, 0, []) := by decide +kernel
theorem cd_20_0 : dk_find (dk_code 20) 0 = some (.aload 6, 2, 0, []) := by decide +kernel
theorem cd_20_2 : dk_find (dk_code 20) 2 = some (.iconst 0, 1, 0, []) := by decide +kernel
theorem cd_20_3 : dk_find (dk_code 20) 3 = some (.aload_n 0, 1, 0, []) := by decide +kernel
theorem cd_20_4 : dk_find (dk_code 20) 4 = some (.iload_n 1, 1, 0, []) := by decide +kernel
theorem cd_20_5 : dk_find (dk_code 20) 5 = some (.iload_n 2, 1, 0, []) := by decide +kernel
theorem cd_20_6 : dk_find (dk_code 20) 6 = some (.iload_n 3, 1, 0, []) := by decide +kernel
theorem cd_20_7 : dk_find (dk_code 20) 7 = some (.iload 4, 2, 0, []) := by decide +kernel
theorem cd_20_9 : dk_find (dk_code 20) 9 = some (.iload 5, 2, 0, []) := by decide +kernel
theorem cd_20_11 : dk_find (dk_code 20) 11 = some (.invokevirtual 17, 3, 0, []) := by decide +kernel
theorem cd_20_14 : dk_find (dk_code 20) 14 = some (.i2l, 1, 0, []) := by decide +kernel
theorem cd_20_15 : dk_find (dk_code 20) 15 = some (.lastore, 1, 0, []) := by decide +kernel
theorem cd_20_16 : dk_find (dk_code 20) 16 = some (.goto (19), 3, 35, []) := by decide +kernel
theorem cd_20_21 : dk_find (dk_code 20) 21 = some (.iconst 1, 1, 0, []) := by decide +kernel
theorem cd_20_22 : dk_find (dk_code 20) 22 = some (.ireturn, 1, 0, []) := by decide +kernel
theorem cd_20_25 : dk_find (dk_code 20) 25 = some (.iconst 2, 1, 0, []) := by decide +kernel
theorem cd_20_26 : dk_find (dk_code 20) 26 = some (.ireturn, 1, 0, []) := by decide +kernel
theorem cd_20_29 : dk_find (dk_code 20) 29 = some (.iconst 3, 1, 0, []) := by decide +kernel
theorem cd_20_30 : dk_find (dk_code 20) 30 = some (.ireturn, 1, 0, []) := by decide +kernel
theorem cd_20_33 : dk_find (dk_code 20) 33 = some (.iconst 4, 1, 0, []) := by decide +kernel
theorem cd_20_34 : dk_find (dk_code 20) 34 = some (.ireturn, 1, 0, []) := by decide +kernel
theorem cd_20_35 : dk_find (dk_code 20) 35 = some (.iconst 0, 1, 0, []) := by decide +kernel
theorem cd_20_36 : dk_find (dk_code 20) 36 = some (.ireturn, 1, 0, []) := by decide +kernel
theorem cd_21_0 : dk_find (dk_code 21) 0 = some (.aload_n 0, 1, 0, []) := by decide +kernel
theorem cd_21_1 : dk_find (dk_code 21) 1 = some (.getfield 66, 3, 0, []) := by decide +kernel
theorem cd_21_4 : dk_find (dk_code 21) 4 = some (.bipush (9), 2, 0, []) := by decide +kernel
theorem cd_21_6 : dk_find (dk_code 21) 6 = some (.if_icmp .eq (13), 3, 19, []) := by decide +kernel
theorem cd_21_9 : dk_find (dk_code 21) 9 = some (.new 73, 3, 0, []) := by decide +kernel
theorem cd_21_19 : dk_find (dk_code 21) 19 = some (.return_, 1, 0, []) := by decide +kernel
theorem cd_22_0 : dk_find (dk_code 22) 0 = some (.aload_n 0, 1, 0, []) := by decide +kernel
theorem cd_22_1 : dk_find (dk_code 22) 1 = some (.iload_n 1, 1, 0, []) := by decide +kernel
theorem cd_22_2 : dk_find (dk_code 22) 2 = some (.invokevirtual 54, 3, 0, []) := by decide +kernel
theorem cd_22_5 : dk_find (dk_code 22) 5 = some (.astore_n 3, 1, 0, []) := by decide +kernel
theorem cd_22_6 : dk_find (dk_code 22) 6 = some (.iload_n 2, 1, 0, []) := by decide +kernel
theorem cd_22_7 : dk_find (dk_code 22) 7 = some (.ifCond .lt (10), 3, 17, []) := by decide +kernel
theorem cd_22_10 : dk_find (dk_code 22) 10 = some (.iload_n 2, 1, 0, []) := by decide +kernel
theorem cd_22_11 : dk_find (dk_code 22) 11 = some (.sipush (1000), 3, 0, []) := by decide +kernel
theorem cd_22_14 : dk_find (dk_code 22) 14 = some (.if_icmp .le (13), 3, 27, []) := by decide +kernel
theorem cd_22_17 : dk_find (dk_code 22) 17 = some (.new 61, 3, 0, []) := by decide +kernel
theorem cd_22_27 : dk_find (dk_code 22) 27 = some (.aload_n 3, 1, 0, []) := by decide +kernel
theorem cd_22_28 : dk_find (dk_code 22) 28 = some (.invokestatic 84, 3, 0, []) := by decide +kernel
theorem cd_22_31 : dk_find (dk_code 22) 31 = some (.aload_n 3, 1, 0, []) := by decide +kernel
theorem cd_22_32 : dk_find (dk_code 22) 32 = some (.getfield 88, 3, 0, []) := by decide +kernel
theorem cd_22_35 : dk_find (dk_code 22) 35 = some (.istore 4, 2, 0, []) := by decide +kernel
theorem cd_22_37 : dk_find (dk_code 22) 37 = some (.aload_n 3, 1, 0, []) := by decide +kernel
theorem cd_22_38 : dk_find (dk_code 22) 38 = some (.iload_n 2, 1, 0, []) := by decide +kernel
theorem cd_22_39 : dk_find (dk_code 22) 39 = some (.putfield 88, 3, 0, []) := by decide +kernel
theorem cd_22_42 : dk_find (dk_code 22) 42 = some (.iload 4, 2, 0, []) := by decide +kernel
theorem cd_22_44 : dk_find (dk_code 22) 44 = some (.ireturn, 1, 0, []) := by decide +kernel
theorem cd_23_0 : dk_find (dk_code 23) 0 = some (.aload_n 3, 1, 0, []) := by decide +kernel
theorem cd_23_1 : dk_find (dk_code 23) 1 = some (.iconst 0, 1, 0, []) := by decide +kernel
theorem cd_23_2 : dk_find (dk_code 23) 2 = some (.aload_n 0, 1, 0, []) := by decide +kernel
theorem cd_23_3 : dk_find (dk_code 23) 3 = some (.iload_n 1, 1, 0, []) := by decide +kernel
theorem cd_23_4 : dk_find (dk_code 23) 4 = some (.iload_n 2, 1, 0, []) := by decide +kernel
theorem cd_23_5 : dk_find (dk_code 23) 5 = some (.invokevirtual 25, 3, 0, []) := by decide +kernel
theorem cd_23_8 : dk_find (dk_code 23) 8 = some (.i2l, 1, 0, []) := by decide +kernel
theorem cd_23_9 : dk_find (dk_code 23) 9 = some (.lastore, 1, 0, []) := by decide +kernel
theorem cd_23_10 : dk_find (dk_code 23) 10 = some (.goto (19), 3, 29, []) := by decide +kernel
theorem cd_23_15 : dk_find (dk_code 23) 15 = some (.iconst 1, 1, 0, []) := by decide +kernel
theorem cd_23_16 : dk_find (dk_code 23) 16 = some (.ireturn, 1, 0, []) := by decide +kernel
theorem cd_23_19 : dk_find (dk_code 23) 19 = some (.iconst 2, 1, 0, []) := by decide +kernel
theorem cd_23_20 : dk_find (dk_code 23) 20 = some (.ireturn, 1, 0, []) := by decide +kernel
theorem cd_23_23 : dk_find (dk_code 23) 23 = some (.iconst 3, 1, 0, []) := by decide +kernel
theorem cd_23_24 : dk_find (dk_code 23) 24 = some (.ireturn, 1, 0, []) := by decide +kernel
theorem cd_23_27 : dk_find (dk_code 23) 27 = some (.iconst 4, 1, 0, []) := by decide +kernel
theorem cd_23_28 : dk_find (dk_code 23) 28 = some (.ireturn, 1, 0, []) := by decide +kernel
theorem cd_23_29 : dk_find (dk_code 23) 29 = some (.iconst 0, 1, 0, []) := by decide +kernel
theorem cd_23_30 : dk_find (dk_code 23) 30 = some (.ireturn, 1, 0, []) := by decide +kernel
theorem cd_24_0 : dk_find (dk_code 24) 0 = some (.aload_n 0, 1, 0, []) := by decide +kernel
theorem cd_24_1 : dk_find (dk_code 24) 1 = some (.iconst 1, 1, 0, []) := by decide +kernel
theorem cd_24_2 : dk_find (dk_code 24) 2 = some (.putfield 9, 3, 0, []) := by decide +kernel
theorem cd_24_5 : dk_find (dk_code 24) 5 = some (.aload_n 0, 1, 0, []) := by decide +kernel
theorem cd_24_6 : dk_find (dk_code 24) 6 = some (.iconst (-1), 1, 0, []) := by decide +kernel
theorem cd_24_7 : dk_find (dk_code 24) 7 = some (.putfield 15, 3, 0, []) := by decide +kernel
theorem cd_24_10 : dk_find (dk_code 24) 10 = some (.return_, 1, 0, []) := by decide +kernel
theorem cd_25_0 : dk_find (dk_code 25) 0 = some (.iload_n 1, 1, 0, []) := by decide +kernel
theorem cd_25_1 : dk_find (dk_code 25) 1 = some (.istore_n 2, 1, 0, []) := by decide +kernel
theorem cd_25_2 : dk_find (dk_code 25) 2 = some (.iload_n 2, 1, 0, []) := by decide +kernel
theorem cd_25_3 : dk_find (dk_code 25) 3 = some (.aload_n 0, 1, 0, []) := by decide +kernel
theorem cd_25_4 : dk_find (dk_code 25) 4 = some (.getfield 32, 3, 0, []) := by decide +kernel
theorem cd_25_7 : dk_find (dk_code 25) 7 = some (.if_icmp .ge (23), 3, 30, []) := by decide +kernel
theorem cd_25_10 : dk_find (dk_code 25) 10 = some (.aload_n 0, 1, 0, []) := by decide +kernel
theorem cd_25_11 : dk_find (dk_code 25) 11 = some (.getfield 20, 3, 0, []) := by decide +kernel
theorem cd_25_14 : dk_find (dk_code 25) 14 = some (.iload_n 2, 1, 0, []) := by decide +kernel
theorem cd_25_15 : dk_find (dk_code 25) 15 = some (.aaload, 1, 0, []) := by decide +kernel
theorem cd_25_16 : dk_find (dk_code 25) 16 = some (.getfield 44, 3, 0, []) := by decide +kernel
theorem cd_25_19 : dk_find (dk_code 25) 19 = some (.ifCond .eq (5), 3, 24, []) := by decide +kernel
theorem cd_25_22 : dk_find (dk_code 25) 22 = some (.iload_n 2, 1, 0, []) := by decide +kernel
theorem cd_25_23 : dk_find (dk_code 25) 23 = some (.ireturn, 1, 0, []) := by decide +kernel
theorem cd_25_24 : dk_find (dk_code 25) 24 = some (.iinc 2 (1), 3, 0, []) := by decide +kernel
theorem cd_25_27 : dk_find (dk_code 25) 27 = some (.goto (-25), 3, 2, []) := by decide +kernel
theorem cd_25_30 : dk_find (dk_code 25) 30 = some (.iconst (-1), 1, 0, []) := by decide +kernel
theorem cd_25_31 : dk_find (dk_code 25) 31 = some (.ireturn, 1, 0, []) := by decide +kernel
theorem cd_26_0 : dk_find (dk_code 26) 0 = some (.aload_n 0, 1, 0, []) := by decide +kernel
theorem cd_26_1 : dk_find (dk_code 26) 1 = some (.getfield 12, 3, 0, []) := by decide +kernel
theorem cd_26_4 : dk_find (dk_code 26) 4 = some (.dup, 1, 0, []) := by decide +kernel
theorem cd_26_5 : dk_find (dk_code 26) 5 = some (.getfield 48, 3, 0, []) := by decide +kernel
theorem cd_26_8 : dk_find (dk_code 26) 8 = some (.iconst 1, 1, 0, []) := by decide +kernel
theorem cd_26_9 : dk_find (dk_code 26) 9 = some (.iadd, 1, 0, []) := by decide +kernel
theorem cd_26_10 : dk_find (dk_code 26) 10 = some (.putfield 48, 3, 0, []) := by decide +kernel
theorem cd_26_13 : dk_find (dk_code 26) 13 = some (.aload_n 0, 1, 0, []) := by decide +kernel
theorem cd_26_14 : dk_find (dk_code 26) 14 = some (.getfield 12, 3, 0, []) := by decide +kernel
theorem cd_26_17 : dk_find (dk_code 26) 17 = some (.invokevirtual 51, 3, 0, []) := by decide +kernel
theorem cd_26_20 : dk_find (dk_code 26) 20 = some (.aload_n 0, 1, 0, []) := by decide +kernel
theorem cd_26_21 : dk_find (dk_code 26) 21 = some (.iconst 0, 1, 0, []) := by decide +kernel
theorem cd_26_22 : dk_find (dk_code 26) 22 = some (.putfield 54, 3, 0, []) := by decide +kernel
theorem cd_26_25 : dk_find (dk_code 26) 25 = some (.aload_n 0, 1, 0, []) := by decide +kernel
theorem cd_26_26 : dk_find (dk_code 26) 26 = some (.iconst 0, 1, 0, []) := by decide +kernel
theorem cd_26_27 : dk_find (dk_code 26) 27 = some (.invokevirtual 57, 3, 0, []) := by decide +kernel
theorem cd_26_30 : dk_find (dk_code 26) 30 = some (.istore_n 1, 1, 0, []) := by decide +kernel
theorem cd_26_31 : dk_find (dk_code 26) 31 = some (.iload_n 1, 1, 0, []) := by decide +kernel
theorem cd_26_32 : dk_find (dk_code 26) 32 = some (.iconst (-1), 1, 0, []) := by decide +kernel
theorem cd_26_33 : dk_find (dk_code 26) 33 = some (.if_icmp .ne (12), 3, 45, []) := by decide +kernel
theorem cd_26_36 : dk_find (dk_code 26) 36 = some (.aload_n 0, 1, 0, []) := by decide +kernel
theorem cd_26_37 : dk_find (dk_code 26) 37 = some (.bipush (7), 2, 0, []) := by decide +kernel
theorem cd_26_39 : dk_find (dk_code 26) 39 = some (.putfield 24, 3, 0, []) := by decide +kernel
theorem cd_26_42 : dk_find (dk_code 26) 42 = some (.goto (13), 3, 55, []) := by decide +kernel
theorem cd_26_45 : dk_find (dk_code 26) 45 = some (.aload_n 0, 1, 0, []) := by decide +kernel
theorem cd_26_46 : dk_find (dk_code 26) 46 = some (.iload_n 1, 1, 0, []) := by decide +kernel
theorem cd_26_47 : dk_find (dk_code 26) 47 = some (.putfield 61, 3, 0, []) := by decide +kernel
theorem cd_26_50 : dk_find (dk_code 26) 50 = some (.aload_n 0, 1, 0, []) := by decide +kernel
theorem cd_26_51 : dk_find (dk_code 26) 51 = some (.iconst 0, 1, 0, []) := by decide +kernel
theorem cd_26_52 : dk_find (dk_code 26) 52 = some (.putfield 24, 3, 0, []) := by decide +kernel
theorem cd_26_55 : dk_find (dk_code 26) 55 = some (.return_, 1, 0, []) := by decide +kernel
theorem cd_27_0 : dk_find (dk_code 27) 0 = some (.aload_n 0, 1, 0, []) := by decide +kernel
theorem cd_27_1 : dk_find (dk_code 27) 1 = some (.iload_n 1, 1, 0, []) := by decide +kernel
theorem cd_27_2 : dk_find (dk_code 27) 2 = some (.invokevirtual 54, 3, 0, []) := by decide +kernel
theorem cd_27_5 : dk_find (dk_code 27) 5 = some (.astore_n 2, 1, 0, []) := by decide +kernel
theorem cd_27_6 : dk_find (dk_code 27) 6 = some (.aload_n 2, 1, 0, []) := by decide +kernel
theorem cd_27_7 : dk_find (dk_code 27) 7 = some (.invokestatic 84, 3, 0, []) := by decide +kernel
theorem cd_27_10 : dk_find (dk_code 27) 10 = some (.aload_n 2, 1, 0, []) := by decide +kernel
theorem cd_27_11 : dk_find (dk_code 27) 11 = some (.invokevirtual 91, 3, 0, []) := by decide +kernel
theorem cd_27_14 : dk_find (dk_code 27) 14 = some (.aload_n 2, 1, 0, []) := by decide +kernel
theorem cd_27_15 : dk_find (dk_code 27) 15 = some (.getfield 94, 3, 0, []) := by decide +kernel
theorem cd_27_18 : dk_find (dk_code 27) 18 = some (.getfield 98, 3, 0, []) := by decide +kernel
theorem cd_27_21 : dk_find (dk_code 27) 21 = some (.ireturn, 1, 0, []) := by decide +kernel
theorem cd_28_0 : dk_find (dk_code 28) 0 = some (.aload_n 2, 1, 0, []) := by decide +kernel
theorem cd_28_1 : dk_find (dk_code 28) 1 = some (.iconst 0, 1, 0, []) := by decide +kernel
theorem cd_28_2 : dk_find (dk_code 28) 2 = some (.aload_n 0, 1, 0, []) := by decide +kernel
theorem cd_28_3 : dk_find (dk_code 28) 3 = some (.iload_n 1, 1, 0, []) := by decide +kernel
theorem cd_28_4 : dk_find (dk_code 28) 4 = some (.invokevirtual 29, 3, 0, []) := by decide +kernel
theorem cd_28_7 : dk_find (dk_code 28) 7 = some (.i2l, 1, 0, []) := by decide +kernel
theorem cd_28_8 : dk_find (dk_code 28) 8 = some (.lastore, 1, 0, []) := by decide +kernel
theorem cd_28_9 : dk_find (dk_code 28) 9 = some (.goto (12), 3, 21, []) := by decide +kernel
theorem cd_28_13 : dk_find (dk_code 28) 13 = some (.iconst 1, 1, 0, []) := by decide +kernel
theorem cd_28_14 : dk_find (dk_code 28) 14 = some (.ireturn, 1, 0, []) := by decide +kernel
theorem cd_28_16 : dk_find (dk_code 28) 16 = some (.iconst 2, 1, 0, []) := by decide +kernel
theorem cd_28_17 : dk_find (dk_code 28) 17 = some (.ireturn, 1, 0, []) := by decide +kernel
theorem cd_28_19 : dk_find (dk_code 28) 19 = some (.iconst 3, 1, 0, []) := by decide +kernel
theorem cd_28_20 : dk_find (dk_code 28) 20 = some (.ireturn, 1, 0, []) := by decide +kernel
theorem cd_28_21 : dk_find (dk_code 28) 21 = some (.iconst 0, 1, 0, []) := by decide +kernel
theorem cd_28_22 : dk_find (dk_code 28) 22 = some (.ireturn, 1, 0, []) := by decide +kernel
theorem cd_29_0 : dk_find (dk_code 29) 0 = some (.aload_n 0, 1, 0, []) := by decide +kernel
theorem cd_29_1 : dk_find (dk_code 29) 1 = some (.getfield 24, 3, 0, []) := by decide +kernel
theorem cd_29_4 : dk_find (dk_code 29) 4 = some (.tableswitch (75) (0) (7) #[48, 48, 48, 75, 75, 75, 75, 48], 48, 79, [(0, 52), (1, 52), (2, 52), (3, 79), (4, 79), (5, 79), (6, 79), (7, 52)]) := by decide +kernel
theorem cd_29_52 : dk_find (dk_code 29) 52 = some (.aload_n 0, 1, 0, []) := by decide +kernel
theorem cd_29_53 : dk_find (dk_code 29) 53 = some (.getfield 12, 3, 0, []) := by decide +kernel
theorem cd_29_56 : dk_find (dk_code 29) 56 = some (.getfield 70, 3, 0, []) := by decide +kernel
theorem cd_29_59 : dk_find (dk_code 29) 59 = some (.iconst 3, 1, 0, []) := by decide +kernel
theorem cd_29_60 : dk_find (dk_code 29) 60 = some (.if_icmp .eq (13), 3, 73, []) := by decide +kernel
theorem cd_29_63 : dk_find (dk_code 29) 63 = some (.aload_n 0, 1, 0, []) := by decide +kernel
theorem cd_29_64 : dk_find (dk_code 29) 64 = some (.getfield 12, 3, 0, []) := by decide +kernel
theorem cd_29_67 : dk_find (dk_code 29) 67 = some (.getfield 70, 3, 0, []) := by decide +kernel
theorem cd_29_70 : dk_find (dk_code 29) 70 = some (.ifCond .ne (7), 3, 77, []) := by decide +kernel
theorem cd_29_73 : dk_find (dk_code 29) 73 = some (.iconst 1, 1, 0, []) := by decide +kernel
theorem cd_29_74 : dk_find (dk_code 29) 74 = some (.goto (4), 3, 78, []) := by decide +kernel
theorem cd_29_77 : dk_find (dk_code 29) 77 = some (.iconst 0, 1, 0, []) := by decide +kernel
theorem cd_29_78 : dk_find (dk_code 29) 78 = some (.ireturn, 1, 0, []) := by decide +kernel
theorem cd_29_79 : dk_find (dk_code 29) 79 = some (.aload_n 0, 1, 0, []) := by decide +kernel
theorem cd_29_80 : dk_find (dk_code 29) 80 = some (.getfield 24, 3, 0, []) := by decide +kernel
theorem cd_29_83 : dk_find (dk_code 29) 83 = some (.bipush (8), 2, 0, []) := by decide +kernel
theorem cd_29_85 : dk_find (dk_code 29) 85 = some (.if_icmp .ne (7), 3, 92, []) := by decide +kernel
theorem cd_29_88 : dk_find (dk_code 29) 88 = some (.iconst 1, 1, 0, []) := by decide +kernel
theorem cd_29_89 : dk_find (dk_code 29) 89 = some (.goto (4), 3, 93, []) := by decide +kernel
theorem cd_29_92 : dk_find (dk_code 29) 92 = some (.iconst 0, 1, 0, []) := by decide +kernel
theorem cd_29_93 : dk_find (dk_code 29) 93 = some (.ireturn, 1, 0, []) := by decide +kernel
theorem cd_30_0 : dk_find (dk_code 30) 0 = some (.aload_n 0, 1, 0, []) := by decide +kernel
theorem cd_30_1 : dk_find (dk_code 30) 1 = some (.getfield 21, 3, 0, []) := by decide +kernel
theorem cd_30_4 : dk_find (dk_code 30) 4 = some (.bipush (64), 2, 0, []) := by decide +kernel
theorem cd_30_6 : dk_find (dk_code 30) 6 = some (.if_icmp .ge (43), 3, 49, []) := by decide +kernel
theorem cd_30_9 : dk_find (dk_code 30) 9 = some (.aload_n 0, 1, 0, []) := by decide +kernel
theorem cd_30_10 : dk_find (dk_code 30) 10 = some (.getfield 11, 3, 0, []) := by decide +kernel
theorem cd_30_13 : dk_find (dk_code 30) 13 = some (.aload_n 0, 1, 0, []) := by decide +kernel
theorem cd_30_14 : dk_find (dk_code 30) 14 = some (.getfield 21, 3, 0, []) := by decide +kernel
theorem cd_30_17 : dk_find (dk_code 30) 17 = some (.iload_n 1, 1, 0, []) := by decide +kernel
theorem cd_30_18 : dk_find (dk_code 30) 18 = some (.iastore, 1, 0, []) := by decide +kernel
theorem cd_30_19 : dk_find (dk_code 30) 19 = some (.aload_n 0, 1, 0, []) := by decide +kernel
theorem cd_30_20 : dk_find (dk_code 30) 20 = some (.getfield 15, 3, 0, []) := by decide +kernel
theorem cd_30_23 : dk_find (dk_code 30) 23 = some (.aload_n 0, 1, 0, []) := by decide +kernel
theorem cd_30_24 : dk_find (dk_code 30) 24 = some (.getfield 21, 3, 0, []) := by decide +kernel
theorem cd_30_27 : dk_find (dk_code 30) 27 = some (.iload_n 2, 1, 0, []) := by decide +kernel
theorem cd_30_28 : dk_find (dk_code 30) 28 = some (.iastore, 1, 0, []) := by decide +kernel
theorem cd_30_29 : dk_find (dk_code 30) 29 = some (.aload_n 0, 1, 0, []) := by decide +kernel
theorem cd_30_30 : dk_find (dk_code 30) 30 = some (.getfield 18, 3, 0, []) := by decide +kernel
theorem cd_30_33 : dk_find (dk_code 30) 33 = some (.aload_n 0, 1, 0, []) := by decide +kernel
theorem cd_30_34 : dk_find (dk_code 30) 34 = some (.getfield 21, 3, 0, []) := by decide +kernel
theorem cd_30_37 : dk_find (dk_code 30) 37 = some (.iload_n 3, 1, 0, []) := by decide +kernel
theorem cd_30_38 : dk_find (dk_code 30) 38 = some (.iastore, 1, 0, []) := by decide +kernel
theorem cd_30_39 : dk_find (dk_code 30) 39 = some (.aload_n 0, 1, 0, []) := by decide +kernel
theorem cd_30_40 : dk_find (dk_code 30) 40 = some (.dup, 1, 0, []) := by decide +kernel
theorem cd_30_41 : dk_find (dk_code 30) 41 = some (.getfield 21, 3, 0, []) := by decide +kernel
theorem cd_30_44 : dk_find (dk_code 30) 44 = some (.iconst 1, 1, 0, []) := by decide +kernel
theorem cd_30_45 : dk_find (dk_code 30) 45 = some (.iadd, 1, 0, []) := by decide +kernel
theorem cd_30_46 : dk_find (dk_code 30) 46 = some (.putfield 21, 3, 0, []) := by decide +kernel
theorem cd_30_49 : dk_find (dk_code 30) 49 = some (.return_, 1, 0, []) := by decide +kernel
theorem cd_31_0 : dk_find (dk_code 31) 0 = some (.aload_n 0, 1, 0, []) := by decide +kernel
theorem cd_31_1 : dk_find (dk_code 31) 1 = some (.aload_n 0, 1, 0, []) := by decide +kernel
theorem cd_31_2 : dk_find (dk_code 31) 2 = some (.iconst 0, 1, 0, []) := by decide +kernel
theorem cd_31_3 : dk_find (dk_code 31) 3 = some (.invokevirtual 57, 3, 0, []) := by decide +kernel
theorem cd_31_6 : dk_find (dk_code 31) 6 = some (.putfield 61, 3, 0, []) := by decide +kernel
theorem cd_31_9 : dk_find (dk_code 31) 9 = some (.aload_n 0, 1, 0, []) := by decide +kernel
theorem cd_31_10 : dk_find (dk_code 31) 10 = some (.iconst 0, 1, 0, []) := by decide +kernel
theorem cd_31_11 : dk_find (dk_code 31) 11 = some (.putfield 73, 3, 0, []) := by decide +kernel
theorem cd_31_14 : dk_find (dk_code 31) 14 = some (.aload_n 0, 1, 0, []) := by decide +kernel
theorem cd_31_15 : dk_find (dk_code 31) 15 = some (.iconst 1, 1, 0, []) := by decide +kernel
theorem cd_31_16 : dk_find (dk_code 31) 16 = some (.putfield 76, 3, 0, []) := by decide +kernel
theorem cd_31_19 : dk_find (dk_code 31) 19 = some (.aload_n 0, 1, 0, []) := by decide +kernel
theorem cd_31_20 : dk_find (dk_code 31) 20 = some (.iconst 1, 1, 0, []) := by decide +kernel
theorem cd_31_21 : dk_find (dk_code 31) 21 = some (.putfield 24, 3, 0, []) := by decide +kernel
theorem cd_31_24 : dk_find (dk_code 31) 24 = some (.return_, 1, 0, []) := by decide +kernel
theorem cd_32_0 : dk_find (dk_code 32) 0 = some (.aload_n 1, 1, 0, []) := by decide +kernel
theorem cd_32_1 : dk_find (dk_code 32) 1 = some (.getfield 242, 3, 0, []) := by decide +kernel
theorem cd_32_4 : dk_find (dk_code 32) 4 = some (.aload_n 1, 1, 0, []) := by decide +kernel
theorem cd_32_5 : dk_find (dk_code 32) 5 = some (.getfield 245, 3, 0, []) := by decide +kernel
theorem cd_32_8 : dk_find (dk_code 32) 8 = some (.aaload, 1, 0, []) := by decide +kernel
theorem cd_32_9 : dk_find (dk_code 32) 9 = some (.getfield 248, 3, 0, []) := by decide +kernel
theorem cd_32_12 : dk_find (dk_code 32) 12 = some (.istore_n 2, 1, 0, []) := by decide +kernel
theorem cd_32_13 : dk_find (dk_code 32) 13 = some (.aload_n 0, 1, 0, []) := by decide +kernel
theorem cd_32_14 : dk_find (dk_code 32) 14 = some (.getfield 17, 3, 0, []) := by decide +kernel
theorem cd_32_17 : dk_find (dk_code 32) 17 = some (.iload_n 2, 1, 0, []) := by decide +kernel
theorem cd_32_18 : dk_find (dk_code 32) 18 = some (.aaload, 1, 0, []) := by decide +kernel
theorem cd_32_19 : dk_find (dk_code 32) 19 = some (.aload_n 1, 1, 0, []) := by decide +kernel
theorem cd_32_20 : dk_find (dk_code 32) 20 = some (.getfield 203, 3, 0, []) := by decide +kernel
theorem cd_32_23 : dk_find (dk_code 32) 23 = some (.aload_n 1, 1, 0, []) := by decide +kernel
theorem cd_32_24 : dk_find (dk_code 32) 24 = some (.getfield 94, 3, 0, []) := by decide +kernel
theorem cd_32_27 : dk_find (dk_code 32) 27 = some (.getfield 98, 3, 0, []) := by decide +kernel
theorem cd_32_30 : dk_find (dk_code 32) 30 = some (.aload_n 1, 1, 0, []) := by decide +kernel
theorem cd_32_31 : dk_find (dk_code 32) 31 = some (.getfield 245, 3, 0, []) := by decide +kernel
theorem cd_32_34 : dk_find (dk_code 32) 34 = some (.invokevirtual 253, 3, 0, []) := by decide +kernel
theorem cd_32_37 : dk_find (dk_code 32) 37 = some (.aload_n 1, 1, 0, []) := by decide +kernel
theorem cd_32_38 : dk_find (dk_code 32) 38 = some (.aload_n 1, 1, 0, []) := by decide +kernel
theorem cd_32_39 : dk_find (dk_code 32) 39 = some (.getfield 245, 3, 0, []) := by decide +kernel
theorem cd_32_42 : dk_find (dk_code 32) 42 = some (.iconst 1, 1, 0, []) := by decide +kernel
theorem cd_32_43 : dk_find (dk_code 32) 43 = some (.iadd, 1, 0, []) := by decide +kernel
theorem cd_32_44 : dk_find (dk_code 32) 44 = some (.invokevirtual 257, 3, 0, []) := by decide +kernel
theorem cd_32_47 : dk_find (dk_code 32) 47 = some (.istore_n 3, 1, 0, []) := by decide +kernel
theorem cd_32_48 : dk_find (dk_code 32) 48 = some (.iload_n 3, 1, 0, []) := by decide +kernel
theorem cd_32_49 : dk_find (dk_code 32) 49 = some (.iconst (-1), 1, 0, []) := by decide +kernel
theorem cd_32_50 : dk_find (dk_code 32) 50 = some (.if_icmp .ne (10), 3, 60, []) := by decide +kernel
theorem cd_32_53 : dk_find (dk_code 32) 53 = some (.aload_n 1, 1, 0, []) := by decide +kernel
theorem cd_32_54 : dk_find (dk_code 32) 54 = some (.invokevirtual 261, 3, 0, []) := by decide +kernel
theorem cd_32_57 : dk_find (dk_code 32) 57 = some (.goto (8), 3, 65, []) := by decide +kernel
theorem cd_32_60 : dk_find (dk_code 32) 60 = some (.aload_n 1, 1, 0, []) := by decide +kernel
theorem cd_32_61 : dk_find (dk_code 32) 61 = some (.iload_n 3, 1, 0, []) := by decide +kernel
theorem cd_32_62 : dk_find (dk_code 32) 62 = some (.putfield 245, 3, 0, []) := by decide +kernel
theorem cd_32_65 : dk_find (dk_code 32) 65 = some (.return_, 1, 0, []) := by decide +kernel
theorem cd_33_0 : dk_find (dk_code 33) 0 = some (.aload_n 0, 1, 0, []) := by decide +kernel
theorem cd_33_1 : dk_find (dk_code 33) 1 = some (.aload_n 0, 1, 0, []) := by decide +kernel
theorem cd_33_2 : dk_find (dk_code 33) 2 = some (.getfield 61, 3, 0, []) := by decide +kernel
theorem cd_33_5 : dk_find (dk_code 33) 5 = some (.iconst 1, 1, 0, []) := by decide +kernel
theorem cd_33_6 : dk_find (dk_code 33) 6 = some (.iadd, 1, 0, []) := by decide +kernel
theorem cd_33_7 : dk_find (dk_code 33) 7 = some (.invokevirtual 57, 3, 0, []) := by decide +kernel
theorem cd_33_10 : dk_find (dk_code 33) 10 = some (.istore_n 1, 1, 0, []) := by decide +kernel
theorem cd_33_11 : dk_find (dk_code 33) 11 = some (.iload_n 1, 1, 0, []) := by decide +kernel
theorem cd_33_12 : dk_find (dk_code 33) 12 = some (.iconst (-1), 1, 0, []) := by decide +kernel
theorem cd_33_13 : dk_find (dk_code 33) 13 = some (.if_icmp .eq (16), 3, 29, []) := by decide +kernel
theorem cd_33_16 : dk_find (dk_code 33) 16 = some (.aload_n 0, 1, 0, []) := by decide +kernel
theorem cd_33_17 : dk_find (dk_code 33) 17 = some (.iload_n 1, 1, 0, []) := by decide +kernel
theorem cd_33_18 : dk_find (dk_code 33) 18 = some (.putfield 61, 3, 0, []) := by decide +kernel
theorem cd_33_21 : dk_find (dk_code 33) 21 = some (.aload_n 0, 1, 0, []) := by decide +kernel
theorem cd_33_22 : dk_find (dk_code 33) 22 = some (.iconst 0, 1, 0, []) := by decide +kernel
theorem cd_33_23 : dk_find (dk_code 33) 23 = some (.putfield 73, 3, 0, []) := by decide +kernel
theorem cd_33_26 : dk_find (dk_code 33) 26 = some (.goto (23), 3, 49, []) := by decide +kernel
theorem cd_33_29 : dk_find (dk_code 33) 29 = some (.aload_n 0, 1, 0, []) := by decide +kernel
theorem cd_33_30 : dk_find (dk_code 33) 30 = some (.getfield 76, 3, 0, []) := by decide +kernel
theorem cd_33_33 : dk_find (dk_code 33) 33 = some (.ifCond .eq (12), 3, 45, []) := by decide +kernel
theorem cd_33_36 : dk_find (dk_code 33) 36 = some (.aload_n 0, 1, 0, []) := by decide +kernel
theorem cd_33_37 : dk_find (dk_code 33) 37 = some (.bipush (7), 2, 0, []) := by decide +kernel
theorem cd_33_39 : dk_find (dk_code 33) 39 = some (.putfield 24, 3, 0, []) := by decide +kernel
theorem cd_33_42 : dk_find (dk_code 33) 42 = some (.goto (7), 3, 49, []) := by decide +kernel
theorem cd_33_45 : dk_find (dk_code 33) 45 = some (.aload_n 0, 1, 0, []) := by decide +kernel
theorem cd_33_46 : dk_find (dk_code 33) 46 = some (.invokevirtual 79, 3, 0, []) := by decide +kernel
theorem cd_33_49 : dk_find (dk_code 33) 49 = some (.return_, 1, 0, []) := by decide +kernel
theorem cd_34_0 : dk_find (dk_code 34) 0 = some (.aload_n 2, 1, 0, []) := by decide +kernel
theorem cd_34_1 : dk_find (dk_code 34) 1 = some (.getfield 154, 3, 0, []) := by decide +kernel
theorem cd_34_4 : dk_find (dk_code 34) 4 = some (.aload_n 1, 1, 0, []) := by decide +kernel
theorem cd_34_5 : dk_find (dk_code 34) 5 = some (.getfield 264, 3, 0, []) := by decide +kernel
theorem cd_34_8 : dk_find (dk_code 34) 8 = some (.iaload, 1, 0, []) := by decide +kernel
theorem cd_34_9 : dk_find (dk_code 34) 9 = some (.istore_n 3, 1, 0, []) := by decide +kernel
theorem cd_34_10 : dk_find (dk_code 34) 10 = some (.aload_n 0, 1, 0, []) := by decide +kernel
theorem cd_34_11 : dk_find (dk_code 34) 11 = some (.getfield 11, 3, 0, []) := by decide +kernel
theorem cd_34_14 : dk_find (dk_code 34) 14 = some (.iload_n 3, 1, 0, []) := by decide +kernel
theorem cd_34_15 : dk_find (dk_code 34) 15 = some (.aaload, 1, 0, []) := by decide +kernel
theorem cd_34_16 : dk_find (dk_code 34) 16 = some (.getfield 242, 3, 0, []) := by decide +kernel
theorem cd_34_19 : dk_find (dk_code 34) 19 = some (.aload_n 2, 1, 0, []) := by decide +kernel
theorem cd_34_20 : dk_find (dk_code 34) 20 = some (.getfield 160, 3, 0, []) := by decide +kernel
theorem cd_34_23 : dk_find (dk_code 34) 23 = some (.aload_n 1, 1, 0, []) := by decide +kernel
theorem cd_34_24 : dk_find (dk_code 34) 24 = some (.getfield 264, 3, 0, []) := by decide +kernel
theorem cd_34_27 : dk_find (dk_code 34) 27 = some (.iaload, 1, 0, []) := by decide +kernel
theorem cd_34_28 : dk_find (dk_code 34) 28 = some (.aaload, 1, 0, []) := by decide +kernel
theorem cd_34_29 : dk_find (dk_code 34) 29 = some (.astore 4, 2, 0, []) := by decide +kernel
theorem cd_34_31 : dk_find (dk_code 34) 31 = some (.iload_n 3, 1, 0, []) := by decide +kernel
theorem cd_34_32 : dk_find (dk_code 34) 32 = some (.aload_n 1, 1, 0, []) := by decide +kernel
theorem cd_34_33 : dk_find (dk_code 34) 33 = some (.getfield 203, 3, 0, []) := by decide +kernel
theorem cd_34_36 : dk_find (dk_code 34) 36 = some (.if_icmp .eq (27), 3, 63, []) := by decide +kernel
theorem cd_34_39 : dk_find (dk_code 34) 39 = some (.aload 4, 2, 0, []) := by decide +kernel
theorem cd_34_41 : dk_find (dk_code 34) 41 = some (.getfield 286, 3, 0, []) := by decide +kernel
theorem cd_34_44 : dk_find (dk_code 34) 44 = some (.aload_n 1, 1, 0, []) := by decide +kernel
theorem cd_34_45 : dk_find (dk_code 34) 45 = some (.getfield 242, 3, 0, []) := by decide +kernel
theorem cd_34_48 : dk_find (dk_code 34) 48 = some (.aload_n 1, 1, 0, []) := by decide +kernel
theorem cd_34_49 : dk_find (dk_code 34) 49 = some (.getfield 245, 3, 0, []) := by decide +kernel
theorem cd_34_52 : dk_find (dk_code 34) 52 = some (.aaload, 1, 0, []) := by decide +kernel
theorem cd_34_53 : dk_find (dk_code 34) 53 = some (.getfield 286, 3, 0, []) := by decide +kernel
theorem cd_34_56 : dk_find (dk_code 34) 56 = some (.if_icmp .eq (7), 3, 63, []) := by decide +kernel
theorem cd_34_59 : dk_find (dk_code 34) 59 = some (.iconst 1, 1, 0, []) := by decide +kernel
theorem cd_34_60 : dk_find (dk_code 34) 60 = some (.goto (4), 3, 64, []) := by decide +kernel
theorem cd_34_63 : dk_find (dk_code 34) 63 = some (.iconst 0, 1, 0, []) := by decide +kernel
theorem cd_34_64 : dk_find (dk_code 34) 64 = some (.ireturn, 1, 0, []) := by decide +kernel
theorem cd_35_0 : dk_find (dk_code 35) 0 = some (.aload_n 0, 1, 0, []) := by decide +kernel
theorem cd_35_1 : dk_find (dk_code 35) 1 = some (.dup, 1, 0, []) := by decide +kernel
theorem cd_35_2 : dk_find (dk_code 35) 2 = some (.getfield 73, 3, 0, []) := by decide +kernel
theorem cd_35_5 : dk_find (dk_code 35) 5 = some (.iconst 1, 1, 0, []) := by decide +kernel
theorem cd_35_6 : dk_find (dk_code 35) 6 = some (.iadd, 1, 0, []) := by decide +kernel
theorem cd_35_7 : dk_find (dk_code 35) 7 = some (.putfield 73, 3, 0, []) := by decide +kernel
theorem cd_35_10 : dk_find (dk_code 35) 10 = some (.aload_n 0, 1, 0, []) := by decide +kernel
theorem cd_35_11 : dk_find (dk_code 35) 11 = some (.iconst 1, 1, 0, []) := by decide +kernel
theorem cd_35_12 : dk_find (dk_code 35) 12 = some (.putfield 24, 3, 0, []) := by decide +kernel
theorem cd_35_15 : dk_find (dk_code 35) 15 = some (.return_, 1, 0, []) := by decide +kernel
theorem cd_36_0 : dk_find (dk_code 36) 0 = some (.aload_n 0, 1, 0, []) := by decide +kernel
theorem cd_36_1 : dk_find (dk_code 36) 1 = some (.getfield 17, 3, 0, []) := by decide +kernel
theorem cd_36_4 : dk_find (dk_code 36) 4 = some (.aload_n 1, 1, 0, []) := by decide +kernel
theorem cd_36_5 : dk_find (dk_code 36) 5 = some (.getfield 242, 3, 0, []) := by decide +kernel
theorem cd_36_8 : dk_find (dk_code 36) 8 = some (.aload_n 1, 1, 0, []) := by decide +kernel
theorem cd_36_9 : dk_find (dk_code 36) 9 = some (.getfield 245, 3, 0, []) := by decide +kernel
theorem cd_36_12 : dk_find (dk_code 36) 12 = some (.aaload, 1, 0, []) := by decide +kernel
theorem cd_36_13 : dk_find (dk_code 36) 13 = some (.getfield 248, 3, 0, []) := by decide +kernel
theorem cd_36_16 : dk_find (dk_code 36) 16 = some (.aaload, 1, 0, []) := by decide +kernel
theorem cd_36_17 : dk_find (dk_code 36) 17 = some (.astore_n 2, 1, 0, []) := by decide +kernel
theorem cd_36_18 : dk_find (dk_code 36) 18 = some (.aload_n 1, 1, 0, []) := by decide +kernel
theorem cd_36_19 : dk_find (dk_code 36) 19 = some (.getfield 264, 3, 0, []) := by decide +kernel
theorem cd_36_22 : dk_find (dk_code 36) 22 = some (.aload_n 2, 1, 0, []) := by decide +kernel
theorem cd_36_23 : dk_find (dk_code 36) 23 = some (.getfield 149, 3, 0, []) := by decide +kernel
theorem cd_36_26 : dk_find (dk_code 36) 26 = some (.if_icmp .lt (10), 3, 36, []) := by decide +kernel
theorem cd_36_29 : dk_find (dk_code 36) 29 = some (.aload_n 1, 1, 0, []) := by decide +kernel
theorem cd_36_30 : dk_find (dk_code 36) 30 = some (.invokevirtual 267, 3, 0, []) := by decide +kernel
theorem cd_36_33 : dk_find (dk_code 36) 33 = some (.goto (63), 3, 96, []) := by decide +kernel
theorem cd_36_36 : dk_find (dk_code 36) 36 = some (.aload_n 0, 1, 0, []) := by decide +kernel
theorem cd_36_37 : dk_find (dk_code 36) 37 = some (.aload_n 1, 1, 0, []) := by decide +kernel
theorem cd_36_38 : dk_find (dk_code 36) 38 = some (.aload_n 2, 1, 0, []) := by decide +kernel
theorem cd_36_39 : dk_find (dk_code 36) 39 = some (.invokevirtual 270, 3, 0, []) := by decide +kernel
theorem cd_36_42 : dk_find (dk_code 36) 42 = some (.ifCond .eq (50), 3, 92, []) := by decide +kernel
theorem cd_36_45 : dk_find (dk_code 36) 45 = some (.aload_n 1, 1, 0, []) := by decide +kernel
theorem cd_36_46 : dk_find (dk_code 36) 46 = some (.aload_n 2, 1, 0, []) := by decide +kernel
theorem cd_36_47 : dk_find (dk_code 36) 47 = some (.getfield 154, 3, 0, []) := by decide +kernel
theorem cd_36_50 : dk_find (dk_code 36) 50 = some (.aload_n 1, 1, 0, []) := by decide +kernel
theorem cd_36_51 : dk_find (dk_code 36) 51 = some (.getfield 264, 3, 0, []) := by decide +kernel
theorem cd_36_54 : dk_find (dk_code 36) 54 = some (.iaload, 1, 0, []) := by decide +kernel
theorem cd_36_55 : dk_find (dk_code 36) 55 = some (.putfield 274, 3, 0, []) := by decide +kernel
theorem cd_36_58 : dk_find (dk_code 36) 58 = some (.aload_n 1, 1, 0, []) := by decide +kernel
theorem cd_36_59 : dk_find (dk_code 36) 59 = some (.aload_n 2, 1, 0, []) := by decide +kernel
theorem cd_36_60 : dk_find (dk_code 36) 60 = some (.getfield 157, 3, 0, []) := by decide +kernel
theorem cd_36_63 : dk_find (dk_code 36) 63 = some (.aload_n 1, 1, 0, []) := by decide +kernel
theorem cd_36_64 : dk_find (dk_code 36) 64 = some (.getfield 264, 3, 0, []) := by decide +kernel
theorem cd_36_67 : dk_find (dk_code 36) 67 = some (.iaload, 1, 0, []) := by decide +kernel
theorem cd_36_68 : dk_find (dk_code 36) 68 = some (.putfield 277, 3, 0, []) := by decide +kernel
theorem cd_36_71 : dk_find (dk_code 36) 71 = some (.aload_n 1, 1, 0, []) := by decide +kernel
theorem cd_36_72 : dk_find (dk_code 36) 72 = some (.aload_n 2, 1, 0, []) := by decide +kernel
theorem cd_36_73 : dk_find (dk_code 36) 73 = some (.getfield 160, 3, 0, []) := by decide +kernel
theorem cd_36_76 : dk_find (dk_code 36) 76 = some (.aload_n 1, 1, 0, []) := by decide +kernel
theorem cd_36_77 : dk_find (dk_code 36) 77 = some (.getfield 264, 3, 0, []) := by decide +kernel
theorem cd_36_80 : dk_find (dk_code 36) 80 = some (.iaload, 1, 0, []) := by decide +kernel
theorem cd_36_81 : dk_find (dk_code 36) 81 = some (.putfield 280, 3, 0, []) := by decide +kernel
theorem cd_36_84 : dk_find (dk_code 36) 84 = some (.aload_n 1, 1, 0, []) := by decide +kernel
theorem cd_36_85 : dk_find (dk_code 36) 85 = some (.iconst 2, 1, 0, []) := by decide +kernel
theorem cd_36_86 : dk_find (dk_code 36) 86 = some (.putfield 66, 3, 0, []) := by decide +kernel
theorem cd_36_89 : dk_find (dk_code 36) 89 = some (.goto (7), 3, 96, []) := by decide +kernel
theorem cd_36_92 : dk_find (dk_code 36) 92 = some (.aload_n 1, 1, 0, []) := by decide +kernel
theorem cd_36_93 : dk_find (dk_code 36) 93 = some (.invokevirtual 283, 3, 0, []) := by decide +kernel
theorem cd_36_96 : dk_find (dk_code 36) 96 = some (.return_, 1, 0, []) := by decide +kernel
theorem cd_37_0 : dk_find (dk_code 37) 0 = some (.aload_n 0, 1, 0, []) := by decide +kernel
theorem cd_37_1 : dk_find (dk_code 37) 1 = some (.getfield 11, 3, 0, []) := by decide +kernel
theorem cd_37_4 : dk_find (dk_code 37) 4 = some (.aload_n 1, 1, 0, []) := by decide +kernel
theorem cd_37_5 : dk_find (dk_code 37) 5 = some (.getfield 203, 3, 0, []) := by decide +kernel
theorem cd_37_8 : dk_find (dk_code 37) 8 = some (.aload_n 1, 1, 0, []) := by decide +kernel
theorem cd_37_9 : dk_find (dk_code 37) 9 = some (.getfield 274, 3, 0, []) := by decide +kernel
theorem cd_37_12 : dk_find (dk_code 37) 12 = some (.invokestatic 306, 3, 0, []) := by decide +kernel
theorem cd_37_15 : dk_find (dk_code 37) 15 = some (.aaload, 1, 0, []) := by decide +kernel
theorem cd_37_16 : dk_find (dk_code 37) 16 = some (.areturn, 1, 0, []) := by decide +kernel
theorem cd_38_0 : dk_find (dk_code 38) 0 = some (.aload_n 0, 1, 0, []) := by decide +kernel
theorem cd_38_1 : dk_find (dk_code 38) 1 = some (.iconst 2, 1, 0, []) := by decide +kernel
theorem cd_38_2 : dk_find (dk_code 38) 2 = some (.putfield 9, 3, 0, []) := by decide +kernel
theorem cd_38_5 : dk_find (dk_code 38) 5 = some (.aload_n 0, 1, 0, []) := by decide +kernel
theorem cd_38_6 : dk_find (dk_code 38) 6 = some (.iload_n 1, 1, 0, []) := by decide +kernel
theorem cd_38_7 : dk_find (dk_code 38) 7 = some (.putfield 15, 3, 0, []) := by decide +kernel
theorem cd_38_10 : dk_find (dk_code 38) 10 = some (.return_, 1, 0, []) := by decide +kernel
theorem cd_39_0 : dk_find (dk_code 39) 0 = some (.aload_n 1, 1, 0, []) := by decide +kernel
theorem cd_39_1 : dk_find (dk_code 39) 1 = some (.getfield 94, 3, 0, []) := by decide +kernel
theorem cd_39_4 : dk_find (dk_code 39) 4 = some (.astore_n 2, 1, 0, []) := by decide +kernel
theorem cd_39_5 : dk_find (dk_code 39) 5 = some (.aload_n 1, 1, 0, []) := by decide +kernel
theorem cd_39_6 : dk_find (dk_code 39) 6 = some (.getfield 203, 3, 0, []) := by decide +kernel
theorem cd_39_9 : dk_find (dk_code 39) 9 = some (.aload_n 0, 1, 0, []) := by decide +kernel
theorem cd_39_10 : dk_find (dk_code 39) 10 = some (.getfield 203, 3, 0, []) := by decide +kernel
theorem cd_39_13 : dk_find (dk_code 39) 13 = some (.if_icmp .eq (16), 3, 29, []) := by decide +kernel
theorem cd_39_16 : dk_find (dk_code 39) 16 = some (.aload_n 2, 1, 0, []) := by decide +kernel
theorem cd_39_17 : dk_find (dk_code 39) 17 = some (.getfield 98, 3, 0, []) := by decide +kernel
theorem cd_39_20 : dk_find (dk_code 39) 20 = some (.aload_n 0, 1, 0, []) := by decide +kernel
theorem cd_39_21 : dk_find (dk_code 39) 21 = some (.getfield 277, 3, 0, []) := by decide +kernel
theorem cd_39_24 : dk_find (dk_code 39) 24 = some (.if_icmp .eq (5), 3, 29, []) := by decide +kernel
theorem cd_39_27 : dk_find (dk_code 39) 27 = some (.iconst 0, 1, 0, []) := by decide +kernel
theorem cd_39_28 : dk_find (dk_code 39) 28 = some (.ireturn, 1, 0, []) := by decide +kernel
theorem cd_39_29 : dk_find (dk_code 39) 29 = some (.aload_n 2, 1, 0, []) := by decide +kernel
theorem cd_39_30 : dk_find (dk_code 39) 30 = some (.getfield 116, 3, 0, []) := by decide +kernel
theorem cd_39_33 : dk_find (dk_code 39) 33 = some (.iconst 1, 1, 0, []) := by decide +kernel
theorem cd_39_34 : dk_find (dk_code 39) 34 = some (.if_icmp .ne (13), 3, 47, []) := by decide +kernel
theorem cd_39_37 : dk_find (dk_code 39) 37 = some (.aload_n 2, 1, 0, []) := by decide +kernel
theorem cd_39_38 : dk_find (dk_code 39) 38 = some (.aload_n 0, 1, 0, []) := by decide +kernel
theorem cd_39_39 : dk_find (dk_code 39) 39 = some (.getfield 203, 3, 0, []) := by decide +kernel
theorem cd_39_42 : dk_find (dk_code 39) 42 = some (.invokevirtual 309, 3, 0, []) := by decide +kernel
theorem cd_39_45 : dk_find (dk_code 39) 45 = some (.iconst 1, 1, 0, []) := by decide +kernel
theorem cd_39_46 : dk_find (dk_code 39) 46 = some (.ireturn, 1, 0, []) := by decide +kernel
theorem cd_39_47 : dk_find (dk_code 39) 47 = some (.aload_n 2, 1, 0, []) := by decide +kernel
theorem cd_39_48 : dk_find (dk_code 39) 48 = some (.getfield 116, 3, 0, []) := by decide +kernel
theorem cd_39_51 : dk_find (dk_code 39) 51 = some (.iconst 2, 1, 0, []) := by decide +kernel
theorem cd_39_52 : dk_find (dk_code 39) 52 = some (.if_icmp .ne (8), 3, 60, []) := by decide +kernel
theorem cd_39_55 : dk_find (dk_code 39) 55 = some (.aload_n 0, 1, 0, []) := by decide +kernel
theorem cd_39_56 : dk_find (dk_code 39) 56 = some (.iconst 0, 1, 0, []) := by decide +kernel
theorem cd_39_57 : dk_find (dk_code 39) 57 = some (.putfield 209, 3, 0, []) := by decide +kernel
theorem cd_39_60 : dk_find (dk_code 39) 60 = some (.iconst 0, 1, 0, []) := by decide +kernel
theorem cd_39_61 : dk_find (dk_code 39) 61 = some (.ireturn, 1, 0, []) := by decide +kernel
theorem cd_40_0 : dk_find (dk_code 40) 0 = some (.aload_n 1, 1, 0, []) := by decide +kernel
theorem cd_40_1 : dk_find (dk_code 40) 1 = some (.aload_n 0, 1, 0, []) := by decide +kernel
theorem cd_40_2 : dk_find (dk_code 40) 2 = some (.aload_n 1, 1, 0, []) := by decide +kernel
theorem cd_40_3 : dk_find (dk_code 40) 3 = some (.invokevirtual 289, 3, 0, []) := by decide +kernel
theorem cd_40_6 : dk_find (dk_code 40) 6 = some (.invokestatic 293, 3, 0, []) := by decide +kernel
theorem cd_40_9 : dk_find (dk_code 40) 9 = some (.ifCond .eq (11), 3, 20, []) := by decide +kernel
theorem cd_40_12 : dk_find (dk_code 40) 12 = some (.aload_n 1, 1, 0, []) := by decide +kernel
theorem cd_40_13 : dk_find (dk_code 40) 13 = some (.iconst 3, 1, 0, []) := by decide +kernel
theorem cd_40_14 : dk_find (dk_code 40) 14 = some (.putfield 66, 3, 0, []) := by decide +kernel
theorem cd_40_17 : dk_find (dk_code 40) 17 = some (.goto (7), 3, 24, []) := by decide +kernel
theorem cd_40_20 : dk_find (dk_code 40) 20 = some (.aload_n 1, 1, 0, []) := by decide +kernel
theorem cd_40_21 : dk_find (dk_code 40) 21 = some (.invokevirtual 283, 3, 0, []) := by decide +kernel
theorem cd_40_24 : dk_find (dk_code 40) 24 = some (.return_, 1, 0, []) := by decide +kernel
theorem cd_41_0 : dk_find (dk_code 41) 0 = some (.aload_n 1, 1, 0, []) := by decide +kernel
theorem cd_41_1 : dk_find (dk_code 41) 1 = some (.getfield 203, 3, 0, []) := by decide +kernel
theorem cd_41_4 : dk_find (dk_code 41) 4 = some (.aload_n 1, 1, 0, []) := by decide +kernel
theorem cd_41_5 : dk_find (dk_code 41) 5 = some (.getfield 274, 3, 0, []) := by decide +kernel
theorem cd_41_8 : dk_find (dk_code 41) 8 = some (.invokestatic 297, 3, 0, []) := by decide +kernel
theorem cd_41_11 : dk_find (dk_code 41) 11 = some (.istore_n 2, 1, 0, []) := by decide +kernel
theorem cd_41_12 : dk_find (dk_code 41) 12 = some (.aload_n 1, 1, 0, []) := by decide +kernel
theorem cd_41_13 : dk_find (dk_code 41) 13 = some (.aload_n 1, 1, 0, []) := by decide +kernel
theorem cd_41_14 : dk_find (dk_code 41) 14 = some (.aload_n 0, 1, 0, []) := by decide +kernel
theorem cd_41_15 : dk_find (dk_code 41) 15 = some (.getfield 11, 3, 0, []) := by decide +kernel
theorem cd_41_18 : dk_find (dk_code 41) 18 = some (.iload_n 2, 1, 0, []) := by decide +kernel
theorem cd_41_19 : dk_find (dk_code 41) 19 = some (.aaload, 1, 0, []) := by decide +kernel
theorem cd_41_20 : dk_find (dk_code 41) 20 = some (.invokestatic 293, 3, 0, []) := by decide +kernel
theorem cd_41_23 : dk_find (dk_code 41) 23 = some (.ifCond .eq (7), 3, 30, []) := by decide +kernel
theorem cd_41_26 : dk_find (dk_code 41) 26 = some (.iconst 5, 1, 0, []) := by decide +kernel
theorem cd_41_27 : dk_find (dk_code 41) 27 = some (.goto (4), 3, 31, []) := by decide +kernel
theorem cd_41_30 : dk_find (dk_code 41) 30 = some (.iconst 4, 1, 0, []) := by decide +kernel
theorem cd_41_31 : dk_find (dk_code 41) 31 = some (.putfield 66, 3, 0, []) := by decide +kernel
theorem cd_41_34 : dk_find (dk_code 41) 34 = some (.return_, 1, 0, []) := by decide +kernel
theorem cd_42_0 : dk_find (dk_code 42) 0 = some (.aload_n 0, 1, 0, []) := by decide +kernel
theorem cd_42_1 : dk_find (dk_code 42) 1 = some (.aload_n 1, 1, 0, []) := by decide +kernel
theorem cd_42_2 : dk_find (dk_code 42) 2 = some (.invokevirtual 289, 3, 0, []) := by decide +kernel
theorem cd_42_5 : dk_find (dk_code 42) 5 = some (.getfield 94, 3, 0, []) := by decide +kernel
theorem cd_42_8 : dk_find (dk_code 42) 8 = some (.invokevirtual 303, 3, 0, []) := by decide +kernel
theorem cd_42_11 : dk_find (dk_code 42) 11 = some (.aload_n 1, 1, 0, []) := by decide +kernel
theorem cd_42_12 : dk_find (dk_code 42) 12 = some (.invokevirtual 283, 3, 0, []) := by decide +kernel
theorem cd_42_15 : dk_find (dk_code 42) 15 = some (.return_, 1, 0, []) := by decide +kernel
theorem cd_43_0 : dk_find (dk_code 43) 0 = some (.aload_n 0, 1, 0, []) := by decide +kernel
theorem cd_43_1 : dk_find (dk_code 43) 1 = some (.iload_n 1, 1, 0, []) := by decide +kernel
theorem cd_43_2 : dk_find (dk_code 43) 2 = some (.putfield 18, 3, 0, []) := by decide +kernel
theorem cd_43_5 : dk_find (dk_code 43) 5 = some (.aload_n 0, 1, 0, []) := by decide +kernel
theorem cd_43_6 : dk_find (dk_code 43) 6 = some (.iload_n 2, 1, 0, []) := by decide +kernel
theorem cd_43_7 : dk_find (dk_code 43) 7 = some (.putfield 21, 3, 0, []) := by decide +kernel
theorem cd_43_10 : dk_find (dk_code 43) 10 = some (.aload_n 0, 1, 0, []) := by decide +kernel
theorem cd_43_11 : dk_find (dk_code 43) 11 = some (.iload_n 3, 1, 0, []) := by decide +kernel
theorem cd_43_12 : dk_find (dk_code 43) 12 = some (.putfield 24, 3, 0, []) := by decide +kernel
theorem cd_43_15 : dk_find (dk_code 43) 15 = some (.return_, 1, 0, []) := by decide +kernel
theorem cd_44_0 : dk_find (dk_code 44) 0 = some (.aload_n 0, 1, 0, []) := by decide +kernel
theorem cd_44_1 : dk_find (dk_code 44) 1 = some (.iconst 3, 1, 0, []) := by decide +kernel
theorem cd_44_2 : dk_find (dk_code 44) 2 = some (.putfield 9, 3, 0, []) := by decide +kernel
theorem cd_44_5 : dk_find (dk_code 44) 5 = some (.aload_n 0, 1, 0, []) := by decide +kernel
theorem cd_44_6 : dk_find (dk_code 44) 6 = some (.iconst (-1), 1, 0, []) := by decide +kernel
theorem cd_44_7 : dk_find (dk_code 44) 7 = some (.putfield 15, 3, 0, []) := by decide +kernel
theorem cd_44_10 : dk_find (dk_code 44) 10 = some (.return_, 1, 0, []) := by decide +kernel
theorem cd_45_0 : dk_find (dk_code 45) 0 = some (.aload_n 0, 1, 0, []) := by decide +kernel
theorem cd_45_1 : dk_find (dk_code 45) 1 = some (.getfield 27, 3, 0, []) := by decide +kernel
theorem cd_45_4 : dk_find (dk_code 45) 4 = some (.sipush (128), 3, 0, []) := by decide +kernel
theorem cd_45_7 : dk_find (dk_code 45) 7 = some (.if_icmp .ge (65), 3, 72, []) := by decide +kernel
theorem cd_45_10 : dk_find (dk_code 45) 10 = some (.aload_n 0, 1, 0, []) := by decide +kernel
theorem cd_45_11 : dk_find (dk_code 45) 11 = some (.getfield 9, 3, 0, []) := by decide +kernel
theorem cd_45_14 : dk_find (dk_code 45) 14 = some (.aload_n 0, 1, 0, []) := by decide +kernel
theorem cd_45_15 : dk_find (dk_code 45) 15 = some (.getfield 27, 3, 0, []) := by decide +kernel
theorem cd_45_18 : dk_find (dk_code 45) 18 = some (.iload_n 1, 1, 0, []) := by decide +kernel
theorem cd_45_19 : dk_find (dk_code 45) 19 = some (.iastore, 1, 0, []) := by decide +kernel
theorem cd_45_20 : dk_find (dk_code 45) 20 = some (.aload_n 0, 1, 0, []) := by decide +kernel
theorem cd_45_21 : dk_find (dk_code 45) 21 = some (.getfield 15, 3, 0, []) := by decide +kernel
theorem cd_45_24 : dk_find (dk_code 45) 24 = some (.aload_n 0, 1, 0, []) := by decide +kernel
theorem cd_45_25 : dk_find (dk_code 45) 25 = some (.getfield 27, 3, 0, []) := by decide +kernel
theorem cd_45_28 : dk_find (dk_code 45) 28 = some (.iload_n 2, 1, 0, []) := by decide +kernel
theorem cd_45_29 : dk_find (dk_code 45) 29 = some (.iastore, 1, 0, []) := by decide +kernel
theorem cd_45_30 : dk_find (dk_code 45) 30 = some (.aload_n 0, 1, 0, []) := by decide +kernel
theorem cd_45_31 : dk_find (dk_code 45) 31 = some (.getfield 18, 3, 0, []) := by decide +kernel
theorem cd_45_34 : dk_find (dk_code 45) 34 = some (.aload_n 0, 1, 0, []) := by decide +kernel
theorem cd_45_35 : dk_find (dk_code 45) 35 = some (.getfield 27, 3, 0, []) := by decide +kernel
theorem cd_45_38 : dk_find (dk_code 45) 38 = some (.iload_n 3, 1, 0, []) := by decide +kernel
theorem cd_45_39 : dk_find (dk_code 45) 39 = some (.iastore, 1, 0, []) := by decide +kernel
theorem cd_45_40 : dk_find (dk_code 45) 40 = some (.aload_n 0, 1, 0, []) := by decide +kernel
theorem cd_45_41 : dk_find (dk_code 45) 41 = some (.getfield 21, 3, 0, []) := by decide +kernel
theorem cd_45_44 : dk_find (dk_code 45) 44 = some (.aload_n 0, 1, 0, []) := by decide +kernel
theorem cd_45_45 : dk_find (dk_code 45) 45 = some (.getfield 27, 3, 0, []) := by decide +kernel
theorem cd_45_48 : dk_find (dk_code 45) 48 = some (.iload 4, 2, 0, []) := by decide +kernel
theorem cd_45_50 : dk_find (dk_code 45) 50 = some (.iastore, 1, 0, []) := by decide +kernel
theorem cd_45_51 : dk_find (dk_code 45) 51 = some (.aload_n 0, 1, 0, []) := by decide +kernel
theorem cd_45_52 : dk_find (dk_code 45) 52 = some (.getfield 24, 3, 0, []) := by decide +kernel
theorem cd_45_55 : dk_find (dk_code 45) 55 = some (.aload_n 0, 1, 0, []) := by decide +kernel
theorem cd_45_56 : dk_find (dk_code 45) 56 = some (.getfield 27, 3, 0, []) := by decide +kernel
theorem cd_45_59 : dk_find (dk_code 45) 59 = some (.iload 5, 2, 0, []) := by decide +kernel
theorem cd_45_61 : dk_find (dk_code 45) 61 = some (.iastore, 1, 0, []) := by decide +kernel
theorem cd_45_62 : dk_find (dk_code 45) 62 = some (.aload_n 0, 1, 0, []) := by decide +kernel
theorem cd_45_63 : dk_find (dk_code 45) 63 = some (.dup, 1, 0, []) := by decide +kernel
theorem cd_45_64 : dk_find (dk_code 45) 64 = some (.getfield 27, 3, 0, []) := by decide +kernel
theorem cd_45_67 : dk_find (dk_code 45) 67 = some (.iconst 1, 1, 0, []) := by decide +kernel
theorem cd_45_68 : dk_find (dk_code 45) 68 = some (.iadd, 1, 0, []) := by decide +kernel
theorem cd_45_69 : dk_find (dk_code 45) 69 = some (.putfield 27, 3, 0, []) := by decide +kernel
theorem cd_45_72 : dk_find (dk_code 45) 72 = some (.return_, 1, 0, []) := by decide +kernel
theorem cd_46_0 : dk_find (dk_code 46) 0 = some (.aload_n 0, 1, 0, []) := by decide +kernel
theorem cd_46_1 : dk_find (dk_code 46) 1 = some (.getfield 11, 3, 0, []) := by decide +kernel
theorem cd_46_4 : dk_find (dk_code 46) 4 = some (.aload_n 1, 1, 0, []) := by decide +kernel
theorem cd_46_5 : dk_find (dk_code 46) 5 = some (.getfield 274, 3, 0, []) := by decide +kernel
theorem cd_46_8 : dk_find (dk_code 46) 8 = some (.aaload, 1, 0, []) := by decide +kernel
theorem cd_46_9 : dk_find (dk_code 46) 9 = some (.astore_n 2, 1, 0, []) := by decide +kernel
theorem cd_46_10 : dk_find (dk_code 46) 10 = some (.aload_n 1, 1, 0, []) := by decide +kernel
theorem cd_46_11 : dk_find (dk_code 46) 11 = some (.getfield 242, 3, 0, []) := by decide +kernel
theorem cd_46_14 : dk_find (dk_code 46) 14 = some (.aload_n 1, 1, 0, []) := by decide +kernel
theorem cd_46_15 : dk_find (dk_code 46) 15 = some (.getfield 245, 3, 0, []) := by decide +kernel
theorem cd_46_18 : dk_find (dk_code 46) 18 = some (.aaload, 1, 0, []) := by decide +kernel
theorem cd_46_19 : dk_find (dk_code 46) 19 = some (.astore_n 3, 1, 0, []) := by decide +kernel
theorem cd_46_20 : dk_find (dk_code 46) 20 = some (.aload_n 2, 1, 0, []) := by decide +kernel
theorem cd_46_21 : dk_find (dk_code 46) 21 = some (.getfield 242, 3, 0, []) := by decide +kernel
theorem cd_46_24 : dk_find (dk_code 46) 24 = some (.aload_n 1, 1, 0, []) := by decide +kernel
theorem cd_46_25 : dk_find (dk_code 46) 25 = some (.getfield 280, 3, 0, []) := by decide +kernel
theorem cd_46_28 : dk_find (dk_code 46) 28 = some (.aaload, 1, 0, []) := by decide +kernel
theorem cd_46_29 : dk_find (dk_code 46) 29 = some (.astore 4, 2, 0, []) := by decide +kernel
theorem cd_46_31 : dk_find (dk_code 46) 31 = some (.aload_n 3, 1, 0, []) := by decide +kernel
theorem cd_46_32 : dk_find (dk_code 46) 32 = some (.getfield 286, 3, 0, []) := by decide +kernel
theorem cd_46_35 : dk_find (dk_code 46) 35 = some (.iconst 1, 1, 0, []) := by decide +kernel
theorem cd_46_36 : dk_find (dk_code 46) 36 = some (.if_icmp .ne (7), 3, 43, []) := by decide +kernel
theorem cd_46_39 : dk_find (dk_code 46) 39 = some (.iconst 1, 1, 0, []) := by decide +kernel
theorem cd_46_40 : dk_find (dk_code 46) 40 = some (.goto (4), 3, 44, []) := by decide +kernel
theorem cd_46_43 : dk_find (dk_code 46) 43 = some (.iconst 0, 1, 0, []) := by decide +kernel
theorem cd_46_44 : dk_find (dk_code 46) 44 = some (.istore 5, 2, 0, []) := by decide +kernel
theorem cd_46_46 : dk_find (dk_code 46) 46 = some (.iload 5, 2, 0, []) := by decide +kernel
theorem cd_46_48 : dk_find (dk_code 46) 48 = some (.ifCond .eq (10), 3, 58, []) := by decide +kernel
theorem cd_46_51 : dk_find (dk_code 46) 51 = some (.aload_n 3, 1, 0, []) := by decide +kernel
theorem cd_46_52 : dk_find (dk_code 46) 52 = some (.getfield 312, 3, 0, []) := by decide +kernel
theorem cd_46_55 : dk_find (dk_code 46) 55 = some (.goto (8), 3, 63, []) := by decide +kernel
theorem cd_46_58 : dk_find (dk_code 46) 58 = some (.aload 4, 2, 0, []) := by decide +kernel
theorem cd_46_60 : dk_find (dk_code 46) 60 = some (.getfield 312, 3, 0, []) := by decide +kernel
theorem cd_46_63 : dk_find (dk_code 46) 63 = some (.istore 6, 2, 0, []) := by decide +kernel
theorem cd_46_65 : dk_find (dk_code 46) 65 = some (.aload_n 2, 1, 0, []) := by decide +kernel
theorem cd_46_66 : dk_find (dk_code 46) 66 = some (.getfield 94, 3, 0, []) := by decide +kernel
theorem cd_46_69 : dk_find (dk_code 46) 69 = some (.aload_n 1, 1, 0, []) := by decide +kernel
theorem cd_46_70 : dk_find (dk_code 46) 70 = some (.getfield 203, 3, 0, []) := by decide +kernel
theorem cd_46_73 : dk_find (dk_code 46) 73 = some (.aload_n 1, 1, 0, []) := by decide +kernel
theorem cd_46_74 : dk_find (dk_code 46) 74 = some (.getfield 280, 3, 0, []) := by decide +kernel
theorem cd_46_77 : dk_find (dk_code 46) 77 = some (.iload 5, 2, 0, []) := by decide +kernel
theorem cd_46_79 : dk_find (dk_code 46) 79 = some (.ifCond .eq (8), 3, 87, []) := by decide +kernel
theorem cd_46_82 : dk_find (dk_code 46) 82 = some (.iload 6, 2, 0, []) := by decide +kernel
theorem cd_46_84 : dk_find (dk_code 46) 84 = some (.goto (4), 3, 88, []) := by decide +kernel
theorem cd_46_87 : dk_find (dk_code 46) 87 = some (.iconst 0, 1, 0, []) := by decide +kernel
theorem cd_46_88 : dk_find (dk_code 46) 88 = some (.invokevirtual 315, 3, 0, []) := by decide +kernel
theorem cd_46_91 : dk_find (dk_code 46) 91 = some (.aload_n 2, 1, 0, []) := by decide +kernel
theorem cd_46_92 : dk_find (dk_code 46) 92 = some (.getfield 94, 3, 0, []) := by decide +kernel
theorem cd_46_95 : dk_find (dk_code 46) 95 = some (.invokevirtual 239, 3, 0, []) := by decide +kernel
theorem cd_46_98 : dk_find (dk_code 46) 98 = some (.aload_n 1, 1, 0, []) := by decide +kernel
theorem cd_46_99 : dk_find (dk_code 46) 99 = some (.getfield 94, 3, 0, []) := by decide +kernel
theorem cd_46_102 : dk_find (dk_code 46) 102 = some (.aload_n 2, 1, 0, []) := by decide +kernel
theorem cd_46_103 : dk_find (dk_code 46) 103 = some (.getfield 203, 3, 0, []) := by decide +kernel
theorem cd_46_106 : dk_find (dk_code 46) 106 = some (.aload_n 1, 1, 0, []) := by decide +kernel
theorem cd_46_107 : dk_find (dk_code 46) 107 = some (.getfield 245, 3, 0, []) := by decide +kernel
theorem cd_46_110 : dk_find (dk_code 46) 110 = some (.iload 5, 2, 0, []) := by decide +kernel
theorem cd_46_112 : dk_find (dk_code 46) 112 = some (.ifCond .eq (7), 3, 119, []) := by decide +kernel
theorem cd_46_115 : dk_find (dk_code 46) 115 = some (.iconst 0, 1, 0, []) := by decide +kernel
theorem cd_46_116 : dk_find (dk_code 46) 116 = some (.goto (5), 3, 121, []) := by decide +kernel
theorem cd_46_119 : dk_find (dk_code 46) 119 = some (.iload 6, 2, 0, []) := by decide +kernel
theorem cd_46_121 : dk_find (dk_code 46) 121 = some (.invokevirtual 315, 3, 0, []) := by decide +kernel
theorem cd_46_124 : dk_find (dk_code 46) 124 = some (.aload_n 0, 1, 0, []) := by decide +kernel
theorem cd_46_125 : dk_find (dk_code 46) 125 = some (.getfield 24, 3, 0, []) := by decide +kernel
theorem cd_46_128 : dk_find (dk_code 46) 128 = some (.aload_n 1, 1, 0, []) := by decide +kernel
theorem cd_46_129 : dk_find (dk_code 46) 129 = some (.getfield 203, 3, 0, []) := by decide +kernel
theorem cd_46_132 : dk_find (dk_code 46) 132 = some (.aload_n 2, 1, 0, []) := by decide +kernel
theorem cd_46_133 : dk_find (dk_code 46) 133 = some (.getfield 203, 3, 0, []) := by decide +kernel
theorem cd_46_136 : dk_find (dk_code 46) 136 = some (.aload_n 3, 1, 0, []) := by decide +kernel
theorem cd_46_137 : dk_find (dk_code 46) 137 = some (.getfield 248, 3, 0, []) := by decide +kernel
theorem cd_46_140 : dk_find (dk_code 46) 140 = some (.iload 5, 2, 0, []) := by decide +kernel
theorem cd_46_142 : dk_find (dk_code 46) 142 = some (.ifCond .eq (10), 3, 152, []) := by decide +kernel
theorem cd_46_145 : dk_find (dk_code 46) 145 = some (.aload_n 1, 1, 0, []) := by decide +kernel
theorem cd_46_146 : dk_find (dk_code 46) 146 = some (.getfield 203, 3, 0, []) := by decide +kernel
theorem cd_46_149 : dk_find (dk_code 46) 149 = some (.goto (7), 3, 156, []) := by decide +kernel
theorem cd_46_152 : dk_find (dk_code 46) 152 = some (.aload_n 2, 1, 0, []) := by decide +kernel
theorem cd_46_153 : dk_find (dk_code 46) 153 = some (.getfield 203, 3, 0, []) := by decide +kernel
theorem cd_46_156 : dk_find (dk_code 46) 156 = some (.iload 6, 2, 0, []) := by decide +kernel
theorem cd_46_158 : dk_find (dk_code 46) 158 = some (.invokevirtual 318, 3, 0, []) := by decide +kernel
theorem cd_46_161 : dk_find (dk_code 46) 161 = some (.aload_n 1, 1, 0, []) := by decide +kernel
theorem cd_46_162 : dk_find (dk_code 46) 162 = some (.bipush (6), 2, 0, []) := by decide +kernel
theorem cd_46_164 : dk_find (dk_code 46) 164 = some (.putfield 66, 3, 0, []) := by decide +kernel
theorem cd_46_167 : dk_find (dk_code 46) 167 = some (.return_, 1, 0, []) := by decide +kernel
theorem cd_47_0 : dk_find (dk_code 47) 0 = some (.aload_n 1, 1, 0, []) := by decide +kernel
theorem cd_47_1 : dk_find (dk_code 47) 1 = some (.getfield 66, 3, 0, []) := by decide +kernel
theorem cd_47_4 : dk_find (dk_code 47) 4 = some (.tableswitch (108) (0) (6) #[44, 52, 60, 68, 76, 84, 92], 44, 112, [(0, 48), (1, 56), (2, 64), (3, 72), (4, 80), (5, 88), (6, 96)]) := by decide +kernel
theorem cd_47_48 : dk_find (dk_code 47) 48 = some (.aload_n 0, 1, 0, []) := by decide +kernel
theorem cd_47_49 : dk_find (dk_code 47) 49 = some (.aload_n 1, 1, 0, []) := by decide +kernel
theorem cd_47_50 : dk_find (dk_code 47) 50 = some (.invokevirtual 221, 3, 0, []) := by decide +kernel
theorem cd_47_53 : dk_find (dk_code 47) 53 = some (.goto (59), 3, 112, []) := by decide +kernel
theorem cd_47_56 : dk_find (dk_code 47) 56 = some (.aload_n 0, 1, 0, []) := by decide +kernel
theorem cd_47_57 : dk_find (dk_code 47) 57 = some (.aload_n 1, 1, 0, []) := by decide +kernel
theorem cd_47_58 : dk_find (dk_code 47) 58 = some (.invokevirtual 224, 3, 0, []) := by decide +kernel
theorem cd_47_61 : dk_find (dk_code 47) 61 = some (.goto (51), 3, 112, []) := by decide +kernel
theorem cd_47_64 : dk_find (dk_code 47) 64 = some (.aload_n 0, 1, 0, []) := by decide +kernel
theorem cd_47_65 : dk_find (dk_code 47) 65 = some (.aload_n 1, 1, 0, []) := by decide +kernel
theorem cd_47_66 : dk_find (dk_code 47) 66 = some (.invokevirtual 227, 3, 0, []) := by decide +kernel
theorem cd_47_69 : dk_find (dk_code 47) 69 = some (.goto (43), 3, 112, []) := by decide +kernel
theorem cd_47_72 : dk_find (dk_code 47) 72 = some (.aload_n 0, 1, 0, []) := by decide +kernel
theorem cd_47_73 : dk_find (dk_code 47) 73 = some (.aload_n 1, 1, 0, []) := by decide +kernel
theorem cd_47_74 : dk_find (dk_code 47) 74 = some (.invokevirtual 230, 3, 0, []) := by decide +kernel
theorem cd_47_77 : dk_find (dk_code 47) 77 = some (.goto (35), 3, 112, []) := by decide +kernel
theorem cd_47_80 : dk_find (dk_code 47) 80 = some (.aload_n 0, 1, 0, []) := by decide +kernel
theorem cd_47_81 : dk_find (dk_code 47) 81 = some (.aload_n 1, 1, 0, []) := by decide +kernel
theorem cd_47_82 : dk_find (dk_code 47) 82 = some (.invokevirtual 233, 3, 0, []) := by decide +kernel
theorem cd_47_85 : dk_find (dk_code 47) 85 = some (.goto (27), 3, 112, []) := by decide +kernel
theorem cd_47_88 : dk_find (dk_code 47) 88 = some (.aload_n 0, 1, 0, []) := by decide +kernel
theorem cd_47_89 : dk_find (dk_code 47) 89 = some (.aload_n 1, 1, 0, []) := by decide +kernel
theorem cd_47_90 : dk_find (dk_code 47) 90 = some (.invokevirtual 236, 3, 0, []) := by decide +kernel
theorem cd_47_93 : dk_find (dk_code 47) 93 = some (.goto (19), 3, 112, []) := by decide +kernel
theorem cd_47_96 : dk_find (dk_code 47) 96 = some (.aload_n 1, 1, 0, []) := by decide +kernel
theorem cd_47_97 : dk_find (dk_code 47) 97 = some (.getfield 94, 3, 0, []) := by decide +kernel
theorem cd_47_100 : dk_find (dk_code 47) 100 = some (.invokevirtual 239, 3, 0, []) := by decide +kernel
theorem cd_47_103 : dk_find (dk_code 47) 103 = some (.aload_n 1, 1, 0, []) := by decide +kernel
theorem cd_47_104 : dk_find (dk_code 47) 104 = some (.bipush (8), 2, 0, []) := by decide +kernel
theorem cd_47_106 : dk_find (dk_code 47) 106 = some (.putfield 66, 3, 0, []) := by decide +kernel
theorem cd_47_109 : dk_find (dk_code 47) 109 = some (.goto (3), 3, 112, []) := by decide +kernel
theorem cd_47_112 : dk_find (dk_code 47) 112 = some (.return_, 1, 0, []) := by decide +kernel
theorem cd_48_0 : dk_find (dk_code 48) 0 = some (.aload_n 0, 1, 0, []) := by decide +kernel
theorem cd_48_1 : dk_find (dk_code 48) 1 = some (.getfield 24, 3, 0, []) := by decide +kernel
theorem cd_48_4 : dk_find (dk_code 48) 4 = some (.tableswitch (49) (7) (9) #[45, 28, 47], 28, 53, [(7, 49), (8, 32), (9, 51)]) := by decide +kernel
theorem cd_48_32 : dk_find (dk_code 48) 32 = some (.aload_n 0, 1, 0, []) := by decide +kernel
theorem cd_48_33 : dk_find (dk_code 48) 33 = some (.getfield 12, 3, 0, []) := by decide +kernel
theorem cd_48_36 : dk_find (dk_code 48) 36 = some (.getfield 70, 3, 0, []) := by decide +kernel
theorem cd_48_39 : dk_find (dk_code 48) 39 = some (.iconst 3, 1, 0, []) := by decide +kernel
theorem cd_48_40 : dk_find (dk_code 48) 40 = some (.if_icmp .ne (7), 3, 47, []) := by decide +kernel
theorem cd_48_43 : dk_find (dk_code 48) 43 = some (.iconst 2, 1, 0, []) := by decide +kernel
theorem cd_48_44 : dk_find (dk_code 48) 44 = some (.goto (4), 3, 48, []) := by decide +kernel
theorem cd_48_47 : dk_find (dk_code 48) 47 = some (.iconst 3, 1, 0, []) := by decide +kernel
theorem cd_48_48 : dk_find (dk_code 48) 48 = some (.ireturn, 1, 0, []) := by decide +kernel
theorem cd_48_49 : dk_find (dk_code 48) 49 = some (.iconst 1, 1, 0, []) := by decide +kernel
theorem cd_48_50 : dk_find (dk_code 48) 50 = some (.ireturn, 1, 0, []) := by decide +kernel
theorem cd_48_51 : dk_find (dk_code 48) 51 = some (.iconst 4, 1, 0, []) := by decide +kernel
theorem cd_48_52 : dk_find (dk_code 48) 52 = some (.ireturn, 1, 0, []) := by decide +kernel
theorem cd_48_53 : dk_find (dk_code 48) 53 = some (.iconst 0, 1, 0, []) := by decide +kernel
theorem cd_48_54 : dk_find (dk_code 48) 54 = some (.ireturn, 1, 0, []) := by decide +kernel
theorem cd_49_0 : dk_find (dk_code 49) 0 = some (.aload_n 1, 1, 0, []) := by decide +kernel
theorem cd_49_1 : dk_find (dk_code 49) 1 = some (.invokevirtual 126, 3, 0, []) := by decide +kernel
theorem cd_49_4 : dk_find (dk_code 49) 4 = some (.ifCond .eq (12), 3, 16, []) := by decide +kernel
theorem cd_49_7 : dk_find (dk_code 49) 7 = some (.aload_n 1, 1, 0, []) := by decide +kernel
theorem cd_49_8 : dk_find (dk_code 49) 8 = some (.bipush (8), 2, 0, []) := by decide +kernel
theorem cd_49_10 : dk_find (dk_code 49) 10 = some (.putfield 66, 3, 0, []) := by decide +kernel
theorem cd_49_13 : dk_find (dk_code 49) 13 = some (.goto (8), 3, 21, []) := by decide +kernel
theorem cd_49_16 : dk_find (dk_code 49) 16 = some (.aload_n 0, 1, 0, []) := by decide +kernel
theorem cd_49_17 : dk_find (dk_code 49) 17 = some (.aload_n 1, 1, 0, []) := by decide +kernel
theorem cd_49_18 : dk_find (dk_code 49) 18 = some (.invokevirtual 215, 3, 0, []) := by decide +kernel
theorem cd_49_21 : dk_find (dk_code 49) 21 = some (.aload_n 1, 1, 0, []) := by decide +kernel
theorem cd_49_22 : dk_find (dk_code 49) 22 = some (.invokevirtual 218, 3, 0, []) := by decide +kernel
theorem cd_49_25 : dk_find (dk_code 49) 25 = some (.ireturn, 1, 0, []) := by decide +kernel
theorem cd_50_0 : dk_find (dk_code 50) 0 = some (.aload_n 0, 1, 0, []) := by decide +kernel
theorem cd_50_1 : dk_find (dk_code 50) 1 = some (.aload_n 0, 1, 0, []) := by decide +kernel
theorem cd_50_2 : dk_find (dk_code 50) 2 = some (.iload_n 1, 1, 0, []) := by decide +kernel
theorem cd_50_3 : dk_find (dk_code 50) 3 = some (.invokevirtual 54, 3, 0, []) := by decide +kernel
theorem cd_50_6 : dk_find (dk_code 50) 6 = some (.invokevirtual 103, 3, 0, []) := by decide +kernel
theorem cd_50_9 : dk_find (dk_code 50) 9 = some (.ireturn, 1, 0, []) := by decide +kernel
theorem cd_51_0 : dk_find (dk_code 51) 0 = some (.aload_n 2, 1, 0, []) := by decide +kernel
theorem cd_51_1 : dk_find (dk_code 51) 1 = some (.iconst 0, 1, 0, []) := by decide +kernel
theorem cd_51_2 : dk_find (dk_code 51) 2 = some (.aload_n 0, 1, 0, []) := by decide +kernel
theorem cd_51_3 : dk_find (dk_code 51) 3 = some (.iload_n 1, 1, 0, []) := by decide +kernel
theorem cd_51_4 : dk_find (dk_code 51) 4 = some (.invokevirtual 33, 3, 0, []) := by decide +kernel
theorem cd_51_7 : dk_find (dk_code 51) 7 = some (.i2l, 1, 0, []) := by decide +kernel
theorem cd_51_8 : dk_find (dk_code 51) 8 = some (.lastore, 1, 0, []) := by decide +kernel
theorem cd_51_9 : dk_find (dk_code 51) 9 = some (.goto (9), 3, 18, []) := by decide +kernel
theorem cd_51_13 : dk_find (dk_code 51) 13 = some (.iconst 1, 1, 0, []) := by decide +kernel
theorem cd_51_14 : dk_find (dk_code 51) 14 = some (.ireturn, 1, 0, []) := by decide +kernel
theorem cd_51_16 : dk_find (dk_code 51) 16 = some (.iconst 2, 1, 0, []) := by decide +kernel
theorem cd_51_17 : dk_find (dk_code 51) 17 = some (.ireturn, 1, 0, []) := by decide +kernel
theorem cd_51_18 : dk_find (dk_code 51) 18 = some (.iconst 0, 1, 0, []) := by decide +kernel
theorem cd_51_19 : dk_find (dk_code 51) 19 = some (.ireturn, 1, 0, []) := by decide +kernel
theorem cd_52_0 : dk_find (dk_code 52) 0 = some (.iconst 0, 1, 0, []) := by decide +kernel
theorem cd_52_1 : dk_find (dk_code 52) 1 = some (.istore_n 2, 1, 0, []) := by decide +kernel
theorem cd_52_2 : dk_find (dk_code 52) 2 = some (.iload_n 2, 1, 0, []) := by decide +kernel
theorem cd_52_3 : dk_find (dk_code 52) 3 = some (.bipush (16), 2, 0, []) := by decide +kernel
theorem cd_52_5 : dk_find (dk_code 52) 5 = some (.if_icmp .ge (30), 3, 35, []) := by decide +kernel
theorem cd_52_8 : dk_find (dk_code 52) 8 = some (.aload_n 0, 1, 0, []) := by decide +kernel
theorem cd_52_9 : dk_find (dk_code 52) 9 = some (.getfield 11, 3, 0, []) := by decide +kernel
theorem cd_52_12 : dk_find (dk_code 52) 12 = some (.iload_n 2, 1, 0, []) := by decide +kernel
theorem cd_52_13 : dk_find (dk_code 52) 13 = some (.aaload, 1, 0, []) := by decide +kernel
theorem cd_52_14 : dk_find (dk_code 52) 14 = some (.getfield 94, 3, 0, []) := by decide +kernel
theorem cd_52_17 : dk_find (dk_code 52) 17 = some (.getfield 135, 3, 0, []) := by decide +kernel
theorem cd_52_20 : dk_find (dk_code 52) 20 = some (.aload_n 1, 1, 0, []) := by decide +kernel
theorem cd_52_21 : dk_find (dk_code 52) 21 = some (.getfield 203, 3, 0, []) := by decide +kernel
theorem cd_52_24 : dk_find (dk_code 52) 24 = some (.if_icmp .ne (5), 3, 29, []) := by decide +kernel
theorem cd_52_27 : dk_find (dk_code 52) 27 = some (.iconst 1, 1, 0, []) := by decide +kernel
theorem cd_52_28 : dk_find (dk_code 52) 28 = some (.ireturn, 1, 0, []) := by decide +kernel
theorem cd_52_29 : dk_find (dk_code 52) 29 = some (.iinc 2 (1), 3, 0, []) := by decide +kernel
theorem cd_52_32 : dk_find (dk_code 52) 32 = some (.goto (-30), 3, 2, []) := by decide +kernel
theorem cd_52_35 : dk_find (dk_code 52) 35 = some (.iconst 0, 1, 0, []) := by decide +kernel
theorem cd_52_36 : dk_find (dk_code 52) 36 = some (.ireturn, 1, 0, []) := by decide +kernel
theorem cd_53_0 : dk_find (dk_code 53) 0 = some (.iconst 0, 1, 0, []) := by decide +kernel
theorem cd_53_1 : dk_find (dk_code 53) 1 = some (.istore_n 2, 1, 0, []) := by decide +kernel
theorem cd_53_2 : dk_find (dk_code 53) 2 = some (.iconst 0, 1, 0, []) := by decide +kernel
theorem cd_53_3 : dk_find (dk_code 53) 3 = some (.istore_n 3, 1, 0, []) := by decide +kernel
theorem cd_53_4 : dk_find (dk_code 53) 4 = some (.iload_n 3, 1, 0, []) := by decide +kernel
theorem cd_53_5 : dk_find (dk_code 53) 5 = some (.aload_n 0, 1, 0, []) := by decide +kernel
theorem cd_53_6 : dk_find (dk_code 53) 6 = some (.getfield 21, 3, 0, []) := by decide +kernel
theorem cd_53_9 : dk_find (dk_code 53) 9 = some (.if_icmp .ge (58), 3, 67, []) := by decide +kernel
theorem cd_53_12 : dk_find (dk_code 53) 12 = some (.aload_n 0, 1, 0, []) := by decide +kernel
theorem cd_53_13 : dk_find (dk_code 53) 13 = some (.getfield 11, 3, 0, []) := by decide +kernel
theorem cd_53_16 : dk_find (dk_code 53) 16 = some (.iload_n 3, 1, 0, []) := by decide +kernel
theorem cd_53_17 : dk_find (dk_code 53) 17 = some (.iaload, 1, 0, []) := by decide +kernel
theorem cd_53_18 : dk_find (dk_code 53) 18 = some (.iload_n 1, 1, 0, []) := by decide +kernel
theorem cd_53_19 : dk_find (dk_code 53) 19 = some (.if_icmp .eq (42), 3, 61, []) := by decide +kernel
theorem cd_53_22 : dk_find (dk_code 53) 22 = some (.aload_n 0, 1, 0, []) := by decide +kernel
theorem cd_53_23 : dk_find (dk_code 53) 23 = some (.getfield 11, 3, 0, []) := by decide +kernel
theorem cd_53_26 : dk_find (dk_code 53) 26 = some (.iload_n 2, 1, 0, []) := by decide +kernel
theorem cd_53_27 : dk_find (dk_code 53) 27 = some (.aload_n 0, 1, 0, []) := by decide +kernel
theorem cd_53_28 : dk_find (dk_code 53) 28 = some (.getfield 11, 3, 0, []) := by decide +kernel
theorem cd_53_31 : dk_find (dk_code 53) 31 = some (.iload_n 3, 1, 0, []) := by decide +kernel
theorem cd_53_32 : dk_find (dk_code 53) 32 = some (.iaload, 1, 0, []) := by decide +kernel
theorem cd_53_33 : dk_find (dk_code 53) 33 = some (.iastore, 1, 0, []) := by decide +kernel
theorem cd_53_34 : dk_find (dk_code 53) 34 = some (.aload_n 0, 1, 0, []) := by decide +kernel
theorem cd_53_35 : dk_find (dk_code 53) 35 = some (.getfield 15, 3, 0, []) := by decide +kernel
theorem cd_53_38 : dk_find (dk_code 53) 38 = some (.iload_n 2, 1, 0, []) := by decide +kernel
theorem cd_53_39 : dk_find (dk_code 53) 39 = some (.aload_n 0, 1, 0, []) := by decide +kernel
theorem cd_53_40 : dk_find (dk_code 53) 40 = some (.getfield 15, 3, 0, []) := by decide +kernel
theorem cd_53_43 : dk_find (dk_code 53) 43 = some (.iload_n 3, 1, 0, []) := by decide +kernel
theorem cd_53_44 : dk_find (dk_code 53) 44 = some (.iaload, 1, 0, []) := by decide +kernel
theorem cd_53_45 : dk_find (dk_code 53) 45 = some (.iastore, 1, 0, []) := by decide +kernel
theorem cd_53_46 : dk_find (dk_code 53) 46 = some (.aload_n 0, 1, 0, []) := by decide +kernel
theorem cd_53_47 : dk_find (dk_code 53) 47 = some (.getfield 18, 3, 0, []) := by decide +kernel
theorem cd_53_50 : dk_find (dk_code 53) 50 = some (.iload_n 2, 1, 0, []) := by decide +kernel
theorem cd_53_51 : dk_find (dk_code 53) 51 = some (.aload_n 0, 1, 0, []) := by decide +kernel
theorem cd_53_52 : dk_find (dk_code 53) 52 = some (.getfield 18, 3, 0, []) := by decide +kernel
theorem cd_53_55 : dk_find (dk_code 53) 55 = some (.iload_n 3, 1, 0, []) := by decide +kernel
theorem cd_53_56 : dk_find (dk_code 53) 56 = some (.iaload, 1, 0, []) := by decide +kernel
theorem cd_53_57 : dk_find (dk_code 53) 57 = some (.iastore, 1, 0, []) := by decide +kernel
theorem cd_53_58 : dk_find (dk_code 53) 58 = some (.iinc 2 (1), 3, 0, []) := by decide +kernel
theorem cd_53_61 : dk_find (dk_code 53) 61 = some (.iinc 3 (1), 3, 0, []) := by decide +kernel
theorem cd_53_64 : dk_find (dk_code 53) 64 = some (.goto (-60), 3, 4, []) := by decide +kernel
theorem cd_53_67 : dk_find (dk_code 53) 67 = some (.aload_n 0, 1, 0, []) := by decide +kernel
theorem cd_53_68 : dk_find (dk_code 53) 68 = some (.iload_n 2, 1, 0, []) := by decide +kernel
theorem cd_53_69 : dk_find (dk_code 53) 69 = some (.putfield 21, 3, 0, []) := by decide +kernel
theorem cd_53_72 : dk_find (dk_code 53) 72 = some (.return_, 1, 0, []) := by decide +kernel
theorem cd_54_0 : dk_find (dk_code 54) 0 = some (.aload_n 0, 1, 0, []) := by decide +kernel
theorem cd_54_1 : dk_find (dk_code 54) 1 = some (.getfield 12, 3, 0, []) := by decide +kernel
theorem cd_54_4 : dk_find (dk_code 54) 4 = some (.invokevirtual 64, 3, 0, []) := by decide +kernel
theorem cd_54_7 : dk_find (dk_code 54) 7 = some (.aload_n 0, 1, 0, []) := by decide +kernel
theorem cd_54_8 : dk_find (dk_code 54) 8 = some (.iconst 0, 1, 0, []) := by decide +kernel
theorem cd_54_9 : dk_find (dk_code 54) 9 = some (.putfield 32, 3, 0, []) := by decide +kernel
theorem cd_54_12 : dk_find (dk_code 54) 12 = some (.aload_n 0, 1, 0, []) := by decide +kernel
theorem cd_54_13 : dk_find (dk_code 54) 13 = some (.iconst 0, 1, 0, []) := by decide +kernel
theorem cd_54_14 : dk_find (dk_code 54) 14 = some (.putfield 67, 3, 0, []) := by decide +kernel
theorem cd_54_17 : dk_find (dk_code 54) 17 = some (.aload_n 0, 1, 0, []) := by decide +kernel
theorem cd_54_18 : dk_find (dk_code 54) 18 = some (.bipush (9), 2, 0, []) := by decide +kernel
theorem cd_54_20 : dk_find (dk_code 54) 20 = some (.putfield 24, 3, 0, []) := by decide +kernel
theorem cd_54_23 : dk_find (dk_code 54) 23 = some (.return_, 1, 0, []) := by decide +kernel
theorem cd_55_0 : dk_find (dk_code 55) 0 = some (.iconst 0, 1, 0, []) := by decide +kernel
theorem cd_55_1 : dk_find (dk_code 55) 1 = some (.istore_n 2, 1, 0, []) := by decide +kernel
theorem cd_55_2 : dk_find (dk_code 55) 2 = some (.iload_n 2, 1, 0, []) := by decide +kernel
theorem cd_55_3 : dk_find (dk_code 55) 3 = some (.bipush (8), 2, 0, []) := by decide +kernel
theorem cd_55_5 : dk_find (dk_code 55) 5 = some (.if_icmp .ge (22), 3, 27, []) := by decide +kernel
theorem cd_55_8 : dk_find (dk_code 55) 8 = some (.aload_n 0, 1, 0, []) := by decide +kernel
theorem cd_55_9 : dk_find (dk_code 55) 9 = some (.getfield 17, 3, 0, []) := by decide +kernel
theorem cd_55_12 : dk_find (dk_code 55) 12 = some (.iload_n 2, 1, 0, []) := by decide +kernel
theorem cd_55_13 : dk_find (dk_code 55) 13 = some (.aaload, 1, 0, []) := by decide +kernel
theorem cd_55_14 : dk_find (dk_code 55) 14 = some (.aload_n 1, 1, 0, []) := by decide +kernel
theorem cd_55_15 : dk_find (dk_code 55) 15 = some (.getfield 203, 3, 0, []) := by decide +kernel
theorem cd_55_18 : dk_find (dk_code 55) 18 = some (.invokevirtual 206, 3, 0, []) := by decide +kernel
theorem cd_55_21 : dk_find (dk_code 55) 21 = some (.iinc 2 (1), 3, 0, []) := by decide +kernel
theorem cd_55_24 : dk_find (dk_code 55) 24 = some (.goto (-22), 3, 2, []) := by decide +kernel
theorem cd_55_27 : dk_find (dk_code 55) 27 = some (.iconst 0, 1, 0, []) := by decide +kernel
theorem cd_55_28 : dk_find (dk_code 55) 28 = some (.istore_n 2, 1, 0, []) := by decide +kernel
theorem cd_55_29 : dk_find (dk_code 55) 29 = some (.iload_n 2, 1, 0, []) := by decide +kernel
theorem cd_55_30 : dk_find (dk_code 55) 30 = some (.bipush (16), 2, 0, []) := by decide +kernel
theorem cd_55_32 : dk_find (dk_code 55) 32 = some (.if_icmp .ge (19), 3, 51, []) := by decide +kernel
theorem cd_55_35 : dk_find (dk_code 55) 35 = some (.aload_n 0, 1, 0, []) := by decide +kernel
theorem cd_55_36 : dk_find (dk_code 55) 36 = some (.getfield 11, 3, 0, []) := by decide +kernel
theorem cd_55_39 : dk_find (dk_code 55) 39 = some (.iload_n 2, 1, 0, []) := by decide +kernel
theorem cd_55_40 : dk_find (dk_code 55) 40 = some (.aaload, 1, 0, []) := by decide +kernel
theorem cd_55_41 : dk_find (dk_code 55) 41 = some (.iconst 0, 1, 0, []) := by decide +kernel
theorem cd_55_42 : dk_find (dk_code 55) 42 = some (.putfield 209, 3, 0, []) := by decide +kernel
theorem cd_55_45 : dk_find (dk_code 55) 45 = some (.iinc 2 (1), 3, 0, []) := by decide +kernel
theorem cd_55_48 : dk_find (dk_code 55) 48 = some (.goto (-19), 3, 29, []) := by decide +kernel
theorem cd_55_51 : dk_find (dk_code 55) 51 = some (.aload_n 1, 1, 0, []) := by decide +kernel
theorem cd_55_52 : dk_find (dk_code 55) 52 = some (.invokevirtual 212, 3, 0, []) := by decide +kernel
theorem cd_55_55 : dk_find (dk_code 55) 55 = some (.return_, 1, 0, []) := by decide +kernel
theorem cd_56_0 : dk_find (dk_code 56) 0 = some (.aload_n 0, 1, 0, []) := by decide +kernel
theorem cd_56_1 : dk_find (dk_code 56) 1 = some (.iload_n 1, 1, 0, []) := by decide +kernel
theorem cd_56_2 : dk_find (dk_code 56) 2 = some (.invokevirtual 54, 3, 0, []) := by decide +kernel
theorem cd_56_5 : dk_find (dk_code 56) 5 = some (.astore_n 2, 1, 0, []) := by decide +kernel
theorem cd_56_6 : dk_find (dk_code 56) 6 = some (.aload_n 2, 1, 0, []) := by decide +kernel
theorem cd_56_7 : dk_find (dk_code 56) 7 = some (.getfield 66, 3, 0, []) := by decide +kernel
theorem cd_56_10 : dk_find (dk_code 56) 10 = some (.bipush (9), 2, 0, []) := by decide +kernel
theorem cd_56_12 : dk_find (dk_code 56) 12 = some (.if_icmp .ne (13), 3, 25, []) := by decide +kernel
theorem cd_56_15 : dk_find (dk_code 56) 15 = some (.new 73, 3, 0, []) := by decide +kernel
theorem cd_56_25 : dk_find (dk_code 56) 25 = some (.aload_n 2, 1, 0, []) := by decide +kernel
theorem cd_56_26 : dk_find (dk_code 56) 26 = some (.getfield 94, 3, 0, []) := by decide +kernel
theorem cd_56_29 : dk_find (dk_code 56) 29 = some (.getfield 116, 3, 0, []) := by decide +kernel
theorem cd_56_32 : dk_find (dk_code 56) 32 = some (.iconst 1, 1, 0, []) := by decide +kernel
theorem cd_56_33 : dk_find (dk_code 56) 33 = some (.if_icmp .ne (11), 3, 44, []) := by decide +kernel
theorem cd_56_36 : dk_find (dk_code 56) 36 = some (.aload_n 0, 1, 0, []) := by decide +kernel
theorem cd_56_37 : dk_find (dk_code 56) 37 = some (.aload_n 2, 1, 0, []) := by decide +kernel
theorem cd_56_38 : dk_find (dk_code 56) 38 = some (.invokevirtual 119, 3, 0, []) := by decide +kernel
theorem cd_56_41 : dk_find (dk_code 56) 41 = some (.ifCond .eq (5), 3, 46, []) := by decide +kernel
theorem cd_56_44 : dk_find (dk_code 56) 44 = some (.iconst 0, 1, 0, []) := by decide +kernel
theorem cd_56_45 : dk_find (dk_code 56) 45 = some (.ireturn, 1, 0, []) := by decide +kernel
theorem cd_56_46 : dk_find (dk_code 56) 46 = some (.aload_n 0, 1, 0, []) := by decide +kernel
theorem cd_56_47 : dk_find (dk_code 56) 47 = some (.aload_n 2, 1, 0, []) := by decide +kernel
theorem cd_56_48 : dk_find (dk_code 56) 48 = some (.invokevirtual 123, 3, 0, []) := by decide +kernel
theorem cd_56_51 : dk_find (dk_code 56) 51 = some (.iconst 1, 1, 0, []) := by decide +kernel
theorem cd_56_52 : dk_find (dk_code 56) 52 = some (.ireturn, 1, 0, []) := by decide +kernel
theorem cd_57_0 : dk_find (dk_code 57) 0 = some (.aload_n 2, 1, 0, []) := by decide +kernel
theorem cd_57_1 : dk_find (dk_code 57) 1 = some (.iconst 0, 1, 0, []) := by decide +kernel
theorem cd_57_2 : dk_find (dk_code 57) 2 = some (.aload_n 0, 1, 0, []) := by decide +kernel
theorem cd_57_3 : dk_find (dk_code 57) 3 = some (.iload_n 1, 1, 0, []) := by decide +kernel
theorem cd_57_4 : dk_find (dk_code 57) 4 = some (.invokevirtual 36, 3, 0, []) := by decide +kernel
theorem cd_57_7 : dk_find (dk_code 57) 7 = some (.ifCond .eq (7), 3, 14, []) := by decide +kernel
theorem cd_57_10 : dk_find (dk_code 57) 10 = some (.lconst 1, 1, 0, []) := by decide +kernel
theorem cd_57_11 : dk_find (dk_code 57) 11 = some (.goto (4), 3, 15, []) := by decide +kernel
theorem cd_57_14 : dk_find (dk_code 57) 14 = some (.lconst 0, 1, 0, []) := by decide +kernel
theorem cd_57_15 : dk_find (dk_code 57) 15 = some (.lastore, 1, 0, []) := by decide +kernel
theorem cd_57_16 : dk_find (dk_code 57) 16 = some (.goto (12), 3, 28, []) := by decide +kernel
theorem cd_57_20 : dk_find (dk_code 57) 20 = some (.iconst 1, 1, 0, []) := by decide +kernel
theorem cd_57_21 : dk_find (dk_code 57) 21 = some (.ireturn, 1, 0, []) := by decide +kernel
theorem cd_57_23 : dk_find (dk_code 57) 23 = some (.iconst 2, 1, 0, []) := by decide +kernel
theorem cd_57_24 : dk_find (dk_code 57) 24 = some (.ireturn, 1, 0, []) := by decide +kernel
theorem cd_57_26 : dk_find (dk_code 57) 26 = some (.iconst 3, 1, 0, []) := by decide +kernel
theorem cd_57_27 : dk_find (dk_code 57) 27 = some (.ireturn, 1, 0, []) := by decide +kernel
theorem cd_57_28 : dk_find (dk_code 57) 28 = some (.iconst 0, 1, 0, []) := by decide +kernel
theorem cd_57_29 : dk_find (dk_code 57) 29 = some (.ireturn, 1, 0, []) := by decide +kernel
theorem cd_58_0 : dk_find (dk_code 58) 0 = some (.aload_n 0, 1, 0, []) := by decide +kernel
theorem cd_58_1 : dk_find (dk_code 58) 1 = some (.getfield 9, 3, 0, []) := by decide +kernel
theorem cd_58_4 : dk_find (dk_code 58) 4 = some (.iconst 3, 1, 0, []) := by decide +kernel
theorem cd_58_5 : dk_find (dk_code 58) 5 = some (.if_icmp .ne (10), 3, 15, []) := by decide +kernel
theorem cd_58_8 : dk_find (dk_code 58) 8 = some (.aload_n 0, 1, 0, []) := by decide +kernel
theorem cd_58_9 : dk_find (dk_code 58) 9 = some (.getfield 18, 3, 0, []) := by decide +kernel
theorem cd_58_12 : dk_find (dk_code 58) 12 = some (.goto (4), 3, 16, []) := by decide +kernel
theorem cd_58_15 : dk_find (dk_code 58) 15 = some (.iconst (-1), 1, 0, []) := by decide +kernel
theorem cd_58_16 : dk_find (dk_code 58) 16 = some (.ireturn, 1, 0, []) := by decide +kernel
theorem cd_59_0 : dk_find (dk_code 59) 0 = some (.aload_n 0, 1, 0, []) := by decide +kernel
theorem cd_59_1 : dk_find (dk_code 59) 1 = some (.iload_n 1, 1, 0, []) := by decide +kernel
theorem cd_59_2 : dk_find (dk_code 59) 2 = some (.invokevirtual 54, 3, 0, []) := by decide +kernel
theorem cd_59_5 : dk_find (dk_code 59) 5 = some (.astore_n 2, 1, 0, []) := by decide +kernel
theorem cd_59_6 : dk_find (dk_code 59) 6 = some (.aload_n 2, 1, 0, []) := by decide +kernel
theorem cd_59_7 : dk_find (dk_code 59) 7 = some (.invokevirtual 126, 3, 0, []) := by decide +kernel
theorem cd_59_10 : dk_find (dk_code 59) 10 = some (.ifCond .ne (13), 3, 23, []) := by decide +kernel
theorem cd_59_13 : dk_find (dk_code 59) 13 = some (.new 73, 3, 0, []) := by decide +kernel
theorem cd_59_23 : dk_find (dk_code 59) 23 = some (.aload_n 2, 1, 0, []) := by decide +kernel
theorem cd_59_24 : dk_find (dk_code 59) 24 = some (.getfield 94, 3, 0, []) := by decide +kernel
theorem cd_59_27 : dk_find (dk_code 59) 27 = some (.invokevirtual 131, 3, 0, []) := by decide +kernel
theorem cd_59_30 : dk_find (dk_code 59) 30 = some (.istore_n 3, 1, 0, []) := by decide +kernel
theorem cd_59_31 : dk_find (dk_code 59) 31 = some (.aload_n 0, 1, 0, []) := by decide +kernel
theorem cd_59_32 : dk_find (dk_code 59) 32 = some (.aload_n 2, 1, 0, []) := by decide +kernel
theorem cd_59_33 : dk_find (dk_code 59) 33 = some (.invokevirtual 123, 3, 0, []) := by decide +kernel
theorem cd_59_36 : dk_find (dk_code 59) 36 = some (.iload_n 3, 1, 0, []) := by decide +kernel
theorem cd_59_37 : dk_find (dk_code 59) 37 = some (.ireturn, 1, 0, []) := by decide +kernel
theorem cd_60_0 : dk_find (dk_code 60) 0 = some (.aload_n 2, 1, 0, []) := by decide +kernel
theorem cd_60_1 : dk_find (dk_code 60) 1 = some (.iconst 0, 1, 0, []) := by decide +kernel
theorem cd_60_2 : dk_find (dk_code 60) 2 = some (.aload_n 0, 1, 0, []) := by decide +kernel
theorem cd_60_3 : dk_find (dk_code 60) 3 = some (.iload_n 1, 1, 0, []) := by decide +kernel
theorem cd_60_4 : dk_find (dk_code 60) 4 = some (.invokevirtual 40, 3, 0, []) := by decide +kernel
theorem cd_60_7 : dk_find (dk_code 60) 7 = some (.i2l, 1, 0, []) := by decide +kernel
theorem cd_60_8 : dk_find (dk_code 60) 8 = some (.lastore, 1, 0, []) := by decide +kernel
theorem cd_60_9 : dk_find (dk_code 60) 9 = some (.goto (12), 3, 21, []) := by decide +kernel
theorem cd_60_13 : dk_find (dk_code 60) 13 = some (.iconst 1, 1, 0, []) := by decide +kernel
theorem cd_60_14 : dk_find (dk_code 60) 14 = some (.ireturn, 1, 0, []) := by decide +kernel
theorem cd_60_16 : dk_find (dk_code 60) 16 = some (.iconst 2, 1, 0, []) := by decide +kernel
theorem cd_60_17 : dk_find (dk_code 60) 17 = some (.ireturn, 1, 0, []) := by decide +kernel
theorem cd_60_19 : dk_find (dk_code 60) 19 = some (.iconst 3, 1, 0, []) := by decide +kernel
theorem cd_60_20 : dk_find (dk_code 60) 20 = some (.ireturn, 1, 0, []) := by decide +kernel
theorem cd_60_21 : dk_find (dk_code 60) 21 = some (.iconst 0, 1, 0, []) := by decide +kernel
theorem cd_60_22 : dk_find (dk_code 60) 22 = some (.ireturn, 1, 0, []) := by decide +kernel
theorem cd_61_0 : dk_find (dk_code 61) 0 = some (.aload_n 0, 1, 0, []) := by decide +kernel
theorem cd_61_1 : dk_find (dk_code 61) 1 = some (.getfield 9, 3, 0, []) := by decide +kernel
theorem cd_61_4 : dk_find (dk_code 61) 4 = some (.iconst 3, 1, 0, []) := by decide +kernel
theorem cd_61_5 : dk_find (dk_code 61) 5 = some (.if_icmp .ne (10), 3, 15, []) := by decide +kernel
theorem cd_61_8 : dk_find (dk_code 61) 8 = some (.aload_n 0, 1, 0, []) := by decide +kernel
theorem cd_61_9 : dk_find (dk_code 61) 9 = some (.getfield 21, 3, 0, []) := by decide +kernel
theorem cd_61_12 : dk_find (dk_code 61) 12 = some (.goto (4), 3, 16, []) := by decide +kernel
theorem cd_61_15 : dk_find (dk_code 61) 15 = some (.iconst (-1), 1, 0, []) := by decide +kernel
theorem cd_61_16 : dk_find (dk_code 61) 16 = some (.ireturn, 1, 0, []) := by decide +kernel
theorem cd_62_0 : dk_find (dk_code 62) 0 = some (.aload_n 0, 1, 0, []) := by decide +kernel
theorem cd_62_1 : dk_find (dk_code 62) 1 = some (.getfield 9, 3, 0, []) := by decide +kernel
theorem cd_62_4 : dk_find (dk_code 62) 4 = some (.iconst 3, 1, 0, []) := by decide +kernel
theorem cd_62_5 : dk_find (dk_code 62) 5 = some (.if_icmp .ne (10), 3, 15, []) := by decide +kernel
theorem cd_62_8 : dk_find (dk_code 62) 8 = some (.aload_n 0, 1, 0, []) := by decide +kernel
theorem cd_62_9 : dk_find (dk_code 62) 9 = some (.getfield 24, 3, 0, []) := by decide +kernel
theorem cd_62_12 : dk_find (dk_code 62) 12 = some (.goto (4), 3, 16, []) := by decide +kernel
theorem cd_62_15 : dk_find (dk_code 62) 15 = some (.iconst 0, 1, 0, []) := by decide +kernel
theorem cd_62_16 : dk_find (dk_code 62) 16 = some (.ireturn, 1, 0, []) := by decide +kernel
theorem cd_63_0 : dk_find (dk_code 63) 0 = some (.aload_n 0, 1, 0, []) := by decide +kernel
theorem cd_63_1 : dk_find (dk_code 63) 1 = some (.iload_n 1, 1, 0, []) := by decide +kernel
theorem cd_63_2 : dk_find (dk_code 63) 2 = some (.invokevirtual 54, 3, 0, []) := by decide +kernel
theorem cd_63_5 : dk_find (dk_code 63) 5 = some (.astore_n 3, 1, 0, []) := by decide +kernel
theorem cd_63_6 : dk_find (dk_code 63) 6 = some (.iload_n 2, 1, 0, []) := by decide +kernel
theorem cd_63_7 : dk_find (dk_code 63) 7 = some (.tableswitch (94) (0) (6) #[41, 49, 57, 65, 70, 78, 86], 41, 101, [(0, 48), (1, 56), (2, 64), (3, 72), (4, 77), (5, 85), (6, 93)]) := by decide +kernel
theorem cd_63_48 : dk_find (dk_code 63) 48 = some (.aload_n 3, 1, 0, []) := by decide +kernel
theorem cd_63_49 : dk_find (dk_code 63) 49 = some (.getfield 94, 3, 0, []) := by decide +kernel
theorem cd_63_52 : dk_find (dk_code 63) 52 = some (.getfield 116, 3, 0, []) := by decide +kernel
theorem cd_63_55 : dk_find (dk_code 63) 55 = some (.ireturn, 1, 0, []) := by decide +kernel
theorem cd_63_56 : dk_find (dk_code 63) 56 = some (.aload_n 3, 1, 0, []) := by decide +kernel
theorem cd_63_57 : dk_find (dk_code 63) 57 = some (.getfield 94, 3, 0, []) := by decide +kernel
theorem cd_63_60 : dk_find (dk_code 63) 60 = some (.getfield 98, 3, 0, []) := by decide +kernel
theorem cd_63_63 : dk_find (dk_code 63) 63 = some (.ireturn, 1, 0, []) := by decide +kernel
theorem cd_63_64 : dk_find (dk_code 63) 64 = some (.aload_n 3, 1, 0, []) := by decide +kernel
theorem cd_63_65 : dk_find (dk_code 63) 65 = some (.getfield 94, 3, 0, []) := by decide +kernel
theorem cd_63_68 : dk_find (dk_code 63) 68 = some (.getfield 135, 3, 0, []) := by decide +kernel
theorem cd_63_71 : dk_find (dk_code 63) 71 = some (.ireturn, 1, 0, []) := by decide +kernel
theorem cd_63_72 : dk_find (dk_code 63) 72 = some (.aload_n 3, 1, 0, []) := by decide +kernel
theorem cd_63_73 : dk_find (dk_code 63) 73 = some (.getfield 66, 3, 0, []) := by decide +kernel
theorem cd_63_76 : dk_find (dk_code 63) 76 = some (.ireturn, 1, 0, []) := by decide +kernel
theorem cd_63_77 : dk_find (dk_code 63) 77 = some (.aload_n 3, 1, 0, []) := by decide +kernel
theorem cd_63_78 : dk_find (dk_code 63) 78 = some (.getfield 94, 3, 0, []) := by decide +kernel
theorem cd_63_81 : dk_find (dk_code 63) 81 = some (.invokevirtual 131, 3, 0, []) := by decide +kernel
theorem cd_63_84 : dk_find (dk_code 63) 84 = some (.ireturn, 1, 0, []) := by decide +kernel
theorem cd_63_85 : dk_find (dk_code 63) 85 = some (.aload_n 3, 1, 0, []) := by decide +kernel
theorem cd_63_86 : dk_find (dk_code 63) 86 = some (.getfield 94, 3, 0, []) := by decide +kernel
theorem cd_63_89 : dk_find (dk_code 63) 89 = some (.invokevirtual 138, 3, 0, []) := by decide +kernel
theorem cd_63_92 : dk_find (dk_code 63) 92 = some (.ireturn, 1, 0, []) := by decide +kernel
theorem cd_63_93 : dk_find (dk_code 63) 93 = some (.aload_n 3, 1, 0, []) := by decide +kernel
theorem cd_63_94 : dk_find (dk_code 63) 94 = some (.getfield 94, 3, 0, []) := by decide +kernel
theorem cd_63_97 : dk_find (dk_code 63) 97 = some (.invokevirtual 141, 3, 0, []) := by decide +kernel
theorem cd_63_100 : dk_find (dk_code 63) 100 = some (.ireturn, 1, 0, []) := by decide +kernel
theorem cd_63_101 : dk_find (dk_code 63) 101 = some (.new 144, 3, 0, []) := by decide +kernel
theorem cd_64_0 : dk_find (dk_code 64) 0 = some (.aload_n 3, 1, 0, []) := by decide +kernel
theorem cd_64_1 : dk_find (dk_code 64) 1 = some (.iconst 0, 1, 0, []) := by decide +kernel
theorem cd_64_2 : dk_find (dk_code 64) 2 = some (.aload_n 0, 1, 0, []) := by decide +kernel
theorem cd_64_3 : dk_find (dk_code 64) 3 = some (.iload_n 1, 1, 0, []) := by decide +kernel
theorem cd_64_4 : dk_find (dk_code 64) 4 = some (.iload_n 2, 1, 0, []) := by decide +kernel
theorem cd_64_5 : dk_find (dk_code 64) 5 = some (.invokevirtual 43, 3, 0, []) := by decide +kernel
theorem cd_64_8 : dk_find (dk_code 64) 8 = some (.i2l, 1, 0, []) := by decide +kernel
theorem cd_64_9 : dk_find (dk_code 64) 9 = some (.lastore, 1, 0, []) := by decide +kernel
theorem cd_64_10 : dk_find (dk_code 64) 10 = some (.goto (11), 3, 21, []) := by decide +kernel
theorem cd_64_15 : dk_find (dk_code 64) 15 = some (.iconst 1, 1, 0, []) := by decide +kernel
theorem cd_64_16 : dk_find (dk_code 64) 16 = some (.ireturn, 1, 0, []) := by decide +kernel
theorem cd_64_19 : dk_find (dk_code 64) 19 = some (.iconst 2, 1, 0, []) := by decide +kernel
theorem cd_64_20 : dk_find (dk_code 64) 20 = some (.ireturn, 1, 0, []) := by decide +kernel
theorem cd_64_21 : dk_find (dk_code 64) 21 = some (.iconst 0, 1, 0, []) := by decide +kernel
theorem cd_64_22 : dk_find (dk_code 64) 22 = some (.ireturn, 1, 0, []) := by decide +kernel
theorem cd_65_0 : dk_find (dk_code 65) 0 = some (.iload_n 1, 1, 0, []) := by decide +kernel
theorem cd_65_1 : dk_find (dk_code 65) 1 = some (.invokestatic 57, 3, 0, []) := by decide +kernel
theorem cd_65_4 : dk_find (dk_code 65) 4 = some (.ifCond .eq (20), 3, 24, []) := by decide +kernel
theorem cd_65_7 : dk_find (dk_code 65) 7 = some (.iload_n 2, 1, 0, []) := by decide +kernel
theorem cd_65_8 : dk_find (dk_code 65) 8 = some (.ifCond .lt (16), 3, 24, []) := by decide +kernel
theorem cd_65_11 : dk_find (dk_code 65) 11 = some (.iload_n 2, 1, 0, []) := by decide +kernel
theorem cd_65_12 : dk_find (dk_code 65) 12 = some (.aload_n 0, 1, 0, []) := by decide +kernel
theorem cd_65_13 : dk_find (dk_code 65) 13 = some (.getfield 17, 3, 0, []) := by decide +kernel
theorem cd_65_16 : dk_find (dk_code 65) 16 = some (.iload_n 1, 1, 0, []) := by decide +kernel
theorem cd_65_17 : dk_find (dk_code 65) 17 = some (.aaload, 1, 0, []) := by decide +kernel
theorem cd_65_18 : dk_find (dk_code 65) 18 = some (.getfield 149, 3, 0, []) := by decide +kernel
theorem cd_65_21 : dk_find (dk_code 65) 21 = some (.if_icmp .lt (13), 3, 34, []) := by decide +kernel
theorem cd_65_24 : dk_find (dk_code 65) 24 = some (.new 144, 3, 0, []) := by decide +kernel
theorem cd_65_34 : dk_find (dk_code 65) 34 = some (.iload_n 3, 1, 0, []) := by decide +kernel
theorem cd_65_35 : dk_find (dk_code 65) 35 = some (.tableswitch (61) (0) (2) #[25, 37, 49], 25, 96, [(0, 60), (1, 72), (2, 84)]) := by decide +kernel
theorem cd_65_60 : dk_find (dk_code 65) 60 = some (.aload_n 0, 1, 0, []) := by decide +kernel
theorem cd_65_61 : dk_find (dk_code 65) 61 = some (.getfield 17, 3, 0, []) := by decide +kernel
theorem cd_65_64 : dk_find (dk_code 65) 64 = some (.iload_n 1, 1, 0, []) := by decide +kernel
theorem cd_65_65 : dk_find (dk_code 65) 65 = some (.aaload, 1, 0, []) := by decide +kernel
theorem cd_65_66 : dk_find (dk_code 65) 66 = some (.getfield 154, 3, 0, []) := by decide +kernel
theorem cd_65_69 : dk_find (dk_code 65) 69 = some (.iload_n 2, 1, 0, []) := by decide +kernel
theorem cd_65_70 : dk_find (dk_code 65) 70 = some (.iaload, 1, 0, []) := by decide +kernel
theorem cd_65_71 : dk_find (dk_code 65) 71 = some (.ireturn, 1, 0, []) := by decide +kernel
theorem cd_65_72 : dk_find (dk_code 65) 72 = some (.aload_n 0, 1, 0, []) := by decide +kernel
theorem cd_65_73 : dk_find (dk_code 65) 73 = some (.getfield 17, 3, 0, []) := by decide +kernel
theorem cd_65_76 : dk_find (dk_code 65) 76 = some (.iload_n 1, 1, 0, []) := by decide +kernel
theorem cd_65_77 : dk_find (dk_code 65) 77 = some (.aaload, 1, 0, []) := by decide +kernel
theorem cd_65_78 : dk_find (dk_code 65) 78 = some (.getfield 157, 3, 0, []) := by decide +kernel
theorem cd_65_81 : dk_find (dk_code 65) 81 = some (.iload_n 2, 1, 0, []) := by decide +kernel
theorem cd_65_82 : dk_find (dk_code 65) 82 = some (.iaload, 1, 0, []) := by decide +kernel
theorem cd_65_83 : dk_find (dk_code 65) 83 = some (.ireturn, 1, 0, []) := by decide +kernel
theorem cd_65_84 : dk_find (dk_code 65) 84 = some (.aload_n 0, 1, 0, []) := by decide +kernel
theorem cd_65_85 : dk_find (dk_code 65) 85 = some (.getfield 17, 3, 0, []) := by decide +kernel
theorem cd_65_88 : dk_find (dk_code 65) 88 = some (.iload_n 1, 1, 0, []) := by decide +kernel
theorem cd_65_89 : dk_find (dk_code 65) 89 = some (.aaload, 1, 0, []) := by decide +kernel
theorem cd_65_90 : dk_find (dk_code 65) 90 = some (.getfield 160, 3, 0, []) := by decide +kernel
theorem cd_65_93 : dk_find (dk_code 65) 93 = some (.iload_n 2, 1, 0, []) := by decide +kernel
theorem cd_65_94 : dk_find (dk_code 65) 94 = some (.iaload, 1, 0, []) := by decide +kernel
theorem cd_65_95 : dk_find (dk_code 65) 95 = some (.ireturn, 1, 0, []) := by decide +kernel
theorem cd_65_96 : dk_find (dk_code 65) 96 = some (.new 144, 3, 0, []) := by decide +kernel
theorem cd_66_0 : dk_find (dk_code 66) 0 = some (.aload 4, 2, 0, []) := by decide +kernel
theorem cd_66_2 : dk_find (dk_code 66) 2 = some (.iconst 0, 1, 0, []) := by decide +kernel
theorem cd_66_3 : dk_find (dk_code 66) 3 = some (.aload_n 0, 1, 0, []) := by decide +kernel
theorem cd_66_4 : dk_find (dk_code 66) 4 = some (.iload_n 1, 1, 0, []) := by decide +kernel
theorem cd_66_5 : dk_find (dk_code 66) 5 = some (.iload_n 2, 1, 0, []) := by decide +kernel
theorem cd_66_6 : dk_find (dk_code 66) 6 = some (.iload_n 3, 1, 0, []) := by decide +kernel
theorem cd_66_7 : dk_find (dk_code 66) 7 = some (.invokevirtual 46, 3, 0, []) := by decide +kernel
theorem cd_66_10 : dk_find (dk_code 66) 10 = some (.i2l, 1, 0, []) := by decide +kernel
theorem cd_66_11 : dk_find (dk_code 66) 11 = some (.lastore, 1, 0, []) := by decide +kernel
theorem cd_66_12 : dk_find (dk_code 66) 12 = some (.goto (7), 3, 19, []) := by decide +kernel
theorem cd_66_17 : dk_find (dk_code 66) 17 = some (.iconst 1, 1, 0, []) := by decide +kernel
theorem cd_66_18 : dk_find (dk_code 66) 18 = some (.ireturn, 1, 0, []) := by decide +kernel
theorem cd_66_19 : dk_find (dk_code 66) 19 = some (.iconst 0, 1, 0, []) := by decide +kernel
theorem cd_66_20 : dk_find (dk_code 66) 20 = some (.ireturn, 1, 0, []) := by decide +kernel
theorem cd_67_0 : dk_find (dk_code 67) 0 = some (.iload_n 1, 1, 0, []) := by decide +kernel
theorem cd_67_1 : dk_find (dk_code 67) 1 = some (.ifCond .lt (14), 3, 15, []) := by decide +kernel
theorem cd_67_4 : dk_find (dk_code 67) 4 = some (.iload_n 1, 1, 0, []) := by decide +kernel
theorem cd_67_5 : dk_find (dk_code 67) 5 = some (.aload_n 0, 1, 0, []) := by decide +kernel
theorem cd_67_6 : dk_find (dk_code 67) 6 = some (.getfield 24, 3, 0, []) := by decide +kernel
theorem cd_67_9 : dk_find (dk_code 67) 9 = some (.getfield 163, 3, 0, []) := by decide +kernel
theorem cd_67_12 : dk_find (dk_code 67) 12 = some (.if_icmp .lt (13), 3, 25, []) := by decide +kernel
theorem cd_67_15 : dk_find (dk_code 67) 15 = some (.new 144, 3, 0, []) := by decide +kernel
theorem cd_67_25 : dk_find (dk_code 67) 25 = some (.iload_n 2, 1, 0, []) := by decide +kernel
theorem cd_67_26 : dk_find (dk_code 67) 26 = some (.tableswitch (84) (0) (4) #[34, 44, 54, 64, 74], 34, 110, [(0, 60), (1, 70), (2, 80), (3, 90), (4, 100)]) := by decide +kernel
theorem cd_67_60 : dk_find (dk_code 67) 60 = some (.aload_n 0, 1, 0, []) := by decide +kernel
theorem cd_67_61 : dk_find (dk_code 67) 61 = some (.getfield 24, 3, 0, []) := by decide +kernel
theorem cd_67_64 : dk_find (dk_code 67) 64 = some (.getfield 166, 3, 0, []) := by decide +kernel
theorem cd_67_67 : dk_find (dk_code 67) 67 = some (.iload_n 1, 1, 0, []) := by decide +kernel
theorem cd_67_68 : dk_find (dk_code 67) 68 = some (.iaload, 1, 0, []) := by decide +kernel
theorem cd_67_69 : dk_find (dk_code 67) 69 = some (.ireturn, 1, 0, []) := by decide +kernel
theorem cd_67_70 : dk_find (dk_code 67) 70 = some (.aload_n 0, 1, 0, []) := by decide +kernel
theorem cd_67_71 : dk_find (dk_code 67) 71 = some (.getfield 24, 3, 0, []) := by decide +kernel
theorem cd_67_74 : dk_find (dk_code 67) 74 = some (.getfield 169, 3, 0, []) := by decide +kernel
theorem cd_67_77 : dk_find (dk_code 67) 77 = some (.iload_n 1, 1, 0, []) := by decide +kernel
theorem cd_67_78 : dk_find (dk_code 67) 78 = some (.iaload, 1, 0, []) := by decide +kernel
theorem cd_67_79 : dk_find (dk_code 67) 79 = some (.ireturn, 1, 0, []) := by decide +kernel
theorem cd_67_80 : dk_find (dk_code 67) 80 = some (.aload_n 0, 1, 0, []) := by decide +kernel
theorem cd_67_81 : dk_find (dk_code 67) 81 = some (.getfield 24, 3, 0, []) := by decide +kernel
theorem cd_67_84 : dk_find (dk_code 67) 84 = some (.getfield 172, 3, 0, []) := by decide +kernel
theorem cd_67_87 : dk_find (dk_code 67) 87 = some (.iload_n 1, 1, 0, []) := by decide +kernel
theorem cd_67_88 : dk_find (dk_code 67) 88 = some (.iaload, 1, 0, []) := by decide +kernel
theorem cd_67_89 : dk_find (dk_code 67) 89 = some (.ireturn, 1, 0, []) := by decide +kernel
theorem cd_67_90 : dk_find (dk_code 67) 90 = some (.aload_n 0, 1, 0, []) := by decide +kernel
theorem cd_67_91 : dk_find (dk_code 67) 91 = some (.getfield 24, 3, 0, []) := by decide +kernel
theorem cd_67_94 : dk_find (dk_code 67) 94 = some (.getfield 175, 3, 0, []) := by decide +kernel
theorem cd_67_97 : dk_find (dk_code 67) 97 = some (.iload_n 1, 1, 0, []) := by decide +kernel
theorem cd_67_98 : dk_find (dk_code 67) 98 = some (.iaload, 1, 0, []) := by decide +kernel
theorem cd_67_99 : dk_find (dk_code 67) 99 = some (.ireturn, 1, 0, []) := by decide +kernel
theorem cd_67_100 : dk_find (dk_code 67) 100 = some (.aload_n 0, 1, 0, []) := by decide +kernel
theorem cd_67_101 : dk_find (dk_code 67) 101 = some (.getfield 24, 3, 0, []) := by decide +kernel
theorem cd_67_104 : dk_find (dk_code 67) 104 = some (.getfield 178, 3, 0, []) := by decide +kernel
theorem cd_67_107 : dk_find (dk_code 67) 107 = some (.iload_n 1, 1, 0, []) := by decide +kernel
theorem cd_67_108 : dk_find (dk_code 67) 108 = some (.iaload, 1, 0, []) := by decide +kernel
theorem cd_67_109 : dk_find (dk_code 67) 109 = some (.ireturn, 1, 0, []) := by decide +kernel
theorem cd_67_110 : dk_find (dk_code 67) 110 = some (.new 144, 3, 0, []) := by decide +kernel
theorem cd_68_0 : dk_find (dk_code 68) 0 = some (.aload_n 3, 1, 0, []) := by decide +kernel
theorem cd_68_1 : dk_find (dk_code 68) 1 = some (.iconst 0, 1, 0, []) := by decide +kernel
theorem cd_68_2 : dk_find (dk_code 68) 2 = some (.aload_n 0, 1, 0, []) := by decide +kernel
theorem cd_68_3 : dk_find (dk_code 68) 3 = some (.iload_n 1, 1, 0, []) := by decide +kernel
theorem cd_68_4 : dk_find (dk_code 68) 4 = some (.iload_n 2, 1, 0, []) := by decide +kernel
theorem cd_68_5 : dk_find (dk_code 68) 5 = some (.invokevirtual 50, 3, 0, []) := by decide +kernel
theorem cd_68_8 : dk_find (dk_code 68) 8 = some (.i2l, 1, 0, []) := by decide +kernel
theorem cd_68_9 : dk_find (dk_code 68) 9 = some (.lastore, 1, 0, []) := by decide +kernel
theorem cd_68_10 : dk_find (dk_code 68) 10 = some (.goto (7), 3, 17, []) := by decide +kernel
theorem cd_68_15 : dk_find (dk_code 68) 15 = some (.iconst 1, 1, 0, []) := by decide +kernel
theorem cd_68_16 : dk_find (dk_code 68) 16 = some (.ireturn, 1, 0, []) := by decide +kernel
theorem cd_68_17 : dk_find (dk_code 68) 17 = some (.iconst 0, 1, 0, []) := by decide +kernel
theorem cd_68_18 : dk_find (dk_code 68) 18 = some (.ireturn, 1, 0, []) := by decide +kernel
theorem cd_69_0 : dk_find (dk_code 69) 0 = some (.iload_n 2, 1, 0, []) := by decide +kernel
theorem cd_69_1 : dk_find (dk_code 69) 1 = some (.iconst 1, 1, 0, []) := by decide +kernel
theorem cd_69_2 : dk_find (dk_code 69) 2 = some (.if_icmp .lt (10), 3, 12, []) := by decide +kernel
theorem cd_69_5 : dk_find (dk_code 69) 5 = some (.iload_n 2, 1, 0, []) := by decide +kernel
theorem cd_69_6 : dk_find (dk_code 69) 6 = some (.sipush (5000), 3, 0, []) := by decide +kernel
theorem cd_69_9 : dk_find (dk_code 69) 9 = some (.if_icmp .le (13), 3, 22, []) := by decide +kernel
theorem cd_69_12 : dk_find (dk_code 69) 12 = some (.new 61, 3, 0, []) := by decide +kernel
theorem cd_69_22 : dk_find (dk_code 69) 22 = some (.aload_n 0, 1, 0, []) := by decide +kernel
theorem cd_69_23 : dk_find (dk_code 69) 23 = some (.getfield 183, 3, 0, []) := by decide +kernel
theorem cd_69_26 : dk_find (dk_code 69) 26 = some (.ifCond .ne (13), 3, 39, []) := by decide +kernel
theorem cd_69_29 : dk_find (dk_code 69) 29 = some (.new 44, 3, 0, []) := by decide +kernel
theorem cd_69_39 : dk_find (dk_code 69) 39 = some (.iload_n 1, 1, 0, []) := by decide +kernel
theorem cd_69_40 : dk_find (dk_code 69) 40 = some (.ldc 188, 2, 0, []) := by decide +kernel
theorem cd_69_42 : dk_find (dk_code 69) 42 = some (.iand, 1, 0, []) := by decide +kernel
theorem cd_69_43 : dk_find (dk_code 69) 43 = some (.istore_n 3, 1, 0, []) := by decide +kernel
theorem cd_69_44 : dk_find (dk_code 69) 44 = some (.iconst 0, 1, 0, []) := by decide +kernel
theorem cd_69_45 : dk_find (dk_code 69) 45 = some (.istore 4, 2, 0, []) := by decide +kernel
theorem cd_69_47 : dk_find (dk_code 69) 47 = some (.iconst 0, 1, 0, []) := by decide +kernel
theorem cd_69_48 : dk_find (dk_code 69) 48 = some (.istore 5, 2, 0, []) := by decide +kernel
theorem cd_69_50 : dk_find (dk_code 69) 50 = some (.iload 5, 2, 0, []) := by decide +kernel
theorem cd_69_52 : dk_find (dk_code 69) 52 = some (.iload_n 2, 1, 0, []) := by decide +kernel
theorem cd_69_53 : dk_find (dk_code 69) 53 = some (.if_icmp .ge (61), 3, 114, []) := by decide +kernel
theorem cd_69_56 : dk_find (dk_code 69) 56 = some (.ldc 189, 2, 0, []) := by decide +kernel
theorem cd_69_58 : dk_find (dk_code 69) 58 = some (.iload_n 3, 1, 0, []) := by decide +kernel
theorem cd_69_59 : dk_find (dk_code 69) 59 = some (.imul, 1, 0, []) := by decide +kernel
theorem cd_69_60 : dk_find (dk_code 69) 60 = some (.sipush (12345), 3, 0, []) := by decide +kernel
theorem cd_69_63 : dk_find (dk_code 69) 63 = some (.iadd, 1, 0, []) := by decide +kernel
theorem cd_69_64 : dk_find (dk_code 69) 64 = some (.ldc 188, 2, 0, []) := by decide +kernel
theorem cd_69_66 : dk_find (dk_code 69) 66 = some (.iand, 1, 0, []) := by decide +kernel
theorem cd_69_67 : dk_find (dk_code 69) 67 = some (.istore_n 3, 1, 0, []) := by decide +kernel
theorem cd_69_68 : dk_find (dk_code 69) 68 = some (.aload_n 0, 1, 0, []) := by decide +kernel
theorem cd_69_69 : dk_find (dk_code 69) 69 = some (.aload_n 0, 1, 0, []) := by decide +kernel
theorem cd_69_70 : dk_find (dk_code 69) 70 = some (.getfield 11, 3, 0, []) := by decide +kernel
theorem cd_69_73 : dk_find (dk_code 69) 73 = some (.aload_n 0, 1, 0, []) := by decide +kernel
theorem cd_69_74 : dk_find (dk_code 69) 74 = some (.getfield 28, 3, 0, []) := by decide +kernel
theorem cd_69_77 : dk_find (dk_code 69) 77 = some (.iload_n 3, 1, 0, []) := by decide +kernel
theorem cd_69_78 : dk_find (dk_code 69) 78 = some (.ldc 190, 2, 0, []) := by decide +kernel
theorem cd_69_80 : dk_find (dk_code 69) 80 = some (.idiv, 1, 0, []) := by decide +kernel
theorem cd_69_81 : dk_find (dk_code 69) 81 = some (.aload_n 0, 1, 0, []) := by decide +kernel
theorem cd_69_82 : dk_find (dk_code 69) 82 = some (.getfield 183, 3, 0, []) := by decide +kernel
theorem cd_69_85 : dk_find (dk_code 69) 85 = some (.irem, 1, 0, []) := by decide +kernel
theorem cd_69_86 : dk_find (dk_code 69) 86 = some (.iaload, 1, 0, []) := by decide +kernel
theorem cd_69_87 : dk_find (dk_code 69) 87 = some (.aaload, 1, 0, []) := by decide +kernel
theorem cd_69_88 : dk_find (dk_code 69) 88 = some (.invokevirtual 103, 3, 0, []) := by decide +kernel
theorem cd_69_91 : dk_find (dk_code 69) 91 = some (.istore 6, 2, 0, []) := by decide +kernel
theorem cd_69_93 : dk_find (dk_code 69) 93 = some (.iload 6, 2, 0, []) := by decide +kernel
theorem cd_69_95 : dk_find (dk_code 69) 95 = some (.iconst 2, 1, 0, []) := by decide +kernel
theorem cd_69_96 : dk_find (dk_code 69) 96 = some (.if_icmp .eq (9), 3, 105, []) := by decide +kernel
theorem cd_69_99 : dk_find (dk_code 69) 99 = some (.iload 6, 2, 0, []) := by decide +kernel
theorem cd_69_101 : dk_find (dk_code 69) 101 = some (.iconst 3, 1, 0, []) := by decide +kernel
theorem cd_69_102 : dk_find (dk_code 69) 102 = some (.if_icmp .ne (6), 3, 108, []) := by decide +kernel
theorem cd_69_105 : dk_find (dk_code 69) 105 = some (.iinc 4 (1), 3, 0, []) := by decide +kernel
theorem cd_69_108 : dk_find (dk_code 69) 108 = some (.iinc 5 (1), 3, 0, []) := by decide +kernel
theorem cd_69_111 : dk_find (dk_code 69) 111 = some (.goto (-61), 3, 50, []) := by decide +kernel
theorem cd_69_114 : dk_find (dk_code 69) 114 = some (.iload 4, 2, 0, []) := by decide +kernel
theorem cd_69_116 : dk_find (dk_code 69) 116 = some (.ireturn, 1, 0, []) := by decide +kernel
theorem cd_70_0 : dk_find (dk_code 70) 0 = some (.aload_n 3, 1, 0, []) := by decide +kernel
theorem cd_70_1 : dk_find (dk_code 70) 1 = some (.iconst 0, 1, 0, []) := by decide +kernel
theorem cd_70_2 : dk_find (dk_code 70) 2 = some (.aload_n 0, 1, 0, []) := by decide +kernel
theorem cd_70_3 : dk_find (dk_code 70) 3 = some (.iload_n 1, 1, 0, []) := by decide +kernel
theorem cd_70_4 : dk_find (dk_code 70) 4 = some (.iload_n 2, 1, 0, []) := by decide +kernel
theorem cd_70_5 : dk_find (dk_code 70) 5 = some (.invokevirtual 53, 3, 0, []) := by decide +kernel
theorem cd_70_8 : dk_find (dk_code 70) 8 = some (.i2l, 1, 0, []) := by decide +kernel
theorem cd_70_9 : dk_find (dk_code 70) 9 = some (.lastore, 1, 0, []) := by decide +kernel
theorem cd_70_10 : dk_find (dk_code 70) 10 = some (.goto (11), 3, 21, []) := by decide +kernel
theorem cd_70_15 : dk_find (dk_code 70) 15 = some (.iconst 1, 1, 0, []) := by decide +kernel
theorem cd_70_16 : dk_find (dk_code 70) 16 = some (.ireturn, 1, 0, []) := by decide +kernel
theorem cd_70_19 : dk_find (dk_code 70) 19 = some (.iconst 2, 1, 0, []) := by decide +kernel
theorem cd_70_20 : dk_find (dk_code 70) 20 = some (.ireturn, 1, 0, []) := by decide +kernel
theorem cd_70_21 : dk_find (dk_code 70) 21 = some (.iconst 0, 1, 0, []) := by decide +kernel
theorem cd_70_22 : dk_find (dk_code 70) 22 = some (.ireturn, 1, 0, []) := by decide +kernel
theorem cd_72_0 : dk_find (dk_code 72) 0 = some (.aload_n 0, 1, 0, []) := by decide +kernel
theorem cd_72_1 : dk_find (dk_code 72) 1 = some (.getfield 86, 3, 0, []) := by decide +kernel
theorem cd_72_4 : dk_find (dk_code 72) 4 = some (.ireturn, 1, 0, []) := by decide +kernel
theorem cd_73_0 : dk_find (dk_code 73) 0 = some (.iload_n 0, 1, 0, []) := by decide +kernel
theorem cd_73_1 : dk_find (dk_code 73) 1 = some (.iload_n 1, 1, 0, []) := by decide +kernel
theorem cd_73_2 : dk_find (dk_code 73) 2 = some (.if_icmp .lt (12), 3, 14, []) := by decide +kernel
theorem cd_73_5 : dk_find (dk_code 73) 5 = some (.iload_n 0, 1, 0, []) := by decide +kernel
theorem cd_73_6 : dk_find (dk_code 73) 6 = some (.iload_n 2, 1, 0, []) := by decide +kernel
theorem cd_73_7 : dk_find (dk_code 73) 7 = some (.if_icmp .gt (7), 3, 14, []) := by decide +kernel
theorem cd_73_10 : dk_find (dk_code 73) 10 = some (.iconst 1, 1, 0, []) := by decide +kernel
theorem cd_73_11 : dk_find (dk_code 73) 11 = some (.goto (4), 3, 15, []) := by decide +kernel
theorem cd_73_14 : dk_find (dk_code 73) 14 = some (.iconst 0, 1, 0, []) := by decide +kernel
theorem cd_73_15 : dk_find (dk_code 73) 15 = some (.ireturn, 1, 0, []) := by decide +kernel
theorem cd_74_0 : dk_find (dk_code 74) 0 = some (.aload_n 0, 1, 0, []) := by decide +kernel
theorem cd_74_1 : dk_find (dk_code 74) 1 = some (.iload_n 1, 1, 0, []) := by decide +kernel
theorem cd_74_2 : dk_find (dk_code 74) 2 = some (.iconst 0, 1, 0, []) := by decide +kernel
theorem cd_74_3 : dk_find (dk_code 74) 3 = some (.bipush (15), 2, 0, []) := by decide +kernel
theorem cd_74_5 : dk_find (dk_code 74) 5 = some (.invokestatic 90, 3, 0, []) := by decide +kernel
theorem cd_74_8 : dk_find (dk_code 74) 8 = some (.ifCond .ne (7), 3, 15, []) := by decide +kernel
theorem cd_74_11 : dk_find (dk_code 74) 11 = some (.iconst 1, 1, 0, []) := by decide +kernel
theorem cd_74_12 : dk_find (dk_code 74) 12 = some (.goto (17), 3, 29, []) := by decide +kernel
theorem cd_74_15 : dk_find (dk_code 74) 15 = some (.aload_n 0, 1, 0, []) := by decide +kernel
theorem cd_74_16 : dk_find (dk_code 74) 16 = some (.getfield 7, 3, 0, []) := by decide +kernel
theorem cd_74_19 : dk_find (dk_code 74) 19 = some (.iload_n 1, 1, 0, []) := by decide +kernel
theorem cd_74_20 : dk_find (dk_code 74) 20 = some (.baload, 1, 0, []) := by decide +kernel
theorem cd_74_21 : dk_find (dk_code 74) 21 = some (.ifCond .eq (7), 3, 28, []) := by decide +kernel
theorem cd_74_24 : dk_find (dk_code 74) 24 = some (.iconst 2, 1, 0, []) := by decide +kernel
theorem cd_74_25 : dk_find (dk_code 74) 25 = some (.goto (4), 3, 29, []) := by decide +kernel
theorem cd_74_28 : dk_find (dk_code 74) 28 = some (.iconst 0, 1, 0, []) := by decide +kernel
theorem cd_74_29 : dk_find (dk_code 74) 29 = some (.putfield 86, 3, 0, []) := by decide +kernel
theorem cd_74_32 : dk_find (dk_code 74) 32 = some (.aload_n 0, 1, 0, []) := by decide +kernel
theorem cd_74_33 : dk_find (dk_code 74) 33 = some (.getfield 86, 3, 0, []) := by decide +kernel
theorem cd_74_36 : dk_find (dk_code 74) 36 = some (.ifCond .ne (10), 3, 46, []) := by decide +kernel
theorem cd_74_39 : dk_find (dk_code 74) 39 = some (.aload_n 0, 1, 0, []) := by decide +kernel
theorem cd_74_40 : dk_find (dk_code 74) 40 = some (.getfield 7, 3, 0, []) := by decide +kernel
theorem cd_74_43 : dk_find (dk_code 74) 43 = some (.iload_n 1, 1, 0, []) := by decide +kernel
theorem cd_74_44 : dk_find (dk_code 74) 44 = some (.iconst 1, 1, 0, []) := by decide +kernel
theorem cd_74_45 : dk_find (dk_code 74) 45 = some (.bastore, 1, 0, []) := by decide +kernel
theorem cd_74_46 : dk_find (dk_code 74) 46 = some (.return_, 1, 0, []) := by decide +kernel
theorem cd_75_0 : dk_find (dk_code 75) 0 = some (.aload_n 0, 1, 0, []) := by decide +kernel
theorem cd_75_1 : dk_find (dk_code 75) 1 = some (.iload_n 1, 1, 0, []) := by decide +kernel
theorem cd_75_2 : dk_find (dk_code 75) 2 = some (.iconst 0, 1, 0, []) := by decide +kernel
theorem cd_75_3 : dk_find (dk_code 75) 3 = some (.bipush (15), 2, 0, []) := by decide +kernel
theorem cd_75_5 : dk_find (dk_code 75) 5 = some (.invokestatic 90, 3, 0, []) := by decide +kernel
theorem cd_75_8 : dk_find (dk_code 75) 8 = some (.ifCond .ne (7), 3, 15, []) := by decide +kernel
theorem cd_75_11 : dk_find (dk_code 75) 11 = some (.iconst 1, 1, 0, []) := by decide +kernel
theorem cd_75_12 : dk_find (dk_code 75) 12 = some (.goto (17), 3, 29, []) := by decide +kernel
theorem cd_75_15 : dk_find (dk_code 75) 15 = some (.aload_n 0, 1, 0, []) := by decide +kernel
theorem cd_75_16 : dk_find (dk_code 75) 16 = some (.getfield 7, 3, 0, []) := by decide +kernel
theorem cd_75_19 : dk_find (dk_code 75) 19 = some (.iload_n 1, 1, 0, []) := by decide +kernel
theorem cd_75_20 : dk_find (dk_code 75) 20 = some (.baload, 1, 0, []) := by decide +kernel
theorem cd_75_21 : dk_find (dk_code 75) 21 = some (.ifCond .ne (7), 3, 28, []) := by decide +kernel
theorem cd_75_24 : dk_find (dk_code 75) 24 = some (.iconst 2, 1, 0, []) := by decide +kernel
theorem cd_75_25 : dk_find (dk_code 75) 25 = some (.goto (4), 3, 29, []) := by decide +kernel
theorem cd_75_28 : dk_find (dk_code 75) 28 = some (.iconst 0, 1, 0, []) := by decide +kernel
theorem cd_75_29 : dk_find (dk_code 75) 29 = some (.putfield 86, 3, 0, []) := by decide +kernel
theorem cd_75_32 : dk_find (dk_code 75) 32 = some (.aload_n 0, 1, 0, []) := by decide +kernel
theorem cd_75_33 : dk_find (dk_code 75) 33 = some (.getfield 86, 3, 0, []) := by decide +kernel
theorem cd_75_36 : dk_find (dk_code 75) 36 = some (.ifCond .ne (7), 3, 43, []) := by decide +kernel
theorem cd_75_39 : dk_find (dk_code 75) 39 = some (.iconst 1, 1, 0, []) := by decide +kernel
theorem cd_75_40 : dk_find (dk_code 75) 40 = some (.goto (4), 3, 44, []) := by decide +kernel
theorem cd_75_43 : dk_find (dk_code 75) 43 = some (.iconst 0, 1, 0, []) := by decide +kernel
theorem cd_75_44 : dk_find (dk_code 75) 44 = some (.ireturn, 1, 0, []) := by decide +kernel
theorem cd_76_0 : dk_find (dk_code 76) 0 = some (.aload_n 0, 1, 0, []) := by decide +kernel
theorem cd_76_1 : dk_find (dk_code 76) 1 = some (.iload_n 1, 1, 0, []) := by decide +kernel
theorem cd_76_2 : dk_find (dk_code 76) 2 = some (.putfield 86, 3, 0, []) := by decide +kernel
theorem cd_76_5 : dk_find (dk_code 76) 5 = some (.iconst 0, 1, 0, []) := by decide +kernel
theorem cd_76_6 : dk_find (dk_code 76) 6 = some (.ireturn, 1, 0, []) := by decide +kernel
theorem cd_77_0 : dk_find (dk_code 77) 0 = some (.aload_n 0, 1, 0, []) := by decide +kernel
theorem cd_77_1 : dk_find (dk_code 77) 1 = some (.getfield 23, 3, 0, []) := by decide +kernel
theorem cd_77_4 : dk_find (dk_code 77) 4 = some (.iload_n 1, 1, 0, []) := by decide +kernel
theorem cd_77_5 : dk_find (dk_code 77) 5 = some (.iaload, 1, 0, []) := by decide +kernel
theorem cd_77_6 : dk_find (dk_code 77) 6 = some (.bipush (9), 2, 0, []) := by decide +kernel
theorem cd_77_8 : dk_find (dk_code 77) 8 = some (.if_icmp .ne (7), 3, 15, []) := by decide +kernel
theorem cd_77_11 : dk_find (dk_code 77) 11 = some (.iconst 1, 1, 0, []) := by decide +kernel
theorem cd_77_12 : dk_find (dk_code 77) 12 = some (.goto (4), 3, 16, []) := by decide +kernel
theorem cd_77_15 : dk_find (dk_code 77) 15 = some (.iconst 0, 1, 0, []) := by decide +kernel
theorem cd_77_16 : dk_find (dk_code 77) 16 = some (.ireturn, 1, 0, []) := by decide +kernel
theorem cd_78_0 : dk_find (dk_code 78) 0 = some (.aload_n 0, 1, 0, []) := by decide +kernel
theorem cd_78_1 : dk_find (dk_code 78) 1 = some (.iload_n 1, 1, 0, []) := by decide +kernel
theorem cd_78_2 : dk_find (dk_code 78) 2 = some (.invokevirtual 94, 3, 0, []) := by decide +kernel
theorem cd_78_5 : dk_find (dk_code 78) 5 = some (.ifCond .ne (5), 3, 10, []) := by decide +kernel
theorem cd_78_8 : dk_find (dk_code 78) 8 = some (.iconst 0, 1, 0, []) := by decide +kernel
theorem cd_78_9 : dk_find (dk_code 78) 9 = some (.ireturn, 1, 0, []) := by decide +kernel
theorem cd_78_10 : dk_find (dk_code 78) 10 = some (.iload_n 2, 1, 0, []) := by decide +kernel
theorem cd_78_11 : dk_find (dk_code 78) 11 = some (.iconst 0, 1, 0, []) := by decide +kernel
theorem cd_78_12 : dk_find (dk_code 78) 12 = some (.iconst 1, 1, 0, []) := by decide +kernel
theorem cd_78_13 : dk_find (dk_code 78) 13 = some (.invokestatic 90, 3, 0, []) := by decide +kernel
theorem cd_78_16 : dk_find (dk_code 78) 16 = some (.ifCond .eq (13), 3, 29, []) := by decide +kernel
theorem cd_78_19 : dk_find (dk_code 78) 19 = some (.iload_n 3, 1, 0, []) := by decide +kernel
theorem cd_78_20 : dk_find (dk_code 78) 20 = some (.iconst 0, 1, 0, []) := by decide +kernel
theorem cd_78_21 : dk_find (dk_code 78) 21 = some (.bipush (7), 2, 0, []) := by decide +kernel
theorem cd_78_23 : dk_find (dk_code 78) 23 = some (.invokestatic 90, 3, 0, []) := by decide +kernel
theorem cd_78_26 : dk_find (dk_code 78) 26 = some (.ifCond .ne (9), 3, 35, []) := by decide +kernel
theorem cd_78_29 : dk_find (dk_code 78) 29 = some (.aload_n 0, 1, 0, []) := by decide +kernel
theorem cd_78_30 : dk_find (dk_code 78) 30 = some (.iconst 3, 1, 0, []) := by decide +kernel
theorem cd_78_31 : dk_find (dk_code 78) 31 = some (.invokevirtual 98, 3, 0, []) := by decide +kernel
theorem cd_78_34 : dk_find (dk_code 78) 34 = some (.ireturn, 1, 0, []) := by decide +kernel
theorem cd_78_35 : dk_find (dk_code 78) 35 = some (.aload_n 0, 1, 0, []) := by decide +kernel
theorem cd_78_36 : dk_find (dk_code 78) 36 = some (.iload_n 1, 1, 0, []) := by decide +kernel
theorem cd_78_37 : dk_find (dk_code 78) 37 = some (.invokevirtual 102, 3, 0, []) := by decide +kernel
theorem cd_78_40 : dk_find (dk_code 78) 40 = some (.ifCond .eq (13), 3, 53, []) := by decide +kernel
theorem cd_78_43 : dk_find (dk_code 78) 43 = some (.aload_n 0, 1, 0, []) := by decide +kernel
theorem cd_78_44 : dk_find (dk_code 78) 44 = some (.getfield 35, 3, 0, []) := by decide +kernel
theorem cd_78_47 : dk_find (dk_code 78) 47 = some (.iload_n 1, 1, 0, []) := by decide +kernel
theorem cd_78_48 : dk_find (dk_code 78) 48 = some (.iaload, 1, 0, []) := by decide +kernel
theorem cd_78_49 : dk_find (dk_code 78) 49 = some (.iconst 4, 1, 0, []) := by decide +kernel
theorem cd_78_50 : dk_find (dk_code 78) 50 = some (.if_icmp .ne (9), 3, 59, []) := by decide +kernel
theorem cd_78_53 : dk_find (dk_code 78) 53 = some (.aload_n 0, 1, 0, []) := by decide +kernel
theorem cd_78_54 : dk_find (dk_code 78) 54 = some (.iconst 4, 1, 0, []) := by decide +kernel
theorem cd_78_55 : dk_find (dk_code 78) 55 = some (.invokevirtual 98, 3, 0, []) := by decide +kernel
theorem cd_78_58 : dk_find (dk_code 78) 58 = some (.ireturn, 1, 0, []) := by decide +kernel
theorem cd_78_59 : dk_find (dk_code 78) 59 = some (.iconst 4, 1, 0, []) := by decide +kernel
theorem cd_78_60 : dk_find (dk_code 78) 60 = some (.iload_n 1, 1, 0, []) := by decide +kernel
theorem cd_78_61 : dk_find (dk_code 78) 61 = some (.imul, 1, 0, []) := by decide +kernel
theorem cd_78_62 : dk_find (dk_code 78) 62 = some (.aload_n 0, 1, 0, []) := by decide +kernel
theorem cd_78_63 : dk_find (dk_code 78) 63 = some (.getfield 35, 3, 0, []) := by decide +kernel
theorem cd_78_66 : dk_find (dk_code 78) 66 = some (.iload_n 1, 1, 0, []) := by decide +kernel
theorem cd_78_67 : dk_find (dk_code 78) 67 = some (.iaload, 1, 0, []) := by decide +kernel
theorem cd_78_68 : dk_find (dk_code 78) 68 = some (.iadd, 1, 0, []) := by decide +kernel
theorem cd_78_69 : dk_find (dk_code 78) 69 = some (.istore 6, 2, 0, []) := by decide +kernel
theorem cd_78_71 : dk_find (dk_code 78) 71 = some (.aload_n 0, 1, 0, []) := by decide +kernel
theorem cd_78_72 : dk_find (dk_code 78) 72 = some (.getfield 38, 3, 0, []) := by decide +kernel
theorem cd_78_75 : dk_find (dk_code 78) 75 = some (.iload 6, 2, 0, []) := by decide +kernel
theorem cd_78_77 : dk_find (dk_code 78) 77 = some (.iload_n 2, 1, 0, []) := by decide +kernel
theorem cd_78_78 : dk_find (dk_code 78) 78 = some (.iastore, 1, 0, []) := by decide +kernel
theorem cd_78_79 : dk_find (dk_code 78) 79 = some (.aload_n 0, 1, 0, []) := by decide +kernel
theorem cd_78_80 : dk_find (dk_code 78) 80 = some (.getfield 41, 3, 0, []) := by decide +kernel
theorem cd_78_83 : dk_find (dk_code 78) 83 = some (.iload 6, 2, 0, []) := by decide +kernel
theorem cd_78_85 : dk_find (dk_code 78) 85 = some (.iload_n 3, 1, 0, []) := by decide +kernel
theorem cd_78_86 : dk_find (dk_code 78) 86 = some (.iastore, 1, 0, []) := by decide +kernel
theorem cd_78_87 : dk_find (dk_code 78) 87 = some (.aload_n 0, 1, 0, []) := by decide +kernel
theorem cd_78_88 : dk_find (dk_code 78) 88 = some (.getfield 44, 3, 0, []) := by decide +kernel
theorem cd_78_91 : dk_find (dk_code 78) 91 = some (.iload 6, 2, 0, []) := by decide +kernel
theorem cd_78_93 : dk_find (dk_code 78) 93 = some (.iload 4, 2, 0, []) := by decide +kernel
theorem cd_78_95 : dk_find (dk_code 78) 95 = some (.iastore, 1, 0, []) := by decide +kernel
theorem cd_78_96 : dk_find (dk_code 78) 96 = some (.aload_n 0, 1, 0, []) := by decide +kernel
theorem cd_78_97 : dk_find (dk_code 78) 97 = some (.getfield 47, 3, 0, []) := by decide +kernel
theorem cd_78_100 : dk_find (dk_code 78) 100 = some (.iload 6, 2, 0, []) := by decide +kernel
theorem cd_78_102 : dk_find (dk_code 78) 102 = some (.iload 5, 2, 0, []) := by decide +kernel
theorem cd_78_104 : dk_find (dk_code 78) 104 = some (.bastore, 1, 0, []) := by decide +kernel
theorem cd_78_105 : dk_find (dk_code 78) 105 = some (.aload_n 0, 1, 0, []) := by decide +kernel
theorem cd_78_106 : dk_find (dk_code 78) 106 = some (.getfield 35, 3, 0, []) := by decide +kernel
theorem cd_78_109 : dk_find (dk_code 78) 109 = some (.iload_n 1, 1, 0, []) := by decide +kernel
theorem cd_78_110 : dk_find (dk_code 78) 110 = some (.dup2, 1, 0, []) := by decide +kernel
theorem cd_78_111 : dk_find (dk_code 78) 111 = some (.iaload, 1, 0, []) := by decide +kernel
theorem cd_78_112 : dk_find (dk_code 78) 112 = some (.iconst 1, 1, 0, []) := by decide +kernel
theorem cd_78_113 : dk_find (dk_code 78) 113 = some (.iadd, 1, 0, []) := by decide +kernel
theorem cd_78_114 : dk_find (dk_code 78) 114 = some (.iastore, 1, 0, []) := by decide +kernel
theorem cd_78_115 : dk_find (dk_code 78) 115 = some (.aload_n 0, 1, 0, []) := by decide +kernel
theorem cd_78_116 : dk_find (dk_code 78) 116 = some (.getfield 35, 3, 0, []) := by decide +kernel
theorem cd_78_119 : dk_find (dk_code 78) 119 = some (.iload_n 1, 1, 0, []) := by decide +kernel
theorem cd_78_120 : dk_find (dk_code 78) 120 = some (.iaload, 1, 0, []) := by decide +kernel
theorem cd_78_121 : dk_find (dk_code 78) 121 = some (.iconst 1, 1, 0, []) := by decide +kernel
theorem cd_78_122 : dk_find (dk_code 78) 122 = some (.isub, 1, 0, []) := by decide +kernel
theorem cd_78_123 : dk_find (dk_code 78) 123 = some (.ireturn, 1, 0, []) := by decide +kernel
theorem cd_79_0 : dk_find (dk_code 79) 0 = some (.aload_n 0, 1, 0, []) := by decide +kernel
theorem cd_79_1 : dk_find (dk_code 79) 1 = some (.iload_n 1, 1, 0, []) := by decide +kernel
theorem cd_79_2 : dk_find (dk_code 79) 2 = some (.invokevirtual 94, 3, 0, []) := by decide +kernel
theorem cd_79_5 : dk_find (dk_code 79) 5 = some (.ifCond .ne (5), 3, 10, []) := by decide +kernel
theorem cd_79_8 : dk_find (dk_code 79) 8 = some (.iconst 0, 1, 0, []) := by decide +kernel
theorem cd_79_9 : dk_find (dk_code 79) 9 = some (.ireturn, 1, 0, []) := by decide +kernel
theorem cd_79_10 : dk_find (dk_code 79) 10 = some (.iload_n 2, 1, 0, []) := by decide +kernel
theorem cd_79_11 : dk_find (dk_code 79) 11 = some (.iconst 0, 1, 0, []) := by decide +kernel
theorem cd_79_12 : dk_find (dk_code 79) 12 = some (.sipush (1000), 3, 0, []) := by decide +kernel
theorem cd_79_15 : dk_find (dk_code 79) 15 = some (.invokestatic 90, 3, 0, []) := by decide +kernel
theorem cd_79_18 : dk_find (dk_code 79) 18 = some (.ifCond .ne (9), 3, 27, []) := by decide +kernel
theorem cd_79_21 : dk_find (dk_code 79) 21 = some (.aload_n 0, 1, 0, []) := by decide +kernel
theorem cd_79_22 : dk_find (dk_code 79) 22 = some (.iconst 3, 1, 0, []) := by decide +kernel
theorem cd_79_23 : dk_find (dk_code 79) 23 = some (.invokevirtual 98, 3, 0, []) := by decide +kernel
theorem cd_79_26 : dk_find (dk_code 79) 26 = some (.ireturn, 1, 0, []) := by decide +kernel
theorem cd_79_27 : dk_find (dk_code 79) 27 = some (.aload_n 0, 1, 0, []) := by decide +kernel
theorem cd_79_28 : dk_find (dk_code 79) 28 = some (.iload_n 1, 1, 0, []) := by decide +kernel
theorem cd_79_29 : dk_find (dk_code 79) 29 = some (.invokevirtual 102, 3, 0, []) := by decide +kernel
theorem cd_79_32 : dk_find (dk_code 79) 32 = some (.ifCond .ne (9), 3, 41, []) := by decide +kernel
theorem cd_79_35 : dk_find (dk_code 79) 35 = some (.aload_n 0, 1, 0, []) := by decide +kernel
theorem cd_79_36 : dk_find (dk_code 79) 36 = some (.iconst 4, 1, 0, []) := by decide +kernel
theorem cd_79_37 : dk_find (dk_code 79) 37 = some (.invokevirtual 98, 3, 0, []) := by decide +kernel
theorem cd_79_40 : dk_find (dk_code 79) 40 = some (.ireturn, 1, 0, []) := by decide +kernel
theorem cd_79_41 : dk_find (dk_code 79) 41 = some (.aload_n 0, 1, 0, []) := by decide +kernel
theorem cd_79_42 : dk_find (dk_code 79) 42 = some (.getfield 50, 3, 0, []) := by decide +kernel
theorem cd_79_45 : dk_find (dk_code 79) 45 = some (.iload_n 1, 1, 0, []) := by decide +kernel
theorem cd_79_46 : dk_find (dk_code 79) 46 = some (.iaload, 1, 0, []) := by decide +kernel
theorem cd_79_47 : dk_find (dk_code 79) 47 = some (.istore_n 3, 1, 0, []) := by decide +kernel
theorem cd_79_48 : dk_find (dk_code 79) 48 = some (.aload_n 0, 1, 0, []) := by decide +kernel
theorem cd_79_49 : dk_find (dk_code 79) 49 = some (.getfield 50, 3, 0, []) := by decide +kernel
theorem cd_79_52 : dk_find (dk_code 79) 52 = some (.iload_n 1, 1, 0, []) := by decide +kernel
theorem cd_79_53 : dk_find (dk_code 79) 53 = some (.iload_n 2, 1, 0, []) := by decide +kernel
theorem cd_79_54 : dk_find (dk_code 79) 54 = some (.iastore, 1, 0, []) := by decide +kernel
theorem cd_79_55 : dk_find (dk_code 79) 55 = some (.iload_n 3, 1, 0, []) := by decide +kernel
theorem cd_79_56 : dk_find (dk_code 79) 56 = some (.ireturn, 1, 0, []) := by decide +kernel
theorem cd_80_0 : dk_find (dk_code 80) 0 = some (.iload_n 2, 1, 0, []) := by decide +kernel
theorem cd_80_1 : dk_find (dk_code 80) 1 = some (.istore_n 3, 1, 0, []) := by decide +kernel
theorem cd_80_2 : dk_find (dk_code 80) 2 = some (.iload_n 3, 1, 0, []) := by decide +kernel
theorem cd_80_3 : dk_find (dk_code 80) 3 = some (.aload_n 0, 1, 0, []) := by decide +kernel
theorem cd_80_4 : dk_find (dk_code 80) 4 = some (.getfield 35, 3, 0, []) := by decide +kernel
theorem cd_80_7 : dk_find (dk_code 80) 7 = some (.iload_n 1, 1, 0, []) := by decide +kernel
theorem cd_80_8 : dk_find (dk_code 80) 8 = some (.iaload, 1, 0, []) := by decide +kernel
theorem cd_80_9 : dk_find (dk_code 80) 9 = some (.if_icmp .ge (22), 3, 31, []) := by decide +kernel
theorem cd_80_12 : dk_find (dk_code 80) 12 = some (.aload_n 0, 1, 0, []) := by decide +kernel
theorem cd_80_13 : dk_find (dk_code 80) 13 = some (.getfield 47, 3, 0, []) := by decide +kernel
theorem cd_80_16 : dk_find (dk_code 80) 16 = some (.iconst 4, 1, 0, []) := by decide +kernel
theorem cd_80_17 : dk_find (dk_code 80) 17 = some (.iload_n 1, 1, 0, []) := by decide +kernel
theorem cd_80_18 : dk_find (dk_code 80) 18 = some (.imul, 1, 0, []) := by decide +kernel
theorem cd_80_19 : dk_find (dk_code 80) 19 = some (.iload_n 3, 1, 0, []) := by decide +kernel
theorem cd_80_20 : dk_find (dk_code 80) 20 = some (.iadd, 1, 0, []) := by decide +kernel
theorem cd_80_21 : dk_find (dk_code 80) 21 = some (.baload, 1, 0, []) := by decide +kernel
theorem cd_80_22 : dk_find (dk_code 80) 22 = some (.ifCond .ne (9), 3, 31, []) := by decide +kernel
theorem cd_80_25 : dk_find (dk_code 80) 25 = some (.iinc 3 (1), 3, 0, []) := by decide +kernel
theorem cd_80_28 : dk_find (dk_code 80) 28 = some (.goto (-26), 3, 2, []) := by decide +kernel
theorem cd_80_31 : dk_find (dk_code 80) 31 = some (.iload_n 3, 1, 0, []) := by decide +kernel
theorem cd_80_32 : dk_find (dk_code 80) 32 = some (.aload_n 0, 1, 0, []) := by decide +kernel
theorem cd_80_33 : dk_find (dk_code 80) 33 = some (.getfield 35, 3, 0, []) := by decide +kernel
theorem cd_80_36 : dk_find (dk_code 80) 36 = some (.iload_n 1, 1, 0, []) := by decide +kernel
theorem cd_80_37 : dk_find (dk_code 80) 37 = some (.iaload, 1, 0, []) := by decide +kernel
theorem cd_80_38 : dk_find (dk_code 80) 38 = some (.if_icmp .ge (7), 3, 45, []) := by decide +kernel
theorem cd_80_41 : dk_find (dk_code 80) 41 = some (.iload_n 3, 1, 0, []) := by decide +kernel
theorem cd_80_42 : dk_find (dk_code 80) 42 = some (.goto (4), 3, 46, []) := by decide +kernel
theorem cd_80_45 : dk_find (dk_code 80) 45 = some (.iconst (-1), 1, 0, []) := by decide +kernel
theorem cd_80_46 : dk_find (dk_code 80) 46 = some (.ireturn, 1, 0, []) := by decide +kernel
theorem cd_81_0 : dk_find (dk_code 81) 0 = some (.aload_n 0, 1, 0, []) := by decide +kernel
theorem cd_81_1 : dk_find (dk_code 81) 1 = some (.iload_n 1, 1, 0, []) := by decide +kernel
theorem cd_81_2 : dk_find (dk_code 81) 2 = some (.invokevirtual 94, 3, 0, []) := by decide +kernel
theorem cd_81_5 : dk_find (dk_code 81) 5 = some (.ifCond .ne (5), 3, 10, []) := by decide +kernel
theorem cd_81_8 : dk_find (dk_code 81) 8 = some (.iconst 0, 1, 0, []) := by decide +kernel
theorem cd_81_9 : dk_find (dk_code 81) 9 = some (.ireturn, 1, 0, []) := by decide +kernel
theorem cd_81_10 : dk_find (dk_code 81) 10 = some (.aload_n 0, 1, 0, []) := by decide +kernel
theorem cd_81_11 : dk_find (dk_code 81) 11 = some (.iload_n 1, 1, 0, []) := by decide +kernel
theorem cd_81_12 : dk_find (dk_code 81) 12 = some (.invokevirtual 102, 3, 0, []) := by decide +kernel
theorem cd_81_15 : dk_find (dk_code 81) 15 = some (.ifCond .ne (9), 3, 24, []) := by decide +kernel
theorem cd_81_18 : dk_find (dk_code 81) 18 = some (.aload_n 0, 1, 0, []) := by decide +kernel
theorem cd_81_19 : dk_find (dk_code 81) 19 = some (.iconst 3, 1, 0, []) := by decide +kernel
theorem cd_81_20 : dk_find (dk_code 81) 20 = some (.invokevirtual 98, 3, 0, []) := by decide +kernel
theorem cd_81_23 : dk_find (dk_code 81) 23 = some (.ireturn, 1, 0, []) := by decide +kernel
theorem cd_81_24 : dk_find (dk_code 81) 24 = some (.aload_n 0, 1, 0, []) := by decide +kernel
theorem cd_81_25 : dk_find (dk_code 81) 25 = some (.getfield 17, 3, 0, []) := by decide +kernel
theorem cd_81_28 : dk_find (dk_code 81) 28 = some (.iload_n 1, 1, 0, []) := by decide +kernel
theorem cd_81_29 : dk_find (dk_code 81) 29 = some (.dup2, 1, 0, []) := by decide +kernel
theorem cd_81_30 : dk_find (dk_code 81) 30 = some (.iaload, 1, 0, []) := by decide +kernel
theorem cd_81_31 : dk_find (dk_code 81) 31 = some (.iconst 1, 1, 0, []) := by decide +kernel
theorem cd_81_32 : dk_find (dk_code 81) 32 = some (.iadd, 1, 0, []) := by decide +kernel
theorem cd_81_33 : dk_find (dk_code 81) 33 = some (.iastore, 1, 0, []) := by decide +kernel
theorem cd_81_34 : dk_find (dk_code 81) 34 = some (.aload_n 0, 1, 0, []) := by decide +kernel
theorem cd_81_35 : dk_find (dk_code 81) 35 = some (.getfield 13, 3, 0, []) := by decide +kernel
theorem cd_81_38 : dk_find (dk_code 81) 38 = some (.iload_n 1, 1, 0, []) := by decide +kernel
theorem cd_81_39 : dk_find (dk_code 81) 39 = some (.iconst 1, 1, 0, []) := by decide +kernel
theorem cd_81_40 : dk_find (dk_code 81) 40 = some (.iastore, 1, 0, []) := by decide +kernel
theorem cd_81_41 : dk_find (dk_code 81) 41 = some (.aload_n 0, 1, 0, []) := by decide +kernel
theorem cd_81_42 : dk_find (dk_code 81) 42 = some (.getfield 53, 3, 0, []) := by decide +kernel
theorem cd_81_45 : dk_find (dk_code 81) 45 = some (.iload_n 1, 1, 0, []) := by decide +kernel
theorem cd_81_46 : dk_find (dk_code 81) 46 = some (.aload_n 0, 1, 0, []) := by decide +kernel
theorem cd_81_47 : dk_find (dk_code 81) 47 = some (.getfield 105, 3, 0, []) := by decide +kernel
theorem cd_81_50 : dk_find (dk_code 81) 50 = some (.iastore, 1, 0, []) := by decide +kernel
theorem cd_81_51 : dk_find (dk_code 81) 51 = some (.aload_n 0, 1, 0, []) := by decide +kernel
theorem cd_81_52 : dk_find (dk_code 81) 52 = some (.getfield 56, 3, 0, []) := by decide +kernel
theorem cd_81_55 : dk_find (dk_code 81) 55 = some (.iload_n 1, 1, 0, []) := by decide +kernel
theorem cd_81_56 : dk_find (dk_code 81) 56 = some (.aload_n 0, 1, 0, []) := by decide +kernel
theorem cd_81_57 : dk_find (dk_code 81) 57 = some (.iload_n 1, 1, 0, []) := by decide +kernel
theorem cd_81_58 : dk_find (dk_code 81) 58 = some (.iconst 0, 1, 0, []) := by decide +kernel
theorem cd_81_59 : dk_find (dk_code 81) 59 = some (.invokevirtual 108, 3, 0, []) := by decide +kernel
theorem cd_81_62 : dk_find (dk_code 81) 62 = some (.iastore, 1, 0, []) := by decide +kernel
theorem cd_81_63 : dk_find (dk_code 81) 63 = some (.aload_n 0, 1, 0, []) := by decide +kernel
theorem cd_81_64 : dk_find (dk_code 81) 64 = some (.getfield 59, 3, 0, []) := by decide +kernel
theorem cd_81_67 : dk_find (dk_code 81) 67 = some (.iload_n 1, 1, 0, []) := by decide +kernel
theorem cd_81_68 : dk_find (dk_code 81) 68 = some (.iconst 0, 1, 0, []) := by decide +kernel
theorem cd_81_69 : dk_find (dk_code 81) 69 = some (.iastore, 1, 0, []) := by decide +kernel
theorem cd_81_70 : dk_find (dk_code 81) 70 = some (.aload_n 0, 1, 0, []) := by decide +kernel
theorem cd_81_71 : dk_find (dk_code 81) 71 = some (.getfield 62, 3, 0, []) := by decide +kernel
theorem cd_81_74 : dk_find (dk_code 81) 74 = some (.iload_n 1, 1, 0, []) := by decide +kernel
theorem cd_81_75 : dk_find (dk_code 81) 75 = some (.iconst 1, 1, 0, []) := by decide +kernel
theorem cd_81_76 : dk_find (dk_code 81) 76 = some (.bastore, 1, 0, []) := by decide +kernel
theorem cd_81_77 : dk_find (dk_code 81) 77 = some (.aload_n 0, 1, 0, []) := by decide +kernel
theorem cd_81_78 : dk_find (dk_code 81) 78 = some (.getfield 23, 3, 0, []) := by decide +kernel
theorem cd_81_81 : dk_find (dk_code 81) 81 = some (.iload_n 1, 1, 0, []) := by decide +kernel
theorem cd_81_82 : dk_find (dk_code 81) 82 = some (.aload_n 0, 1, 0, []) := by decide +kernel
theorem cd_81_83 : dk_find (dk_code 81) 83 = some (.getfield 56, 3, 0, []) := by decide +kernel
theorem cd_81_86 : dk_find (dk_code 81) 86 = some (.iload_n 1, 1, 0, []) := by decide +kernel
theorem cd_81_87 : dk_find (dk_code 81) 87 = some (.iaload, 1, 0, []) := by decide +kernel
theorem cd_81_88 : dk_find (dk_code 81) 88 = some (.ifCond .ge (8), 3, 96, []) := by decide +kernel
theorem cd_81_91 : dk_find (dk_code 81) 91 = some (.bipush (7), 2, 0, []) := by decide +kernel
theorem cd_81_93 : dk_find (dk_code 81) 93 = some (.goto (4), 3, 97, []) := by decide +kernel
theorem cd_81_96 : dk_find (dk_code 81) 96 = some (.iconst 0, 1, 0, []) := by decide +kernel
theorem cd_81_97 : dk_find (dk_code 81) 97 = some (.iastore, 1, 0, []) := by decide +kernel
theorem cd_81_98 : dk_find (dk_code 81) 98 = some (.aload_n 0, 1, 0, []) := by decide +kernel
theorem cd_81_99 : dk_find (dk_code 81) 99 = some (.getfield 17, 3, 0, []) := by decide +kernel
theorem cd_81_102 : dk_find (dk_code 81) 102 = some (.iload_n 1, 1, 0, []) := by decide +kernel
theorem cd_81_103 : dk_find (dk_code 81) 103 = some (.iaload, 1, 0, []) := by decide +kernel
theorem cd_81_104 : dk_find (dk_code 81) 104 = some (.ireturn, 1, 0, []) := by decide +kernel
theorem cd_82_0 : dk_find (dk_code 82) 0 = some (.aload_n 0, 1, 0, []) := by decide +kernel
theorem cd_82_1 : dk_find (dk_code 82) 1 = some (.getfield 23, 3, 0, []) := by decide +kernel
theorem cd_82_4 : dk_find (dk_code 82) 4 = some (.iload_n 1, 1, 0, []) := by decide +kernel
theorem cd_82_5 : dk_find (dk_code 82) 5 = some (.iaload, 1, 0, []) := by decide +kernel
theorem cd_82_6 : dk_find (dk_code 82) 6 = some (.ifCond .eq (34), 3, 40, []) := by decide +kernel
theorem cd_82_9 : dk_find (dk_code 82) 9 = some (.aload_n 0, 1, 0, []) := by decide +kernel
theorem cd_82_10 : dk_find (dk_code 82) 10 = some (.getfield 23, 3, 0, []) := by decide +kernel
theorem cd_82_13 : dk_find (dk_code 82) 13 = some (.iload_n 1, 1, 0, []) := by decide +kernel
theorem cd_82_14 : dk_find (dk_code 82) 14 = some (.iaload, 1, 0, []) := by decide +kernel
theorem cd_82_15 : dk_find (dk_code 82) 15 = some (.iconst 1, 1, 0, []) := by decide +kernel
theorem cd_82_16 : dk_find (dk_code 82) 16 = some (.if_icmp .eq (24), 3, 40, []) := by decide +kernel
theorem cd_82_19 : dk_find (dk_code 82) 19 = some (.aload_n 0, 1, 0, []) := by decide +kernel
theorem cd_82_20 : dk_find (dk_code 82) 20 = some (.getfield 23, 3, 0, []) := by decide +kernel
theorem cd_82_23 : dk_find (dk_code 82) 23 = some (.iload_n 1, 1, 0, []) := by decide +kernel
theorem cd_82_24 : dk_find (dk_code 82) 24 = some (.iaload, 1, 0, []) := by decide +kernel
theorem cd_82_25 : dk_find (dk_code 82) 25 = some (.iconst 2, 1, 0, []) := by decide +kernel
theorem cd_82_26 : dk_find (dk_code 82) 26 = some (.if_icmp .eq (14), 3, 40, []) := by decide +kernel
theorem cd_82_29 : dk_find (dk_code 82) 29 = some (.aload_n 0, 1, 0, []) := by decide +kernel
theorem cd_82_30 : dk_find (dk_code 82) 30 = some (.getfield 23, 3, 0, []) := by decide +kernel
theorem cd_82_33 : dk_find (dk_code 82) 33 = some (.iload_n 1, 1, 0, []) := by decide +kernel
theorem cd_82_34 : dk_find (dk_code 82) 34 = some (.iaload, 1, 0, []) := by decide +kernel
theorem cd_82_35 : dk_find (dk_code 82) 35 = some (.bipush (7), 2, 0, []) := by decide +kernel
theorem cd_82_37 : dk_find (dk_code 82) 37 = some (.if_icmp .ne (7), 3, 44, []) := by decide +kernel
theorem cd_82_40 : dk_find (dk_code 82) 40 = some (.iconst 1, 1, 0, []) := by decide +kernel
theorem cd_82_41 : dk_find (dk_code 82) 41 = some (.goto (4), 3, 45, []) := by decide +kernel
theorem cd_82_44 : dk_find (dk_code 82) 44 = some (.iconst 0, 1, 0, []) := by decide +kernel
theorem cd_82_45 : dk_find (dk_code 82) 45 = some (.istore_n 2, 1, 0, []) := by decide +kernel
theorem cd_82_46 : dk_find (dk_code 82) 46 = some (.iload_n 2, 1, 0, []) := by decide +kernel
theorem cd_82_47 : dk_find (dk_code 82) 47 = some (.ifCond .eq (26), 3, 73, []) := by decide +kernel
theorem cd_82_50 : dk_find (dk_code 82) 50 = some (.aload_n 0, 1, 0, []) := by decide +kernel
theorem cd_82_51 : dk_find (dk_code 82) 51 = some (.getfield 13, 3, 0, []) := by decide +kernel
theorem cd_82_54 : dk_find (dk_code 82) 54 = some (.iload_n 1, 1, 0, []) := by decide +kernel
theorem cd_82_55 : dk_find (dk_code 82) 55 = some (.iaload, 1, 0, []) := by decide +kernel
theorem cd_82_56 : dk_find (dk_code 82) 56 = some (.iconst 3, 1, 0, []) := by decide +kernel
theorem cd_82_57 : dk_find (dk_code 82) 57 = some (.if_icmp .eq (12), 3, 69, []) := by decide +kernel
theorem cd_82_60 : dk_find (dk_code 82) 60 = some (.aload_n 0, 1, 0, []) := by decide +kernel
theorem cd_82_61 : dk_find (dk_code 82) 61 = some (.getfield 13, 3, 0, []) := by decide +kernel
theorem cd_82_64 : dk_find (dk_code 82) 64 = some (.iload_n 1, 1, 0, []) := by decide +kernel
theorem cd_82_65 : dk_find (dk_code 82) 65 = some (.iaload, 1, 0, []) := by decide +kernel
theorem cd_82_66 : dk_find (dk_code 82) 66 = some (.ifCond .ne (7), 3, 73, []) := by decide +kernel
theorem cd_82_69 : dk_find (dk_code 82) 69 = some (.iconst 1, 1, 0, []) := by decide +kernel
theorem cd_82_70 : dk_find (dk_code 82) 70 = some (.goto (4), 3, 74, []) := by decide +kernel
theorem cd_82_73 : dk_find (dk_code 82) 73 = some (.iconst 0, 1, 0, []) := by decide +kernel
theorem cd_82_74 : dk_find (dk_code 82) 74 = some (.ireturn, 1, 0, []) := by decide +kernel
theorem cd_83_0 : dk_find (dk_code 83) 0 = some (.aload_n 0, 1, 0, []) := by decide +kernel
theorem cd_83_1 : dk_find (dk_code 83) 1 = some (.getfield 23, 3, 0, []) := by decide +kernel
theorem cd_83_4 : dk_find (dk_code 83) 4 = some (.iload_n 1, 1, 0, []) := by decide +kernel
theorem cd_83_5 : dk_find (dk_code 83) 5 = some (.iconst 1, 1, 0, []) := by decide +kernel
theorem cd_83_6 : dk_find (dk_code 83) 6 = some (.iastore, 1, 0, []) := by decide +kernel
theorem cd_83_7 : dk_find (dk_code 83) 7 = some (.aload_n 0, 1, 0, []) := by decide +kernel
theorem cd_83_8 : dk_find (dk_code 83) 8 = some (.getfield 56, 3, 0, []) := by decide +kernel
theorem cd_83_11 : dk_find (dk_code 83) 11 = some (.iload_n 1, 1, 0, []) := by decide +kernel
theorem cd_83_12 : dk_find (dk_code 83) 12 = some (.aload_n 0, 1, 0, []) := by decide +kernel
theorem cd_83_13 : dk_find (dk_code 83) 13 = some (.iload_n 1, 1, 0, []) := by decide +kernel
theorem cd_83_14 : dk_find (dk_code 83) 14 = some (.iconst 0, 1, 0, []) := by decide +kernel
theorem cd_83_15 : dk_find (dk_code 83) 15 = some (.invokevirtual 108, 3, 0, []) := by decide +kernel
theorem cd_83_18 : dk_find (dk_code 83) 18 = some (.iastore, 1, 0, []) := by decide +kernel
theorem cd_83_19 : dk_find (dk_code 83) 19 = some (.aload_n 0, 1, 0, []) := by decide +kernel
theorem cd_83_20 : dk_find (dk_code 83) 20 = some (.getfield 59, 3, 0, []) := by decide +kernel
theorem cd_83_23 : dk_find (dk_code 83) 23 = some (.iload_n 1, 1, 0, []) := by decide +kernel
theorem cd_83_24 : dk_find (dk_code 83) 24 = some (.iconst 0, 1, 0, []) := by decide +kernel
theorem cd_83_25 : dk_find (dk_code 83) 25 = some (.iastore, 1, 0, []) := by decide +kernel
theorem cd_83_26 : dk_find (dk_code 83) 26 = some (.aload_n 0, 1, 0, []) := by decide +kernel
theorem cd_83_27 : dk_find (dk_code 83) 27 = some (.getfield 62, 3, 0, []) := by decide +kernel
theorem cd_83_30 : dk_find (dk_code 83) 30 = some (.iload_n 1, 1, 0, []) := by decide +kernel
theorem cd_83_31 : dk_find (dk_code 83) 31 = some (.iconst 1, 1, 0, []) := by decide +kernel
theorem cd_83_32 : dk_find (dk_code 83) 32 = some (.bastore, 1, 0, []) := by decide +kernel
theorem cd_83_33 : dk_find (dk_code 83) 33 = some (.return_, 1, 0, []) := by decide +kernel
theorem cd_84_0 : dk_find (dk_code 84) 0 = some (.aload_n 0, 1, 0, []) := by decide +kernel
theorem cd_84_1 : dk_find (dk_code 84) 1 = some (.getfield 41, 3, 0, []) := by decide +kernel
theorem cd_84_4 : dk_find (dk_code 84) 4 = some (.iconst 4, 1, 0, []) := by decide +kernel
theorem cd_84_5 : dk_find (dk_code 84) 5 = some (.iload_n 1, 1, 0, []) := by decide +kernel
theorem cd_84_6 : dk_find (dk_code 84) 6 = some (.imul, 1, 0, []) := by decide +kernel
theorem cd_84_7 : dk_find (dk_code 84) 7 = some (.aload_n 0, 1, 0, []) := by decide +kernel
theorem cd_84_8 : dk_find (dk_code 84) 8 = some (.getfield 56, 3, 0, []) := by decide +kernel
theorem cd_84_11 : dk_find (dk_code 84) 11 = some (.iload_n 1, 1, 0, []) := by decide +kernel
theorem cd_84_12 : dk_find (dk_code 84) 12 = some (.iaload, 1, 0, []) := by decide +kernel
theorem cd_84_13 : dk_find (dk_code 84) 13 = some (.iadd, 1, 0, []) := by decide +kernel
theorem cd_84_14 : dk_find (dk_code 84) 14 = some (.iaload, 1, 0, []) := by decide +kernel
theorem cd_84_15 : dk_find (dk_code 84) 15 = some (.istore_n 2, 1, 0, []) := by decide +kernel
theorem cd_84_16 : dk_find (dk_code 84) 16 = some (.aload_n 0, 1, 0, []) := by decide +kernel
theorem cd_84_17 : dk_find (dk_code 84) 17 = some (.getfield 77, 3, 0, []) := by decide +kernel
theorem cd_84_20 : dk_find (dk_code 84) 20 = some (.bipush (64), 2, 0, []) := by decide +kernel
theorem cd_84_22 : dk_find (dk_code 84) 22 = some (.iload_n 2, 1, 0, []) := by decide +kernel
theorem cd_84_23 : dk_find (dk_code 84) 23 = some (.imul, 1, 0, []) := by decide +kernel
theorem cd_84_24 : dk_find (dk_code 84) 24 = some (.aload_n 0, 1, 0, []) := by decide +kernel
theorem cd_84_25 : dk_find (dk_code 84) 25 = some (.getfield 74, 3, 0, []) := by decide +kernel
theorem cd_84_28 : dk_find (dk_code 84) 28 = some (.iload_n 2, 1, 0, []) := by decide +kernel
theorem cd_84_29 : dk_find (dk_code 84) 29 = some (.iaload, 1, 0, []) := by decide +kernel
theorem cd_84_30 : dk_find (dk_code 84) 30 = some (.iadd, 1, 0, []) := by decide +kernel
theorem cd_84_31 : dk_find (dk_code 84) 31 = some (.iconst 4, 1, 0, []) := by decide +kernel
theorem cd_84_32 : dk_find (dk_code 84) 32 = some (.iload_n 1, 1, 0, []) := by decide +kernel
theorem cd_84_33 : dk_find (dk_code 84) 33 = some (.imul, 1, 0, []) := by decide +kernel
theorem cd_84_34 : dk_find (dk_code 84) 34 = some (.aload_n 0, 1, 0, []) := by decide +kernel
theorem cd_84_35 : dk_find (dk_code 84) 35 = some (.getfield 56, 3, 0, []) := by decide +kernel
theorem cd_84_38 : dk_find (dk_code 84) 38 = some (.iload_n 1, 1, 0, []) := by decide +kernel
theorem cd_84_39 : dk_find (dk_code 84) 39 = some (.iaload, 1, 0, []) := by decide +kernel
theorem cd_84_40 : dk_find (dk_code 84) 40 = some (.iadd, 1, 0, []) := by decide +kernel
theorem cd_84_41 : dk_find (dk_code 84) 41 = some (.iastore, 1, 0, []) := by decide +kernel
theorem cd_84_42 : dk_find (dk_code 84) 42 = some (.aload_n 0, 1, 0, []) := by decide +kernel
theorem cd_84_43 : dk_find (dk_code 84) 43 = some (.getfield 80, 3, 0, []) := by decide +kernel
theorem cd_84_46 : dk_find (dk_code 84) 46 = some (.bipush (64), 2, 0, []) := by decide +kernel
theorem cd_84_48 : dk_find (dk_code 84) 48 = some (.iload_n 2, 1, 0, []) := by decide +kernel
theorem cd_84_49 : dk_find (dk_code 84) 49 = some (.imul, 1, 0, []) := by decide +kernel
theorem cd_84_50 : dk_find (dk_code 84) 50 = some (.aload_n 0, 1, 0, []) := by decide +kernel
theorem cd_84_51 : dk_find (dk_code 84) 51 = some (.getfield 74, 3, 0, []) := by decide +kernel
theorem cd_84_54 : dk_find (dk_code 84) 54 = some (.iload_n 2, 1, 0, []) := by decide +kernel
theorem cd_84_55 : dk_find (dk_code 84) 55 = some (.iaload, 1, 0, []) := by decide +kernel
theorem cd_84_56 : dk_find (dk_code 84) 56 = some (.iadd, 1, 0, []) := by decide +kernel
theorem cd_84_57 : dk_find (dk_code 84) 57 = some (.aload_n 0, 1, 0, []) := by decide +kernel
theorem cd_84_58 : dk_find (dk_code 84) 58 = some (.getfield 17, 3, 0, []) := by decide +kernel
theorem cd_84_61 : dk_find (dk_code 84) 61 = some (.iload_n 1, 1, 0, []) := by decide +kernel
theorem cd_84_62 : dk_find (dk_code 84) 62 = some (.iaload, 1, 0, []) := by decide +kernel
theorem cd_84_63 : dk_find (dk_code 84) 63 = some (.iastore, 1, 0, []) := by decide +kernel
theorem cd_84_64 : dk_find (dk_code 84) 64 = some (.aload_n 0, 1, 0, []) := by decide +kernel
theorem cd_84_65 : dk_find (dk_code 84) 65 = some (.getfield 74, 3, 0, []) := by decide +kernel
theorem cd_84_68 : dk_find (dk_code 84) 68 = some (.iload_n 2, 1, 0, []) := by decide +kernel
theorem cd_84_69 : dk_find (dk_code 84) 69 = some (.dup2, 1, 0, []) := by decide +kernel
theorem cd_84_70 : dk_find (dk_code 84) 70 = some (.iaload, 1, 0, []) := by decide +kernel
theorem cd_84_71 : dk_find (dk_code 84) 71 = some (.iconst 1, 1, 0, []) := by decide +kernel
theorem cd_84_72 : dk_find (dk_code 84) 72 = some (.iadd, 1, 0, []) := by decide +kernel
theorem cd_84_73 : dk_find (dk_code 84) 73 = some (.iastore, 1, 0, []) := by decide +kernel
theorem cd_84_74 : dk_find (dk_code 84) 74 = some (.aload_n 0, 1, 0, []) := by decide +kernel
theorem cd_84_75 : dk_find (dk_code 84) 75 = some (.getfield 56, 3, 0, []) := by decide +kernel
theorem cd_84_78 : dk_find (dk_code 84) 78 = some (.iload_n 1, 1, 0, []) := by decide +kernel
theorem cd_84_79 : dk_find (dk_code 84) 79 = some (.aload_n 0, 1, 0, []) := by decide +kernel
theorem cd_84_80 : dk_find (dk_code 84) 80 = some (.iload_n 1, 1, 0, []) := by decide +kernel
theorem cd_84_81 : dk_find (dk_code 84) 81 = some (.aload_n 0, 1, 0, []) := by decide +kernel
theorem cd_84_82 : dk_find (dk_code 84) 82 = some (.getfield 56, 3, 0, []) := by decide +kernel
theorem cd_84_85 : dk_find (dk_code 84) 85 = some (.iload_n 1, 1, 0, []) := by decide +kernel
theorem cd_84_86 : dk_find (dk_code 84) 86 = some (.iaload, 1, 0, []) := by decide +kernel
theorem cd_84_87 : dk_find (dk_code 84) 87 = some (.iconst 1, 1, 0, []) := by decide +kernel
theorem cd_84_88 : dk_find (dk_code 84) 88 = some (.iadd, 1, 0, []) := by decide +kernel
theorem cd_84_89 : dk_find (dk_code 84) 89 = some (.invokevirtual 108, 3, 0, []) := by decide +kernel
theorem cd_84_92 : dk_find (dk_code 84) 92 = some (.iastore, 1, 0, []) := by decide +kernel
theorem cd_84_93 : dk_find (dk_code 84) 93 = some (.aload_n 0, 1, 0, []) := by decide +kernel
theorem cd_84_94 : dk_find (dk_code 84) 94 = some (.getfield 56, 3, 0, []) := by decide +kernel
theorem cd_84_97 : dk_find (dk_code 84) 97 = some (.iload_n 1, 1, 0, []) := by decide +kernel
theorem cd_84_98 : dk_find (dk_code 84) 98 = some (.iaload, 1, 0, []) := by decide +kernel
theorem cd_84_99 : dk_find (dk_code 84) 99 = some (.ifCond .ge (8), 3, 107, []) := by decide +kernel
theorem cd_84_102 : dk_find (dk_code 84) 102 = some (.aload_n 0, 1, 0, []) := by decide +kernel
theorem cd_84_103 : dk_find (dk_code 84) 103 = some (.iload_n 1, 1, 0, []) := by decide +kernel
theorem cd_84_104 : dk_find (dk_code 84) 104 = some (.invokevirtual 112, 3, 0, []) := by decide +kernel
theorem cd_84_107 : dk_find (dk_code 84) 107 = some (.return_, 1, 0, []) := by decide +kernel
theorem cd_85_0 : dk_find (dk_code 85) 0 = some (.iconst 4, 1, 0, []) := by decide +kernel
theorem cd_85_1 : dk_find (dk_code 85) 1 = some (.iload_n 1, 1, 0, []) := by decide +kernel
theorem cd_85_2 : dk_find (dk_code 85) 2 = some (.imul, 1, 0, []) := by decide +kernel
theorem cd_85_3 : dk_find (dk_code 85) 3 = some (.aload_n 0, 1, 0, []) := by decide +kernel
theorem cd_85_4 : dk_find (dk_code 85) 4 = some (.getfield 56, 3, 0, []) := by decide +kernel
theorem cd_85_7 : dk_find (dk_code 85) 7 = some (.iload_n 1, 1, 0, []) := by decide +kernel
theorem cd_85_8 : dk_find (dk_code 85) 8 = some (.iaload, 1, 0, []) := by decide +kernel
theorem cd_85_9 : dk_find (dk_code 85) 9 = some (.iadd, 1, 0, []) := by decide +kernel
theorem cd_85_10 : dk_find (dk_code 85) 10 = some (.istore_n 2, 1, 0, []) := by decide +kernel
theorem cd_85_11 : dk_find (dk_code 85) 11 = some (.aload_n 0, 1, 0, []) := by decide +kernel
theorem cd_85_12 : dk_find (dk_code 85) 12 = some (.getfield 41, 3, 0, []) := by decide +kernel
theorem cd_85_15 : dk_find (dk_code 85) 15 = some (.iload_n 2, 1, 0, []) := by decide +kernel
theorem cd_85_16 : dk_find (dk_code 85) 16 = some (.iaload, 1, 0, []) := by decide +kernel
theorem cd_85_17 : dk_find (dk_code 85) 17 = some (.istore_n 3, 1, 0, []) := by decide +kernel
theorem cd_85_18 : dk_find (dk_code 85) 18 = some (.aload_n 0, 1, 0, []) := by decide +kernel
theorem cd_85_19 : dk_find (dk_code 85) 19 = some (.getfield 59, 3, 0, []) := by decide +kernel
theorem cd_85_22 : dk_find (dk_code 85) 22 = some (.iload_n 1, 1, 0, []) := by decide +kernel
theorem cd_85_23 : dk_find (dk_code 85) 23 = some (.iaload, 1, 0, []) := by decide +kernel
theorem cd_85_24 : dk_find (dk_code 85) 24 = some (.aload_n 0, 1, 0, []) := by decide +kernel
theorem cd_85_25 : dk_find (dk_code 85) 25 = some (.getfield 74, 3, 0, []) := by decide +kernel
theorem cd_85_28 : dk_find (dk_code 85) 28 = some (.iload_n 3, 1, 0, []) := by decide +kernel
theorem cd_85_29 : dk_find (dk_code 85) 29 = some (.iaload, 1, 0, []) := by decide +kernel
theorem cd_85_30 : dk_find (dk_code 85) 30 = some (.if_icmp .ge (108), 3, 138, []) := by decide +kernel
theorem cd_85_33 : dk_find (dk_code 85) 33 = some (.aload_n 0, 1, 0, []) := by decide +kernel
theorem cd_85_34 : dk_find (dk_code 85) 34 = some (.getfield 77, 3, 0, []) := by decide +kernel
theorem cd_85_37 : dk_find (dk_code 85) 37 = some (.bipush (64), 2, 0, []) := by decide +kernel
theorem cd_85_39 : dk_find (dk_code 85) 39 = some (.iload_n 3, 1, 0, []) := by decide +kernel
theorem cd_85_40 : dk_find (dk_code 85) 40 = some (.imul, 1, 0, []) := by decide +kernel
theorem cd_85_41 : dk_find (dk_code 85) 41 = some (.aload_n 0, 1, 0, []) := by decide +kernel
theorem cd_85_42 : dk_find (dk_code 85) 42 = some (.getfield 59, 3, 0, []) := by decide +kernel
theorem cd_85_45 : dk_find (dk_code 85) 45 = some (.iload_n 1, 1, 0, []) := by decide +kernel
theorem cd_85_46 : dk_find (dk_code 85) 46 = some (.iaload, 1, 0, []) := by decide +kernel
theorem cd_85_47 : dk_find (dk_code 85) 47 = some (.iadd, 1, 0, []) := by decide +kernel
theorem cd_85_48 : dk_find (dk_code 85) 48 = some (.iaload, 1, 0, []) := by decide +kernel
theorem cd_85_49 : dk_find (dk_code 85) 49 = some (.istore 4, 2, 0, []) := by decide +kernel
theorem cd_85_51 : dk_find (dk_code 85) 51 = some (.iload 4, 2, 0, []) := by decide +kernel
theorem cd_85_53 : dk_find (dk_code 85) 53 = some (.iconst 4, 1, 0, []) := by decide +kernel
theorem cd_85_54 : dk_find (dk_code 85) 54 = some (.idiv, 1, 0, []) := by decide +kernel
theorem cd_85_55 : dk_find (dk_code 85) 55 = some (.iload_n 1, 1, 0, []) := by decide +kernel
theorem cd_85_56 : dk_find (dk_code 85) 56 = some (.if_icmp .eq (71), 3, 127, []) := by decide +kernel
theorem cd_85_59 : dk_find (dk_code 85) 59 = some (.aload_n 0, 1, 0, []) := by decide +kernel
theorem cd_85_60 : dk_find (dk_code 85) 60 = some (.getfield 38, 3, 0, []) := by decide +kernel
theorem cd_85_63 : dk_find (dk_code 85) 63 = some (.iload 4, 2, 0, []) := by decide +kernel
theorem cd_85_65 : dk_find (dk_code 85) 65 = some (.iaload, 1, 0, []) := by decide +kernel
theorem cd_85_66 : dk_find (dk_code 85) 66 = some (.aload_n 0, 1, 0, []) := by decide +kernel
theorem cd_85_67 : dk_find (dk_code 85) 67 = some (.getfield 38, 3, 0, []) := by decide +kernel
theorem cd_85_70 : dk_find (dk_code 85) 70 = some (.iload_n 2, 1, 0, []) := by decide +kernel
theorem cd_85_71 : dk_find (dk_code 85) 71 = some (.iaload, 1, 0, []) := by decide +kernel
theorem cd_85_72 : dk_find (dk_code 85) 72 = some (.if_icmp .eq (55), 3, 127, []) := by decide +kernel
theorem cd_85_75 : dk_find (dk_code 85) 75 = some (.aload_n 0, 1, 0, []) := by decide +kernel
theorem cd_85_76 : dk_find (dk_code 85) 76 = some (.getfield 65, 3, 0, []) := by decide +kernel
theorem cd_85_79 : dk_find (dk_code 85) 79 = some (.iload_n 1, 1, 0, []) := by decide +kernel
theorem cd_85_80 : dk_find (dk_code 85) 80 = some (.iload 4, 2, 0, []) := by decide +kernel
theorem cd_85_82 : dk_find (dk_code 85) 82 = some (.iconst 4, 1, 0, []) := by decide +kernel
theorem cd_85_83 : dk_find (dk_code 85) 83 = some (.idiv, 1, 0, []) := by decide +kernel
theorem cd_85_84 : dk_find (dk_code 85) 84 = some (.iastore, 1, 0, []) := by decide +kernel
theorem cd_85_85 : dk_find (dk_code 85) 85 = some (.aload_n 0, 1, 0, []) := by decide +kernel
theorem cd_85_86 : dk_find (dk_code 85) 86 = some (.getfield 71, 3, 0, []) := by decide +kernel
theorem cd_85_89 : dk_find (dk_code 85) 89 = some (.iload_n 1, 1, 0, []) := by decide +kernel
theorem cd_85_90 : dk_find (dk_code 85) 90 = some (.iload 4, 2, 0, []) := by decide +kernel
theorem cd_85_92 : dk_find (dk_code 85) 92 = some (.iconst 4, 1, 0, []) := by decide +kernel
theorem cd_85_93 : dk_find (dk_code 85) 93 = some (.irem, 1, 0, []) := by decide +kernel
theorem cd_85_94 : dk_find (dk_code 85) 94 = some (.iastore, 1, 0, []) := by decide +kernel
theorem cd_85_95 : dk_find (dk_code 85) 95 = some (.aload_n 0, 1, 0, []) := by decide +kernel
theorem cd_85_96 : dk_find (dk_code 85) 96 = some (.getfield 68, 3, 0, []) := by decide +kernel
theorem cd_85_99 : dk_find (dk_code 85) 99 = some (.iload_n 1, 1, 0, []) := by decide +kernel
theorem cd_85_100 : dk_find (dk_code 85) 100 = some (.aload_n 0, 1, 0, []) := by decide +kernel
theorem cd_85_101 : dk_find (dk_code 85) 101 = some (.getfield 80, 3, 0, []) := by decide +kernel
theorem cd_85_104 : dk_find (dk_code 85) 104 = some (.bipush (64), 2, 0, []) := by decide +kernel
theorem cd_85_106 : dk_find (dk_code 85) 106 = some (.iload_n 3, 1, 0, []) := by decide +kernel
theorem cd_85_107 : dk_find (dk_code 85) 107 = some (.imul, 1, 0, []) := by decide +kernel
theorem cd_85_108 : dk_find (dk_code 85) 108 = some (.aload_n 0, 1, 0, []) := by decide +kernel
theorem cd_85_109 : dk_find (dk_code 85) 109 = some (.getfield 59, 3, 0, []) := by decide +kernel
theorem cd_85_112 : dk_find (dk_code 85) 112 = some (.iload_n 1, 1, 0, []) := by decide +kernel
theorem cd_85_113 : dk_find (dk_code 85) 113 = some (.iaload, 1, 0, []) := by decide +kernel
theorem cd_85_114 : dk_find (dk_code 85) 114 = some (.iadd, 1, 0, []) := by decide +kernel
theorem cd_85_115 : dk_find (dk_code 85) 115 = some (.iaload, 1, 0, []) := by decide +kernel
theorem cd_85_116 : dk_find (dk_code 85) 116 = some (.iastore, 1, 0, []) := by decide +kernel
theorem cd_85_117 : dk_find (dk_code 85) 117 = some (.aload_n 0, 1, 0, []) := by decide +kernel
theorem cd_85_118 : dk_find (dk_code 85) 118 = some (.getfield 23, 3, 0, []) := by decide +kernel
theorem cd_85_121 : dk_find (dk_code 85) 121 = some (.iload_n 1, 1, 0, []) := by decide +kernel
theorem cd_85_122 : dk_find (dk_code 85) 122 = some (.iconst 2, 1, 0, []) := by decide +kernel
theorem cd_85_123 : dk_find (dk_code 85) 123 = some (.iastore, 1, 0, []) := by decide +kernel
theorem cd_85_124 : dk_find (dk_code 85) 124 = some (.goto (13), 3, 137, []) := by decide +kernel
theorem cd_85_127 : dk_find (dk_code 85) 127 = some (.aload_n 0, 1, 0, []) := by decide +kernel
theorem cd_85_128 : dk_find (dk_code 85) 128 = some (.getfield 59, 3, 0, []) := by decide +kernel
theorem cd_85_131 : dk_find (dk_code 85) 131 = some (.iload_n 1, 1, 0, []) := by decide +kernel
theorem cd_85_132 : dk_find (dk_code 85) 132 = some (.dup2, 1, 0, []) := by decide +kernel
theorem cd_85_133 : dk_find (dk_code 85) 133 = some (.iaload, 1, 0, []) := by decide +kernel
theorem cd_85_134 : dk_find (dk_code 85) 134 = some (.iconst 1, 1, 0, []) := by decide +kernel
theorem cd_85_135 : dk_find (dk_code 85) 135 = some (.iadd, 1, 0, []) := by decide +kernel
theorem cd_85_136 : dk_find (dk_code 85) 136 = some (.iastore, 1, 0, []) := by decide +kernel
theorem cd_85_137 : dk_find (dk_code 85) 137 = some (.return_, 1, 0, []) := by decide +kernel
theorem cd_85_138 : dk_find (dk_code 85) 138 = some (.aload_n 0, 1, 0, []) := by decide +kernel
theorem cd_85_139 : dk_find (dk_code 85) 139 = some (.getfield 59, 3, 0, []) := by decide +kernel
theorem cd_85_142 : dk_find (dk_code 85) 142 = some (.iload_n 1, 1, 0, []) := by decide +kernel
theorem cd_85_143 : dk_find (dk_code 85) 143 = some (.iconst 0, 1, 0, []) := by decide +kernel
theorem cd_85_144 : dk_find (dk_code 85) 144 = some (.iastore, 1, 0, []) := by decide +kernel
theorem cd_85_145 : dk_find (dk_code 85) 145 = some (.aload_n 0, 1, 0, []) := by decide +kernel
theorem cd_85_146 : dk_find (dk_code 85) 146 = some (.getfield 56, 3, 0, []) := by decide +kernel
theorem cd_85_149 : dk_find (dk_code 85) 149 = some (.iload_n 1, 1, 0, []) := by decide +kernel
theorem cd_85_150 : dk_find (dk_code 85) 150 = some (.aload_n 0, 1, 0, []) := by decide +kernel
theorem cd_85_151 : dk_find (dk_code 85) 151 = some (.iload_n 1, 1, 0, []) := by decide +kernel
theorem cd_85_152 : dk_find (dk_code 85) 152 = some (.aload_n 0, 1, 0, []) := by decide +kernel
theorem cd_85_153 : dk_find (dk_code 85) 153 = some (.getfield 56, 3, 0, []) := by decide +kernel
theorem cd_85_156 : dk_find (dk_code 85) 156 = some (.iload_n 1, 1, 0, []) := by decide +kernel
theorem cd_85_157 : dk_find (dk_code 85) 157 = some (.iaload, 1, 0, []) := by decide +kernel
theorem cd_85_158 : dk_find (dk_code 85) 158 = some (.iconst 1, 1, 0, []) := by decide +kernel
theorem cd_85_159 : dk_find (dk_code 85) 159 = some (.iadd, 1, 0, []) := by decide +kernel
theorem cd_85_160 : dk_find (dk_code 85) 160 = some (.invokevirtual 108, 3, 0, []) := by decide +kernel
theorem cd_85_163 : dk_find (dk_code 85) 163 = some (.iastore, 1, 0, []) := by decide +kernel
theorem cd_85_164 : dk_find (dk_code 85) 164 = some (.aload_n 0, 1, 0, []) := by decide +kernel
theorem cd_85_165 : dk_find (dk_code 85) 165 = some (.getfield 56, 3, 0, []) := by decide +kernel
theorem cd_85_168 : dk_find (dk_code 85) 168 = some (.iload_n 1, 1, 0, []) := by decide +kernel
theorem cd_85_169 : dk_find (dk_code 85) 169 = some (.iaload, 1, 0, []) := by decide +kernel
theorem cd_85_170 : dk_find (dk_code 85) 170 = some (.ifCond .ge (23), 3, 193, []) := by decide +kernel
theorem cd_85_173 : dk_find (dk_code 85) 173 = some (.aload_n 0, 1, 0, []) := by decide +kernel
theorem cd_85_174 : dk_find (dk_code 85) 174 = some (.getfield 62, 3, 0, []) := by decide +kernel
theorem cd_85_177 : dk_find (dk_code 85) 177 = some (.iload_n 1, 1, 0, []) := by decide +kernel
theorem cd_85_178 : dk_find (dk_code 85) 178 = some (.baload, 1, 0, []) := by decide +kernel
theorem cd_85_179 : dk_find (dk_code 85) 179 = some (.ifCond .eq (14), 3, 193, []) := by decide +kernel
theorem cd_85_182 : dk_find (dk_code 85) 182 = some (.aload_n 0, 1, 0, []) := by decide +kernel
theorem cd_85_183 : dk_find (dk_code 85) 183 = some (.getfield 23, 3, 0, []) := by decide +kernel
theorem cd_85_186 : dk_find (dk_code 85) 186 = some (.iload_n 1, 1, 0, []) := by decide +kernel
theorem cd_85_187 : dk_find (dk_code 85) 187 = some (.bipush (7), 2, 0, []) := by decide +kernel
theorem cd_85_189 : dk_find (dk_code 85) 189 = some (.iastore, 1, 0, []) := by decide +kernel
theorem cd_85_190 : dk_find (dk_code 85) 190 = some (.goto (17), 3, 207, []) := by decide +kernel
theorem cd_85_193 : dk_find (dk_code 85) 193 = some (.aload_n 0, 1, 0, []) := by decide +kernel
theorem cd_85_194 : dk_find (dk_code 85) 194 = some (.getfield 56, 3, 0, []) := by decide +kernel
theorem cd_85_197 : dk_find (dk_code 85) 197 = some (.iload_n 1, 1, 0, []) := by decide +kernel
theorem cd_85_198 : dk_find (dk_code 85) 198 = some (.iaload, 1, 0, []) := by decide +kernel
theorem cd_85_199 : dk_find (dk_code 85) 199 = some (.ifCond .ge (8), 3, 207, []) := by decide +kernel
theorem cd_85_202 : dk_find (dk_code 85) 202 = some (.aload_n 0, 1, 0, []) := by decide +kernel
theorem cd_85_203 : dk_find (dk_code 85) 203 = some (.iload_n 1, 1, 0, []) := by decide +kernel
theorem cd_85_204 : dk_find (dk_code 85) 204 = some (.invokevirtual 112, 3, 0, []) := by decide +kernel
theorem cd_85_207 : dk_find (dk_code 85) 207 = some (.return_, 1, 0, []) := by decide +kernel
theorem cd_86_0 : dk_find (dk_code 86) 0 = some (.iload_n 1, 1, 0, []) := by decide +kernel
theorem cd_86_1 : dk_find (dk_code 86) 1 = some (.aload_n 0, 1, 0, []) := by decide +kernel
theorem cd_86_2 : dk_find (dk_code 86) 2 = some (.getfield 65, 3, 0, []) := by decide +kernel
theorem cd_86_5 : dk_find (dk_code 86) 5 = some (.iload_n 1, 1, 0, []) := by decide +kernel
theorem cd_86_6 : dk_find (dk_code 86) 6 = some (.iaload, 1, 0, []) := by decide +kernel
theorem cd_86_7 : dk_find (dk_code 86) 7 = some (.if_icmp .ge (7), 3, 14, []) := by decide +kernel
theorem cd_86_10 : dk_find (dk_code 86) 10 = some (.iload_n 1, 1, 0, []) := by decide +kernel
theorem cd_86_11 : dk_find (dk_code 86) 11 = some (.goto (9), 3, 20, []) := by decide +kernel
theorem cd_86_14 : dk_find (dk_code 86) 14 = some (.aload_n 0, 1, 0, []) := by decide +kernel
theorem cd_86_15 : dk_find (dk_code 86) 15 = some (.getfield 65, 3, 0, []) := by decide +kernel
theorem cd_86_18 : dk_find (dk_code 86) 18 = some (.iload_n 1, 1, 0, []) := by decide +kernel
theorem cd_86_19 : dk_find (dk_code 86) 19 = some (.iaload, 1, 0, []) := by decide +kernel
theorem cd_86_20 : dk_find (dk_code 86) 20 = some (.ireturn, 1, 0, []) := by decide +kernel
theorem cd_87_0 : dk_find (dk_code 87) 0 = some (.iload_n 2, 1, 0, []) := by decide +kernel
theorem cd_87_1 : dk_find (dk_code 87) 1 = some (.iload_n 1, 1, 0, []) := by decide +kernel
theorem cd_87_2 : dk_find (dk_code 87) 2 = some (.if_icmp .eq (18), 3, 20, []) := by decide +kernel
theorem cd_87_5 : dk_find (dk_code 87) 5 = some (.aload_n 0, 1, 0, []) := by decide +kernel
theorem cd_87_6 : dk_find (dk_code 87) 6 = some (.getfield 17, 3, 0, []) := by decide +kernel
theorem cd_87_9 : dk_find (dk_code 87) 9 = some (.iload_n 2, 1, 0, []) := by decide +kernel
theorem cd_87_10 : dk_find (dk_code 87) 10 = some (.iaload, 1, 0, []) := by decide +kernel
theorem cd_87_11 : dk_find (dk_code 87) 11 = some (.aload_n 0, 1, 0, []) := by decide +kernel
theorem cd_87_12 : dk_find (dk_code 87) 12 = some (.getfield 68, 3, 0, []) := by decide +kernel
theorem cd_87_15 : dk_find (dk_code 87) 15 = some (.iload_n 1, 1, 0, []) := by decide +kernel
theorem cd_87_16 : dk_find (dk_code 87) 16 = some (.iaload, 1, 0, []) := by decide +kernel
theorem cd_87_17 : dk_find (dk_code 87) 17 = some (.if_icmp .ne (7), 3, 24, []) := by decide +kernel
theorem cd_87_20 : dk_find (dk_code 87) 20 = some (.iconst 1, 1, 0, []) := by decide +kernel
theorem cd_87_21 : dk_find (dk_code 87) 21 = some (.goto (4), 3, 25, []) := by decide +kernel
theorem cd_87_24 : dk_find (dk_code 87) 24 = some (.iconst 0, 1, 0, []) := by decide +kernel
theorem cd_87_25 : dk_find (dk_code 87) 25 = some (.istore_n 3, 1, 0, []) := by decide +kernel
theorem cd_87_26 : dk_find (dk_code 87) 26 = some (.iload_n 3, 1, 0, []) := by decide +kernel
theorem cd_87_27 : dk_find (dk_code 87) 27 = some (.ifCond .eq (29), 3, 56, []) := by decide +kernel
theorem cd_87_30 : dk_find (dk_code 87) 30 = some (.aload_n 0, 1, 0, []) := by decide +kernel
theorem cd_87_31 : dk_find (dk_code 87) 31 = some (.getfield 13, 3, 0, []) := by decide +kernel
theorem cd_87_34 : dk_find (dk_code 87) 34 = some (.iload_n 2, 1, 0, []) := by decide +kernel
theorem cd_87_35 : dk_find (dk_code 87) 35 = some (.iaload, 1, 0, []) := by decide +kernel
theorem cd_87_36 : dk_find (dk_code 87) 36 = some (.iconst 1, 1, 0, []) := by decide +kernel
theorem cd_87_37 : dk_find (dk_code 87) 37 = some (.if_icmp .ne (19), 3, 56, []) := by decide +kernel
theorem cd_87_40 : dk_find (dk_code 87) 40 = some (.aload_n 0, 1, 0, []) := by decide +kernel
theorem cd_87_41 : dk_find (dk_code 87) 41 = some (.getfield 13, 3, 0, []) := by decide +kernel
theorem cd_87_44 : dk_find (dk_code 87) 44 = some (.iload_n 2, 1, 0, []) := by decide +kernel
theorem cd_87_45 : dk_find (dk_code 87) 45 = some (.iconst 2, 1, 0, []) := by decide +kernel
theorem cd_87_46 : dk_find (dk_code 87) 46 = some (.iastore, 1, 0, []) := by decide +kernel
theorem cd_87_47 : dk_find (dk_code 87) 47 = some (.aload_n 0, 1, 0, []) := by decide +kernel
theorem cd_87_48 : dk_find (dk_code 87) 48 = some (.getfield 20, 3, 0, []) := by decide +kernel
theorem cd_87_51 : dk_find (dk_code 87) 51 = some (.iload_n 2, 1, 0, []) := by decide +kernel
theorem cd_87_52 : dk_find (dk_code 87) 52 = some (.iload_n 1, 1, 0, []) := by decide +kernel
theorem cd_87_53 : dk_find (dk_code 87) 53 = some (.iastore, 1, 0, []) := by decide +kernel
theorem cd_87_54 : dk_find (dk_code 87) 54 = some (.iconst 1, 1, 0, []) := by decide +kernel
theorem cd_87_55 : dk_find (dk_code 87) 55 = some (.ireturn, 1, 0, []) := by decide +kernel
theorem cd_87_56 : dk_find (dk_code 87) 56 = some (.iload_n 3, 1, 0, []) := by decide +kernel
theorem cd_87_57 : dk_find (dk_code 87) 57 = some (.ifCond .eq (20), 3, 77, []) := by decide +kernel
theorem cd_87_60 : dk_find (dk_code 87) 60 = some (.aload_n 0, 1, 0, []) := by decide +kernel
theorem cd_87_61 : dk_find (dk_code 87) 61 = some (.getfield 13, 3, 0, []) := by decide +kernel
theorem cd_87_64 : dk_find (dk_code 87) 64 = some (.iload_n 2, 1, 0, []) := by decide +kernel
theorem cd_87_65 : dk_find (dk_code 87) 65 = some (.iaload, 1, 0, []) := by decide +kernel
theorem cd_87_66 : dk_find (dk_code 87) 66 = some (.iconst 2, 1, 0, []) := by decide +kernel
theorem cd_87_67 : dk_find (dk_code 87) 67 = some (.if_icmp .ne (10), 3, 77, []) := by decide +kernel
theorem cd_87_70 : dk_find (dk_code 87) 70 = some (.aload_n 0, 1, 0, []) := by decide +kernel
theorem cd_87_71 : dk_find (dk_code 87) 71 = some (.getfield 62, 3, 0, []) := by decide +kernel
theorem cd_87_74 : dk_find (dk_code 87) 74 = some (.iload_n 1, 1, 0, []) := by decide +kernel
theorem cd_87_75 : dk_find (dk_code 87) 75 = some (.iconst 0, 1, 0, []) := by decide +kernel
theorem cd_87_76 : dk_find (dk_code 87) 76 = some (.bastore, 1, 0, []) := by decide +kernel
theorem cd_87_77 : dk_find (dk_code 87) 77 = some (.iconst 0, 1, 0, []) := by decide +kernel
theorem cd_87_78 : dk_find (dk_code 87) 78 = some (.ireturn, 1, 0, []) := by decide +kernel
theorem cd_88_0 : dk_find (dk_code 88) 0 = some (.aload_n 0, 1, 0, []) := by decide +kernel
theorem cd_88_1 : dk_find (dk_code 88) 1 = some (.getfield 23, 3, 0, []) := by decide +kernel
theorem cd_88_4 : dk_find (dk_code 88) 4 = some (.iload_n 1, 1, 0, []) := by decide +kernel
theorem cd_88_5 : dk_find (dk_code 88) 5 = some (.iconst 1, 1, 0, []) := by decide +kernel
theorem cd_88_6 : dk_find (dk_code 88) 6 = some (.iastore, 1, 0, []) := by decide +kernel
theorem cd_88_7 : dk_find (dk_code 88) 7 = some (.aload_n 0, 1, 0, []) := by decide +kernel
theorem cd_88_8 : dk_find (dk_code 88) 8 = some (.getfield 59, 3, 0, []) := by decide +kernel
theorem cd_88_11 : dk_find (dk_code 88) 11 = some (.iload_n 1, 1, 0, []) := by decide +kernel
theorem cd_88_12 : dk_find (dk_code 88) 12 = some (.dup2, 1, 0, []) := by decide +kernel
theorem cd_88_13 : dk_find (dk_code 88) 13 = some (.iaload, 1, 0, []) := by decide +kernel
theorem cd_88_14 : dk_find (dk_code 88) 14 = some (.iconst 1, 1, 0, []) := by decide +kernel
theorem cd_88_15 : dk_find (dk_code 88) 15 = some (.iadd, 1, 0, []) := by decide +kernel
theorem cd_88_16 : dk_find (dk_code 88) 16 = some (.iastore, 1, 0, []) := by decide +kernel
theorem cd_88_17 : dk_find (dk_code 88) 17 = some (.return_, 1, 0, []) := by decide +kernel
theorem cd_89_0 : dk_find (dk_code 89) 0 = some (.iload_n 1, 1, 0, []) := by decide +kernel
theorem cd_89_1 : dk_find (dk_code 89) 1 = some (.aload_n 0, 1, 0, []) := by decide +kernel
theorem cd_89_2 : dk_find (dk_code 89) 2 = some (.getfield 65, 3, 0, []) := by decide +kernel
theorem cd_89_5 : dk_find (dk_code 89) 5 = some (.iload_n 1, 1, 0, []) := by decide +kernel
theorem cd_89_6 : dk_find (dk_code 89) 6 = some (.iaload, 1, 0, []) := by decide +kernel
theorem cd_89_7 : dk_find (dk_code 89) 7 = some (.if_icmp .ge (12), 3, 19, []) := by decide +kernel
theorem cd_89_10 : dk_find (dk_code 89) 10 = some (.aload_n 0, 1, 0, []) := by decide +kernel
theorem cd_89_11 : dk_find (dk_code 89) 11 = some (.getfield 65, 3, 0, []) := by decide +kernel
theorem cd_89_14 : dk_find (dk_code 89) 14 = some (.iload_n 1, 1, 0, []) := by decide +kernel
theorem cd_89_15 : dk_find (dk_code 89) 15 = some (.iaload, 1, 0, []) := by decide +kernel
theorem cd_89_16 : dk_find (dk_code 89) 16 = some (.goto (4), 3, 20, []) := by decide +kernel
theorem cd_89_19 : dk_find (dk_code 89) 19 = some (.iload_n 1, 1, 0, []) := by decide +kernel
theorem cd_89_20 : dk_find (dk_code 89) 20 = some (.ireturn, 1, 0, []) := by decide +kernel
theorem cd_90_0 : dk_find (dk_code 90) 0 = some (.aload_n 0, 1, 0, []) := by decide +kernel
theorem cd_90_1 : dk_find (dk_code 90) 1 = some (.getfield 13, 3, 0, []) := by decide +kernel
theorem cd_90_4 : dk_find (dk_code 90) 4 = some (.iload_n 1, 1, 0, []) := by decide +kernel
theorem cd_90_5 : dk_find (dk_code 90) 5 = some (.iconst 3, 1, 0, []) := by decide +kernel
theorem cd_90_6 : dk_find (dk_code 90) 6 = some (.iastore, 1, 0, []) := by decide +kernel
theorem cd_90_7 : dk_find (dk_code 90) 7 = some (.aload_n 0, 1, 0, []) := by decide +kernel
theorem cd_90_8 : dk_find (dk_code 90) 8 = some (.getfield 20, 3, 0, []) := by decide +kernel
theorem cd_90_11 : dk_find (dk_code 90) 11 = some (.iload_n 1, 1, 0, []) := by decide +kernel
theorem cd_90_12 : dk_find (dk_code 90) 12 = some (.iconst (-1), 1, 0, []) := by decide +kernel
theorem cd_90_13 : dk_find (dk_code 90) 13 = some (.iastore, 1, 0, []) := by decide +kernel
theorem cd_90_14 : dk_find (dk_code 90) 14 = some (.aload_n 0, 1, 0, []) := by decide +kernel
theorem cd_90_15 : dk_find (dk_code 90) 15 = some (.getfield 26, 3, 0, []) := by decide +kernel
theorem cd_90_18 : dk_find (dk_code 90) 18 = some (.iload_n 1, 1, 0, []) := by decide +kernel
theorem cd_90_19 : dk_find (dk_code 90) 19 = some (.iload_n 2, 1, 0, []) := by decide +kernel
theorem cd_90_20 : dk_find (dk_code 90) 20 = some (.iastore, 1, 0, []) := by decide +kernel
theorem cd_90_21 : dk_find (dk_code 90) 21 = some (.aload_n 0, 1, 0, []) := by decide +kernel
theorem cd_90_22 : dk_find (dk_code 90) 22 = some (.getfield 29, 3, 0, []) := by decide +kernel
theorem cd_90_25 : dk_find (dk_code 90) 25 = some (.iload_n 1, 1, 0, []) := by decide +kernel
theorem cd_90_26 : dk_find (dk_code 90) 26 = some (.iload_n 3, 1, 0, []) := by decide +kernel
theorem cd_90_27 : dk_find (dk_code 90) 27 = some (.iastore, 1, 0, []) := by decide +kernel
theorem cd_90_28 : dk_find (dk_code 90) 28 = some (.return_, 1, 0, []) := by decide +kernel
theorem cd_91_0 : dk_find (dk_code 91) 0 = some (.iconst 4, 1, 0, []) := by decide +kernel
theorem cd_91_1 : dk_find (dk_code 91) 1 = some (.iload_n 1, 1, 0, []) := by decide +kernel
theorem cd_91_2 : dk_find (dk_code 91) 2 = some (.imul, 1, 0, []) := by decide +kernel
theorem cd_91_3 : dk_find (dk_code 91) 3 = some (.aload_n 0, 1, 0, []) := by decide +kernel
theorem cd_91_4 : dk_find (dk_code 91) 4 = some (.getfield 56, 3, 0, []) := by decide +kernel
theorem cd_91_7 : dk_find (dk_code 91) 7 = some (.iload_n 1, 1, 0, []) := by decide +kernel
theorem cd_91_8 : dk_find (dk_code 91) 8 = some (.iaload, 1, 0, []) := by decide +kernel
theorem cd_91_9 : dk_find (dk_code 91) 9 = some (.iadd, 1, 0, []) := by decide +kernel
theorem cd_91_10 : dk_find (dk_code 91) 10 = some (.istore_n 2, 1, 0, []) := by decide +kernel
theorem cd_91_11 : dk_find (dk_code 91) 11 = some (.iconst 4, 1, 0, []) := by decide +kernel
theorem cd_91_12 : dk_find (dk_code 91) 12 = some (.aload_n 0, 1, 0, []) := by decide +kernel
theorem cd_91_13 : dk_find (dk_code 91) 13 = some (.getfield 65, 3, 0, []) := by decide +kernel
theorem cd_91_16 : dk_find (dk_code 91) 16 = some (.iload_n 1, 1, 0, []) := by decide +kernel
theorem cd_91_17 : dk_find (dk_code 91) 17 = some (.iaload, 1, 0, []) := by decide +kernel
theorem cd_91_18 : dk_find (dk_code 91) 18 = some (.imul, 1, 0, []) := by decide +kernel
theorem cd_91_19 : dk_find (dk_code 91) 19 = some (.aload_n 0, 1, 0, []) := by decide +kernel
theorem cd_91_20 : dk_find (dk_code 91) 20 = some (.getfield 71, 3, 0, []) := by decide +kernel
theorem cd_91_23 : dk_find (dk_code 91) 23 = some (.iload_n 1, 1, 0, []) := by decide +kernel
theorem cd_91_24 : dk_find (dk_code 91) 24 = some (.iaload, 1, 0, []) := by decide +kernel
theorem cd_91_25 : dk_find (dk_code 91) 25 = some (.iadd, 1, 0, []) := by decide +kernel
theorem cd_91_26 : dk_find (dk_code 91) 26 = some (.istore_n 3, 1, 0, []) := by decide +kernel
theorem cd_91_27 : dk_find (dk_code 91) 27 = some (.aload_n 0, 1, 0, []) := by decide +kernel
theorem cd_91_28 : dk_find (dk_code 91) 28 = some (.getfield 38, 3, 0, []) := by decide +kernel
theorem cd_91_31 : dk_find (dk_code 91) 31 = some (.iload_n 2, 1, 0, []) := by decide +kernel
theorem cd_91_32 : dk_find (dk_code 91) 32 = some (.iaload, 1, 0, []) := by decide +kernel
theorem cd_91_33 : dk_find (dk_code 91) 33 = some (.iconst 1, 1, 0, []) := by decide +kernel
theorem cd_91_34 : dk_find (dk_code 91) 34 = some (.if_icmp .ne (7), 3, 41, []) := by decide +kernel
theorem cd_91_37 : dk_find (dk_code 91) 37 = some (.iload_n 2, 1, 0, []) := by decide +kernel
theorem cd_91_38 : dk_find (dk_code 91) 38 = some (.goto (4), 3, 42, []) := by decide +kernel
theorem cd_91_41 : dk_find (dk_code 91) 41 = some (.iload_n 3, 1, 0, []) := by decide +kernel
theorem cd_91_42 : dk_find (dk_code 91) 42 = some (.istore 4, 2, 0, []) := by decide +kernel
theorem cd_91_44 : dk_find (dk_code 91) 44 = some (.aload_n 0, 1, 0, []) := by decide +kernel
theorem cd_91_45 : dk_find (dk_code 91) 45 = some (.getfield 83, 3, 0, []) := by decide +kernel
theorem cd_91_48 : dk_find (dk_code 91) 48 = some (.iconst 5, 1, 0, []) := by decide +kernel
theorem cd_91_49 : dk_find (dk_code 91) 49 = some (.aload_n 0, 1, 0, []) := by decide +kernel
theorem cd_91_50 : dk_find (dk_code 91) 50 = some (.getfield 116, 3, 0, []) := by decide +kernel
theorem cd_91_53 : dk_find (dk_code 91) 53 = some (.imul, 1, 0, []) := by decide +kernel
theorem cd_91_54 : dk_find (dk_code 91) 54 = some (.iload_n 1, 1, 0, []) := by decide +kernel
theorem cd_91_55 : dk_find (dk_code 91) 55 = some (.iastore, 1, 0, []) := by decide +kernel
theorem cd_91_56 : dk_find (dk_code 91) 56 = some (.aload_n 0, 1, 0, []) := by decide +kernel
theorem cd_91_57 : dk_find (dk_code 91) 57 = some (.getfield 83, 3, 0, []) := by decide +kernel
theorem cd_91_60 : dk_find (dk_code 91) 60 = some (.iconst 5, 1, 0, []) := by decide +kernel
theorem cd_91_61 : dk_find (dk_code 91) 61 = some (.aload_n 0, 1, 0, []) := by decide +kernel
theorem cd_91_62 : dk_find (dk_code 91) 62 = some (.getfield 116, 3, 0, []) := by decide +kernel
theorem cd_91_65 : dk_find (dk_code 91) 65 = some (.imul, 1, 0, []) := by decide +kernel
theorem cd_91_66 : dk_find (dk_code 91) 66 = some (.iconst 1, 1, 0, []) := by decide +kernel
theorem cd_91_67 : dk_find (dk_code 91) 67 = some (.iadd, 1, 0, []) := by decide +kernel
theorem cd_91_68 : dk_find (dk_code 91) 68 = some (.aload_n 0, 1, 0, []) := by decide +kernel
theorem cd_91_69 : dk_find (dk_code 91) 69 = some (.getfield 65, 3, 0, []) := by decide +kernel
theorem cd_91_72 : dk_find (dk_code 91) 72 = some (.iload_n 1, 1, 0, []) := by decide +kernel
theorem cd_91_73 : dk_find (dk_code 91) 73 = some (.iaload, 1, 0, []) := by decide +kernel
theorem cd_91_74 : dk_find (dk_code 91) 74 = some (.iastore, 1, 0, []) := by decide +kernel
theorem cd_91_75 : dk_find (dk_code 91) 75 = some (.aload_n 0, 1, 0, []) := by decide +kernel
theorem cd_91_76 : dk_find (dk_code 91) 76 = some (.getfield 83, 3, 0, []) := by decide +kernel
theorem cd_91_79 : dk_find (dk_code 91) 79 = some (.iconst 5, 1, 0, []) := by decide +kernel
theorem cd_91_80 : dk_find (dk_code 91) 80 = some (.aload_n 0, 1, 0, []) := by decide +kernel
theorem cd_91_81 : dk_find (dk_code 91) 81 = some (.getfield 116, 3, 0, []) := by decide +kernel
theorem cd_91_84 : dk_find (dk_code 91) 84 = some (.imul, 1, 0, []) := by decide +kernel
theorem cd_91_85 : dk_find (dk_code 91) 85 = some (.iconst 2, 1, 0, []) := by decide +kernel
theorem cd_91_86 : dk_find (dk_code 91) 86 = some (.iadd, 1, 0, []) := by decide +kernel
theorem cd_91_87 : dk_find (dk_code 91) 87 = some (.aload_n 0, 1, 0, []) := by decide +kernel
theorem cd_91_88 : dk_find (dk_code 91) 88 = some (.getfield 41, 3, 0, []) := by decide +kernel
theorem cd_91_91 : dk_find (dk_code 91) 91 = some (.iload_n 2, 1, 0, []) := by decide +kernel
theorem cd_91_92 : dk_find (dk_code 91) 92 = some (.iaload, 1, 0, []) := by decide +kernel
theorem cd_91_93 : dk_find (dk_code 91) 93 = some (.iastore, 1, 0, []) := by decide +kernel
theorem cd_91_94 : dk_find (dk_code 91) 94 = some (.aload_n 0, 1, 0, []) := by decide +kernel
theorem cd_91_95 : dk_find (dk_code 91) 95 = some (.getfield 83, 3, 0, []) := by decide +kernel
theorem cd_91_98 : dk_find (dk_code 91) 98 = some (.iconst 5, 1, 0, []) := by decide +kernel
theorem cd_91_99 : dk_find (dk_code 91) 99 = some (.aload_n 0, 1, 0, []) := by decide +kernel
theorem cd_91_100 : dk_find (dk_code 91) 100 = some (.getfield 116, 3, 0, []) := by decide +kernel
theorem cd_91_103 : dk_find (dk_code 91) 103 = some (.imul, 1, 0, []) := by decide +kernel
theorem cd_91_104 : dk_find (dk_code 91) 104 = some (.iconst 3, 1, 0, []) := by decide +kernel
theorem cd_91_105 : dk_find (dk_code 91) 105 = some (.iadd, 1, 0, []) := by decide +kernel
theorem cd_91_106 : dk_find (dk_code 91) 106 = some (.iload 4, 2, 0, []) := by decide +kernel
theorem cd_91_108 : dk_find (dk_code 91) 108 = some (.iconst 4, 1, 0, []) := by decide +kernel
theorem cd_91_109 : dk_find (dk_code 91) 109 = some (.idiv, 1, 0, []) := by decide +kernel
theorem cd_91_110 : dk_find (dk_code 91) 110 = some (.iastore, 1, 0, []) := by decide +kernel
theorem cd_91_111 : dk_find (dk_code 91) 111 = some (.aload_n 0, 1, 0, []) := by decide +kernel
theorem cd_91_112 : dk_find (dk_code 91) 112 = some (.getfield 83, 3, 0, []) := by decide +kernel
theorem cd_91_115 : dk_find (dk_code 91) 115 = some (.iconst 5, 1, 0, []) := by decide +kernel
theorem cd_91_116 : dk_find (dk_code 91) 116 = some (.aload_n 0, 1, 0, []) := by decide +kernel
theorem cd_91_117 : dk_find (dk_code 91) 117 = some (.getfield 116, 3, 0, []) := by decide +kernel
theorem cd_91_120 : dk_find (dk_code 91) 120 = some (.imul, 1, 0, []) := by decide +kernel
theorem cd_91_121 : dk_find (dk_code 91) 121 = some (.iconst 4, 1, 0, []) := by decide +kernel
theorem cd_91_122 : dk_find (dk_code 91) 122 = some (.iadd, 1, 0, []) := by decide +kernel
theorem cd_91_123 : dk_find (dk_code 91) 123 = some (.aload_n 0, 1, 0, []) := by decide +kernel
theorem cd_91_124 : dk_find (dk_code 91) 124 = some (.getfield 44, 3, 0, []) := by decide +kernel
theorem cd_91_127 : dk_find (dk_code 91) 127 = some (.iload 4, 2, 0, []) := by decide +kernel
theorem cd_91_129 : dk_find (dk_code 91) 129 = some (.iaload, 1, 0, []) := by decide +kernel
theorem cd_91_130 : dk_find (dk_code 91) 130 = some (.iastore, 1, 0, []) := by decide +kernel
theorem cd_91_131 : dk_find (dk_code 91) 131 = some (.aload_n 0, 1, 0, []) := by decide +kernel
theorem cd_91_132 : dk_find (dk_code 91) 132 = some (.getfield 32, 3, 0, []) := by decide +kernel
theorem cd_91_135 : dk_find (dk_code 91) 135 = some (.iload_n 1, 1, 0, []) := by decide +kernel
theorem cd_91_136 : dk_find (dk_code 91) 136 = some (.iload 4, 2, 0, []) := by decide +kernel
theorem cd_91_138 : dk_find (dk_code 91) 138 = some (.iload_n 2, 1, 0, []) := by decide +kernel
theorem cd_91_139 : dk_find (dk_code 91) 139 = some (.if_icmp .ne (7), 3, 146, []) := by decide +kernel
theorem cd_91_142 : dk_find (dk_code 91) 142 = some (.iconst 0, 1, 0, []) := by decide +kernel
theorem cd_91_143 : dk_find (dk_code 91) 143 = some (.goto (10), 3, 153, []) := by decide +kernel
theorem cd_91_146 : dk_find (dk_code 91) 146 = some (.aload_n 0, 1, 0, []) := by decide +kernel
theorem cd_91_147 : dk_find (dk_code 91) 147 = some (.getfield 44, 3, 0, []) := by decide +kernel
theorem cd_91_150 : dk_find (dk_code 91) 150 = some (.iload 4, 2, 0, []) := by decide +kernel
theorem cd_91_152 : dk_find (dk_code 91) 152 = some (.iaload, 1, 0, []) := by decide +kernel
theorem cd_91_153 : dk_find (dk_code 91) 153 = some (.iastore, 1, 0, []) := by decide +kernel
theorem cd_91_154 : dk_find (dk_code 91) 154 = some (.aload_n 0, 1, 0, []) := by decide +kernel
theorem cd_91_155 : dk_find (dk_code 91) 155 = some (.getfield 32, 3, 0, []) := by decide +kernel
theorem cd_91_158 : dk_find (dk_code 91) 158 = some (.aload_n 0, 1, 0, []) := by decide +kernel
theorem cd_91_159 : dk_find (dk_code 91) 159 = some (.getfield 65, 3, 0, []) := by decide +kernel
theorem cd_91_162 : dk_find (dk_code 91) 162 = some (.iload_n 1, 1, 0, []) := by decide +kernel
theorem cd_91_163 : dk_find (dk_code 91) 163 = some (.iaload, 1, 0, []) := by decide +kernel
theorem cd_91_164 : dk_find (dk_code 91) 164 = some (.iload 4, 2, 0, []) := by decide +kernel
theorem cd_91_166 : dk_find (dk_code 91) 166 = some (.iload_n 2, 1, 0, []) := by decide +kernel
theorem cd_91_167 : dk_find (dk_code 91) 167 = some (.if_icmp .ne (13), 3, 180, []) := by decide +kernel
theorem cd_91_170 : dk_find (dk_code 91) 170 = some (.aload_n 0, 1, 0, []) := by decide +kernel
theorem cd_91_171 : dk_find (dk_code 91) 171 = some (.getfield 44, 3, 0, []) := by decide +kernel
theorem cd_91_174 : dk_find (dk_code 91) 174 = some (.iload 4, 2, 0, []) := by decide +kernel
theorem cd_91_176 : dk_find (dk_code 91) 176 = some (.iaload, 1, 0, []) := by decide +kernel
theorem cd_91_177 : dk_find (dk_code 91) 177 = some (.goto (4), 3, 181, []) := by decide +kernel
theorem cd_91_180 : dk_find (dk_code 91) 180 = some (.iconst 0, 1, 0, []) := by decide +kernel
theorem cd_91_181 : dk_find (dk_code 91) 181 = some (.iastore, 1, 0, []) := by decide +kernel
theorem cd_91_182 : dk_find (dk_code 91) 182 = some (.aload_n 0, 1, 0, []) := by decide +kernel
theorem cd_91_183 : dk_find (dk_code 91) 183 = some (.dup, 1, 0, []) := by decide +kernel
theorem cd_91_184 : dk_find (dk_code 91) 184 = some (.getfield 116, 3, 0, []) := by decide +kernel
theorem cd_91_187 : dk_find (dk_code 91) 187 = some (.iconst 1, 1, 0, []) := by decide +kernel
theorem cd_91_188 : dk_find (dk_code 91) 188 = some (.iadd, 1, 0, []) := by decide +kernel
theorem cd_91_189 : dk_find (dk_code 91) 189 = some (.putfield 116, 3, 0, []) := by decide +kernel
theorem cd_91_192 : dk_find (dk_code 91) 192 = some (.return_, 1, 0, []) := by decide +kernel
theorem cd_92_0 : dk_find (dk_code 92) 0 = some (.aload_n 0, 1, 0, []) := by decide +kernel
theorem cd_92_1 : dk_find (dk_code 92) 1 = some (.getfield 23, 3, 0, []) := by decide +kernel
theorem cd_92_4 : dk_find (dk_code 92) 4 = some (.iload_n 1, 1, 0, []) := by decide +kernel
theorem cd_92_5 : dk_find (dk_code 92) 5 = some (.iaload, 1, 0, []) := by decide +kernel
theorem cd_92_6 : dk_find (dk_code 92) 6 = some (.istore_n 2, 1, 0, []) := by decide +kernel
theorem cd_92_7 : dk_find (dk_code 92) 7 = some (.iload_n 2, 1, 0, []) := by decide +kernel
theorem cd_92_8 : dk_find (dk_code 92) 8 = some (.ifCond .ne (11), 3, 19, []) := by decide +kernel
theorem cd_92_11 : dk_find (dk_code 92) 11 = some (.aload_n 0, 1, 0, []) := by decide +kernel
theorem cd_92_12 : dk_find (dk_code 92) 12 = some (.iload_n 1, 1, 0, []) := by decide +kernel
theorem cd_92_13 : dk_find (dk_code 92) 13 = some (.invokevirtual 119, 3, 0, []) := by decide +kernel
theorem cd_92_16 : dk_find (dk_code 92) 16 = some (.goto (188), 3, 204, []) := by decide +kernel
theorem cd_92_19 : dk_find (dk_code 92) 19 = some (.iload_n 2, 1, 0, []) := by decide +kernel
theorem cd_92_20 : dk_find (dk_code 92) 20 = some (.iconst 1, 1, 0, []) := by decide +kernel
theorem cd_92_21 : dk_find (dk_code 92) 21 = some (.if_icmp .ne (11), 3, 32, []) := by decide +kernel
theorem cd_92_24 : dk_find (dk_code 92) 24 = some (.aload_n 0, 1, 0, []) := by decide +kernel
theorem cd_92_25 : dk_find (dk_code 92) 25 = some (.iload_n 1, 1, 0, []) := by decide +kernel
theorem cd_92_26 : dk_find (dk_code 92) 26 = some (.invokevirtual 122, 3, 0, []) := by decide +kernel
theorem cd_92_29 : dk_find (dk_code 92) 29 = some (.goto (175), 3, 204, []) := by decide +kernel
theorem cd_92_32 : dk_find (dk_code 92) 32 = some (.iload_n 2, 1, 0, []) := by decide +kernel
theorem cd_92_33 : dk_find (dk_code 92) 33 = some (.iconst 2, 1, 0, []) := by decide +kernel
theorem cd_92_34 : dk_find (dk_code 92) 34 = some (.if_icmp .ne (34), 3, 68, []) := by decide +kernel
theorem cd_92_37 : dk_find (dk_code 92) 37 = some (.aload_n 0, 1, 0, []) := by decide +kernel
theorem cd_92_38 : dk_find (dk_code 92) 38 = some (.iload_n 1, 1, 0, []) := by decide +kernel
theorem cd_92_39 : dk_find (dk_code 92) 39 = some (.aload_n 0, 1, 0, []) := by decide +kernel
theorem cd_92_40 : dk_find (dk_code 92) 40 = some (.iload_n 1, 1, 0, []) := by decide +kernel
theorem cd_92_41 : dk_find (dk_code 92) 41 = some (.invokevirtual 125, 3, 0, []) := by decide +kernel
theorem cd_92_44 : dk_find (dk_code 92) 44 = some (.invokevirtual 128, 3, 0, []) := by decide +kernel
theorem cd_92_47 : dk_find (dk_code 92) 47 = some (.ifCond .eq (13), 3, 60, []) := by decide +kernel
theorem cd_92_50 : dk_find (dk_code 92) 50 = some (.aload_n 0, 1, 0, []) := by decide +kernel
theorem cd_92_51 : dk_find (dk_code 92) 51 = some (.getfield 23, 3, 0, []) := by decide +kernel
theorem cd_92_54 : dk_find (dk_code 92) 54 = some (.iload_n 1, 1, 0, []) := by decide +kernel
theorem cd_92_55 : dk_find (dk_code 92) 55 = some (.iconst 3, 1, 0, []) := by decide +kernel
theorem cd_92_56 : dk_find (dk_code 92) 56 = some (.iastore, 1, 0, []) := by decide +kernel
theorem cd_92_57 : dk_find (dk_code 92) 57 = some (.goto (147), 3, 204, []) := by decide +kernel
theorem cd_92_60 : dk_find (dk_code 92) 60 = some (.aload_n 0, 1, 0, []) := by decide +kernel
theorem cd_92_61 : dk_find (dk_code 92) 61 = some (.iload_n 1, 1, 0, []) := by decide +kernel
theorem cd_92_62 : dk_find (dk_code 92) 62 = some (.invokevirtual 132, 3, 0, []) := by decide +kernel
theorem cd_92_65 : dk_find (dk_code 92) 65 = some (.goto (139), 3, 204, []) := by decide +kernel
theorem cd_92_68 : dk_find (dk_code 92) 68 = some (.iload_n 2, 1, 0, []) := by decide +kernel
theorem cd_92_69 : dk_find (dk_code 92) 69 = some (.iconst 3, 1, 0, []) := by decide +kernel
theorem cd_92_70 : dk_find (dk_code 92) 70 = some (.if_icmp .ne (30), 3, 100, []) := by decide +kernel
theorem cd_92_73 : dk_find (dk_code 92) 73 = some (.aload_n 0, 1, 0, []) := by decide +kernel
theorem cd_92_74 : dk_find (dk_code 92) 74 = some (.getfield 23, 3, 0, []) := by decide +kernel
theorem cd_92_77 : dk_find (dk_code 92) 77 = some (.iload_n 1, 1, 0, []) := by decide +kernel
theorem cd_92_78 : dk_find (dk_code 92) 78 = some (.aload_n 0, 1, 0, []) := by decide +kernel
theorem cd_92_79 : dk_find (dk_code 92) 79 = some (.iload_n 1, 1, 0, []) := by decide +kernel
theorem cd_92_80 : dk_find (dk_code 92) 80 = some (.aload_n 0, 1, 0, []) := by decide +kernel
theorem cd_92_81 : dk_find (dk_code 92) 81 = some (.iload_n 1, 1, 0, []) := by decide +kernel
theorem cd_92_82 : dk_find (dk_code 92) 82 = some (.invokevirtual 135, 3, 0, []) := by decide +kernel
theorem cd_92_85 : dk_find (dk_code 92) 85 = some (.invokevirtual 128, 3, 0, []) := by decide +kernel
theorem cd_92_88 : dk_find (dk_code 92) 88 = some (.ifCond .eq (7), 3, 95, []) := by decide +kernel
theorem cd_92_91 : dk_find (dk_code 92) 91 = some (.iconst 5, 1, 0, []) := by decide +kernel
theorem cd_92_92 : dk_find (dk_code 92) 92 = some (.goto (4), 3, 96, []) := by decide +kernel
theorem cd_92_95 : dk_find (dk_code 92) 95 = some (.iconst 4, 1, 0, []) := by decide +kernel
theorem cd_92_96 : dk_find (dk_code 92) 96 = some (.iastore, 1, 0, []) := by decide +kernel
theorem cd_92_97 : dk_find (dk_code 92) 97 = some (.goto (107), 3, 204, []) := by decide +kernel
theorem cd_92_100 : dk_find (dk_code 92) 100 = some (.iload_n 2, 1, 0, []) := by decide +kernel
theorem cd_92_101 : dk_find (dk_code 92) 101 = some (.iconst 4, 1, 0, []) := by decide +kernel
theorem cd_92_102 : dk_find (dk_code 92) 102 = some (.if_icmp .ne (33), 3, 135, []) := by decide +kernel
theorem cd_92_105 : dk_find (dk_code 92) 105 = some (.aload_n 0, 1, 0, []) := by decide +kernel
theorem cd_92_106 : dk_find (dk_code 92) 106 = some (.getfield 13, 3, 0, []) := by decide +kernel
theorem cd_92_109 : dk_find (dk_code 92) 109 = some (.aload_n 0, 1, 0, []) := by decide +kernel
theorem cd_92_110 : dk_find (dk_code 92) 110 = some (.iload_n 1, 1, 0, []) := by decide +kernel
theorem cd_92_111 : dk_find (dk_code 92) 111 = some (.invokevirtual 125, 3, 0, []) := by decide +kernel
theorem cd_92_114 : dk_find (dk_code 92) 114 = some (.iconst 1, 1, 0, []) := by decide +kernel
theorem cd_92_115 : dk_find (dk_code 92) 115 = some (.iastore, 1, 0, []) := by decide +kernel
theorem cd_92_116 : dk_find (dk_code 92) 116 = some (.aload_n 0, 1, 0, []) := by decide +kernel
theorem cd_92_117 : dk_find (dk_code 92) 117 = some (.getfield 20, 3, 0, []) := by decide +kernel
theorem cd_92_120 : dk_find (dk_code 92) 120 = some (.aload_n 0, 1, 0, []) := by decide +kernel
theorem cd_92_121 : dk_find (dk_code 92) 121 = some (.iload_n 1, 1, 0, []) := by decide +kernel
theorem cd_92_122 : dk_find (dk_code 92) 122 = some (.invokevirtual 125, 3, 0, []) := by decide +kernel
theorem cd_92_125 : dk_find (dk_code 92) 125 = some (.iconst (-1), 1, 0, []) := by decide +kernel
theorem cd_92_126 : dk_find (dk_code 92) 126 = some (.iastore, 1, 0, []) := by decide +kernel
theorem cd_92_127 : dk_find (dk_code 92) 127 = some (.aload_n 0, 1, 0, []) := by decide +kernel
theorem cd_92_128 : dk_find (dk_code 92) 128 = some (.iload_n 1, 1, 0, []) := by decide +kernel
theorem cd_92_129 : dk_find (dk_code 92) 129 = some (.invokevirtual 132, 3, 0, []) := by decide +kernel
theorem cd_92_132 : dk_find (dk_code 92) 132 = some (.goto (72), 3, 204, []) := by decide +kernel
theorem cd_92_135 : dk_find (dk_code 92) 135 = some (.iload_n 2, 1, 0, []) := by decide +kernel
theorem cd_92_136 : dk_find (dk_code 92) 136 = some (.iconst 5, 1, 0, []) := by decide +kernel
theorem cd_92_137 : dk_find (dk_code 92) 137 = some (.if_icmp .ne (36), 3, 173, []) := by decide +kernel
theorem cd_92_140 : dk_find (dk_code 92) 140 = some (.aload_n 0, 1, 0, []) := by decide +kernel
theorem cd_92_141 : dk_find (dk_code 92) 141 = some (.aload_n 0, 1, 0, []) := by decide +kernel
theorem cd_92_142 : dk_find (dk_code 92) 142 = some (.getfield 65, 3, 0, []) := by decide +kernel
theorem cd_92_145 : dk_find (dk_code 92) 145 = some (.iload_n 1, 1, 0, []) := by decide +kernel
theorem cd_92_146 : dk_find (dk_code 92) 146 = some (.iaload, 1, 0, []) := by decide +kernel
theorem cd_92_147 : dk_find (dk_code 92) 147 = some (.iload_n 1, 1, 0, []) := by decide +kernel
theorem cd_92_148 : dk_find (dk_code 92) 148 = some (.aload_n 0, 1, 0, []) := by decide +kernel
theorem cd_92_149 : dk_find (dk_code 92) 149 = some (.getfield 71, 3, 0, []) := by decide +kernel
theorem cd_92_152 : dk_find (dk_code 92) 152 = some (.iload_n 1, 1, 0, []) := by decide +kernel
theorem cd_92_153 : dk_find (dk_code 92) 153 = some (.iaload, 1, 0, []) := by decide +kernel
theorem cd_92_154 : dk_find (dk_code 92) 154 = some (.invokevirtual 138, 3, 0, []) := by decide +kernel
theorem cd_92_157 : dk_find (dk_code 92) 157 = some (.aload_n 0, 1, 0, []) := by decide +kernel
theorem cd_92_158 : dk_find (dk_code 92) 158 = some (.iload_n 1, 1, 0, []) := by decide +kernel
theorem cd_92_159 : dk_find (dk_code 92) 159 = some (.invokevirtual 142, 3, 0, []) := by decide +kernel
theorem cd_92_162 : dk_find (dk_code 92) 162 = some (.aload_n 0, 1, 0, []) := by decide +kernel
theorem cd_92_163 : dk_find (dk_code 92) 163 = some (.getfield 23, 3, 0, []) := by decide +kernel
theorem cd_92_166 : dk_find (dk_code 92) 166 = some (.iload_n 1, 1, 0, []) := by decide +kernel
theorem cd_92_167 : dk_find (dk_code 92) 167 = some (.bipush (6), 2, 0, []) := by decide +kernel
theorem cd_92_169 : dk_find (dk_code 92) 169 = some (.iastore, 1, 0, []) := by decide +kernel
theorem cd_92_170 : dk_find (dk_code 92) 170 = some (.goto (34), 3, 204, []) := by decide +kernel
theorem cd_92_173 : dk_find (dk_code 92) 173 = some (.iload_n 2, 1, 0, []) := by decide +kernel
theorem cd_92_174 : dk_find (dk_code 92) 174 = some (.bipush (6), 2, 0, []) := by decide +kernel
theorem cd_92_176 : dk_find (dk_code 92) 176 = some (.if_icmp .ne (28), 3, 204, []) := by decide +kernel
theorem cd_92_179 : dk_find (dk_code 92) 179 = some (.aload_n 0, 1, 0, []) := by decide +kernel
theorem cd_92_180 : dk_find (dk_code 92) 180 = some (.iload_n 1, 1, 0, []) := by decide +kernel
theorem cd_92_181 : dk_find (dk_code 92) 181 = some (.aload_n 0, 1, 0, []) := by decide +kernel
theorem cd_92_182 : dk_find (dk_code 92) 182 = some (.getfield 65, 3, 0, []) := by decide +kernel
theorem cd_92_185 : dk_find (dk_code 92) 185 = some (.iload_n 1, 1, 0, []) := by decide +kernel
theorem cd_92_186 : dk_find (dk_code 92) 186 = some (.iaload, 1, 0, []) := by decide +kernel
theorem cd_92_187 : dk_find (dk_code 92) 187 = some (.aload_n 0, 1, 0, []) := by decide +kernel
theorem cd_92_188 : dk_find (dk_code 92) 188 = some (.getfield 56, 3, 0, []) := by decide +kernel
theorem cd_92_191 : dk_find (dk_code 92) 191 = some (.iload_n 1, 1, 0, []) := by decide +kernel
theorem cd_92_192 : dk_find (dk_code 92) 192 = some (.iaload, 1, 0, []) := by decide +kernel
theorem cd_92_193 : dk_find (dk_code 92) 193 = some (.invokevirtual 138, 3, 0, []) := by decide +kernel
theorem cd_92_196 : dk_find (dk_code 92) 196 = some (.aload_n 0, 1, 0, []) := by decide +kernel
theorem cd_92_197 : dk_find (dk_code 92) 197 = some (.getfield 23, 3, 0, []) := by decide +kernel
theorem cd_92_200 : dk_find (dk_code 92) 200 = some (.iload_n 1, 1, 0, []) := by decide +kernel
theorem cd_92_201 : dk_find (dk_code 92) 201 = some (.bipush (8), 2, 0, []) := by decide +kernel
theorem cd_92_203 : dk_find (dk_code 92) 203 = some (.iastore, 1, 0, []) := by decide +kernel
theorem cd_92_204 : dk_find (dk_code 92) 204 = some (.return_, 1, 0, []) := by decide +kernel
theorem cd_93_0 : dk_find (dk_code 93) 0 = some (.aload_n 0, 1, 0, []) := by decide +kernel
theorem cd_93_1 : dk_find (dk_code 93) 1 = some (.iload_n 1, 1, 0, []) := by decide +kernel
theorem cd_93_2 : dk_find (dk_code 93) 2 = some (.invokevirtual 102, 3, 0, []) := by decide +kernel
theorem cd_93_5 : dk_find (dk_code 93) 5 = some (.ifCond .eq (5), 3, 10, []) := by decide +kernel
theorem cd_93_8 : dk_find (dk_code 93) 8 = some (.iconst 4, 1, 0, []) := by decide +kernel
theorem cd_93_9 : dk_find (dk_code 93) 9 = some (.ireturn, 1, 0, []) := by decide +kernel
theorem cd_93_10 : dk_find (dk_code 93) 10 = some (.aload_n 0, 1, 0, []) := by decide +kernel
theorem cd_93_11 : dk_find (dk_code 93) 11 = some (.iload_n 1, 1, 0, []) := by decide +kernel
theorem cd_93_12 : dk_find (dk_code 93) 12 = some (.invokevirtual 145, 3, 0, []) := by decide +kernel
theorem cd_93_15 : dk_find (dk_code 93) 15 = some (.ifCond .eq (14), 3, 29, []) := by decide +kernel
theorem cd_93_18 : dk_find (dk_code 93) 18 = some (.aload_n 0, 1, 0, []) := by decide +kernel
theorem cd_93_19 : dk_find (dk_code 93) 19 = some (.getfield 23, 3, 0, []) := by decide +kernel
theorem cd_93_22 : dk_find (dk_code 93) 22 = some (.iload_n 1, 1, 0, []) := by decide +kernel
theorem cd_93_23 : dk_find (dk_code 93) 23 = some (.bipush (8), 2, 0, []) := by decide +kernel
theorem cd_93_25 : dk_find (dk_code 93) 25 = some (.iastore, 1, 0, []) := by decide +kernel
theorem cd_93_26 : dk_find (dk_code 93) 26 = some (.goto (8), 3, 34, []) := by decide +kernel
theorem cd_93_29 : dk_find (dk_code 93) 29 = some (.aload_n 0, 1, 0, []) := by decide +kernel
theorem cd_93_30 : dk_find (dk_code 93) 30 = some (.iload_n 1, 1, 0, []) := by decide +kernel
theorem cd_93_31 : dk_find (dk_code 93) 31 = some (.invokevirtual 148, 3, 0, []) := by decide +kernel
theorem cd_93_34 : dk_find (dk_code 93) 34 = some (.aload_n 0, 1, 0, []) := by decide +kernel
theorem cd_93_35 : dk_find (dk_code 93) 35 = some (.getfield 23, 3, 0, []) := by decide +kernel
theorem cd_93_38 : dk_find (dk_code 93) 38 = some (.iload_n 1, 1, 0, []) := by decide +kernel
theorem cd_93_39 : dk_find (dk_code 93) 39 = some (.iaload, 1, 0, []) := by decide +kernel
theorem cd_93_40 : dk_find (dk_code 93) 40 = some (.bipush (8), 2, 0, []) := by decide +kernel
theorem cd_93_42 : dk_find (dk_code 93) 42 = some (.if_icmp .ne (19), 3, 61, []) := by decide +kernel
theorem cd_93_45 : dk_find (dk_code 93) 45 = some (.aload_n 0, 1, 0, []) := by decide +kernel
theorem cd_93_46 : dk_find (dk_code 93) 46 = some (.getfield 13, 3, 0, []) := by decide +kernel
theorem cd_93_49 : dk_find (dk_code 93) 49 = some (.iload_n 1, 1, 0, []) := by decide +kernel
theorem cd_93_50 : dk_find (dk_code 93) 50 = some (.iaload, 1, 0, []) := by decide +kernel
theorem cd_93_51 : dk_find (dk_code 93) 51 = some (.iconst 3, 1, 0, []) := by decide +kernel
theorem cd_93_52 : dk_find (dk_code 93) 52 = some (.if_icmp .ne (7), 3, 59, []) := by decide +kernel
theorem cd_93_55 : dk_find (dk_code 93) 55 = some (.iconst 2, 1, 0, []) := by decide +kernel
theorem cd_93_56 : dk_find (dk_code 93) 56 = some (.goto (4), 3, 60, []) := by decide +kernel
theorem cd_93_59 : dk_find (dk_code 93) 59 = some (.iconst 3, 1, 0, []) := by decide +kernel
theorem cd_93_60 : dk_find (dk_code 93) 60 = some (.ireturn, 1, 0, []) := by decide +kernel
theorem cd_93_61 : dk_find (dk_code 93) 61 = some (.aload_n 0, 1, 0, []) := by decide +kernel
theorem cd_93_62 : dk_find (dk_code 93) 62 = some (.getfield 23, 3, 0, []) := by decide +kernel
theorem cd_93_65 : dk_find (dk_code 93) 65 = some (.iload_n 1, 1, 0, []) := by decide +kernel
theorem cd_93_66 : dk_find (dk_code 93) 66 = some (.iaload, 1, 0, []) := by decide +kernel
theorem cd_93_67 : dk_find (dk_code 93) 67 = some (.bipush (7), 2, 0, []) := by decide +kernel
theorem cd_93_69 : dk_find (dk_code 93) 69 = some (.if_icmp .ne (7), 3, 76, []) := by decide +kernel
theorem cd_93_72 : dk_find (dk_code 93) 72 = some (.iconst 1, 1, 0, []) := by decide +kernel
theorem cd_93_73 : dk_find (dk_code 93) 73 = some (.goto (4), 3, 77, []) := by decide +kernel
theorem cd_93_76 : dk_find (dk_code 93) 76 = some (.iconst 0, 1, 0, []) := by decide +kernel
theorem cd_93_77 : dk_find (dk_code 93) 77 = some (.ireturn, 1, 0, []) := by decide +kernel
theorem cd_94_0 : dk_find (dk_code 94) 0 = some (.aload_n 0, 1, 0, []) := by decide +kernel
theorem cd_94_1 : dk_find (dk_code 94) 1 = some (.iload_n 1, 1, 0, []) := by decide +kernel
theorem cd_94_2 : dk_find (dk_code 94) 2 = some (.invokevirtual 94, 3, 0, []) := by decide +kernel
theorem cd_94_5 : dk_find (dk_code 94) 5 = some (.ifCond .eq (11), 3, 16, []) := by decide +kernel
theorem cd_94_8 : dk_find (dk_code 94) 8 = some (.aload_n 0, 1, 0, []) := by decide +kernel
theorem cd_94_9 : dk_find (dk_code 94) 9 = some (.iload_n 1, 1, 0, []) := by decide +kernel
theorem cd_94_10 : dk_find (dk_code 94) 10 = some (.invokevirtual 151, 3, 0, []) := by decide +kernel
theorem cd_94_13 : dk_find (dk_code 94) 13 = some (.goto (4), 3, 17, []) := by decide +kernel
theorem cd_94_16 : dk_find (dk_code 94) 16 = some (.iconst 0, 1, 0, []) := by decide +kernel
theorem cd_94_17 : dk_find (dk_code 94) 17 = some (.ireturn, 1, 0, []) := by decide +kernel
theorem cd_95_0 : dk_find (dk_code 95) 0 = some (.aload_n 0, 1, 0, []) := by decide +kernel
theorem cd_95_1 : dk_find (dk_code 95) 1 = some (.iconst 0, 1, 0, []) := by decide +kernel
theorem cd_95_2 : dk_find (dk_code 95) 2 = some (.putfield 86, 3, 0, []) := by decide +kernel
theorem cd_95_5 : dk_find (dk_code 95) 5 = some (.aload_n 0, 1, 0, []) := by decide +kernel
theorem cd_95_6 : dk_find (dk_code 95) 6 = some (.dup, 1, 0, []) := by decide +kernel
theorem cd_95_7 : dk_find (dk_code 95) 7 = some (.getfield 105, 3, 0, []) := by decide +kernel
theorem cd_95_10 : dk_find (dk_code 95) 10 = some (.iconst 1, 1, 0, []) := by decide +kernel
theorem cd_95_11 : dk_find (dk_code 95) 11 = some (.iadd, 1, 0, []) := by decide +kernel
theorem cd_95_12 : dk_find (dk_code 95) 12 = some (.putfield 105, 3, 0, []) := by decide +kernel
theorem cd_95_15 : dk_find (dk_code 95) 15 = some (.iconst 0, 1, 0, []) := by decide +kernel
theorem cd_95_16 : dk_find (dk_code 95) 16 = some (.istore_n 1, 1, 0, []) := by decide +kernel
theorem cd_95_17 : dk_find (dk_code 95) 17 = some (.iconst 0, 1, 0, []) := by decide +kernel
theorem cd_95_18 : dk_find (dk_code 95) 18 = some (.istore_n 2, 1, 0, []) := by decide +kernel
theorem cd_95_19 : dk_find (dk_code 95) 19 = some (.iload_n 2, 1, 0, []) := by decide +kernel
theorem cd_95_20 : dk_find (dk_code 95) 20 = some (.bipush (16), 2, 0, []) := by decide +kernel
theorem cd_95_22 : dk_find (dk_code 95) 22 = some (.if_icmp .ge (85), 3, 107, []) := by decide +kernel
theorem cd_95_25 : dk_find (dk_code 95) 25 = some (.aload_n 0, 1, 0, []) := by decide +kernel
theorem cd_95_26 : dk_find (dk_code 95) 26 = some (.getfield 7, 3, 0, []) := by decide +kernel
theorem cd_95_29 : dk_find (dk_code 95) 29 = some (.iload_n 2, 1, 0, []) := by decide +kernel
theorem cd_95_30 : dk_find (dk_code 95) 30 = some (.baload, 1, 0, []) := by decide +kernel
theorem cd_95_31 : dk_find (dk_code 95) 31 = some (.ifCond .eq (44), 3, 75, []) := by decide +kernel
theorem cd_95_34 : dk_find (dk_code 95) 34 = some (.aload_n 0, 1, 0, []) := by decide +kernel
theorem cd_95_35 : dk_find (dk_code 95) 35 = some (.iload_n 2, 1, 0, []) := by decide +kernel
theorem cd_95_36 : dk_find (dk_code 95) 36 = some (.invokevirtual 102, 3, 0, []) := by decide +kernel
theorem cd_95_39 : dk_find (dk_code 95) 39 = some (.ifCond .ne (36), 3, 75, []) := by decide +kernel
theorem cd_95_42 : dk_find (dk_code 95) 42 = some (.aload_n 0, 1, 0, []) := by decide +kernel
theorem cd_95_43 : dk_find (dk_code 95) 43 = some (.getfield 50, 3, 0, []) := by decide +kernel
theorem cd_95_46 : dk_find (dk_code 95) 46 = some (.iload_n 2, 1, 0, []) := by decide +kernel
theorem cd_95_47 : dk_find (dk_code 95) 47 = some (.iaload, 1, 0, []) := by decide +kernel
theorem cd_95_48 : dk_find (dk_code 95) 48 = some (.ifCond .le (27), 3, 75, []) := by decide +kernel
theorem cd_95_51 : dk_find (dk_code 95) 51 = some (.aload_n 0, 1, 0, []) := by decide +kernel
theorem cd_95_52 : dk_find (dk_code 95) 52 = some (.getfield 105, 3, 0, []) := by decide +kernel
theorem cd_95_55 : dk_find (dk_code 95) 55 = some (.aload_n 0, 1, 0, []) := by decide +kernel
theorem cd_95_56 : dk_find (dk_code 95) 56 = some (.getfield 53, 3, 0, []) := by decide +kernel
theorem cd_95_59 : dk_find (dk_code 95) 59 = some (.iload_n 2, 1, 0, []) := by decide +kernel
theorem cd_95_60 : dk_find (dk_code 95) 60 = some (.iaload, 1, 0, []) := by decide +kernel
theorem cd_95_61 : dk_find (dk_code 95) 61 = some (.isub, 1, 0, []) := by decide +kernel
theorem cd_95_62 : dk_find (dk_code 95) 62 = some (.aload_n 0, 1, 0, []) := by decide +kernel
theorem cd_95_63 : dk_find (dk_code 95) 63 = some (.getfield 50, 3, 0, []) := by decide +kernel
theorem cd_95_66 : dk_find (dk_code 95) 66 = some (.iload_n 2, 1, 0, []) := by decide +kernel
theorem cd_95_67 : dk_find (dk_code 95) 67 = some (.iaload, 1, 0, []) := by decide +kernel
theorem cd_95_68 : dk_find (dk_code 95) 68 = some (.if_icmp .lt (7), 3, 75, []) := by decide +kernel
theorem cd_95_71 : dk_find (dk_code 95) 71 = some (.iconst 1, 1, 0, []) := by decide +kernel
theorem cd_95_72 : dk_find (dk_code 95) 72 = some (.goto (4), 3, 76, []) := by decide +kernel
theorem cd_95_75 : dk_find (dk_code 95) 75 = some (.iconst 0, 1, 0, []) := by decide +kernel
theorem cd_95_76 : dk_find (dk_code 95) 76 = some (.istore_n 3, 1, 0, []) := by decide +kernel
theorem cd_95_77 : dk_find (dk_code 95) 77 = some (.iload_n 3, 1, 0, []) := by decide +kernel
theorem cd_95_78 : dk_find (dk_code 95) 78 = some (.ifCond .eq (23), 3, 101, []) := by decide +kernel
theorem cd_95_81 : dk_find (dk_code 95) 81 = some (.aload_n 0, 1, 0, []) := by decide +kernel
theorem cd_95_82 : dk_find (dk_code 95) 82 = some (.getfield 13, 3, 0, []) := by decide +kernel
theorem cd_95_85 : dk_find (dk_code 95) 85 = some (.iload_n 2, 1, 0, []) := by decide +kernel
theorem cd_95_86 : dk_find (dk_code 95) 86 = some (.iaload, 1, 0, []) := by decide +kernel
theorem cd_95_87 : dk_find (dk_code 95) 87 = some (.iconst 1, 1, 0, []) := by decide +kernel
theorem cd_95_88 : dk_find (dk_code 95) 88 = some (.if_icmp .ne (13), 3, 101, []) := by decide +kernel
theorem cd_95_91 : dk_find (dk_code 95) 91 = some (.aload_n 0, 1, 0, []) := by decide +kernel
theorem cd_95_92 : dk_find (dk_code 95) 92 = some (.getfield 13, 3, 0, []) := by decide +kernel
theorem cd_95_95 : dk_find (dk_code 95) 95 = some (.iload_n 2, 1, 0, []) := by decide +kernel
theorem cd_95_96 : dk_find (dk_code 95) 96 = some (.iconst 0, 1, 0, []) := by decide +kernel
theorem cd_95_97 : dk_find (dk_code 95) 97 = some (.iastore, 1, 0, []) := by decide +kernel
theorem cd_95_98 : dk_find (dk_code 95) 98 = some (.iinc 1 (1), 3, 0, []) := by decide +kernel
theorem cd_95_101 : dk_find (dk_code 95) 101 = some (.iinc 2 (1), 3, 0, []) := by decide +kernel
theorem cd_95_104 : dk_find (dk_code 95) 104 = some (.goto (-85), 3, 19, []) := by decide +kernel
theorem cd_95_107 : dk_find (dk_code 95) 107 = some (.iload_n 1, 1, 0, []) := by decide +kernel
theorem cd_95_108 : dk_find (dk_code 95) 108 = some (.ireturn, 1, 0, []) := by decide +kernel
theorem cd_96_0 : dk_find (dk_code 96) 0 = some (.iconst 0, 1, 0, []) := by decide +kernel
theorem cd_96_1 : dk_find (dk_code 96) 1 = some (.istore_n 2, 1, 0, []) := by decide +kernel
theorem cd_96_2 : dk_find (dk_code 96) 2 = some (.iload_n 2, 1, 0, []) := by decide +kernel
theorem cd_96_3 : dk_find (dk_code 96) 3 = some (.bipush (8), 2, 0, []) := by decide +kernel
theorem cd_96_5 : dk_find (dk_code 96) 5 = some (.if_icmp .ge (105), 3, 110, []) := by decide +kernel
theorem cd_96_8 : dk_find (dk_code 96) 8 = some (.iconst 0, 1, 0, []) := by decide +kernel
theorem cd_96_9 : dk_find (dk_code 96) 9 = some (.istore_n 3, 1, 0, []) := by decide +kernel
theorem cd_96_10 : dk_find (dk_code 96) 10 = some (.iconst 0, 1, 0, []) := by decide +kernel
theorem cd_96_11 : dk_find (dk_code 96) 11 = some (.istore 4, 2, 0, []) := by decide +kernel
theorem cd_96_13 : dk_find (dk_code 96) 13 = some (.iload 4, 2, 0, []) := by decide +kernel
theorem cd_96_15 : dk_find (dk_code 96) 15 = some (.aload_n 0, 1, 0, []) := by decide +kernel
theorem cd_96_16 : dk_find (dk_code 96) 16 = some (.getfield 74, 3, 0, []) := by decide +kernel
theorem cd_96_19 : dk_find (dk_code 96) 19 = some (.iload_n 2, 1, 0, []) := by decide +kernel
theorem cd_96_20 : dk_find (dk_code 96) 20 = some (.iaload, 1, 0, []) := by decide +kernel
theorem cd_96_21 : dk_find (dk_code 96) 21 = some (.if_icmp .ge (76), 3, 97, []) := by decide +kernel
theorem cd_96_24 : dk_find (dk_code 96) 24 = some (.aload_n 0, 1, 0, []) := by decide +kernel
theorem cd_96_25 : dk_find (dk_code 96) 25 = some (.getfield 77, 3, 0, []) := by decide +kernel
theorem cd_96_28 : dk_find (dk_code 96) 28 = some (.bipush (64), 2, 0, []) := by decide +kernel
theorem cd_96_30 : dk_find (dk_code 96) 30 = some (.iload_n 2, 1, 0, []) := by decide +kernel
theorem cd_96_31 : dk_find (dk_code 96) 31 = some (.imul, 1, 0, []) := by decide +kernel
theorem cd_96_32 : dk_find (dk_code 96) 32 = some (.iload 4, 2, 0, []) := by decide +kernel
theorem cd_96_34 : dk_find (dk_code 96) 34 = some (.iadd, 1, 0, []) := by decide +kernel
theorem cd_96_35 : dk_find (dk_code 96) 35 = some (.iaload, 1, 0, []) := by decide +kernel
theorem cd_96_36 : dk_find (dk_code 96) 36 = some (.iconst 4, 1, 0, []) := by decide +kernel
theorem cd_96_37 : dk_find (dk_code 96) 37 = some (.idiv, 1, 0, []) := by decide +kernel
theorem cd_96_38 : dk_find (dk_code 96) 38 = some (.iload_n 1, 1, 0, []) := by decide +kernel
theorem cd_96_39 : dk_find (dk_code 96) 39 = some (.if_icmp .eq (52), 3, 91, []) := by decide +kernel
theorem cd_96_42 : dk_find (dk_code 96) 42 = some (.aload_n 0, 1, 0, []) := by decide +kernel
theorem cd_96_43 : dk_find (dk_code 96) 43 = some (.getfield 77, 3, 0, []) := by decide +kernel
theorem cd_96_46 : dk_find (dk_code 96) 46 = some (.bipush (64), 2, 0, []) := by decide +kernel
theorem cd_96_48 : dk_find (dk_code 96) 48 = some (.iload_n 2, 1, 0, []) := by decide +kernel
theorem cd_96_49 : dk_find (dk_code 96) 49 = some (.imul, 1, 0, []) := by decide +kernel
theorem cd_96_50 : dk_find (dk_code 96) 50 = some (.iload_n 3, 1, 0, []) := by decide +kernel
theorem cd_96_51 : dk_find (dk_code 96) 51 = some (.iadd, 1, 0, []) := by decide +kernel
theorem cd_96_52 : dk_find (dk_code 96) 52 = some (.aload_n 0, 1, 0, []) := by decide +kernel
theorem cd_96_53 : dk_find (dk_code 96) 53 = some (.getfield 77, 3, 0, []) := by decide +kernel
theorem cd_96_56 : dk_find (dk_code 96) 56 = some (.bipush (64), 2, 0, []) := by decide +kernel
theorem cd_96_58 : dk_find (dk_code 96) 58 = some (.iload_n 2, 1, 0, []) := by decide +kernel
theorem cd_96_59 : dk_find (dk_code 96) 59 = some (.imul, 1, 0, []) := by decide +kernel
theorem cd_96_60 : dk_find (dk_code 96) 60 = some (.iload 4, 2, 0, []) := by decide +kernel
theorem cd_96_62 : dk_find (dk_code 96) 62 = some (.iadd, 1, 0, []) := by decide +kernel
theorem cd_96_63 : dk_find (dk_code 96) 63 = some (.iaload, 1, 0, []) := by decide +kernel
theorem cd_96_64 : dk_find (dk_code 96) 64 = some (.iastore, 1, 0, []) := by decide +kernel
theorem cd_96_65 : dk_find (dk_code 96) 65 = some (.aload_n 0, 1, 0, []) := by decide +kernel
theorem cd_96_66 : dk_find (dk_code 96) 66 = some (.getfield 80, 3, 0, []) := by decide +kernel
theorem cd_96_69 : dk_find (dk_code 96) 69 = some (.bipush (64), 2, 0, []) := by decide +kernel
theorem cd_96_71 : dk_find (dk_code 96) 71 = some (.iload_n 2, 1, 0, []) := by decide +kernel
theorem cd_96_72 : dk_find (dk_code 96) 72 = some (.imul, 1, 0, []) := by decide +kernel
theorem cd_96_73 : dk_find (dk_code 96) 73 = some (.iload_n 3, 1, 0, []) := by decide +kernel
theorem cd_96_74 : dk_find (dk_code 96) 74 = some (.iadd, 1, 0, []) := by decide +kernel
theorem cd_96_75 : dk_find (dk_code 96) 75 = some (.aload_n 0, 1, 0, []) := by decide +kernel
theorem cd_96_76 : dk_find (dk_code 96) 76 = some (.getfield 80, 3, 0, []) := by decide +kernel
theorem cd_96_79 : dk_find (dk_code 96) 79 = some (.bipush (64), 2, 0, []) := by decide +kernel
theorem cd_96_81 : dk_find (dk_code 96) 81 = some (.iload_n 2, 1, 0, []) := by decide +kernel
theorem cd_96_82 : dk_find (dk_code 96) 82 = some (.imul, 1, 0, []) := by decide +kernel
theorem cd_96_83 : dk_find (dk_code 96) 83 = some (.iload 4, 2, 0, []) := by decide +kernel
theorem cd_96_85 : dk_find (dk_code 96) 85 = some (.iadd, 1, 0, []) := by decide +kernel
theorem cd_96_86 : dk_find (dk_code 96) 86 = some (.iaload, 1, 0, []) := by decide +kernel
theorem cd_96_87 : dk_find (dk_code 96) 87 = some (.iastore, 1, 0, []) := by decide +kernel
theorem cd_96_88 : dk_find (dk_code 96) 88 = some (.iinc 3 (1), 3, 0, []) := by decide +kernel
theorem cd_96_91 : dk_find (dk_code 96) 91 = some (.iinc 4 (1), 3, 0, []) := by decide +kernel
theorem cd_96_94 : dk_find (dk_code 96) 94 = some (.goto (-81), 3, 13, []) := by decide +kernel
theorem cd_96_97 : dk_find (dk_code 96) 97 = some (.aload_n 0, 1, 0, []) := by decide +kernel
theorem cd_96_98 : dk_find (dk_code 96) 98 = some (.getfield 74, 3, 0, []) := by decide +kernel
theorem cd_96_101 : dk_find (dk_code 96) 101 = some (.iload_n 2, 1, 0, []) := by decide +kernel
theorem cd_96_102 : dk_find (dk_code 96) 102 = some (.iload_n 3, 1, 0, []) := by decide +kernel
theorem cd_96_103 : dk_find (dk_code 96) 103 = some (.iastore, 1, 0, []) := by decide +kernel
theorem cd_96_104 : dk_find (dk_code 96) 104 = some (.iinc 2 (1), 3, 0, []) := by decide +kernel
theorem cd_96_107 : dk_find (dk_code 96) 107 = some (.goto (-105), 3, 2, []) := by decide +kernel
theorem cd_96_110 : dk_find (dk_code 96) 110 = some (.iconst 0, 1, 0, []) := by decide +kernel
theorem cd_96_111 : dk_find (dk_code 96) 111 = some (.istore_n 2, 1, 0, []) := by decide +kernel
theorem cd_96_112 : dk_find (dk_code 96) 112 = some (.iload_n 2, 1, 0, []) := by decide +kernel
theorem cd_96_113 : dk_find (dk_code 96) 113 = some (.bipush (16), 2, 0, []) := by decide +kernel
theorem cd_96_115 : dk_find (dk_code 96) 115 = some (.if_icmp .ge (16), 3, 131, []) := by decide +kernel
theorem cd_96_118 : dk_find (dk_code 96) 118 = some (.aload_n 0, 1, 0, []) := by decide +kernel
theorem cd_96_119 : dk_find (dk_code 96) 119 = some (.getfield 62, 3, 0, []) := by decide +kernel
theorem cd_96_122 : dk_find (dk_code 96) 122 = some (.iload_n 2, 1, 0, []) := by decide +kernel
theorem cd_96_123 : dk_find (dk_code 96) 123 = some (.iconst 0, 1, 0, []) := by decide +kernel
theorem cd_96_124 : dk_find (dk_code 96) 124 = some (.bastore, 1, 0, []) := by decide +kernel
theorem cd_96_125 : dk_find (dk_code 96) 125 = some (.iinc 2 (1), 3, 0, []) := by decide +kernel
theorem cd_96_128 : dk_find (dk_code 96) 128 = some (.goto (-16), 3, 112, []) := by decide +kernel
theorem cd_96_131 : dk_find (dk_code 96) 131 = some (.aload_n 0, 1, 0, []) := by decide +kernel
theorem cd_96_132 : dk_find (dk_code 96) 132 = some (.getfield 23, 3, 0, []) := by decide +kernel
theorem cd_96_135 : dk_find (dk_code 96) 135 = some (.iload_n 1, 1, 0, []) := by decide +kernel
theorem cd_96_136 : dk_find (dk_code 96) 136 = some (.bipush (9), 2, 0, []) := by decide +kernel
theorem cd_96_138 : dk_find (dk_code 96) 138 = some (.iastore, 1, 0, []) := by decide +kernel
theorem cd_96_139 : dk_find (dk_code 96) 139 = some (.aload_n 0, 1, 0, []) := by decide +kernel
theorem cd_96_140 : dk_find (dk_code 96) 140 = some (.getfield 13, 3, 0, []) := by decide +kernel
theorem cd_96_143 : dk_find (dk_code 96) 143 = some (.iload_n 1, 1, 0, []) := by decide +kernel
theorem cd_96_144 : dk_find (dk_code 96) 144 = some (.iconst 0, 1, 0, []) := by decide +kernel
theorem cd_96_145 : dk_find (dk_code 96) 145 = some (.iastore, 1, 0, []) := by decide +kernel
theorem cd_96_146 : dk_find (dk_code 96) 146 = some (.aload_n 0, 1, 0, []) := by decide +kernel
theorem cd_96_147 : dk_find (dk_code 96) 147 = some (.getfield 20, 3, 0, []) := by decide +kernel
theorem cd_96_150 : dk_find (dk_code 96) 150 = some (.iload_n 1, 1, 0, []) := by decide +kernel
theorem cd_96_151 : dk_find (dk_code 96) 151 = some (.iconst (-1), 1, 0, []) := by decide +kernel
theorem cd_96_152 : dk_find (dk_code 96) 152 = some (.iastore, 1, 0, []) := by decide +kernel
theorem cd_96_153 : dk_find (dk_code 96) 153 = some (.aload_n 0, 1, 0, []) := by decide +kernel
theorem cd_96_154 : dk_find (dk_code 96) 154 = some (.getfield 35, 3, 0, []) := by decide +kernel
theorem cd_96_157 : dk_find (dk_code 96) 157 = some (.iload_n 1, 1, 0, []) := by decide +kernel
theorem cd_96_158 : dk_find (dk_code 96) 158 = some (.iconst 0, 1, 0, []) := by decide +kernel
theorem cd_96_159 : dk_find (dk_code 96) 159 = some (.iastore, 1, 0, []) := by decide +kernel
theorem cd_96_160 : dk_find (dk_code 96) 160 = some (.aload_n 0, 1, 0, []) := by decide +kernel
theorem cd_96_161 : dk_find (dk_code 96) 161 = some (.getfield 50, 3, 0, []) := by decide +kernel
theorem cd_96_164 : dk_find (dk_code 96) 164 = some (.iload_n 1, 1, 0, []) := by decide +kernel
theorem cd_96_165 : dk_find (dk_code 96) 165 = some (.iconst 0, 1, 0, []) := by decide +kernel
theorem cd_96_166 : dk_find (dk_code 96) 166 = some (.iastore, 1, 0, []) := by decide +kernel
theorem cd_96_167 : dk_find (dk_code 96) 167 = some (.return_, 1, 0, []) := by decide +kernel
theorem cd_97_0 : dk_find (dk_code 97) 0 = some (.aload_n 0, 1, 0, []) := by decide +kernel
theorem cd_97_1 : dk_find (dk_code 97) 1 = some (.iload_n 1, 1, 0, []) := by decide +kernel
theorem cd_97_2 : dk_find (dk_code 97) 2 = some (.invokevirtual 94, 3, 0, []) := by decide +kernel
theorem cd_97_5 : dk_find (dk_code 97) 5 = some (.ifCond .ne (5), 3, 10, []) := by decide +kernel
theorem cd_97_8 : dk_find (dk_code 97) 8 = some (.iconst 0, 1, 0, []) := by decide +kernel
theorem cd_97_9 : dk_find (dk_code 97) 9 = some (.ireturn, 1, 0, []) := by decide +kernel
theorem cd_97_10 : dk_find (dk_code 97) 10 = some (.aload_n 0, 1, 0, []) := by decide +kernel
theorem cd_97_11 : dk_find (dk_code 97) 11 = some (.iload_n 1, 1, 0, []) := by decide +kernel
theorem cd_97_12 : dk_find (dk_code 97) 12 = some (.invokevirtual 102, 3, 0, []) := by decide +kernel
theorem cd_97_15 : dk_find (dk_code 97) 15 = some (.ifCond .eq (17), 3, 32, []) := by decide +kernel
theorem cd_97_18 : dk_find (dk_code 97) 18 = some (.aload_n 0, 1, 0, []) := by decide +kernel
theorem cd_97_19 : dk_find (dk_code 97) 19 = some (.iconst 3, 1, 0, []) := by decide +kernel
theorem cd_97_20 : dk_find (dk_code 97) 20 = some (.invokevirtual 98, 3, 0, []) := by decide +kernel
theorem cd_97_23 : dk_find (dk_code 97) 23 = some (.ifCond .le (7), 3, 30, []) := by decide +kernel
theorem cd_97_30 : dk_find (dk_code 97) 30 = some (.iconst 0, 1, 0, []) := by decide +kernel
theorem cd_97_31 : dk_find (dk_code 97) 31 = some (.ireturn, 1, 0, []) := by decide +kernel
theorem cd_97_32 : dk_find (dk_code 97) 32 = some (.iconst 0, 1, 0, []) := by decide +kernel
theorem cd_97_33 : dk_find (dk_code 97) 33 = some (.istore_n 2, 1, 0, []) := by decide +kernel
theorem cd_97_34 : dk_find (dk_code 97) 34 = some (.iconst 0, 1, 0, []) := by decide +kernel
theorem cd_97_35 : dk_find (dk_code 97) 35 = some (.istore_n 3, 1, 0, []) := by decide +kernel
theorem cd_97_36 : dk_find (dk_code 97) 36 = some (.iload_n 3, 1, 0, []) := by decide +kernel
theorem cd_97_37 : dk_find (dk_code 97) 37 = some (.bipush (16), 2, 0, []) := by decide +kernel
theorem cd_97_39 : dk_find (dk_code 97) 39 = some (.if_icmp .ge (29), 3, 68, []) := by decide +kernel
theorem cd_97_42 : dk_find (dk_code 97) 42 = some (.iload_n 2, 1, 0, []) := by decide +kernel
theorem cd_97_43 : dk_find (dk_code 97) 43 = some (.ifCond .ne (13), 3, 56, []) := by decide +kernel
theorem cd_97_46 : dk_find (dk_code 97) 46 = some (.aload_n 0, 1, 0, []) := by decide +kernel
theorem cd_97_47 : dk_find (dk_code 97) 47 = some (.getfield 20, 3, 0, []) := by decide +kernel
theorem cd_97_50 : dk_find (dk_code 97) 50 = some (.iload_n 3, 1, 0, []) := by decide +kernel
theorem cd_97_51 : dk_find (dk_code 97) 51 = some (.iaload, 1, 0, []) := by decide +kernel
theorem cd_97_52 : dk_find (dk_code 97) 52 = some (.iload_n 1, 1, 0, []) := by decide +kernel
theorem cd_97_53 : dk_find (dk_code 97) 53 = some (.if_icmp .ne (7), 3, 60, []) := by decide +kernel
theorem cd_97_56 : dk_find (dk_code 97) 56 = some (.iconst 1, 1, 0, []) := by decide +kernel
theorem cd_97_57 : dk_find (dk_code 97) 57 = some (.goto (4), 3, 61, []) := by decide +kernel
theorem cd_97_60 : dk_find (dk_code 97) 60 = some (.iconst 0, 1, 0, []) := by decide +kernel
theorem cd_97_61 : dk_find (dk_code 97) 61 = some (.istore_n 2, 1, 0, []) := by decide +kernel
theorem cd_97_62 : dk_find (dk_code 97) 62 = some (.iinc 3 (1), 3, 0, []) := by decide +kernel
theorem cd_97_65 : dk_find (dk_code 97) 65 = some (.goto (-29), 3, 36, []) := by decide +kernel
theorem cd_97_68 : dk_find (dk_code 97) 68 = some (.aload_n 0, 1, 0, []) := by decide +kernel
theorem cd_97_69 : dk_find (dk_code 97) 69 = some (.getfield 13, 3, 0, []) := by decide +kernel
theorem cd_97_72 : dk_find (dk_code 97) 72 = some (.iload_n 1, 1, 0, []) := by decide +kernel
theorem cd_97_73 : dk_find (dk_code 97) 73 = some (.iaload, 1, 0, []) := by decide +kernel
theorem cd_97_74 : dk_find (dk_code 97) 74 = some (.iconst 1, 1, 0, []) := by decide +kernel
theorem cd_97_75 : dk_find (dk_code 97) 75 = some (.if_icmp .ne (7), 3, 82, []) := by decide +kernel
theorem cd_97_78 : dk_find (dk_code 97) 78 = some (.iload_n 2, 1, 0, []) := by decide +kernel
theorem cd_97_79 : dk_find (dk_code 97) 79 = some (.ifCond .eq (5), 3, 84, []) := by decide +kernel
theorem cd_97_82 : dk_find (dk_code 97) 82 = some (.iconst 0, 1, 0, []) := by decide +kernel
theorem cd_97_83 : dk_find (dk_code 97) 83 = some (.ireturn, 1, 0, []) := by decide +kernel
theorem cd_97_84 : dk_find (dk_code 97) 84 = some (.aload_n 0, 1, 0, []) := by decide +kernel
theorem cd_97_85 : dk_find (dk_code 97) 85 = some (.iload_n 1, 1, 0, []) := by decide +kernel
theorem cd_97_86 : dk_find (dk_code 97) 86 = some (.invokevirtual 154, 3, 0, []) := by decide +kernel
theorem cd_97_89 : dk_find (dk_code 97) 89 = some (.iconst 1, 1, 0, []) := by decide +kernel
theorem cd_97_90 : dk_find (dk_code 97) 90 = some (.ireturn, 1, 0, []) := by decide +kernel
theorem cd_98_0 : dk_find (dk_code 98) 0 = some (.aload_n 0, 1, 0, []) := by decide +kernel
theorem cd_98_1 : dk_find (dk_code 98) 1 = some (.iload_n 1, 1, 0, []) := by decide +kernel
theorem cd_98_2 : dk_find (dk_code 98) 2 = some (.invokevirtual 94, 3, 0, []) := by decide +kernel
theorem cd_98_5 : dk_find (dk_code 98) 5 = some (.ifCond .ne (5), 3, 10, []) := by decide +kernel
theorem cd_98_8 : dk_find (dk_code 98) 8 = some (.iconst 0, 1, 0, []) := by decide +kernel
theorem cd_98_9 : dk_find (dk_code 98) 9 = some (.ireturn, 1, 0, []) := by decide +kernel
theorem cd_98_10 : dk_find (dk_code 98) 10 = some (.aload_n 0, 1, 0, []) := by decide +kernel
theorem cd_98_11 : dk_find (dk_code 98) 11 = some (.getfield 23, 3, 0, []) := by decide +kernel
theorem cd_98_14 : dk_find (dk_code 98) 14 = some (.iload_n 1, 1, 0, []) := by decide +kernel
theorem cd_98_15 : dk_find (dk_code 98) 15 = some (.iaload, 1, 0, []) := by decide +kernel
theorem cd_98_16 : dk_find (dk_code 98) 16 = some (.bipush (8), 2, 0, []) := by decide +kernel
theorem cd_98_18 : dk_find (dk_code 98) 18 = some (.if_icmp .eq (17), 3, 35, []) := by decide +kernel
theorem cd_98_21 : dk_find (dk_code 98) 21 = some (.aload_n 0, 1, 0, []) := by decide +kernel
theorem cd_98_22 : dk_find (dk_code 98) 22 = some (.iload_n 1, 1, 0, []) := by decide +kernel
theorem cd_98_23 : dk_find (dk_code 98) 23 = some (.invokevirtual 145, 3, 0, []) := by decide +kernel
theorem cd_98_26 : dk_find (dk_code 98) 26 = some (.ifCond .ne (9), 3, 35, []) := by decide +kernel
theorem cd_98_29 : dk_find (dk_code 98) 29 = some (.aload_n 0, 1, 0, []) := by decide +kernel
theorem cd_98_30 : dk_find (dk_code 98) 30 = some (.iconst 3, 1, 0, []) := by decide +kernel
theorem cd_98_31 : dk_find (dk_code 98) 31 = some (.invokevirtual 98, 3, 0, []) := by decide +kernel
theorem cd_98_34 : dk_find (dk_code 98) 34 = some (.ireturn, 1, 0, []) := by decide +kernel
theorem cd_98_35 : dk_find (dk_code 98) 35 = some (.aload_n 0, 1, 0, []) := by decide +kernel
theorem cd_98_36 : dk_find (dk_code 98) 36 = some (.getfield 13, 3, 0, []) := by decide +kernel
theorem cd_98_39 : dk_find (dk_code 98) 39 = some (.iload_n 1, 1, 0, []) := by decide +kernel
theorem cd_98_40 : dk_find (dk_code 98) 40 = some (.iaload, 1, 0, []) := by decide +kernel
theorem cd_98_41 : dk_find (dk_code 98) 41 = some (.iconst 3, 1, 0, []) := by decide +kernel
theorem cd_98_42 : dk_find (dk_code 98) 42 = some (.if_icmp .ne (12), 3, 54, []) := by decide +kernel
theorem cd_98_45 : dk_find (dk_code 98) 45 = some (.aload_n 0, 1, 0, []) := by decide +kernel
theorem cd_98_46 : dk_find (dk_code 98) 46 = some (.getfield 26, 3, 0, []) := by decide +kernel
theorem cd_98_49 : dk_find (dk_code 98) 49 = some (.iload_n 1, 1, 0, []) := by decide +kernel
theorem cd_98_50 : dk_find (dk_code 98) 50 = some (.iaload, 1, 0, []) := by decide +kernel
theorem cd_98_51 : dk_find (dk_code 98) 51 = some (.goto (4), 3, 55, []) := by decide +kernel
theorem cd_98_54 : dk_find (dk_code 98) 54 = some (.iconst (-1), 1, 0, []) := by decide +kernel
theorem cd_98_55 : dk_find (dk_code 98) 55 = some (.istore_n 2, 1, 0, []) := by decide +kernel
theorem cd_98_56 : dk_find (dk_code 98) 56 = some (.aload_n 0, 1, 0, []) := by decide +kernel
theorem cd_98_57 : dk_find (dk_code 98) 57 = some (.iload_n 1, 1, 0, []) := by decide +kernel
theorem cd_98_58 : dk_find (dk_code 98) 58 = some (.invokevirtual 154, 3, 0, []) := by decide +kernel
theorem cd_98_61 : dk_find (dk_code 98) 61 = some (.iload_n 2, 1, 0, []) := by decide +kernel
theorem cd_98_62 : dk_find (dk_code 98) 62 = some (.ireturn, 1, 0, []) := by decide +kernel
theorem cd_99_0 : dk_find (dk_code 99) 0 = some (.aload_n 0, 1, 0, []) := by decide +kernel
theorem cd_99_1 : dk_find (dk_code 99) 1 = some (.iload_n 1, 1, 0, []) := by decide +kernel
theorem cd_99_2 : dk_find (dk_code 99) 2 = some (.invokevirtual 94, 3, 0, []) := by decide +kernel
theorem cd_99_5 : dk_find (dk_code 99) 5 = some (.ifCond .ne (5), 3, 10, []) := by decide +kernel
theorem cd_99_8 : dk_find (dk_code 99) 8 = some (.iconst 0, 1, 0, []) := by decide +kernel
theorem cd_99_9 : dk_find (dk_code 99) 9 = some (.ireturn, 1, 0, []) := by decide +kernel
theorem cd_99_10 : dk_find (dk_code 99) 10 = some (.iload_n 2, 1, 0, []) := by decide +kernel
theorem cd_99_11 : dk_find (dk_code 99) 11 = some (.iconst 0, 1, 0, []) := by decide +kernel
theorem cd_99_12 : dk_find (dk_code 99) 12 = some (.bipush (6), 2, 0, []) := by decide +kernel
theorem cd_99_14 : dk_find (dk_code 99) 14 = some (.invokestatic 90, 3, 0, []) := by decide +kernel
theorem cd_99_17 : dk_find (dk_code 99) 17 = some (.ifCond .ne (9), 3, 26, []) := by decide +kernel
theorem cd_99_20 : dk_find (dk_code 99) 20 = some (.aload_n 0, 1, 0, []) := by decide +kernel
theorem cd_99_21 : dk_find (dk_code 99) 21 = some (.iconst 1, 1, 0, []) := by decide +kernel
theorem cd_99_22 : dk_find (dk_code 99) 22 = some (.invokevirtual 98, 3, 0, []) := by decide +kernel
theorem cd_99_25 : dk_find (dk_code 99) 25 = some (.ireturn, 1, 0, []) := by decide +kernel
theorem cd_99_26 : dk_find (dk_code 99) 26 = some (.iload_n 2, 1, 0, []) := by decide +kernel
theorem cd_99_27 : dk_find (dk_code 99) 27 = some (.iconst 4, 1, 0, []) := by decide +kernel
theorem cd_99_28 : dk_find (dk_code 99) 28 = some (.if_icmp .ge (51), 3, 79, []) := by decide +kernel
theorem cd_99_31 : dk_find (dk_code 99) 31 = some (.iload_n 2, 1, 0, []) := by decide +kernel
theorem cd_99_32 : dk_find (dk_code 99) 32 = some (.ifCond .ne (12), 3, 44, []) := by decide +kernel
theorem cd_99_35 : dk_find (dk_code 99) 35 = some (.aload_n 0, 1, 0, []) := by decide +kernel
theorem cd_99_36 : dk_find (dk_code 99) 36 = some (.getfield 13, 3, 0, []) := by decide +kernel
theorem cd_99_39 : dk_find (dk_code 99) 39 = some (.iload_n 1, 1, 0, []) := by decide +kernel
theorem cd_99_40 : dk_find (dk_code 99) 40 = some (.iaload, 1, 0, []) := by decide +kernel
theorem cd_99_41 : dk_find (dk_code 99) 41 = some (.goto (37), 3, 78, []) := by decide +kernel
theorem cd_99_44 : dk_find (dk_code 99) 44 = some (.iload_n 2, 1, 0, []) := by decide +kernel
theorem cd_99_45 : dk_find (dk_code 99) 45 = some (.iconst 1, 1, 0, []) := by decide +kernel
theorem cd_99_46 : dk_find (dk_code 99) 46 = some (.if_icmp .ne (12), 3, 58, []) := by decide +kernel
theorem cd_99_49 : dk_find (dk_code 99) 49 = some (.aload_n 0, 1, 0, []) := by decide +kernel
theorem cd_99_50 : dk_find (dk_code 99) 50 = some (.getfield 17, 3, 0, []) := by decide +kernel
theorem cd_99_53 : dk_find (dk_code 99) 53 = some (.iload_n 1, 1, 0, []) := by decide +kernel
theorem cd_99_54 : dk_find (dk_code 99) 54 = some (.iaload, 1, 0, []) := by decide +kernel
theorem cd_99_55 : dk_find (dk_code 99) 55 = some (.goto (23), 3, 78, []) := by decide +kernel
theorem cd_99_58 : dk_find (dk_code 99) 58 = some (.iload_n 2, 1, 0, []) := by decide +kernel
theorem cd_99_59 : dk_find (dk_code 99) 59 = some (.iconst 2, 1, 0, []) := by decide +kernel
theorem cd_99_60 : dk_find (dk_code 99) 60 = some (.if_icmp .ne (12), 3, 72, []) := by decide +kernel
theorem cd_99_63 : dk_find (dk_code 99) 63 = some (.aload_n 0, 1, 0, []) := by decide +kernel
theorem cd_99_64 : dk_find (dk_code 99) 64 = some (.getfield 20, 3, 0, []) := by decide +kernel
theorem cd_99_67 : dk_find (dk_code 99) 67 = some (.iload_n 1, 1, 0, []) := by decide +kernel
theorem cd_99_68 : dk_find (dk_code 99) 68 = some (.iaload, 1, 0, []) := by decide +kernel
theorem cd_99_69 : dk_find (dk_code 99) 69 = some (.goto (9), 3, 78, []) := by decide +kernel
theorem cd_99_72 : dk_find (dk_code 99) 72 = some (.aload_n 0, 1, 0, []) := by decide +kernel
theorem cd_99_73 : dk_find (dk_code 99) 73 = some (.getfield 23, 3, 0, []) := by decide +kernel
theorem cd_99_76 : dk_find (dk_code 99) 76 = some (.iload_n 1, 1, 0, []) := by decide +kernel
theorem cd_99_77 : dk_find (dk_code 99) 77 = some (.iaload, 1, 0, []) := by decide +kernel
theorem cd_99_78 : dk_find (dk_code 99) 78 = some (.ireturn, 1, 0, []) := by decide +kernel
theorem cd_99_79 : dk_find (dk_code 99) 79 = some (.aload_n 0, 1, 0, []) := by decide +kernel
theorem cd_99_80 : dk_find (dk_code 99) 80 = some (.getfield 13, 3, 0, []) := by decide +kernel
theorem cd_99_83 : dk_find (dk_code 99) 83 = some (.iload_n 1, 1, 0, []) := by decide +kernel
theorem cd_99_84 : dk_find (dk_code 99) 84 = some (.iaload, 1, 0, []) := by decide +kernel
theorem cd_99_85 : dk_find (dk_code 99) 85 = some (.iconst 3, 1, 0, []) := by decide +kernel
theorem cd_99_86 : dk_find (dk_code 99) 86 = some (.if_icmp .eq (15), 3, 101, []) := by decide +kernel
theorem cd_99_89 : dk_find (dk_code 99) 89 = some (.iload_n 2, 1, 0, []) := by decide +kernel
theorem cd_99_90 : dk_find (dk_code 99) 90 = some (.bipush (6), 2, 0, []) := by decide +kernel
theorem cd_99_92 : dk_find (dk_code 99) 92 = some (.if_icmp .ne (7), 3, 99, []) := by decide +kernel
theorem cd_99_95 : dk_find (dk_code 99) 95 = some (.iconst 0, 1, 0, []) := by decide +kernel
theorem cd_99_96 : dk_find (dk_code 99) 96 = some (.goto (4), 3, 100, []) := by decide +kernel
theorem cd_99_99 : dk_find (dk_code 99) 99 = some (.iconst (-1), 1, 0, []) := by decide +kernel
theorem cd_99_100 : dk_find (dk_code 99) 100 = some (.ireturn, 1, 0, []) := by decide +kernel
theorem cd_99_101 : dk_find (dk_code 99) 101 = some (.iload_n 2, 1, 0, []) := by decide +kernel
theorem cd_99_102 : dk_find (dk_code 99) 102 = some (.bipush (6), 2, 0, []) := by decide +kernel
theorem cd_99_104 : dk_find (dk_code 99) 104 = some (.if_icmp .ge (24), 3, 128, []) := by decide +kernel
theorem cd_99_107 : dk_find (dk_code 99) 107 = some (.iload_n 2, 1, 0, []) := by decide +kernel
theorem cd_99_108 : dk_find (dk_code 99) 108 = some (.iconst 4, 1, 0, []) := by decide +kernel
theorem cd_99_109 : dk_find (dk_code 99) 109 = some (.if_icmp .ne (12), 3, 121, []) := by decide +kernel
theorem cd_99_112 : dk_find (dk_code 99) 112 = some (.aload_n 0, 1, 0, []) := by decide +kernel
theorem cd_99_113 : dk_find (dk_code 99) 113 = some (.getfield 26, 3, 0, []) := by decide +kernel
theorem cd_99_116 : dk_find (dk_code 99) 116 = some (.iload_n 1, 1, 0, []) := by decide +kernel
theorem cd_99_117 : dk_find (dk_code 99) 117 = some (.iaload, 1, 0, []) := by decide +kernel
theorem cd_99_118 : dk_find (dk_code 99) 118 = some (.goto (9), 3, 127, []) := by decide +kernel
theorem cd_99_121 : dk_find (dk_code 99) 121 = some (.aload_n 0, 1, 0, []) := by decide +kernel
theorem cd_99_122 : dk_find (dk_code 99) 122 = some (.getfield 29, 3, 0, []) := by decide +kernel
theorem cd_99_125 : dk_find (dk_code 99) 125 = some (.iload_n 1, 1, 0, []) := by decide +kernel
theorem cd_99_126 : dk_find (dk_code 99) 126 = some (.iaload, 1, 0, []) := by decide +kernel
theorem cd_99_127 : dk_find (dk_code 99) 127 = some (.ireturn, 1, 0, []) := by decide +kernel
theorem cd_99_128 : dk_find (dk_code 99) 128 = some (.aload_n 0, 1, 0, []) := by decide +kernel
theorem cd_99_129 : dk_find (dk_code 99) 129 = some (.getfield 32, 3, 0, []) := by decide +kernel
theorem cd_99_132 : dk_find (dk_code 99) 132 = some (.iload_n 1, 1, 0, []) := by decide +kernel
theorem cd_99_133 : dk_find (dk_code 99) 133 = some (.iaload, 1, 0, []) := by decide +kernel
theorem cd_99_134 : dk_find (dk_code 99) 134 = some (.ireturn, 1, 0, []) := by decide +kernel
theorem cd_100_0 : dk_find (dk_code 100) 0 = some (.aload_n 0, 1, 0, []) := by decide +kernel
theorem cd_100_1 : dk_find (dk_code 100) 1 = some (.iconst 0, 1, 0, []) := by decide +kernel
theorem cd_100_2 : dk_find (dk_code 100) 2 = some (.putfield 86, 3, 0, []) := by decide +kernel
theorem cd_100_5 : dk_find (dk_code 100) 5 = some (.iload_n 1, 1, 0, []) := by decide +kernel
theorem cd_100_6 : dk_find (dk_code 100) 6 = some (.iconst 0, 1, 0, []) := by decide +kernel
theorem cd_100_7 : dk_find (dk_code 100) 7 = some (.bipush (7), 2, 0, []) := by decide +kernel
theorem cd_100_9 : dk_find (dk_code 100) 9 = some (.invokestatic 90, 3, 0, []) := by decide +kernel
theorem cd_100_12 : dk_find (dk_code 100) 12 = some (.ifCond .eq (28), 3, 40, []) := by decide +kernel
theorem cd_100_15 : dk_find (dk_code 100) 15 = some (.iload_n 2, 1, 0, []) := by decide +kernel
theorem cd_100_16 : dk_find (dk_code 100) 16 = some (.iconst 0, 1, 0, []) := by decide +kernel
theorem cd_100_17 : dk_find (dk_code 100) 17 = some (.aload_n 0, 1, 0, []) := by decide +kernel
theorem cd_100_18 : dk_find (dk_code 100) 18 = some (.getfield 74, 3, 0, []) := by decide +kernel
theorem cd_100_21 : dk_find (dk_code 100) 21 = some (.iload_n 1, 1, 0, []) := by decide +kernel
theorem cd_100_22 : dk_find (dk_code 100) 22 = some (.iaload, 1, 0, []) := by decide +kernel
theorem cd_100_23 : dk_find (dk_code 100) 23 = some (.iconst 1, 1, 0, []) := by decide +kernel
theorem cd_100_24 : dk_find (dk_code 100) 24 = some (.isub, 1, 0, []) := by decide +kernel
theorem cd_100_25 : dk_find (dk_code 100) 25 = some (.invokestatic 90, 3, 0, []) := by decide +kernel
theorem cd_100_28 : dk_find (dk_code 100) 28 = some (.ifCond .eq (12), 3, 40, []) := by decide +kernel
theorem cd_100_31 : dk_find (dk_code 100) 31 = some (.iload_n 3, 1, 0, []) := by decide +kernel
theorem cd_100_32 : dk_find (dk_code 100) 32 = some (.iconst 0, 1, 0, []) := by decide +kernel
theorem cd_100_33 : dk_find (dk_code 100) 33 = some (.iconst 2, 1, 0, []) := by decide +kernel
theorem cd_100_34 : dk_find (dk_code 100) 34 = some (.invokestatic 90, 3, 0, []) := by decide +kernel
theorem cd_100_37 : dk_find (dk_code 100) 37 = some (.ifCond .ne (9), 3, 46, []) := by decide +kernel
theorem cd_100_40 : dk_find (dk_code 100) 40 = some (.aload_n 0, 1, 0, []) := by decide +kernel
theorem cd_100_41 : dk_find (dk_code 100) 41 = some (.iconst 1, 1, 0, []) := by decide +kernel
theorem cd_100_42 : dk_find (dk_code 100) 42 = some (.invokevirtual 98, 3, 0, []) := by decide +kernel
theorem cd_100_45 : dk_find (dk_code 100) 45 = some (.ireturn, 1, 0, []) := by decide +kernel
theorem cd_100_46 : dk_find (dk_code 100) 46 = some (.aload_n 0, 1, 0, []) := by decide +kernel
theorem cd_100_47 : dk_find (dk_code 100) 47 = some (.getfield 77, 3, 0, []) := by decide +kernel
theorem cd_100_50 : dk_find (dk_code 100) 50 = some (.bipush (64), 2, 0, []) := by decide +kernel
theorem cd_100_52 : dk_find (dk_code 100) 52 = some (.iload_n 1, 1, 0, []) := by decide +kernel
theorem cd_100_53 : dk_find (dk_code 100) 53 = some (.imul, 1, 0, []) := by decide +kernel
theorem cd_100_54 : dk_find (dk_code 100) 54 = some (.iload_n 2, 1, 0, []) := by decide +kernel
theorem cd_100_55 : dk_find (dk_code 100) 55 = some (.iadd, 1, 0, []) := by decide +kernel
theorem cd_100_56 : dk_find (dk_code 100) 56 = some (.iaload, 1, 0, []) := by decide +kernel
theorem cd_100_57 : dk_find (dk_code 100) 57 = some (.istore 4, 2, 0, []) := by decide +kernel
theorem cd_100_59 : dk_find (dk_code 100) 59 = some (.iload_n 3, 1, 0, []) := by decide +kernel
theorem cd_100_60 : dk_find (dk_code 100) 60 = some (.ifCond .ne (10), 3, 70, []) := by decide +kernel
theorem cd_100_63 : dk_find (dk_code 100) 63 = some (.iload 4, 2, 0, []) := by decide +kernel
theorem cd_100_65 : dk_find (dk_code 100) 65 = some (.iconst 4, 1, 0, []) := by decide +kernel
theorem cd_100_66 : dk_find (dk_code 100) 66 = some (.idiv, 1, 0, []) := by decide +kernel
theorem cd_100_67 : dk_find (dk_code 100) 67 = some (.goto (26), 3, 93, []) := by decide +kernel
theorem cd_100_70 : dk_find (dk_code 100) 70 = some (.iload_n 3, 1, 0, []) := by decide +kernel
theorem cd_100_71 : dk_find (dk_code 100) 71 = some (.iconst 1, 1, 0, []) := by decide +kernel
theorem cd_100_72 : dk_find (dk_code 100) 72 = some (.if_icmp .ne (17), 3, 89, []) := by decide +kernel
theorem cd_100_75 : dk_find (dk_code 100) 75 = some (.aload_n 0, 1, 0, []) := by decide +kernel
theorem cd_100_76 : dk_find (dk_code 100) 76 = some (.getfield 80, 3, 0, []) := by decide +kernel
theorem cd_100_79 : dk_find (dk_code 100) 79 = some (.bipush (64), 2, 0, []) := by decide +kernel
theorem cd_100_81 : dk_find (dk_code 100) 81 = some (.iload_n 1, 1, 0, []) := by decide +kernel
theorem cd_100_82 : dk_find (dk_code 100) 82 = some (.imul, 1, 0, []) := by decide +kernel
theorem cd_100_83 : dk_find (dk_code 100) 83 = some (.iload_n 2, 1, 0, []) := by decide +kernel
theorem cd_100_84 : dk_find (dk_code 100) 84 = some (.iadd, 1, 0, []) := by decide +kernel
theorem cd_100_85 : dk_find (dk_code 100) 85 = some (.iaload, 1, 0, []) := by decide +kernel
theorem cd_100_86 : dk_find (dk_code 100) 86 = some (.goto (7), 3, 93, []) := by decide +kernel
theorem cd_100_89 : dk_find (dk_code 100) 89 = some (.iload 4, 2, 0, []) := by decide +kernel
theorem cd_100_91 : dk_find (dk_code 100) 91 = some (.iconst 4, 1, 0, []) := by decide +kernel
theorem cd_100_92 : dk_find (dk_code 100) 92 = some (.irem, 1, 0, []) := by decide +kernel
theorem cd_100_93 : dk_find (dk_code 100) 93 = some (.ireturn, 1, 0, []) := by decide +kernel
theorem cd_101_0 : dk_find (dk_code 101) 0 = some (.aload_n 0, 1, 0, []) := by decide +kernel
theorem cd_101_1 : dk_find (dk_code 101) 1 = some (.iconst 0, 1, 0, []) := by decide +kernel
theorem cd_101_2 : dk_find (dk_code 101) 2 = some (.putfield 86, 3, 0, []) := by decide +kernel
theorem cd_101_5 : dk_find (dk_code 101) 5 = some (.iload_n 1, 1, 0, []) := by decide +kernel
theorem cd_101_6 : dk_find (dk_code 101) 6 = some (.iconst 0, 1, 0, []) := by decide +kernel
theorem cd_101_7 : dk_find (dk_code 101) 7 = some (.aload_n 0, 1, 0, []) := by decide +kernel
theorem cd_101_8 : dk_find (dk_code 101) 8 = some (.getfield 116, 3, 0, []) := by decide +kernel
theorem cd_101_11 : dk_find (dk_code 101) 11 = some (.iconst 1, 1, 0, []) := by decide +kernel
theorem cd_101_12 : dk_find (dk_code 101) 12 = some (.isub, 1, 0, []) := by decide +kernel
theorem cd_101_13 : dk_find (dk_code 101) 13 = some (.invokestatic 90, 3, 0, []) := by decide +kernel
theorem cd_101_16 : dk_find (dk_code 101) 16 = some (.ifCond .eq (25), 3, 41, []) := by decide +kernel
theorem cd_101_19 : dk_find (dk_code 101) 19 = some (.iload_n 2, 1, 0, []) := by decide +kernel
theorem cd_101_20 : dk_find (dk_code 101) 20 = some (.iconst 0, 1, 0, []) := by decide +kernel
theorem cd_101_21 : dk_find (dk_code 101) 21 = some (.iconst 4, 1, 0, []) := by decide +kernel
theorem cd_101_22 : dk_find (dk_code 101) 22 = some (.invokestatic 90, 3, 0, []) := by decide +kernel
theorem cd_101_25 : dk_find (dk_code 101) 25 = some (.ifCond .eq (16), 3, 41, []) := by decide +kernel
theorem cd_101_28 : dk_find (dk_code 101) 28 = some (.aload_n 0, 1, 0, []) := by decide +kernel
theorem cd_101_29 : dk_find (dk_code 101) 29 = some (.getfield 83, 3, 0, []) := by decide +kernel
theorem cd_101_32 : dk_find (dk_code 101) 32 = some (.iconst 5, 1, 0, []) := by decide +kernel
theorem cd_101_33 : dk_find (dk_code 101) 33 = some (.iload_n 1, 1, 0, []) := by decide +kernel
theorem cd_101_34 : dk_find (dk_code 101) 34 = some (.imul, 1, 0, []) := by decide +kernel
theorem cd_101_35 : dk_find (dk_code 101) 35 = some (.iload_n 2, 1, 0, []) := by decide +kernel
theorem cd_101_36 : dk_find (dk_code 101) 36 = some (.iadd, 1, 0, []) := by decide +kernel
theorem cd_101_37 : dk_find (dk_code 101) 37 = some (.iaload, 1, 0, []) := by decide +kernel
theorem cd_101_38 : dk_find (dk_code 101) 38 = some (.goto (8), 3, 46, []) := by decide +kernel
theorem cd_101_41 : dk_find (dk_code 101) 41 = some (.aload_n 0, 1, 0, []) := by decide +kernel
theorem cd_101_42 : dk_find (dk_code 101) 42 = some (.iconst 1, 1, 0, []) := by decide +kernel
theorem cd_101_43 : dk_find (dk_code 101) 43 = some (.invokevirtual 98, 3, 0, []) := by decide +kernel
theorem cd_101_46 : dk_find (dk_code 101) 46 = some (.ireturn, 1, 0, []) := by decide +kernel
theorem cd_102_0 : dk_find (dk_code 102) 0 = some (.aload_n 0, 1, 0, []) := by decide +kernel
theorem cd_102_1 : dk_find (dk_code 102) 1 = some (.iconst 0, 1, 0, []) := by decide +kernel
theorem cd_102_2 : dk_find (dk_code 102) 2 = some (.putfield 86, 3, 0, []) := by decide +kernel
theorem cd_102_5 : dk_find (dk_code 102) 5 = some (.iload_n 2, 1, 0, []) := by decide +kernel
theorem cd_102_6 : dk_find (dk_code 102) 6 = some (.iconst 1, 1, 0, []) := by decide +kernel
theorem cd_102_7 : dk_find (dk_code 102) 7 = some (.sipush (5000), 3, 0, []) := by decide +kernel
theorem cd_102_10 : dk_find (dk_code 102) 10 = some (.invokestatic 90, 3, 0, []) := by decide +kernel
theorem cd_102_13 : dk_find (dk_code 102) 13 = some (.ifCond .ne (9), 3, 22, []) := by decide +kernel
theorem cd_102_16 : dk_find (dk_code 102) 16 = some (.aload_n 0, 1, 0, []) := by decide +kernel
theorem cd_102_17 : dk_find (dk_code 102) 17 = some (.iconst 1, 1, 0, []) := by decide +kernel
theorem cd_102_18 : dk_find (dk_code 102) 18 = some (.invokevirtual 98, 3, 0, []) := by decide +kernel
theorem cd_102_21 : dk_find (dk_code 102) 21 = some (.ireturn, 1, 0, []) := by decide +kernel
theorem cd_102_22 : dk_find (dk_code 102) 22 = some (.iconst 0, 1, 0, []) := by decide +kernel
theorem cd_102_23 : dk_find (dk_code 102) 23 = some (.istore_n 3, 1, 0, []) := by decide +kernel
theorem cd_102_24 : dk_find (dk_code 102) 24 = some (.iconst 0, 1, 0, []) := by decide +kernel
theorem cd_102_25 : dk_find (dk_code 102) 25 = some (.istore 4, 2, 0, []) := by decide +kernel
theorem cd_102_27 : dk_find (dk_code 102) 27 = some (.iload 4, 2, 0, []) := by decide +kernel
theorem cd_102_29 : dk_find (dk_code 102) 29 = some (.bipush (16), 2, 0, []) := by decide +kernel
theorem cd_102_31 : dk_find (dk_code 102) 31 = some (.if_icmp .ge (27), 3, 58, []) := by decide +kernel
theorem cd_102_34 : dk_find (dk_code 102) 34 = some (.iload_n 3, 1, 0, []) := by decide +kernel
theorem cd_102_35 : dk_find (dk_code 102) 35 = some (.aload_n 0, 1, 0, []) := by decide +kernel
theorem cd_102_36 : dk_find (dk_code 102) 36 = some (.getfield 7, 3, 0, []) := by decide +kernel
theorem cd_102_39 : dk_find (dk_code 102) 39 = some (.iload 4, 2, 0, []) := by decide +kernel
theorem cd_102_41 : dk_find (dk_code 102) 41 = some (.baload, 1, 0, []) := by decide +kernel
theorem cd_102_42 : dk_find (dk_code 102) 42 = some (.ifCond .eq (7), 3, 49, []) := by decide +kernel
theorem cd_102_45 : dk_find (dk_code 102) 45 = some (.iconst 1, 1, 0, []) := by decide +kernel
theorem cd_102_46 : dk_find (dk_code 102) 46 = some (.goto (4), 3, 50, []) := by decide +kernel
theorem cd_102_49 : dk_find (dk_code 102) 49 = some (.iconst 0, 1, 0, []) := by decide +kernel
theorem cd_102_50 : dk_find (dk_code 102) 50 = some (.iadd, 1, 0, []) := by decide +kernel
theorem cd_102_51 : dk_find (dk_code 102) 51 = some (.istore_n 3, 1, 0, []) := by decide +kernel
theorem cd_102_52 : dk_find (dk_code 102) 52 = some (.iinc 4 (1), 3, 0, []) := by decide +kernel
theorem cd_102_55 : dk_find (dk_code 102) 55 = some (.goto (-28), 3, 27, []) := by decide +kernel
theorem cd_102_58 : dk_find (dk_code 102) 58 = some (.iload_n 3, 1, 0, []) := by decide +kernel
theorem cd_102_59 : dk_find (dk_code 102) 59 = some (.ifCond .ne (9), 3, 68, []) := by decide +kernel
theorem cd_102_62 : dk_find (dk_code 102) 62 = some (.aload_n 0, 1, 0, []) := by decide +kernel
theorem cd_102_63 : dk_find (dk_code 102) 63 = some (.iconst 2, 1, 0, []) := by decide +kernel
theorem cd_102_64 : dk_find (dk_code 102) 64 = some (.invokevirtual 98, 3, 0, []) := by decide +kernel
theorem cd_102_67 : dk_find (dk_code 102) 67 = some (.ireturn, 1, 0, []) := by decide +kernel
theorem cd_102_68 : dk_find (dk_code 102) 68 = some (.iload_n 1, 1, 0, []) := by decide +kernel
theorem cd_102_69 : dk_find (dk_code 102) 69 = some (.ldc 157, 2, 0, []) := by decide +kernel
theorem cd_102_71 : dk_find (dk_code 102) 71 = some (.iand, 1, 0, []) := by decide +kernel
theorem cd_102_72 : dk_find (dk_code 102) 72 = some (.istore 4, 2, 0, []) := by decide +kernel
theorem cd_102_74 : dk_find (dk_code 102) 74 = some (.iconst 0, 1, 0, []) := by decide +kernel
theorem cd_102_75 : dk_find (dk_code 102) 75 = some (.istore 5, 2, 0, []) := by decide +kernel
theorem cd_102_77 : dk_find (dk_code 102) 77 = some (.iconst 0, 1, 0, []) := by decide +kernel
theorem cd_102_78 : dk_find (dk_code 102) 78 = some (.istore 6, 2, 0, []) := by decide +kernel
theorem cd_102_80 : dk_find (dk_code 102) 80 = some (.iload 6, 2, 0, []) := by decide +kernel
theorem cd_102_82 : dk_find (dk_code 102) 82 = some (.iload_n 2, 1, 0, []) := by decide +kernel
theorem cd_102_83 : dk_find (dk_code 102) 83 = some (.if_icmp .ge (106), 3, 189, []) := by decide +kernel
theorem cd_102_86 : dk_find (dk_code 102) 86 = some (.ldc 158, 2, 0, []) := by decide +kernel
theorem cd_102_88 : dk_find (dk_code 102) 88 = some (.iload 4, 2, 0, []) := by decide +kernel
theorem cd_102_90 : dk_find (dk_code 102) 90 = some (.imul, 1, 0, []) := by decide +kernel
theorem cd_102_91 : dk_find (dk_code 102) 91 = some (.sipush (12345), 3, 0, []) := by decide +kernel
theorem cd_102_94 : dk_find (dk_code 102) 94 = some (.iadd, 1, 0, []) := by decide +kernel
theorem cd_102_95 : dk_find (dk_code 102) 95 = some (.ldc 157, 2, 0, []) := by decide +kernel
theorem cd_102_97 : dk_find (dk_code 102) 97 = some (.iand, 1, 0, []) := by decide +kernel
theorem cd_102_98 : dk_find (dk_code 102) 98 = some (.istore 4, 2, 0, []) := by decide +kernel
theorem cd_102_100 : dk_find (dk_code 102) 100 = some (.iload 4, 2, 0, []) := by decide +kernel
theorem cd_102_102 : dk_find (dk_code 102) 102 = some (.ldc 159, 2, 0, []) := by decide +kernel
theorem cd_102_104 : dk_find (dk_code 102) 104 = some (.idiv, 1, 0, []) := by decide +kernel
theorem cd_102_105 : dk_find (dk_code 102) 105 = some (.iload_n 3, 1, 0, []) := by decide +kernel
theorem cd_102_106 : dk_find (dk_code 102) 106 = some (.irem, 1, 0, []) := by decide +kernel
theorem cd_102_107 : dk_find (dk_code 102) 107 = some (.istore 7, 2, 0, []) := by decide +kernel
theorem cd_102_109 : dk_find (dk_code 102) 109 = some (.iconst 0, 1, 0, []) := by decide +kernel
theorem cd_102_110 : dk_find (dk_code 102) 110 = some (.istore 8, 2, 0, []) := by decide +kernel
theorem cd_102_112 : dk_find (dk_code 102) 112 = some (.aload_n 0, 1, 0, []) := by decide +kernel
theorem cd_102_113 : dk_find (dk_code 102) 113 = some (.getfield 7, 3, 0, []) := by decide +kernel
theorem cd_102_116 : dk_find (dk_code 102) 116 = some (.iload 8, 2, 0, []) := by decide +kernel
theorem cd_102_118 : dk_find (dk_code 102) 118 = some (.baload, 1, 0, []) := by decide +kernel
theorem cd_102_119 : dk_find (dk_code 102) 119 = some (.ifCond .eq (8), 3, 127, []) := by decide +kernel
theorem cd_102_122 : dk_find (dk_code 102) 122 = some (.iload 7, 2, 0, []) := by decide +kernel
theorem cd_102_124 : dk_find (dk_code 102) 124 = some (.ifCond .le (29), 3, 153, []) := by decide +kernel
theorem cd_102_127 : dk_find (dk_code 102) 127 = some (.iload 7, 2, 0, []) := by decide +kernel
theorem cd_102_129 : dk_find (dk_code 102) 129 = some (.aload_n 0, 1, 0, []) := by decide +kernel
theorem cd_102_130 : dk_find (dk_code 102) 130 = some (.getfield 7, 3, 0, []) := by decide +kernel
theorem cd_102_133 : dk_find (dk_code 102) 133 = some (.iload 8, 2, 0, []) := by decide +kernel
theorem cd_102_135 : dk_find (dk_code 102) 135 = some (.baload, 1, 0, []) := by decide +kernel
theorem cd_102_136 : dk_find (dk_code 102) 136 = some (.ifCond .eq (7), 3, 143, []) := by decide +kernel
theorem cd_102_139 : dk_find (dk_code 102) 139 = some (.iconst 1, 1, 0, []) := by decide +kernel
theorem cd_102_140 : dk_find (dk_code 102) 140 = some (.goto (4), 3, 144, []) := by decide +kernel
theorem cd_102_143 : dk_find (dk_code 102) 143 = some (.iconst 0, 1, 0, []) := by decide +kernel
theorem cd_102_144 : dk_find (dk_code 102) 144 = some (.isub, 1, 0, []) := by decide +kernel
theorem cd_102_145 : dk_find (dk_code 102) 145 = some (.istore 7, 2, 0, []) := by decide +kernel
theorem cd_102_147 : dk_find (dk_code 102) 147 = some (.iinc 8 (1), 3, 0, []) := by decide +kernel
theorem cd_102_150 : dk_find (dk_code 102) 150 = some (.goto (-38), 3, 112, []) := by decide +kernel
theorem cd_102_153 : dk_find (dk_code 102) 153 = some (.aload_n 0, 1, 0, []) := by decide +kernel
theorem cd_102_154 : dk_find (dk_code 102) 154 = some (.iload 8, 2, 0, []) := by decide +kernel
theorem cd_102_156 : dk_find (dk_code 102) 156 = some (.invokevirtual 151, 3, 0, []) := by decide +kernel
theorem cd_102_159 : dk_find (dk_code 102) 159 = some (.istore 9, 2, 0, []) := by decide +kernel
theorem cd_102_161 : dk_find (dk_code 102) 161 = some (.iload 5, 2, 0, []) := by decide +kernel
theorem cd_102_163 : dk_find (dk_code 102) 163 = some (.iload 9, 2, 0, []) := by decide +kernel
theorem cd_102_165 : dk_find (dk_code 102) 165 = some (.iconst 2, 1, 0, []) := by decide +kernel
theorem cd_102_166 : dk_find (dk_code 102) 166 = some (.if_icmp .eq (9), 3, 175, []) := by decide +kernel
theorem cd_102_169 : dk_find (dk_code 102) 169 = some (.iload 9, 2, 0, []) := by decide +kernel
theorem cd_102_171 : dk_find (dk_code 102) 171 = some (.iconst 3, 1, 0, []) := by decide +kernel
theorem cd_102_172 : dk_find (dk_code 102) 172 = some (.if_icmp .ne (7), 3, 179, []) := by decide +kernel
theorem cd_102_175 : dk_find (dk_code 102) 175 = some (.iconst 1, 1, 0, []) := by decide +kernel
theorem cd_102_176 : dk_find (dk_code 102) 176 = some (.goto (4), 3, 180, []) := by decide +kernel
theorem cd_102_179 : dk_find (dk_code 102) 179 = some (.iconst 0, 1, 0, []) := by decide +kernel
theorem cd_102_180 : dk_find (dk_code 102) 180 = some (.iadd, 1, 0, []) := by decide +kernel
theorem cd_102_181 : dk_find (dk_code 102) 181 = some (.istore 5, 2, 0, []) := by decide +kernel
theorem cd_102_183 : dk_find (dk_code 102) 183 = some (.iinc 6 (1), 3, 0, []) := by decide +kernel
theorem cd_102_186 : dk_find (dk_code 102) 186 = some (.goto (-106), 3, 80, []) := by decide +kernel
theorem cd_102_189 : dk_find (dk_code 102) 189 = some (.iload 5, 2, 0, []) := by decide +kernel
theorem cd_102_191 : dk_find (dk_code 102) 191 = some (.ireturn, 1, 0, []) := by decide +kernel
theorem cd_103_0 : dk_find (dk_code 103) 0 = some (.aload_n 0, 1, 0, []) := by decide +kernel
theorem cd_103_1 : dk_find (dk_code 103) 1 = some (.iconst 0, 1, 0, []) := by decide +kernel
theorem cd_103_2 : dk_find (dk_code 103) 2 = some (.putfield 86, 3, 0, []) := by decide +kernel
theorem cd_103_5 : dk_find (dk_code 103) 5 = some (.iload_n 1, 1, 0, []) := by decide +kernel
theorem cd_103_6 : dk_find (dk_code 103) 6 = some (.iconst 0, 1, 0, []) := by decide +kernel
theorem cd_103_7 : dk_find (dk_code 103) 7 = some (.iconst 4, 1, 0, []) := by decide +kernel
theorem cd_103_8 : dk_find (dk_code 103) 8 = some (.invokestatic 90, 3, 0, []) := by decide +kernel
theorem cd_103_11 : dk_find (dk_code 103) 11 = some (.ifCond .ne (5), 3, 16, []) := by decide +kernel
theorem cd_103_14 : dk_find (dk_code 103) 14 = some (.iconst (-1), 1, 0, []) := by decide +kernel
theorem cd_103_15 : dk_find (dk_code 103) 15 = some (.ireturn, 1, 0, []) := by decide +kernel
theorem cd_103_16 : dk_find (dk_code 103) 16 = some (.iload_n 1, 1, 0, []) := by decide +kernel
theorem cd_103_17 : dk_find (dk_code 103) 17 = some (.iconst 4, 1, 0, []) := by decide +kernel
theorem cd_103_18 : dk_find (dk_code 103) 18 = some (.if_icmp .ne (8), 3, 26, []) := by decide +kernel
theorem cd_103_21 : dk_find (dk_code 103) 21 = some (.aload_n 0, 1, 0, []) := by decide +kernel
theorem cd_103_22 : dk_find (dk_code 103) 22 = some (.getfield 105, 3, 0, []) := by decide +kernel
theorem cd_103_25 : dk_find (dk_code 103) 25 = some (.ireturn, 1, 0, []) := by decide +kernel
theorem cd_103_26 : dk_find (dk_code 103) 26 = some (.iload_n 1, 1, 0, []) := by decide +kernel
theorem cd_103_27 : dk_find (dk_code 103) 27 = some (.iconst 2, 1, 0, []) := by decide +kernel
theorem cd_103_28 : dk_find (dk_code 103) 28 = some (.if_icmp .ne (8), 3, 36, []) := by decide +kernel
theorem cd_103_31 : dk_find (dk_code 103) 31 = some (.aload_n 0, 1, 0, []) := by decide +kernel
theorem cd_103_32 : dk_find (dk_code 103) 32 = some (.getfield 116, 3, 0, []) := by decide +kernel
theorem cd_103_35 : dk_find (dk_code 103) 35 = some (.ireturn, 1, 0, []) := by decide +kernel
theorem cd_103_36 : dk_find (dk_code 103) 36 = some (.iconst 0, 1, 0, []) := by decide +kernel
theorem cd_103_37 : dk_find (dk_code 103) 37 = some (.istore_n 2, 1, 0, []) := by decide +kernel
theorem cd_103_38 : dk_find (dk_code 103) 38 = some (.iload_n 1, 1, 0, []) := by decide +kernel
theorem cd_103_39 : dk_find (dk_code 103) 39 = some (.iconst 3, 1, 0, []) := by decide +kernel
theorem cd_103_40 : dk_find (dk_code 103) 40 = some (.if_icmp .ne (29), 3, 69, []) := by decide +kernel
theorem cd_103_43 : dk_find (dk_code 103) 43 = some (.iconst 0, 1, 0, []) := by decide +kernel
theorem cd_103_44 : dk_find (dk_code 103) 44 = some (.istore_n 3, 1, 0, []) := by decide +kernel
theorem cd_103_45 : dk_find (dk_code 103) 45 = some (.iload_n 3, 1, 0, []) := by decide +kernel
theorem cd_103_46 : dk_find (dk_code 103) 46 = some (.bipush (8), 2, 0, []) := by decide +kernel
theorem cd_103_48 : dk_find (dk_code 103) 48 = some (.if_icmp .ge (18), 3, 66, []) := by decide +kernel
theorem cd_103_51 : dk_find (dk_code 103) 51 = some (.iload_n 2, 1, 0, []) := by decide +kernel
theorem cd_103_52 : dk_find (dk_code 103) 52 = some (.aload_n 0, 1, 0, []) := by decide +kernel
theorem cd_103_53 : dk_find (dk_code 103) 53 = some (.getfield 74, 3, 0, []) := by decide +kernel
theorem cd_103_56 : dk_find (dk_code 103) 56 = some (.iload_n 3, 1, 0, []) := by decide +kernel
theorem cd_103_57 : dk_find (dk_code 103) 57 = some (.iaload, 1, 0, []) := by decide +kernel
theorem cd_103_58 : dk_find (dk_code 103) 58 = some (.iadd, 1, 0, []) := by decide +kernel
theorem cd_103_59 : dk_find (dk_code 103) 59 = some (.istore_n 2, 1, 0, []) := by decide +kernel
theorem cd_103_60 : dk_find (dk_code 103) 60 = some (.iinc 3 (1), 3, 0, []) := by decide +kernel
theorem cd_103_63 : dk_find (dk_code 103) 63 = some (.goto (-18), 3, 45, []) := by decide +kernel
theorem cd_103_66 : dk_find (dk_code 103) 66 = some (.goto (46), 3, 112, []) := by decide +kernel
theorem cd_103_69 : dk_find (dk_code 103) 69 = some (.iconst 0, 1, 0, []) := by decide +kernel
theorem cd_103_70 : dk_find (dk_code 103) 70 = some (.istore_n 3, 1, 0, []) := by decide +kernel
theorem cd_103_71 : dk_find (dk_code 103) 71 = some (.iload_n 3, 1, 0, []) := by decide +kernel
theorem cd_103_72 : dk_find (dk_code 103) 72 = some (.bipush (16), 2, 0, []) := by decide +kernel
theorem cd_103_74 : dk_find (dk_code 103) 74 = some (.if_icmp .ge (38), 3, 112, []) := by decide +kernel
theorem cd_103_77 : dk_find (dk_code 103) 77 = some (.iload_n 2, 1, 0, []) := by decide +kernel
theorem cd_103_78 : dk_find (dk_code 103) 78 = some (.aload_n 0, 1, 0, []) := by decide +kernel
theorem cd_103_79 : dk_find (dk_code 103) 79 = some (.getfield 7, 3, 0, []) := by decide +kernel
theorem cd_103_82 : dk_find (dk_code 103) 82 = some (.iload_n 3, 1, 0, []) := by decide +kernel
theorem cd_103_83 : dk_find (dk_code 103) 83 = some (.baload, 1, 0, []) := by decide +kernel
theorem cd_103_84 : dk_find (dk_code 103) 84 = some (.ifCond .eq (19), 3, 103, []) := by decide +kernel
theorem cd_103_87 : dk_find (dk_code 103) 87 = some (.iload_n 1, 1, 0, []) := by decide +kernel
theorem cd_103_88 : dk_find (dk_code 103) 88 = some (.ifCond .eq (11), 3, 99, []) := by decide +kernel
theorem cd_103_91 : dk_find (dk_code 103) 91 = some (.aload_n 0, 1, 0, []) := by decide +kernel
theorem cd_103_92 : dk_find (dk_code 103) 92 = some (.iload_n 3, 1, 0, []) := by decide +kernel
theorem cd_103_93 : dk_find (dk_code 103) 93 = some (.invokevirtual 102, 3, 0, []) := by decide +kernel
theorem cd_103_96 : dk_find (dk_code 103) 96 = some (.ifCond .ne (7), 3, 103, []) := by decide +kernel
theorem cd_103_99 : dk_find (dk_code 103) 99 = some (.iconst 1, 1, 0, []) := by decide +kernel
theorem cd_103_100 : dk_find (dk_code 103) 100 = some (.goto (4), 3, 104, []) := by decide +kernel
theorem cd_103_103 : dk_find (dk_code 103) 103 = some (.iconst 0, 1, 0, []) := by decide +kernel
theorem cd_103_104 : dk_find (dk_code 103) 104 = some (.iadd, 1, 0, []) := by decide +kernel
theorem cd_103_105 : dk_find (dk_code 103) 105 = some (.istore_n 2, 1, 0, []) := by decide +kernel
theorem cd_103_106 : dk_find (dk_code 103) 106 = some (.iinc 3 (1), 3, 0, []) := by decide +kernel
theorem cd_103_109 : dk_find (dk_code 103) 109 = some (.goto (-38), 3, 71, []) := by decide +kernel
theorem cd_103_112 : dk_find (dk_code 103) 112 = some (.iload_n 2, 1, 0, []) := by decide +kernel
theorem cd_103_113 : dk_find (dk_code 103) 113 = some (.ireturn, 1, 0, []) := by decide +kernel
theorem cd_104_23 : dk_find (dk_code 104) 23 = some (.iload 4, 2, 0, []) := by decide +kernel
theorem cd_104_25 : dk_find (dk_code 104) 25 = some (.aload_n 0, 1, 0, []) := by decide +kernel
theorem cd_104_26 : dk_find (dk_code 104) 26 = some (.arraylength, 1, 0, []) := by decide +kernel
theorem cd_104_27 : dk_find (dk_code 104) 27 = some (.bipush (6), 2, 0, []) := by decide +kernel
theorem cd_104_29 : dk_find (dk_code 104) 29 = some (.isub, 1, 0, []) := by decide +kernel
theorem cd_104_30 : dk_find (dk_code 104) 30 = some (.if_icmp .gt (861), 3, 891, []) := by decide +kernel
theorem cd_104_33 : dk_find (dk_code 104) 33 = some (.aload_n 0, 1, 0, []) := by decide +kernel
theorem cd_104_34 : dk_find (dk_code 104) 34 = some (.iload 4, 2, 0, []) := by decide +kernel
theorem cd_104_36 : dk_find (dk_code 104) 36 = some (.iaload, 1, 0, []) := by decide +kernel
theorem cd_104_37 : dk_find (dk_code 104) 37 = some (.bipush (15), 2, 0, []) := by decide +kernel
theorem cd_104_39 : dk_find (dk_code 104) 39 = some (.iand, 1, 0, []) := by decide +kernel
theorem cd_104_40 : dk_find (dk_code 104) 40 = some (.tableswitch (845) (0) (12) #[68, 104, 224, 292, 348, 404, 417, 480, 536, 604, 684, 752, 820], 68, 885, [(0, 108), (1, 144), (2, 264), (3, 332), (4, 388), (5, 444), (6, 457), (7, 520), (8, 576), (9, 644), (10, 724), (11, 792), (12, 860)]) := by decide +kernel
theorem cd_104_108 : dk_find (dk_code 104) 108 = some (.aload_n 1, 1, 0, []) := by decide +kernel
theorem cd_104_109 : dk_find (dk_code 104) 109 = some (.aload_n 0, 1, 0, []) := by decide +kernel
theorem cd_104_110 : dk_find (dk_code 104) 110 = some (.iload 4, 2, 0, []) := by decide +kernel
theorem cd_104_112 : dk_find (dk_code 104) 112 = some (.iconst 1, 1, 0, []) := by decide +kernel
theorem cd_104_113 : dk_find (dk_code 104) 113 = some (.iadd, 1, 0, []) := by decide +kernel
theorem cd_104_114 : dk_find (dk_code 104) 114 = some (.iaload, 1, 0, []) := by decide +kernel
theorem cd_104_115 : dk_find (dk_code 104) 115 = some (.invokestatic 60, 3, 0, []) := by decide +kernel
theorem cd_104_118 : dk_find (dk_code 104) 118 = some (.istore 5, 2, 0, []) := by decide +kernel
theorem cd_104_120 : dk_find (dk_code 104) 120 = some (.aload_n 2, 1, 0, []) := by decide +kernel
theorem cd_104_121 : dk_find (dk_code 104) 121 = some (.aload_n 0, 1, 0, []) := by decide +kernel
theorem cd_104_122 : dk_find (dk_code 104) 122 = some (.iload 4, 2, 0, []) := by decide +kernel
theorem cd_104_124 : dk_find (dk_code 104) 124 = some (.iconst 1, 1, 0, []) := by decide +kernel
theorem cd_104_125 : dk_find (dk_code 104) 125 = some (.iadd, 1, 0, []) := by decide +kernel
theorem cd_104_126 : dk_find (dk_code 104) 126 = some (.iaload, 1, 0, []) := by decide +kernel
theorem cd_104_127 : dk_find (dk_code 104) 127 = some (.invokevirtual 65, 3, 0, []) := by decide +kernel
theorem cd_104_130 : dk_find (dk_code 104) 130 = some (.aload_n 2, 1, 0, []) := by decide +kernel
theorem cd_104_131 : dk_find (dk_code 104) 131 = some (.invokevirtual 66, 3, 0, []) := by decide +kernel
theorem cd_104_134 : dk_find (dk_code 104) 134 = some (.iload 5, 2, 0, []) := by decide +kernel
theorem cd_104_136 : dk_find (dk_code 104) 136 = some (.if_icmp .eq (5), 3, 141, []) := by decide +kernel
theorem cd_104_139 : dk_find (dk_code 104) 139 = some (.iconst 0, 1, 0, []) := by decide +kernel
theorem cd_104_140 : dk_find (dk_code 104) 140 = some (.ireturn, 1, 0, []) := by decide +kernel
theorem cd_104_141 : dk_find (dk_code 104) 141 = some (.goto (744), 3, 885, []) := by decide +kernel
theorem cd_104_144 : dk_find (dk_code 104) 144 = some (.aload_n 1, 1, 0, []) := by decide +kernel
theorem cd_104_145 : dk_find (dk_code 104) 145 = some (.aload_n 0, 1, 0, []) := by decide +kernel
theorem cd_104_146 : dk_find (dk_code 104) 146 = some (.iload 4, 2, 0, []) := by decide +kernel
theorem cd_104_148 : dk_find (dk_code 104) 148 = some (.iconst 1, 1, 0, []) := by decide +kernel
theorem cd_104_149 : dk_find (dk_code 104) 149 = some (.iadd, 1, 0, []) := by decide +kernel
theorem cd_104_150 : dk_find (dk_code 104) 150 = some (.iaload, 1, 0, []) := by decide +kernel
theorem cd_104_151 : dk_find (dk_code 104) 151 = some (.aload_n 0, 1, 0, []) := by decide +kernel
theorem cd_104_152 : dk_find (dk_code 104) 152 = some (.iload 4, 2, 0, []) := by decide +kernel
theorem cd_104_154 : dk_find (dk_code 104) 154 = some (.iconst 2, 1, 0, []) := by decide +kernel
theorem cd_104_155 : dk_find (dk_code 104) 155 = some (.iadd, 1, 0, []) := by decide +kernel
theorem cd_104_156 : dk_find (dk_code 104) 156 = some (.iaload, 1, 0, []) := by decide +kernel
theorem cd_104_157 : dk_find (dk_code 104) 157 = some (.aload_n 0, 1, 0, []) := by decide +kernel
theorem cd_104_158 : dk_find (dk_code 104) 158 = some (.iload 4, 2, 0, []) := by decide +kernel
theorem cd_104_160 : dk_find (dk_code 104) 160 = some (.iconst 3, 1, 0, []) := by decide +kernel
theorem cd_104_161 : dk_find (dk_code 104) 161 = some (.iadd, 1, 0, []) := by decide +kernel
theorem cd_104_162 : dk_find (dk_code 104) 162 = some (.iaload, 1, 0, []) := by decide +kernel
theorem cd_104_163 : dk_find (dk_code 104) 163 = some (.aload_n 0, 1, 0, []) := by decide +kernel
theorem cd_104_164 : dk_find (dk_code 104) 164 = some (.iload 4, 2, 0, []) := by decide +kernel
theorem cd_104_166 : dk_find (dk_code 104) 166 = some (.iconst 4, 1, 0, []) := by decide +kernel
theorem cd_104_167 : dk_find (dk_code 104) 167 = some (.iadd, 1, 0, []) := by decide +kernel
theorem cd_104_168 : dk_find (dk_code 104) 168 = some (.iaload, 1, 0, []) := by decide +kernel
theorem cd_104_169 : dk_find (dk_code 104) 169 = some (.aload_n 0, 1, 0, []) := by decide +kernel
theorem cd_104_170 : dk_find (dk_code 104) 170 = some (.iload 4, 2, 0, []) := by decide +kernel
theorem cd_104_172 : dk_find (dk_code 104) 172 = some (.iconst 5, 1, 0, []) := by decide +kernel
theorem cd_104_173 : dk_find (dk_code 104) 173 = some (.iadd, 1, 0, []) := by decide +kernel
theorem cd_104_174 : dk_find (dk_code 104) 174 = some (.iaload, 1, 0, []) := by decide +kernel
theorem cd_104_175 : dk_find (dk_code 104) 175 = some (.ifCond .eq (7), 3, 182, []) := by decide +kernel
theorem cd_104_178 : dk_find (dk_code 104) 178 = some (.iconst 1, 1, 0, []) := by decide +kernel
theorem cd_104_179 : dk_find (dk_code 104) 179 = some (.goto (4), 3, 183, []) := by decide +kernel
theorem cd_104_182 : dk_find (dk_code 104) 182 = some (.iconst 0, 1, 0, []) := by decide +kernel
theorem cd_104_183 : dk_find (dk_code 104) 183 = some (.aload_n 3, 1, 0, []) := by decide +kernel
theorem cd_104_184 : dk_find (dk_code 104) 184 = some (.invokestatic 70, 3, 0, []) := by decide +kernel
theorem cd_104_187 : dk_find (dk_code 104) 187 = some (.istore 5, 2, 0, []) := by decide +kernel
theorem cd_104_189 : dk_find (dk_code 104) 189 = some (.aload_n 2, 1, 0, []) := by decide +kernel
theorem cd_104_190 : dk_find (dk_code 104) 190 = some (.aload_n 0, 1, 0, []) := by decide +kernel
theorem cd_104_191 : dk_find (dk_code 104) 191 = some (.iload 4, 2, 0, []) := by decide +kernel
theorem cd_104_193 : dk_find (dk_code 104) 193 = some (.iconst 1, 1, 0, []) := by decide +kernel
theorem cd_104_194 : dk_find (dk_code 104) 194 = some (.iadd, 1, 0, []) := by decide +kernel
theorem cd_104_195 : dk_find (dk_code 104) 195 = some (.iaload, 1, 0, []) := by decide +kernel
theorem cd_104_196 : dk_find (dk_code 104) 196 = some (.aload_n 0, 1, 0, []) := by decide +kernel
theorem cd_104_197 : dk_find (dk_code 104) 197 = some (.iload 4, 2, 0, []) := by decide +kernel
theorem cd_104_199 : dk_find (dk_code 104) 199 = some (.iconst 2, 1, 0, []) := by decide +kernel
theorem cd_104_200 : dk_find (dk_code 104) 200 = some (.iadd, 1, 0, []) := by decide +kernel
theorem cd_104_201 : dk_find (dk_code 104) 201 = some (.iaload, 1, 0, []) := by decide +kernel
theorem cd_104_202 : dk_find (dk_code 104) 202 = some (.aload_n 0, 1, 0, []) := by decide +kernel
theorem cd_104_203 : dk_find (dk_code 104) 203 = some (.iload 4, 2, 0, []) := by decide +kernel
theorem cd_104_205 : dk_find (dk_code 104) 205 = some (.iconst 3, 1, 0, []) := by decide +kernel
theorem cd_104_206 : dk_find (dk_code 104) 206 = some (.iadd, 1, 0, []) := by decide +kernel
theorem cd_104_207 : dk_find (dk_code 104) 207 = some (.iaload, 1, 0, []) := by decide +kernel
theorem cd_104_208 : dk_find (dk_code 104) 208 = some (.aload_n 0, 1, 0, []) := by decide +kernel
theorem cd_104_209 : dk_find (dk_code 104) 209 = some (.iload 4, 2, 0, []) := by decide +kernel
theorem cd_104_211 : dk_find (dk_code 104) 211 = some (.iconst 4, 1, 0, []) := by decide +kernel
theorem cd_104_212 : dk_find (dk_code 104) 212 = some (.iadd, 1, 0, []) := by decide +kernel
theorem cd_104_213 : dk_find (dk_code 104) 213 = some (.iaload, 1, 0, []) := by decide +kernel
theorem cd_104_214 : dk_find (dk_code 104) 214 = some (.aload_n 0, 1, 0, []) := by decide +kernel
theorem cd_104_215 : dk_find (dk_code 104) 215 = some (.iload 4, 2, 0, []) := by decide +kernel
theorem cd_104_217 : dk_find (dk_code 104) 217 = some (.iconst 5, 1, 0, []) := by decide +kernel
theorem cd_104_218 : dk_find (dk_code 104) 218 = some (.iadd, 1, 0, []) := by decide +kernel
theorem cd_104_219 : dk_find (dk_code 104) 219 = some (.iaload, 1, 0, []) := by decide +kernel
theorem cd_104_220 : dk_find (dk_code 104) 220 = some (.ifCond .eq (7), 3, 227, []) := by decide +kernel
theorem cd_104_223 : dk_find (dk_code 104) 223 = some (.iconst 1, 1, 0, []) := by decide +kernel
theorem cd_104_224 : dk_find (dk_code 104) 224 = some (.goto (4), 3, 228, []) := by decide +kernel
theorem cd_104_227 : dk_find (dk_code 104) 227 = some (.iconst 0, 1, 0, []) := by decide +kernel
theorem cd_104_228 : dk_find (dk_code 104) 228 = some (.invokevirtual 73, 3, 0, []) := by decide +kernel
theorem cd_104_231 : dk_find (dk_code 104) 231 = some (.istore 6, 2, 0, []) := by decide +kernel
theorem cd_104_233 : dk_find (dk_code 104) 233 = some (.aload_n 2, 1, 0, []) := by decide +kernel
theorem cd_104_234 : dk_find (dk_code 104) 234 = some (.invokevirtual 66, 3, 0, []) := by decide +kernel
theorem cd_104_237 : dk_find (dk_code 104) 237 = some (.iload 5, 2, 0, []) := by decide +kernel
theorem cd_104_239 : dk_find (dk_code 104) 239 = some (.if_icmp .eq (5), 3, 244, []) := by decide +kernel
theorem cd_104_242 : dk_find (dk_code 104) 242 = some (.iconst 0, 1, 0, []) := by decide +kernel
theorem cd_104_243 : dk_find (dk_code 104) 243 = some (.ireturn, 1, 0, []) := by decide +kernel
theorem cd_104_244 : dk_find (dk_code 104) 244 = some (.iload 5, 2, 0, []) := by decide +kernel
theorem cd_104_246 : dk_find (dk_code 104) 246 = some (.ifCond .ne (15), 3, 261, []) := by decide +kernel
theorem cd_104_249 : dk_find (dk_code 104) 249 = some (.aload_n 3, 1, 0, []) := by decide +kernel
theorem cd_104_250 : dk_find (dk_code 104) 250 = some (.iconst 0, 1, 0, []) := by decide +kernel
theorem cd_104_251 : dk_find (dk_code 104) 251 = some (.laload, 1, 0, []) := by decide +kernel
theorem cd_104_252 : dk_find (dk_code 104) 252 = some (.iload 6, 2, 0, []) := by decide +kernel
theorem cd_104_254 : dk_find (dk_code 104) 254 = some (.i2l, 1, 0, []) := by decide +kernel
theorem cd_104_255 : dk_find (dk_code 104) 255 = some (.lcmp, 1, 0, []) := by decide +kernel
theorem cd_104_256 : dk_find (dk_code 104) 256 = some (.ifCond .eq (5), 3, 261, []) := by decide +kernel
theorem cd_104_259 : dk_find (dk_code 104) 259 = some (.iconst 0, 1, 0, []) := by decide +kernel
theorem cd_104_260 : dk_find (dk_code 104) 260 = some (.ireturn, 1, 0, []) := by decide +kernel
theorem cd_104_261 : dk_find (dk_code 104) 261 = some (.goto (624), 3, 885, []) := by decide +kernel
theorem cd_104_264 : dk_find (dk_code 104) 264 = some (.aload_n 1, 1, 0, []) := by decide +kernel
theorem cd_104_265 : dk_find (dk_code 104) 265 = some (.aload_n 0, 1, 0, []) := by decide +kernel
theorem cd_104_266 : dk_find (dk_code 104) 266 = some (.iload 4, 2, 0, []) := by decide +kernel
theorem cd_104_268 : dk_find (dk_code 104) 268 = some (.iconst 1, 1, 0, []) := by decide +kernel
theorem cd_104_269 : dk_find (dk_code 104) 269 = some (.iadd, 1, 0, []) := by decide +kernel
theorem cd_104_270 : dk_find (dk_code 104) 270 = some (.iaload, 1, 0, []) := by decide +kernel
theorem cd_104_271 : dk_find (dk_code 104) 271 = some (.aload_n 0, 1, 0, []) := by decide +kernel
theorem cd_104_272 : dk_find (dk_code 104) 272 = some (.iload 4, 2, 0, []) := by decide +kernel
theorem cd_104_274 : dk_find (dk_code 104) 274 = some (.iconst 2, 1, 0, []) := by decide +kernel
theorem cd_104_275 : dk_find (dk_code 104) 275 = some (.iadd, 1, 0, []) := by decide +kernel
theorem cd_104_276 : dk_find (dk_code 104) 276 = some (.iaload, 1, 0, []) := by decide +kernel
theorem cd_104_277 : dk_find (dk_code 104) 277 = some (.aload_n 3, 1, 0, []) := by decide +kernel
theorem cd_104_278 : dk_find (dk_code 104) 278 = some (.invokestatic 74, 3, 0, []) := by decide +kernel
theorem cd_104_281 : dk_find (dk_code 104) 281 = some (.istore 5, 2, 0, []) := by decide +kernel
theorem cd_104_283 : dk_find (dk_code 104) 283 = some (.aload_n 2, 1, 0, []) := by decide +kernel
theorem cd_104_284 : dk_find (dk_code 104) 284 = some (.aload_n 0, 1, 0, []) := by decide +kernel
theorem cd_104_285 : dk_find (dk_code 104) 285 = some (.iload 4, 2, 0, []) := by decide +kernel
theorem cd_104_287 : dk_find (dk_code 104) 287 = some (.iconst 1, 1, 0, []) := by decide +kernel
theorem cd_104_288 : dk_find (dk_code 104) 288 = some (.iadd, 1, 0, []) := by decide +kernel
theorem cd_104_289 : dk_find (dk_code 104) 289 = some (.iaload, 1, 0, []) := by decide +kernel
theorem cd_104_290 : dk_find (dk_code 104) 290 = some (.aload_n 0, 1, 0, []) := by decide +kernel
theorem cd_104_291 : dk_find (dk_code 104) 291 = some (.iload 4, 2, 0, []) := by decide +kernel
theorem cd_104_293 : dk_find (dk_code 104) 293 = some (.iconst 2, 1, 0, []) := by decide +kernel
theorem cd_104_294 : dk_find (dk_code 104) 294 = some (.iadd, 1, 0, []) := by decide +kernel
theorem cd_104_295 : dk_find (dk_code 104) 295 = some (.iaload, 1, 0, []) := by decide +kernel
theorem cd_104_296 : dk_find (dk_code 104) 296 = some (.invokevirtual 77, 3, 0, []) := by decide +kernel
theorem cd_104_299 : dk_find (dk_code 104) 299 = some (.istore 6, 2, 0, []) := by decide +kernel
theorem cd_104_301 : dk_find (dk_code 104) 301 = some (.aload_n 2, 1, 0, []) := by decide +kernel
theorem cd_104_302 : dk_find (dk_code 104) 302 = some (.invokevirtual 66, 3, 0, []) := by decide +kernel
theorem cd_104_305 : dk_find (dk_code 104) 305 = some (.iload 5, 2, 0, []) := by decide +kernel
theorem cd_104_307 : dk_find (dk_code 104) 307 = some (.if_icmp .eq (5), 3, 312, []) := by decide +kernel
theorem cd_104_310 : dk_find (dk_code 104) 310 = some (.iconst 0, 1, 0, []) := by decide +kernel
theorem cd_104_311 : dk_find (dk_code 104) 311 = some (.ireturn, 1, 0, []) := by decide +kernel
theorem cd_104_312 : dk_find (dk_code 104) 312 = some (.iload 5, 2, 0, []) := by decide +kernel
theorem cd_104_314 : dk_find (dk_code 104) 314 = some (.ifCond .ne (15), 3, 329, []) := by decide +kernel
theorem cd_104_317 : dk_find (dk_code 104) 317 = some (.aload_n 3, 1, 0, []) := by decide +kernel
theorem cd_104_318 : dk_find (dk_code 104) 318 = some (.iconst 0, 1, 0, []) := by decide +kernel
theorem cd_104_319 : dk_find (dk_code 104) 319 = some (.laload, 1, 0, []) := by decide +kernel
theorem cd_104_320 : dk_find (dk_code 104) 320 = some (.iload 6, 2, 0, []) := by decide +kernel
theorem cd_104_322 : dk_find (dk_code 104) 322 = some (.i2l, 1, 0, []) := by decide +kernel
theorem cd_104_323 : dk_find (dk_code 104) 323 = some (.lcmp, 1, 0, []) := by decide +kernel
theorem cd_104_324 : dk_find (dk_code 104) 324 = some (.ifCond .eq (5), 3, 329, []) := by decide +kernel
theorem cd_104_327 : dk_find (dk_code 104) 327 = some (.iconst 0, 1, 0, []) := by decide +kernel
theorem cd_104_328 : dk_find (dk_code 104) 328 = some (.ireturn, 1, 0, []) := by decide +kernel
theorem cd_104_329 : dk_find (dk_code 104) 329 = some (.goto (556), 3, 885, []) := by decide +kernel
theorem cd_104_332 : dk_find (dk_code 104) 332 = some (.aload_n 1, 1, 0, []) := by decide +kernel
theorem cd_104_333 : dk_find (dk_code 104) 333 = some (.aload_n 0, 1, 0, []) := by decide +kernel
theorem cd_104_334 : dk_find (dk_code 104) 334 = some (.iload 4, 2, 0, []) := by decide +kernel
theorem cd_104_336 : dk_find (dk_code 104) 336 = some (.iconst 1, 1, 0, []) := by decide +kernel
theorem cd_104_337 : dk_find (dk_code 104) 337 = some (.iadd, 1, 0, []) := by decide +kernel
theorem cd_104_338 : dk_find (dk_code 104) 338 = some (.iaload, 1, 0, []) := by decide +kernel
theorem cd_104_339 : dk_find (dk_code 104) 339 = some (.aload_n 3, 1, 0, []) := by decide +kernel
theorem cd_104_340 : dk_find (dk_code 104) 340 = some (.invokestatic 78, 3, 0, []) := by decide +kernel
theorem cd_104_343 : dk_find (dk_code 104) 343 = some (.istore 5, 2, 0, []) := by decide +kernel
theorem cd_104_345 : dk_find (dk_code 104) 345 = some (.aload_n 2, 1, 0, []) := by decide +kernel
theorem cd_104_346 : dk_find (dk_code 104) 346 = some (.aload_n 0, 1, 0, []) := by decide +kernel
theorem cd_104_347 : dk_find (dk_code 104) 347 = some (.iload 4, 2, 0, []) := by decide +kernel
theorem cd_104_349 : dk_find (dk_code 104) 349 = some (.iconst 1, 1, 0, []) := by decide +kernel
theorem cd_104_350 : dk_find (dk_code 104) 350 = some (.iadd, 1, 0, []) := by decide +kernel
theorem cd_104_351 : dk_find (dk_code 104) 351 = some (.iaload, 1, 0, []) := by decide +kernel
theorem cd_104_352 : dk_find (dk_code 104) 352 = some (.invokevirtual 81, 3, 0, []) := by decide +kernel
theorem cd_104_355 : dk_find (dk_code 104) 355 = some (.istore 6, 2, 0, []) := by decide +kernel
theorem cd_104_357 : dk_find (dk_code 104) 357 = some (.aload_n 2, 1, 0, []) := by decide +kernel
theorem cd_104_358 : dk_find (dk_code 104) 358 = some (.invokevirtual 66, 3, 0, []) := by decide +kernel
theorem cd_104_361 : dk_find (dk_code 104) 361 = some (.iload 5, 2, 0, []) := by decide +kernel
theorem cd_104_363 : dk_find (dk_code 104) 363 = some (.if_icmp .eq (5), 3, 368, []) := by decide +kernel
theorem cd_104_366 : dk_find (dk_code 104) 366 = some (.iconst 0, 1, 0, []) := by decide +kernel
theorem cd_104_367 : dk_find (dk_code 104) 367 = some (.ireturn, 1, 0, []) := by decide +kernel
theorem cd_104_368 : dk_find (dk_code 104) 368 = some (.iload 5, 2, 0, []) := by decide +kernel
theorem cd_104_370 : dk_find (dk_code 104) 370 = some (.ifCond .ne (15), 3, 385, []) := by decide +kernel
theorem cd_104_373 : dk_find (dk_code 104) 373 = some (.aload_n 3, 1, 0, []) := by decide +kernel
theorem cd_104_374 : dk_find (dk_code 104) 374 = some (.iconst 0, 1, 0, []) := by decide +kernel
theorem cd_104_375 : dk_find (dk_code 104) 375 = some (.laload, 1, 0, []) := by decide +kernel
theorem cd_104_376 : dk_find (dk_code 104) 376 = some (.iload 6, 2, 0, []) := by decide +kernel
theorem cd_104_378 : dk_find (dk_code 104) 378 = some (.i2l, 1, 0, []) := by decide +kernel
theorem cd_104_379 : dk_find (dk_code 104) 379 = some (.lcmp, 1, 0, []) := by decide +kernel
theorem cd_104_380 : dk_find (dk_code 104) 380 = some (.ifCond .eq (5), 3, 385, []) := by decide +kernel
theorem cd_104_383 : dk_find (dk_code 104) 383 = some (.iconst 0, 1, 0, []) := by decide +kernel
theorem cd_104_384 : dk_find (dk_code 104) 384 = some (.ireturn, 1, 0, []) := by decide +kernel
theorem cd_104_385 : dk_find (dk_code 104) 385 = some (.goto (500), 3, 885, []) := by decide +kernel
theorem cd_104_388 : dk_find (dk_code 104) 388 = some (.aload_n 1, 1, 0, []) := by decide +kernel
theorem cd_104_389 : dk_find (dk_code 104) 389 = some (.aload_n 0, 1, 0, []) := by decide +kernel
theorem cd_104_390 : dk_find (dk_code 104) 390 = some (.iload 4, 2, 0, []) := by decide +kernel
theorem cd_104_392 : dk_find (dk_code 104) 392 = some (.iconst 1, 1, 0, []) := by decide +kernel
theorem cd_104_393 : dk_find (dk_code 104) 393 = some (.iadd, 1, 0, []) := by decide +kernel
theorem cd_104_394 : dk_find (dk_code 104) 394 = some (.iaload, 1, 0, []) := by decide +kernel
theorem cd_104_395 : dk_find (dk_code 104) 395 = some (.aload_n 3, 1, 0, []) := by decide +kernel
theorem cd_104_396 : dk_find (dk_code 104) 396 = some (.invokestatic 82, 3, 0, []) := by decide +kernel
theorem cd_104_399 : dk_find (dk_code 104) 399 = some (.istore 5, 2, 0, []) := by decide +kernel
theorem cd_104_401 : dk_find (dk_code 104) 401 = some (.aload_n 2, 1, 0, []) := by decide +kernel
theorem cd_104_402 : dk_find (dk_code 104) 402 = some (.aload_n 0, 1, 0, []) := by decide +kernel
theorem cd_104_403 : dk_find (dk_code 104) 403 = some (.iload 4, 2, 0, []) := by decide +kernel
theorem cd_104_405 : dk_find (dk_code 104) 405 = some (.iconst 1, 1, 0, []) := by decide +kernel
theorem cd_104_406 : dk_find (dk_code 104) 406 = some (.iadd, 1, 0, []) := by decide +kernel
theorem cd_104_407 : dk_find (dk_code 104) 407 = some (.iaload, 1, 0, []) := by decide +kernel
theorem cd_104_408 : dk_find (dk_code 104) 408 = some (.invokevirtual 84, 3, 0, []) := by decide +kernel
theorem cd_104_411 : dk_find (dk_code 104) 411 = some (.istore 6, 2, 0, []) := by decide +kernel
theorem cd_104_413 : dk_find (dk_code 104) 413 = some (.aload_n 2, 1, 0, []) := by decide +kernel
theorem cd_104_414 : dk_find (dk_code 104) 414 = some (.invokevirtual 66, 3, 0, []) := by decide +kernel
theorem cd_104_417 : dk_find (dk_code 104) 417 = some (.iload 5, 2, 0, []) := by decide +kernel
theorem cd_104_419 : dk_find (dk_code 104) 419 = some (.if_icmp .eq (5), 3, 424, []) := by decide +kernel
theorem cd_104_422 : dk_find (dk_code 104) 422 = some (.iconst 0, 1, 0, []) := by decide +kernel
theorem cd_104_423 : dk_find (dk_code 104) 423 = some (.ireturn, 1, 0, []) := by decide +kernel
theorem cd_104_424 : dk_find (dk_code 104) 424 = some (.iload 5, 2, 0, []) := by decide +kernel
theorem cd_104_426 : dk_find (dk_code 104) 426 = some (.ifCond .ne (15), 3, 441, []) := by decide +kernel
theorem cd_104_429 : dk_find (dk_code 104) 429 = some (.aload_n 3, 1, 0, []) := by decide +kernel
theorem cd_104_430 : dk_find (dk_code 104) 430 = some (.iconst 0, 1, 0, []) := by decide +kernel
theorem cd_104_431 : dk_find (dk_code 104) 431 = some (.laload, 1, 0, []) := by decide +kernel
theorem cd_104_432 : dk_find (dk_code 104) 432 = some (.iload 6, 2, 0, []) := by decide +kernel
theorem cd_104_434 : dk_find (dk_code 104) 434 = some (.i2l, 1, 0, []) := by decide +kernel
theorem cd_104_435 : dk_find (dk_code 104) 435 = some (.lcmp, 1, 0, []) := by decide +kernel
theorem cd_104_436 : dk_find (dk_code 104) 436 = some (.ifCond .eq (5), 3, 441, []) := by decide +kernel
theorem cd_104_439 : dk_find (dk_code 104) 439 = some (.iconst 0, 1, 0, []) := by decide +kernel
theorem cd_104_440 : dk_find (dk_code 104) 440 = some (.ireturn, 1, 0, []) := by decide +kernel
theorem cd_104_441 : dk_find (dk_code 104) 441 = some (.goto (444), 3, 885, []) := by decide +kernel
theorem cd_104_444 : dk_find (dk_code 104) 444 = some (.aload_n 1, 1, 0, []) := by decide +kernel
theorem cd_104_445 : dk_find (dk_code 104) 445 = some (.invokevirtual 85, 3, 0, []) := by decide +kernel
theorem cd_104_448 : dk_find (dk_code 104) 448 = some (.aload_n 2, 1, 0, []) := by decide +kernel
theorem cd_104_449 : dk_find (dk_code 104) 449 = some (.invokevirtual 88, 3, 0, []) := by decide +kernel
theorem cd_104_452 : dk_find (dk_code 104) 452 = some (.if_icmp .eq (433), 3, 885, []) := by decide +kernel
theorem cd_104_455 : dk_find (dk_code 104) 455 = some (.iconst 0, 1, 0, []) := by decide +kernel
theorem cd_104_456 : dk_find (dk_code 104) 456 = some (.ireturn, 1, 0, []) := by decide +kernel
theorem cd_104_457 : dk_find (dk_code 104) 457 = some (.aload_n 1, 1, 0, []) := by decide +kernel
theorem cd_104_458 : dk_find (dk_code 104) 458 = some (.aload_n 0, 1, 0, []) := by decide +kernel
theorem cd_104_459 : dk_find (dk_code 104) 459 = some (.iload 4, 2, 0, []) := by decide +kernel
theorem cd_104_461 : dk_find (dk_code 104) 461 = some (.iconst 1, 1, 0, []) := by decide +kernel
theorem cd_104_462 : dk_find (dk_code 104) 462 = some (.iadd, 1, 0, []) := by decide +kernel
theorem cd_104_463 : dk_find (dk_code 104) 463 = some (.iaload, 1, 0, []) := by decide +kernel
theorem cd_104_464 : dk_find (dk_code 104) 464 = some (.aload_n 3, 1, 0, []) := by decide +kernel
theorem cd_104_465 : dk_find (dk_code 104) 465 = some (.invokestatic 89, 3, 0, []) := by decide +kernel
theorem cd_104_468 : dk_find (dk_code 104) 468 = some (.istore 5, 2, 0, []) := by decide +kernel
theorem cd_104_470 : dk_find (dk_code 104) 470 = some (.aload_n 2, 1, 0, []) := by decide +kernel
theorem cd_104_471 : dk_find (dk_code 104) 471 = some (.aload_n 0, 1, 0, []) := by decide +kernel
theorem cd_104_472 : dk_find (dk_code 104) 472 = some (.iload 4, 2, 0, []) := by decide +kernel
theorem cd_104_474 : dk_find (dk_code 104) 474 = some (.iconst 1, 1, 0, []) := by decide +kernel
theorem cd_104_475 : dk_find (dk_code 104) 475 = some (.iadd, 1, 0, []) := by decide +kernel
theorem cd_104_476 : dk_find (dk_code 104) 476 = some (.iaload, 1, 0, []) := by decide +kernel
theorem cd_104_477 : dk_find (dk_code 104) 477 = some (.invokevirtual 91, 3, 0, []) := by decide +kernel
theorem cd_104_480 : dk_find (dk_code 104) 480 = some (.istore 6, 2, 0, []) := by decide +kernel
theorem cd_104_482 : dk_find (dk_code 104) 482 = some (.aload_n 2, 1, 0, []) := by decide +kernel
theorem cd_104_483 : dk_find (dk_code 104) 483 = some (.invokevirtual 66, 3, 0, []) := by decide +kernel
theorem cd_104_486 : dk_find (dk_code 104) 486 = some (.iload 5, 2, 0, []) := by decide +kernel
theorem cd_104_488 : dk_find (dk_code 104) 488 = some (.if_icmp .eq (5), 3, 493, []) := by decide +kernel
theorem cd_104_491 : dk_find (dk_code 104) 491 = some (.iconst 0, 1, 0, []) := by decide +kernel
theorem cd_104_492 : dk_find (dk_code 104) 492 = some (.ireturn, 1, 0, []) := by decide +kernel
theorem cd_104_493 : dk_find (dk_code 104) 493 = some (.iload 5, 2, 0, []) := by decide +kernel
theorem cd_104_495 : dk_find (dk_code 104) 495 = some (.ifCond .ne (22), 3, 517, []) := by decide +kernel
theorem cd_104_498 : dk_find (dk_code 104) 498 = some (.aload_n 3, 1, 0, []) := by decide +kernel
theorem cd_104_499 : dk_find (dk_code 104) 499 = some (.iconst 0, 1, 0, []) := by decide +kernel
theorem cd_104_500 : dk_find (dk_code 104) 500 = some (.laload, 1, 0, []) := by decide +kernel
theorem cd_104_501 : dk_find (dk_code 104) 501 = some (.iload 6, 2, 0, []) := by decide +kernel
theorem cd_104_503 : dk_find (dk_code 104) 503 = some (.ifCond .eq (7), 3, 510, []) := by decide +kernel
theorem cd_104_506 : dk_find (dk_code 104) 506 = some (.lconst 1, 1, 0, []) := by decide +kernel
theorem cd_104_507 : dk_find (dk_code 104) 507 = some (.goto (4), 3, 511, []) := by decide +kernel
theorem cd_104_510 : dk_find (dk_code 104) 510 = some (.lconst 0, 1, 0, []) := by decide +kernel
theorem cd_104_511 : dk_find (dk_code 104) 511 = some (.lcmp, 1, 0, []) := by decide +kernel
theorem cd_104_512 : dk_find (dk_code 104) 512 = some (.ifCond .eq (5), 3, 517, []) := by decide +kernel
theorem cd_104_515 : dk_find (dk_code 104) 515 = some (.iconst 0, 1, 0, []) := by decide +kernel
theorem cd_104_516 : dk_find (dk_code 104) 516 = some (.ireturn, 1, 0, []) := by decide +kernel
theorem cd_104_517 : dk_find (dk_code 104) 517 = some (.goto (368), 3, 885, []) := by decide +kernel
theorem cd_104_520 : dk_find (dk_code 104) 520 = some (.aload_n 1, 1, 0, []) := by decide +kernel
theorem cd_104_521 : dk_find (dk_code 104) 521 = some (.aload_n 0, 1, 0, []) := by decide +kernel
theorem cd_104_522 : dk_find (dk_code 104) 522 = some (.iload 4, 2, 0, []) := by decide +kernel
theorem cd_104_524 : dk_find (dk_code 104) 524 = some (.iconst 1, 1, 0, []) := by decide +kernel
theorem cd_104_525 : dk_find (dk_code 104) 525 = some (.iadd, 1, 0, []) := by decide +kernel
theorem cd_104_526 : dk_find (dk_code 104) 526 = some (.iaload, 1, 0, []) := by decide +kernel
theorem cd_104_527 : dk_find (dk_code 104) 527 = some (.aload_n 3, 1, 0, []) := by decide +kernel
theorem cd_104_528 : dk_find (dk_code 104) 528 = some (.invokestatic 92, 3, 0, []) := by decide +kernel
theorem cd_104_531 : dk_find (dk_code 104) 531 = some (.istore 5, 2, 0, []) := by decide +kernel
theorem cd_104_533 : dk_find (dk_code 104) 533 = some (.aload_n 2, 1, 0, []) := by decide +kernel
theorem cd_104_534 : dk_find (dk_code 104) 534 = some (.aload_n 0, 1, 0, []) := by decide +kernel
theorem cd_104_535 : dk_find (dk_code 104) 535 = some (.iload 4, 2, 0, []) := by decide +kernel
theorem cd_104_537 : dk_find (dk_code 104) 537 = some (.iconst 1, 1, 0, []) := by decide +kernel
theorem cd_104_538 : dk_find (dk_code 104) 538 = some (.iadd, 1, 0, []) := by decide +kernel
theorem cd_104_539 : dk_find (dk_code 104) 539 = some (.iaload, 1, 0, []) := by decide +kernel
theorem cd_104_540 : dk_find (dk_code 104) 540 = some (.invokevirtual 94, 3, 0, []) := by decide +kernel
theorem cd_104_543 : dk_find (dk_code 104) 543 = some (.istore 6, 2, 0, []) := by decide +kernel
theorem cd_104_545 : dk_find (dk_code 104) 545 = some (.aload_n 2, 1, 0, []) := by decide +kernel
theorem cd_104_546 : dk_find (dk_code 104) 546 = some (.invokevirtual 66, 3, 0, []) := by decide +kernel
theorem cd_104_549 : dk_find (dk_code 104) 549 = some (.iload 5, 2, 0, []) := by decide +kernel
theorem cd_104_551 : dk_find (dk_code 104) 551 = some (.if_icmp .eq (5), 3, 556, []) := by decide +kernel
theorem cd_104_554 : dk_find (dk_code 104) 554 = some (.iconst 0, 1, 0, []) := by decide +kernel
theorem cd_104_555 : dk_find (dk_code 104) 555 = some (.ireturn, 1, 0, []) := by decide +kernel
theorem cd_104_556 : dk_find (dk_code 104) 556 = some (.iload 5, 2, 0, []) := by decide +kernel
theorem cd_104_558 : dk_find (dk_code 104) 558 = some (.ifCond .ne (15), 3, 573, []) := by decide +kernel
theorem cd_104_561 : dk_find (dk_code 104) 561 = some (.aload_n 3, 1, 0, []) := by decide +kernel
theorem cd_104_562 : dk_find (dk_code 104) 562 = some (.iconst 0, 1, 0, []) := by decide +kernel
theorem cd_104_563 : dk_find (dk_code 104) 563 = some (.laload, 1, 0, []) := by decide +kernel
theorem cd_104_564 : dk_find (dk_code 104) 564 = some (.iload 6, 2, 0, []) := by decide +kernel
theorem cd_104_566 : dk_find (dk_code 104) 566 = some (.i2l, 1, 0, []) := by decide +kernel
theorem cd_104_567 : dk_find (dk_code 104) 567 = some (.lcmp, 1, 0, []) := by decide +kernel
theorem cd_104_568 : dk_find (dk_code 104) 568 = some (.ifCond .eq (5), 3, 573, []) := by decide +kernel
theorem cd_104_571 : dk_find (dk_code 104) 571 = some (.iconst 0, 1, 0, []) := by decide +kernel
theorem cd_104_572 : dk_find (dk_code 104) 572 = some (.ireturn, 1, 0, []) := by decide +kernel
theorem cd_104_573 : dk_find (dk_code 104) 573 = some (.goto (312), 3, 885, []) := by decide +kernel
theorem cd_104_576 : dk_find (dk_code 104) 576 = some (.aload_n 1, 1, 0, []) := by decide +kernel
theorem cd_104_577 : dk_find (dk_code 104) 577 = some (.aload_n 0, 1, 0, []) := by decide +kernel
theorem cd_104_578 : dk_find (dk_code 104) 578 = some (.iload 4, 2, 0, []) := by decide +kernel
theorem cd_104_580 : dk_find (dk_code 104) 580 = some (.iconst 1, 1, 0, []) := by decide +kernel
theorem cd_104_581 : dk_find (dk_code 104) 581 = some (.iadd, 1, 0, []) := by decide +kernel
theorem cd_104_582 : dk_find (dk_code 104) 582 = some (.iaload, 1, 0, []) := by decide +kernel
theorem cd_104_583 : dk_find (dk_code 104) 583 = some (.aload_n 0, 1, 0, []) := by decide +kernel
theorem cd_104_584 : dk_find (dk_code 104) 584 = some (.iload 4, 2, 0, []) := by decide +kernel
theorem cd_104_586 : dk_find (dk_code 104) 586 = some (.iconst 2, 1, 0, []) := by decide +kernel
theorem cd_104_587 : dk_find (dk_code 104) 587 = some (.iadd, 1, 0, []) := by decide +kernel
theorem cd_104_588 : dk_find (dk_code 104) 588 = some (.iaload, 1, 0, []) := by decide +kernel
theorem cd_104_589 : dk_find (dk_code 104) 589 = some (.aload_n 3, 1, 0, []) := by decide +kernel
theorem cd_104_590 : dk_find (dk_code 104) 590 = some (.invokestatic 95, 3, 0, []) := by decide +kernel
theorem cd_104_593 : dk_find (dk_code 104) 593 = some (.istore 5, 2, 0, []) := by decide +kernel
theorem cd_104_595 : dk_find (dk_code 104) 595 = some (.aload_n 2, 1, 0, []) := by decide +kernel
theorem cd_104_596 : dk_find (dk_code 104) 596 = some (.aload_n 0, 1, 0, []) := by decide +kernel
theorem cd_104_597 : dk_find (dk_code 104) 597 = some (.iload 4, 2, 0, []) := by decide +kernel
theorem cd_104_599 : dk_find (dk_code 104) 599 = some (.iconst 1, 1, 0, []) := by decide +kernel
theorem cd_104_600 : dk_find (dk_code 104) 600 = some (.iadd, 1, 0, []) := by decide +kernel
theorem cd_104_601 : dk_find (dk_code 104) 601 = some (.iaload, 1, 0, []) := by decide +kernel
theorem cd_104_602 : dk_find (dk_code 104) 602 = some (.aload_n 0, 1, 0, []) := by decide +kernel
theorem cd_104_603 : dk_find (dk_code 104) 603 = some (.iload 4, 2, 0, []) := by decide +kernel
theorem cd_104_605 : dk_find (dk_code 104) 605 = some (.iconst 2, 1, 0, []) := by decide +kernel
theorem cd_104_606 : dk_find (dk_code 104) 606 = some (.iadd, 1, 0, []) := by decide +kernel
theorem cd_104_607 : dk_find (dk_code 104) 607 = some (.iaload, 1, 0, []) := by decide +kernel
theorem cd_104_608 : dk_find (dk_code 104) 608 = some (.invokevirtual 97, 3, 0, []) := by decide +kernel
theorem cd_104_611 : dk_find (dk_code 104) 611 = some (.istore 6, 2, 0, []) := by decide +kernel
theorem cd_104_613 : dk_find (dk_code 104) 613 = some (.aload_n 2, 1, 0, []) := by decide +kernel
theorem cd_104_614 : dk_find (dk_code 104) 614 = some (.invokevirtual 66, 3, 0, []) := by decide +kernel
theorem cd_104_617 : dk_find (dk_code 104) 617 = some (.iload 5, 2, 0, []) := by decide +kernel
theorem cd_104_619 : dk_find (dk_code 104) 619 = some (.if_icmp .eq (5), 3, 624, []) := by decide +kernel
theorem cd_104_622 : dk_find (dk_code 104) 622 = some (.iconst 0, 1, 0, []) := by decide +kernel
theorem cd_104_623 : dk_find (dk_code 104) 623 = some (.ireturn, 1, 0, []) := by decide +kernel
theorem cd_104_624 : dk_find (dk_code 104) 624 = some (.iload 5, 2, 0, []) := by decide +kernel
theorem cd_104_626 : dk_find (dk_code 104) 626 = some (.ifCond .ne (15), 3, 641, []) := by decide +kernel
theorem cd_104_629 : dk_find (dk_code 104) 629 = some (.aload_n 3, 1, 0, []) := by decide +kernel
theorem cd_104_630 : dk_find (dk_code 104) 630 = some (.iconst 0, 1, 0, []) := by decide +kernel
theorem cd_104_631 : dk_find (dk_code 104) 631 = some (.laload, 1, 0, []) := by decide +kernel
theorem cd_104_632 : dk_find (dk_code 104) 632 = some (.iload 6, 2, 0, []) := by decide +kernel
theorem cd_104_634 : dk_find (dk_code 104) 634 = some (.i2l, 1, 0, []) := by decide +kernel
theorem cd_104_635 : dk_find (dk_code 104) 635 = some (.lcmp, 1, 0, []) := by decide +kernel
theorem cd_104_636 : dk_find (dk_code 104) 636 = some (.ifCond .eq (5), 3, 641, []) := by decide +kernel
theorem cd_104_639 : dk_find (dk_code 104) 639 = some (.iconst 0, 1, 0, []) := by decide +kernel
theorem cd_104_640 : dk_find (dk_code 104) 640 = some (.ireturn, 1, 0, []) := by decide +kernel
theorem cd_104_641 : dk_find (dk_code 104) 641 = some (.goto (244), 3, 885, []) := by decide +kernel
theorem cd_104_644 : dk_find (dk_code 104) 644 = some (.aload_n 1, 1, 0, []) := by decide +kernel
theorem cd_104_645 : dk_find (dk_code 104) 645 = some (.aload_n 0, 1, 0, []) := by decide +kernel
theorem cd_104_646 : dk_find (dk_code 104) 646 = some (.iload 4, 2, 0, []) := by decide +kernel
theorem cd_104_648 : dk_find (dk_code 104) 648 = some (.iconst 1, 1, 0, []) := by decide +kernel
theorem cd_104_649 : dk_find (dk_code 104) 649 = some (.iadd, 1, 0, []) := by decide +kernel
theorem cd_104_650 : dk_find (dk_code 104) 650 = some (.iaload, 1, 0, []) := by decide +kernel
theorem cd_104_651 : dk_find (dk_code 104) 651 = some (.aload_n 0, 1, 0, []) := by decide +kernel
theorem cd_104_652 : dk_find (dk_code 104) 652 = some (.iload 4, 2, 0, []) := by decide +kernel
theorem cd_104_654 : dk_find (dk_code 104) 654 = some (.iconst 2, 1, 0, []) := by decide +kernel
theorem cd_104_655 : dk_find (dk_code 104) 655 = some (.iadd, 1, 0, []) := by decide +kernel
theorem cd_104_656 : dk_find (dk_code 104) 656 = some (.iaload, 1, 0, []) := by decide +kernel
theorem cd_104_657 : dk_find (dk_code 104) 657 = some (.aload_n 0, 1, 0, []) := by decide +kernel
theorem cd_104_658 : dk_find (dk_code 104) 658 = some (.iload 4, 2, 0, []) := by decide +kernel
theorem cd_104_660 : dk_find (dk_code 104) 660 = some (.iconst 3, 1, 0, []) := by decide +kernel
theorem cd_104_661 : dk_find (dk_code 104) 661 = some (.iadd, 1, 0, []) := by decide +kernel
theorem cd_104_662 : dk_find (dk_code 104) 662 = some (.iaload, 1, 0, []) := by decide +kernel
theorem cd_104_663 : dk_find (dk_code 104) 663 = some (.aload_n 3, 1, 0, []) := by decide +kernel
theorem cd_104_664 : dk_find (dk_code 104) 664 = some (.invokestatic 98, 3, 0, []) := by decide +kernel
theorem cd_104_667 : dk_find (dk_code 104) 667 = some (.istore 5, 2, 0, []) := by decide +kernel
theorem cd_104_669 : dk_find (dk_code 104) 669 = some (.aload_n 2, 1, 0, []) := by decide +kernel
theorem cd_104_670 : dk_find (dk_code 104) 670 = some (.aload_n 0, 1, 0, []) := by decide +kernel
theorem cd_104_671 : dk_find (dk_code 104) 671 = some (.iload 4, 2, 0, []) := by decide +kernel
theorem cd_104_673 : dk_find (dk_code 104) 673 = some (.iconst 1, 1, 0, []) := by decide +kernel
theorem cd_104_674 : dk_find (dk_code 104) 674 = some (.iadd, 1, 0, []) := by decide +kernel
theorem cd_104_675 : dk_find (dk_code 104) 675 = some (.iaload, 1, 0, []) := by decide +kernel
theorem cd_104_676 : dk_find (dk_code 104) 676 = some (.aload_n 0, 1, 0, []) := by decide +kernel
theorem cd_104_677 : dk_find (dk_code 104) 677 = some (.iload 4, 2, 0, []) := by decide +kernel
theorem cd_104_679 : dk_find (dk_code 104) 679 = some (.iconst 2, 1, 0, []) := by decide +kernel
theorem cd_104_680 : dk_find (dk_code 104) 680 = some (.iadd, 1, 0, []) := by decide +kernel
theorem cd_104_681 : dk_find (dk_code 104) 681 = some (.iaload, 1, 0, []) := by decide +kernel
theorem cd_104_682 : dk_find (dk_code 104) 682 = some (.aload_n 0, 1, 0, []) := by decide +kernel
theorem cd_104_683 : dk_find (dk_code 104) 683 = some (.iload 4, 2, 0, []) := by decide +kernel
theorem cd_104_685 : dk_find (dk_code 104) 685 = some (.iconst 3, 1, 0, []) := by decide +kernel
theorem cd_104_686 : dk_find (dk_code 104) 686 = some (.iadd, 1, 0, []) := by decide +kernel
theorem cd_104_687 : dk_find (dk_code 104) 687 = some (.iaload, 1, 0, []) := by decide +kernel
theorem cd_104_688 : dk_find (dk_code 104) 688 = some (.invokevirtual 101, 3, 0, []) := by decide +kernel
theorem cd_104_691 : dk_find (dk_code 104) 691 = some (.istore 6, 2, 0, []) := by decide +kernel
theorem cd_104_693 : dk_find (dk_code 104) 693 = some (.aload_n 2, 1, 0, []) := by decide +kernel
theorem cd_104_694 : dk_find (dk_code 104) 694 = some (.invokevirtual 66, 3, 0, []) := by decide +kernel
theorem cd_104_697 : dk_find (dk_code 104) 697 = some (.iload 5, 2, 0, []) := by decide +kernel
theorem cd_104_699 : dk_find (dk_code 104) 699 = some (.if_icmp .eq (5), 3, 704, []) := by decide +kernel
theorem cd_104_702 : dk_find (dk_code 104) 702 = some (.iconst 0, 1, 0, []) := by decide +kernel
theorem cd_104_703 : dk_find (dk_code 104) 703 = some (.ireturn, 1, 0, []) := by decide +kernel
theorem cd_104_704 : dk_find (dk_code 104) 704 = some (.iload 5, 2, 0, []) := by decide +kernel
theorem cd_104_706 : dk_find (dk_code 104) 706 = some (.ifCond .ne (15), 3, 721, []) := by decide +kernel
theorem cd_104_709 : dk_find (dk_code 104) 709 = some (.aload_n 3, 1, 0, []) := by decide +kernel
theorem cd_104_710 : dk_find (dk_code 104) 710 = some (.iconst 0, 1, 0, []) := by decide +kernel
theorem cd_104_711 : dk_find (dk_code 104) 711 = some (.laload, 1, 0, []) := by decide +kernel
theorem cd_104_712 : dk_find (dk_code 104) 712 = some (.iload 6, 2, 0, []) := by decide +kernel
theorem cd_104_714 : dk_find (dk_code 104) 714 = some (.i2l, 1, 0, []) := by decide +kernel
theorem cd_104_715 : dk_find (dk_code 104) 715 = some (.lcmp, 1, 0, []) := by decide +kernel
theorem cd_104_716 : dk_find (dk_code 104) 716 = some (.ifCond .eq (5), 3, 721, []) := by decide +kernel
theorem cd_104_719 : dk_find (dk_code 104) 719 = some (.iconst 0, 1, 0, []) := by decide +kernel
theorem cd_104_720 : dk_find (dk_code 104) 720 = some (.ireturn, 1, 0, []) := by decide +kernel
theorem cd_104_721 : dk_find (dk_code 104) 721 = some (.goto (164), 3, 885, []) := by decide +kernel
theorem cd_104_724 : dk_find (dk_code 104) 724 = some (.aload_n 1, 1, 0, []) := by decide +kernel
theorem cd_104_725 : dk_find (dk_code 104) 725 = some (.aload_n 0, 1, 0, []) := by decide +kernel
theorem cd_104_726 : dk_find (dk_code 104) 726 = some (.iload 4, 2, 0, []) := by decide +kernel
theorem cd_104_728 : dk_find (dk_code 104) 728 = some (.iconst 1, 1, 0, []) := by decide +kernel
theorem cd_104_729 : dk_find (dk_code 104) 729 = some (.iadd, 1, 0, []) := by decide +kernel
theorem cd_104_730 : dk_find (dk_code 104) 730 = some (.iaload, 1, 0, []) := by decide +kernel
theorem cd_104_731 : dk_find (dk_code 104) 731 = some (.aload_n 0, 1, 0, []) := by decide +kernel
theorem cd_104_732 : dk_find (dk_code 104) 732 = some (.iload 4, 2, 0, []) := by decide +kernel
theorem cd_104_734 : dk_find (dk_code 104) 734 = some (.iconst 2, 1, 0, []) := by decide +kernel
theorem cd_104_735 : dk_find (dk_code 104) 735 = some (.iadd, 1, 0, []) := by decide +kernel
theorem cd_104_736 : dk_find (dk_code 104) 736 = some (.iaload, 1, 0, []) := by decide +kernel
theorem cd_104_737 : dk_find (dk_code 104) 737 = some (.aload_n 3, 1, 0, []) := by decide +kernel
theorem cd_104_738 : dk_find (dk_code 104) 738 = some (.invokestatic 102, 3, 0, []) := by decide +kernel
theorem cd_104_741 : dk_find (dk_code 104) 741 = some (.istore 5, 2, 0, []) := by decide +kernel
theorem cd_104_743 : dk_find (dk_code 104) 743 = some (.aload_n 2, 1, 0, []) := by decide +kernel
theorem cd_104_744 : dk_find (dk_code 104) 744 = some (.aload_n 0, 1, 0, []) := by decide +kernel
theorem cd_104_745 : dk_find (dk_code 104) 745 = some (.iload 4, 2, 0, []) := by decide +kernel
theorem cd_104_747 : dk_find (dk_code 104) 747 = some (.iconst 1, 1, 0, []) := by decide +kernel
theorem cd_104_748 : dk_find (dk_code 104) 748 = some (.iadd, 1, 0, []) := by decide +kernel
theorem cd_104_749 : dk_find (dk_code 104) 749 = some (.iaload, 1, 0, []) := by decide +kernel
theorem cd_104_750 : dk_find (dk_code 104) 750 = some (.aload_n 0, 1, 0, []) := by decide +kernel
theorem cd_104_751 : dk_find (dk_code 104) 751 = some (.iload 4, 2, 0, []) := by decide +kernel
theorem cd_104_753 : dk_find (dk_code 104) 753 = some (.iconst 2, 1, 0, []) := by decide +kernel
theorem cd_104_754 : dk_find (dk_code 104) 754 = some (.iadd, 1, 0, []) := by decide +kernel
theorem cd_104_755 : dk_find (dk_code 104) 755 = some (.iaload, 1, 0, []) := by decide +kernel
theorem cd_104_756 : dk_find (dk_code 104) 756 = some (.invokevirtual 104, 3, 0, []) := by decide +kernel
theorem cd_104_759 : dk_find (dk_code 104) 759 = some (.istore 6, 2, 0, []) := by decide +kernel
theorem cd_104_761 : dk_find (dk_code 104) 761 = some (.aload_n 2, 1, 0, []) := by decide +kernel
theorem cd_104_762 : dk_find (dk_code 104) 762 = some (.invokevirtual 66, 3, 0, []) := by decide +kernel
theorem cd_104_765 : dk_find (dk_code 104) 765 = some (.iload 5, 2, 0, []) := by decide +kernel
theorem cd_104_767 : dk_find (dk_code 104) 767 = some (.if_icmp .eq (5), 3, 772, []) := by decide +kernel
theorem cd_104_770 : dk_find (dk_code 104) 770 = some (.iconst 0, 1, 0, []) := by decide +kernel
theorem cd_104_771 : dk_find (dk_code 104) 771 = some (.ireturn, 1, 0, []) := by decide +kernel
theorem cd_104_772 : dk_find (dk_code 104) 772 = some (.iload 5, 2, 0, []) := by decide +kernel
theorem cd_104_774 : dk_find (dk_code 104) 774 = some (.ifCond .ne (15), 3, 789, []) := by decide +kernel
theorem cd_104_777 : dk_find (dk_code 104) 777 = some (.aload_n 3, 1, 0, []) := by decide +kernel
theorem cd_104_778 : dk_find (dk_code 104) 778 = some (.iconst 0, 1, 0, []) := by decide +kernel
theorem cd_104_779 : dk_find (dk_code 104) 779 = some (.laload, 1, 0, []) := by decide +kernel
theorem cd_104_780 : dk_find (dk_code 104) 780 = some (.iload 6, 2, 0, []) := by decide +kernel
theorem cd_104_782 : dk_find (dk_code 104) 782 = some (.i2l, 1, 0, []) := by decide +kernel
theorem cd_104_783 : dk_find (dk_code 104) 783 = some (.lcmp, 1, 0, []) := by decide +kernel
theorem cd_104_784 : dk_find (dk_code 104) 784 = some (.ifCond .eq (5), 3, 789, []) := by decide +kernel
theorem cd_104_787 : dk_find (dk_code 104) 787 = some (.iconst 0, 1, 0, []) := by decide +kernel
theorem cd_104_788 : dk_find (dk_code 104) 788 = some (.ireturn, 1, 0, []) := by decide +kernel
theorem cd_104_789 : dk_find (dk_code 104) 789 = some (.goto (96), 3, 885, []) := by decide +kernel
theorem cd_104_792 : dk_find (dk_code 104) 792 = some (.aload_n 1, 1, 0, []) := by decide +kernel
theorem cd_104_793 : dk_find (dk_code 104) 793 = some (.aload_n 0, 1, 0, []) := by decide +kernel
theorem cd_104_794 : dk_find (dk_code 104) 794 = some (.iload 4, 2, 0, []) := by decide +kernel
theorem cd_104_796 : dk_find (dk_code 104) 796 = some (.iconst 1, 1, 0, []) := by decide +kernel
theorem cd_104_797 : dk_find (dk_code 104) 797 = some (.iadd, 1, 0, []) := by decide +kernel
theorem cd_104_798 : dk_find (dk_code 104) 798 = some (.iaload, 1, 0, []) := by decide +kernel
theorem cd_104_799 : dk_find (dk_code 104) 799 = some (.aload_n 0, 1, 0, []) := by decide +kernel
theorem cd_104_800 : dk_find (dk_code 104) 800 = some (.iload 4, 2, 0, []) := by decide +kernel
theorem cd_104_802 : dk_find (dk_code 104) 802 = some (.iconst 2, 1, 0, []) := by decide +kernel
theorem cd_104_803 : dk_find (dk_code 104) 803 = some (.iadd, 1, 0, []) := by decide +kernel
theorem cd_104_804 : dk_find (dk_code 104) 804 = some (.iaload, 1, 0, []) := by decide +kernel
theorem cd_104_805 : dk_find (dk_code 104) 805 = some (.aload_n 3, 1, 0, []) := by decide +kernel
theorem cd_104_806 : dk_find (dk_code 104) 806 = some (.invokestatic 105, 3, 0, []) := by decide +kernel
theorem cd_104_809 : dk_find (dk_code 104) 809 = some (.istore 5, 2, 0, []) := by decide +kernel
theorem cd_104_811 : dk_find (dk_code 104) 811 = some (.aload_n 2, 1, 0, []) := by decide +kernel
theorem cd_104_812 : dk_find (dk_code 104) 812 = some (.aload_n 0, 1, 0, []) := by decide +kernel
theorem cd_104_813 : dk_find (dk_code 104) 813 = some (.iload 4, 2, 0, []) := by decide +kernel
theorem cd_104_815 : dk_find (dk_code 104) 815 = some (.iconst 1, 1, 0, []) := by decide +kernel
theorem cd_104_816 : dk_find (dk_code 104) 816 = some (.iadd, 1, 0, []) := by decide +kernel
theorem cd_104_817 : dk_find (dk_code 104) 817 = some (.iaload, 1, 0, []) := by decide +kernel
theorem cd_104_818 : dk_find (dk_code 104) 818 = some (.aload_n 0, 1, 0, []) := by decide +kernel
theorem cd_104_819 : dk_find (dk_code 104) 819 = some (.iload 4, 2, 0, []) := by decide +kernel
theorem cd_104_821 : dk_find (dk_code 104) 821 = some (.iconst 2, 1, 0, []) := by decide +kernel
theorem cd_104_822 : dk_find (dk_code 104) 822 = some (.iadd, 1, 0, []) := by decide +kernel
theorem cd_104_823 : dk_find (dk_code 104) 823 = some (.iaload, 1, 0, []) := by decide +kernel
theorem cd_104_824 : dk_find (dk_code 104) 824 = some (.invokevirtual 107, 3, 0, []) := by decide +kernel
theorem cd_104_827 : dk_find (dk_code 104) 827 = some (.istore 6, 2, 0, []) := by decide +kernel
theorem cd_104_829 : dk_find (dk_code 104) 829 = some (.aload_n 2, 1, 0, []) := by decide +kernel
theorem cd_104_830 : dk_find (dk_code 104) 830 = some (.invokevirtual 66, 3, 0, []) := by decide +kernel
theorem cd_104_833 : dk_find (dk_code 104) 833 = some (.iload 5, 2, 0, []) := by decide +kernel
theorem cd_104_835 : dk_find (dk_code 104) 835 = some (.if_icmp .eq (5), 3, 840, []) := by decide +kernel
theorem cd_104_838 : dk_find (dk_code 104) 838 = some (.iconst 0, 1, 0, []) := by decide +kernel
theorem cd_104_839 : dk_find (dk_code 104) 839 = some (.ireturn, 1, 0, []) := by decide +kernel
theorem cd_104_840 : dk_find (dk_code 104) 840 = some (.iload 5, 2, 0, []) := by decide +kernel
theorem cd_104_842 : dk_find (dk_code 104) 842 = some (.ifCond .ne (15), 3, 857, []) := by decide +kernel
theorem cd_104_845 : dk_find (dk_code 104) 845 = some (.aload_n 3, 1, 0, []) := by decide +kernel
theorem cd_104_846 : dk_find (dk_code 104) 846 = some (.iconst 0, 1, 0, []) := by decide +kernel
theorem cd_104_847 : dk_find (dk_code 104) 847 = some (.laload, 1, 0, []) := by decide +kernel
theorem cd_104_848 : dk_find (dk_code 104) 848 = some (.iload 6, 2, 0, []) := by decide +kernel
theorem cd_104_850 : dk_find (dk_code 104) 850 = some (.i2l, 1, 0, []) := by decide +kernel
theorem cd_104_851 : dk_find (dk_code 104) 851 = some (.lcmp, 1, 0, []) := by decide +kernel
theorem cd_104_852 : dk_find (dk_code 104) 852 = some (.ifCond .eq (5), 3, 857, []) := by decide +kernel
theorem cd_104_855 : dk_find (dk_code 104) 855 = some (.iconst 0, 1, 0, []) := by decide +kernel
theorem cd_104_856 : dk_find (dk_code 104) 856 = some (.ireturn, 1, 0, []) := by decide +kernel
theorem cd_104_857 : dk_find (dk_code 104) 857 = some (.goto (28), 3, 885, []) := by decide +kernel
theorem cd_104_860 : dk_find (dk_code 104) 860 = some (.aload_n 1, 1, 0, []) := by decide +kernel
theorem cd_104_861 : dk_find (dk_code 104) 861 = some (.aload_n 0, 1, 0, []) := by decide +kernel
theorem cd_104_862 : dk_find (dk_code 104) 862 = some (.iload 4, 2, 0, []) := by decide +kernel
theorem cd_104_864 : dk_find (dk_code 104) 864 = some (.iconst 1, 1, 0, []) := by decide +kernel
theorem cd_104_865 : dk_find (dk_code 104) 865 = some (.iadd, 1, 0, []) := by decide +kernel
theorem cd_104_866 : dk_find (dk_code 104) 866 = some (.iaload, 1, 0, []) := by decide +kernel
theorem cd_104_867 : dk_find (dk_code 104) 867 = some (.invokevirtual 108, 3, 0, []) := by decide +kernel
theorem cd_104_870 : dk_find (dk_code 104) 870 = some (.aload_n 2, 1, 0, []) := by decide +kernel
theorem cd_104_871 : dk_find (dk_code 104) 871 = some (.aload_n 0, 1, 0, []) := by decide +kernel
theorem cd_104_872 : dk_find (dk_code 104) 872 = some (.iload 4, 2, 0, []) := by decide +kernel
theorem cd_104_874 : dk_find (dk_code 104) 874 = some (.iconst 1, 1, 0, []) := by decide +kernel
theorem cd_104_875 : dk_find (dk_code 104) 875 = some (.iadd, 1, 0, []) := by decide +kernel
theorem cd_104_876 : dk_find (dk_code 104) 876 = some (.iaload, 1, 0, []) := by decide +kernel
theorem cd_104_877 : dk_find (dk_code 104) 877 = some (.invokevirtual 111, 3, 0, []) := by decide +kernel
theorem cd_104_880 : dk_find (dk_code 104) 880 = some (.if_icmp .eq (5), 3, 885, []) := by decide +kernel
theorem cd_104_883 : dk_find (dk_code 104) 883 = some (.iconst 0, 1, 0, []) := by decide +kernel
theorem cd_104_884 : dk_find (dk_code 104) 884 = some (.ireturn, 1, 0, []) := by decide +kernel
theorem cd_104_885 : dk_find (dk_code 104) 885 = some (.iinc 4 (6), 3, 0, []) := by decide +kernel
theorem cd_104_888 : dk_find (dk_code 104) 888 = some (.goto (-865), 3, 23, []) := by decide +kernel
theorem cd_104_891 : dk_find (dk_code 104) 891 = some (.iconst 1, 1, 0, []) := by decide +kernel
theorem cd_104_892 : dk_find (dk_code 104) 892 = some (.ireturn, 1, 0, []) := by decide +kernel
theorem fl_6_9 : dk_fld 6 9 = some (3, 0, 0, false) := by decide +kernel
theorem fl_6_15 : dk_fld 6 15 = some (3, 2, 0, false) := by decide +kernel
theorem fl_7_12 : dk_fld 7 12 = some (2, 1, 2, false) := by decide +kernel
theorem fl_7_54 : dk_fld 7 54 = some (2, 6, 0, false) := by decide +kernel
theorem fl_7_67 : dk_fld 7 67 = some (2, 5, 0, false) := by decide +kernel
theorem fl_7_70 : dk_fld 7 70 = some (3, 0, 0, true) := by decide +kernel
theorem fl_8_11 : dk_fld 8 11 = some (5, 0, 2, false) := by decide +kernel
theorem fl_8_66 : dk_fld 8 66 = some (2, 7, 0, true) := by decide +kernel
theorem fl_8_107 : dk_fld 8 107 = some (5, 5, 0, false) := by decide +kernel
theorem fl_9_11 : dk_fld 9 11 = some (5, 0, 2, false) := by decide +kernel
theorem fl_9_66 : dk_fld 9 66 = some (2, 7, 0, true) := by decide +kernel
theorem fl_10_17 : dk_fld 10 17 = some (5, 1, 2, false) := by decide +kernel
theorem fl_10_149 : dk_fld 10 149 = some (4, 3, 0, true) := by decide +kernel
theorem fl_11_24 : dk_fld 11 24 = some (5, 2, 2, false) := by decide +kernel
theorem fl_11_107 : dk_fld 11 107 = some (5, 5, 0, false) := by decide +kernel
theorem fl_11_163 : dk_fld 11 163 = some (1, 5, 0, true) := by decide +kernel
theorem fl_11_183 : dk_fld 11 183 = some (5, 4, 0, false) := by decide +kernel
theorem fl_12_11 : dk_fld 12 11 = some (5, 0, 2, false) := by decide +kernel
theorem fl_13_11 : dk_fld 13 11 = some (5, 0, 2, false) := by decide +kernel
theorem fl_13_28 : dk_fld 13 28 = some (5, 3, 2, false) := by decide +kernel
theorem fl_13_40 : dk_fld 13 40 = some (2, 3, 1, true) := by decide +kernel
theorem fl_13_183 : dk_fld 13 183 = some (5, 4, 0, false) := by decide +kernel
theorem fl_14_40 : dk_fld 14 40 = some (2, 3, 1, true) := by decide +kernel
theorem fl_16_40 : dk_fld 16 40 = some (2, 3, 1, true) := by decide +kernel
theorem fl_18_20 : dk_fld 18 20 = some (2, 2, 2, false) := by decide +kernel
theorem fl_18_32 : dk_fld 18 32 = some (2, 4, 0, false) := by decide +kernel
theorem fl_18_35 : dk_fld 18 35 = some (0, 0, 0, true) := by decide +kernel
theorem fl_18_38 : dk_fld 18 38 = some (0, 1, 0, true) := by decide +kernel
theorem fl_18_41 : dk_fld 18 41 = some (0, 2, 0, true) := by decide +kernel
theorem fl_18_44 : dk_fld 18 44 = some (0, 3, 1, true) := by decide +kernel
theorem fl_19_66 : dk_fld 19 66 = some (2, 7, 0, true) := by decide +kernel
theorem fl_19_70 : dk_fld 19 70 = some (2, 4, 0, true) := by decide +kernel
theorem fl_21_66 : dk_fld 21 66 = some (2, 7, 0, true) := by decide +kernel
theorem fl_22_88 : dk_fld 22 88 = some (2, 5, 0, true) := by decide +kernel
theorem fl_24_9 : dk_fld 24 9 = some (3, 0, 0, false) := by decide +kernel
theorem fl_24_15 : dk_fld 24 15 = some (3, 2, 0, false) := by decide +kernel
theorem fl_25_20 : dk_fld 25 20 = some (2, 2, 2, false) := by decide +kernel
theorem fl_25_32 : dk_fld 25 32 = some (2, 4, 0, false) := by decide +kernel
theorem fl_25_44 : dk_fld 25 44 = some (0, 3, 1, true) := by decide +kernel
theorem fl_26_12 : dk_fld 26 12 = some (2, 1, 2, false) := by decide +kernel
theorem fl_26_24 : dk_fld 26 24 = some (2, 7, 0, false) := by decide +kernel
theorem fl_26_48 : dk_fld 26 48 = some (3, 1, 0, true) := by decide +kernel
theorem fl_26_54 : dk_fld 26 54 = some (2, 6, 0, false) := by decide +kernel
theorem fl_26_61 : dk_fld 26 61 = some (2, 8, 0, false) := by decide +kernel
theorem fl_27_94 : dk_fld 27 94 = some (2, 1, 2, true) := by decide +kernel
theorem fl_27_98 : dk_fld 27 98 = some (3, 1, 0, true) := by decide +kernel
theorem fl_29_12 : dk_fld 29 12 = some (2, 1, 2, false) := by decide +kernel
theorem fl_29_24 : dk_fld 29 24 = some (2, 7, 0, false) := by decide +kernel
theorem fl_29_70 : dk_fld 29 70 = some (3, 0, 0, true) := by decide +kernel
theorem fl_30_11 : dk_fld 30 11 = some (4, 0, 2, false) := by decide +kernel
theorem fl_30_15 : dk_fld 30 15 = some (4, 1, 2, false) := by decide +kernel
theorem fl_30_18 : dk_fld 30 18 = some (4, 2, 2, false) := by decide +kernel
theorem fl_30_21 : dk_fld 30 21 = some (4, 3, 0, false) := by decide +kernel
theorem fl_31_24 : dk_fld 31 24 = some (2, 7, 0, false) := by decide +kernel
theorem fl_31_61 : dk_fld 31 61 = some (2, 8, 0, false) := by decide +kernel
theorem fl_31_73 : dk_fld 31 73 = some (2, 9, 0, false) := by decide +kernel
theorem fl_31_76 : dk_fld 31 76 = some (2, 10, 1, false) := by decide +kernel
theorem fl_32_17 : dk_fld 32 17 = some (5, 1, 2, false) := by decide +kernel
theorem fl_32_94 : dk_fld 32 94 = some (2, 1, 2, true) := by decide +kernel
theorem fl_32_98 : dk_fld 32 98 = some (3, 1, 0, true) := by decide +kernel
theorem fl_32_203 : dk_fld 32 203 = some (2, 0, 0, true) := by decide +kernel
theorem fl_32_242 : dk_fld 32 242 = some (2, 2, 2, true) := by decide +kernel
theorem fl_32_245 : dk_fld 32 245 = some (2, 8, 0, true) := by decide +kernel
theorem fl_32_248 : dk_fld 32 248 = some (0, 1, 0, true) := by decide +kernel
theorem fl_33_24 : dk_fld 33 24 = some (2, 7, 0, false) := by decide +kernel
theorem fl_33_61 : dk_fld 33 61 = some (2, 8, 0, false) := by decide +kernel
theorem fl_33_73 : dk_fld 33 73 = some (2, 9, 0, false) := by decide +kernel
theorem fl_33_76 : dk_fld 33 76 = some (2, 10, 1, false) := by decide +kernel
theorem fl_34_11 : dk_fld 34 11 = some (5, 0, 2, false) := by decide +kernel
theorem fl_34_154 : dk_fld 34 154 = some (4, 0, 2, true) := by decide +kernel
theorem fl_34_160 : dk_fld 34 160 = some (4, 2, 2, true) := by decide +kernel
theorem fl_34_203 : dk_fld 34 203 = some (2, 0, 0, true) := by decide +kernel
theorem fl_34_242 : dk_fld 34 242 = some (2, 2, 2, true) := by decide +kernel
theorem fl_34_245 : dk_fld 34 245 = some (2, 8, 0, true) := by decide +kernel
theorem fl_34_264 : dk_fld 34 264 = some (2, 9, 0, true) := by decide +kernel
theorem fl_34_286 : dk_fld 34 286 = some (0, 0, 0, true) := by decide +kernel
theorem fl_35_24 : dk_fld 35 24 = some (2, 7, 0, false) := by decide +kernel
theorem fl_35_73 : dk_fld 35 73 = some (2, 9, 0, false) := by decide +kernel
theorem fl_36_17 : dk_fld 36 17 = some (5, 1, 2, false) := by decide +kernel
theorem fl_36_66 : dk_fld 36 66 = some (2, 7, 0, true) := by decide +kernel
theorem fl_36_149 : dk_fld 36 149 = some (4, 3, 0, true) := by decide +kernel
theorem fl_36_154 : dk_fld 36 154 = some (4, 0, 2, true) := by decide +kernel
theorem fl_36_157 : dk_fld 36 157 = some (4, 1, 2, true) := by decide +kernel
theorem fl_36_160 : dk_fld 36 160 = some (4, 2, 2, true) := by decide +kernel
theorem fl_36_242 : dk_fld 36 242 = some (2, 2, 2, true) := by decide +kernel
theorem fl_36_245 : dk_fld 36 245 = some (2, 8, 0, true) := by decide +kernel
theorem fl_36_248 : dk_fld 36 248 = some (0, 1, 0, true) := by decide +kernel
theorem fl_36_264 : dk_fld 36 264 = some (2, 9, 0, true) := by decide +kernel
theorem fl_36_274 : dk_fld 36 274 = some (2, 11, 0, true) := by decide +kernel
theorem fl_36_277 : dk_fld 36 277 = some (2, 12, 0, true) := by decide +kernel
theorem fl_36_280 : dk_fld 36 280 = some (2, 13, 0, true) := by decide +kernel
theorem fl_37_11 : dk_fld 37 11 = some (5, 0, 2, false) := by decide +kernel
theorem fl_37_203 : dk_fld 37 203 = some (2, 0, 0, true) := by decide +kernel
theorem fl_37_274 : dk_fld 37 274 = some (2, 11, 0, true) := by decide +kernel
theorem fl_38_9 : dk_fld 38 9 = some (3, 0, 0, false) := by decide +kernel
theorem fl_38_15 : dk_fld 38 15 = some (3, 2, 0, false) := by decide +kernel
theorem fl_39_94 : dk_fld 39 94 = some (2, 1, 2, true) := by decide +kernel
theorem fl_39_98 : dk_fld 39 98 = some (3, 1, 0, true) := by decide +kernel
theorem fl_39_116 : dk_fld 39 116 = some (3, 0, 0, true) := by decide +kernel
theorem fl_39_203 : dk_fld 39 203 = some (2, 0, 0, true) := by decide +kernel
theorem fl_39_209 : dk_fld 39 209 = some (2, 10, 1, true) := by decide +kernel
theorem fl_39_277 : dk_fld 39 277 = some (2, 12, 0, true) := by decide +kernel
theorem fl_40_66 : dk_fld 40 66 = some (2, 7, 0, true) := by decide +kernel
theorem fl_41_11 : dk_fld 41 11 = some (5, 0, 2, false) := by decide +kernel
theorem fl_41_66 : dk_fld 41 66 = some (2, 7, 0, true) := by decide +kernel
theorem fl_41_203 : dk_fld 41 203 = some (2, 0, 0, true) := by decide +kernel
theorem fl_41_274 : dk_fld 41 274 = some (2, 11, 0, true) := by decide +kernel
theorem fl_42_94 : dk_fld 42 94 = some (2, 1, 2, true) := by decide +kernel
theorem fl_43_18 : dk_fld 43 18 = some (3, 3, 0, false) := by decide +kernel
theorem fl_43_21 : dk_fld 43 21 = some (3, 4, 0, false) := by decide +kernel
theorem fl_43_24 : dk_fld 43 24 = some (3, 5, 0, false) := by decide +kernel
theorem fl_44_9 : dk_fld 44 9 = some (3, 0, 0, false) := by decide +kernel
theorem fl_44_15 : dk_fld 44 15 = some (3, 2, 0, false) := by decide +kernel
theorem fl_45_9 : dk_fld 45 9 = some (1, 0, 2, false) := by decide +kernel
theorem fl_45_15 : dk_fld 45 15 = some (1, 1, 2, false) := by decide +kernel
theorem fl_45_18 : dk_fld 45 18 = some (1, 2, 2, false) := by decide +kernel
theorem fl_45_21 : dk_fld 45 21 = some (1, 3, 2, false) := by decide +kernel
theorem fl_45_24 : dk_fld 45 24 = some (1, 4, 2, false) := by decide +kernel
theorem fl_45_27 : dk_fld 45 27 = some (1, 5, 0, false) := by decide +kernel
theorem fl_46_11 : dk_fld 46 11 = some (5, 0, 2, false) := by decide +kernel
theorem fl_46_24 : dk_fld 46 24 = some (5, 2, 2, false) := by decide +kernel
theorem fl_46_66 : dk_fld 46 66 = some (2, 7, 0, true) := by decide +kernel
theorem fl_46_94 : dk_fld 46 94 = some (2, 1, 2, true) := by decide +kernel
theorem fl_46_203 : dk_fld 46 203 = some (2, 0, 0, true) := by decide +kernel
theorem fl_46_242 : dk_fld 46 242 = some (2, 2, 2, true) := by decide +kernel
theorem fl_46_245 : dk_fld 46 245 = some (2, 8, 0, true) := by decide +kernel
theorem fl_46_248 : dk_fld 46 248 = some (0, 1, 0, true) := by decide +kernel
theorem fl_46_274 : dk_fld 46 274 = some (2, 11, 0, true) := by decide +kernel
theorem fl_46_280 : dk_fld 46 280 = some (2, 13, 0, true) := by decide +kernel
theorem fl_46_286 : dk_fld 46 286 = some (0, 0, 0, true) := by decide +kernel
theorem fl_46_312 : dk_fld 46 312 = some (0, 2, 0, true) := by decide +kernel
theorem fl_47_66 : dk_fld 47 66 = some (2, 7, 0, true) := by decide +kernel
theorem fl_47_94 : dk_fld 47 94 = some (2, 1, 2, true) := by decide +kernel
theorem fl_48_12 : dk_fld 48 12 = some (2, 1, 2, false) := by decide +kernel
theorem fl_48_24 : dk_fld 48 24 = some (2, 7, 0, false) := by decide +kernel
theorem fl_48_70 : dk_fld 48 70 = some (3, 0, 0, true) := by decide +kernel
theorem fl_49_66 : dk_fld 49 66 = some (2, 7, 0, true) := by decide +kernel
theorem fl_52_11 : dk_fld 52 11 = some (5, 0, 2, false) := by decide +kernel
theorem fl_52_94 : dk_fld 52 94 = some (2, 1, 2, true) := by decide +kernel
theorem fl_52_135 : dk_fld 52 135 = some (3, 2, 0, true) := by decide +kernel
theorem fl_52_203 : dk_fld 52 203 = some (2, 0, 0, true) := by decide +kernel
theorem fl_53_11 : dk_fld 53 11 = some (4, 0, 2, false) := by decide +kernel
theorem fl_53_15 : dk_fld 53 15 = some (4, 1, 2, false) := by decide +kernel
theorem fl_53_18 : dk_fld 53 18 = some (4, 2, 2, false) := by decide +kernel
theorem fl_53_21 : dk_fld 53 21 = some (4, 3, 0, false) := by decide +kernel
theorem fl_54_12 : dk_fld 54 12 = some (2, 1, 2, false) := by decide +kernel
theorem fl_54_24 : dk_fld 54 24 = some (2, 7, 0, false) := by decide +kernel
theorem fl_54_32 : dk_fld 54 32 = some (2, 4, 0, false) := by decide +kernel
theorem fl_54_67 : dk_fld 54 67 = some (2, 5, 0, false) := by decide +kernel
theorem fl_55_11 : dk_fld 55 11 = some (5, 0, 2, false) := by decide +kernel
theorem fl_55_17 : dk_fld 55 17 = some (5, 1, 2, false) := by decide +kernel
theorem fl_55_203 : dk_fld 55 203 = some (2, 0, 0, true) := by decide +kernel
theorem fl_55_209 : dk_fld 55 209 = some (2, 10, 1, true) := by decide +kernel
theorem fl_56_66 : dk_fld 56 66 = some (2, 7, 0, true) := by decide +kernel
theorem fl_56_94 : dk_fld 56 94 = some (2, 1, 2, true) := by decide +kernel
theorem fl_56_116 : dk_fld 56 116 = some (3, 0, 0, true) := by decide +kernel
theorem fl_58_9 : dk_fld 58 9 = some (3, 0, 0, false) := by decide +kernel
theorem fl_58_18 : dk_fld 58 18 = some (3, 3, 0, false) := by decide +kernel
theorem fl_59_94 : dk_fld 59 94 = some (2, 1, 2, true) := by decide +kernel
theorem fl_61_9 : dk_fld 61 9 = some (3, 0, 0, false) := by decide +kernel
theorem fl_61_21 : dk_fld 61 21 = some (3, 4, 0, false) := by decide +kernel
theorem fl_62_9 : dk_fld 62 9 = some (3, 0, 0, false) := by decide +kernel
theorem fl_62_24 : dk_fld 62 24 = some (3, 5, 0, false) := by decide +kernel
theorem fl_63_66 : dk_fld 63 66 = some (2, 7, 0, true) := by decide +kernel
theorem fl_63_94 : dk_fld 63 94 = some (2, 1, 2, true) := by decide +kernel
theorem fl_63_98 : dk_fld 63 98 = some (3, 1, 0, true) := by decide +kernel
theorem fl_63_116 : dk_fld 63 116 = some (3, 0, 0, true) := by decide +kernel
theorem fl_63_135 : dk_fld 63 135 = some (3, 2, 0, true) := by decide +kernel
theorem fl_65_17 : dk_fld 65 17 = some (5, 1, 2, false) := by decide +kernel
theorem fl_65_149 : dk_fld 65 149 = some (4, 3, 0, true) := by decide +kernel
theorem fl_65_154 : dk_fld 65 154 = some (4, 0, 2, true) := by decide +kernel
theorem fl_65_157 : dk_fld 65 157 = some (4, 1, 2, true) := by decide +kernel
theorem fl_65_160 : dk_fld 65 160 = some (4, 2, 2, true) := by decide +kernel
theorem fl_67_24 : dk_fld 67 24 = some (5, 2, 2, false) := by decide +kernel
theorem fl_67_163 : dk_fld 67 163 = some (1, 5, 0, true) := by decide +kernel
theorem fl_67_166 : dk_fld 67 166 = some (1, 0, 2, true) := by decide +kernel
theorem fl_67_169 : dk_fld 67 169 = some (1, 1, 2, true) := by decide +kernel
theorem fl_67_172 : dk_fld 67 172 = some (1, 2, 2, true) := by decide +kernel
theorem fl_67_175 : dk_fld 67 175 = some (1, 3, 2, true) := by decide +kernel
theorem fl_67_178 : dk_fld 67 178 = some (1, 4, 2, true) := by decide +kernel
theorem fl_69_11 : dk_fld 69 11 = some (5, 0, 2, false) := by decide +kernel
theorem fl_69_28 : dk_fld 69 28 = some (5, 3, 2, false) := by decide +kernel
theorem fl_69_183 : dk_fld 69 183 = some (5, 4, 0, false) := by decide +kernel
theorem fl_72_86 : dk_fld 72 86 = some (6, 0, 0, false) := by decide +kernel
theorem fl_74_7 : dk_fld 74 7 = some (6, 2, 2, false) := by decide +kernel
theorem fl_74_86 : dk_fld 74 86 = some (6, 0, 0, false) := by decide +kernel
theorem fl_75_7 : dk_fld 75 7 = some (6, 2, 2, false) := by decide +kernel
theorem fl_75_86 : dk_fld 75 86 = some (6, 0, 0, false) := by decide +kernel
theorem fl_76_86 : dk_fld 76 86 = some (6, 0, 0, false) := by decide +kernel
theorem fl_77_23 : dk_fld 77 23 = some (6, 6, 2, false) := by decide +kernel
theorem fl_78_35 : dk_fld 78 35 = some (6, 10, 2, false) := by decide +kernel
theorem fl_78_38 : dk_fld 78 38 = some (6, 11, 2, false) := by decide +kernel
theorem fl_78_41 : dk_fld 78 41 = some (6, 12, 2, false) := by decide +kernel
theorem fl_78_44 : dk_fld 78 44 = some (6, 13, 2, false) := by decide +kernel
theorem fl_78_47 : dk_fld 78 47 = some (6, 14, 2, false) := by decide +kernel
theorem fl_79_50 : dk_fld 79 50 = some (6, 15, 2, false) := by decide +kernel
theorem fl_80_35 : dk_fld 80 35 = some (6, 10, 2, false) := by decide +kernel
theorem fl_80_47 : dk_fld 80 47 = some (6, 14, 2, false) := by decide +kernel
theorem fl_81_13 : dk_fld 81 13 = some (6, 3, 2, false) := by decide +kernel
theorem fl_81_17 : dk_fld 81 17 = some (6, 4, 2, false) := by decide +kernel
theorem fl_81_23 : dk_fld 81 23 = some (6, 6, 2, false) := by decide +kernel
theorem fl_81_53 : dk_fld 81 53 = some (6, 16, 2, false) := by decide +kernel
theorem fl_81_56 : dk_fld 81 56 = some (6, 17, 2, false) := by decide +kernel
theorem fl_81_59 : dk_fld 81 59 = some (6, 18, 2, false) := by decide +kernel
theorem fl_81_62 : dk_fld 81 62 = some (6, 19, 2, false) := by decide +kernel
theorem fl_81_105 : dk_fld 81 105 = some (6, 1, 0, false) := by decide +kernel
theorem fl_82_13 : dk_fld 82 13 = some (6, 3, 2, false) := by decide +kernel
theorem fl_82_23 : dk_fld 82 23 = some (6, 6, 2, false) := by decide +kernel
theorem fl_83_23 : dk_fld 83 23 = some (6, 6, 2, false) := by decide +kernel
theorem fl_83_56 : dk_fld 83 56 = some (6, 17, 2, false) := by decide +kernel
theorem fl_83_59 : dk_fld 83 59 = some (6, 18, 2, false) := by decide +kernel
theorem fl_83_62 : dk_fld 83 62 = some (6, 19, 2, false) := by decide +kernel
theorem fl_84_17 : dk_fld 84 17 = some (6, 4, 2, false) := by decide +kernel
theorem fl_84_41 : dk_fld 84 41 = some (6, 12, 2, false) := by decide +kernel
theorem fl_84_56 : dk_fld 84 56 = some (6, 17, 2, false) := by decide +kernel
theorem fl_84_74 : dk_fld 84 74 = some (6, 23, 2, false) := by decide +kernel
theorem fl_84_77 : dk_fld 84 77 = some (6, 24, 2, false) := by decide +kernel
theorem fl_84_80 : dk_fld 84 80 = some (6, 25, 2, false) := by decide +kernel
theorem fl_85_23 : dk_fld 85 23 = some (6, 6, 2, false) := by decide +kernel
theorem fl_85_38 : dk_fld 85 38 = some (6, 11, 2, false) := by decide +kernel
theorem fl_85_41 : dk_fld 85 41 = some (6, 12, 2, false) := by decide +kernel
theorem fl_85_56 : dk_fld 85 56 = some (6, 17, 2, false) := by decide +kernel
theorem fl_85_59 : dk_fld 85 59 = some (6, 18, 2, false) := by decide +kernel
theorem fl_85_62 : dk_fld 85 62 = some (6, 19, 2, false) := by decide +kernel
theorem fl_85_65 : dk_fld 85 65 = some (6, 20, 2, false) := by decide +kernel
theorem fl_85_68 : dk_fld 85 68 = some (6, 21, 2, false) := by decide +kernel
theorem fl_85_71 : dk_fld 85 71 = some (6, 22, 2, false) := by decide +kernel
theorem fl_85_74 : dk_fld 85 74 = some (6, 23, 2, false) := by decide +kernel
theorem fl_85_77 : dk_fld 85 77 = some (6, 24, 2, false) := by decide +kernel
theorem fl_85_80 : dk_fld 85 80 = some (6, 25, 2, false) := by decide +kernel
theorem fl_86_65 : dk_fld 86 65 = some (6, 20, 2, false) := by decide +kernel
theorem fl_87_13 : dk_fld 87 13 = some (6, 3, 2, false) := by decide +kernel
theorem fl_87_17 : dk_fld 87 17 = some (6, 4, 2, false) := by decide +kernel
theorem fl_87_20 : dk_fld 87 20 = some (6, 5, 2, false) := by decide +kernel
theorem fl_87_62 : dk_fld 87 62 = some (6, 19, 2, false) := by decide +kernel
theorem fl_87_68 : dk_fld 87 68 = some (6, 21, 2, false) := by decide +kernel
theorem fl_88_23 : dk_fld 88 23 = some (6, 6, 2, false) := by decide +kernel
theorem fl_88_59 : dk_fld 88 59 = some (6, 18, 2, false) := by decide +kernel
theorem fl_89_65 : dk_fld 89 65 = some (6, 20, 2, false) := by decide +kernel
theorem fl_90_13 : dk_fld 90 13 = some (6, 3, 2, false) := by decide +kernel
theorem fl_90_20 : dk_fld 90 20 = some (6, 5, 2, false) := by decide +kernel
theorem fl_90_26 : dk_fld 90 26 = some (6, 7, 2, false) := by decide +kernel
theorem fl_90_29 : dk_fld 90 29 = some (6, 8, 2, false) := by decide +kernel
theorem fl_91_32 : dk_fld 91 32 = some (6, 9, 2, false) := by decide +kernel
theorem fl_91_38 : dk_fld 91 38 = some (6, 11, 2, false) := by decide +kernel
theorem fl_91_41 : dk_fld 91 41 = some (6, 12, 2, false) := by decide +kernel
theorem fl_91_44 : dk_fld 91 44 = some (6, 13, 2, false) := by decide +kernel
theorem fl_91_56 : dk_fld 91 56 = some (6, 17, 2, false) := by decide +kernel
theorem fl_91_65 : dk_fld 91 65 = some (6, 20, 2, false) := by decide +kernel
theorem fl_91_71 : dk_fld 91 71 = some (6, 22, 2, false) := by decide +kernel
theorem fl_91_83 : dk_fld 91 83 = some (6, 27, 2, false) := by decide +kernel
theorem fl_91_116 : dk_fld 91 116 = some (6, 26, 0, false) := by decide +kernel
theorem fl_92_13 : dk_fld 92 13 = some (6, 3, 2, false) := by decide +kernel
theorem fl_92_20 : dk_fld 92 20 = some (6, 5, 2, false) := by decide +kernel
theorem fl_92_23 : dk_fld 92 23 = some (6, 6, 2, false) := by decide +kernel
theorem fl_92_56 : dk_fld 92 56 = some (6, 17, 2, false) := by decide +kernel
theorem fl_92_65 : dk_fld 92 65 = some (6, 20, 2, false) := by decide +kernel
theorem fl_92_71 : dk_fld 92 71 = some (6, 22, 2, false) := by decide +kernel
theorem fl_93_13 : dk_fld 93 13 = some (6, 3, 2, false) := by decide +kernel
theorem fl_93_23 : dk_fld 93 23 = some (6, 6, 2, false) := by decide +kernel
theorem fl_95_7 : dk_fld 95 7 = some (6, 2, 2, false) := by decide +kernel
theorem fl_95_13 : dk_fld 95 13 = some (6, 3, 2, false) := by decide +kernel
theorem fl_95_50 : dk_fld 95 50 = some (6, 15, 2, false) := by decide +kernel
theorem fl_95_53 : dk_fld 95 53 = some (6, 16, 2, false) := by decide +kernel
theorem fl_95_86 : dk_fld 95 86 = some (6, 0, 0, false) := by decide +kernel
theorem fl_95_105 : dk_fld 95 105 = some (6, 1, 0, false) := by decide +kernel
theorem fl_96_13 : dk_fld 96 13 = some (6, 3, 2, false) := by decide +kernel
theorem fl_96_20 : dk_fld 96 20 = some (6, 5, 2, false) := by decide +kernel
theorem fl_96_23 : dk_fld 96 23 = some (6, 6, 2, false) := by decide +kernel
theorem fl_96_35 : dk_fld 96 35 = some (6, 10, 2, false) := by decide +kernel
theorem fl_96_50 : dk_fld 96 50 = some (6, 15, 2, false) := by decide +kernel
theorem fl_96_62 : dk_fld 96 62 = some (6, 19, 2, false) := by decide +kernel
theorem fl_96_74 : dk_fld 96 74 = some (6, 23, 2, false) := by decide +kernel
theorem fl_96_77 : dk_fld 96 77 = some (6, 24, 2, false) := by decide +kernel
theorem fl_96_80 : dk_fld 96 80 = some (6, 25, 2, false) := by decide +kernel
theorem fl_97_13 : dk_fld 97 13 = some (6, 3, 2, false) := by decide +kernel
theorem fl_97_20 : dk_fld 97 20 = some (6, 5, 2, false) := by decide +kernel
theorem fl_98_13 : dk_fld 98 13 = some (6, 3, 2, false) := by decide +kernel
theorem fl_98_23 : dk_fld 98 23 = some (6, 6, 2, false) := by decide +kernel
theorem fl_98_26 : dk_fld 98 26 = some (6, 7, 2, false) := by decide +kernel
theorem fl_99_13 : dk_fld 99 13 = some (6, 3, 2, false) := by decide +kernel
theorem fl_99_17 : dk_fld 99 17 = some (6, 4, 2, false) := by decide +kernel
theorem fl_99_20 : dk_fld 99 20 = some (6, 5, 2, false) := by decide +kernel
theorem fl_99_23 : dk_fld 99 23 = some (6, 6, 2, false) := by decide +kernel
theorem fl_99_26 : dk_fld 99 26 = some (6, 7, 2, false) := by decide +kernel
theorem fl_99_29 : dk_fld 99 29 = some (6, 8, 2, false) := by decide +kernel
theorem fl_99_32 : dk_fld 99 32 = some (6, 9, 2, false) := by decide +kernel
theorem fl_100_74 : dk_fld 100 74 = some (6, 23, 2, false) := by decide +kernel
theorem fl_100_77 : dk_fld 100 77 = some (6, 24, 2, false) := by decide +kernel
theorem fl_100_80 : dk_fld 100 80 = some (6, 25, 2, false) := by decide +kernel
theorem fl_100_86 : dk_fld 100 86 = some (6, 0, 0, false) := by decide +kernel
theorem fl_101_83 : dk_fld 101 83 = some (6, 27, 2, false) := by decide +kernel
theorem fl_101_86 : dk_fld 101 86 = some (6, 0, 0, false) := by decide +kernel
theorem fl_101_116 : dk_fld 101 116 = some (6, 26, 0, false) := by decide +kernel
theorem fl_102_7 : dk_fld 102 7 = some (6, 2, 2, false) := by decide +kernel
theorem fl_102_86 : dk_fld 102 86 = some (6, 0, 0, false) := by decide +kernel
theorem fl_103_7 : dk_fld 103 7 = some (6, 2, 2, false) := by decide +kernel
theorem fl_103_74 : dk_fld 103 74 = some (6, 23, 2, false) := by decide +kernel
theorem fl_103_86 : dk_fld 103 86 = some (6, 0, 0, false) := by decide +kernel
theorem fl_103_105 : dk_fld 103 105 = some (6, 1, 0, false) := by decide +kernel
theorem fl_103_116 : dk_fld 103 116 = some (6, 26, 0, false) := by decide +kernel
theorem ca_7_64 : dk_callT 7 64 = some (0, 6, 1, 0, true) := by decide +kernel
theorem ca_8_110 : dk_callT 8 110 = some (0, 7, 1, 0, true) := by decide +kernel
theorem ca_11_191 : dk_callT 11 191 = some (1, 9, 1, 0, false) := by decide +kernel
theorem ca_11_194 : dk_callT 11 194 = some (1, 10, 1, 0, false) := by decide +kernel
theorem ca_14_36 : dk_callT 14 36 = some (0, 12, 2, 0, false) := by decide +kernel
theorem ca_14_51 : dk_callT 14 51 = some (1, 13, 1, 0, false) := by decide +kernel
theorem ca_15_7 : dk_callT 15 7 = some (0, 14, 2, 0, false) := by decide +kernel
theorem ca_16_36 : dk_callT 16 36 = some (0, 12, 2, 0, false) := by decide +kernel
theorem ca_19_54 : dk_callT 19 54 = some (0, 16, 2, 0, false) := by decide +kernel
theorem ca_19_57 : dk_callT 19 57 = some (0, 17, 1, 2, false) := by decide +kernel
theorem ca_19_78 : dk_callT 19 78 = some (0, 18, 5, 0, true) := by decide +kernel
theorem ca_20_17 : dk_callT 20 17 = some (0, 19, 6, 0, false) := by decide +kernel
theorem ca_22_54 : dk_callT 22 54 = some (0, 16, 2, 0, false) := by decide +kernel
theorem ca_22_84 : dk_callT 22 84 = some (0, 21, 1, 2, false) := by decide +kernel
theorem ca_23_25 : dk_callT 23 25 = some (0, 22, 3, 0, false) := by decide +kernel
theorem ca_26_51 : dk_callT 26 51 = some (0, 24, 1, 0, true) := by decide +kernel
theorem ca_26_57 : dk_callT 26 57 = some (1, 25, 2, 0, false) := by decide +kernel
theorem ca_27_54 : dk_callT 27 54 = some (0, 16, 2, 0, false) := by decide +kernel
theorem ca_27_84 : dk_callT 27 84 = some (0, 21, 1, 2, false) := by decide +kernel
theorem ca_27_91 : dk_callT 27 91 = some (0, 26, 1, 0, true) := by decide +kernel
theorem ca_28_29 : dk_callT 28 29 = some (0, 27, 2, 0, false) := by decide +kernel
theorem ca_31_57 : dk_callT 31 57 = some (1, 25, 2, 0, false) := by decide +kernel
theorem ca_32_253 : dk_callT 32 253 = some (0, 30, 4, 0, true) := by decide +kernel
theorem ca_32_257 : dk_callT 32 257 = some (1, 25, 2, 0, true) := by decide +kernel
theorem ca_32_261 : dk_callT 32 261 = some (0, 31, 1, 0, true) := by decide +kernel
theorem ca_33_57 : dk_callT 33 57 = some (1, 25, 2, 0, false) := by decide +kernel
theorem ca_33_79 : dk_callT 33 79 = some (0, 31, 1, 0, false) := by decide +kernel
theorem ca_36_267 : dk_callT 36 267 = some (0, 33, 1, 0, true) := by decide +kernel
theorem ca_36_270 : dk_callT 36 270 = some (0, 34, 3, 0, false) := by decide +kernel
theorem ca_36_283 : dk_callT 36 283 = some (0, 35, 1, 0, true) := by decide +kernel
theorem ca_37_306 : dk_callT 37 306 = some (4, 0, 2, 2, false) := by decide +kernel
theorem ca_39_309 : dk_callT 39 309 = some (0, 38, 2, 0, true) := by decide +kernel
theorem ca_40_283 : dk_callT 40 283 = some (0, 35, 1, 0, true) := by decide +kernel
theorem ca_40_289 : dk_callT 40 289 = some (0, 37, 2, 0, false) := by decide +kernel
theorem ca_40_293 : dk_callT 40 293 = some (0, 39, 2, 2, false) := by decide +kernel
theorem ca_41_293 : dk_callT 41 293 = some (0, 39, 2, 2, false) := by decide +kernel
theorem ca_41_297 : dk_callT 41 297 = some (3, 0, 2, 2, false) := by decide +kernel
theorem ca_42_283 : dk_callT 42 283 = some (0, 35, 1, 0, true) := by decide +kernel
theorem ca_42_289 : dk_callT 42 289 = some (0, 37, 2, 0, false) := by decide +kernel
theorem ca_42_303 : dk_callT 42 303 = some (0, 24, 1, 0, true) := by decide +kernel
theorem ca_46_239 : dk_callT 46 239 = some (0, 44, 1, 0, true) := by decide +kernel
theorem ca_46_315 : dk_callT 46 315 = some (0, 43, 4, 0, true) := by decide +kernel
theorem ca_46_318 : dk_callT 46 318 = some (0, 45, 6, 0, true) := by decide +kernel
theorem ca_47_221 : dk_callT 47 221 = some (0, 32, 2, 0, false) := by decide +kernel
theorem ca_47_224 : dk_callT 47 224 = some (0, 36, 2, 0, false) := by decide +kernel
theorem ca_47_227 : dk_callT 47 227 = some (0, 40, 2, 0, false) := by decide +kernel
theorem ca_47_230 : dk_callT 47 230 = some (0, 41, 2, 0, false) := by decide +kernel
theorem ca_47_233 : dk_callT 47 233 = some (0, 42, 2, 0, false) := by decide +kernel
theorem ca_47_236 : dk_callT 47 236 = some (0, 46, 2, 0, false) := by decide +kernel
theorem ca_47_239 : dk_callT 47 239 = some (0, 44, 1, 0, true) := by decide +kernel
theorem ca_49_126 : dk_callT 49 126 = some (0, 29, 1, 0, true) := by decide +kernel
theorem ca_49_215 : dk_callT 49 215 = some (0, 47, 2, 0, false) := by decide +kernel
theorem ca_49_218 : dk_callT 49 218 = some (0, 48, 1, 0, true) := by decide +kernel
theorem ca_50_54 : dk_callT 50 54 = some (0, 16, 2, 0, false) := by decide +kernel
theorem ca_50_103 : dk_callT 50 103 = some (1, 49, 2, 0, false) := by decide +kernel
theorem ca_51_33 : dk_callT 51 33 = some (0, 50, 2, 0, false) := by decide +kernel
theorem ca_54_64 : dk_callT 54 64 = some (0, 6, 1, 0, true) := by decide +kernel
theorem ca_55_206 : dk_callT 55 206 = some (1, 53, 2, 0, true) := by decide +kernel
theorem ca_55_212 : dk_callT 55 212 = some (0, 54, 1, 0, true) := by decide +kernel
theorem ca_56_54 : dk_callT 56 54 = some (0, 16, 2, 0, false) := by decide +kernel
theorem ca_56_119 : dk_callT 56 119 = some (1, 52, 2, 0, false) := by decide +kernel
theorem ca_56_123 : dk_callT 56 123 = some (1, 55, 2, 0, false) := by decide +kernel
theorem ca_57_36 : dk_callT 57 36 = some (0, 56, 2, 0, false) := by decide +kernel
theorem ca_59_54 : dk_callT 59 54 = some (0, 16, 2, 0, false) := by decide +kernel
theorem ca_59_123 : dk_callT 59 123 = some (1, 55, 2, 0, false) := by decide +kernel
theorem ca_59_126 : dk_callT 59 126 = some (0, 29, 1, 0, true) := by decide +kernel
theorem ca_59_131 : dk_callT 59 131 = some (0, 58, 1, 0, true) := by decide +kernel
theorem ca_60_40 : dk_callT 60 40 = some (0, 59, 2, 0, false) := by decide +kernel
theorem ca_63_54 : dk_callT 63 54 = some (0, 16, 2, 0, false) := by decide +kernel
theorem ca_63_131 : dk_callT 63 131 = some (0, 58, 1, 0, true) := by decide +kernel
theorem ca_63_138 : dk_callT 63 138 = some (0, 61, 1, 0, true) := by decide +kernel
theorem ca_63_141 : dk_callT 63 141 = some (0, 62, 1, 0, true) := by decide +kernel
theorem ca_64_43 : dk_callT 64 43 = some (0, 63, 3, 0, false) := by decide +kernel
theorem ca_65_57 : dk_callT 65 57 = some (0, 17, 1, 2, false) := by decide +kernel
theorem ca_66_46 : dk_callT 66 46 = some (0, 65, 4, 0, false) := by decide +kernel
theorem ca_68_50 : dk_callT 68 50 = some (0, 67, 3, 0, false) := by decide +kernel
theorem ca_69_103 : dk_callT 69 103 = some (1, 49, 2, 0, false) := by decide +kernel
theorem ca_70_53 : dk_callT 70 53 = some (1, 69, 3, 0, false) := by decide +kernel
theorem ca_74_90 : dk_callT 74 90 = some (0, 73, 3, 2, false) := by decide +kernel
theorem ca_75_90 : dk_callT 75 90 = some (0, 73, 3, 2, false) := by decide +kernel
theorem ca_78_90 : dk_callT 78 90 = some (0, 73, 3, 2, false) := by decide +kernel
theorem ca_78_94 : dk_callT 78 94 = some (0, 75, 2, 0, false) := by decide +kernel
theorem ca_78_98 : dk_callT 78 98 = some (0, 76, 2, 0, false) := by decide +kernel
theorem ca_78_102 : dk_callT 78 102 = some (0, 77, 2, 0, false) := by decide +kernel
theorem ca_79_90 : dk_callT 79 90 = some (0, 73, 3, 2, false) := by decide +kernel
theorem ca_79_94 : dk_callT 79 94 = some (0, 75, 2, 0, false) := by decide +kernel
theorem ca_79_98 : dk_callT 79 98 = some (0, 76, 2, 0, false) := by decide +kernel
theorem ca_79_102 : dk_callT 79 102 = some (0, 77, 2, 0, false) := by decide +kernel
theorem ca_81_94 : dk_callT 81 94 = some (0, 75, 2, 0, false) := by decide +kernel
theorem ca_81_98 : dk_callT 81 98 = some (0, 76, 2, 0, false) := by decide +kernel
theorem ca_81_102 : dk_callT 81 102 = some (0, 77, 2, 0, false) := by decide +kernel
theorem ca_81_108 : dk_callT 81 108 = some (1, 80, 3, 0, false) := by decide +kernel
theorem ca_83_108 : dk_callT 83 108 = some (1, 80, 3, 0, false) := by decide +kernel
theorem ca_84_108 : dk_callT 84 108 = some (1, 80, 3, 0, false) := by decide +kernel
theorem ca_84_112 : dk_callT 84 112 = some (0, 83, 2, 0, false) := by decide +kernel
theorem ca_85_108 : dk_callT 85 108 = some (1, 80, 3, 0, false) := by decide +kernel
theorem ca_85_112 : dk_callT 85 112 = some (0, 83, 2, 0, false) := by decide +kernel
theorem ca_92_119 : dk_callT 92 119 = some (0, 84, 2, 0, false) := by decide +kernel
theorem ca_92_122 : dk_callT 92 122 = some (0, 85, 2, 0, false) := by decide +kernel
theorem ca_92_125 : dk_callT 92 125 = some (0, 86, 2, 0, false) := by decide +kernel
theorem ca_92_128 : dk_callT 92 128 = some (0, 87, 3, 0, false) := by decide +kernel
theorem ca_92_132 : dk_callT 92 132 = some (0, 88, 2, 0, false) := by decide +kernel
theorem ca_92_135 : dk_callT 92 135 = some (0, 89, 2, 0, false) := by decide +kernel
theorem ca_92_138 : dk_callT 92 138 = some (0, 90, 4, 0, false) := by decide +kernel
theorem ca_92_142 : dk_callT 92 142 = some (0, 91, 2, 0, false) := by decide +kernel
theorem ca_93_102 : dk_callT 93 102 = some (0, 77, 2, 0, false) := by decide +kernel
theorem ca_93_145 : dk_callT 93 145 = some (0, 82, 2, 0, false) := by decide +kernel
theorem ca_93_148 : dk_callT 93 148 = some (0, 92, 2, 0, false) := by decide +kernel
theorem ca_94_94 : dk_callT 94 94 = some (0, 75, 2, 0, false) := by decide +kernel
theorem ca_94_151 : dk_callT 94 151 = some (1, 93, 2, 0, false) := by decide +kernel
theorem ca_95_102 : dk_callT 95 102 = some (0, 77, 2, 0, false) := by decide +kernel
theorem ca_97_94 : dk_callT 97 94 = some (0, 75, 2, 0, false) := by decide +kernel
theorem ca_97_98 : dk_callT 97 98 = some (0, 76, 2, 0, false) := by decide +kernel
theorem ca_97_102 : dk_callT 97 102 = some (0, 77, 2, 0, false) := by decide +kernel
theorem ca_97_154 : dk_callT 97 154 = some (1, 96, 2, 0, false) := by decide +kernel
theorem ca_98_94 : dk_callT 98 94 = some (0, 75, 2, 0, false) := by decide +kernel
theorem ca_98_98 : dk_callT 98 98 = some (0, 76, 2, 0, false) := by decide +kernel
theorem ca_98_145 : dk_callT 98 145 = some (0, 82, 2, 0, false) := by decide +kernel
theorem ca_98_154 : dk_callT 98 154 = some (1, 96, 2, 0, false) := by decide +kernel
theorem ca_99_90 : dk_callT 99 90 = some (0, 73, 3, 2, false) := by decide +kernel
theorem ca_99_94 : dk_callT 99 94 = some (0, 75, 2, 0, false) := by decide +kernel
theorem ca_99_98 : dk_callT 99 98 = some (0, 76, 2, 0, false) := by decide +kernel
theorem ca_100_90 : dk_callT 100 90 = some (0, 73, 3, 2, false) := by decide +kernel
theorem ca_100_98 : dk_callT 100 98 = some (0, 76, 2, 0, false) := by decide +kernel
theorem ca_101_90 : dk_callT 101 90 = some (0, 73, 3, 2, false) := by decide +kernel
theorem ca_101_98 : dk_callT 101 98 = some (0, 76, 2, 0, false) := by decide +kernel
theorem ca_102_90 : dk_callT 102 90 = some (0, 73, 3, 2, false) := by decide +kernel
theorem ca_102_98 : dk_callT 102 98 = some (0, 76, 2, 0, false) := by decide +kernel
theorem ca_102_151 : dk_callT 102 151 = some (1, 93, 2, 0, false) := by decide +kernel
theorem ca_103_90 : dk_callT 103 90 = some (0, 73, 3, 2, false) := by decide +kernel
theorem ca_103_102 : dk_callT 103 102 = some (0, 77, 2, 0, false) := by decide +kernel
theorem ca_104_60 : dk_callT 104 60 = some (1, 15, 2, 2, false) := by decide +kernel
theorem ca_104_65 : dk_callT 104 65 = some (1, 74, 2, 0, false) := by decide +kernel
theorem ca_104_66 : dk_callT 104 66 = some (0, 72, 1, 0, false) := by decide +kernel
theorem ca_104_70 : dk_callT 104 70 = some (1, 20, 7, 2, false) := by decide +kernel
theorem ca_104_73 : dk_callT 104 73 = some (1, 78, 6, 0, false) := by decide +kernel
theorem ca_104_74 : dk_callT 104 74 = some (1, 23, 4, 2, false) := by decide +kernel
theorem ca_104_77 : dk_callT 104 77 = some (1, 79, 3, 0, false) := by decide +kernel
theorem ca_104_78 : dk_callT 104 78 = some (1, 28, 3, 2, false) := by decide +kernel
theorem ca_104_81 : dk_callT 104 81 = some (1, 81, 2, 0, false) := by decide +kernel
theorem ca_104_82 : dk_callT 104 82 = some (1, 51, 3, 2, false) := by decide +kernel
theorem ca_104_84 : dk_callT 104 84 = some (1, 94, 2, 0, false) := by decide +kernel
theorem ca_104_85 : dk_callT 104 85 = some (1, 8, 1, 0, false) := by decide +kernel
theorem ca_104_88 : dk_callT 104 88 = some (1, 95, 1, 0, false) := by decide +kernel
theorem ca_104_89 : dk_callT 104 89 = some (1, 57, 3, 2, false) := by decide +kernel
theorem ca_104_91 : dk_callT 104 91 = some (1, 97, 2, 0, false) := by decide +kernel
theorem ca_104_92 : dk_callT 104 92 = some (1, 60, 3, 2, false) := by decide +kernel
theorem ca_104_94 : dk_callT 104 94 = some (1, 98, 2, 0, false) := by decide +kernel
theorem ca_104_95 : dk_callT 104 95 = some (1, 64, 4, 2, false) := by decide +kernel
theorem ca_104_97 : dk_callT 104 97 = some (1, 99, 3, 0, false) := by decide +kernel
theorem ca_104_98 : dk_callT 104 98 = some (1, 66, 5, 2, false) := by decide +kernel
theorem ca_104_101 : dk_callT 104 101 = some (1, 100, 4, 0, false) := by decide +kernel
theorem ca_104_102 : dk_callT 104 102 = some (1, 68, 4, 2, false) := by decide +kernel
theorem ca_104_104 : dk_callT 104 104 = some (1, 101, 3, 0, false) := by decide +kernel
theorem ca_104_105 : dk_callT 104 105 = some (1, 70, 4, 2, false) := by decide +kernel
theorem ca_104_107 : dk_callT 104 107 = some (1, 102, 3, 0, false) := by decide +kernel
theorem ca_104_108 : dk_callT 104 108 = some (1, 11, 2, 0, false) := by decide +kernel
theorem ca_104_111 : dk_callT 104 111 = some (1, 103, 2, 0, false) := by decide +kernel
theorem nw_12_144 : dk_new 12 144 = some 101 := by decide +kernel
theorem nw_14_44 : dk_new 14 44 = some 102 := by decide +kernel
theorem nw_16_44 : dk_new 16 44 = some 102 := by decide +kernel
theorem nw_19_61 : dk_new 19 61 = some 103 := by decide +kernel
theorem nw_19_73 : dk_new 19 73 = some 104 := by decide +kernel
theorem nw_21_73 : dk_new 21 73 = some 104 := by decide +kernel
theorem nw_22_61 : dk_new 22 61 = some 103 := by decide +kernel
theorem nw_56_73 : dk_new 56 73 = some 104 := by decide +kernel
theorem nw_59_73 : dk_new 59 73 = some 104 := by decide +kernel
theorem nw_63_144 : dk_new 63 144 = some 101 := by decide +kernel
theorem nw_65_144 : dk_new 65 144 = some 101 := by decide +kernel
theorem nw_67_144 : dk_new 67 144 = some 101 := by decide +kernel
theorem nw_69_44 : dk_new 69 44 = some 102 := by decide +kernel
theorem nw_69_61 : dk_new 69 61 = some 103 := by decide +kernel
theorem ld_69_188 : dk_ldc 69 188 = some (cI 2147483647) := by decide +kernel
theorem ld_69_189 : dk_ldc 69 189 = some (cI 1103515245) := by decide +kernel
theorem ld_69_190 : dk_ldc 69 190 = some (cI 65536) := by decide +kernel
theorem ld_102_157 : dk_ldc 102 157 = some (cI 2147483647) := by decide +kernel
theorem ld_102_158 : dk_ldc 102 158 = some (cI 1103515245) := by decide +kernel
theorem ld_102_159 : dk_ldc 102 159 = some (cI 65536) := by decide +kernel
theorem mx_8_1 : 1 < dk_maxL 8 := by decide +kernel
theorem mx_8_2 : 2 < dk_maxL 8 := by decide +kernel
theorem mx_9_1 : 1 < dk_maxL 9 := by decide +kernel
theorem mx_9_2 : 2 < dk_maxL 9 := by decide +kernel
theorem mx_10_1 : 1 < dk_maxL 10 := by decide +kernel
theorem mx_10_2 : 2 < dk_maxL 10 := by decide +kernel
theorem mx_13_1 : 1 < dk_maxL 13 := by decide +kernel
theorem mx_14_2 : 2 < dk_maxL 14 := by decide +kernel
theorem mx_16_2 : 2 < dk_maxL 16 := by decide +kernel
theorem mx_18_5 : 5 < dk_maxL 18 := by decide +kernel
theorem mx_19_6 : 6 < dk_maxL 19 := by decide +kernel
theorem mx_22_3 : 3 < dk_maxL 22 := by decide +kernel
theorem mx_22_4 : 4 < dk_maxL 22 := by decide +kernel
theorem mx_25_2 : 2 < dk_maxL 25 := by decide +kernel
theorem mx_26_1 : 1 < dk_maxL 26 := by decide +kernel
theorem mx_27_2 : 2 < dk_maxL 27 := by decide +kernel
theorem mx_32_2 : 2 < dk_maxL 32 := by decide +kernel
theorem mx_32_3 : 3 < dk_maxL 32 := by decide +kernel
theorem mx_33_1 : 1 < dk_maxL 33 := by decide +kernel
theorem mx_34_3 : 3 < dk_maxL 34 := by decide +kernel
theorem mx_34_4 : 4 < dk_maxL 34 := by decide +kernel
theorem mx_36_2 : 2 < dk_maxL 36 := by decide +kernel
theorem mx_39_2 : 2 < dk_maxL 39 := by decide +kernel
theorem mx_41_2 : 2 < dk_maxL 41 := by decide +kernel
theorem mx_46_2 : 2 < dk_maxL 46 := by decide +kernel
theorem mx_46_3 : 3 < dk_maxL 46 := by decide +kernel
theorem mx_46_4 : 4 < dk_maxL 46 := by decide +kernel
theorem mx_46_5 : 5 < dk_maxL 46 := by decide +kernel
theorem mx_46_6 : 6 < dk_maxL 46 := by decide +kernel
theorem mx_52_2 : 2 < dk_maxL 52 := by decide +kernel
theorem mx_53_2 : 2 < dk_maxL 53 := by decide +kernel
theorem mx_53_3 : 3 < dk_maxL 53 := by decide +kernel
theorem mx_55_2 : 2 < dk_maxL 55 := by decide +kernel
theorem mx_56_2 : 2 < dk_maxL 56 := by decide +kernel
theorem mx_59_2 : 2 < dk_maxL 59 := by decide +kernel
theorem mx_59_3 : 3 < dk_maxL 59 := by decide +kernel
theorem mx_63_3 : 3 < dk_maxL 63 := by decide +kernel
theorem mx_69_3 : 3 < dk_maxL 69 := by decide +kernel
theorem mx_69_4 : 4 < dk_maxL 69 := by decide +kernel
theorem mx_69_5 : 5 < dk_maxL 69 := by decide +kernel
theorem mx_69_6 : 6 < dk_maxL 69 := by decide +kernel
theorem mx_78_6 : 6 < dk_maxL 78 := by decide +kernel
theorem mx_79_3 : 3 < dk_maxL 79 := by decide +kernel
theorem mx_80_3 : 3 < dk_maxL 80 := by decide +kernel
theorem mx_82_2 : 2 < dk_maxL 82 := by decide +kernel
theorem mx_84_2 : 2 < dk_maxL 84 := by decide +kernel
theorem mx_85_2 : 2 < dk_maxL 85 := by decide +kernel
theorem mx_85_3 : 3 < dk_maxL 85 := by decide +kernel
theorem mx_85_4 : 4 < dk_maxL 85 := by decide +kernel
theorem mx_87_3 : 3 < dk_maxL 87 := by decide +kernel
theorem mx_91_2 : 2 < dk_maxL 91 := by decide +kernel
theorem mx_91_3 : 3 < dk_maxL 91 := by decide +kernel
theorem mx_91_4 : 4 < dk_maxL 91 := by decide +kernel
theorem mx_92_2 : 2 < dk_maxL 92 := by decide +kernel
theorem mx_95_1 : 1 < dk_maxL 95 := by decide +kernel
theorem mx_95_2 : 2 < dk_maxL 95 := by decide +kernel
theorem mx_95_3 : 3 < dk_maxL 95 := by decide +kernel
theorem mx_96_2 : 2 < dk_maxL 96 := by decide +kernel
theorem mx_96_3 : 3 < dk_maxL 96 := by decide +kernel
theorem mx_96_4 : 4 < dk_maxL 96 := by decide +kernel
theorem mx_97_2 : 2 < dk_maxL 97 := by decide +kernel
theorem mx_97_3 : 3 < dk_maxL 97 := by decide +kernel
theorem mx_98_2 : 2 < dk_maxL 98 := by decide +kernel
theorem mx_100_4 : 4 < dk_maxL 100 := by decide +kernel
theorem mx_102_3 : 3 < dk_maxL 102 := by decide +kernel
theorem mx_102_4 : 4 < dk_maxL 102 := by decide +kernel
theorem mx_102_5 : 5 < dk_maxL 102 := by decide +kernel
theorem mx_102_6 : 6 < dk_maxL 102 := by decide +kernel
theorem mx_102_7 : 7 < dk_maxL 102 := by decide +kernel
theorem mx_102_8 : 8 < dk_maxL 102 := by decide +kernel
theorem mx_102_9 : 9 < dk_maxL 102 := by decide +kernel
theorem mx_103_2 : 2 < dk_maxL 103 := by decide +kernel
theorem mx_103_3 : 3 < dk_maxL 103 := by decide +kernel
theorem mx_104_4 : 4 < dk_maxL 104 := by decide +kernel
theorem mx_104_5 : 5 < dk_maxL 104 := by decide +kernel
theorem mx_104_6 : 6 < dk_maxL 104 := by decide +kernel
theorem hd_14_2_1 : dk_hnd 14 2 1 = none := by decide +kernel
theorem hd_15_2_1 : dk_hnd 15 2 1 = some (9, 2) := by decide +kernel
theorem hd_15_2_2 : dk_hnd 15 2 2 = some (12, 2) := by decide +kernel
theorem hd_16_2_1 : dk_hnd 16 2 1 = none := by decide +kernel
theorem hd_19_2_1 : dk_hnd 19 2 1 = none := by decide +kernel
theorem hd_19_2_2 : dk_hnd 19 2 2 = none := by decide +kernel
theorem hd_20_11_1 : dk_hnd 20 11 1 = some (21, 7) := by decide +kernel
theorem hd_20_11_2 : dk_hnd 20 11 2 = some (25, 7) := by decide +kernel
theorem hd_20_11_3 : dk_hnd 20 11 3 = some (29, 7) := by decide +kernel
theorem hd_20_11_4 : dk_hnd 20 11 4 = some (33, 7) := by decide +kernel
theorem hd_22_2_1 : dk_hnd 22 2 1 = none := by decide +kernel
theorem hd_22_2_2 : dk_hnd 22 2 2 = none := by decide +kernel
theorem hd_22_28_4 : dk_hnd 22 28 4 = none := by decide +kernel
theorem hd_23_5_1 : dk_hnd 23 5 1 = some (15, 4) := by decide +kernel
theorem hd_23_5_2 : dk_hnd 23 5 2 = some (19, 4) := by decide +kernel
theorem hd_23_5_3 : dk_hnd 23 5 3 = some (23, 4) := by decide +kernel
theorem hd_23_5_4 : dk_hnd 23 5 4 = some (27, 4) := by decide +kernel
theorem hd_27_2_1 : dk_hnd 27 2 1 = none := by decide +kernel
theorem hd_27_2_2 : dk_hnd 27 2 2 = none := by decide +kernel
theorem hd_27_7_4 : dk_hnd 27 7 4 = none := by decide +kernel
theorem hd_28_4_1 : dk_hnd 28 4 1 = some (13, 3) := by decide +kernel
theorem hd_28_4_2 : dk_hnd 28 4 2 = some (16, 3) := by decide +kernel
theorem hd_28_4_4 : dk_hnd 28 4 4 = some (19, 3) := by decide +kernel
theorem hd_50_3_1 : dk_hnd 50 3 1 = none := by decide +kernel
theorem hd_50_3_2 : dk_hnd 50 3 2 = none := by decide +kernel
theorem hd_51_4_1 : dk_hnd 51 4 1 = some (13, 3) := by decide +kernel
theorem hd_51_4_2 : dk_hnd 51 4 2 = some (16, 3) := by decide +kernel
theorem hd_56_2_1 : dk_hnd 56 2 1 = none := by decide +kernel
theorem hd_56_2_2 : dk_hnd 56 2 2 = none := by decide +kernel
theorem hd_57_4_1 : dk_hnd 57 4 1 = some (20, 3) := by decide +kernel
theorem hd_57_4_2 : dk_hnd 57 4 2 = some (23, 3) := by decide +kernel
theorem hd_57_4_4 : dk_hnd 57 4 4 = some (26, 3) := by decide +kernel
theorem hd_59_2_1 : dk_hnd 59 2 1 = none := by decide +kernel
theorem hd_59_2_2 : dk_hnd 59 2 2 = none := by decide +kernel
theorem hd_60_4_1 : dk_hnd 60 4 1 = some (13, 3) := by decide +kernel
theorem hd_60_4_2 : dk_hnd 60 4 2 = some (16, 3) := by decide +kernel
theorem hd_60_4_4 : dk_hnd 60 4 4 = some (19, 3) := by decide +kernel
theorem hd_63_2_1 : dk_hnd 63 2 1 = none := by decide +kernel
theorem hd_63_2_2 : dk_hnd 63 2 2 = none := by decide +kernel
theorem hd_64_5_1 : dk_hnd 64 5 1 = some (15, 4) := by decide +kernel
theorem hd_64_5_2 : dk_hnd 64 5 2 = some (19, 4) := by decide +kernel
theorem hd_66_7_1 : dk_hnd 66 7 1 = some (17, 5) := by decide +kernel
theorem hd_68_5_1 : dk_hnd 68 5 1 = some (15, 4) := by decide +kernel
theorem hd_70_5_2 : dk_hnd 70 5 2 = some (19, 4) := by decide +kernel
theorem hd_70_5_3 : dk_hnd 70 5 3 = some (15, 4) := by decide +kernel
theorem kb_6 : (Int8.ofInt (6)).toInt32 = (cI 6) := by decide +kernel
theorem kb_7 : (Int8.ofInt (7)).toInt32 = (cI 7) := by decide +kernel
theorem kb_8 : (Int8.ofInt (8)).toInt32 = (cI 8) := by decide +kernel
theorem kb_9 : (Int8.ofInt (9)).toInt32 = (cI 9) := by decide +kernel
theorem kb_15 : (Int8.ofInt (15)).toInt32 = (cI 15) := by decide +kernel
theorem kb_16 : (Int8.ofInt (16)).toInt32 = (cI 16) := by decide +kernel
theorem kb_64 : (Int8.ofInt (64)).toInt32 = (cI 64) := by decide +kernel
theorem ki_m1 : Int32.ofInt (-1) = (cJ 0) := by decide +kernel
theorem ki_0 : Int32.ofInt (0) = (cI 0) := by decide +kernel
theorem ki_1 : Int32.ofInt (1) = (cI 1) := by decide +kernel
theorem ki_2 : Int32.ofInt (2) = (cI 2) := by decide +kernel
theorem ki_3 : Int32.ofInt (3) = (cI 3) := by decide +kernel
theorem ki_4 : Int32.ofInt (4) = (cI 4) := by decide +kernel
theorem ki_5 : Int32.ofInt (5) = (cI 5) := by decide +kernel
theorem ki_6 : Int32.ofInt (6) = (cI 6) := by decide +kernel
theorem kl_0 : Int64.ofNat (0) = (0 : Int64) := by decide +kernel
theorem kl_1 : Int64.ofNat (1) = (1 : Int64) := by decide +kernel
theorem ks_128 : (Int16.ofInt (128)).toInt32 = (cI 128) := by decide +kernel
theorem ks_1000 : (Int16.ofInt (1000)).toInt32 = (cI 1000) := by decide +kernel
theorem ks_5000 : (Int16.ofInt (5000)).toInt32 = (cI 5000) := by decide +kernel
theorem ks_12345 : (Int16.ofInt (12345)).toInt32 = (cI 12345) := by decide +kernel
