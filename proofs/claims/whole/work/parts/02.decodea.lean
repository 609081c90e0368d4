theorem dX0_init_0 : decode cX0_init 0 = .ok (.aload_n 0, 1) := by decide +kernel
theorem dX0_init_1 : decode cX0_init 1 = .ok (.invokespecial 3, 3) := by decide +kernel
theorem dX0_init_4 : decode cX0_init 4 = .ok (.aload_n 0, 1) := by decide +kernel
theorem dX0_init_5 : decode cX0_init 5 = .ok (.iconst 2, 1) := by decide +kernel
theorem dX0_init_6 : decode cX0_init 6 = .ok (.bipush 60, 2) := by decide +kernel
theorem dX0_init_8 : decode cX0_init 8 = .ok (.multianewarray 9 2, 4) := by decide +kernel
theorem dX0_init_12 : decode cX0_init 12 = .ok (.putfield 11, 3) := by decide +kernel
theorem dX0_init_15 : decode cX0_init 15 = .ok (.aload_n 0, 1) := by decide +kernel
theorem dX0_init_16 : decode cX0_init 16 = .ok (.iconst 2, 1) := by decide +kernel
theorem dX0_init_17 : decode cX0_init 17 = .ok (.bipush 60, 2) := by decide +kernel
theorem dX0_init_19 : decode cX0_init 19 = .ok (.multianewarray 16 2, 4) := by decide +kernel
theorem dX0_init_23 : decode cX0_init 23 = .ok (.putfield 18, 3) := by decide +kernel
theorem dX0_init_26 : decode cX0_init 26 = .ok (.aload_n 0, 1) := by decide +kernel
theorem dX0_init_27 : decode cX0_init 27 = .ok (.bipush 60, 2) := by decide +kernel
theorem dX0_init_29 : decode cX0_init 29 = .ok (.newarray .int, 2) := by decide +kernel
theorem dX0_init_31 : decode cX0_init 31 = .ok (.putfield 21, 3) := by decide +kernel
theorem dX0_init_34 : decode cX0_init 34 = .ok (.aload_n 0, 1) := by decide +kernel
theorem dX0_init_35 : decode cX0_init 35 = .ok (.bipush 60, 2) := by decide +kernel
theorem dX0_init_37 : decode cX0_init 37 = .ok (.newarray .int, 2) := by decide +kernel
theorem dX0_init_39 : decode cX0_init 39 = .ok (.putfield 25, 3) := by decide +kernel
theorem dX0_init_42 : decode cX0_init 42 = .ok (.aload_n 0, 1) := by decide +kernel
theorem dX0_init_43 : decode cX0_init 43 = .ok (.bipush 60, 2) := by decide +kernel
theorem dX0_init_45 : decode cX0_init 45 = .ok (.newarray .int, 2) := by decide +kernel
theorem dX0_init_47 : decode cX0_init 47 = .ok (.putfield 28, 3) := by decide +kernel
theorem dX0_init_50 : decode cX0_init 50 = .ok (.aload_n 0, 1) := by decide +kernel
theorem dX0_init_51 : decode cX0_init 51 = .ok (.bipush 60, 2) := by decide +kernel
theorem dX0_init_53 : decode cX0_init 53 = .ok (.newarray .int, 2) := by decide +kernel
theorem dX0_init_55 : decode cX0_init 55 = .ok (.putfield 31, 3) := by decide +kernel
theorem dX0_init_58 : decode cX0_init 58 = .ok (.aload_n 0, 1) := by decide +kernel
theorem dX0_init_59 : decode cX0_init 59 = .ok (.iconst 0, 1) := by decide +kernel
theorem dX0_init_60 : decode cX0_init 60 = .ok (.putfield 34, 3) := by decide +kernel
theorem dX0_init_63 : decode cX0_init 63 = .ok (.aload_n 0, 1) := by decide +kernel
theorem dX0_init_64 : decode cX0_init 64 = .ok (.iconst 0, 1) := by decide +kernel
theorem dX0_init_65 : decode cX0_init 65 = .ok (.putfield 38, 3) := by decide +kernel
theorem dX0_init_68 : decode cX0_init 68 = .ok (.return_, 1) := by decide +kernel
theorem dX0_has_0 : decode cX0_has 0 = .ok (.iload_n 1, 1) := by decide +kernel
theorem dX0_has_1 : decode cX0_has 1 = .ok (.iconst 0, 1) := by decide +kernel
theorem dX0_has_2 : decode cX0_has 2 = .ok (.aload_n 0, 1) := by decide +kernel
theorem dX0_has_3 : decode cX0_has 3 = .ok (.getfield 34, 3) := by decide +kernel
theorem dX0_has_6 : decode cX0_has 6 = .ok (.iconst 1, 1) := by decide +kernel
theorem dX0_has_7 : decode cX0_has 7 = .ok (.isub, 1) := by decide +kernel
theorem dX0_has_8 : decode cX0_has 8 = .ok (.invokestatic 41, 3) := by decide +kernel
theorem dX0_has_11 : decode cX0_has 11 = .ok (.ireturn, 1) := by decide +kernel
theorem dX0_add_0 : decode cX0_add 0 = .ok (.aload_n 0, 1) := by decide +kernel
theorem dX0_add_1 : decode cX0_add 1 = .ok (.getfield 34, 3) := by decide +kernel
theorem dX0_add_4 : decode cX0_add 4 = .ok (.bipush 60, 2) := by decide +kernel
theorem dX0_add_6 : decode cX0_add 6 = .ok (.if_icmp .lt 5, 3) := by decide +kernel
theorem dX0_add_9 : decode cX0_add 9 = .ok (.iconst (-1), 1) := by decide +kernel
theorem dX0_add_10 : decode cX0_add 10 = .ok (.ireturn, 1) := by decide +kernel
theorem dX0_add_11 : decode cX0_add 11 = .ok (.aload_n 0, 1) := by decide +kernel
theorem dX0_add_12 : decode cX0_add 12 = .ok (.getfield 34, 3) := by decide +kernel
theorem dX0_add_15 : decode cX0_add 15 = .ok (.istore 5, 2) := by decide +kernel
theorem dX0_add_17 : decode cX0_add 17 = .ok (.aload_n 0, 1) := by decide +kernel
theorem dX0_add_18 : decode cX0_add 18 = .ok (.getfield 21, 3) := by decide +kernel
theorem dX0_add_21 : decode cX0_add 21 = .ok (.iload 5, 2) := by decide +kernel
theorem dX0_add_23 : decode cX0_add 23 = .ok (.iload_n 2, 1) := by decide +kernel
theorem dX0_add_24 : decode cX0_add 24 = .ok (.iastore, 1) := by decide +kernel
theorem dX0_add_25 : decode cX0_add 25 = .ok (.aload_n 0, 1) := by decide +kernel
theorem dX0_add_26 : decode cX0_add 26 = .ok (.getfield 25, 3) := by decide +kernel
theorem dX0_add_29 : decode cX0_add 29 = .ok (.iload 5, 2) := by decide +kernel
theorem dX0_add_31 : decode cX0_add 31 = .ok (.iload_n 3, 1) := by decide +kernel
theorem dX0_add_32 : decode cX0_add 32 = .ok (.iastore, 1) := by decide +kernel
theorem dX0_add_33 : decode cX0_add 33 = .ok (.aload_n 0, 1) := by decide +kernel
theorem dX0_add_34 : decode cX0_add 34 = .ok (.getfield 28, 3) := by decide +kernel
theorem dX0_add_37 : decode cX0_add 37 = .ok (.iload 5, 2) := by decide +kernel
theorem dX0_add_39 : decode cX0_add 39 = .ok (.iload 4, 2) := by decide +kernel
theorem dX0_add_41 : decode cX0_add 41 = .ok (.iastore, 1) := by decide +kernel
theorem dX0_add_42 : decode cX0_add 42 = .ok (.aload_n 0, 1) := by decide +kernel
theorem dX0_add_43 : decode cX0_add 43 = .ok (.getfield 31, 3) := by decide +kernel
theorem dX0_add_46 : decode cX0_add 46 = .ok (.iload 5, 2) := by decide +kernel
theorem dX0_add_48 : decode cX0_add 48 = .ok (.aload_n 1, 1) := by decide +kernel
theorem dX0_add_49 : decode cX0_add 49 = .ok (.getfield 45, 3) := by decide +kernel
theorem dX0_add_52 : decode cX0_add 52 = .ok (.sipush 1000, 3) := by decide +kernel
theorem dX0_add_55 : decode cX0_add 55 = .ok (.idiv, 1) := by decide +kernel
theorem dX0_add_56 : decode cX0_add 56 = .ok (.iastore, 1) := by decide +kernel
theorem dX0_add_57 : decode cX0_add 57 = .ok (.iconst 0, 1) := by decide +kernel
theorem dX0_add_58 : decode cX0_add 58 = .ok (.istore 6, 2) := by decide +kernel
theorem dX0_add_60 : decode cX0_add 60 = .ok (.iload 6, 2) := by decide +kernel
theorem dX0_add_62 : decode cX0_add 62 = .ok (.iconst 2, 1) := by decide +kernel
theorem dX0_add_63 : decode cX0_add 63 = .ok (.if_icmp .ge 33, 3) := by decide +kernel
theorem dX0_add_66 : decode cX0_add 66 = .ok (.aload_n 0, 1) := by decide +kernel
theorem dX0_add_67 : decode cX0_add 67 = .ok (.getfield 11, 3) := by decide +kernel
theorem dX0_add_70 : decode cX0_add 70 = .ok (.iload 6, 2) := by decide +kernel
theorem dX0_add_72 : decode cX0_add 72 = .ok (.aaload, 1) := by decide +kernel
theorem dX0_add_73 : decode cX0_add 73 = .ok (.iload 5, 2) := by decide +kernel
theorem dX0_add_75 : decode cX0_add 75 = .ok (.aload_n 1, 1) := by decide +kernel
theorem dX0_add_76 : decode cX0_add 76 = .ok (.iload 6, 2) := by decide +kernel
theorem dX0_add_78 : decode cX0_add 78 = .ok (.invokevirtual 50, 3) := by decide +kernel
theorem dX0_add_81 : decode cX0_add 81 = .ok (.lastore, 1) := by decide +kernel
theorem dX0_add_82 : decode cX0_add 82 = .ok (.aload_n 0, 1) := by decide +kernel
theorem dX0_add_83 : decode cX0_add 83 = .ok (.iload 5, 2) := by decide +kernel
theorem dX0_add_85 : decode cX0_add 85 = .ok (.iload 6, 2) := by decide +kernel
theorem dX0_add_87 : decode cX0_add 87 = .ok (.invokevirtual 54, 3) := by decide +kernel
theorem dX0_add_90 : decode cX0_add 90 = .ok (.iinc 6 1, 3) := by decide +kernel
theorem dX0_add_93 : decode cX0_add 93 = .ok (.goto (-33), 3) := by decide +kernel
theorem dX0_add_96 : decode cX0_add 96 = .ok (.aload_n 0, 1) := by decide +kernel
theorem dX0_add_97 : decode cX0_add 97 = .ok (.dup, 1) := by decide +kernel
theorem dX0_add_98 : decode cX0_add 98 = .ok (.getfield 38, 3) := by decide +kernel
theorem dX0_add_101 : decode cX0_add 101 = .ok (.aload_n 0, 1) := by decide +kernel
theorem dX0_add_102 : decode cX0_add 102 = .ok (.iload 5, 2) := by decide +kernel
theorem dX0_add_104 : decode cX0_add 104 = .ok (.invokevirtual 58, 3) := by decide +kernel
theorem dX0_add_107 : decode cX0_add 107 = .ok (.iadd, 1) := by decide +kernel
theorem dX0_add_108 : decode cX0_add 108 = .ok (.putfield 38, 3) := by decide +kernel
theorem dX0_add_111 : decode cX0_add 111 = .ok (.aload_n 0, 1) := by decide +kernel
theorem dX0_add_112 : decode cX0_add 112 = .ok (.dup, 1) := by decide +kernel
theorem dX0_add_113 : decode cX0_add 113 = .ok (.getfield 34, 3) := by decide +kernel
theorem dX0_add_116 : decode cX0_add 116 = .ok (.iconst 1, 1) := by decide +kernel
theorem dX0_add_117 : decode cX0_add 117 = .ok (.iadd, 1) := by decide +kernel
theorem dX0_add_118 : decode cX0_add 118 = .ok (.putfield 34, 3) := by decide +kernel
theorem dX0_add_121 : decode cX0_add 121 = .ok (.iload 5, 2) := by decide +kernel
theorem dX0_add_123 : decode cX0_add 123 = .ok (.ireturn, 1) := by decide +kernel
theorem dX0_sign_0 : decode cX0_sign 0 = .ok (.aload_n 0, 1) := by decide +kernel
theorem dX0_sign_1 : decode cX0_sign 1 = .ok (.getfield 11, 3) := by decide +kernel
theorem dX0_sign_4 : decode cX0_sign 4 = .ok (.iload_n 3, 1) := by decide +kernel
theorem dX0_sign_5 : decode cX0_sign 5 = .ok (.aaload, 1) := by decide +kernel
theorem dX0_sign_6 : decode cX0_sign 6 = .ok (.iload_n 1, 1) := by decide +kernel
theorem dX0_sign_7 : decode cX0_sign 7 = .ok (.laload, 1) := by decide +kernel
theorem dX0_sign_8 : decode cX0_sign 8 = .ok (.lstore 4, 2) := by decide +kernel
theorem dX0_sign_10 : decode cX0_sign 10 = .ok (.aload_n 0, 1) := by decide +kernel
theorem dX0_sign_11 : decode cX0_sign 11 = .ok (.getfield 11, 3) := by decide +kernel
theorem dX0_sign_14 : decode cX0_sign 14 = .ok (.iload_n 3, 1) := by decide +kernel
theorem dX0_sign_15 : decode cX0_sign 15 = .ok (.aaload, 1) := by decide +kernel
theorem dX0_sign_16 : decode cX0_sign 16 = .ok (.iload_n 2, 1) := by decide +kernel
theorem dX0_sign_17 : decode cX0_sign 17 = .ok (.laload, 1) := by decide +kernel
theorem dX0_sign_18 : decode cX0_sign 18 = .ok (.lstore 6, 2) := by decide +kernel
theorem dX0_sign_20 : decode cX0_sign 20 = .ok (.lload 4, 2) := by decide +kernel
theorem dX0_sign_22 : decode cX0_sign 22 = .ok (.lload 6, 2) := by decide +kernel
theorem dX0_sign_24 : decode cX0_sign 24 = .ok (.lcmp, 1) := by decide +kernel
theorem dX0_sign_25 : decode cX0_sign 25 = .ok (.ifCond .eq 17, 3) := by decide +kernel
theorem dX0_sign_28 : decode cX0_sign 28 = .ok (.lload 4, 2) := by decide +kernel
theorem dX0_sign_30 : decode cX0_sign 30 = .ok (.lload 6, 2) := by decide +kernel
theorem dX0_sign_32 : decode cX0_sign 32 = .ok (.lcmp, 1) := by decide +kernel
theorem dX0_sign_33 : decode cX0_sign 33 = .ok (.ifCond .ge 7, 3) := by decide +kernel
theorem dX0_sign_36 : decode cX0_sign 36 = .ok (.iconst (-1), 1) := by decide +kernel
theorem dX0_sign_37 : decode cX0_sign 37 = .ok (.goto 4, 3) := by decide +kernel
theorem dX0_sign_40 : decode cX0_sign 40 = .ok (.iconst 1, 1) := by decide +kernel
theorem dX0_sign_41 : decode cX0_sign 41 = .ok (.ireturn, 1) := by decide +kernel
theorem dX0_sign_42 : decode cX0_sign 42 = .ok (.iload_n 1, 1) := by decide +kernel
theorem dX0_sign_43 : decode cX0_sign 43 = .ok (.iload_n 2, 1) := by decide +kernel
theorem dX0_sign_44 : decode cX0_sign 44 = .ok (.if_icmp .ge 7, 3) := by decide +kernel
theorem dX0_sign_47 : decode cX0_sign 47 = .ok (.iconst (-1), 1) := by decide +kernel
theorem dX0_sign_48 : decode cX0_sign 48 = .ok (.goto 13, 3) := by decide +kernel
theorem dX0_sign_51 : decode cX0_sign 51 = .ok (.iload_n 1, 1) := by decide +kernel
theorem dX0_sign_52 : decode cX0_sign 52 = .ok (.iload_n 2, 1) := by decide +kernel
theorem dX0_sign_53 : decode cX0_sign 53 = .ok (.if_icmp .ne 7, 3) := by decide +kernel
theorem dX0_sign_56 : decode cX0_sign 56 = .ok (.iconst 0, 1) := by decide +kernel
theorem dX0_sign_57 : decode cX0_sign 57 = .ok (.goto 4, 3) := by decide +kernel
theorem dX0_sign_60 : decode cX0_sign 60 = .ok (.iconst 1, 1) := by decide +kernel
theorem dX0_sign_61 : decode cX0_sign 61 = .ok (.ireturn, 1) := by decide +kernel
theorem dX0_putInOrder_0 : decode cX0_putInOrder 0 = .ok (.iload_n 1, 1) := by decide +kernel
theorem dX0_putInOrder_1 : decode cX0_putInOrder 1 = .ok (.istore_n 3, 1) := by decide +kernel
theorem dX0_putInOrder_2 : decode cX0_putInOrder 2 = .ok (.iload_n 3, 1) := by decide +kernel
theorem dX0_putInOrder_3 : decode cX0_putInOrder 3 = .ok (.ifCond .le 46, 3) := by decide +kernel
theorem dX0_putInOrder_6 : decode cX0_putInOrder 6 = .ok (.aload_n 0, 1) := by decide +kernel
theorem dX0_putInOrder_7 : decode cX0_putInOrder 7 = .ok (.iload_n 1, 1) := by decide +kernel
theorem dX0_putInOrder_8 : decode cX0_putInOrder 8 = .ok (.aload_n 0, 1) := by decide +kernel
theorem dX0_putInOrder_9 : decode cX0_putInOrder 9 = .ok (.getfield 18, 3) := by decide +kernel
theorem dX0_putInOrder_12 : decode cX0_putInOrder 12 = .ok (.iload_n 2, 1) := by decide +kernel
theorem dX0_putInOrder_13 : decode cX0_putInOrder 13 = .ok (.aaload, 1) := by decide +kernel
theorem dX0_putInOrder_14 : decode cX0_putInOrder 14 = .ok (.iload_n 3, 1) := by decide +kernel
theorem dX0_putInOrder_15 : decode cX0_putInOrder 15 = .ok (.iconst 1, 1) := by decide +kernel
theorem dX0_putInOrder_16 : decode cX0_putInOrder 16 = .ok (.isub, 1) := by decide +kernel
theorem dX0_putInOrder_17 : decode cX0_putInOrder 17 = .ok (.iaload, 1) := by decide +kernel
theorem dX0_putInOrder_18 : decode cX0_putInOrder 18 = .ok (.iload_n 2, 1) := by decide +kernel
theorem dX0_putInOrder_19 : decode cX0_putInOrder 19 = .ok (.invokevirtual 62, 3) := by decide +kernel
theorem dX0_putInOrder_22 : decode cX0_putInOrder 22 = .ok (.ifCond .ge 27, 3) := by decide +kernel
theorem dX0_putInOrder_25 : decode cX0_putInOrder 25 = .ok (.aload_n 0, 1) := by decide +kernel
theorem dX0_putInOrder_26 : decode cX0_putInOrder 26 = .ok (.getfield 18, 3) := by decide +kernel
theorem dX0_putInOrder_29 : decode cX0_putInOrder 29 = .ok (.iload_n 2, 1) := by decide +kernel
theorem dX0_putInOrder_30 : decode cX0_putInOrder 30 = .ok (.aaload, 1) := by decide +kernel
theorem dX0_putInOrder_31 : decode cX0_putInOrder 31 = .ok (.iload_n 3, 1) := by decide +kernel
theorem dX0_putInOrder_32 : decode cX0_putInOrder 32 = .ok (.aload_n 0, 1) := by decide +kernel
theorem dX0_putInOrder_33 : decode cX0_putInOrder 33 = .ok (.getfield 18, 3) := by decide +kernel
theorem dX0_putInOrder_36 : decode cX0_putInOrder 36 = .ok (.iload_n 2, 1) := by decide +kernel
theorem dX0_putInOrder_37 : decode cX0_putInOrder 37 = .ok (.aaload, 1) := by decide +kernel
theorem dX0_putInOrder_38 : decode cX0_putInOrder 38 = .ok (.iload_n 3, 1) := by decide +kernel
theorem dX0_putInOrder_39 : decode cX0_putInOrder 39 = .ok (.iconst 1, 1) := by decide +kernel
theorem dX0_putInOrder_40 : decode cX0_putInOrder 40 = .ok (.isub, 1) := by decide +kernel
theorem dX0_putInOrder_41 : decode cX0_putInOrder 41 = .ok (.iaload, 1) := by decide +kernel
theorem dX0_putInOrder_42 : decode cX0_putInOrder 42 = .ok (.iastore, 1) := by decide +kernel
theorem dX0_putInOrder_43 : decode cX0_putInOrder 43 = .ok (.iinc 3 (-1), 3) := by decide +kernel
theorem dX0_putInOrder_46 : decode cX0_putInOrder 46 = .ok (.goto (-44), 3) := by decide +kernel
theorem dX0_putInOrder_49 : decode cX0_putInOrder 49 = .ok (.aload_n 0, 1) := by decide +kernel
theorem dX0_putInOrder_50 : decode cX0_putInOrder 50 = .ok (.getfield 18, 3) := by decide +kernel
theorem dX0_putInOrder_53 : decode cX0_putInOrder 53 = .ok (.iload_n 2, 1) := by decide +kernel
theorem dX0_putInOrder_54 : decode cX0_putInOrder 54 = .ok (.aaload, 1) := by decide +kernel
theorem dX0_putInOrder_55 : decode cX0_putInOrder 55 = .ok (.iload_n 3, 1) := by decide +kernel
theorem dX0_putInOrder_56 : decode cX0_putInOrder 56 = .ok (.iload_n 1, 1) := by decide +kernel
theorem dX0_putInOrder_57 : decode cX0_putInOrder 57 = .ok (.iastore, 1) := by decide +kernel
theorem dX0_putInOrder_58 : decode cX0_putInOrder 58 = .ok (.return_, 1) := by decide +kernel
theorem dX0_quarrelsWithEarlier_0 : decode cX0_quarrelsWithEarlier 0 = .ok (.iconst 0, 1) := by decide +kernel
theorem dX0_quarrelsWithEarlier_1 : decode cX0_quarrelsWithEarlier 1 = .ok (.istore_n 2, 1) := by decide +kernel
theorem dX0_quarrelsWithEarlier_2 : decode cX0_quarrelsWithEarlier 2 = .ok (.iconst 0, 1) := by decide +kernel
theorem dX0_quarrelsWithEarlier_3 : decode cX0_quarrelsWithEarlier 3 = .ok (.istore_n 3, 1) := by decide +kernel
theorem dX0_quarrelsWithEarlier_4 : decode cX0_quarrelsWithEarlier 4 = .ok (.iload_n 3, 1) := by decide +kernel
theorem dX0_quarrelsWithEarlier_5 : decode cX0_quarrelsWithEarlier 5 = .ok (.iload_n 1, 1) := by decide +kernel
theorem dX0_quarrelsWithEarlier_6 : decode cX0_quarrelsWithEarlier 6 = .ok (.if_icmp .ge 29, 3) := by decide +kernel
theorem dX0_quarrelsWithEarlier_9 : decode cX0_quarrelsWithEarlier 9 = .ok (.aload_n 0, 1) := by decide +kernel
theorem dX0_quarrelsWithEarlier_10 : decode cX0_quarrelsWithEarlier 10 = .ok (.iload_n 3, 1) := by decide +kernel
theorem dX0_quarrelsWithEarlier_11 : decode cX0_quarrelsWithEarlier 11 = .ok (.iload_n 1, 1) := by decide +kernel
theorem dX0_quarrelsWithEarlier_12 : decode cX0_quarrelsWithEarlier 12 = .ok (.iconst 0, 1) := by decide +kernel
theorem dX0_quarrelsWithEarlier_13 : decode cX0_quarrelsWithEarlier 13 = .ok (.invokevirtual 62, 3) := by decide +kernel
theorem dX0_quarrelsWithEarlier_16 : decode cX0_quarrelsWithEarlier 16 = .ok (.aload_n 0, 1) := by decide +kernel
theorem dX0_quarrelsWithEarlier_17 : decode cX0_quarrelsWithEarlier 17 = .ok (.iload_n 3, 1) := by decide +kernel
theorem dX0_quarrelsWithEarlier_18 : decode cX0_quarrelsWithEarlier 18 = .ok (.iload_n 1, 1) := by decide +kernel
theorem dX0_quarrelsWithEarlier_19 : decode cX0_quarrelsWithEarlier 19 = .ok (.iconst 1, 1) := by decide +kernel
theorem dX0_quarrelsWithEarlier_20 : decode cX0_quarrelsWithEarlier 20 = .ok (.invokevirtual 62, 3) := by decide +kernel
theorem dX0_quarrelsWithEarlier_23 : decode cX0_quarrelsWithEarlier 23 = .ok (.if_icmp .eq 6, 3) := by decide +kernel
theorem dX0_quarrelsWithEarlier_26 : decode cX0_quarrelsWithEarlier 26 = .ok (.iinc 2 1, 3) := by decide +kernel
theorem dX0_quarrelsWithEarlier_29 : decode cX0_quarrelsWithEarlier 29 = .ok (.iinc 3 1, 3) := by decide +kernel
theorem dX0_quarrelsWithEarlier_32 : decode cX0_quarrelsWithEarlier 32 = .ok (.goto (-28), 3) := by decide +kernel
theorem dX0_quarrelsWithEarlier_35 : decode cX0_quarrelsWithEarlier 35 = .ok (.iload_n 2, 1) := by decide +kernel
theorem dX0_quarrelsWithEarlier_36 : decode cX0_quarrelsWithEarlier 36 = .ok (.ireturn, 1) := by decide +kernel
theorem dX1_init_0 : decode cX1_init 0 = .ok (.aload_n 0, 1) := by decide +kernel
theorem dX1_init_1 : decode cX1_init 1 = .ok (.invokespecial 3, 3) := by decide +kernel
theorem dX1_init_4 : decode cX1_init 4 = .ok (.aload_n 0, 1) := by decide +kernel
theorem dX1_init_5 : decode cX1_init 5 = .ok (.iconst 5, 1) := by decide +kernel
theorem dX1_init_6 : decode cX1_init 6 = .ok (.newarray .int, 2) := by decide +kernel
theorem dX1_init_8 : decode cX1_init 8 = .ok (.dup, 1) := by decide +kernel
theorem dX1_init_9 : decode cX1_init 9 = .ok (.iconst 0, 1) := by decide +kernel
theorem dX1_init_10 : decode cX1_init 10 = .ok (.bipush 10, 2) := by decide +kernel
theorem dX1_init_12 : decode cX1_init 12 = .ok (.iastore, 1) := by decide +kernel
theorem dX1_init_13 : decode cX1_init 13 = .ok (.dup, 1) := by decide +kernel
theorem dX1_init_14 : decode cX1_init 14 = .ok (.iconst 1, 1) := by decide +kernel
theorem dX1_init_15 : decode cX1_init 15 = .ok (.bipush 10, 2) := by decide +kernel
theorem dX1_init_17 : decode cX1_init 17 = .ok (.iastore, 1) := by decide +kernel
theorem dX1_init_18 : decode cX1_init 18 = .ok (.dup, 1) := by decide +kernel
theorem dX1_init_19 : decode cX1_init 19 = .ok (.iconst 2, 1) := by decide +kernel
theorem dX1_init_20 : decode cX1_init 20 = .ok (.bipush 10, 2) := by decide +kernel
theorem dX1_init_22 : decode cX1_init 22 = .ok (.iastore, 1) := by decide +kernel
theorem dX1_init_23 : decode cX1_init 23 = .ok (.dup, 1) := by decide +kernel
theorem dX1_init_24 : decode cX1_init 24 = .ok (.iconst 3, 1) := by decide +kernel
theorem dX1_init_25 : decode cX1_init 25 = .ok (.bipush 10, 2) := by decide +kernel
theorem dX1_init_27 : decode cX1_init 27 = .ok (.iastore, 1) := by decide +kernel
theorem dX1_init_28 : decode cX1_init 28 = .ok (.dup, 1) := by decide +kernel
theorem dX1_init_29 : decode cX1_init 29 = .ok (.iconst 4, 1) := by decide +kernel
theorem dX1_init_30 : decode cX1_init 30 = .ok (.bipush 10, 2) := by decide +kernel
theorem dX1_init_32 : decode cX1_init 32 = .ok (.iastore, 1) := by decide +kernel
theorem dX1_init_33 : decode cX1_init 33 = .ok (.putfield 9, 3) := by decide +kernel
theorem dX1_init_36 : decode cX1_init 36 = .ok (.aload_n 0, 1) := by decide +kernel
theorem dX1_init_37 : decode cX1_init 37 = .ok (.bipush 60, 2) := by decide +kernel
theorem dX1_init_39 : decode cX1_init 39 = .ok (.newarray .int, 2) := by decide +kernel
theorem dX1_init_41 : decode cX1_init 41 = .ok (.putfield 15, 3) := by decide +kernel
theorem dX1_init_44 : decode cX1_init 44 = .ok (.aload_n 0, 1) := by decide +kernel
theorem dX1_init_45 : decode cX1_init 45 = .ok (.bipush 60, 2) := by decide +kernel
theorem dX1_init_47 : decode cX1_init 47 = .ok (.newarray .int, 2) := by decide +kernel
theorem dX1_init_49 : decode cX1_init 49 = .ok (.putfield 18, 3) := by decide +kernel
theorem dX1_init_52 : decode cX1_init 52 = .ok (.aload_n 0, 1) := by decide +kernel
theorem dX1_init_53 : decode cX1_init 53 = .ok (.bipush 60, 2) := by decide +kernel
theorem dX1_init_55 : decode cX1_init 55 = .ok (.newarray .int, 2) := by decide +kernel
theorem dX1_init_57 : decode cX1_init 57 = .ok (.putfield 21, 3) := by decide +kernel
theorem dX1_init_60 : decode cX1_init 60 = .ok (.aload_n 0, 1) := by decide +kernel
theorem dX1_init_61 : decode cX1_init 61 = .ok (.bipush 60, 2) := by decide +kernel
theorem dX1_init_63 : decode cX1_init 63 = .ok (.newarray .int, 2) := by decide +kernel
theorem dX1_init_65 : decode cX1_init 65 = .ok (.putfield 24, 3) := by decide +kernel
theorem dX1_init_68 : decode cX1_init 68 = .ok (.aload_n 0, 1) := by decide +kernel
theorem dX1_init_69 : decode cX1_init 69 = .ok (.bipush 60, 2) := by decide +kernel
theorem dX1_init_71 : decode cX1_init 71 = .ok (.newarray .int, 2) := by decide +kernel
theorem dX1_init_73 : decode cX1_init 73 = .ok (.putfield 27, 3) := by decide +kernel
theorem dX1_init_76 : decode cX1_init 76 = .ok (.aload_n 0, 1) := by decide +kernel
theorem dX1_init_77 : decode cX1_init 77 = .ok (.bipush 60, 2) := by decide +kernel
theorem dX1_init_79 : decode cX1_init 79 = .ok (.newarray .int, 2) := by decide +kernel
theorem dX1_init_81 : decode cX1_init 81 = .ok (.putfield 30, 3) := by decide +kernel
theorem dX1_init_84 : decode cX1_init 84 = .ok (.aload_n 0, 1) := by decide +kernel
theorem dX1_init_85 : decode cX1_init 85 = .ok (.bipush 100, 2) := by decide +kernel
theorem dX1_init_87 : decode cX1_init 87 = .ok (.putfield 33, 3) := by decide +kernel
theorem dX1_init_90 : decode cX1_init 90 = .ok (.aload_n 0, 1) := by decide +kernel
theorem dX1_init_91 : decode cX1_init 91 = .ok (.iconst 0, 1) := by decide +kernel
theorem dX1_init_92 : decode cX1_init 92 = .ok (.putfield 37, 3) := by decide +kernel
theorem dX1_init_95 : decode cX1_init 95 = .ok (.aload_n 0, 1) := by decide +kernel
theorem dX1_init_96 : decode cX1_init 96 = .ok (.iconst 0, 1) := by decide +kernel
theorem dX1_init_97 : decode cX1_init 97 = .ok (.putfield 40, 3) := by decide +kernel
theorem dX1_init_100 : decode cX1_init 100 = .ok (.aload_n 0, 1) := by decide +kernel
theorem dX1_init_101 : decode cX1_init 101 = .ok (.iconst 0, 1) := by decide +kernel
theorem dX1_init_102 : decode cX1_init 102 = .ok (.putfield 43, 3) := by decide +kernel
theorem dX1_init_105 : decode cX1_init 105 = .ok (.return_, 1) := by decide +kernel
theorem dX1_pack_0 : decode cX1_pack 0 = .ok (.aload_n 0, 1) := by decide +kernel
theorem dX1_pack_1 : decode cX1_pack 1 = .ok (.iconst 0, 1) := by decide +kernel
theorem dX1_pack_2 : decode cX1_pack 2 = .ok (.putfield 37, 3) := by decide +kernel
theorem dX1_pack_5 : decode cX1_pack 5 = .ok (.iconst 0, 1) := by decide +kernel
theorem dX1_pack_6 : decode cX1_pack 6 = .ok (.istore_n 3, 1) := by decide +kernel
theorem dX1_pack_7 : decode cX1_pack 7 = .ok (.iconst 0, 1) := by decide +kernel
theorem dX1_pack_8 : decode cX1_pack 8 = .ok (.istore 4, 2) := by decide +kernel
theorem dX1_pack_10 : decode cX1_pack 10 = .ok (.iload 4, 2) := by decide +kernel
theorem dX1_pack_12 : decode cX1_pack 12 = .ok (.aload_n 1, 1) := by decide +kernel
theorem dX1_pack_13 : decode cX1_pack 13 = .ok (.getfield 46, 3) := by decide +kernel
theorem dX1_pack_16 : decode cX1_pack 16 = .ok (.if_icmp .ge 163, 3) := by decide +kernel
theorem dX1_pack_19 : decode cX1_pack 19 = .ok (.aload_n 1, 1) := by decide +kernel
theorem dX1_pack_20 : decode cX1_pack 20 = .ok (.getfield 49, 3) := by decide +kernel
theorem dX1_pack_23 : decode cX1_pack 23 = .ok (.iload_n 2, 1) := by decide +kernel
theorem dX1_pack_24 : decode cX1_pack 24 = .ok (.aaload, 1) := by decide +kernel
theorem dX1_pack_25 : decode cX1_pack 25 = .ok (.iload 4, 2) := by decide +kernel
theorem dX1_pack_27 : decode cX1_pack 27 = .ok (.iaload, 1) := by decide +kernel
theorem dX1_pack_28 : decode cX1_pack 28 = .ok (.istore 5, 2) := by decide +kernel
theorem dX1_pack_30 : decode cX1_pack 30 = .ok (.aload_n 0, 1) := by decide +kernel
theorem dX1_pack_31 : decode cX1_pack 31 = .ok (.getfield 37, 3) := by decide +kernel
theorem dX1_pack_34 : decode cX1_pack 34 = .ok (.ifCond .le 44, 3) := by decide +kernel
theorem dX1_pack_37 : decode cX1_pack 37 = .ok (.aload_n 0, 1) := by decide +kernel
theorem dX1_pack_38 : decode cX1_pack 38 = .ok (.getfield 21, 3) := by decide +kernel
theorem dX1_pack_41 : decode cX1_pack 41 = .ok (.aload_n 0, 1) := by decide +kernel
theorem dX1_pack_42 : decode cX1_pack 42 = .ok (.getfield 37, 3) := by decide +kernel
theorem dX1_pack_45 : decode cX1_pack 45 = .ok (.iconst 1, 1) := by decide +kernel
theorem dX1_pack_46 : decode cX1_pack 46 = .ok (.isub, 1) := by decide +kernel
theorem dX1_pack_47 : decode cX1_pack 47 = .ok (.iaload, 1) := by decide +kernel
theorem dX1_pack_48 : decode cX1_pack 48 = .ok (.aload_n 1, 1) := by decide +kernel
theorem dX1_pack_49 : decode cX1_pack 49 = .ok (.getfield 53, 3) := by decide +kernel
theorem dX1_pack_52 : decode cX1_pack 52 = .ok (.iload 5, 2) := by decide +kernel
theorem dX1_pack_54 : decode cX1_pack 54 = .ok (.iaload, 1) := by decide +kernel
theorem dX1_pack_55 : decode cX1_pack 55 = .ok (.if_icmp .ne 23, 3) := by decide +kernel
theorem dX1_pack_58 : decode cX1_pack 58 = .ok (.iload_n 3, 1) := by decide +kernel
theorem dX1_pack_59 : decode cX1_pack 59 = .ok (.aload_n 1, 1) := by decide +kernel
theorem dX1_pack_60 : decode cX1_pack 60 = .ok (.getfield 54, 3) := by decide +kernel
theorem dX1_pack_63 : decode cX1_pack 63 = .ok (.iload 5, 2) := by decide +kernel
theorem dX1_pack_65 : decode cX1_pack 65 = .ok (.iaload, 1) := by decide +kernel
theorem dX1_pack_66 : decode cX1_pack 66 = .ok (.iadd, 1) := by decide +kernel
theorem dX1_pack_67 : decode cX1_pack 67 = .ok (.aload_n 0, 1) := by decide +kernel
theorem dX1_pack_68 : decode cX1_pack 68 = .ok (.getfield 33, 3) := by decide +kernel
theorem dX1_pack_71 : decode cX1_pack 71 = .ok (.if_icmp .gt 7, 3) := by decide +kernel
theorem dX1_pack_74 : decode cX1_pack 74 = .ok (.iconst 1, 1) := by decide +kernel
theorem dX1_pack_75 : decode cX1_pack 75 = .ok (.goto 4, 3) := by decide +kernel
theorem dX1_pack_78 : decode cX1_pack 78 = .ok (.iconst 0, 1) := by decide +kernel
theorem dX1_pack_79 : decode cX1_pack 79 = .ok (.istore 6, 2) := by decide +kernel
theorem dX1_pack_81 : decode cX1_pack 81 = .ok (.iload 6, 2) := by decide +kernel
theorem dX1_pack_83 : decode cX1_pack 83 = .ok (.ifCond .ne 52, 3) := by decide +kernel
theorem dX1_pack_86 : decode cX1_pack 86 = .ok (.aload_n 0, 1) := by decide +kernel
theorem dX1_pack_87 : decode cX1_pack 87 = .ok (.getfield 15, 3) := by decide +kernel
theorem dX1_pack_90 : decode cX1_pack 90 = .ok (.aload_n 0, 1) := by decide +kernel
theorem dX1_pack_91 : decode cX1_pack 91 = .ok (.getfield 37, 3) := by decide +kernel
theorem dX1_pack_94 : decode cX1_pack 94 = .ok (.iload 5, 2) := by decide +kernel
theorem dX1_pack_96 : decode cX1_pack 96 = .ok (.iastore, 1) := by decide +kernel
theorem dX1_pack_97 : decode cX1_pack 97 = .ok (.aload_n 0, 1) := by decide +kernel
theorem dX1_pack_98 : decode cX1_pack 98 = .ok (.getfield 18, 3) := by decide +kernel
theorem dX1_pack_101 : decode cX1_pack 101 = .ok (.aload_n 0, 1) := by decide +kernel
theorem dX1_pack_102 : decode cX1_pack 102 = .ok (.getfield 37, 3) := by decide +kernel
theorem dX1_pack_105 : decode cX1_pack 105 = .ok (.iconst 0, 1) := by decide +kernel
theorem dX1_pack_106 : decode cX1_pack 106 = .ok (.iastore, 1) := by decide +kernel
theorem dX1_pack_107 : decode cX1_pack 107 = .ok (.aload_n 0, 1) := by decide +kernel
theorem dX1_pack_108 : decode cX1_pack 108 = .ok (.getfield 21, 3) := by decide +kernel
theorem dX1_pack_111 : decode cX1_pack 111 = .ok (.aload_n 0, 1) := by decide +kernel
theorem dX1_pack_112 : decode cX1_pack 112 = .ok (.getfield 37, 3) := by decide +kernel
theorem dX1_pack_115 : decode cX1_pack 115 = .ok (.aload_n 1, 1) := by decide +kernel
theorem dX1_pack_116 : decode cX1_pack 116 = .ok (.getfield 53, 3) := by decide +kernel
theorem dX1_pack_119 : decode cX1_pack 119 = .ok (.iload 5, 2) := by decide +kernel
theorem dX1_pack_121 : decode cX1_pack 121 = .ok (.iaload, 1) := by decide +kernel
theorem dX1_pack_122 : decode cX1_pack 122 = .ok (.iastore, 1) := by decide +kernel
theorem dX1_pack_123 : decode cX1_pack 123 = .ok (.iconst 0, 1) := by decide +kernel
theorem dX1_pack_124 : decode cX1_pack 124 = .ok (.istore_n 3, 1) := by decide +kernel
theorem dX1_pack_125 : decode cX1_pack 125 = .ok (.aload_n 0, 1) := by decide +kernel
theorem dX1_pack_126 : decode cX1_pack 126 = .ok (.dup, 1) := by decide +kernel
theorem dX1_pack_127 : decode cX1_pack 127 = .ok (.getfield 37, 3) := by decide +kernel
theorem dX1_pack_130 : decode cX1_pack 130 = .ok (.iconst 1, 1) := by decide +kernel
theorem dX1_pack_131 : decode cX1_pack 131 = .ok (.iadd, 1) := by decide +kernel
theorem dX1_pack_132 : decode cX1_pack 132 = .ok (.putfield 37, 3) := by decide +kernel
theorem dX1_pack_135 : decode cX1_pack 135 = .ok (.aload_n 0, 1) := by decide +kernel
theorem dX1_pack_136 : decode cX1_pack 136 = .ok (.getfield 30, 3) := by decide +kernel
theorem dX1_pack_139 : decode cX1_pack 139 = .ok (.iload 5, 2) := by decide +kernel
theorem dX1_pack_141 : decode cX1_pack 141 = .ok (.aload_n 0, 1) := by decide +kernel
theorem dX1_pack_142 : decode cX1_pack 142 = .ok (.getfield 37, 3) := by decide +kernel
theorem dX1_pack_145 : decode cX1_pack 145 = .ok (.iconst 1, 1) := by decide +kernel
theorem dX1_pack_146 : decode cX1_pack 146 = .ok (.isub, 1) := by decide +kernel
theorem dX1_pack_147 : decode cX1_pack 147 = .ok (.iastore, 1) := by decide +kernel
theorem dX1_pack_148 : decode cX1_pack 148 = .ok (.aload_n 0, 1) := by decide +kernel
theorem dX1_pack_149 : decode cX1_pack 149 = .ok (.getfield 18, 3) := by decide +kernel
theorem dX1_pack_152 : decode cX1_pack 152 = .ok (.aload_n 0, 1) := by decide +kernel
theorem dX1_pack_153 : decode cX1_pack 153 = .ok (.getfield 37, 3) := by decide +kernel
theorem dX1_pack_156 : decode cX1_pack 156 = .ok (.iconst 1, 1) := by decide +kernel
theorem dX1_pack_157 : decode cX1_pack 157 = .ok (.isub, 1) := by decide +kernel
theorem dX1_pack_158 : decode cX1_pack 158 = .ok (.dup2, 1) := by decide +kernel
theorem dX1_pack_159 : decode cX1_pack 159 = .ok (.iaload, 1) := by decide +kernel
theorem dX1_pack_160 : decode cX1_pack 160 = .ok (.iconst 1, 1) := by decide +kernel
theorem dX1_pack_161 : decode cX1_pack 161 = .ok (.iadd, 1) := by decide +kernel
theorem dX1_pack_162 : decode cX1_pack 162 = .ok (.iastore, 1) := by decide +kernel
theorem dX1_pack_163 : decode cX1_pack 163 = .ok (.iload_n 3, 1) := by decide +kernel
theorem dX1_pack_164 : decode cX1_pack 164 = .ok (.aload_n 1, 1) := by decide +kernel
theorem dX1_pack_165 : decode cX1_pack 165 = .ok (.getfield 54, 3) := by decide +kernel
theorem dX1_pack_168 : decode cX1_pack 168 = .ok (.iload 5, 2) := by decide +kernel
theorem dX1_pack_170 : decode cX1_pack 170 = .ok (.iaload, 1) := by decide +kernel
theorem dX1_pack_171 : decode cX1_pack 171 = .ok (.iadd, 1) := by decide +kernel
theorem dX1_pack_172 : decode cX1_pack 172 = .ok (.istore_n 3, 1) := by decide +kernel
theorem dX1_pack_173 : decode cX1_pack 173 = .ok (.iinc 4 1, 3) := by decide +kernel
theorem dX1_pack_176 : decode cX1_pack 176 = .ok (.goto (-166), 3) := by decide +kernel
theorem dX1_pack_179 : decode cX1_pack 179 = .ok (.return_, 1) := by decide +kernel
theorem dX1_meet_0 : decode cX1_meet 0 = .ok (.iconst 0, 1) := by decide +kernel
theorem dX1_meet_1 : decode cX1_meet 1 = .ok (.istore_n 1, 1) := by decide +kernel
theorem dX1_meet_2 : decode cX1_meet 2 = .ok (.iconst 0, 1) := by decide +kernel
theorem dX1_meet_3 : decode cX1_meet 3 = .ok (.istore_n 2, 1) := by decide +kernel
theorem dX1_meet_4 : decode cX1_meet 4 = .ok (.iload_n 2, 1) := by decide +kernel
theorem dX1_meet_5 : decode cX1_meet 5 = .ok (.aload_n 0, 1) := by decide +kernel
theorem dX1_meet_6 : decode cX1_meet 6 = .ok (.getfield 37, 3) := by decide +kernel
theorem dX1_meet_9 : decode cX1_meet 9 = .ok (.if_icmp .ge 23, 3) := by decide +kernel
theorem dX1_meet_12 : decode cX1_meet 12 = .ok (.iload_n 1, 1) := by decide +kernel
theorem dX1_meet_13 : decode cX1_meet 13 = .ok (.aload_n 0, 1) := by decide +kernel
theorem dX1_meet_14 : decode cX1_meet 14 = .ok (.getfield 9, 3) := by decide +kernel
theorem dX1_meet_17 : decode cX1_meet 17 = .ok (.aload_n 0, 1) := by decide +kernel
theorem dX1_meet_18 : decode cX1_meet 18 = .ok (.getfield 21, 3) := by decide +kernel
theorem dX1_meet_21 : decode cX1_meet 21 = .ok (.iload_n 2, 1) := by decide +kernel
theorem dX1_meet_22 : decode cX1_meet 22 = .ok (.iaload, 1) := by decide +kernel
theorem dX1_meet_23 : decode cX1_meet 23 = .ok (.iaload, 1) := by decide +kernel
theorem dX1_meet_24 : decode cX1_meet 24 = .ok (.iadd, 1) := by decide +kernel
theorem dX1_meet_25 : decode cX1_meet 25 = .ok (.istore_n 1, 1) := by decide +kernel
theorem dX1_meet_26 : decode cX1_meet 26 = .ok (.iinc 2 1, 3) := by decide +kernel
theorem dX1_meet_29 : decode cX1_meet 29 = .ok (.goto (-25), 3) := by decide +kernel
theorem dX1_meet_32 : decode cX1_meet 32 = .ok (.aload_n 0, 1) := by decide +kernel
theorem dX1_meet_33 : decode cX1_meet 33 = .ok (.iconst 0, 1) := by decide +kernel
theorem dX1_meet_34 : decode cX1_meet 34 = .ok (.putfield 40, 3) := by decide +kernel
theorem dX1_meet_37 : decode cX1_meet 37 = .ok (.aload_n 0, 1) := by decide +kernel
theorem dX1_meet_38 : decode cX1_meet 38 = .ok (.iload_n 1, 1) := by decide +kernel
theorem dX1_meet_39 : decode cX1_meet 39 = .ok (.putfield 43, 3) := by decide +kernel
theorem dX1_meet_42 : decode cX1_meet 42 = .ok (.iconst 0, 1) := by decide +kernel
theorem dX1_meet_43 : decode cX1_meet 43 = .ok (.istore_n 2, 1) := by decide +kernel
theorem dX1_meet_44 : decode cX1_meet 44 = .ok (.iconst 0, 1) := by decide +kernel
theorem dX1_meet_45 : decode cX1_meet 45 = .ok (.istore_n 3, 1) := by decide +kernel
theorem dX1_meet_46 : decode cX1_meet 46 = .ok (.iload_n 3, 1) := by decide +kernel
theorem dX1_meet_47 : decode cX1_meet 47 = .ok (.aload_n 0, 1) := by decide +kernel
theorem dX1_meet_48 : decode cX1_meet 48 = .ok (.getfield 37, 3) := by decide +kernel
theorem dX1_meet_51 : decode cX1_meet 51 = .ok (.if_icmp .ge 54, 3) := by decide +kernel
theorem dX1_meet_54 : decode cX1_meet 54 = .ok (.iload_n 2, 1) := by decide +kernel
theorem dX1_meet_55 : decode cX1_meet 55 = .ok (.aload_n 0, 1) := by decide +kernel
theorem dX1_meet_56 : decode cX1_meet 56 = .ok (.getfield 9, 3) := by decide +kernel
theorem dX1_meet_59 : decode cX1_meet 59 = .ok (.aload_n 0, 1) := by decide +kernel
theorem dX1_meet_60 : decode cX1_meet 60 = .ok (.getfield 21, 3) := by decide +kernel
theorem dX1_meet_63 : decode cX1_meet 63 = .ok (.iload_n 3, 1) := by decide +kernel
theorem dX1_meet_64 : decode cX1_meet 64 = .ok (.iaload, 1) := by decide +kernel
theorem dX1_meet_65 : decode cX1_meet 65 = .ok (.iaload, 1) := by decide +kernel
theorem dX1_meet_66 : decode cX1_meet 66 = .ok (.iadd, 1) := by decide +kernel
theorem dX1_meet_67 : decode cX1_meet 67 = .ok (.istore_n 2, 1) := by decide +kernel
theorem dX1_meet_68 : decode cX1_meet 68 = .ok (.iload_n 2, 1) := by decide +kernel
theorem dX1_meet_69 : decode cX1_meet 69 = .ok (.iload_n 1, 1) := by decide +kernel
theorem dX1_meet_70 : decode cX1_meet 70 = .ok (.iload_n 2, 1) := by decide +kernel
theorem dX1_meet_71 : decode cX1_meet 71 = .ok (.isub, 1) := by decide +kernel
theorem dX1_meet_72 : decode cX1_meet 72 = .ok (.invokestatic 57, 3) := by decide +kernel
theorem dX1_meet_75 : decode cX1_meet 75 = .ok (.istore 4, 2) := by decide +kernel
theorem dX1_meet_77 : decode cX1_meet 77 = .ok (.iload 4, 2) := by decide +kernel
theorem dX1_meet_79 : decode cX1_meet 79 = .ok (.aload_n 0, 1) := by decide +kernel
theorem dX1_meet_80 : decode cX1_meet 80 = .ok (.getfield 43, 3) := by decide +kernel
theorem dX1_meet_83 : decode cX1_meet 83 = .ok (.if_icmp .ge 16, 3) := by decide +kernel
theorem dX1_meet_86 : decode cX1_meet 86 = .ok (.aload_n 0, 1) := by decide +kernel
theorem dX1_meet_87 : decode cX1_meet 87 = .ok (.iload_n 3, 1) := by decide +kernel
theorem dX1_meet_88 : decode cX1_meet 88 = .ok (.iconst 1, 1) := by decide +kernel
theorem dX1_meet_89 : decode cX1_meet 89 = .ok (.iadd, 1) := by decide +kernel
theorem dX1_meet_90 : decode cX1_meet 90 = .ok (.putfield 40, 3) := by decide +kernel
theorem dX1_meet_93 : decode cX1_meet 93 = .ok (.aload_n 0, 1) := by decide +kernel
theorem dX1_meet_94 : decode cX1_meet 94 = .ok (.iload 4, 2) := by decide +kernel
theorem dX1_meet_96 : decode cX1_meet 96 = .ok (.putfield 43, 3) := by decide +kernel
theorem dX1_meet_99 : decode cX1_meet 99 = .ok (.iinc 3 1, 3) := by decide +kernel
theorem dX1_meet_102 : decode cX1_meet 102 = .ok (.goto (-56), 3) := by decide +kernel
theorem dX1_meet_105 : decode cX1_meet 105 = .ok (.aload_n 0, 1) := by decide +kernel
theorem dX1_meet_106 : decode cX1_meet 106 = .ok (.invokevirtual 63, 3) := by decide +kernel
theorem dX1_meet_109 : decode cX1_meet 109 = .ok (.return_, 1) := by decide +kernel
theorem dX1_stageOf_0 : decode cX1_stageOf 0 = .ok (.aload_n 0, 1) := by decide +kernel
theorem dX1_stageOf_1 : decode cX1_stageOf 1 = .ok (.getfield 30, 3) := by decide +kernel
theorem dX1_stageOf_4 : decode cX1_stageOf 4 = .ok (.iload_n 1, 1) := by decide +kernel
theorem dX1_stageOf_5 : decode cX1_stageOf 5 = .ok (.iaload, 1) := by decide +kernel
theorem dX1_stageOf_6 : decode cX1_stageOf 6 = .ok (.istore_n 3, 1) := by decide +kernel
theorem dX1_stageOf_7 : decode cX1_stageOf 7 = .ok (.iload_n 2, 1) := by decide +kernel
theorem dX1_stageOf_8 : decode cX1_stageOf 8 = .ok (.aload_n 0, 1) := by decide +kernel
theorem dX1_stageOf_9 : decode cX1_stageOf 9 = .ok (.getfield 24, 3) := by decide +kernel
theorem dX1_stageOf_12 : decode cX1_stageOf 12 = .ok (.iload_n 3, 1) := by decide +kernel
theorem dX1_stageOf_13 : decode cX1_stageOf 13 = .ok (.iaload, 1) := by decide +kernel
theorem dX1_stageOf_14 : decode cX1_stageOf 14 = .ok (.if_icmp .ge 5, 3) := by decide +kernel
theorem dX1_stageOf_17 : decode cX1_stageOf 17 = .ok (.iconst 0, 1) := by decide +kernel
theorem dX1_stageOf_18 : decode cX1_stageOf 18 = .ok (.ireturn, 1) := by decide +kernel
theorem dX1_stageOf_19 : decode cX1_stageOf 19 = .ok (.iload_n 2, 1) := by decide +kernel
theorem dX1_stageOf_20 : decode cX1_stageOf 20 = .ok (.aload_n 0, 1) := by decide +kernel
theorem dX1_stageOf_21 : decode cX1_stageOf 21 = .ok (.getfield 27, 3) := by decide +kernel
theorem dX1_stageOf_24 : decode cX1_stageOf 24 = .ok (.iload_n 3, 1) := by decide +kernel
theorem dX1_stageOf_25 : decode cX1_stageOf 25 = .ok (.iaload, 1) := by decide +kernel
theorem dX1_stageOf_26 : decode cX1_stageOf 26 = .ok (.if_icmp .ge 7, 3) := by decide +kernel
theorem dX1_stageOf_29 : decode cX1_stageOf 29 = .ok (.iconst 1, 1) := by decide +kernel
theorem dX1_stageOf_30 : decode cX1_stageOf 30 = .ok (.goto 4, 3) := by decide +kernel
theorem dX1_stageOf_33 : decode cX1_stageOf 33 = .ok (.iconst 2, 1) := by decide +kernel
theorem dX1_stageOf_34 : decode cX1_stageOf 34 = .ok (.ireturn, 1) := by decide +kernel
theorem dX1_readerHas_0 : decode cX1_readerHas 0 = .ok (.aload_n 0, 1) := by decide +kernel
theorem dX1_readerHas_1 : decode cX1_readerHas 1 = .ok (.getfield 30, 3) := by decide +kernel
theorem dX1_readerHas_4 : decode cX1_readerHas 4 = .ok (.iload_n 1, 1) := by decide +kernel
theorem dX1_readerHas_5 : decode cX1_readerHas 5 = .ok (.iaload, 1) := by decide +kernel
theorem dX1_readerHas_6 : decode cX1_readerHas 6 = .ok (.istore_n 3, 1) := by decide +kernel
theorem dX1_readerHas_7 : decode cX1_readerHas 7 = .ok (.iload_n 2, 1) := by decide +kernel
theorem dX1_readerHas_8 : decode cX1_readerHas 8 = .ok (.aload_n 0, 1) := by decide +kernel
theorem dX1_readerHas_9 : decode cX1_readerHas 9 = .ok (.getfield 27, 3) := by decide +kernel
theorem dX1_readerHas_12 : decode cX1_readerHas 12 = .ok (.iload_n 3, 1) := by decide +kernel
theorem dX1_readerHas_13 : decode cX1_readerHas 13 = .ok (.iaload, 1) := by decide +kernel
theorem dX1_readerHas_14 : decode cX1_readerHas 14 = .ok (.if_icmp .lt 5, 3) := by decide +kernel
theorem dX1_readerHas_17 : decode cX1_readerHas 17 = .ok (.iload_n 2, 1) := by decide +kernel
theorem dX1_readerHas_18 : decode cX1_readerHas 18 = .ok (.ireturn, 1) := by decide +kernel
theorem dX1_readerHas_19 : decode cX1_readerHas 19 = .ok (.iload_n 2, 1) := by decide +kernel
theorem dX1_readerHas_20 : decode cX1_readerHas 20 = .ok (.aload_n 0, 1) := by decide +kernel
theorem dX1_readerHas_21 : decode cX1_readerHas 21 = .ok (.getfield 9, 3) := by decide +kernel
theorem dX1_readerHas_24 : decode cX1_readerHas 24 = .ok (.aload_n 0, 1) := by decide +kernel
theorem dX1_readerHas_25 : decode cX1_readerHas 25 = .ok (.getfield 21, 3) := by decide +kernel
theorem dX1_readerHas_28 : decode cX1_readerHas 28 = .ok (.iload_n 3, 1) := by decide +kernel
theorem dX1_readerHas_29 : decode cX1_readerHas 29 = .ok (.iaload, 1) := by decide +kernel
theorem dX1_readerHas_30 : decode cX1_readerHas 30 = .ok (.iaload, 1) := by decide +kernel
theorem dX1_readerHas_31 : decode cX1_readerHas 31 = .ok (.iadd, 1) := by decide +kernel
theorem dX1_readerHas_32 : decode cX1_readerHas 32 = .ok (.istore 4, 2) := by decide +kernel
theorem dX1_readerHas_34 : decode cX1_readerHas 34 = .ok (.iload 4, 2) := by decide +kernel
theorem dX1_readerHas_36 : decode cX1_readerHas 36 = .ok (.aload_n 0, 1) := by decide +kernel
theorem dX1_readerHas_37 : decode cX1_readerHas 37 = .ok (.getfield 24, 3) := by decide +kernel
theorem dX1_readerHas_40 : decode cX1_readerHas 40 = .ok (.iload_n 3, 1) := by decide +kernel
theorem dX1_readerHas_41 : decode cX1_readerHas 41 = .ok (.iaload, 1) := by decide +kernel
theorem dX1_readerHas_42 : decode cX1_readerHas 42 = .ok (.if_icmp .gt 8, 3) := by decide +kernel
theorem dX1_readerHas_45 : decode cX1_readerHas 45 = .ok (.iload 4, 2) := by decide +kernel
theorem dX1_readerHas_47 : decode cX1_readerHas 47 = .ok (.goto 9, 3) := by decide +kernel
theorem dX1_readerHas_50 : decode cX1_readerHas 50 = .ok (.aload_n 0, 1) := by decide +kernel
theorem dX1_readerHas_51 : decode cX1_readerHas 51 = .ok (.getfield 27, 3) := by decide +kernel
theorem dX1_readerHas_54 : decode cX1_readerHas 54 = .ok (.iload_n 3, 1) := by decide +kernel
theorem dX1_readerHas_55 : decode cX1_readerHas 55 = .ok (.iaload, 1) := by decide +kernel
theorem dX1_readerHas_56 : decode cX1_readerHas 56 = .ok (.ireturn, 1) := by decide +kernel
theorem dX1_setMinutes_0 : decode cX1_setMinutes 0 = .ok (.iconst 0, 1) := by decide +kernel
theorem dX1_setMinutes_1 : decode cX1_setMinutes 1 = .ok (.istore_n 1, 1) := by decide +kernel
theorem dX1_setMinutes_2 : decode cX1_setMinutes 2 = .ok (.iconst 0, 1) := by decide +kernel
theorem dX1_setMinutes_3 : decode cX1_setMinutes 3 = .ok (.istore_n 2, 1) := by decide +kernel
theorem dX1_setMinutes_4 : decode cX1_setMinutes 4 = .ok (.iload_n 2, 1) := by decide +kernel
theorem dX1_setMinutes_5 : decode cX1_setMinutes 5 = .ok (.aload_n 0, 1) := by decide +kernel
theorem dX1_setMinutes_6 : decode cX1_setMinutes 6 = .ok (.getfield 40, 3) := by decide +kernel
theorem dX1_setMinutes_9 : decode cX1_setMinutes 9 = .ok (.if_icmp .ge 16, 3) := by decide +kernel
theorem dX1_setMinutes_12 : decode cX1_setMinutes 12 = .ok (.aload_n 0, 1) := by decide +kernel
theorem dX1_setMinutes_13 : decode cX1_setMinutes 13 = .ok (.iload_n 1, 1) := by decide +kernel
theorem dX1_setMinutes_14 : decode cX1_setMinutes 14 = .ok (.iload_n 2, 1) := by decide +kernel
theorem dX1_setMinutes_15 : decode cX1_setMinutes 15 = .ok (.invokevirtual 66, 3) := by decide +kernel
theorem dX1_setMinutes_18 : decode cX1_setMinutes 18 = .ok (.istore_n 1, 1) := by decide +kernel
theorem dX1_setMinutes_19 : decode cX1_setMinutes 19 = .ok (.iinc 2 1, 3) := by decide +kernel
theorem dX1_setMinutes_22 : decode cX1_setMinutes 22 = .ok (.goto (-18), 3) := by decide +kernel
theorem dX1_setMinutes_25 : decode cX1_setMinutes 25 = .ok (.iconst 0, 1) := by decide +kernel
theorem dX1_setMinutes_26 : decode cX1_setMinutes 26 = .ok (.istore_n 1, 1) := by decide +kernel
theorem dX1_setMinutes_27 : decode cX1_setMinutes 27 = .ok (.aload_n 0, 1) := by decide +kernel
theorem dX1_setMinutes_28 : decode cX1_setMinutes 28 = .ok (.getfield 37, 3) := by decide +kernel
theorem dX1_setMinutes_31 : decode cX1_setMinutes 31 = .ok (.iconst 1, 1) := by decide +kernel
theorem dX1_setMinutes_32 : decode cX1_setMinutes 32 = .ok (.isub, 1) := by decide +kernel
theorem dX1_setMinutes_33 : decode cX1_setMinutes 33 = .ok (.istore_n 2, 1) := by decide +kernel
theorem dX1_setMinutes_34 : decode cX1_setMinutes 34 = .ok (.iload_n 2, 1) := by decide +kernel
theorem dX1_setMinutes_35 : decode cX1_setMinutes 35 = .ok (.aload_n 0, 1) := by decide +kernel
theorem dX1_setMinutes_36 : decode cX1_setMinutes 36 = .ok (.getfield 40, 3) := by decide +kernel
theorem dX1_setMinutes_39 : decode cX1_setMinutes 39 = .ok (.if_icmp .lt 16, 3) := by decide +kernel
theorem dX1_setMinutes_42 : decode cX1_setMinutes 42 = .ok (.aload_n 0, 1) := by decide +kernel
theorem dX1_setMinutes_43 : decode cX1_setMinutes 43 = .ok (.iload_n 1, 1) := by decide +kernel
theorem dX1_setMinutes_44 : decode cX1_setMinutes 44 = .ok (.iload_n 2, 1) := by decide +kernel
theorem dX1_setMinutes_45 : decode cX1_setMinutes 45 = .ok (.invokevirtual 66, 3) := by decide +kernel
theorem dX1_setMinutes_48 : decode cX1_setMinutes 48 = .ok (.istore_n 1, 1) := by decide +kernel
theorem dX1_setMinutes_49 : decode cX1_setMinutes 49 = .ok (.iinc 2 (-1), 3) := by decide +kernel
theorem dX1_setMinutes_52 : decode cX1_setMinutes 52 = .ok (.goto (-18), 3) := by decide +kernel
theorem dX1_setMinutes_55 : decode cX1_setMinutes 55 = .ok (.return_, 1) := by decide +kernel
theorem dX1_carryFrom_0 : decode cX1_carryFrom 0 = .ok (.aload_n 0, 1) := by decide +kernel
theorem dX1_carryFrom_1 : decode cX1_carryFrom 1 = .ok (.getfield 24, 3) := by decide +kernel
theorem dX1_carryFrom_4 : decode cX1_carryFrom 4 = .ok (.iload_n 2, 1) := by decide +kernel
theorem dX1_carryFrom_5 : decode cX1_carryFrom 5 = .ok (.iload_n 1, 1) := by decide +kernel
theorem dX1_carryFrom_6 : decode cX1_carryFrom 6 = .ok (.iastore, 1) := by decide +kernel
theorem dX1_carryFrom_7 : decode cX1_carryFrom 7 = .ok (.aload_n 0, 1) := by decide +kernel
theorem dX1_carryFrom_8 : decode cX1_carryFrom 8 = .ok (.getfield 27, 3) := by decide +kernel
theorem dX1_carryFrom_11 : decode cX1_carryFrom 11 = .ok (.iload_n 2, 1) := by decide +kernel
theorem dX1_carryFrom_12 : decode cX1_carryFrom 12 = .ok (.iload_n 1, 1) := by decide +kernel
theorem dX1_carryFrom_13 : decode cX1_carryFrom 13 = .ok (.aload_n 0, 1) := by decide +kernel
theorem dX1_carryFrom_14 : decode cX1_carryFrom 14 = .ok (.getfield 9, 3) := by decide +kernel
theorem dX1_carryFrom_17 : decode cX1_carryFrom 17 = .ok (.aload_n 0, 1) := by decide +kernel
theorem dX1_carryFrom_18 : decode cX1_carryFrom 18 = .ok (.getfield 21, 3) := by decide +kernel
theorem dX1_carryFrom_21 : decode cX1_carryFrom 21 = .ok (.iload_n 2, 1) := by decide +kernel
theorem dX1_carryFrom_22 : decode cX1_carryFrom 22 = .ok (.iaload, 1) := by decide +kernel
theorem dX1_carryFrom_23 : decode cX1_carryFrom 23 = .ok (.iaload, 1) := by decide +kernel
theorem dX1_carryFrom_24 : decode cX1_carryFrom 24 = .ok (.iadd, 1) := by decide +kernel
theorem dX1_carryFrom_25 : decode cX1_carryFrom 25 = .ok (.iastore, 1) := by decide +kernel
theorem dX1_carryFrom_26 : decode cX1_carryFrom 26 = .ok (.aload_n 0, 1) := by decide +kernel
theorem dX1_carryFrom_27 : decode cX1_carryFrom 27 = .ok (.getfield 27, 3) := by decide +kernel
theorem dX1_carryFrom_30 : decode cX1_carryFrom 30 = .ok (.iload_n 2, 1) := by decide +kernel
theorem dX1_carryFrom_31 : decode cX1_carryFrom 31 = .ok (.iaload, 1) := by decide +kernel
theorem dX1_carryFrom_32 : decode cX1_carryFrom 32 = .ok (.ireturn, 1) := by decide +kernel
theorem dX2_init_0 : decode cX2_init 0 = .ok (.aload_n 0, 1) := by decide +kernel
theorem dX2_init_1 : decode cX2_init 1 = .ok (.invokespecial 3, 3) := by decide +kernel
theorem dX2_init_4 : decode cX2_init 4 = .ok (.aload_n 0, 1) := by decide +kernel
theorem dX2_init_5 : decode cX2_init 5 = .ok (.iconst (-1), 1) := by decide +kernel
theorem dX2_init_6 : decode cX2_init 6 = .ok (.putfield 9, 3) := by decide +kernel
theorem dX2_init_9 : decode cX2_init 9 = .ok (.return_, 1) := by decide +kernel
theorem dX2_read_0 : decode cX2_read 0 = .ok (.aload_n 0, 1) := by decide +kernel
theorem dX2_read_1 : decode cX2_read 1 = .ok (.iconst 0, 1) := by decide +kernel
theorem dX2_read_2 : decode cX2_read 2 = .ok (.putfield 15, 3) := by decide +kernel
theorem dX2_read_5 : decode cX2_read 5 = .ok (.aload_n 0, 1) := by decide +kernel
theorem dX2_read_6 : decode cX2_read 6 = .ok (.iconst 0, 1) := by decide +kernel
theorem dX2_read_7 : decode cX2_read 7 = .ok (.putfield 18, 3) := by decide +kernel
theorem dX2_read_10 : decode cX2_read 10 = .ok (.aload_n 0, 1) := by decide +kernel
theorem dX2_read_11 : decode cX2_read 11 = .ok (.iconst 0, 1) := by decide +kernel
theorem dX2_read_12 : decode cX2_read 12 = .ok (.putfield 21, 3) := by decide +kernel
theorem dX2_read_15 : decode cX2_read 15 = .ok (.aload_n 1, 1) := by decide +kernel
theorem dX2_read_16 : decode cX2_read 16 = .ok (.iconst 0, 1) := by decide +kernel
theorem dX2_read_17 : decode cX2_read 17 = .ok (.invokestatic 24, 3) := by decide +kernel
theorem dX2_read_20 : decode cX2_read 20 = .ok (.istore_n 2, 1) := by decide +kernel
theorem dX2_read_21 : decode cX2_read 21 = .ok (.iload_n 2, 1) := by decide +kernel
theorem dX2_read_22 : decode cX2_read 22 = .ok (.ifCond .ne 9, 3) := by decide +kernel
theorem dX2_read_25 : decode cX2_read 25 = .ok (.aload_n 0, 1) := by decide +kernel
theorem dX2_read_26 : decode cX2_read 26 = .ok (.iconst 0, 1) := by decide +kernel
theorem dX2_read_27 : decode cX2_read 27 = .ok (.putfield 9, 3) := by decide +kernel
theorem dX2_read_30 : decode cX2_read 30 = .ok (.return_, 1) := by decide +kernel
theorem dX2_read_31 : decode cX2_read 31 = .ok (.aload_n 0, 1) := by decide +kernel
theorem dX2_read_32 : decode cX2_read 32 = .ok (.aload_n 1, 1) := by decide +kernel
theorem dX2_read_33 : decode cX2_read 33 = .ok (.iconst 0, 1) := by decide +kernel
theorem dX2_read_34 : decode cX2_read 34 = .ok (.iload_n 2, 1) := by decide +kernel
theorem dX2_read_35 : decode cX2_read 35 = .ok (.invokestatic 28, 3) := by decide +kernel
theorem dX2_read_38 : decode cX2_read 38 = .ok (.putfield 32, 3) := by decide +kernel
theorem dX2_read_41 : decode cX2_read 41 = .ok (.aload_n 1, 1) := by decide +kernel
theorem dX2_read_42 : decode cX2_read 42 = .ok (.iload_n 2, 1) := by decide +kernel
theorem dX2_read_43 : decode cX2_read 43 = .ok (.invokevirtual 35, 3) := by decide +kernel
theorem dX2_read_46 : decode cX2_read 46 = .ok (.bipush 46, 2) := by decide +kernel
theorem dX2_read_48 : decode cX2_read 48 = .ok (.if_icmp .ne 31, 3) := by decide +kernel
theorem dX2_read_51 : decode cX2_read 51 = .ok (.iload_n 2, 1) := by decide +kernel
theorem dX2_read_52 : decode cX2_read 52 = .ok (.iconst 1, 1) := by decide +kernel
theorem dX2_read_53 : decode cX2_read 53 = .ok (.iadd, 1) := by decide +kernel
theorem dX2_read_54 : decode cX2_read 54 = .ok (.istore_n 3, 1) := by decide +kernel
theorem dX2_read_55 : decode cX2_read 55 = .ok (.aload_n 1, 1) := by decide +kernel
theorem dX2_read_56 : decode cX2_read 56 = .ok (.iload_n 3, 1) := by decide +kernel
theorem dX2_read_57 : decode cX2_read 57 = .ok (.invokestatic 24, 3) := by decide +kernel
theorem dX2_read_60 : decode cX2_read 60 = .ok (.istore_n 2, 1) := by decide +kernel
theorem dX2_read_61 : decode cX2_read 61 = .ok (.iload_n 2, 1) := by decide +kernel
theorem dX2_read_62 : decode cX2_read 62 = .ok (.iload_n 3, 1) := by decide +kernel
theorem dX2_read_63 : decode cX2_read 63 = .ok (.if_icmp .ne 9, 3) := by decide +kernel
theorem dX2_read_66 : decode cX2_read 66 = .ok (.aload_n 0, 1) := by decide +kernel
theorem dX2_read_67 : decode cX2_read 67 = .ok (.iload_n 3, 1) := by decide +kernel
theorem dX2_read_68 : decode cX2_read 68 = .ok (.putfield 9, 3) := by decide +kernel
theorem dX2_read_71 : decode cX2_read 71 = .ok (.return_, 1) := by decide +kernel
theorem dX2_read_72 : decode cX2_read 72 = .ok (.aload_n 0, 1) := by decide +kernel
theorem dX2_read_73 : decode cX2_read 73 = .ok (.aload_n 1, 1) := by decide +kernel
theorem dX2_read_74 : decode cX2_read 74 = .ok (.iload_n 3, 1) := by decide +kernel
theorem dX2_read_75 : decode cX2_read 75 = .ok (.iload_n 2, 1) := by decide +kernel
theorem dX2_read_76 : decode cX2_read 76 = .ok (.invokevirtual 41, 3) := by decide +kernel
theorem dX2_read_79 : decode cX2_read 79 = .ok (.aload_n 1, 1) := by decide +kernel
theorem dX2_read_80 : decode cX2_read 80 = .ok (.iload_n 2, 1) := by decide +kernel
theorem dX2_read_81 : decode cX2_read 81 = .ok (.invokestatic 45, 3) := by decide +kernel
theorem dX2_read_84 : decode cX2_read 84 = .ok (.istore_n 3, 1) := by decide +kernel
theorem dX2_read_85 : decode cX2_read 85 = .ok (.aload_n 0, 1) := by decide +kernel
theorem dX2_read_86 : decode cX2_read 86 = .ok (.aload_n 1, 1) := by decide +kernel
theorem dX2_read_87 : decode cX2_read 87 = .ok (.iload_n 2, 1) := by decide +kernel
theorem dX2_read_88 : decode cX2_read 88 = .ok (.iload_n 3, 1) := by decide +kernel
theorem dX2_read_89 : decode cX2_read 89 = .ok (.invokevirtual 48, 3) := by decide +kernel
theorem dX2_read_92 : decode cX2_read 92 = .ok (.aload_n 0, 1) := by decide +kernel
theorem dX2_read_93 : decode cX2_read 93 = .ok (.iload_n 3, 1) := by decide +kernel
theorem dX2_read_94 : decode cX2_read 94 = .ok (.aload_n 1, 1) := by decide +kernel
theorem dX2_read_95 : decode cX2_read 95 = .ok (.getfield 51, 3) := by decide +kernel
theorem dX2_read_98 : decode cX2_read 98 = .ok (.if_icmp .ge 7, 3) := by decide +kernel
theorem dX2_read_101 : decode cX2_read 101 = .ok (.iload_n 3, 1) := by decide +kernel
theorem dX2_read_102 : decode cX2_read 102 = .ok (.goto 4, 3) := by decide +kernel
theorem dX2_read_105 : decode cX2_read 105 = .ok (.iconst (-1), 1) := by decide +kernel
theorem dX2_read_106 : decode cX2_read 106 = .ok (.putfield 9, 3) := by decide +kernel
theorem dX2_read_109 : decode cX2_read 109 = .ok (.return_, 1) := by decide +kernel
theorem dX2_keyBy_0 : decode cX2_keyBy 0 = .ok (.iload_n 1, 1) := by decide +kernel
theorem dX2_keyBy_1 : decode cX2_keyBy 1 = .ok (.ifCond .ne 10, 3) := by decide +kernel
theorem dX2_keyBy_4 : decode cX2_keyBy 4 = .ok (.aload_n 0, 1) := by decide +kernel
theorem dX2_keyBy_5 : decode cX2_keyBy 5 = .ok (.getfield 21, 3) := by decide +kernel
theorem dX2_keyBy_8 : decode cX2_keyBy 8 = .ok (.goto 14, 3) := by decide +kernel
theorem dX2_keyBy_11 : decode cX2_keyBy 11 = .ok (.aload_n 0, 1) := by decide +kernel
theorem dX2_keyBy_12 : decode cX2_keyBy 12 = .ok (.getfield 15, 3) := by decide +kernel
theorem dX2_keyBy_15 : decode cX2_keyBy 15 = .ok (.iconst 5, 1) := by decide +kernel
theorem dX2_keyBy_16 : decode cX2_keyBy 16 = .ok (.imul, 1) := by decide +kernel
theorem dX2_keyBy_17 : decode cX2_keyBy 17 = .ok (.aload_n 0, 1) := by decide +kernel
theorem dX2_keyBy_18 : decode cX2_keyBy 18 = .ok (.getfield 18, 3) := by decide +kernel
theorem dX2_keyBy_21 : decode cX2_keyBy 21 = .ok (.iadd, 1) := by decide +kernel
theorem dX2_keyBy_22 : decode cX2_keyBy 22 = .ok (.istore_n 2, 1) := by decide +kernel
theorem dX2_keyBy_23 : decode cX2_keyBy 23 = .ok (.aload_n 0, 1) := by decide +kernel
theorem dX2_keyBy_24 : decode cX2_keyBy 24 = .ok (.getfield 32, 3) := by decide +kernel
theorem dX2_keyBy_27 : decode cX2_keyBy 27 = .ok (.i2l, 1) := by decide +kernel
theorem dX2_keyBy_28 : decode cX2_keyBy 28 = .ok (.ldc2_w 54, 3) := by decide +kernel
theorem dX2_keyBy_31 : decode cX2_keyBy 31 = .ok (.lmul, 1) := by decide +kernel
theorem dX2_keyBy_32 : decode cX2_keyBy 32 = .ok (.iload_n 2, 1) := by decide +kernel
theorem dX2_keyBy_33 : decode cX2_keyBy 33 = .ok (.i2l, 1) := by decide +kernel
theorem dX2_keyBy_34 : decode cX2_keyBy 34 = .ok (.ladd, 1) := by decide +kernel
theorem dX2_keyBy_35 : decode cX2_keyBy 35 = .ok (.ldc2_w 56, 3) := by decide +kernel
theorem dX2_keyBy_38 : decode cX2_keyBy 38 = .ok (.lmul, 1) := by decide +kernel
theorem dX2_keyBy_39 : decode cX2_keyBy 39 = .ok (.aload_n 0, 1) := by decide +kernel
theorem dX2_keyBy_40 : decode cX2_keyBy 40 = .ok (.getfield 58, 3) := by decide +kernel
theorem dX2_keyBy_43 : decode cX2_keyBy 43 = .ok (.i2l, 1) := by decide +kernel
theorem dX2_keyBy_44 : decode cX2_keyBy 44 = .ok (.ladd, 1) := by decide +kernel
theorem dX2_keyBy_45 : decode cX2_keyBy 45 = .ok (.lreturn, 1) := by decide +kernel
theorem dX2_readBehind_0 : decode cX2_readBehind 0 = .ok (.aload_n 0, 1) := by decide +kernel
theorem dX2_readBehind_1 : decode cX2_readBehind 1 = .ok (.aload_n 1, 1) := by decide +kernel
theorem dX2_readBehind_2 : decode cX2_readBehind 2 = .ok (.iload_n 2, 1) := by decide +kernel
theorem dX2_readBehind_3 : decode cX2_readBehind 3 = .ok (.iload_n 3, 1) := by decide +kernel
theorem dX2_readBehind_4 : decode cX2_readBehind 4 = .ok (.invokestatic 28, 3) := by decide +kernel
theorem dX2_readBehind_7 : decode cX2_readBehind 7 = .ok (.putfield 15, 3) := by decide +kernel
theorem dX2_readBehind_10 : decode cX2_readBehind 10 = .ok (.aload_n 0, 1) := by decide +kernel
theorem dX2_readBehind_11 : decode cX2_readBehind 11 = .ok (.iload_n 3, 1) := by decide +kernel
theorem dX2_readBehind_12 : decode cX2_readBehind 12 = .ok (.iload_n 2, 1) := by decide +kernel
theorem dX2_readBehind_13 : decode cX2_readBehind 13 = .ok (.isub, 1) := by decide +kernel
theorem dX2_readBehind_14 : decode cX2_readBehind 14 = .ok (.putfield 18, 3) := by decide +kernel
theorem dX2_readBehind_17 : decode cX2_readBehind 17 = .ok (.iload_n 2, 1) := by decide +kernel
theorem dX2_readBehind_18 : decode cX2_readBehind 18 = .ok (.istore 4, 2) := by decide +kernel
theorem dX2_readBehind_20 : decode cX2_readBehind 20 = .ok (.iload 4, 2) := by decide +kernel
theorem dX2_readBehind_22 : decode cX2_readBehind 22 = .ok (.iload_n 2, 1) := by decide +kernel
theorem dX2_readBehind_23 : decode cX2_readBehind 23 = .ok (.iconst 4, 1) := by decide +kernel
theorem dX2_readBehind_24 : decode cX2_readBehind 24 = .ok (.iadd, 1) := by decide +kernel
theorem dX2_readBehind_25 : decode cX2_readBehind 25 = .ok (.if_icmp .ge 42, 3) := by decide +kernel
theorem dX2_readBehind_28 : decode cX2_readBehind 28 = .ok (.aload_n 0, 1) := by decide +kernel
theorem dX2_readBehind_29 : decode cX2_readBehind 29 = .ok (.aload_n 0, 1) := by decide +kernel
theorem dX2_readBehind_30 : decode cX2_readBehind 30 = .ok (.getfield 21, 3) := by decide +kernel
theorem dX2_readBehind_33 : decode cX2_readBehind 33 = .ok (.bipush 11, 2) := by decide +kernel
theorem dX2_readBehind_35 : decode cX2_readBehind 35 = .ok (.imul, 1) := by decide +kernel
theorem dX2_readBehind_36 : decode cX2_readBehind 36 = .ok (.iload 4, 2) := by decide +kernel
theorem dX2_readBehind_38 : decode cX2_readBehind 38 = .ok (.iload_n 3, 1) := by decide +kernel
theorem dX2_readBehind_39 : decode cX2_readBehind 39 = .ok (.if_icmp .ge 17, 3) := by decide +kernel
theorem dX2_readBehind_42 : decode cX2_readBehind 42 = .ok (.aload_n 1, 1) := by decide +kernel
theorem dX2_readBehind_43 : decode cX2_readBehind 43 = .ok (.iload 4, 2) := by decide +kernel
theorem dX2_readBehind_45 : decode cX2_readBehind 45 = .ok (.invokevirtual 35, 3) := by decide +kernel
theorem dX2_readBehind_48 : decode cX2_readBehind 48 = .ok (.bipush 48, 2) := by decide +kernel
theorem dX2_readBehind_50 : decode cX2_readBehind 50 = .ok (.isub, 1) := by decide +kernel
theorem dX2_readBehind_51 : decode cX2_readBehind 51 = .ok (.iconst 1, 1) := by decide +kernel
theorem dX2_readBehind_52 : decode cX2_readBehind 52 = .ok (.iadd, 1) := by decide +kernel
theorem dX2_readBehind_53 : decode cX2_readBehind 53 = .ok (.goto 4, 3) := by decide +kernel
theorem dX2_readBehind_56 : decode cX2_readBehind 56 = .ok (.iconst 0, 1) := by decide +kernel
theorem dX2_readBehind_57 : decode cX2_readBehind 57 = .ok (.iadd, 1) := by decide +kernel
theorem dX2_readBehind_58 : decode cX2_readBehind 58 = .ok (.putfield 21, 3) := by decide +kernel
theorem dX2_readBehind_61 : decode cX2_readBehind 61 = .ok (.iinc 4 1, 3) := by decide +kernel
theorem dX2_readBehind_64 : decode cX2_readBehind 64 = .ok (.goto (-44), 3) := by decide +kernel
theorem dX2_readBehind_67 : decode cX2_readBehind 67 = .ok (.return_, 1) := by decide +kernel
theorem dX2_readLetters_0 : decode cX2_readLetters 0 = .ok (.aload_n 0, 1) := by decide +kernel
theorem dX2_readLetters_1 : decode cX2_readLetters 1 = .ok (.iconst 0, 1) := by decide +kernel
theorem dX2_readLetters_2 : decode cX2_readLetters 2 = .ok (.putfield 58, 3) := by decide +kernel
theorem dX2_readLetters_5 : decode cX2_readLetters 5 = .ok (.iload_n 2, 1) := by decide +kernel
theorem dX2_readLetters_6 : decode cX2_readLetters 6 = .ok (.istore 4, 2) := by decide +kernel
theorem dX2_readLetters_8 : decode cX2_readLetters 8 = .ok (.iload 4, 2) := by decide +kernel
theorem dX2_readLetters_10 : decode cX2_readLetters 10 = .ok (.iload_n 2, 1) := by decide +kernel
theorem dX2_readLetters_11 : decode cX2_readLetters 11 = .ok (.iconst 3, 1) := by decide +kernel
theorem dX2_readLetters_12 : decode cX2_readLetters 12 = .ok (.iadd, 1) := by decide +kernel
theorem dX2_readLetters_13 : decode cX2_readLetters 13 = .ok (.if_icmp .ge 42, 3) := by decide +kernel
theorem dX2_readLetters_16 : decode cX2_readLetters 16 = .ok (.aload_n 0, 1) := by decide +kernel
theorem dX2_readLetters_17 : decode cX2_readLetters 17 = .ok (.aload_n 0, 1) := by decide +kernel
theorem dX2_readLetters_18 : decode cX2_readLetters 18 = .ok (.getfield 58, 3) := by decide +kernel
theorem dX2_readLetters_21 : decode cX2_readLetters 21 = .ok (.bipush 27, 2) := by decide +kernel
theorem dX2_readLetters_23 : decode cX2_readLetters 23 = .ok (.imul, 1) := by decide +kernel
theorem dX2_readLetters_24 : decode cX2_readLetters 24 = .ok (.iload 4, 2) := by decide +kernel
theorem dX2_readLetters_26 : decode cX2_readLetters 26 = .ok (.iload_n 3, 1) := by decide +kernel
theorem dX2_readLetters_27 : decode cX2_readLetters 27 = .ok (.if_icmp .ge 17, 3) := by decide +kernel
theorem dX2_readLetters_30 : decode cX2_readLetters 30 = .ok (.aload_n 1, 1) := by decide +kernel
theorem dX2_readLetters_31 : decode cX2_readLetters 31 = .ok (.iload 4, 2) := by decide +kernel
theorem dX2_readLetters_33 : decode cX2_readLetters 33 = .ok (.invokevirtual 35, 3) := by decide +kernel
theorem dX2_readLetters_36 : decode cX2_readLetters 36 = .ok (.bipush 97, 2) := by decide +kernel
theorem dX2_readLetters_38 : decode cX2_readLetters 38 = .ok (.isub, 1) := by decide +kernel
theorem dX2_readLetters_39 : decode cX2_readLetters 39 = .ok (.iconst 1, 1) := by decide +kernel
theorem dX2_readLetters_40 : decode cX2_readLetters 40 = .ok (.iadd, 1) := by decide +kernel
theorem dX2_readLetters_41 : decode cX2_readLetters 41 = .ok (.goto 4, 3) := by decide +kernel
theorem dX2_readLetters_44 : decode cX2_readLetters 44 = .ok (.iconst 0, 1) := by decide +kernel
theorem dX2_readLetters_45 : decode cX2_readLetters 45 = .ok (.iadd, 1) := by decide +kernel
theorem dX2_readLetters_46 : decode cX2_readLetters 46 = .ok (.putfield 58, 3) := by decide +kernel
theorem dX2_readLetters_49 : decode cX2_readLetters 49 = .ok (.iinc 4 1, 3) := by decide +kernel
theorem dX2_readLetters_52 : decode cX2_readLetters 52 = .ok (.goto (-44), 3) := by decide +kernel
theorem dX2_readLetters_55 : decode cX2_readLetters 55 = .ok (.return_, 1) := by decide +kernel
theorem dX2_pastDigits_0 : decode cX2_pastDigits 0 = .ok (.iload_n 1, 1) := by decide +kernel
theorem dX2_pastDigits_1 : decode cX2_pastDigits 1 = .ok (.istore_n 2, 1) := by decide +kernel
theorem dX2_pastDigits_2 : decode cX2_pastDigits 2 = .ok (.iload_n 2, 1) := by decide +kernel
theorem dX2_pastDigits_3 : decode cX2_pastDigits 3 = .ok (.iload_n 1, 1) := by decide +kernel
theorem dX2_pastDigits_4 : decode cX2_pastDigits 4 = .ok (.iconst 4, 1) := by decide +kernel
theorem dX2_pastDigits_5 : decode cX2_pastDigits 5 = .ok (.iadd, 1) := by decide +kernel
theorem dX2_pastDigits_6 : decode cX2_pastDigits 6 = .ok (.if_icmp .ge 17, 3) := by decide +kernel
theorem dX2_pastDigits_9 : decode cX2_pastDigits 9 = .ok (.aload_n 0, 1) := by decide +kernel
theorem dX2_pastDigits_10 : decode cX2_pastDigits 10 = .ok (.iload_n 2, 1) := by decide +kernel
theorem dX2_pastDigits_11 : decode cX2_pastDigits 11 = .ok (.invokevirtual 61, 3) := by decide +kernel
theorem dX2_pastDigits_14 : decode cX2_pastDigits 14 = .ok (.ifCond .eq 9, 3) := by decide +kernel
theorem dX2_pastDigits_17 : decode cX2_pastDigits 17 = .ok (.iinc 2 1, 3) := by decide +kernel
theorem dX2_pastDigits_20 : decode cX2_pastDigits 20 = .ok (.goto (-18), 3) := by decide +kernel
theorem dX2_pastDigits_23 : decode cX2_pastDigits 23 = .ok (.iload_n 2, 1) := by decide +kernel
theorem dX2_pastDigits_24 : decode cX2_pastDigits 24 = .ok (.ireturn, 1) := by decide +kernel
theorem dX2_pastLetters_0 : decode cX2_pastLetters 0 = .ok (.iload_n 1, 1) := by decide +kernel
theorem dX2_pastLetters_1 : decode cX2_pastLetters 1 = .ok (.istore_n 2, 1) := by decide +kernel
theorem dX2_pastLetters_2 : decode cX2_pastLetters 2 = .ok (.iload_n 2, 1) := by decide +kernel
theorem dX2_pastLetters_3 : decode cX2_pastLetters 3 = .ok (.iload_n 1, 1) := by decide +kernel
theorem dX2_pastLetters_4 : decode cX2_pastLetters 4 = .ok (.iconst 3, 1) := by decide +kernel
theorem dX2_pastLetters_5 : decode cX2_pastLetters 5 = .ok (.iadd, 1) := by decide +kernel
theorem dX2_pastLetters_6 : decode cX2_pastLetters 6 = .ok (.if_icmp .ge 17, 3) := by decide +kernel
theorem dX2_pastLetters_9 : decode cX2_pastLetters 9 = .ok (.aload_n 0, 1) := by decide +kernel
theorem dX2_pastLetters_10 : decode cX2_pastLetters 10 = .ok (.iload_n 2, 1) := by decide +kernel
theorem dX2_pastLetters_11 : decode cX2_pastLetters 11 = .ok (.invokevirtual 65, 3) := by decide +kernel
theorem dX2_pastLetters_14 : decode cX2_pastLetters 14 = .ok (.ifCond .eq 9, 3) := by decide +kernel
theorem dX2_pastLetters_17 : decode cX2_pastLetters 17 = .ok (.iinc 2 1, 3) := by decide +kernel
theorem dX2_pastLetters_20 : decode cX2_pastLetters 20 = .ok (.goto (-18), 3) := by decide +kernel
theorem dX2_pastLetters_23 : decode cX2_pastLetters 23 = .ok (.iload_n 2, 1) := by decide +kernel
theorem dX2_pastLetters_24 : decode cX2_pastLetters 24 = .ok (.ireturn, 1) := by decide +kernel
theorem dX2_valueOf_0 : decode cX2_valueOf 0 = .ok (.iconst 0, 1) := by decide +kernel
theorem dX2_valueOf_1 : decode cX2_valueOf 1 = .ok (.istore_n 3, 1) := by decide +kernel
theorem dX2_valueOf_2 : decode cX2_valueOf 2 = .ok (.iload_n 1, 1) := by decide +kernel
theorem dX2_valueOf_3 : decode cX2_valueOf 3 = .ok (.istore 4, 2) := by decide +kernel
theorem dX2_valueOf_5 : decode cX2_valueOf 5 = .ok (.iload 4, 2) := by decide +kernel
theorem dX2_valueOf_7 : decode cX2_valueOf 7 = .ok (.iload_n 2, 1) := by decide +kernel
theorem dX2_valueOf_8 : decode cX2_valueOf 8 = .ok (.if_icmp .ge 24, 3) := by decide +kernel
theorem dX2_valueOf_11 : decode cX2_valueOf 11 = .ok (.iload_n 3, 1) := by decide +kernel
theorem dX2_valueOf_12 : decode cX2_valueOf 12 = .ok (.bipush 10, 2) := by decide +kernel
theorem dX2_valueOf_14 : decode cX2_valueOf 14 = .ok (.imul, 1) := by decide +kernel
theorem dX2_valueOf_15 : decode cX2_valueOf 15 = .ok (.aload_n 0, 1) := by decide +kernel
theorem dX2_valueOf_16 : decode cX2_valueOf 16 = .ok (.iload 4, 2) := by decide +kernel
theorem dX2_valueOf_18 : decode cX2_valueOf 18 = .ok (.invokevirtual 35, 3) := by decide +kernel
theorem dX2_valueOf_21 : decode cX2_valueOf 21 = .ok (.iadd, 1) := by decide +kernel
theorem dX2_valueOf_22 : decode cX2_valueOf 22 = .ok (.bipush 48, 2) := by decide +kernel
theorem dX2_valueOf_24 : decode cX2_valueOf 24 = .ok (.isub, 1) := by decide +kernel
theorem dX2_valueOf_25 : decode cX2_valueOf 25 = .ok (.istore_n 3, 1) := by decide +kernel
theorem dX2_valueOf_26 : decode cX2_valueOf 26 = .ok (.iinc 4 1, 3) := by decide +kernel
theorem dX2_valueOf_29 : decode cX2_valueOf 29 = .ok (.goto (-24), 3) := by decide +kernel
theorem dX2_valueOf_32 : decode cX2_valueOf 32 = .ok (.iload_n 3, 1) := by decide +kernel
theorem dX2_valueOf_33 : decode cX2_valueOf 33 = .ok (.ireturn, 1) := by decide +kernel
theorem dX3_init_0 : decode cX3_init 0 = .ok (.aload_n 0, 1) := by decide +kernel
theorem dX3_init_1 : decode cX3_init 1 = .ok (.invokespecial 3, 3) := by decide +kernel
theorem dX3_init_4 : decode cX3_init 4 = .ok (.aload_n 0, 1) := by decide +kernel
theorem dX3_init_5 : decode cX3_init 5 = .ok (.bipush 60, 2) := by decide +kernel
theorem dX3_init_7 : decode cX3_init 7 = .ok (.newarray .int, 2) := by decide +kernel
theorem dX3_init_9 : decode cX3_init 9 = .ok (.putfield 9, 3) := by decide +kernel
theorem dX3_init_12 : decode cX3_init 12 = .ok (.aload_n 0, 1) := by decide +kernel
theorem dX3_init_13 : decode cX3_init 13 = .ok (.bipush 60, 2) := by decide +kernel
theorem dX3_init_15 : decode cX3_init 15 = .ok (.newarray .boolean, 2) := by decide +kernel
theorem dX3_init_17 : decode cX3_init 17 = .ok (.putfield 15, 3) := by decide +kernel
theorem dX3_init_20 : decode cX3_init 20 = .ok (.aload_n 0, 1) := by decide +kernel
theorem dX3_init_21 : decode cX3_init 21 = .ok (.bipush 60, 2) := by decide +kernel
theorem dX3_init_23 : decode cX3_init 23 = .ok (.newarray .int, 2) := by decide +kernel
theorem dX3_init_25 : decode cX3_init 25 = .ok (.putfield 19, 3) := by decide +kernel
theorem dX3_init_28 : decode cX3_init 28 = .ok (.aload_n 0, 1) := by decide +kernel
theorem dX3_init_29 : decode cX3_init 29 = .ok (.bipush 60, 2) := by decide +kernel
theorem dX3_init_31 : decode cX3_init 31 = .ok (.newarray .int, 2) := by decide +kernel
theorem dX3_init_33 : decode cX3_init 33 = .ok (.putfield 22, 3) := by decide +kernel
theorem dX3_init_36 : decode cX3_init 36 = .ok (.aload_n 0, 1) := by decide +kernel
theorem dX3_init_37 : decode cX3_init 37 = .ok (.iconst 0, 1) := by decide +kernel
theorem dX3_init_38 : decode cX3_init 38 = .ok (.putfield 25, 3) := by decide +kernel
theorem dX3_init_41 : decode cX3_init 41 = .ok (.aload_n 0, 1) := by decide +kernel
theorem dX3_init_42 : decode cX3_init 42 = .ok (.iconst 0, 1) := by decide +kernel
theorem dX3_init_43 : decode cX3_init 43 = .ok (.putfield 29, 3) := by decide +kernel
theorem dX3_init_46 : decode cX3_init 46 = .ok (.return_, 1) := by decide +kernel
theorem dX3_has_0 : decode cX3_has 0 = .ok (.iload_n 1, 1) := by decide +kernel
theorem dX3_has_1 : decode cX3_has 1 = .ok (.iconst 0, 1) := by decide +kernel
theorem dX3_has_2 : decode cX3_has 2 = .ok (.aload_n 0, 1) := by decide +kernel
theorem dX3_has_3 : decode cX3_has 3 = .ok (.getfield 25, 3) := by decide +kernel
theorem dX3_has_6 : decode cX3_has 6 = .ok (.iconst 1, 1) := by decide +kernel
theorem dX3_has_7 : decode cX3_has 7 = .ok (.isub, 1) := by decide +kernel
theorem dX3_has_8 : decode cX3_has 8 = .ok (.invokestatic 32, 3) := by decide +kernel
theorem dX3_has_11 : decode cX3_has 11 = .ok (.ireturn, 1) := by decide +kernel
theorem dX3_fill_0 : decode cX3_fill 0 = .ok (.aload_n 0, 1) := by decide +kernel
theorem dX3_fill_1 : decode cX3_fill 1 = .ok (.iconst 0, 1) := by decide +kernel
theorem dX3_fill_2 : decode cX3_fill 2 = .ok (.putfield 25, 3) := by decide +kernel
theorem dX3_fill_5 : decode cX3_fill 5 = .ok (.iconst 0, 1) := by decide +kernel
theorem dX3_fill_6 : decode cX3_fill 6 = .ok (.istore 4, 2) := by decide +kernel
theorem dX3_fill_8 : decode cX3_fill 8 = .ok (.iload 4, 2) := by decide +kernel
theorem dX3_fill_10 : decode cX3_fill 10 = .ok (.iload_n 2, 1) := by decide +kernel
theorem dX3_fill_11 : decode cX3_fill 11 = .ok (.if_icmp .ge 42, 3) := by decide +kernel
theorem dX3_fill_14 : decode cX3_fill 14 = .ok (.aload_n 3, 1) := by decide +kernel
theorem dX3_fill_15 : decode cX3_fill 15 = .ok (.aload_n 1, 1) := by decide +kernel
theorem dX3_fill_16 : decode cX3_fill 16 = .ok (.iload 4, 2) := by decide +kernel
theorem dX3_fill_18 : decode cX3_fill 18 = .ok (.iaload, 1) := by decide +kernel
theorem dX3_fill_19 : decode cX3_fill 19 = .ok (.iaload, 1) := by decide +kernel
theorem dX3_fill_20 : decode cX3_fill 20 = .ok (.iconst (-1), 1) := by decide +kernel
theorem dX3_fill_21 : decode cX3_fill 21 = .ok (.if_icmp .eq 26, 3) := by decide +kernel
theorem dX3_fill_24 : decode cX3_fill 24 = .ok (.aload_n 0, 1) := by decide +kernel
theorem dX3_fill_25 : decode cX3_fill 25 = .ok (.getfield 9, 3) := by decide +kernel
theorem dX3_fill_28 : decode cX3_fill 28 = .ok (.aload_n 0, 1) := by decide +kernel
theorem dX3_fill_29 : decode cX3_fill 29 = .ok (.getfield 25, 3) := by decide +kernel
theorem dX3_fill_32 : decode cX3_fill 32 = .ok (.aload_n 1, 1) := by decide +kernel
theorem dX3_fill_33 : decode cX3_fill 33 = .ok (.iload 4, 2) := by decide +kernel
theorem dX3_fill_35 : decode cX3_fill 35 = .ok (.iaload, 1) := by decide +kernel
theorem dX3_fill_36 : decode cX3_fill 36 = .ok (.iastore, 1) := by decide +kernel
theorem dX3_fill_37 : decode cX3_fill 37 = .ok (.aload_n 0, 1) := by decide +kernel
theorem dX3_fill_38 : decode cX3_fill 38 = .ok (.dup, 1) := by decide +kernel
theorem dX3_fill_39 : decode cX3_fill 39 = .ok (.getfield 25, 3) := by decide +kernel
theorem dX3_fill_42 : decode cX3_fill 42 = .ok (.iconst 1, 1) := by decide +kernel
theorem dX3_fill_43 : decode cX3_fill 43 = .ok (.iadd, 1) := by decide +kernel
theorem dX3_fill_44 : decode cX3_fill 44 = .ok (.putfield 25, 3) := by decide +kernel
theorem dX3_fill_47 : decode cX3_fill 47 = .ok (.iinc 4 1, 3) := by decide +kernel
theorem dX3_fill_50 : decode cX3_fill 50 = .ok (.goto (-42), 3) := by decide +kernel
theorem dX3_fill_53 : decode cX3_fill 53 = .ok (.return_, 1) := by decide +kernel
theorem dX3_carry_0 : decode cX3_carry 0 = .ok (.aload_n 0, 1) := by decide +kernel
theorem dX3_carry_1 : decode cX3_carry 1 = .ok (.getfield 9, 3) := by decide +kernel
theorem dX3_carry_4 : decode cX3_carry 4 = .ok (.iload_n 1, 1) := by decide +kernel
theorem dX3_carry_5 : decode cX3_carry 5 = .ok (.iaload, 1) := by decide +kernel
theorem dX3_carry_6 : decode cX3_carry 6 = .ok (.istore_n 3, 1) := by decide +kernel
theorem dX3_carry_7 : decode cX3_carry 7 = .ok (.iload_n 1, 1) := by decide +kernel
theorem dX3_carry_8 : decode cX3_carry 8 = .ok (.istore 4, 2) := by decide +kernel
theorem dX3_carry_10 : decode cX3_carry 10 = .ok (.iload 4, 2) := by decide +kernel
theorem dX3_carry_12 : decode cX3_carry 12 = .ok (.iload_n 2, 1) := by decide +kernel
theorem dX3_carry_13 : decode cX3_carry 13 = .ok (.if_icmp .ge 25, 3) := by decide +kernel
theorem dX3_carry_16 : decode cX3_carry 16 = .ok (.aload_n 0, 1) := by decide +kernel
theorem dX3_carry_17 : decode cX3_carry 17 = .ok (.getfield 9, 3) := by decide +kernel
theorem dX3_carry_20 : decode cX3_carry 20 = .ok (.iload 4, 2) := by decide +kernel
theorem dX3_carry_22 : decode cX3_carry 22 = .ok (.aload_n 0, 1) := by decide +kernel
theorem dX3_carry_23 : decode cX3_carry 23 = .ok (.getfield 9, 3) := by decide +kernel
theorem dX3_carry_26 : decode cX3_carry 26 = .ok (.iload 4, 2) := by decide +kernel
theorem dX3_carry_28 : decode cX3_carry 28 = .ok (.iconst 1, 1) := by decide +kernel
theorem dX3_carry_29 : decode cX3_carry 29 = .ok (.iadd, 1) := by decide +kernel
theorem dX3_carry_30 : decode cX3_carry 30 = .ok (.iaload, 1) := by decide +kernel
theorem dX3_carry_31 : decode cX3_carry 31 = .ok (.iastore, 1) := by decide +kernel
theorem dX3_carry_32 : decode cX3_carry 32 = .ok (.iinc 4 1, 3) := by decide +kernel
theorem dX3_carry_35 : decode cX3_carry 35 = .ok (.goto (-25), 3) := by decide +kernel
theorem dX3_carry_38 : decode cX3_carry 38 = .ok (.iload_n 1, 1) := by decide +kernel
theorem dX3_carry_39 : decode cX3_carry 39 = .ok (.istore 4, 2) := by decide +kernel
theorem dX3_carry_41 : decode cX3_carry 41 = .ok (.iload 4, 2) := by decide +kernel
theorem dX3_carry_43 : decode cX3_carry 43 = .ok (.iload_n 2, 1) := by decide +kernel
theorem dX3_carry_44 : decode cX3_carry 44 = .ok (.if_icmp .le 25, 3) := by decide +kernel
theorem dX3_carry_47 : decode cX3_carry 47 = .ok (.aload_n 0, 1) := by decide +kernel
theorem dX3_carry_48 : decode cX3_carry 48 = .ok (.getfield 9, 3) := by decide +kernel
theorem dX3_carry_51 : decode cX3_carry 51 = .ok (.iload 4, 2) := by decide +kernel
theorem dX3_carry_53 : decode cX3_carry 53 = .ok (.aload_n 0, 1) := by decide +kernel
theorem dX3_carry_54 : decode cX3_carry 54 = .ok (.getfield 9, 3) := by decide +kernel
theorem dX3_carry_57 : decode cX3_carry 57 = .ok (.iload 4, 2) := by decide +kernel
theorem dX3_carry_59 : decode cX3_carry 59 = .ok (.iconst 1, 1) := by decide +kernel
theorem dX3_carry_60 : decode cX3_carry 60 = .ok (.isub, 1) := by decide +kernel
theorem dX3_carry_61 : decode cX3_carry 61 = .ok (.iaload, 1) := by decide +kernel
theorem dX3_carry_62 : decode cX3_carry 62 = .ok (.iastore, 1) := by decide +kernel
theorem dX3_carry_63 : decode cX3_carry 63 = .ok (.iinc 4 (-1), 3) := by decide +kernel
theorem dX3_carry_66 : decode cX3_carry 66 = .ok (.goto (-25), 3) := by decide +kernel
theorem dX3_carry_69 : decode cX3_carry 69 = .ok (.aload_n 0, 1) := by decide +kernel
theorem dX3_carry_70 : decode cX3_carry 70 = .ok (.getfield 9, 3) := by decide +kernel
theorem dX3_carry_73 : decode cX3_carry 73 = .ok (.iload_n 2, 1) := by decide +kernel
theorem dX3_carry_74 : decode cX3_carry 74 = .ok (.iload_n 3, 1) := by decide +kernel
theorem dX3_carry_75 : decode cX3_carry 75 = .ok (.iastore, 1) := by decide +kernel
theorem dX3_carry_76 : decode cX3_carry 76 = .ok (.return_, 1) := by decide +kernel
theorem dX3_findOuts_0 : decode cX3_findOuts 0 = .ok (.iconst 0, 1) := by decide +kernel
theorem dX3_findOuts_1 : decode cX3_findOuts 1 = .ok (.istore_n 3, 1) := by decide +kernel
theorem dX3_findOuts_2 : decode cX3_findOuts 2 = .ok (.aload_n 0, 1) := by decide +kernel
theorem dX3_findOuts_3 : decode cX3_findOuts 3 = .ok (.getfield 25, 3) := by decide +kernel
theorem dX3_findOuts_6 : decode cX3_findOuts 6 = .ok (.iconst 1, 1) := by decide +kernel
theorem dX3_findOuts_7 : decode cX3_findOuts 7 = .ok (.isub, 1) := by decide +kernel
theorem dX3_findOuts_8 : decode cX3_findOuts 8 = .ok (.istore 4, 2) := by decide +kernel
theorem dX3_findOuts_10 : decode cX3_findOuts 10 = .ok (.iload 4, 2) := by decide +kernel
theorem dX3_findOuts_12 : decode cX3_findOuts 12 = .ok (.ifCond .lt 38, 3) := by decide +kernel
theorem dX3_findOuts_15 : decode cX3_findOuts 15 = .ok (.aload_n 0, 1) := by decide +kernel
theorem dX3_findOuts_16 : decode cX3_findOuts 16 = .ok (.getfield 19, 3) := by decide +kernel
theorem dX3_findOuts_19 : decode cX3_findOuts 19 = .ok (.iload 4, 2) := by decide +kernel
theorem dX3_findOuts_21 : decode cX3_findOuts 21 = .ok (.iconst 1, 1) := by decide +kernel
theorem dX3_findOuts_22 : decode cX3_findOuts 22 = .ok (.aload_n 0, 1) := by decide +kernel
theorem dX3_findOuts_23 : decode cX3_findOuts 23 = .ok (.iload 4, 2) := by decide +kernel
theorem dX3_findOuts_25 : decode cX3_findOuts 25 = .ok (.aload_n 1, 1) := by decide +kernel
theorem dX3_findOuts_26 : decode cX3_findOuts 26 = .ok (.iload_n 2, 1) := by decide +kernel
theorem dX3_findOuts_27 : decode cX3_findOuts 27 = .ok (.invokevirtual 36, 3) := by decide +kernel
theorem dX3_findOuts_30 : decode cX3_findOuts 30 = .ok (.iadd, 1) := by decide +kernel
theorem dX3_findOuts_31 : decode cX3_findOuts 31 = .ok (.iastore, 1) := by decide +kernel
theorem dX3_findOuts_32 : decode cX3_findOuts 32 = .ok (.iload_n 3, 1) := by decide +kernel
theorem dX3_findOuts_33 : decode cX3_findOuts 33 = .ok (.aload_n 0, 1) := by decide +kernel
theorem dX3_findOuts_34 : decode cX3_findOuts 34 = .ok (.getfield 19, 3) := by decide +kernel
theorem dX3_findOuts_37 : decode cX3_findOuts 37 = .ok (.iload 4, 2) := by decide +kernel
theorem dX3_findOuts_39 : decode cX3_findOuts 39 = .ok (.iaload, 1) := by decide +kernel
theorem dX3_findOuts_40 : decode cX3_findOuts 40 = .ok (.invokestatic 40, 3) := by decide +kernel
theorem dX3_findOuts_43 : decode cX3_findOuts 43 = .ok (.istore_n 3, 1) := by decide +kernel
theorem dX3_findOuts_44 : decode cX3_findOuts 44 = .ok (.iinc 4 (-1), 3) := by decide +kernel
theorem dX3_findOuts_47 : decode cX3_findOuts 47 = .ok (.goto (-37), 3) := by decide +kernel
theorem dX3_findOuts_50 : decode cX3_findOuts 50 = .ok (.aload_n 0, 1) := by decide +kernel
theorem dX3_findOuts_51 : decode cX3_findOuts 51 = .ok (.aload_n 0, 1) := by decide +kernel
theorem dX3_findOuts_52 : decode cX3_findOuts 52 = .ok (.getfield 25, 3) := by decide +kernel
theorem dX3_findOuts_55 : decode cX3_findOuts 55 = .ok (.iload_n 3, 1) := by decide +kernel
theorem dX3_findOuts_56 : decode cX3_findOuts 56 = .ok (.isub, 1) := by decide +kernel
theorem dX3_findOuts_57 : decode cX3_findOuts 57 = .ok (.putfield 29, 3) := by decide +kernel
theorem dX3_findOuts_60 : decode cX3_findOuts 60 = .ok (.iload_n 3, 1) := by decide +kernel
theorem dX3_findOuts_61 : decode cX3_findOuts 61 = .ok (.istore 4, 2) := by decide +kernel
theorem dX3_findOuts_63 : decode cX3_findOuts 63 = .ok (.iconst (-1), 1) := by decide +kernel
theorem dX3_findOuts_64 : decode cX3_findOuts 64 = .ok (.istore 5, 2) := by decide +kernel
theorem dX3_findOuts_66 : decode cX3_findOuts 66 = .ok (.iconst 0, 1) := by decide +kernel
theorem dX3_findOuts_67 : decode cX3_findOuts 67 = .ok (.istore 6, 2) := by decide +kernel
theorem dX3_findOuts_69 : decode cX3_findOuts 69 = .ok (.iload 6, 2) := by decide +kernel
theorem dX3_findOuts_71 : decode cX3_findOuts 71 = .ok (.aload_n 0, 1) := by decide +kernel
theorem dX3_findOuts_72 : decode cX3_findOuts 72 = .ok (.getfield 25, 3) := by decide +kernel
theorem dX3_findOuts_75 : decode cX3_findOuts 75 = .ok (.if_icmp .ge 85, 3) := by decide +kernel
theorem dX3_findOuts_78 : decode cX3_findOuts 78 = .ok (.aload_n 0, 1) := by decide +kernel
theorem dX3_findOuts_79 : decode cX3_findOuts 79 = .ok (.getfield 19, 3) := by decide +kernel
theorem dX3_findOuts_82 : decode cX3_findOuts 82 = .ok (.iload 6, 2) := by decide +kernel
theorem dX3_findOuts_84 : decode cX3_findOuts 84 = .ok (.iaload, 1) := by decide +kernel
theorem dX3_findOuts_85 : decode cX3_findOuts 85 = .ok (.iload 4, 2) := by decide +kernel
theorem dX3_findOuts_87 : decode cX3_findOuts 87 = .ok (.if_icmp .ne 30, 3) := by decide +kernel
theorem dX3_findOuts_90 : decode cX3_findOuts 90 = .ok (.iload 5, 2) := by decide +kernel
theorem dX3_findOuts_92 : decode cX3_findOuts 92 = .ok (.iconst (-1), 1) := by decide +kernel
theorem dX3_findOuts_93 : decode cX3_findOuts 93 = .ok (.if_icmp .eq 20, 3) := by decide +kernel
theorem dX3_findOuts_96 : decode cX3_findOuts 96 = .ok (.aload_n 1, 1) := by decide +kernel
theorem dX3_findOuts_97 : decode cX3_findOuts 97 = .ok (.iload 5, 2) := by decide +kernel
theorem dX3_findOuts_99 : decode cX3_findOuts 99 = .ok (.aload_n 0, 1) := by decide +kernel
theorem dX3_findOuts_100 : decode cX3_findOuts 100 = .ok (.getfield 9, 3) := by decide +kernel
theorem dX3_findOuts_103 : decode cX3_findOuts 103 = .ok (.iload 6, 2) := by decide +kernel
theorem dX3_findOuts_105 : decode cX3_findOuts 105 = .ok (.iaload, 1) := by decide +kernel
theorem dX3_findOuts_106 : decode cX3_findOuts 106 = .ok (.iload_n 2, 1) := by decide +kernel
theorem dX3_findOuts_107 : decode cX3_findOuts 107 = .ok (.invokevirtual 46, 3) := by decide +kernel
theorem dX3_findOuts_110 : decode cX3_findOuts 110 = .ok (.ifCond .ge 7, 3) := by decide +kernel
theorem dX3_findOuts_113 : decode cX3_findOuts 113 = .ok (.iconst 1, 1) := by decide +kernel
theorem dX3_findOuts_114 : decode cX3_findOuts 114 = .ok (.goto 4, 3) := by decide +kernel
theorem dX3_findOuts_117 : decode cX3_findOuts 117 = .ok (.iconst 0, 1) := by decide +kernel
theorem dX3_findOuts_118 : decode cX3_findOuts 118 = .ok (.istore 7, 2) := by decide +kernel
theorem dX3_findOuts_120 : decode cX3_findOuts 120 = .ok (.aload_n 0, 1) := by decide +kernel
theorem dX3_findOuts_121 : decode cX3_findOuts 121 = .ok (.getfield 15, 3) := by decide +kernel
theorem dX3_findOuts_124 : decode cX3_findOuts 124 = .ok (.iload 6, 2) := by decide +kernel
theorem dX3_findOuts_126 : decode cX3_findOuts 126 = .ok (.iload 7, 2) := by decide +kernel
theorem dX3_findOuts_128 : decode cX3_findOuts 128 = .ok (.ifCond .ne 7, 3) := by decide +kernel
theorem dX3_findOuts_131 : decode cX3_findOuts 131 = .ok (.iconst 1, 1) := by decide +kernel
theorem dX3_findOuts_132 : decode cX3_findOuts 132 = .ok (.goto 4, 3) := by decide +kernel
theorem dX3_findOuts_135 : decode cX3_findOuts 135 = .ok (.iconst 0, 1) := by decide +kernel
theorem dX3_findOuts_136 : decode cX3_findOuts 136 = .ok (.bastore, 1) := by decide +kernel
theorem dX3_findOuts_137 : decode cX3_findOuts 137 = .ok (.iload 7, 2) := by decide +kernel
theorem dX3_findOuts_139 : decode cX3_findOuts 139 = .ok (.ifCond .eq 15, 3) := by decide +kernel
theorem dX3_findOuts_142 : decode cX3_findOuts 142 = .ok (.aload_n 0, 1) := by decide +kernel
theorem dX3_findOuts_143 : decode cX3_findOuts 143 = .ok (.getfield 9, 3) := by decide +kernel
theorem dX3_findOuts_146 : decode cX3_findOuts 146 = .ok (.iload 6, 2) := by decide +kernel
theorem dX3_findOuts_148 : decode cX3_findOuts 148 = .ok (.iaload, 1) := by decide +kernel
theorem dX3_findOuts_149 : decode cX3_findOuts 149 = .ok (.istore 5, 2) := by decide +kernel
theorem dX3_findOuts_151 : decode cX3_findOuts 151 = .ok (.iinc 4 (-1), 3) := by decide +kernel
theorem dX3_findOuts_154 : decode cX3_findOuts 154 = .ok (.iinc 6 1, 3) := by decide +kernel
theorem dX3_findOuts_157 : decode cX3_findOuts 157 = .ok (.goto (-88), 3) := by decide +kernel
theorem dX3_findOuts_160 : decode cX3_findOuts 160 = .ok (.return_, 1) := by decide +kernel
theorem dX3_mostBehind_0 : decode cX3_mostBehind 0 = .ok (.iconst 0, 1) := by decide +kernel
theorem dX3_mostBehind_1 : decode cX3_mostBehind 1 = .ok (.istore 4, 2) := by decide +kernel
theorem dX3_mostBehind_3 : decode cX3_mostBehind 3 = .ok (.iload_n 1, 1) := by decide +kernel
theorem dX3_mostBehind_4 : decode cX3_mostBehind 4 = .ok (.iconst 1, 1) := by decide +kernel
theorem dX3_mostBehind_5 : decode cX3_mostBehind 5 = .ok (.iadd, 1) := by decide +kernel
theorem dX3_mostBehind_6 : decode cX3_mostBehind 6 = .ok (.istore 5, 2) := by decide +kernel
theorem dX3_mostBehind_8 : decode cX3_mostBehind 8 = .ok (.iload 5, 2) := by decide +kernel
theorem dX3_mostBehind_10 : decode cX3_mostBehind 10 = .ok (.aload_n 0, 1) := by decide +kernel
theorem dX3_mostBehind_11 : decode cX3_mostBehind 11 = .ok (.getfield 25, 3) := by decide +kernel
theorem dX3_mostBehind_14 : decode cX3_mostBehind 14 = .ok (.if_icmp .ge 51, 3) := by decide +kernel
theorem dX3_mostBehind_17 : decode cX3_mostBehind 17 = .ok (.aload_n 0, 1) := by decide +kernel
theorem dX3_mostBehind_18 : decode cX3_mostBehind 18 = .ok (.getfield 19, 3) := by decide +kernel
theorem dX3_mostBehind_21 : decode cX3_mostBehind 21 = .ok (.iload 5, 2) := by decide +kernel
theorem dX3_mostBehind_23 : decode cX3_mostBehind 23 = .ok (.iaload, 1) := by decide +kernel
theorem dX3_mostBehind_24 : decode cX3_mostBehind 24 = .ok (.iload 4, 2) := by decide +kernel
theorem dX3_mostBehind_26 : decode cX3_mostBehind 26 = .ok (.if_icmp .le 33, 3) := by decide +kernel
theorem dX3_mostBehind_29 : decode cX3_mostBehind 29 = .ok (.aload_n 2, 1) := by decide +kernel
theorem dX3_mostBehind_30 : decode cX3_mostBehind 30 = .ok (.aload_n 0, 1) := by decide +kernel
theorem dX3_mostBehind_31 : decode cX3_mostBehind 31 = .ok (.getfield 9, 3) := by decide +kernel
theorem dX3_mostBehind_34 : decode cX3_mostBehind 34 = .ok (.iload_n 1, 1) := by decide +kernel
theorem dX3_mostBehind_35 : decode cX3_mostBehind 35 = .ok (.iaload, 1) := by decide +kernel
theorem dX3_mostBehind_36 : decode cX3_mostBehind 36 = .ok (.aload_n 0, 1) := by decide +kernel
theorem dX3_mostBehind_37 : decode cX3_mostBehind 37 = .ok (.getfield 9, 3) := by decide +kernel
theorem dX3_mostBehind_40 : decode cX3_mostBehind 40 = .ok (.iload 5, 2) := by decide +kernel
theorem dX3_mostBehind_42 : decode cX3_mostBehind 42 = .ok (.iaload, 1) := by decide +kernel
theorem dX3_mostBehind_43 : decode cX3_mostBehind 43 = .ok (.iload_n 3, 1) := by decide +kernel
theorem dX3_mostBehind_44 : decode cX3_mostBehind 44 = .ok (.invokevirtual 46, 3) := by decide +kernel
theorem dX3_mostBehind_47 : decode cX3_mostBehind 47 = .ok (.ifCond .ge 12, 3) := by decide +kernel
theorem dX3_mostBehind_50 : decode cX3_mostBehind 50 = .ok (.aload_n 0, 1) := by decide +kernel
theorem dX3_mostBehind_51 : decode cX3_mostBehind 51 = .ok (.getfield 19, 3) := by decide +kernel
theorem dX3_mostBehind_54 : decode cX3_mostBehind 54 = .ok (.iload 5, 2) := by decide +kernel
theorem dX3_mostBehind_56 : decode cX3_mostBehind 56 = .ok (.iaload, 1) := by decide +kernel
theorem dX3_mostBehind_57 : decode cX3_mostBehind 57 = .ok (.istore 4, 2) := by decide +kernel
theorem dX3_mostBehind_59 : decode cX3_mostBehind 59 = .ok (.iinc 5 1, 3) := by decide +kernel
theorem dX3_mostBehind_62 : decode cX3_mostBehind 62 = .ok (.goto (-54), 3) := by decide +kernel
theorem dX3_mostBehind_65 : decode cX3_mostBehind 65 = .ok (.iload 4, 2) := by decide +kernel
theorem dX3_mostBehind_67 : decode cX3_mostBehind 67 = .ok (.ireturn, 1) := by decide +kernel
theorem dX3_draw_0 : decode cX3_draw 0 = .ok (.aload_n 0, 1) := by decide +kernel
theorem dX3_draw_1 : decode cX3_draw 1 = .ok (.getfield 25, 3) := by decide +kernel
theorem dX3_draw_4 : decode cX3_draw 4 = .ok (.iconst 1, 1) := by decide +kernel
theorem dX3_draw_5 : decode cX3_draw 5 = .ok (.isub, 1) := by decide +kernel
theorem dX3_draw_6 : decode cX3_draw 6 = .ok (.istore 5, 2) := by decide +kernel
theorem dX3_draw_8 : decode cX3_draw 8 = .ok (.iconst 0, 1) := by decide +kernel
theorem dX3_draw_9 : decode cX3_draw 9 = .ok (.istore 6, 2) := by decide +kernel
theorem dX3_draw_11 : decode cX3_draw 11 = .ok (.iload 6, 2) := by decide +kernel
theorem dX3_draw_13 : decode cX3_draw 13 = .ok (.iload 5, 2) := by decide +kernel
theorem dX3_draw_15 : decode cX3_draw 15 = .ok (.if_icmp .ge 18, 3) := by decide +kernel
theorem dX3_draw_18 : decode cX3_draw 18 = .ok (.aload_n 0, 1) := by decide +kernel
theorem dX3_draw_19 : decode cX3_draw 19 = .ok (.getfield 22, 3) := by decide +kernel
theorem dX3_draw_22 : decode cX3_draw 22 = .ok (.iload 6, 2) := by decide +kernel
theorem dX3_draw_24 : decode cX3_draw 24 = .ok (.iload 6, 2) := by decide +kernel
theorem dX3_draw_26 : decode cX3_draw 26 = .ok (.iastore, 1) := by decide +kernel
theorem dX3_draw_27 : decode cX3_draw 27 = .ok (.iinc 6 1, 3) := by decide +kernel
theorem dX3_draw_30 : decode cX3_draw 30 = .ok (.goto (-19), 3) := by decide +kernel
theorem dX3_draw_33 : decode cX3_draw 33 = .ok (.iload_n 2, 1) := by decide +kernel
theorem dX3_draw_34 : decode cX3_draw 34 = .ok (.istore 6, 2) := by decide +kernel
theorem dX3_draw_36 : decode cX3_draw 36 = .ok (.iconst 0, 1) := by decide +kernel
theorem dX3_draw_37 : decode cX3_draw 37 = .ok (.istore 7, 2) := by decide +kernel
theorem dX3_draw_39 : decode cX3_draw 39 = .ok (.iconst 0, 1) := by decide +kernel
theorem dX3_draw_40 : decode cX3_draw 40 = .ok (.istore 8, 2) := by decide +kernel
theorem dX3_draw_42 : decode cX3_draw 42 = .ok (.iload 8, 2) := by decide +kernel
theorem dX3_draw_44 : decode cX3_draw 44 = .ok (.iload_n 1, 1) := by decide +kernel
theorem dX3_draw_45 : decode cX3_draw 45 = .ok (.if_icmp .ge 103, 3) := by decide +kernel
theorem dX3_draw_48 : decode cX3_draw 48 = .ok (.iload 8, 2) := by decide +kernel
theorem dX3_draw_50 : decode cX3_draw 50 = .ok (.iload 5, 2) := by decide +kernel
theorem dX3_draw_52 : decode cX3_draw 52 = .ok (.if_icmp .ge 96, 3) := by decide +kernel
theorem dX3_draw_55 : decode cX3_draw 55 = .ok (.iload 6, 2) := by decide +kernel
theorem dX3_draw_57 : decode cX3_draw 57 = .ok (.ldc 52, 2) := by decide +kernel
theorem dX3_draw_59 : decode cX3_draw 59 = .ok (.imul, 1) := by decide +kernel
theorem dX3_draw_60 : decode cX3_draw 60 = .ok (.sipush 12345, 3) := by decide +kernel
theorem dX3_draw_63 : decode cX3_draw 63 = .ok (.iadd, 1) := by decide +kernel
theorem dX3_draw_64 : decode cX3_draw 64 = .ok (.istore 6, 2) := by decide +kernel
theorem dX3_draw_66 : decode cX3_draw 66 = .ok (.iload 8, 2) := by decide +kernel
theorem dX3_draw_68 : decode cX3_draw 68 = .ok (.iload 6, 2) := by decide +kernel
theorem dX3_draw_70 : decode cX3_draw 70 = .ok (.bipush 16, 2) := by decide +kernel
theorem dX3_draw_72 : decode cX3_draw 72 = .ok (.iushr, 1) := by decide +kernel
theorem dX3_draw_73 : decode cX3_draw 73 = .ok (.iload 5, 2) := by decide +kernel
theorem dX3_draw_75 : decode cX3_draw 75 = .ok (.iload 8, 2) := by decide +kernel
theorem dX3_draw_77 : decode cX3_draw 77 = .ok (.isub, 1) := by decide +kernel
theorem dX3_draw_78 : decode cX3_draw 78 = .ok (.irem, 1) := by decide +kernel
theorem dX3_draw_79 : decode cX3_draw 79 = .ok (.iadd, 1) := by decide +kernel
theorem dX3_draw_80 : decode cX3_draw 80 = .ok (.istore 9, 2) := by decide +kernel
theorem dX3_draw_82 : decode cX3_draw 82 = .ok (.aload_n 0, 1) := by decide +kernel
theorem dX3_draw_83 : decode cX3_draw 83 = .ok (.getfield 22, 3) := by decide +kernel
theorem dX3_draw_86 : decode cX3_draw 86 = .ok (.iload 9, 2) := by decide +kernel
theorem dX3_draw_88 : decode cX3_draw 88 = .ok (.iaload, 1) := by decide +kernel
theorem dX3_draw_89 : decode cX3_draw 89 = .ok (.istore 10, 2) := by decide +kernel
theorem dX3_draw_91 : decode cX3_draw 91 = .ok (.aload_n 0, 1) := by decide +kernel
theorem dX3_draw_92 : decode cX3_draw 92 = .ok (.getfield 22, 3) := by decide +kernel
theorem dX3_draw_95 : decode cX3_draw 95 = .ok (.iload 9, 2) := by decide +kernel
theorem dX3_draw_97 : decode cX3_draw 97 = .ok (.aload_n 0, 1) := by decide +kernel
theorem dX3_draw_98 : decode cX3_draw 98 = .ok (.getfield 22, 3) := by decide +kernel
theorem dX3_draw_101 : decode cX3_draw 101 = .ok (.iload 8, 2) := by decide +kernel
theorem dX3_draw_103 : decode cX3_draw 103 = .ok (.iaload, 1) := by decide +kernel
theorem dX3_draw_104 : decode cX3_draw 104 = .ok (.iastore, 1) := by decide +kernel
theorem dX3_draw_105 : decode cX3_draw 105 = .ok (.aload_n 0, 1) := by decide +kernel
theorem dX3_draw_106 : decode cX3_draw 106 = .ok (.getfield 22, 3) := by decide +kernel
theorem dX3_draw_109 : decode cX3_draw 109 = .ok (.iload 8, 2) := by decide +kernel
theorem dX3_draw_111 : decode cX3_draw 111 = .ok (.iload 10, 2) := by decide +kernel
theorem dX3_draw_113 : decode cX3_draw 113 = .ok (.iastore, 1) := by decide +kernel
theorem dX3_draw_114 : decode cX3_draw 114 = .ok (.aload_n 3, 1) := by decide +kernel
theorem dX3_draw_115 : decode cX3_draw 115 = .ok (.aload_n 0, 1) := by decide +kernel
theorem dX3_draw_116 : decode cX3_draw 116 = .ok (.getfield 9, 3) := by decide +kernel
theorem dX3_draw_119 : decode cX3_draw 119 = .ok (.iload 10, 2) := by decide +kernel
theorem dX3_draw_121 : decode cX3_draw 121 = .ok (.iaload, 1) := by decide +kernel
theorem dX3_draw_122 : decode cX3_draw 122 = .ok (.aload_n 0, 1) := by decide +kernel
theorem dX3_draw_123 : decode cX3_draw 123 = .ok (.getfield 9, 3) := by decide +kernel
theorem dX3_draw_126 : decode cX3_draw 126 = .ok (.iload 10, 2) := by decide +kernel
theorem dX3_draw_128 : decode cX3_draw 128 = .ok (.iconst 1, 1) := by decide +kernel
theorem dX3_draw_129 : decode cX3_draw 129 = .ok (.iadd, 1) := by decide +kernel
theorem dX3_draw_130 : decode cX3_draw 130 = .ok (.iaload, 1) := by decide +kernel
theorem dX3_draw_131 : decode cX3_draw 131 = .ok (.iload 4, 2) := by decide +kernel
theorem dX3_draw_133 : decode cX3_draw 133 = .ok (.invokevirtual 46, 3) := by decide +kernel
theorem dX3_draw_136 : decode cX3_draw 136 = .ok (.ifCond .le 6, 3) := by decide +kernel
theorem dX3_draw_139 : decode cX3_draw 139 = .ok (.iinc 7 1, 3) := by decide +kernel
theorem dX3_draw_142 : decode cX3_draw 142 = .ok (.iinc 8 1, 3) := by decide +kernel
theorem dX3_draw_145 : decode cX3_draw 145 = .ok (.goto (-103), 3) := by decide +kernel
theorem dX3_draw_148 : decode cX3_draw 148 = .ok (.iload 7, 2) := by decide +kernel
theorem dX3_draw_150 : decode cX3_draw 150 = .ok (.ireturn, 1) := by decide +kernel
theorem dX4_init_0 : decode cX4_init 0 = .ok (.aload_n 0, 1) := by decide +kernel
theorem dX4_init_1 : decode cX4_init 1 = .ok (.invokespecial 3, 3) := by decide +kernel
theorem dX4_init_4 : decode cX4_init 4 = .ok (.aload_n 0, 1) := by decide +kernel
theorem dX4_init_5 : decode cX4_init 5 = .ok (.bipush 16, 2) := by decide +kernel
theorem dX4_init_7 : decode cX4_init 7 = .ok (.newarray .int, 2) := by decide +kernel
theorem dX4_init_9 : decode cX4_init 9 = .ok (.putfield 9, 3) := by decide +kernel
theorem dX4_init_12 : decode cX4_init 12 = .ok (.aload_n 0, 1) := by decide +kernel
theorem dX4_init_13 : decode cX4_init 13 = .ok (.bipush 10, 2) := by decide +kernel
theorem dX4_init_15 : decode cX4_init 15 = .ok (.newarray .int, 2) := by decide +kernel
theorem dX4_init_17 : decode cX4_init 17 = .ok (.putfield 15, 3) := by decide +kernel
theorem dX4_init_20 : decode cX4_init 20 = .ok (.aload_n 0, 1) := by decide +kernel
theorem dX4_init_21 : decode cX4_init 21 = .ok (.bipush 16, 2) := by decide +kernel
theorem dX4_init_23 : decode cX4_init 23 = .ok (.newarray .int, 2) := by decide +kernel
theorem dX4_init_25 : decode cX4_init 25 = .ok (.putfield 18, 3) := by decide +kernel
theorem dX4_init_28 : decode cX4_init 28 = .ok (.aload_n 0, 1) := by decide +kernel
theorem dX4_init_29 : decode cX4_init 29 = .ok (.bipush 16, 2) := by decide +kernel
theorem dX4_init_31 : decode cX4_init 31 = .ok (.newarray .int, 2) := by decide +kernel
theorem dX4_init_33 : decode cX4_init 33 = .ok (.putfield 21, 3) := by decide +kernel
theorem dX4_init_36 : decode cX4_init 36 = .ok (.aload_n 0, 1) := by decide +kernel
theorem dX4_init_37 : decode cX4_init 37 = .ok (.bipush 60, 2) := by decide +kernel
theorem dX4_init_39 : decode cX4_init 39 = .ok (.newarray .int, 2) := by decide +kernel
theorem dX4_init_41 : decode cX4_init 41 = .ok (.putfield 24, 3) := by decide +kernel
theorem dX4_init_44 : decode cX4_init 44 = .ok (.aload_n 0, 1) := by decide +kernel
theorem dX4_init_45 : decode cX4_init 45 = .ok (.bipush 60, 2) := by decide +kernel
theorem dX4_init_47 : decode cX4_init 47 = .ok (.newarray .int, 2) := by decide +kernel
theorem dX4_init_49 : decode cX4_init 49 = .ok (.putfield 27, 3) := by decide +kernel
theorem dX4_init_52 : decode cX4_init 52 = .ok (.aload_n 0, 1) := by decide +kernel
theorem dX4_init_53 : decode cX4_init 53 = .ok (.iconst 0, 1) := by decide +kernel
theorem dX4_init_54 : decode cX4_init 54 = .ok (.putfield 30, 3) := by decide +kernel
theorem dX4_init_57 : decode cX4_init 57 = .ok (.aload_n 0, 1) := by decide +kernel
theorem dX4_init_58 : decode cX4_init 58 = .ok (.bipush 30, 2) := by decide +kernel
theorem dX4_init_60 : decode cX4_init 60 = .ok (.putfield 34, 3) := by decide +kernel
theorem dX4_init_63 : decode cX4_init 63 = .ok (.aload_n 0, 1) := by decide +kernel
theorem dX4_init_64 : decode cX4_init 64 = .ok (.iconst 0, 1) := by decide +kernel
theorem dX4_init_65 : decode cX4_init 65 = .ok (.putfield 37, 3) := by decide +kernel
theorem dX4_init_68 : decode cX4_init 68 = .ok (.aload_n 0, 1) := by decide +kernel
theorem dX4_init_69 : decode cX4_init 69 = .ok (.iconst 0, 1) := by decide +kernel
theorem dX4_init_70 : decode cX4_init 70 = .ok (.putfield 40, 3) := by decide +kernel
theorem dX4_init_73 : decode cX4_init 73 = .ok (.return_, 1) := by decide +kernel
theorem dX4_add_0 : decode cX4_add 0 = .ok (.aload_n 0, 1) := by decide +kernel
theorem dX4_add_1 : decode cX4_add 1 = .ok (.getfield 30, 3) := by decide +kernel
theorem dX4_add_4 : decode cX4_add 4 = .ok (.bipush 16, 2) := by decide +kernel
theorem dX4_add_6 : decode cX4_add 6 = .ok (.if_icmp .lt 5, 3) := by decide +kernel
theorem dX4_add_9 : decode cX4_add 9 = .ok (.iconst (-1), 1) := by decide +kernel
theorem dX4_add_10 : decode cX4_add 10 = .ok (.ireturn, 1) := by decide +kernel
theorem dX4_add_11 : decode cX4_add 11 = .ok (.aload_n 0, 1) := by decide +kernel
theorem dX4_add_12 : decode cX4_add 12 = .ok (.getfield 9, 3) := by decide +kernel
theorem dX4_add_15 : decode cX4_add 15 = .ok (.aload_n 0, 1) := by decide +kernel
theorem dX4_add_16 : decode cX4_add 16 = .ok (.getfield 30, 3) := by decide +kernel
theorem dX4_add_19 : decode cX4_add 19 = .ok (.iload_n 1, 1) := by decide +kernel
theorem dX4_add_20 : decode cX4_add 20 = .ok (.iastore, 1) := by decide +kernel
theorem dX4_add_21 : decode cX4_add 21 = .ok (.aload_n 0, 1) := by decide +kernel
theorem dX4_add_22 : decode cX4_add 22 = .ok (.dup, 1) := by decide +kernel
theorem dX4_add_23 : decode cX4_add 23 = .ok (.getfield 30, 3) := by decide +kernel
theorem dX4_add_26 : decode cX4_add 26 = .ok (.iconst 1, 1) := by decide +kernel
theorem dX4_add_27 : decode cX4_add 27 = .ok (.iadd, 1) := by decide +kernel
theorem dX4_add_28 : decode cX4_add 28 = .ok (.putfield 30, 3) := by decide +kernel
theorem dX4_add_31 : decode cX4_add 31 = .ok (.aload_n 0, 1) := by decide +kernel
theorem dX4_add_32 : decode cX4_add 32 = .ok (.getfield 30, 3) := by decide +kernel
theorem dX4_add_35 : decode cX4_add 35 = .ok (.iconst 1, 1) := by decide +kernel
theorem dX4_add_36 : decode cX4_add 36 = .ok (.isub, 1) := by decide +kernel
theorem dX4_add_37 : decode cX4_add 37 = .ok (.ireturn, 1) := by decide +kernel
theorem dX4_room_0 : decode cX4_room 0 = .ok (.bipush 100, 2) := by decide +kernel
theorem dX4_room_2 : decode cX4_room 2 = .ok (.aload_n 0, 1) := by decide +kernel
theorem dX4_room_3 : decode cX4_room 3 = .ok (.getfield 9, 3) := by decide +kernel
theorem dX4_room_6 : decode cX4_room 6 = .ok (.iload_n 1, 1) := by decide +kernel
theorem dX4_room_7 : decode cX4_room 7 = .ok (.iaload, 1) := by decide +kernel
theorem dX4_room_8 : decode cX4_room 8 = .ok (.imul, 1) := by decide +kernel
theorem dX4_room_9 : decode cX4_room 9 = .ok (.ireturn, 1) := by decide +kernel
theorem dX4_lay_0 : decode cX4_lay 0 = .ok (.aload_n 0, 1) := by decide +kernel
theorem dX4_lay_1 : decode cX4_lay 1 = .ok (.invokevirtual 43, 3) := by decide +kernel
theorem dX4_lay_4 : decode cX4_lay 4 = .ok (.iconst 0, 1) := by decide +kernel
theorem dX4_lay_5 : decode cX4_lay 5 = .ok (.istore_n 3, 1) := by decide +kernel
theorem dX4_lay_6 : decode cX4_lay 6 = .ok (.iconst 0, 1) := by decide +kernel
theorem dX4_lay_7 : decode cX4_lay 7 = .ok (.istore 4, 2) := by decide +kernel
theorem dX4_lay_9 : decode cX4_lay 9 = .ok (.iload 4, 2) := by decide +kernel
theorem dX4_lay_11 : decode cX4_lay 11 = .ok (.aload_n 1, 1) := by decide +kernel
theorem dX4_lay_12 : decode cX4_lay 12 = .ok (.getfield 46, 3) := by decide +kernel
theorem dX4_lay_15 : decode cX4_lay 15 = .ok (.if_icmp .ge 149, 3) := by decide +kernel
theorem dX4_lay_18 : decode cX4_lay 18 = .ok (.aload_n 1, 1) := by decide +kernel
theorem dX4_lay_19 : decode cX4_lay 19 = .ok (.getfield 49, 3) := by decide +kernel
theorem dX4_lay_22 : decode cX4_lay 22 = .ok (.iload_n 2, 1) := by decide +kernel
theorem dX4_lay_23 : decode cX4_lay 23 = .ok (.aaload, 1) := by decide +kernel
theorem dX4_lay_24 : decode cX4_lay 24 = .ok (.iload 4, 2) := by decide +kernel
theorem dX4_lay_26 : decode cX4_lay 26 = .ok (.iaload, 1) := by decide +kernel
theorem dX4_lay_27 : decode cX4_lay 27 = .ok (.istore 5, 2) := by decide +kernel
theorem dX4_lay_29 : decode cX4_lay 29 = .ok (.aload_n 0, 1) := by decide +kernel
theorem dX4_lay_30 : decode cX4_lay 30 = .ok (.getfield 24, 3) := by decide +kernel
theorem dX4_lay_33 : decode cX4_lay 33 = .ok (.iload 5, 2) := by decide +kernel
theorem dX4_lay_35 : decode cX4_lay 35 = .ok (.iconst (-1), 1) := by decide +kernel
theorem dX4_lay_36 : decode cX4_lay 36 = .ok (.iastore, 1) := by decide +kernel
theorem dX4_lay_37 : decode cX4_lay 37 = .ok (.aload_n 0, 1) := by decide +kernel
theorem dX4_lay_38 : decode cX4_lay 38 = .ok (.getfield 27, 3) := by decide +kernel
theorem dX4_lay_41 : decode cX4_lay 41 = .ok (.iload 5, 2) := by decide +kernel
theorem dX4_lay_43 : decode cX4_lay 43 = .ok (.iconst (-1), 1) := by decide +kernel
theorem dX4_lay_44 : decode cX4_lay 44 = .ok (.iastore, 1) := by decide +kernel
theorem dX4_lay_45 : decode cX4_lay 45 = .ok (.aload_n 1, 1) := by decide +kernel
theorem dX4_lay_46 : decode cX4_lay 46 = .ok (.getfield 53, 3) := by decide +kernel
theorem dX4_lay_49 : decode cX4_lay 49 = .ok (.iload 5, 2) := by decide +kernel
theorem dX4_lay_51 : decode cX4_lay 51 = .ok (.iaload, 1) := by decide +kernel
theorem dX4_lay_52 : decode cX4_lay 52 = .ok (.aload_n 0, 1) := by decide +kernel
theorem dX4_lay_53 : decode cX4_lay 53 = .ok (.getfield 34, 3) := by decide +kernel
theorem dX4_lay_56 : decode cX4_lay 56 = .ok (.if_icmp .le 16, 3) := by decide +kernel
theorem dX4_lay_59 : decode cX4_lay 59 = .ok (.aload_n 0, 1) := by decide +kernel
theorem dX4_lay_60 : decode cX4_lay 60 = .ok (.dup, 1) := by decide +kernel
theorem dX4_lay_61 : decode cX4_lay 61 = .ok (.getfield 37, 3) := by decide +kernel
theorem dX4_lay_64 : decode cX4_lay 64 = .ok (.iconst 1, 1) := by decide +kernel
theorem dX4_lay_65 : decode cX4_lay 65 = .ok (.iadd, 1) := by decide +kernel
theorem dX4_lay_66 : decode cX4_lay 66 = .ok (.putfield 37, 3) := by decide +kernel
theorem dX4_lay_69 : decode cX4_lay 69 = .ok (.goto 89, 3) := by decide +kernel
theorem dX4_lay_72 : decode cX4_lay 72 = .ok (.aload_n 1, 1) := by decide +kernel
theorem dX4_lay_73 : decode cX4_lay 73 = .ok (.getfield 56, 3) := by decide +kernel
theorem dX4_lay_76 : decode cX4_lay 76 = .ok (.iload 5, 2) := by decide +kernel
theorem dX4_lay_78 : decode cX4_lay 78 = .ok (.iaload, 1) := by decide +kernel
theorem dX4_lay_79 : decode cX4_lay 79 = .ok (.bipush 100, 2) := by decide +kernel
theorem dX4_lay_81 : decode cX4_lay 81 = .ok (.aload_n 0, 1) := by decide +kernel
theorem dX4_lay_82 : decode cX4_lay 82 = .ok (.getfield 15, 3) := by decide +kernel
theorem dX4_lay_85 : decode cX4_lay 85 = .ok (.aload_n 1, 1) := by decide +kernel
theorem dX4_lay_86 : decode cX4_lay 86 = .ok (.getfield 59, 3) := by decide +kernel
theorem dX4_lay_89 : decode cX4_lay 89 = .ok (.iload 5, 2) := by decide +kernel
theorem dX4_lay_91 : decode cX4_lay 91 = .ok (.iaload, 1) := by decide +kernel
theorem dX4_lay_92 : decode cX4_lay 92 = .ok (.iaload, 1) := by decide +kernel
theorem dX4_lay_93 : decode cX4_lay 93 = .ok (.iadd, 1) := by decide +kernel
theorem dX4_lay_94 : decode cX4_lay 94 = .ok (.imul, 1) := by decide +kernel
theorem dX4_lay_95 : decode cX4_lay 95 = .ok (.istore 6, 2) := by decide +kernel
theorem dX4_lay_97 : decode cX4_lay 97 = .ok (.iload_n 3, 1) := by decide +kernel
theorem dX4_lay_98 : decode cX4_lay 98 = .ok (.aload_n 0, 1) := by decide +kernel
theorem dX4_lay_99 : decode cX4_lay 99 = .ok (.getfield 30, 3) := by decide +kernel
theorem dX4_lay_102 : decode cX4_lay 102 = .ok (.if_icmp .ge 26, 3) := by decide +kernel
theorem dX4_lay_105 : decode cX4_lay 105 = .ok (.aload_n 0, 1) := by decide +kernel
theorem dX4_lay_106 : decode cX4_lay 106 = .ok (.getfield 21, 3) := by decide +kernel
theorem dX4_lay_109 : decode cX4_lay 109 = .ok (.iload_n 3, 1) := by decide +kernel
theorem dX4_lay_110 : decode cX4_lay 110 = .ok (.iaload, 1) := by decide +kernel
theorem dX4_lay_111 : decode cX4_lay 111 = .ok (.iload 6, 2) := by decide +kernel
theorem dX4_lay_113 : decode cX4_lay 113 = .ok (.iadd, 1) := by decide +kernel
theorem dX4_lay_114 : decode cX4_lay 114 = .ok (.aload_n 0, 1) := by decide +kernel
theorem dX4_lay_115 : decode cX4_lay 115 = .ok (.iload_n 3, 1) := by decide +kernel
theorem dX4_lay_116 : decode cX4_lay 116 = .ok (.invokevirtual 62, 3) := by decide +kernel
theorem dX4_lay_119 : decode cX4_lay 119 = .ok (.if_icmp .le 9, 3) := by decide +kernel
theorem dX4_lay_122 : decode cX4_lay 122 = .ok (.iinc 3 1, 3) := by decide +kernel
theorem dX4_lay_125 : decode cX4_lay 125 = .ok (.goto (-28), 3) := by decide +kernel
theorem dX4_lay_128 : decode cX4_lay 128 = .ok (.iload_n 3, 1) := by decide +kernel
theorem dX4_lay_129 : decode cX4_lay 129 = .ok (.aload_n 0, 1) := by decide +kernel
theorem dX4_lay_130 : decode cX4_lay 130 = .ok (.getfield 30, 3) := by decide +kernel
theorem dX4_lay_133 : decode cX4_lay 133 = .ok (.if_icmp .ge 15, 3) := by decide +kernel
theorem dX4_lay_136 : decode cX4_lay 136 = .ok (.aload_n 0, 1) := by decide +kernel
theorem dX4_lay_137 : decode cX4_lay 137 = .ok (.iload 5, 2) := by decide +kernel
theorem dX4_lay_139 : decode cX4_lay 139 = .ok (.iload 6, 2) := by decide +kernel
theorem dX4_lay_141 : decode cX4_lay 141 = .ok (.iload_n 3, 1) := by decide +kernel
theorem dX4_lay_142 : decode cX4_lay 142 = .ok (.invokevirtual 66, 3) := by decide +kernel
theorem dX4_lay_145 : decode cX4_lay 145 = .ok (.goto 13, 3) := by decide +kernel
theorem dX4_lay_148 : decode cX4_lay 148 = .ok (.aload_n 0, 1) := by decide +kernel
theorem dX4_lay_149 : decode cX4_lay 149 = .ok (.dup, 1) := by decide +kernel
theorem dX4_lay_150 : decode cX4_lay 150 = .ok (.getfield 40, 3) := by decide +kernel
theorem dX4_lay_153 : decode cX4_lay 153 = .ok (.iconst 1, 1) := by decide +kernel
theorem dX4_lay_154 : decode cX4_lay 154 = .ok (.iadd, 1) := by decide +kernel
theorem dX4_lay_155 : decode cX4_lay 155 = .ok (.putfield 40, 3) := by decide +kernel
theorem dX4_lay_158 : decode cX4_lay 158 = .ok (.iinc 4 1, 3) := by decide +kernel
theorem dX4_lay_161 : decode cX4_lay 161 = .ok (.goto (-152), 3) := by decide +kernel
theorem dX4_lay_164 : decode cX4_lay 164 = .ok (.return_, 1) := by decide +kernel
theorem dX4_clear_0 : decode cX4_clear 0 = .ok (.aload_n 0, 1) := by decide +kernel
theorem dX4_clear_1 : decode cX4_clear 1 = .ok (.iconst 0, 1) := by decide +kernel
theorem dX4_clear_2 : decode cX4_clear 2 = .ok (.putfield 37, 3) := by decide +kernel
theorem dX4_clear_5 : decode cX4_clear 5 = .ok (.aload_n 0, 1) := by decide +kernel
theorem dX4_clear_6 : decode cX4_clear 6 = .ok (.iconst 0, 1) := by decide +kernel
theorem dX4_clear_7 : decode cX4_clear 7 = .ok (.putfield 40, 3) := by decide +kernel
theorem dX4_clear_10 : decode cX4_clear 10 = .ok (.iconst 0, 1) := by decide +kernel
theorem dX4_clear_11 : decode cX4_clear 11 = .ok (.istore_n 1, 1) := by decide +kernel
theorem dX4_clear_12 : decode cX4_clear 12 = .ok (.iload_n 1, 1) := by decide +kernel
theorem dX4_clear_13 : decode cX4_clear 13 = .ok (.aload_n 0, 1) := by decide +kernel
theorem dX4_clear_14 : decode cX4_clear 14 = .ok (.getfield 30, 3) := by decide +kernel
theorem dX4_clear_17 : decode cX4_clear 17 = .ok (.if_icmp .ge 23, 3) := by decide +kernel
theorem dX4_clear_20 : decode cX4_clear 20 = .ok (.aload_n 0, 1) := by decide +kernel
theorem dX4_clear_21 : decode cX4_clear 21 = .ok (.getfield 18, 3) := by decide +kernel
theorem dX4_clear_24 : decode cX4_clear 24 = .ok (.iload_n 1, 1) := by decide +kernel
theorem dX4_clear_25 : decode cX4_clear 25 = .ok (.iconst 0, 1) := by decide +kernel
theorem dX4_clear_26 : decode cX4_clear 26 = .ok (.iastore, 1) := by decide +kernel
theorem dX4_clear_27 : decode cX4_clear 27 = .ok (.aload_n 0, 1) := by decide +kernel
theorem dX4_clear_28 : decode cX4_clear 28 = .ok (.getfield 21, 3) := by decide +kernel
theorem dX4_clear_31 : decode cX4_clear 31 = .ok (.iload_n 1, 1) := by decide +kernel
theorem dX4_clear_32 : decode cX4_clear 32 = .ok (.iconst 0, 1) := by decide +kernel
theorem dX4_clear_33 : decode cX4_clear 33 = .ok (.iastore, 1) := by decide +kernel
theorem dX4_clear_34 : decode cX4_clear 34 = .ok (.iinc 1 1, 3) := by decide +kernel
theorem dX4_clear_37 : decode cX4_clear 37 = .ok (.goto (-25), 3) := by decide +kernel
theorem dX4_clear_40 : decode cX4_clear 40 = .ok (.return_, 1) := by decide +kernel
theorem dX4_put_0 : decode cX4_put 0 = .ok (.aload_n 0, 1) := by decide +kernel
theorem dX4_put_1 : decode cX4_put 1 = .ok (.getfield 24, 3) := by decide +kernel
theorem dX4_put_4 : decode cX4_put 4 = .ok (.iload_n 1, 1) := by decide +kernel
theorem dX4_put_5 : decode cX4_put 5 = .ok (.iload_n 3, 1) := by decide +kernel
theorem dX4_put_6 : decode cX4_put 6 = .ok (.iastore, 1) := by decide +kernel
theorem dX4_put_7 : decode cX4_put 7 = .ok (.aload_n 0, 1) := by decide +kernel
theorem dX4_put_8 : decode cX4_put 8 = .ok (.getfield 27, 3) := by decide +kernel
theorem dX4_put_11 : decode cX4_put 11 = .ok (.iload_n 1, 1) := by decide +kernel
theorem dX4_put_12 : decode cX4_put 12 = .ok (.aload_n 0, 1) := by decide +kernel
theorem dX4_put_13 : decode cX4_put 13 = .ok (.getfield 18, 3) := by decide +kernel
theorem dX4_put_16 : decode cX4_put 16 = .ok (.iload_n 3, 1) := by decide +kernel
theorem dX4_put_17 : decode cX4_put 17 = .ok (.iaload, 1) := by decide +kernel
theorem dX4_put_18 : decode cX4_put 18 = .ok (.iastore, 1) := by decide +kernel
theorem dX4_put_19 : decode cX4_put 19 = .ok (.aload_n 0, 1) := by decide +kernel
theorem dX4_put_20 : decode cX4_put 20 = .ok (.getfield 18, 3) := by decide +kernel
theorem dX4_put_23 : decode cX4_put 23 = .ok (.iload_n 3, 1) := by decide +kernel
theorem dX4_put_24 : decode cX4_put 24 = .ok (.dup2, 1) := by decide +kernel
theorem dX4_put_25 : decode cX4_put 25 = .ok (.iaload, 1) := by decide +kernel
theorem dX4_put_26 : decode cX4_put 26 = .ok (.iconst 1, 1) := by decide +kernel
theorem dX4_put_27 : decode cX4_put 27 = .ok (.iadd, 1) := by decide +kernel
theorem dX4_put_28 : decode cX4_put 28 = .ok (.iastore, 1) := by decide +kernel
theorem dX4_put_29 : decode cX4_put 29 = .ok (.aload_n 0, 1) := by decide +kernel
theorem dX4_put_30 : decode cX4_put 30 = .ok (.getfield 21, 3) := by decide +kernel
theorem dX4_put_33 : decode cX4_put 33 = .ok (.iload_n 3, 1) := by decide +kernel
theorem dX4_put_34 : decode cX4_put 34 = .ok (.dup2, 1) := by decide +kernel
theorem dX4_put_35 : decode cX4_put 35 = .ok (.iaload, 1) := by decide +kernel
theorem dX4_put_36 : decode cX4_put 36 = .ok (.iload_n 2, 1) := by decide +kernel
theorem dX4_put_37 : decode cX4_put 37 = .ok (.iadd, 1) := by decide +kernel
theorem dX4_put_38 : decode cX4_put 38 = .ok (.iastore, 1) := by decide +kernel
theorem dX4_put_39 : decode cX4_put 39 = .ok (.return_, 1) := by decide +kernel
theorem dX5_init_0 : decode cX5_init 0 = .ok (.aload_n 0, 1) := by decide +kernel
theorem dX5_init_1 : decode cX5_init 1 = .ok (.invokespecial 3, 3) := by decide +kernel
theorem dX5_init_4 : decode cX5_init 4 = .ok (.aload_n 0, 1) := by decide +kernel
theorem dX5_init_5 : decode cX5_init 5 = .ok (.bipush 20, 2) := by decide +kernel
theorem dX5_init_7 : decode cX5_init 7 = .ok (.newarray .int, 2) := by decide +kernel
theorem dX5_init_9 : decode cX5_init 9 = .ok (.putfield 9, 3) := by decide +kernel
theorem dX5_init_12 : decode cX5_init 12 = .ok (.aload_n 0, 1) := by decide +kernel
theorem dX5_init_13 : decode cX5_init 13 = .ok (.iconst 0, 1) := by decide +kernel
theorem dX5_init_14 : decode cX5_init 14 = .ok (.putfield 15, 3) := by decide +kernel
theorem dX5_init_17 : decode cX5_init 17 = .ok (.return_, 1) := by decide +kernel
theorem dX5_append_0 : decode cX5_append 0 = .ok (.bipush 24, 2) := by decide +kernel
theorem dX5_append_2 : decode cX5_append 2 = .ok (.istore_n 2, 1) := by decide +kernel
theorem dX5_append_3 : decode cX5_append 3 = .ok (.iload_n 2, 1) := by decide +kernel
theorem dX5_append_4 : decode cX5_append 4 = .ok (.ifCond .lt 44, 3) := by decide +kernel
theorem dX5_append_7 : decode cX5_append 7 = .ok (.aload_n 0, 1) := by decide +kernel
theorem dX5_append_8 : decode cX5_append 8 = .ok (.getfield 15, 3) := by decide +kernel
theorem dX5_append_11 : decode cX5_append 11 = .ok (.bipush 20, 2) := by decide +kernel
theorem dX5_append_13 : decode cX5_append 13 = .ok (.if_icmp .ge 35, 3) := by decide +kernel
theorem dX5_append_16 : decode cX5_append 16 = .ok (.aload_n 0, 1) := by decide +kernel
theorem dX5_append_17 : decode cX5_append 17 = .ok (.getfield 9, 3) := by decide +kernel
theorem dX5_append_20 : decode cX5_append 20 = .ok (.aload_n 0, 1) := by decide +kernel
theorem dX5_append_21 : decode cX5_append 21 = .ok (.getfield 15, 3) := by decide +kernel
theorem dX5_append_24 : decode cX5_append 24 = .ok (.iload_n 1, 1) := by decide +kernel
theorem dX5_append_25 : decode cX5_append 25 = .ok (.iload_n 2, 1) := by decide +kernel
theorem dX5_append_26 : decode cX5_append 26 = .ok (.iushr, 1) := by decide +kernel
theorem dX5_append_27 : decode cX5_append 27 = .ok (.sipush 255, 3) := by decide +kernel
theorem dX5_append_30 : decode cX5_append 30 = .ok (.iand, 1) := by decide +kernel
theorem dX5_append_31 : decode cX5_append 31 = .ok (.iastore, 1) := by decide +kernel
theorem dX5_append_32 : decode cX5_append 32 = .ok (.aload_n 0, 1) := by decide +kernel
theorem dX5_append_33 : decode cX5_append 33 = .ok (.dup, 1) := by decide +kernel
theorem dX5_append_34 : decode cX5_append 34 = .ok (.getfield 15, 3) := by decide +kernel
theorem dX5_append_37 : decode cX5_append 37 = .ok (.iconst 1, 1) := by decide +kernel
theorem dX5_append_38 : decode cX5_append 38 = .ok (.iadd, 1) := by decide +kernel
theorem dX5_append_39 : decode cX5_append 39 = .ok (.putfield 15, 3) := by decide +kernel
theorem dX5_append_42 : decode cX5_append 42 = .ok (.iinc 2 (-8), 3) := by decide +kernel
theorem dX5_append_45 : decode cX5_append 45 = .ok (.goto (-42), 3) := by decide +kernel
theorem dX5_append_48 : decode cX5_append 48 = .ok (.return_, 1) := by decide +kernel
theorem dX5_byteAt_0 : decode cX5_byteAt 0 = .ok (.iload_n 1, 1) := by decide +kernel
theorem dX5_byteAt_1 : decode cX5_byteAt 1 = .ok (.iconst 0, 1) := by decide +kernel
theorem dX5_byteAt_2 : decode cX5_byteAt 2 = .ok (.aload_n 0, 1) := by decide +kernel
theorem dX5_byteAt_3 : decode cX5_byteAt 3 = .ok (.getfield 15, 3) := by decide +kernel
theorem dX5_byteAt_6 : decode cX5_byteAt 6 = .ok (.iconst 1, 1) := by decide +kernel
theorem dX5_byteAt_7 : decode cX5_byteAt 7 = .ok (.isub, 1) := by decide +kernel
theorem dX5_byteAt_8 : decode cX5_byteAt 8 = .ok (.invokestatic 19, 3) := by decide +kernel
theorem dX5_byteAt_11 : decode cX5_byteAt 11 = .ok (.ifCond .eq 12, 3) := by decide +kernel
theorem dX5_byteAt_14 : decode cX5_byteAt 14 = .ok (.aload_n 0, 1) := by decide +kernel
theorem dX5_byteAt_15 : decode cX5_byteAt 15 = .ok (.getfield 9, 3) := by decide +kernel
theorem dX5_byteAt_18 : decode cX5_byteAt 18 = .ok (.iload_n 1, 1) := by decide +kernel
theorem dX5_byteAt_19 : decode cX5_byteAt 19 = .ok (.iaload, 1) := by decide +kernel
theorem dX5_byteAt_20 : decode cX5_byteAt 20 = .ok (.goto 4, 3) := by decide +kernel
theorem dX5_byteAt_23 : decode cX5_byteAt 23 = .ok (.iconst (-1), 1) := by decide +kernel
theorem dX5_byteAt_24 : decode cX5_byteAt 24 = .ok (.ireturn, 1) := by decide +kernel
theorem dX5_digitAt_0 : decode cX5_digitAt 0 = .ok (.aload_n 0, 1) := by decide +kernel
theorem dX5_digitAt_1 : decode cX5_digitAt 1 = .ok (.iload_n 1, 1) := by decide +kernel
theorem dX5_digitAt_2 : decode cX5_digitAt 2 = .ok (.invokevirtual 23, 3) := by decide +kernel
theorem dX5_digitAt_5 : decode cX5_digitAt 5 = .ok (.bipush 48, 2) := by decide +kernel
theorem dX5_digitAt_7 : decode cX5_digitAt 7 = .ok (.bipush 57, 2) := by decide +kernel
theorem dX5_digitAt_9 : decode cX5_digitAt 9 = .ok (.invokestatic 19, 3) := by decide +kernel
theorem dX5_digitAt_12 : decode cX5_digitAt 12 = .ok (.ireturn, 1) := by decide +kernel
theorem dX5_letterAt_0 : decode cX5_letterAt 0 = .ok (.aload_n 0, 1) := by decide +kernel
theorem dX5_letterAt_1 : decode cX5_letterAt 1 = .ok (.iload_n 1, 1) := by decide +kernel
theorem dX5_letterAt_2 : decode cX5_letterAt 2 = .ok (.invokevirtual 23, 3) := by decide +kernel
theorem dX5_letterAt_5 : decode cX5_letterAt 5 = .ok (.bipush 97, 2) := by decide +kernel
theorem dX5_letterAt_7 : decode cX5_letterAt 7 = .ok (.bipush 122, 2) := by decide +kernel
theorem dX5_letterAt_9 : decode cX5_letterAt 9 = .ok (.invokestatic 19, 3) := by decide +kernel
theorem dX5_letterAt_12 : decode cX5_letterAt 12 = .ok (.ireturn, 1) := by decide +kernel
theorem dX6_init_0 : decode cX6_init 0 = .ok (.aload_n 0, 1) := by decide +kernel
theorem dX6_init_1 : decode cX6_init 1 = .ok (.invokespecial 1, 3) := by decide +kernel
theorem dX6_init_4 : decode cX6_init 4 = .ok (.aload_n 0, 1) := by decide +kernel
theorem dX6_init_5 : decode cX6_init 5 = .ok (.new 7, 3) := by decide +kernel
theorem dX6_init_8 : decode cX6_init 8 = .ok (.dup, 1) := by decide +kernel
theorem dX6_init_9 : decode cX6_init 9 = .ok (.invokespecial 9, 3) := by decide +kernel
theorem dX6_init_12 : decode cX6_init 12 = .ok (.putfield 10, 3) := by decide +kernel
theorem dX6_init_15 : decode cX6_init 15 = .ok (.aload_n 0, 1) := by decide +kernel
theorem dX6_init_16 : decode cX6_init 16 = .ok (.new 16, 3) := by decide +kernel
theorem dX6_init_19 : decode cX6_init 19 = .ok (.dup, 1) := by decide +kernel
theorem dX6_init_20 : decode cX6_init 20 = .ok (.invokespecial 18, 3) := by decide +kernel
theorem dX6_init_23 : decode cX6_init 23 = .ok (.putfield 19, 3) := by decide +kernel
theorem dX6_init_26 : decode cX6_init 26 = .ok (.aload_n 0, 1) := by decide +kernel
theorem dX6_init_27 : decode cX6_init 27 = .ok (.new 23, 3) := by decide +kernel
theorem dX6_init_30 : decode cX6_init 30 = .ok (.dup, 1) := by decide +kernel
theorem dX6_init_31 : decode cX6_init 31 = .ok (.invokespecial 25, 3) := by decide +kernel
theorem dX6_init_34 : decode cX6_init 34 = .ok (.putfield 26, 3) := by decide +kernel
theorem dX6_init_37 : decode cX6_init 37 = .ok (.aload_n 0, 1) := by decide +kernel
theorem dX6_init_38 : decode cX6_init 38 = .ok (.new 30, 3) := by decide +kernel
theorem dX6_init_41 : decode cX6_init 41 = .ok (.dup, 1) := by decide +kernel
theorem dX6_init_42 : decode cX6_init 42 = .ok (.invokespecial 32, 3) := by decide +kernel
theorem dX6_init_45 : decode cX6_init 45 = .ok (.putfield 33, 3) := by decide +kernel
theorem dX6_init_48 : decode cX6_init 48 = .ok (.aload_n 0, 1) := by decide +kernel
theorem dX6_init_49 : decode cX6_init 49 = .ok (.new 37, 3) := by decide +kernel
theorem dX6_init_52 : decode cX6_init 52 = .ok (.dup, 1) := by decide +kernel
theorem dX6_init_53 : decode cX6_init 53 = .ok (.invokespecial 39, 3) := by decide +kernel
theorem dX6_init_56 : decode cX6_init 56 = .ok (.putfield 40, 3) := by decide +kernel
theorem dX6_init_59 : decode cX6_init 59 = .ok (.aload_n 0, 1) := by decide +kernel
theorem dX6_init_60 : decode cX6_init 60 = .ok (.new 44, 3) := by decide +kernel
theorem dX6_init_63 : decode cX6_init 63 = .ok (.dup, 1) := by decide +kernel
theorem dX6_init_64 : decode cX6_init 64 = .ok (.invokespecial 46, 3) := by decide +kernel
theorem dX6_init_67 : decode cX6_init 67 = .ok (.putfield 47, 3) := by decide +kernel
theorem dX6_init_70 : decode cX6_init 70 = .ok (.aload_n 0, 1) := by decide +kernel
theorem dX6_init_71 : decode cX6_init 71 = .ok (.iconst 0, 1) := by decide +kernel
theorem dX6_init_72 : decode cX6_init 72 = .ok (.putfield 51, 3) := by decide +kernel
theorem dX6_init_75 : decode cX6_init 75 = .ok (.aload_n 0, 1) := by decide +kernel
theorem dX6_init_76 : decode cX6_init 76 = .ok (.iconst 0, 1) := by decide +kernel
theorem dX6_init_77 : decode cX6_init 77 = .ok (.putfield 55, 3) := by decide +kernel
theorem dX6_init_80 : decode cX6_init 80 = .ok (.aload_n 0, 1) := by decide +kernel
theorem dX6_init_81 : decode cX6_init 81 = .ok (.iconst 0, 1) := by decide +kernel
theorem dX6_init_82 : decode cX6_init 82 = .ok (.putfield 59, 3) := by decide +kernel
theorem dX6_init_85 : decode cX6_init 85 = .ok (.return_, 1) := by decide +kernel
theorem dX6_feed_0 : decode cX6_feed 0 = .ok (.aload_n 0, 1) := by decide +kernel
theorem dX6_feed_1 : decode cX6_feed 1 = .ok (.getfield 10, 3) := by decide +kernel
theorem dX6_feed_4 : decode cX6_feed 4 = .ok (.getfield 62, 3) := by decide +kernel
theorem dX6_feed_7 : decode cX6_feed 7 = .ok (.ifCond .le 5, 3) := by decide +kernel
theorem dX6_feed_10 : decode cX6_feed 10 = .ok (.iconst (-1), 1) := by decide +kernel
theorem dX6_feed_11 : decode cX6_feed 11 = .ok (.ireturn, 1) := by decide +kernel
theorem dX6_feed_12 : decode cX6_feed 12 = .ok (.aload_n 0, 1) := by decide +kernel
theorem dX6_feed_13 : decode cX6_feed 13 = .ok (.getfield 10, 3) := by decide +kernel
theorem dX6_feed_16 : decode cX6_feed 16 = .ok (.iload_n 1, 1) := by decide +kernel
theorem dX6_feed_17 : decode cX6_feed 17 = .ok (.invokevirtual 65, 3) := by decide +kernel
theorem dX6_feed_20 : decode cX6_feed 20 = .ok (.aload_n 0, 1) := by decide +kernel
theorem dX6_feed_21 : decode cX6_feed 21 = .ok (.getfield 10, 3) := by decide +kernel
theorem dX6_feed_24 : decode cX6_feed 24 = .ok (.iload_n 2, 1) := by decide +kernel
theorem dX6_feed_25 : decode cX6_feed 25 = .ok (.invokevirtual 65, 3) := by decide +kernel
theorem dX6_feed_28 : decode cX6_feed 28 = .ok (.aload_n 0, 1) := by decide +kernel
theorem dX6_feed_29 : decode cX6_feed 29 = .ok (.getfield 10, 3) := by decide +kernel
theorem dX6_feed_32 : decode cX6_feed 32 = .ok (.iload_n 3, 1) := by decide +kernel
theorem dX6_feed_33 : decode cX6_feed 33 = .ok (.invokevirtual 65, 3) := by decide +kernel
theorem dX6_feed_36 : decode cX6_feed 36 = .ok (.aload_n 0, 1) := by decide +kernel
theorem dX6_feed_37 : decode cX6_feed 37 = .ok (.getfield 10, 3) := by decide +kernel
theorem dX6_feed_40 : decode cX6_feed 40 = .ok (.iload 4, 2) := by decide +kernel
theorem dX6_feed_42 : decode cX6_feed 42 = .ok (.invokevirtual 65, 3) := by decide +kernel
theorem dX6_feed_45 : decode cX6_feed 45 = .ok (.aload_n 0, 1) := by decide +kernel
theorem dX6_feed_46 : decode cX6_feed 46 = .ok (.getfield 10, 3) := by decide +kernel
theorem dX6_feed_49 : decode cX6_feed 49 = .ok (.iload 5, 2) := by decide +kernel
theorem dX6_feed_51 : decode cX6_feed 51 = .ok (.invokevirtual 65, 3) := by decide +kernel
theorem dX6_feed_54 : decode cX6_feed 54 = .ok (.aload_n 0, 1) := by decide +kernel
theorem dX6_feed_55 : decode cX6_feed 55 = .ok (.getfield 10, 3) := by decide +kernel
theorem dX6_feed_58 : decode cX6_feed 58 = .ok (.getfield 62, 3) := by decide +kernel
theorem dX6_feed_61 : decode cX6_feed 61 = .ok (.ireturn, 1) := by decide +kernel
theorem dX6_end_0 : decode cX6_end 0 = .ok (.iload_n 1, 1) := by decide +kernel
theorem dX6_end_1 : decode cX6_end 1 = .ok (.iconst 0, 1) := by decide +kernel
theorem dX6_end_2 : decode cX6_end 2 = .ok (.aload_n 0, 1) := by decide +kernel
theorem dX6_end_3 : decode cX6_end 3 = .ok (.getfield 10, 3) := by decide +kernel
theorem dX6_end_6 : decode cX6_end 6 = .ok (.getfield 62, 3) := by decide +kernel
theorem dX6_end_9 : decode cX6_end 9 = .ok (.invokestatic 69, 3) := by decide +kernel
theorem dX6_end_12 : decode cX6_end 12 = .ok (.ifCond .ne 5, 3) := by decide +kernel
theorem dX6_end_15 : decode cX6_end 15 = .ok (.iconst (-1), 1) := by decide +kernel
theorem dX6_end_16 : decode cX6_end 16 = .ok (.ireturn, 1) := by decide +kernel
theorem dX6_end_17 : decode cX6_end 17 = .ok (.aload_n 0, 1) := by decide +kernel
theorem dX6_end_18 : decode cX6_end 18 = .ok (.getfield 10, 3) := by decide +kernel
theorem dX6_end_21 : decode cX6_end 21 = .ok (.iload_n 1, 1) := by decide +kernel
theorem dX6_end_22 : decode cX6_end 22 = .ok (.putfield 62, 3) := by decide +kernel
theorem dX6_end_25 : decode cX6_end 25 = .ok (.iload_n 1, 1) := by decide +kernel
theorem dX6_end_26 : decode cX6_end 26 = .ok (.ireturn, 1) := by decide +kernel
theorem dX6_book_0 : decode cX6_book 0 = .ok (.aload_n 0, 1) := by decide +kernel
theorem dX6_book_1 : decode cX6_book 1 = .ok (.getfield 26, 3) := by decide +kernel
theorem dX6_book_4 : decode cX6_book 4 = .ok (.getfield 73, 3) := by decide +kernel
theorem dX6_book_7 : decode cX6_book 7 = .ok (.bipush 60, 2) := by decide +kernel
theorem dX6_book_9 : decode cX6_book 9 = .ok (.if_icmp .ge 33, 3) := by decide +kernel
theorem dX6_book_12 : decode cX6_book 12 = .ok (.iload_n 1, 1) := by decide +kernel
theorem dX6_book_13 : decode cX6_book 13 = .ok (.iconst 0, 1) := by decide +kernel
theorem dX6_book_14 : decode cX6_book 14 = .ok (.iconst 4, 1) := by decide +kernel
theorem dX6_book_15 : decode cX6_book 15 = .ok (.invokestatic 69, 3) := by decide +kernel
theorem dX6_book_18 : decode cX6_book 18 = .ok (.ifCond .eq 24, 3) := by decide +kernel
theorem dX6_book_21 : decode cX6_book 21 = .ok (.iload_n 2, 1) := by decide +kernel
theorem dX6_book_22 : decode cX6_book 22 = .ok (.iconst 1, 1) := by decide +kernel
theorem dX6_book_23 : decode cX6_book 23 = .ok (.sipush 200, 3) := by decide +kernel
theorem dX6_book_26 : decode cX6_book 26 = .ok (.invokestatic 69, 3) := by decide +kernel
theorem dX6_book_29 : decode cX6_book 29 = .ok (.ifCond .eq 13, 3) := by decide +kernel
theorem dX6_book_32 : decode cX6_book 32 = .ok (.iload_n 3, 1) := by decide +kernel
theorem dX6_book_33 : decode cX6_book 33 = .ok (.iconst 1, 1) := by decide +kernel
theorem dX6_book_34 : decode cX6_book 34 = .ok (.bipush 100, 2) := by decide +kernel
theorem dX6_book_36 : decode cX6_book 36 = .ok (.invokestatic 69, 3) := by decide +kernel
theorem dX6_book_39 : decode cX6_book 39 = .ok (.ifCond .ne 5, 3) := by decide +kernel
theorem dX6_book_42 : decode cX6_book 42 = .ok (.iconst (-1), 1) := by decide +kernel
theorem dX6_book_43 : decode cX6_book 43 = .ok (.ireturn, 1) := by decide +kernel
theorem dX6_book_44 : decode cX6_book 44 = .ok (.aload_n 0, 1) := by decide +kernel
theorem dX6_book_45 : decode cX6_book 45 = .ok (.getfield 19, 3) := by decide +kernel
theorem dX6_book_48 : decode cX6_book 48 = .ok (.aload_n 0, 1) := by decide +kernel
theorem dX6_book_49 : decode cX6_book 49 = .ok (.getfield 10, 3) := by decide +kernel
theorem dX6_book_52 : decode cX6_book 52 = .ok (.invokevirtual 74, 3) := by decide +kernel
theorem dX6_book_55 : decode cX6_book 55 = .ok (.aload_n 0, 1) := by decide +kernel
theorem dX6_book_56 : decode cX6_book 56 = .ok (.getfield 10, 3) := by decide +kernel
theorem dX6_book_59 : decode cX6_book 59 = .ok (.iconst 0, 1) := by decide +kernel
theorem dX6_book_60 : decode cX6_book 60 = .ok (.putfield 62, 3) := by decide +kernel
theorem dX6_book_63 : decode cX6_book 63 = .ok (.aload_n 0, 1) := by decide +kernel
theorem dX6_book_64 : decode cX6_book 64 = .ok (.getfield 19, 3) := by decide +kernel
theorem dX6_book_67 : decode cX6_book 67 = .ok (.getfield 78, 3) := by decide +kernel
theorem dX6_book_70 : decode cX6_book 70 = .ok (.iconst (-1), 1) := by decide +kernel
theorem dX6_book_71 : decode cX6_book 71 = .ok (.if_icmp .eq 5, 3) := by decide +kernel
theorem dX6_book_74 : decode cX6_book 74 = .ok (.iconst (-1), 1) := by decide +kernel
theorem dX6_book_75 : decode cX6_book 75 = .ok (.ireturn, 1) := by decide +kernel
theorem dX6_book_76 : decode cX6_book 76 = .ok (.aload_n 0, 1) := by decide +kernel
theorem dX6_book_77 : decode cX6_book 77 = .ok (.invokevirtual 81, 3) := by decide +kernel
theorem dX6_book_80 : decode cX6_book 80 = .ok (.aload_n 0, 1) := by decide +kernel
theorem dX6_book_81 : decode cX6_book 81 = .ok (.getfield 26, 3) := by decide +kernel
theorem dX6_book_84 : decode cX6_book 84 = .ok (.aload_n 0, 1) := by decide +kernel
theorem dX6_book_85 : decode cX6_book 85 = .ok (.getfield 19, 3) := by decide +kernel
theorem dX6_book_88 : decode cX6_book 88 = .ok (.iload_n 1, 1) := by decide +kernel
theorem dX6_book_89 : decode cX6_book 89 = .ok (.iload_n 2, 1) := by decide +kernel
theorem dX6_book_90 : decode cX6_book 90 = .ok (.iload_n 3, 1) := by decide +kernel
theorem dX6_book_91 : decode cX6_book 91 = .ok (.invokevirtual 84, 3) := by decide +kernel
theorem dX6_book_94 : decode cX6_book 94 = .ok (.ireturn, 1) := by decide +kernel
theorem dX6_wrong_0 : decode cX6_wrong 0 = .ok (.aload_n 0, 1) := by decide +kernel
theorem dX6_wrong_1 : decode cX6_wrong 1 = .ok (.getfield 19, 3) := by decide +kernel
theorem dX6_wrong_4 : decode cX6_wrong 4 = .ok (.getfield 78, 3) := by decide +kernel
theorem dX6_wrong_7 : decode cX6_wrong 7 = .ok (.ireturn, 1) := by decide +kernel
theorem dX6_rule_0 : decode cX6_rule 0 = .ok (.iload_n 1, 1) := by decide +kernel
theorem dX6_rule_1 : decode cX6_rule 1 = .ok (.invokestatic 88, 3) := by decide +kernel
theorem dX6_rule_4 : decode cX6_rule 4 = .ok (.ifCond .ne 5, 3) := by decide +kernel
theorem dX6_rule_7 : decode cX6_rule 7 = .ok (.iconst 0, 1) := by decide +kernel
theorem dX6_rule_8 : decode cX6_rule 8 = .ok (.ireturn, 1) := by decide +kernel
theorem dX6_rule_9 : decode cX6_rule 9 = .ok (.aload_n 0, 1) := by decide +kernel
theorem dX6_rule_10 : decode cX6_rule 10 = .ok (.iload_n 1, 1) := by decide +kernel
theorem dX6_rule_11 : decode cX6_rule 11 = .ok (.putfield 51, 3) := by decide +kernel
theorem dX6_rule_14 : decode cX6_rule 14 = .ok (.aload_n 0, 1) := by decide +kernel
theorem dX6_rule_15 : decode cX6_rule 15 = .ok (.invokevirtual 81, 3) := by decide +kernel
theorem dX6_rule_18 : decode cX6_rule 18 = .ok (.iconst 1, 1) := by decide +kernel
theorem dX6_rule_19 : decode cX6_rule 19 = .ok (.ireturn, 1) := by decide +kernel
theorem dX6_compare_0 : decode cX6_compare 0 = .ok (.aload_n 0, 1) := by decide +kernel
theorem dX6_compare_1 : decode cX6_compare 1 = .ok (.getfield 26, 3) := by decide +kernel
theorem dX6_compare_4 : decode cX6_compare 4 = .ok (.iload_n 1, 1) := by decide +kernel
theorem dX6_compare_5 : decode cX6_compare 5 = .ok (.invokevirtual 92, 3) := by decide +kernel
theorem dX6_compare_8 : decode cX6_compare 8 = .ok (.ifCond .eq 21, 3) := by decide +kernel
theorem dX6_compare_11 : decode cX6_compare 11 = .ok (.aload_n 0, 1) := by decide +kernel
theorem dX6_compare_12 : decode cX6_compare 12 = .ok (.getfield 26, 3) := by decide +kernel
theorem dX6_compare_15 : decode cX6_compare 15 = .ok (.iload_n 2, 1) := by decide +kernel
theorem dX6_compare_16 : decode cX6_compare 16 = .ok (.invokevirtual 92, 3) := by decide +kernel
theorem dX6_compare_19 : decode cX6_compare 19 = .ok (.ifCond .eq 10, 3) := by decide +kernel
theorem dX6_compare_22 : decode cX6_compare 22 = .ok (.iload_n 3, 1) := by decide +kernel
theorem dX6_compare_23 : decode cX6_compare 23 = .ok (.invokestatic 88, 3) := by decide +kernel
theorem dX6_compare_26 : decode cX6_compare 26 = .ok (.ifCond .ne 6, 3) := by decide +kernel
theorem dX6_compare_29 : decode cX6_compare 29 = .ok (.bipush (-2), 2) := by decide +kernel
theorem dX6_compare_31 : decode cX6_compare 31 = .ok (.ireturn, 1) := by decide +kernel
theorem dX6_compare_32 : decode cX6_compare 32 = .ok (.aload_n 0, 1) := by decide +kernel
theorem dX6_compare_33 : decode cX6_compare 33 = .ok (.getfield 26, 3) := by decide +kernel
theorem dX6_compare_36 : decode cX6_compare 36 = .ok (.iload_n 1, 1) := by decide +kernel
theorem dX6_compare_37 : decode cX6_compare 37 = .ok (.iload_n 2, 1) := by decide +kernel
theorem dX6_compare_38 : decode cX6_compare 38 = .ok (.iload_n 3, 1) := by decide +kernel
theorem dX6_compare_39 : decode cX6_compare 39 = .ok (.invokevirtual 95, 3) := by decide +kernel
theorem dX6_compare_42 : decode cX6_compare 42 = .ok (.ireturn, 1) := by decide +kernel
theorem dX6_ordered_0 : decode cX6_ordered 0 = .ok (.aload_n 0, 1) := by decide +kernel
theorem dX6_ordered_1 : decode cX6_ordered 1 = .ok (.getfield 26, 3) := by decide +kernel
theorem dX6_ordered_4 : decode cX6_ordered 4 = .ok (.iload_n 1, 1) := by decide +kernel
theorem dX6_ordered_5 : decode cX6_ordered 5 = .ok (.invokevirtual 92, 3) := by decide +kernel
theorem dX6_ordered_8 : decode cX6_ordered 8 = .ok (.ifCond .eq 10, 3) := by decide +kernel
theorem dX6_ordered_11 : decode cX6_ordered 11 = .ok (.iload_n 2, 1) := by decide +kernel
theorem dX6_ordered_12 : decode cX6_ordered 12 = .ok (.invokestatic 88, 3) := by decide +kernel
theorem dX6_ordered_15 : decode cX6_ordered 15 = .ok (.ifCond .ne 5, 3) := by decide +kernel
theorem dX6_ordered_18 : decode cX6_ordered 18 = .ok (.iconst (-1), 1) := by decide +kernel
theorem dX6_ordered_19 : decode cX6_ordered 19 = .ok (.ireturn, 1) := by decide +kernel
theorem dX6_ordered_20 : decode cX6_ordered 20 = .ok (.aload_n 0, 1) := by decide +kernel
theorem dX6_ordered_21 : decode cX6_ordered 21 = .ok (.getfield 26, 3) := by decide +kernel
theorem dX6_ordered_24 : decode cX6_ordered 24 = .ok (.getfield 99, 3) := by decide +kernel
theorem dX6_ordered_27 : decode cX6_ordered 27 = .ok (.iload_n 2, 1) := by decide +kernel
theorem dX6_ordered_28 : decode cX6_ordered 28 = .ok (.aaload, 1) := by decide +kernel
theorem dX6_ordered_29 : decode cX6_ordered 29 = .ok (.iload_n 1, 1) := by decide +kernel
theorem dX6_ordered_30 : decode cX6_ordered 30 = .ok (.iaload, 1) := by decide +kernel
theorem dX6_ordered_31 : decode cX6_ordered 31 = .ok (.ireturn, 1) := by decide +kernel
theorem dX6_quarrels_0 : decode cX6_quarrels 0 = .ok (.aload_n 0, 1) := by decide +kernel
theorem dX6_quarrels_1 : decode cX6_quarrels 1 = .ok (.getfield 26, 3) := by decide +kernel
theorem dX6_quarrels_4 : decode cX6_quarrels 4 = .ok (.getfield 103, 3) := by decide +kernel
theorem dX6_quarrels_7 : decode cX6_quarrels 7 = .ok (.ireturn, 1) := by decide +kernel
theorem dX6_shelf_0 : decode cX6_shelf 0 = .ok (.aload_n 0, 1) := by decide +kernel
theorem dX6_shelf_1 : decode cX6_shelf 1 = .ok (.getfield 33, 3) := by decide +kernel
theorem dX6_shelf_4 : decode cX6_shelf 4 = .ok (.getfield 106, 3) := by decide +kernel
theorem dX6_shelf_7 : decode cX6_shelf 7 = .ok (.bipush 16, 2) := by decide +kernel
theorem dX6_shelf_9 : decode cX6_shelf 9 = .ok (.if_icmp .ge 14, 3) := by decide +kernel
theorem dX6_shelf_12 : decode cX6_shelf 12 = .ok (.iload_n 1, 1) := by decide +kernel
theorem dX6_shelf_13 : decode cX6_shelf 13 = .ok (.iconst 1, 1) := by decide +kernel
theorem dX6_shelf_14 : decode cX6_shelf 14 = .ok (.sipush 2000, 3) := by decide +kernel
theorem dX6_shelf_17 : decode cX6_shelf 17 = .ok (.invokestatic 69, 3) := by decide +kernel
theorem dX6_shelf_20 : decode cX6_shelf 20 = .ok (.ifCond .ne 5, 3) := by decide +kernel
theorem dX6_shelf_23 : decode cX6_shelf 23 = .ok (.iconst (-1), 1) := by decide +kernel
theorem dX6_shelf_24 : decode cX6_shelf 24 = .ok (.ireturn, 1) := by decide +kernel
theorem dX6_shelf_25 : decode cX6_shelf 25 = .ok (.aload_n 0, 1) := by decide +kernel
theorem dX6_shelf_26 : decode cX6_shelf 26 = .ok (.invokevirtual 81, 3) := by decide +kernel
theorem dX6_shelf_29 : decode cX6_shelf 29 = .ok (.aload_n 0, 1) := by decide +kernel
theorem dX6_shelf_30 : decode cX6_shelf 30 = .ok (.getfield 33, 3) := by decide +kernel
theorem dX6_shelf_33 : decode cX6_shelf 33 = .ok (.iload_n 1, 1) := by decide +kernel
theorem dX6_shelf_34 : decode cX6_shelf 34 = .ok (.invokevirtual 107, 3) := by decide +kernel
theorem dX6_shelf_37 : decode cX6_shelf 37 = .ok (.ireturn, 1) := by decide +kernel
theorem dX6_sizes_0 : decode cX6_sizes 0 = .ok (.iload_n 1, 1) := by decide +kernel
theorem dX6_sizes_1 : decode cX6_sizes 1 = .ok (.iconst (-1), 1) := by decide +kernel
theorem dX6_sizes_2 : decode cX6_sizes 2 = .ok (.if_icmp .ne 24, 3) := by decide +kernel
theorem dX6_sizes_5 : decode cX6_sizes 5 = .ok (.iload_n 2, 1) := by decide +kernel
theorem dX6_sizes_6 : decode cX6_sizes 6 = .ok (.iconst 1, 1) := by decide +kernel
theorem dX6_sizes_7 : decode cX6_sizes 7 = .ok (.bipush 100, 2) := by decide +kernel
theorem dX6_sizes_9 : decode cX6_sizes 9 = .ok (.invokestatic 69, 3) := by decide +kernel
theorem dX6_sizes_12 : decode cX6_sizes 12 = .ok (.ifCond .eq 14, 3) := by decide +kernel
theorem dX6_sizes_15 : decode cX6_sizes 15 = .ok (.aload_n 0, 1) := by decide +kernel
theorem dX6_sizes_16 : decode cX6_sizes 16 = .ok (.getfield 33, 3) := by decide +kernel
theorem dX6_sizes_19 : decode cX6_sizes 19 = .ok (.iload_n 2, 1) := by decide +kernel
theorem dX6_sizes_20 : decode cX6_sizes 20 = .ok (.putfield 110, 3) := by decide +kernel
theorem dX6_sizes_23 : decode cX6_sizes 23 = .ok (.goto 66, 3) := by decide +kernel
theorem dX6_sizes_26 : decode cX6_sizes 26 = .ok (.iload_n 1, 1) := by decide +kernel
theorem dX6_sizes_27 : decode cX6_sizes 27 = .ok (.bipush (-2), 2) := by decide +kernel
theorem dX6_sizes_29 : decode cX6_sizes 29 = .ok (.if_icmp .ne 25, 3) := by decide +kernel
theorem dX6_sizes_32 : decode cX6_sizes 32 = .ok (.iload_n 2, 1) := by decide +kernel
theorem dX6_sizes_33 : decode cX6_sizes 33 = .ok (.iconst 1, 1) := by decide +kernel
theorem dX6_sizes_34 : decode cX6_sizes 34 = .ok (.sipush 1000, 3) := by decide +kernel
theorem dX6_sizes_37 : decode cX6_sizes 37 = .ok (.invokestatic 69, 3) := by decide +kernel
theorem dX6_sizes_40 : decode cX6_sizes 40 = .ok (.ifCond .eq 14, 3) := by decide +kernel
theorem dX6_sizes_43 : decode cX6_sizes 43 = .ok (.aload_n 0, 1) := by decide +kernel
theorem dX6_sizes_44 : decode cX6_sizes 44 = .ok (.getfield 40, 3) := by decide +kernel
theorem dX6_sizes_47 : decode cX6_sizes 47 = .ok (.iload_n 2, 1) := by decide +kernel
theorem dX6_sizes_48 : decode cX6_sizes 48 = .ok (.putfield 113, 3) := by decide +kernel
theorem dX6_sizes_51 : decode cX6_sizes 51 = .ok (.goto 38, 3) := by decide +kernel
theorem dX6_sizes_54 : decode cX6_sizes 54 = .ok (.iload_n 1, 1) := by decide +kernel
theorem dX6_sizes_55 : decode cX6_sizes 55 = .ok (.iconst 0, 1) := by decide +kernel
theorem dX6_sizes_56 : decode cX6_sizes 56 = .ok (.bipush 9, 2) := by decide +kernel
theorem dX6_sizes_58 : decode cX6_sizes 58 = .ok (.invokestatic 69, 3) := by decide +kernel
theorem dX6_sizes_61 : decode cX6_sizes 61 = .ok (.ifCond .eq 26, 3) := by decide +kernel
theorem dX6_sizes_64 : decode cX6_sizes 64 = .ok (.iload_n 2, 1) := by decide +kernel
theorem dX6_sizes_65 : decode cX6_sizes 65 = .ok (.iconst 0, 1) := by decide +kernel
theorem dX6_sizes_66 : decode cX6_sizes 66 = .ok (.bipush 100, 2) := by decide +kernel
theorem dX6_sizes_68 : decode cX6_sizes 68 = .ok (.invokestatic 69, 3) := by decide +kernel
theorem dX6_sizes_71 : decode cX6_sizes 71 = .ok (.ifCond .eq 16, 3) := by decide +kernel
theorem dX6_sizes_74 : decode cX6_sizes 74 = .ok (.aload_n 0, 1) := by decide +kernel
theorem dX6_sizes_75 : decode cX6_sizes 75 = .ok (.getfield 33, 3) := by decide +kernel
theorem dX6_sizes_78 : decode cX6_sizes 78 = .ok (.getfield 116, 3) := by decide +kernel
theorem dX6_sizes_81 : decode cX6_sizes 81 = .ok (.iload_n 1, 1) := by decide +kernel
theorem dX6_sizes_82 : decode cX6_sizes 82 = .ok (.iload_n 2, 1) := by decide +kernel
theorem dX6_sizes_83 : decode cX6_sizes 83 = .ok (.iastore, 1) := by decide +kernel
theorem dX6_sizes_84 : decode cX6_sizes 84 = .ok (.goto 5, 3) := by decide +kernel
theorem dX6_sizes_87 : decode cX6_sizes 87 = .ok (.iconst 0, 1) := by decide +kernel
theorem dX6_sizes_88 : decode cX6_sizes 88 = .ok (.ireturn, 1) := by decide +kernel
theorem dX6_sizes_89 : decode cX6_sizes 89 = .ok (.aload_n 0, 1) := by decide +kernel
theorem dX6_sizes_90 : decode cX6_sizes 90 = .ok (.invokevirtual 81, 3) := by decide +kernel
theorem dX6_sizes_93 : decode cX6_sizes 93 = .ok (.iconst 1, 1) := by decide +kernel
theorem dX6_sizes_94 : decode cX6_sizes 94 = .ok (.ireturn, 1) := by decide +kernel
theorem dX6_laid_0 : decode cX6_laid 0 = .ok (.aload_n 0, 1) := by decide +kernel
theorem dX6_laid_1 : decode cX6_laid 1 = .ok (.getfield 26, 3) := by decide +kernel
theorem dX6_laid_4 : decode cX6_laid 4 = .ok (.iload_n 1, 1) := by decide +kernel
theorem dX6_laid_5 : decode cX6_laid 5 = .ok (.invokevirtual 92, 3) := by decide +kernel
theorem dX6_laid_8 : decode cX6_laid 8 = .ok (.ifCond .ne 5, 3) := by decide +kernel
theorem dX6_laid_11 : decode cX6_laid 11 = .ok (.iconst (-1), 1) := by decide +kernel
theorem dX6_laid_12 : decode cX6_laid 12 = .ok (.ireturn, 1) := by decide +kernel
theorem dX6_laid_13 : decode cX6_laid 13 = .ok (.aload_n 0, 1) := by decide +kernel
theorem dX6_laid_14 : decode cX6_laid 14 = .ok (.invokevirtual 120, 3) := by decide +kernel
theorem dX6_laid_17 : decode cX6_laid 17 = .ok (.iload_n 2, 1) := by decide +kernel
theorem dX6_laid_18 : decode cX6_laid 18 = .ok (.lookupswitch 46 #[(0, 26), (1, 36)], 26) := by decide +kernel
theorem dX6_laid_44 : decode cX6_laid 44 = .ok (.aload_n 0, 1) := by decide +kernel
theorem dX6_laid_45 : decode cX6_laid 45 = .ok (.getfield 33, 3) := by decide +kernel
theorem dX6_laid_48 : decode cX6_laid 48 = .ok (.getfield 123, 3) := by decide +kernel
theorem dX6_laid_51 : decode cX6_laid 51 = .ok (.iload_n 1, 1) := by decide +kernel
theorem dX6_laid_52 : decode cX6_laid 52 = .ok (.iaload, 1) := by decide +kernel
theorem dX6_laid_53 : decode cX6_laid 53 = .ok (.ireturn, 1) := by decide +kernel
theorem dX6_laid_54 : decode cX6_laid 54 = .ok (.aload_n 0, 1) := by decide +kernel
theorem dX6_laid_55 : decode cX6_laid 55 = .ok (.getfield 33, 3) := by decide +kernel
theorem dX6_laid_58 : decode cX6_laid 58 = .ok (.getfield 126, 3) := by decide +kernel
theorem dX6_laid_61 : decode cX6_laid 61 = .ok (.iload_n 1, 1) := by decide +kernel
theorem dX6_laid_62 : decode cX6_laid 62 = .ok (.iaload, 1) := by decide +kernel
theorem dX6_laid_63 : decode cX6_laid 63 = .ok (.ireturn, 1) := by decide +kernel
theorem dX6_laid_64 : decode cX6_laid 64 = .ok (.iconst (-1), 1) := by decide +kernel
theorem dX6_laid_65 : decode cX6_laid 65 = .ok (.ireturn, 1) := by decide +kernel
theorem dX6_shelfOf_0 : decode cX6_shelfOf 0 = .ok (.iload_n 1, 1) := by decide +kernel
theorem dX6_shelfOf_1 : decode cX6_shelfOf 1 = .ok (.iconst 0, 1) := by decide +kernel
theorem dX6_shelfOf_2 : decode cX6_shelfOf 2 = .ok (.aload_n 0, 1) := by decide +kernel
theorem dX6_shelfOf_3 : decode cX6_shelfOf 3 = .ok (.getfield 33, 3) := by decide +kernel
theorem dX6_shelfOf_6 : decode cX6_shelfOf 6 = .ok (.getfield 106, 3) := by decide +kernel
theorem dX6_shelfOf_9 : decode cX6_shelfOf 9 = .ok (.iconst 1, 1) := by decide +kernel
theorem dX6_shelfOf_10 : decode cX6_shelfOf 10 = .ok (.isub, 1) := by decide +kernel
theorem dX6_shelfOf_11 : decode cX6_shelfOf 11 = .ok (.invokestatic 69, 3) := by decide +kernel
theorem dX6_shelfOf_14 : decode cX6_shelfOf 14 = .ok (.ifCond .ne 5, 3) := by decide +kernel
theorem dX6_shelfOf_17 : decode cX6_shelfOf 17 = .ok (.iconst (-1), 1) := by decide +kernel
theorem dX6_shelfOf_18 : decode cX6_shelfOf 18 = .ok (.ireturn, 1) := by decide +kernel
theorem dX6_shelfOf_19 : decode cX6_shelfOf 19 = .ok (.aload_n 0, 1) := by decide +kernel
theorem dX6_shelfOf_20 : decode cX6_shelfOf 20 = .ok (.invokevirtual 120, 3) := by decide +kernel
theorem dX6_shelfOf_23 : decode cX6_shelfOf 23 = .ok (.iload_n 2, 1) := by decide +kernel
theorem dX6_shelfOf_24 : decode cX6_shelfOf 24 = .ok (.lookupswitch 57 #[(0, 28), (1, 38)], 28) := by decide +kernel
theorem dX6_shelfOf_52 : decode cX6_shelfOf 52 = .ok (.aload_n 0, 1) := by decide +kernel
theorem dX6_shelfOf_53 : decode cX6_shelfOf 53 = .ok (.getfield 33, 3) := by decide +kernel
theorem dX6_shelfOf_56 : decode cX6_shelfOf 56 = .ok (.getfield 129, 3) := by decide +kernel
theorem dX6_shelfOf_59 : decode cX6_shelfOf 59 = .ok (.iload_n 1, 1) := by decide +kernel
theorem dX6_shelfOf_60 : decode cX6_shelfOf 60 = .ok (.iaload, 1) := by decide +kernel
theorem dX6_shelfOf_61 : decode cX6_shelfOf 61 = .ok (.ireturn, 1) := by decide +kernel
theorem dX6_shelfOf_62 : decode cX6_shelfOf 62 = .ok (.aload_n 0, 1) := by decide +kernel
theorem dX6_shelfOf_63 : decode cX6_shelfOf 63 = .ok (.getfield 33, 3) := by decide +kernel
theorem dX6_shelfOf_66 : decode cX6_shelfOf 66 = .ok (.iload_n 1, 1) := by decide +kernel
theorem dX6_shelfOf_67 : decode cX6_shelfOf 67 = .ok (.invokevirtual 132, 3) := by decide +kernel
theorem dX6_shelfOf_70 : decode cX6_shelfOf 70 = .ok (.aload_n 0, 1) := by decide +kernel
theorem dX6_shelfOf_71 : decode cX6_shelfOf 71 = .ok (.getfield 33, 3) := by decide +kernel
theorem dX6_shelfOf_74 : decode cX6_shelfOf 74 = .ok (.getfield 135, 3) := by decide +kernel
theorem dX6_shelfOf_77 : decode cX6_shelfOf 77 = .ok (.iload_n 1, 1) := by decide +kernel
theorem dX6_shelfOf_78 : decode cX6_shelfOf 78 = .ok (.iaload, 1) := by decide +kernel
theorem dX6_shelfOf_79 : decode cX6_shelfOf 79 = .ok (.isub, 1) := by decide +kernel
theorem dX6_shelfOf_80 : decode cX6_shelfOf 80 = .ok (.ireturn, 1) := by decide +kernel
theorem dX6_shelfOf_81 : decode cX6_shelfOf 81 = .ok (.iconst (-1), 1) := by decide +kernel
theorem dX6_shelfOf_82 : decode cX6_shelfOf 82 = .ok (.ireturn, 1) := by decide +kernel
theorem dX6_counts_0 : decode cX6_counts 0 = .ok (.aload_n 0, 1) := by decide +kernel
theorem dX6_counts_1 : decode cX6_counts 1 = .ok (.invokevirtual 120, 3) := by decide +kernel
theorem dX6_counts_4 : decode cX6_counts 4 = .ok (.iload_n 1, 1) := by decide +kernel
theorem dX6_counts_5 : decode cX6_counts 5 = .ok (.tableswitch 51 0 2 #[27, 35, 43], 27) := by decide +kernel
theorem dX6_counts_32 : decode cX6_counts 32 = .ok (.aload_n 0, 1) := by decide +kernel
theorem dX6_counts_33 : decode cX6_counts 33 = .ok (.getfield 33, 3) := by decide +kernel
theorem dX6_counts_36 : decode cX6_counts 36 = .ok (.getfield 138, 3) := by decide +kernel
theorem dX6_counts_39 : decode cX6_counts 39 = .ok (.ireturn, 1) := by decide +kernel
theorem dX6_counts_40 : decode cX6_counts 40 = .ok (.aload_n 0, 1) := by decide +kernel
theorem dX6_counts_41 : decode cX6_counts 41 = .ok (.getfield 33, 3) := by decide +kernel
theorem dX6_counts_44 : decode cX6_counts 44 = .ok (.getfield 141, 3) := by decide +kernel
theorem dX6_counts_47 : decode cX6_counts 47 = .ok (.ireturn, 1) := by decide +kernel
theorem dX6_counts_48 : decode cX6_counts 48 = .ok (.aload_n 0, 1) := by decide +kernel
theorem dX6_counts_49 : decode cX6_counts 49 = .ok (.getfield 40, 3) := by decide +kernel
theorem dX6_counts_52 : decode cX6_counts 52 = .ok (.getfield 144, 3) := by decide +kernel
theorem dX6_counts_55 : decode cX6_counts 55 = .ok (.ireturn, 1) := by decide +kernel
theorem dX6_counts_56 : decode cX6_counts 56 = .ok (.iconst (-1), 1) := by decide +kernel
theorem dX6_counts_57 : decode cX6_counts 57 = .ok (.ireturn, 1) := by decide +kernel
theorem dX6_way_0 : decode cX6_way 0 = .ok (.iload_n 1, 1) := by decide +kernel
theorem dX6_way_1 : decode cX6_way 1 = .ok (.iconst 0, 1) := by decide +kernel
theorem dX6_way_2 : decode cX6_way 2 = .ok (.iconst 4, 1) := by decide +kernel
theorem dX6_way_3 : decode cX6_way 3 = .ok (.invokestatic 69, 3) := by decide +kernel
theorem dX6_way_6 : decode cX6_way 6 = .ok (.ifCond .eq 13, 3) := by decide +kernel
theorem dX6_way_9 : decode cX6_way 9 = .ok (.iload_n 2, 1) := by decide +kernel
theorem dX6_way_10 : decode cX6_way 10 = .ok (.iconst 1, 1) := by decide +kernel
theorem dX6_way_11 : decode cX6_way 11 = .ok (.bipush 100, 2) := by decide +kernel
theorem dX6_way_13 : decode cX6_way 13 = .ok (.invokestatic 69, 3) := by decide +kernel
theorem dX6_way_16 : decode cX6_way 16 = .ok (.ifCond .ne 5, 3) := by decide +kernel
theorem dX6_way_19 : decode cX6_way 19 = .ok (.iconst 0, 1) := by decide +kernel
theorem dX6_way_20 : decode cX6_way 20 = .ok (.ireturn, 1) := by decide +kernel
theorem dX6_way_21 : decode cX6_way 21 = .ok (.aload_n 0, 1) := by decide +kernel
theorem dX6_way_22 : decode cX6_way 22 = .ok (.getfield 40, 3) := by decide +kernel
theorem dX6_way_25 : decode cX6_way 25 = .ok (.getfield 145, 3) := by decide +kernel
theorem dX6_way_28 : decode cX6_way 28 = .ok (.iload_n 1, 1) := by decide +kernel
theorem dX6_way_29 : decode cX6_way 29 = .ok (.iload_n 2, 1) := by decide +kernel
theorem dX6_way_30 : decode cX6_way 30 = .ok (.iastore, 1) := by decide +kernel
theorem dX6_way_31 : decode cX6_way 31 = .ok (.aload_n 0, 1) := by decide +kernel
theorem dX6_way_32 : decode cX6_way 32 = .ok (.invokevirtual 81, 3) := by decide +kernel
theorem dX6_way_35 : decode cX6_way 35 = .ok (.iconst 1, 1) := by decide +kernel
theorem dX6_way_36 : decode cX6_way 36 = .ok (.ireturn, 1) := by decide +kernel
theorem dX6_crate_0 : decode cX6_crate 0 = .ok (.aload_n 0, 1) := by decide +kernel
theorem dX6_crate_1 : decode cX6_crate 1 = .ok (.invokevirtual 120, 3) := by decide +kernel
theorem dX6_crate_4 : decode cX6_crate 4 = .ok (.iload_n 1, 1) := by decide +kernel
theorem dX6_crate_5 : decode cX6_crate 5 = .ok (.iconst 0, 1) := by decide +kernel
theorem dX6_crate_6 : decode cX6_crate 6 = .ok (.aload_n 0, 1) := by decide +kernel
theorem dX6_crate_7 : decode cX6_crate 7 = .ok (.getfield 40, 3) := by decide +kernel
theorem dX6_crate_10 : decode cX6_crate 10 = .ok (.getfield 144, 3) := by decide +kernel
theorem dX6_crate_13 : decode cX6_crate 13 = .ok (.iconst 1, 1) := by decide +kernel
theorem dX6_crate_14 : decode cX6_crate 14 = .ok (.isub, 1) := by decide +kernel
theorem dX6_crate_15 : decode cX6_crate 15 = .ok (.invokestatic 69, 3) := by decide +kernel
theorem dX6_crate_18 : decode cX6_crate 18 = .ok (.ifCond .ne 5, 3) := by decide +kernel
theorem dX6_crate_21 : decode cX6_crate 21 = .ok (.iconst (-1), 1) := by decide +kernel
theorem dX6_crate_22 : decode cX6_crate 22 = .ok (.ireturn, 1) := by decide +kernel
theorem dX6_crate_23 : decode cX6_crate 23 = .ok (.iload_n 2, 1) := by decide +kernel
theorem dX6_crate_24 : decode cX6_crate 24 = .ok (.tableswitch 107 0 5 #[40, 50, 60, 70, 80, 90], 40) := by decide +kernel
theorem dX6_crate_64 : decode cX6_crate 64 = .ok (.aload_n 0, 1) := by decide +kernel
theorem dX6_crate_65 : decode cX6_crate 65 = .ok (.getfield 40, 3) := by decide +kernel
theorem dX6_crate_68 : decode cX6_crate 68 = .ok (.getfield 148, 3) := by decide +kernel
theorem dX6_crate_71 : decode cX6_crate 71 = .ok (.iload_n 1, 1) := by decide +kernel
theorem dX6_crate_72 : decode cX6_crate 72 = .ok (.iaload, 1) := by decide +kernel
theorem dX6_crate_73 : decode cX6_crate 73 = .ok (.ireturn, 1) := by decide +kernel
theorem dX6_crate_74 : decode cX6_crate 74 = .ok (.aload_n 0, 1) := by decide +kernel
theorem dX6_crate_75 : decode cX6_crate 75 = .ok (.getfield 40, 3) := by decide +kernel
theorem dX6_crate_78 : decode cX6_crate 78 = .ok (.getfield 151, 3) := by decide +kernel
theorem dX6_crate_81 : decode cX6_crate 81 = .ok (.iload_n 1, 1) := by decide +kernel
theorem dX6_crate_82 : decode cX6_crate 82 = .ok (.iaload, 1) := by decide +kernel
theorem dX6_crate_83 : decode cX6_crate 83 = .ok (.ireturn, 1) := by decide +kernel
theorem dX6_crate_84 : decode cX6_crate 84 = .ok (.aload_n 0, 1) := by decide +kernel
theorem dX6_crate_85 : decode cX6_crate 85 = .ok (.getfield 40, 3) := by decide +kernel
theorem dX6_crate_88 : decode cX6_crate 88 = .ok (.getfield 154, 3) := by decide +kernel
theorem dX6_crate_91 : decode cX6_crate 91 = .ok (.iload_n 1, 1) := by decide +kernel
theorem dX6_crate_92 : decode cX6_crate 92 = .ok (.iaload, 1) := by decide +kernel
theorem dX6_crate_93 : decode cX6_crate 93 = .ok (.ireturn, 1) := by decide +kernel
theorem dX6_crate_94 : decode cX6_crate 94 = .ok (.aload_n 0, 1) := by decide +kernel
theorem dX6_crate_95 : decode cX6_crate 95 = .ok (.getfield 40, 3) := by decide +kernel
theorem dX6_crate_98 : decode cX6_crate 98 = .ok (.getfield 157, 3) := by decide +kernel
theorem dX6_crate_101 : decode cX6_crate 101 = .ok (.iload_n 1, 1) := by decide +kernel
theorem dX6_crate_102 : decode cX6_crate 102 = .ok (.iaload, 1) := by decide +kernel
theorem dX6_crate_103 : decode cX6_crate 103 = .ok (.ireturn, 1) := by decide +kernel
theorem dX6_crate_104 : decode cX6_crate 104 = .ok (.aload_n 0, 1) := by decide +kernel
theorem dX6_crate_105 : decode cX6_crate 105 = .ok (.getfield 40, 3) := by decide +kernel
theorem dX6_crate_108 : decode cX6_crate 108 = .ok (.getfield 160, 3) := by decide +kernel
theorem dX6_crate_111 : decode cX6_crate 111 = .ok (.iload_n 1, 1) := by decide +kernel
theorem dX6_crate_112 : decode cX6_crate 112 = .ok (.iaload, 1) := by decide +kernel
theorem dX6_crate_113 : decode cX6_crate 113 = .ok (.ireturn, 1) := by decide +kernel
theorem dX6_crate_114 : decode cX6_crate 114 = .ok (.iload_n 1, 1) := by decide +kernel
theorem dX6_crate_115 : decode cX6_crate 115 = .ok (.aload_n 0, 1) := by decide +kernel
theorem dX6_crate_116 : decode cX6_crate 116 = .ok (.getfield 40, 3) := by decide +kernel
theorem dX6_crate_119 : decode cX6_crate 119 = .ok (.getfield 163, 3) := by decide +kernel
theorem dX6_crate_122 : decode cX6_crate 122 = .ok (.if_icmp .ge 7, 3) := by decide +kernel
theorem dX6_crate_125 : decode cX6_crate 125 = .ok (.iconst 0, 1) := by decide +kernel
theorem dX6_crate_126 : decode cX6_crate 126 = .ok (.goto 4, 3) := by decide +kernel
theorem dX6_crate_129 : decode cX6_crate 129 = .ok (.iconst 1, 1) := by decide +kernel
theorem dX6_crate_130 : decode cX6_crate 130 = .ok (.ireturn, 1) := by decide +kernel
theorem dX6_crate_131 : decode cX6_crate 131 = .ok (.iconst (-1), 1) := by decide +kernel
theorem dX6_crate_132 : decode cX6_crate 132 = .ok (.ireturn, 1) := by decide +kernel
theorem dX6_meeting_0 : decode cX6_meeting 0 = .ok (.aload_n 0, 1) := by decide +kernel
theorem dX6_meeting_1 : decode cX6_meeting 1 = .ok (.invokevirtual 120, 3) := by decide +kernel
theorem dX6_meeting_4 : decode cX6_meeting 4 = .ok (.iload_n 1, 1) := by decide +kernel
theorem dX6_meeting_5 : decode cX6_meeting 5 = .ok (.lookupswitch 43 #[(0, 27), (1, 35)], 27) := by decide +kernel
theorem dX6_meeting_32 : decode cX6_meeting 32 = .ok (.aload_n 0, 1) := by decide +kernel
theorem dX6_meeting_33 : decode cX6_meeting 33 = .ok (.getfield 40, 3) := by decide +kernel
theorem dX6_meeting_36 : decode cX6_meeting 36 = .ok (.getfield 163, 3) := by decide +kernel
theorem dX6_meeting_39 : decode cX6_meeting 39 = .ok (.ireturn, 1) := by decide +kernel
theorem dX6_meeting_40 : decode cX6_meeting 40 = .ok (.aload_n 0, 1) := by decide +kernel
theorem dX6_meeting_41 : decode cX6_meeting 41 = .ok (.getfield 40, 3) := by decide +kernel
theorem dX6_meeting_44 : decode cX6_meeting 44 = .ok (.getfield 166, 3) := by decide +kernel
theorem dX6_meeting_47 : decode cX6_meeting 47 = .ok (.ireturn, 1) := by decide +kernel
theorem dX6_meeting_48 : decode cX6_meeting 48 = .ok (.iconst (-1), 1) := by decide +kernel
theorem dX6_meeting_49 : decode cX6_meeting 49 = .ok (.ireturn, 1) := by decide +kernel
theorem dX6_where_0 : decode cX6_where 0 = .ok (.aload_n 0, 1) := by decide +kernel
theorem dX6_where_1 : decode cX6_where 1 = .ok (.getfield 26, 3) := by decide +kernel
theorem dX6_where_4 : decode cX6_where 4 = .ok (.iload_n 1, 1) := by decide +kernel
theorem dX6_where_5 : decode cX6_where 5 = .ok (.invokevirtual 92, 3) := by decide +kernel
theorem dX6_where_8 : decode cX6_where 8 = .ok (.ifCond .eq 13, 3) := by decide +kernel
theorem dX6_where_11 : decode cX6_where 11 = .ok (.iload_n 2, 1) := by decide +kernel
theorem dX6_where_12 : decode cX6_where 12 = .ok (.iconst 0, 1) := by decide +kernel
theorem dX6_where_13 : decode cX6_where 13 = .ok (.ldc 169, 2) := by decide +kernel
theorem dX6_where_15 : decode cX6_where 15 = .ok (.invokestatic 69, 3) := by decide +kernel
theorem dX6_where_18 : decode cX6_where 18 = .ok (.ifCond .ne 5, 3) := by decide +kernel
theorem dX6_where_21 : decode cX6_where 21 = .ok (.iconst (-1), 1) := by decide +kernel
theorem dX6_where_22 : decode cX6_where 22 = .ok (.ireturn, 1) := by decide +kernel
theorem dX6_where_23 : decode cX6_where 23 = .ok (.aload_n 0, 1) := by decide +kernel
theorem dX6_where_24 : decode cX6_where 24 = .ok (.invokevirtual 120, 3) := by decide +kernel
theorem dX6_where_27 : decode cX6_where 27 = .ok (.iload_n 3, 1) := by decide +kernel
theorem dX6_where_28 : decode cX6_where 28 = .ok (.tableswitch 58 0 2 #[28, 38, 48], 28) := by decide +kernel
theorem dX6_where_56 : decode cX6_where 56 = .ok (.aload_n 0, 1) := by decide +kernel
theorem dX6_where_57 : decode cX6_where 57 = .ok (.getfield 40, 3) := by decide +kernel
theorem dX6_where_60 : decode cX6_where 60 = .ok (.iload_n 1, 1) := by decide +kernel
theorem dX6_where_61 : decode cX6_where 61 = .ok (.iload_n 2, 1) := by decide +kernel
theorem dX6_where_62 : decode cX6_where 62 = .ok (.invokevirtual 170, 3) := by decide +kernel
theorem dX6_where_65 : decode cX6_where 65 = .ok (.ireturn, 1) := by decide +kernel
theorem dX6_where_66 : decode cX6_where 66 = .ok (.aload_n 0, 1) := by decide +kernel
theorem dX6_where_67 : decode cX6_where 67 = .ok (.getfield 40, 3) := by decide +kernel
theorem dX6_where_70 : decode cX6_where 70 = .ok (.iload_n 1, 1) := by decide +kernel
theorem dX6_where_71 : decode cX6_where 71 = .ok (.iload_n 2, 1) := by decide +kernel
theorem dX6_where_72 : decode cX6_where 72 = .ok (.invokevirtual 174, 3) := by decide +kernel
theorem dX6_where_75 : decode cX6_where 75 = .ok (.ireturn, 1) := by decide +kernel
theorem dX6_where_76 : decode cX6_where 76 = .ok (.aload_n 0, 1) := by decide +kernel
theorem dX6_where_77 : decode cX6_where 77 = .ok (.getfield 40, 3) := by decide +kernel
theorem dX6_where_80 : decode cX6_where 80 = .ok (.getfield 177, 3) := by decide +kernel
theorem dX6_where_83 : decode cX6_where 83 = .ok (.iload_n 1, 1) := by decide +kernel
theorem dX6_where_84 : decode cX6_where 84 = .ok (.iaload, 1) := by decide +kernel
theorem dX6_where_85 : decode cX6_where 85 = .ok (.ireturn, 1) := by decide +kernel
theorem dX6_where_86 : decode cX6_where 86 = .ok (.iconst (-1), 1) := by decide +kernel
theorem dX6_where_87 : decode cX6_where 87 = .ok (.ireturn, 1) := by decide +kernel
theorem dX6_row_0 : decode cX6_row 0 = .ok (.aload_n 0, 1) := by decide +kernel
theorem dX6_row_1 : decode cX6_row 1 = .ok (.invokevirtual 120, 3) := by decide +kernel
theorem dX6_row_4 : decode cX6_row 4 = .ok (.aload_n 0, 1) := by decide +kernel
theorem dX6_row_5 : decode cX6_row 5 = .ok (.getfield 47, 3) := by decide +kernel
theorem dX6_row_8 : decode cX6_row 8 = .ok (.aload_n 0, 1) := by decide +kernel
theorem dX6_row_9 : decode cX6_row 9 = .ok (.getfield 26, 3) := by decide +kernel
theorem dX6_row_12 : decode cX6_row 12 = .ok (.getfield 99, 3) := by decide +kernel
theorem dX6_row_15 : decode cX6_row 15 = .ok (.aload_n 0, 1) := by decide +kernel
theorem dX6_row_16 : decode cX6_row 16 = .ok (.getfield 51, 3) := by decide +kernel
theorem dX6_row_19 : decode cX6_row 19 = .ok (.aaload, 1) := by decide +kernel
theorem dX6_row_20 : decode cX6_row 20 = .ok (.aload_n 0, 1) := by decide +kernel
theorem dX6_row_21 : decode cX6_row 21 = .ok (.getfield 26, 3) := by decide +kernel
theorem dX6_row_24 : decode cX6_row 24 = .ok (.getfield 73, 3) := by decide +kernel
theorem dX6_row_27 : decode cX6_row 27 = .ok (.aload_n 0, 1) := by decide +kernel
theorem dX6_row_28 : decode cX6_row 28 = .ok (.getfield 33, 3) := by decide +kernel
theorem dX6_row_31 : decode cX6_row 31 = .ok (.getfield 123, 3) := by decide +kernel
theorem dX6_row_34 : decode cX6_row 34 = .ok (.invokevirtual 180, 3) := by decide +kernel
theorem dX6_row_37 : decode cX6_row 37 = .ok (.aload_n 0, 1) := by decide +kernel
theorem dX6_row_38 : decode cX6_row 38 = .ok (.iconst 0, 1) := by decide +kernel
theorem dX6_row_39 : decode cX6_row 39 = .ok (.putfield 59, 3) := by decide +kernel
theorem dX6_row_42 : decode cX6_row 42 = .ok (.aload_n 0, 1) := by decide +kernel
theorem dX6_row_43 : decode cX6_row 43 = .ok (.getfield 47, 3) := by decide +kernel
theorem dX6_row_46 : decode cX6_row 46 = .ok (.getfield 184, 3) := by decide +kernel
theorem dX6_row_49 : decode cX6_row 49 = .ok (.ireturn, 1) := by decide +kernel
theorem dX6_at_0 : decode cX6_at 0 = .ok (.aload_n 0, 1) := by decide +kernel
theorem dX6_at_1 : decode cX6_at 1 = .ok (.getfield 47, 3) := by decide +kernel
theorem dX6_at_4 : decode cX6_at 4 = .ok (.iload_n 1, 1) := by decide +kernel
theorem dX6_at_5 : decode cX6_at 5 = .ok (.invokevirtual 185, 3) := by decide +kernel
theorem dX6_at_8 : decode cX6_at 8 = .ok (.ifCond .eq 15, 3) := by decide +kernel
theorem dX6_at_11 : decode cX6_at 11 = .ok (.aload_n 0, 1) := by decide +kernel
theorem dX6_at_12 : decode cX6_at 12 = .ok (.getfield 47, 3) := by decide +kernel
theorem dX6_at_15 : decode cX6_at 15 = .ok (.getfield 186, 3) := by decide +kernel
theorem dX6_at_18 : decode cX6_at 18 = .ok (.iload_n 1, 1) := by decide +kernel
theorem dX6_at_19 : decode cX6_at 19 = .ok (.iaload, 1) := by decide +kernel
theorem dX6_at_20 : decode cX6_at 20 = .ok (.goto 4, 3) := by decide +kernel
theorem dX6_at_23 : decode cX6_at 23 = .ok (.iconst (-1), 1) := by decide +kernel
theorem dX6_at_24 : decode cX6_at 24 = .ok (.ireturn, 1) := by decide +kernel
theorem dX6_misplace_0 : decode cX6_misplace 0 = .ok (.aload_n 0, 1) := by decide +kernel
theorem dX6_misplace_1 : decode cX6_misplace 1 = .ok (.getfield 47, 3) := by decide +kernel
theorem dX6_misplace_4 : decode cX6_misplace 4 = .ok (.iload_n 1, 1) := by decide +kernel
theorem dX6_misplace_5 : decode cX6_misplace 5 = .ok (.invokevirtual 185, 3) := by decide +kernel
theorem dX6_misplace_8 : decode cX6_misplace 8 = .ok (.ifCond .eq 19, 3) := by decide +kernel
theorem dX6_misplace_11 : decode cX6_misplace 11 = .ok (.aload_n 0, 1) := by decide +kernel
theorem dX6_misplace_12 : decode cX6_misplace 12 = .ok (.getfield 47, 3) := by decide +kernel
theorem dX6_misplace_15 : decode cX6_misplace 15 = .ok (.iload_n 2, 1) := by decide +kernel
theorem dX6_misplace_16 : decode cX6_misplace 16 = .ok (.invokevirtual 185, 3) := by decide +kernel
theorem dX6_misplace_19 : decode cX6_misplace 19 = .ok (.ifCond .eq 8, 3) := by decide +kernel
theorem dX6_misplace_22 : decode cX6_misplace 22 = .ok (.iload_n 1, 1) := by decide +kernel
theorem dX6_misplace_23 : decode cX6_misplace 23 = .ok (.iload_n 2, 1) := by decide +kernel
theorem dX6_misplace_24 : decode cX6_misplace 24 = .ok (.if_icmp .ne 5, 3) := by decide +kernel
theorem dX6_misplace_27 : decode cX6_misplace 27 = .ok (.iconst 0, 1) := by decide +kernel
theorem dX6_misplace_28 : decode cX6_misplace 28 = .ok (.ireturn, 1) := by decide +kernel
theorem dX6_misplace_29 : decode cX6_misplace 29 = .ok (.aload_n 0, 1) := by decide +kernel
theorem dX6_misplace_30 : decode cX6_misplace 30 = .ok (.getfield 47, 3) := by decide +kernel
theorem dX6_misplace_33 : decode cX6_misplace 33 = .ok (.iload_n 1, 1) := by decide +kernel
theorem dX6_misplace_34 : decode cX6_misplace 34 = .ok (.iload_n 2, 1) := by decide +kernel
theorem dX6_misplace_35 : decode cX6_misplace 35 = .ok (.invokevirtual 189, 3) := by decide +kernel
theorem dX6_misplace_38 : decode cX6_misplace 38 = .ok (.aload_n 0, 1) := by decide +kernel
theorem dX6_misplace_39 : decode cX6_misplace 39 = .ok (.iconst 0, 1) := by decide +kernel
theorem dX6_misplace_40 : decode cX6_misplace 40 = .ok (.putfield 59, 3) := by decide +kernel
theorem dX6_misplace_43 : decode cX6_misplace 43 = .ok (.iconst 1, 1) := by decide +kernel
theorem dX6_misplace_44 : decode cX6_misplace 44 = .ok (.ireturn, 1) := by decide +kernel
theorem dX6_takenOut_0 : decode cX6_takenOut 0 = .ok (.aload_n 0, 1) := by decide +kernel
theorem dX6_takenOut_1 : decode cX6_takenOut 1 = .ok (.invokevirtual 193, 3) := by decide +kernel
theorem dX6_takenOut_4 : decode cX6_takenOut 4 = .ok (.aload_n 0, 1) := by decide +kernel
theorem dX6_takenOut_5 : decode cX6_takenOut 5 = .ok (.getfield 47, 3) := by decide +kernel
theorem dX6_takenOut_8 : decode cX6_takenOut 8 = .ok (.getfield 196, 3) := by decide +kernel
theorem dX6_takenOut_11 : decode cX6_takenOut 11 = .ok (.ireturn, 1) := by decide +kernel
theorem dX6_isOut_0 : decode cX6_isOut 0 = .ok (.aload_n 0, 1) := by decide +kernel
theorem dX6_isOut_1 : decode cX6_isOut 1 = .ok (.getfield 47, 3) := by decide +kernel
theorem dX6_isOut_4 : decode cX6_isOut 4 = .ok (.iload_n 1, 1) := by decide +kernel
theorem dX6_isOut_5 : decode cX6_isOut 5 = .ok (.invokevirtual 185, 3) := by decide +kernel
theorem dX6_isOut_8 : decode cX6_isOut 8 = .ok (.ifCond .ne 5, 3) := by decide +kernel
theorem dX6_isOut_11 : decode cX6_isOut 11 = .ok (.iconst (-1), 1) := by decide +kernel
theorem dX6_isOut_12 : decode cX6_isOut 12 = .ok (.ireturn, 1) := by decide +kernel
theorem dX6_isOut_13 : decode cX6_isOut 13 = .ok (.aload_n 0, 1) := by decide +kernel
theorem dX6_isOut_14 : decode cX6_isOut 14 = .ok (.invokevirtual 193, 3) := by decide +kernel
theorem dX6_isOut_17 : decode cX6_isOut 17 = .ok (.aload_n 0, 1) := by decide +kernel
theorem dX6_isOut_18 : decode cX6_isOut 18 = .ok (.getfield 47, 3) := by decide +kernel
theorem dX6_isOut_21 : decode cX6_isOut 21 = .ok (.getfield 199, 3) := by decide +kernel
theorem dX6_isOut_24 : decode cX6_isOut 24 = .ok (.iload_n 1, 1) := by decide +kernel
theorem dX6_isOut_25 : decode cX6_isOut 25 = .ok (.baload, 1) := by decide +kernel
theorem dX6_isOut_26 : decode cX6_isOut 26 = .ok (.ifCond .eq 7, 3) := by decide +kernel
theorem dX6_isOut_29 : decode cX6_isOut 29 = .ok (.iconst 1, 1) := by decide +kernel
theorem dX6_isOut_30 : decode cX6_isOut 30 = .ok (.goto 4, 3) := by decide +kernel
theorem dX6_isOut_33 : decode cX6_isOut 33 = .ok (.iconst 0, 1) := by decide +kernel
theorem dX6_isOut_34 : decode cX6_isOut 34 = .ok (.ireturn, 1) := by decide +kernel
theorem dX6_drawn_0 : decode cX6_drawn 0 = .ok (.aload_n 0, 1) := by decide +kernel
theorem dX6_drawn_1 : decode cX6_drawn 1 = .ok (.getfield 47, 3) := by decide +kernel
theorem dX6_drawn_4 : decode cX6_drawn 4 = .ok (.getfield 184, 3) := by decide +kernel
theorem dX6_drawn_7 : decode cX6_drawn 7 = .ok (.iconst 1, 1) := by decide +kernel
theorem dX6_drawn_8 : decode cX6_drawn 8 = .ok (.isub, 1) := by decide +kernel
theorem dX6_drawn_9 : decode cX6_drawn 9 = .ok (.istore 4, 2) := by decide +kernel
theorem dX6_drawn_11 : decode cX6_drawn 11 = .ok (.iload_n 1, 1) := by decide +kernel
theorem dX6_drawn_12 : decode cX6_drawn 12 = .ok (.iconst 1, 1) := by decide +kernel
theorem dX6_drawn_13 : decode cX6_drawn 13 = .ok (.iload 4, 2) := by decide +kernel
theorem dX6_drawn_15 : decode cX6_drawn 15 = .ok (.invokestatic 69, 3) := by decide +kernel
theorem dX6_drawn_18 : decode cX6_drawn 18 = .ok (.ifCond .eq 12, 3) := by decide +kernel
theorem dX6_drawn_21 : decode cX6_drawn 21 = .ok (.iload_n 3, 1) := by decide +kernel
theorem dX6_drawn_22 : decode cX6_drawn 22 = .ok (.iconst 0, 1) := by decide +kernel
theorem dX6_drawn_23 : decode cX6_drawn 23 = .ok (.iconst 2, 1) := by decide +kernel
theorem dX6_drawn_24 : decode cX6_drawn 24 = .ok (.invokestatic 69, 3) := by decide +kernel
theorem dX6_drawn_27 : decode cX6_drawn 27 = .ok (.ifCond .ne 5, 3) := by decide +kernel
theorem dX6_drawn_30 : decode cX6_drawn 30 = .ok (.iconst (-1), 1) := by decide +kernel
theorem dX6_drawn_31 : decode cX6_drawn 31 = .ok (.ireturn, 1) := by decide +kernel
theorem dX6_drawn_32 : decode cX6_drawn 32 = .ok (.aload_n 0, 1) := by decide +kernel
theorem dX6_drawn_33 : decode cX6_drawn 33 = .ok (.getfield 47, 3) := by decide +kernel
theorem dX6_drawn_36 : decode cX6_drawn 36 = .ok (.iload_n 1, 1) := by decide +kernel
theorem dX6_drawn_37 : decode cX6_drawn 37 = .ok (.iload_n 2, 1) := by decide +kernel
theorem dX6_drawn_38 : decode cX6_drawn 38 = .ok (.aload_n 0, 1) := by decide +kernel
theorem dX6_drawn_39 : decode cX6_drawn 39 = .ok (.getfield 26, 3) := by decide +kernel
theorem dX6_drawn_42 : decode cX6_drawn 42 = .ok (.aload_n 0, 1) := by decide +kernel
theorem dX6_drawn_43 : decode cX6_drawn 43 = .ok (.getfield 51, 3) := by decide +kernel
theorem dX6_drawn_46 : decode cX6_drawn 46 = .ok (.invokevirtual 203, 3) := by decide +kernel
theorem dX6_drawn_49 : decode cX6_drawn 49 = .ok (.istore 5, 2) := by decide +kernel
theorem dX6_drawn_51 : decode cX6_drawn 51 = .ok (.iload_n 3, 1) := by decide +kernel
theorem dX6_drawn_52 : decode cX6_drawn 52 = .ok (.iconst 2, 1) := by decide +kernel
theorem dX6_drawn_53 : decode cX6_drawn 53 = .ok (.if_icmp .ne 13, 3) := by decide +kernel
theorem dX6_drawn_56 : decode cX6_drawn 56 = .ok (.iload 5, 2) := by decide +kernel
theorem dX6_drawn_58 : decode cX6_drawn 58 = .ok (.iload 4, 2) := by decide +kernel
theorem dX6_drawn_60 : decode cX6_drawn 60 = .ok (.iadd, 1) := by decide +kernel
theorem dX6_drawn_61 : decode cX6_drawn 61 = .ok (.iload_n 1, 1) := by decide +kernel
theorem dX6_drawn_62 : decode cX6_drawn 62 = .ok (.isub, 1) := by decide +kernel
theorem dX6_drawn_63 : decode cX6_drawn 63 = .ok (.goto 5, 3) := by decide +kernel
theorem dX6_drawn_66 : decode cX6_drawn 66 = .ok (.iload 5, 2) := by decide +kernel
theorem dX6_drawn_68 : decode cX6_drawn 68 = .ok (.ireturn, 1) := by decide +kernel
theorem dX6_about_0 : decode cX6_about 0 = .ok (.iload_n 1, 1) := by decide +kernel
theorem dX6_about_1 : decode cX6_about 1 = .ok (.bipush 10, 2) := by decide +kernel
theorem dX6_about_3 : decode cX6_about 3 = .ok (.bipush 19, 2) := by decide +kernel
theorem dX6_about_5 : decode cX6_about 5 = .ok (.invokestatic 69, 3) := by decide +kernel
theorem dX6_about_8 : decode cX6_about 8 = .ok (.ifCond .eq 16, 3) := by decide +kernel
theorem dX6_about_11 : decode cX6_about 11 = .ok (.aload_n 0, 1) := by decide +kernel
theorem dX6_about_12 : decode cX6_about 12 = .ok (.getfield 33, 3) := by decide +kernel
theorem dX6_about_15 : decode cX6_about 15 = .ok (.getfield 116, 3) := by decide +kernel
theorem dX6_about_18 : decode cX6_about 18 = .ok (.iload_n 1, 1) := by decide +kernel
theorem dX6_about_19 : decode cX6_about 19 = .ok (.bipush 10, 2) := by decide +kernel
theorem dX6_about_21 : decode cX6_about 21 = .ok (.isub, 1) := by decide +kernel
theorem dX6_about_22 : decode cX6_about 22 = .ok (.iaload, 1) := by decide +kernel
theorem dX6_about_23 : decode cX6_about 23 = .ok (.ireturn, 1) := by decide +kernel
theorem dX6_about_24 : decode cX6_about 24 = .ok (.iload_n 1, 1) := by decide +kernel
theorem dX6_about_25 : decode cX6_about 25 = .ok (.bipush 20, 2) := by decide +kernel
theorem dX6_about_27 : decode cX6_about 27 = .ok (.bipush 24, 2) := by decide +kernel
theorem dX6_about_29 : decode cX6_about 29 = .ok (.invokestatic 69, 3) := by decide +kernel
theorem dX6_about_32 : decode cX6_about 32 = .ok (.ifCond .eq 16, 3) := by decide +kernel
theorem dX6_about_35 : decode cX6_about 35 = .ok (.aload_n 0, 1) := by decide +kernel
theorem dX6_about_36 : decode cX6_about 36 = .ok (.getfield 40, 3) := by decide +kernel
theorem dX6_about_39 : decode cX6_about 39 = .ok (.getfield 145, 3) := by decide +kernel
theorem dX6_about_42 : decode cX6_about 42 = .ok (.iload_n 1, 1) := by decide +kernel
theorem dX6_about_43 : decode cX6_about 43 = .ok (.bipush 20, 2) := by decide +kernel
theorem dX6_about_45 : decode cX6_about 45 = .ok (.isub, 1) := by decide +kernel
theorem dX6_about_46 : decode cX6_about 46 = .ok (.iaload, 1) := by decide +kernel
theorem dX6_about_47 : decode cX6_about 47 = .ok (.ireturn, 1) := by decide +kernel
theorem dX6_about_48 : decode cX6_about 48 = .ok (.iload_n 1, 1) := by decide +kernel
theorem dX6_about_49 : decode cX6_about 49 = .ok (.tableswitch 96 0 6 #[43, 51, 59, 64, 72, 80, 88], 43) := by decide +kernel
theorem dX6_about_92 : decode cX6_about 92 = .ok (.aload_n 0, 1) := by decide +kernel
theorem dX6_about_93 : decode cX6_about 93 = .ok (.getfield 26, 3) := by decide +kernel
theorem dX6_about_96 : decode cX6_about 96 = .ok (.getfield 73, 3) := by decide +kernel
theorem dX6_about_99 : decode cX6_about 99 = .ok (.ireturn, 1) := by decide +kernel
theorem dX6_about_100 : decode cX6_about 100 = .ok (.aload_n 0, 1) := by decide +kernel
theorem dX6_about_101 : decode cX6_about 101 = .ok (.getfield 33, 3) := by decide +kernel
theorem dX6_about_104 : decode cX6_about 104 = .ok (.getfield 106, 3) := by decide +kernel
theorem dX6_about_107 : decode cX6_about 107 = .ok (.ireturn, 1) := by decide +kernel
theorem dX6_about_108 : decode cX6_about 108 = .ok (.aload_n 0, 1) := by decide +kernel
theorem dX6_about_109 : decode cX6_about 109 = .ok (.getfield 51, 3) := by decide +kernel
theorem dX6_about_112 : decode cX6_about 112 = .ok (.ireturn, 1) := by decide +kernel
theorem dX6_about_113 : decode cX6_about 113 = .ok (.aload_n 0, 1) := by decide +kernel
theorem dX6_about_114 : decode cX6_about 114 = .ok (.getfield 33, 3) := by decide +kernel
theorem dX6_about_117 : decode cX6_about 117 = .ok (.getfield 110, 3) := by decide +kernel
theorem dX6_about_120 : decode cX6_about 120 = .ok (.ireturn, 1) := by decide +kernel
theorem dX6_about_121 : decode cX6_about 121 = .ok (.aload_n 0, 1) := by decide +kernel
theorem dX6_about_122 : decode cX6_about 122 = .ok (.getfield 40, 3) := by decide +kernel
theorem dX6_about_125 : decode cX6_about 125 = .ok (.getfield 113, 3) := by decide +kernel
theorem dX6_about_128 : decode cX6_about 128 = .ok (.ireturn, 1) := by decide +kernel
theorem dX6_about_129 : decode cX6_about 129 = .ok (.aload_n 0, 1) := by decide +kernel
theorem dX6_about_130 : decode cX6_about 130 = .ok (.getfield 47, 3) := by decide +kernel
theorem dX6_about_133 : decode cX6_about 133 = .ok (.getfield 184, 3) := by decide +kernel
theorem dX6_about_136 : decode cX6_about 136 = .ok (.ireturn, 1) := by decide +kernel
theorem dX6_about_137 : decode cX6_about 137 = .ok (.aload_n 0, 1) := by decide +kernel
theorem dX6_about_138 : decode cX6_about 138 = .ok (.getfield 10, 3) := by decide +kernel
theorem dX6_about_141 : decode cX6_about 141 = .ok (.getfield 62, 3) := by decide +kernel
theorem dX6_about_144 : decode cX6_about 144 = .ok (.ireturn, 1) := by decide +kernel
theorem dX6_about_145 : decode cX6_about 145 = .ok (.iconst (-1), 1) := by decide +kernel
theorem dX6_about_146 : decode cX6_about 146 = .ok (.ireturn, 1) := by decide +kernel
theorem dX6_within_0 : decode cX6_within 0 = .ok (.iload_n 0, 1) := by decide +kernel
theorem dX6_within_1 : decode cX6_within 1 = .ok (.iload_n 1, 1) := by decide +kernel
theorem dX6_within_2 : decode cX6_within 2 = .ok (.if_icmp .lt 12, 3) := by decide +kernel
theorem dX6_within_5 : decode cX6_within 5 = .ok (.iload_n 0, 1) := by decide +kernel
theorem dX6_within_6 : decode cX6_within 6 = .ok (.iload_n 2, 1) := by decide +kernel
theorem dX6_within_7 : decode cX6_within 7 = .ok (.if_icmp .gt 7, 3) := by decide +kernel
theorem dX6_within_10 : decode cX6_within 10 = .ok (.iconst 1, 1) := by decide +kernel
theorem dX6_within_11 : decode cX6_within 11 = .ok (.goto 4, 3) := by decide +kernel
theorem dX6_within_14 : decode cX6_within 14 = .ok (.iconst 0, 1) := by decide +kernel
theorem dX6_within_15 : decode cX6_within 15 = .ok (.ireturn, 1) := by decide +kernel
theorem dX6_isRule_0 : decode cX6_isRule 0 = .ok (.iload_n 0, 1) := by decide +kernel
theorem dX6_isRule_1 : decode cX6_isRule 1 = .ok (.iconst 0, 1) := by decide +kernel
theorem dX6_isRule_2 : decode cX6_isRule 2 = .ok (.iconst 1, 1) := by decide +kernel
theorem dX6_isRule_3 : decode cX6_isRule 3 = .ok (.invokestatic 69, 3) := by decide +kernel
theorem dX6_isRule_6 : decode cX6_isRule 6 = .ok (.ireturn, 1) := by decide +kernel
theorem dX6_forgetWhatFollows_0 : decode cX6_forgetWhatFollows 0 = .ok (.aload_n 0, 1) := by decide +kernel
theorem dX6_forgetWhatFollows_1 : decode cX6_forgetWhatFollows 1 = .ok (.iconst 0, 1) := by decide +kernel
theorem dX6_forgetWhatFollows_2 : decode cX6_forgetWhatFollows 2 = .ok (.putfield 55, 3) := by decide +kernel
theorem dX6_forgetWhatFollows_5 : decode cX6_forgetWhatFollows 5 = .ok (.aload_n 0, 1) := by decide +kernel
theorem dX6_forgetWhatFollows_6 : decode cX6_forgetWhatFollows 6 = .ok (.iconst 0, 1) := by decide +kernel
theorem dX6_forgetWhatFollows_7 : decode cX6_forgetWhatFollows 7 = .ok (.putfield 59, 3) := by decide +kernel
theorem dX6_forgetWhatFollows_10 : decode cX6_forgetWhatFollows 10 = .ok (.return_, 1) := by decide +kernel
theorem dX6_makePlans_0 : decode cX6_makePlans 0 = .ok (.aload_n 0, 1) := by decide +kernel
theorem dX6_makePlans_1 : decode cX6_makePlans 1 = .ok (.getfield 55, 3) := by decide +kernel
theorem dX6_makePlans_4 : decode cX6_makePlans 4 = .ok (.ifCond .ne 45, 3) := by decide +kernel
theorem dX6_makePlans_7 : decode cX6_makePlans 7 = .ok (.aload_n 0, 1) := by decide +kernel
theorem dX6_makePlans_8 : decode cX6_makePlans 8 = .ok (.getfield 33, 3) := by decide +kernel
theorem dX6_makePlans_11 : decode cX6_makePlans 11 = .ok (.aload_n 0, 1) := by decide +kernel
theorem dX6_makePlans_12 : decode cX6_makePlans 12 = .ok (.getfield 26, 3) := by decide +kernel
theorem dX6_makePlans_15 : decode cX6_makePlans 15 = .ok (.aload_n 0, 1) := by decide +kernel
theorem dX6_makePlans_16 : decode cX6_makePlans 16 = .ok (.getfield 51, 3) := by decide +kernel
theorem dX6_makePlans_19 : decode cX6_makePlans 19 = .ok (.invokevirtual 207, 3) := by decide +kernel
theorem dX6_makePlans_22 : decode cX6_makePlans 22 = .ok (.aload_n 0, 1) := by decide +kernel
theorem dX6_makePlans_23 : decode cX6_makePlans 23 = .ok (.getfield 40, 3) := by decide +kernel
theorem dX6_makePlans_26 : decode cX6_makePlans 26 = .ok (.aload_n 0, 1) := by decide +kernel
theorem dX6_makePlans_27 : decode cX6_makePlans 27 = .ok (.getfield 26, 3) := by decide +kernel
theorem dX6_makePlans_30 : decode cX6_makePlans 30 = .ok (.aload_n 0, 1) := by decide +kernel
theorem dX6_makePlans_31 : decode cX6_makePlans 31 = .ok (.getfield 51, 3) := by decide +kernel
theorem dX6_makePlans_34 : decode cX6_makePlans 34 = .ok (.invokevirtual 211, 3) := by decide +kernel
theorem dX6_makePlans_37 : decode cX6_makePlans 37 = .ok (.aload_n 0, 1) := by decide +kernel
theorem dX6_makePlans_38 : decode cX6_makePlans 38 = .ok (.getfield 40, 3) := by decide +kernel
theorem dX6_makePlans_41 : decode cX6_makePlans 41 = .ok (.invokevirtual 214, 3) := by decide +kernel
theorem dX6_makePlans_44 : decode cX6_makePlans 44 = .ok (.aload_n 0, 1) := by decide +kernel
theorem dX6_makePlans_45 : decode cX6_makePlans 45 = .ok (.iconst 1, 1) := by decide +kernel
theorem dX6_makePlans_46 : decode cX6_makePlans 46 = .ok (.putfield 55, 3) := by decide +kernel
theorem dX6_makePlans_49 : decode cX6_makePlans 49 = .ok (.return_, 1) := by decide +kernel
theorem dX6_lookThrough_0 : decode cX6_lookThrough 0 = .ok (.aload_n 0, 1) := by decide +kernel
theorem dX6_lookThrough_1 : decode cX6_lookThrough 1 = .ok (.getfield 59, 3) := by decide +kernel
theorem dX6_lookThrough_4 : decode cX6_lookThrough 4 = .ok (.ifCond .ne 23, 3) := by decide +kernel
theorem dX6_lookThrough_7 : decode cX6_lookThrough 7 = .ok (.aload_n 0, 1) := by decide +kernel
theorem dX6_lookThrough_8 : decode cX6_lookThrough 8 = .ok (.getfield 47, 3) := by decide +kernel
theorem dX6_lookThrough_11 : decode cX6_lookThrough 11 = .ok (.aload_n 0, 1) := by decide +kernel
theorem dX6_lookThrough_12 : decode cX6_lookThrough 12 = .ok (.getfield 26, 3) := by decide +kernel
theorem dX6_lookThrough_15 : decode cX6_lookThrough 15 = .ok (.aload_n 0, 1) := by decide +kernel
theorem dX6_lookThrough_16 : decode cX6_lookThrough 16 = .ok (.getfield 51, 3) := by decide +kernel
theorem dX6_lookThrough_19 : decode cX6_lookThrough 19 = .ok (.invokevirtual 217, 3) := by decide +kernel
theorem dX6_lookThrough_22 : decode cX6_lookThrough 22 = .ok (.aload_n 0, 1) := by decide +kernel
theorem dX6_lookThrough_23 : decode cX6_lookThrough 23 = .ok (.iconst 1, 1) := by decide +kernel
theorem dX6_lookThrough_24 : decode cX6_lookThrough 24 = .ok (.putfield 59, 3) := by decide +kernel
theorem dX6_lookThrough_27 : decode cX6_lookThrough 27 = .ok (.return_, 1) := by decide +kernel
theorem dX7_init_0 : decode cX7_init 0 = .ok (.aload_n 0, 1) := by decide +kernel
theorem dX7_init_1 : decode cX7_init 1 = .ok (.invokespecial 1, 3) := by decide +kernel
theorem dX7_init_4 : decode cX7_init 4 = .ok (.aload_n 0, 1) := by decide +kernel
theorem dX7_init_5 : decode cX7_init 5 = .ok (.bipush 30, 2) := by decide +kernel
theorem dX7_init_7 : decode cX7_init 7 = .ok (.putfield 7, 3) := by decide +kernel
theorem dX7_init_10 : decode cX7_init 10 = .ok (.aload_n 0, 1) := by decide +kernel
theorem dX7_init_11 : decode cX7_init 11 = .ok (.bipush 100, 2) := by decide +kernel
theorem dX7_init_13 : decode cX7_init 13 = .ok (.putfield 13, 3) := by decide +kernel
theorem dX7_init_16 : decode cX7_init 16 = .ok (.aload_n 0, 1) := by decide +kernel
theorem dX7_init_17 : decode cX7_init 17 = .ok (.bipush 60, 2) := by decide +kernel
theorem dX7_init_19 : decode cX7_init 19 = .ok (.newarray .int, 2) := by decide +kernel
theorem dX7_init_21 : decode cX7_init 21 = .ok (.putfield 16, 3) := by decide +kernel
theorem dX7_init_24 : decode cX7_init 24 = .ok (.aload_n 0, 1) := by decide +kernel
theorem dX7_init_25 : decode cX7_init 25 = .ok (.bipush 60, 2) := by decide +kernel
theorem dX7_init_27 : decode cX7_init 27 = .ok (.newarray .int, 2) := by decide +kernel
theorem dX7_init_29 : decode cX7_init 29 = .ok (.putfield 20, 3) := by decide +kernel
theorem dX7_init_32 : decode cX7_init 32 = .ok (.aload_n 0, 1) := by decide +kernel
theorem dX7_init_33 : decode cX7_init 33 = .ok (.bipush 60, 2) := by decide +kernel
theorem dX7_init_35 : decode cX7_init 35 = .ok (.newarray .int, 2) := by decide +kernel
theorem dX7_init_37 : decode cX7_init 37 = .ok (.putfield 23, 3) := by decide +kernel
theorem dX7_init_40 : decode cX7_init 40 = .ok (.aload_n 0, 1) := by decide +kernel
theorem dX7_init_41 : decode cX7_init 41 = .ok (.bipush 60, 2) := by decide +kernel
theorem dX7_init_43 : decode cX7_init 43 = .ok (.newarray .int, 2) := by decide +kernel
theorem dX7_init_45 : decode cX7_init 45 = .ok (.putfield 26, 3) := by decide +kernel
theorem dX7_init_48 : decode cX7_init 48 = .ok (.aload_n 0, 1) := by decide +kernel
theorem dX7_init_49 : decode cX7_init 49 = .ok (.bipush 60, 2) := by decide +kernel
theorem dX7_init_51 : decode cX7_init 51 = .ok (.newarray .int, 2) := by decide +kernel
theorem dX7_init_53 : decode cX7_init 53 = .ok (.putfield 29, 3) := by decide +kernel
theorem dX7_init_56 : decode cX7_init 56 = .ok (.aload_n 0, 1) := by decide +kernel
theorem dX7_init_57 : decode cX7_init 57 = .ok (.bipush 60, 2) := by decide +kernel
theorem dX7_init_59 : decode cX7_init 59 = .ok (.newarray .int, 2) := by decide +kernel
theorem dX7_init_61 : decode cX7_init 61 = .ok (.putfield 32, 3) := by decide +kernel
theorem dX7_init_64 : decode cX7_init 64 = .ok (.aload_n 0, 1) := by decide +kernel
theorem dX7_init_65 : decode cX7_init 65 = .ok (.bipush 60, 2) := by decide +kernel
theorem dX7_init_67 : decode cX7_init 67 = .ok (.newarray .int, 2) := by decide +kernel
theorem dX7_init_69 : decode cX7_init 69 = .ok (.putfield 35, 3) := by decide +kernel
theorem dX7_init_72 : decode cX7_init 72 = .ok (.aload_n 0, 1) := by decide +kernel
theorem dX7_init_73 : decode cX7_init 73 = .ok (.bipush 16, 2) := by decide +kernel
theorem dX7_init_75 : decode cX7_init 75 = .ok (.newarray .int, 2) := by decide +kernel
theorem dX7_init_77 : decode cX7_init 77 = .ok (.putfield 38, 3) := by decide +kernel
theorem dX7_init_80 : decode cX7_init 80 = .ok (.aload_n 0, 1) := by decide +kernel
theorem dX7_init_81 : decode cX7_init 81 = .ok (.bipush 10, 2) := by decide +kernel
theorem dX7_init_83 : decode cX7_init 83 = .ok (.newarray .int, 2) := by decide +kernel
theorem dX7_init_85 : decode cX7_init 85 = .ok (.putfield 41, 3) := by decide +kernel
theorem dX7_init_88 : decode cX7_init 88 = .ok (.aload_n 0, 1) := by decide +kernel
theorem dX7_init_89 : decode cX7_init 89 = .ok (.iconst 5, 1) := by decide +kernel
theorem dX7_init_90 : decode cX7_init 90 = .ok (.newarray .int, 2) := by decide +kernel
theorem dX7_init_92 : decode cX7_init 92 = .ok (.dup, 1) := by decide +kernel
theorem dX7_init_93 : decode cX7_init 93 = .ok (.iconst 0, 1) := by decide +kernel
theorem dX7_init_94 : decode cX7_init 94 = .ok (.bipush 10, 2) := by decide +kernel
theorem dX7_init_96 : decode cX7_init 96 = .ok (.iastore, 1) := by decide +kernel
theorem dX7_init_97 : decode cX7_init 97 = .ok (.dup, 1) := by decide +kernel
theorem dX7_init_98 : decode cX7_init 98 = .ok (.iconst 1, 1) := by decide +kernel
theorem dX7_init_99 : decode cX7_init 99 = .ok (.bipush 10, 2) := by decide +kernel
theorem dX7_init_101 : decode cX7_init 101 = .ok (.iastore, 1) := by decide +kernel
theorem dX7_init_102 : decode cX7_init 102 = .ok (.dup, 1) := by decide +kernel
theorem dX7_init_103 : decode cX7_init 103 = .ok (.iconst 2, 1) := by decide +kernel
theorem dX7_init_104 : decode cX7_init 104 = .ok (.bipush 10, 2) := by decide +kernel
theorem dX7_init_106 : decode cX7_init 106 = .ok (.iastore, 1) := by decide +kernel
theorem dX7_init_107 : decode cX7_init 107 = .ok (.dup, 1) := by decide +kernel
theorem dX7_init_108 : decode cX7_init 108 = .ok (.iconst 3, 1) := by decide +kernel
theorem dX7_init_109 : decode cX7_init 109 = .ok (.bipush 10, 2) := by decide +kernel
theorem dX7_init_111 : decode cX7_init 111 = .ok (.iastore, 1) := by decide +kernel
theorem dX7_init_112 : decode cX7_init 112 = .ok (.dup, 1) := by decide +kernel
theorem dX7_init_113 : decode cX7_init 113 = .ok (.iconst 4, 1) := by decide +kernel
theorem dX7_init_114 : decode cX7_init 114 = .ok (.bipush 10, 2) := by decide +kernel
theorem dX7_init_116 : decode cX7_init 116 = .ok (.iastore, 1) := by decide +kernel
theorem dX7_init_117 : decode cX7_init 117 = .ok (.putfield 44, 3) := by decide +kernel
theorem dX7_init_120 : decode cX7_init 120 = .ok (.aload_n 0, 1) := by decide +kernel
theorem dX7_init_121 : decode cX7_init 121 = .ok (.bipush 20, 2) := by decide +kernel
theorem dX7_init_123 : decode cX7_init 123 = .ok (.newarray .int, 2) := by decide +kernel
theorem dX7_init_125 : decode cX7_init 125 = .ok (.putfield 47, 3) := by decide +kernel
theorem dX7_init_128 : decode cX7_init 128 = .ok (.aload_n 0, 1) := by decide +kernel
theorem dX7_init_129 : decode cX7_init 129 = .ok (.iconst (-1), 1) := by decide +kernel
theorem dX7_init_130 : decode cX7_init 130 = .ok (.putfield 50, 3) := by decide +kernel
theorem dX7_init_133 : decode cX7_init 133 = .ok (.aload_n 0, 1) := by decide +kernel
theorem dX7_init_134 : decode cX7_init 134 = .ok (.bipush 60, 2) := by decide +kernel
theorem dX7_init_136 : decode cX7_init 136 = .ok (.newarray .int, 2) := by decide +kernel
theorem dX7_init_138 : decode cX7_init 138 = .ok (.putfield 53, 3) := by decide +kernel
theorem dX7_init_141 : decode cX7_init 141 = .ok (.aload_n 0, 1) := by decide +kernel
theorem dX7_init_142 : decode cX7_init 142 = .ok (.bipush 60, 2) := by decide +kernel
theorem dX7_init_144 : decode cX7_init 144 = .ok (.newarray .int, 2) := by decide +kernel
theorem dX7_init_146 : decode cX7_init 146 = .ok (.putfield 56, 3) := by decide +kernel
theorem dX7_init_149 : decode cX7_init 149 = .ok (.aload_n 0, 1) := by decide +kernel
theorem dX7_init_150 : decode cX7_init 150 = .ok (.bipush 60, 2) := by decide +kernel
theorem dX7_init_152 : decode cX7_init 152 = .ok (.newarray .int, 2) := by decide +kernel
theorem dX7_init_154 : decode cX7_init 154 = .ok (.putfield 59, 3) := by decide +kernel
theorem dX7_init_157 : decode cX7_init 157 = .ok (.aload_n 0, 1) := by decide +kernel
theorem dX7_init_158 : decode cX7_init 158 = .ok (.bipush 16, 2) := by decide +kernel
theorem dX7_init_160 : decode cX7_init 160 = .ok (.newarray .int, 2) := by decide +kernel
theorem dX7_init_162 : decode cX7_init 162 = .ok (.putfield 62, 3) := by decide +kernel
theorem dX7_init_165 : decode cX7_init 165 = .ok (.aload_n 0, 1) := by decide +kernel
theorem dX7_init_166 : decode cX7_init 166 = .ok (.bipush 16, 2) := by decide +kernel
theorem dX7_init_168 : decode cX7_init 168 = .ok (.newarray .int, 2) := by decide +kernel
theorem dX7_init_170 : decode cX7_init 170 = .ok (.putfield 65, 3) := by decide +kernel
theorem dX7_init_173 : decode cX7_init 173 = .ok (.aload_n 0, 1) := by decide +kernel
theorem dX7_init_174 : decode cX7_init 174 = .ok (.bipush 60, 2) := by decide +kernel
theorem dX7_init_176 : decode cX7_init 176 = .ok (.newarray .int, 2) := by decide +kernel
theorem dX7_init_178 : decode cX7_init 178 = .ok (.putfield 68, 3) := by decide +kernel
theorem dX7_init_181 : decode cX7_init 181 = .ok (.aload_n 0, 1) := by decide +kernel
theorem dX7_init_182 : decode cX7_init 182 = .ok (.bipush 60, 2) := by decide +kernel
theorem dX7_init_184 : decode cX7_init 184 = .ok (.newarray .int, 2) := by decide +kernel
theorem dX7_init_186 : decode cX7_init 186 = .ok (.putfield 71, 3) := by decide +kernel
theorem dX7_init_189 : decode cX7_init 189 = .ok (.aload_n 0, 1) := by decide +kernel
theorem dX7_init_190 : decode cX7_init 190 = .ok (.bipush 60, 2) := by decide +kernel
theorem dX7_init_192 : decode cX7_init 192 = .ok (.newarray .int, 2) := by decide +kernel
theorem dX7_init_194 : decode cX7_init 194 = .ok (.putfield 74, 3) := by decide +kernel
theorem dX7_init_197 : decode cX7_init 197 = .ok (.aload_n 0, 1) := by decide +kernel
theorem dX7_init_198 : decode cX7_init 198 = .ok (.bipush 60, 2) := by decide +kernel
theorem dX7_init_200 : decode cX7_init 200 = .ok (.newarray .int, 2) := by decide +kernel
theorem dX7_init_202 : decode cX7_init 202 = .ok (.putfield 77, 3) := by decide +kernel
theorem dX7_init_205 : decode cX7_init 205 = .ok (.aload_n 0, 1) := by decide +kernel
theorem dX7_init_206 : decode cX7_init 206 = .ok (.bipush 60, 2) := by decide +kernel
theorem dX7_init_208 : decode cX7_init 208 = .ok (.newarray .int, 2) := by decide +kernel
theorem dX7_init_210 : decode cX7_init 210 = .ok (.putfield 80, 3) := by decide +kernel
theorem dX7_init_213 : decode cX7_init 213 = .ok (.aload_n 0, 1) := by decide +kernel
theorem dX7_init_214 : decode cX7_init 214 = .ok (.bipush 60, 2) := by decide +kernel
theorem dX7_init_216 : decode cX7_init 216 = .ok (.newarray .int, 2) := by decide +kernel
theorem dX7_init_218 : decode cX7_init 218 = .ok (.putfield 83, 3) := by decide +kernel
theorem dX7_init_221 : decode cX7_init 221 = .ok (.aload_n 0, 1) := by decide +kernel
theorem dX7_init_222 : decode cX7_init 222 = .ok (.bipush 60, 2) := by decide +kernel
theorem dX7_init_224 : decode cX7_init 224 = .ok (.newarray .int, 2) := by decide +kernel
theorem dX7_init_226 : decode cX7_init 226 = .ok (.putfield 86, 3) := by decide +kernel
theorem dX7_init_229 : decode cX7_init 229 = .ok (.aload_n 0, 1) := by decide +kernel
theorem dX7_init_230 : decode cX7_init 230 = .ok (.bipush 60, 2) := by decide +kernel
theorem dX7_init_232 : decode cX7_init 232 = .ok (.newarray .int, 2) := by decide +kernel
theorem dX7_init_234 : decode cX7_init 234 = .ok (.putfield 89, 3) := by decide +kernel
theorem dX7_init_237 : decode cX7_init 237 = .ok (.aload_n 0, 1) := by decide +kernel
theorem dX7_init_238 : decode cX7_init 238 = .ok (.bipush 60, 2) := by decide +kernel
theorem dX7_init_240 : decode cX7_init 240 = .ok (.newarray .boolean, 2) := by decide +kernel
theorem dX7_init_242 : decode cX7_init 242 = .ok (.putfield 92, 3) := by decide +kernel
theorem dX7_init_245 : decode cX7_init 245 = .ok (.aload_n 0, 1) := by decide +kernel
theorem dX7_init_246 : decode cX7_init 246 = .ok (.bipush 60, 2) := by decide +kernel
theorem dX7_init_248 : decode cX7_init 248 = .ok (.newarray .int, 2) := by decide +kernel
theorem dX7_init_250 : decode cX7_init 250 = .ok (.putfield 96, 3) := by decide +kernel
theorem dX7_init_253 : decode cX7_init 253 = .ok (.return_, 1) := by decide +kernel
theorem dX7_isIn_0 : decode cX7_isIn 0 = .ok (.iload_n 0, 1) := by decide +kernel
theorem dX7_isIn_1 : decode cX7_isIn 1 = .ok (.iload_n 1, 1) := by decide +kernel
theorem dX7_isIn_2 : decode cX7_isIn 2 = .ok (.if_icmp .lt 12, 3) := by decide +kernel
theorem dX7_isIn_5 : decode cX7_isIn 5 = .ok (.iload_n 0, 1) := by decide +kernel
theorem dX7_isIn_6 : decode cX7_isIn 6 = .ok (.iload_n 2, 1) := by decide +kernel
theorem dX7_isIn_7 : decode cX7_isIn 7 = .ok (.if_icmp .gt 7, 3) := by decide +kernel
theorem dX7_isIn_10 : decode cX7_isIn 10 = .ok (.iconst 1, 1) := by decide +kernel
theorem dX7_isIn_11 : decode cX7_isIn 11 = .ok (.goto 4, 3) := by decide +kernel
theorem dX7_isIn_14 : decode cX7_isIn 14 = .ok (.iconst 0, 1) := by decide +kernel
theorem dX7_isIn_15 : decode cX7_isIn 15 = .ok (.ireturn, 1) := by decide +kernel
theorem dX7_isBook_0 : decode cX7_isBook 0 = .ok (.iload_n 1, 1) := by decide +kernel
theorem dX7_isBook_1 : decode cX7_isBook 1 = .ok (.iconst 0, 1) := by decide +kernel
theorem dX7_isBook_2 : decode cX7_isBook 2 = .ok (.aload_n 0, 1) := by decide +kernel
theorem dX7_isBook_3 : decode cX7_isBook 3 = .ok (.getfield 99, 3) := by decide +kernel
theorem dX7_isBook_6 : decode cX7_isBook 6 = .ok (.iconst 1, 1) := by decide +kernel
theorem dX7_isBook_7 : decode cX7_isBook 7 = .ok (.isub, 1) := by decide +kernel
theorem dX7_isBook_8 : decode cX7_isBook 8 = .ok (.invokestatic 102, 3) := by decide +kernel
theorem dX7_isBook_11 : decode cX7_isBook 11 = .ok (.ireturn, 1) := by decide +kernel
theorem dX7_four_0 : decode cX7_four 0 = .ok (.bipush 24, 2) := by decide +kernel
theorem dX7_four_2 : decode cX7_four 2 = .ok (.istore_n 2, 1) := by decide +kernel
theorem dX7_four_3 : decode cX7_four 3 = .ok (.iload_n 2, 1) := by decide +kernel
theorem dX7_four_4 : decode cX7_four 4 = .ok (.ifCond .lt 35, 3) := by decide +kernel
theorem dX7_four_7 : decode cX7_four 7 = .ok (.aload_n 0, 1) := by decide +kernel
theorem dX7_four_8 : decode cX7_four 8 = .ok (.getfield 47, 3) := by decide +kernel
theorem dX7_four_11 : decode cX7_four 11 = .ok (.aload_n 0, 1) := by decide +kernel
theorem dX7_four_12 : decode cX7_four 12 = .ok (.getfield 106, 3) := by decide +kernel
theorem dX7_four_15 : decode cX7_four 15 = .ok (.iload_n 1, 1) := by decide +kernel
theorem dX7_four_16 : decode cX7_four 16 = .ok (.iload_n 2, 1) := by decide +kernel
theorem dX7_four_17 : decode cX7_four 17 = .ok (.ishr, 1) := by decide +kernel
theorem dX7_four_18 : decode cX7_four 18 = .ok (.sipush 255, 3) := by decide +kernel
theorem dX7_four_21 : decode cX7_four 21 = .ok (.iand, 1) := by decide +kernel
theorem dX7_four_22 : decode cX7_four 22 = .ok (.iastore, 1) := by decide +kernel
