theorem dX10_wall_3 : decode cX10_wall 3 = .ok (.invokevirtual 236, 3) := by decide +kernel
theorem dX10_wall_6 : decode cX10_wall 6 = .ok (.ifCond .ne 7, 3) := by decide +kernel
theorem dX10_wall_9 : decode cX10_wall 9 = .ok (.iconst 1, 1) := by decide +kernel
theorem dX10_wall_10 : decode cX10_wall 10 = .ok (.goto 27, 3) := by decide +kernel
theorem dX10_wall_13 : decode cX10_wall 13 = .ok (.iload_n 2, 1) := by decide +kernel
theorem dX10_wall_14 : decode cX10_wall 14 = .ok (.iconst 0, 1) := by decide +kernel
theorem dX10_wall_15 : decode cX10_wall 15 = .ok (.iconst 1, 1) := by decide +kernel
theorem dX10_wall_16 : decode cX10_wall 16 = .ok (.invokestatic 152, 3) := by decide +kernel
theorem dX10_wall_19 : decode cX10_wall 19 = .ok (.ifCond .eq 13, 3) := by decide +kernel
theorem dX10_wall_22 : decode cX10_wall 22 = .ok (.iload_n 3, 1) := by decide +kernel
theorem dX10_wall_23 : decode cX10_wall 23 = .ok (.iconst 0, 1) := by decide +kernel
theorem dX10_wall_24 : decode cX10_wall 24 = .ok (.ldc 251, 2) := by decide +kernel
theorem dX10_wall_26 : decode cX10_wall 26 = .ok (.invokestatic 152, 3) := by decide +kernel
theorem dX10_wall_29 : decode cX10_wall 29 = .ok (.ifCond .ne 7, 3) := by decide +kernel
theorem dX10_wall_32 : decode cX10_wall 32 = .ok (.iconst 2, 1) := by decide +kernel
theorem dX10_wall_33 : decode cX10_wall 33 = .ok (.goto 4, 3) := by decide +kernel
theorem dX10_wall_36 : decode cX10_wall 36 = .ok (.iconst 0, 1) := by decide +kernel
theorem dX10_wall_37 : decode cX10_wall 37 = .ok (.invokevirtual 227, 3) := by decide +kernel
theorem dX10_wall_40 : decode cX10_wall 40 = .ok (.ifCond .eq 5, 3) := by decide +kernel
theorem dX10_wall_43 : decode cX10_wall 43 = .ok (.iconst 0, 1) := by decide +kernel
theorem dX10_wall_44 : decode cX10_wall 44 = .ok (.ireturn, 1) := by decide +kernel
theorem dX10_wall_45 : decode cX10_wall 45 = .ok (.aload_n 0, 1) := by decide +kernel
theorem dX10_wall_46 : decode cX10_wall 46 = .ok (.iload_n 1, 1) := by decide +kernel
theorem dX10_wall_47 : decode cX10_wall 47 = .ok (.iload_n 2, 1) := by decide +kernel
theorem dX10_wall_48 : decode cX10_wall 48 = .ok (.iload_n 3, 1) := by decide +kernel
theorem dX10_wall_49 : decode cX10_wall 49 = .ok (.invokevirtual 252, 3) := by decide +kernel
theorem dX10_wall_52 : decode cX10_wall 52 = .ok (.ireturn, 1) := by decide +kernel
theorem dX10_corner_0 : decode cX10_corner 0 = .ok (.aload_n 0, 1) := by decide +kernel
theorem dX10_corner_1 : decode cX10_corner 1 = .ok (.aload_n 0, 1) := by decide +kernel
theorem dX10_corner_2 : decode cX10_corner 2 = .ok (.iload_n 1, 1) := by decide +kernel
theorem dX10_corner_3 : decode cX10_corner 3 = .ok (.iload_n 2, 1) := by decide +kernel
theorem dX10_corner_4 : decode cX10_corner 4 = .ok (.invokevirtual 242, 3) := by decide +kernel
theorem dX10_corner_7 : decode cX10_corner 7 = .ok (.invokevirtual 227, 3) := by decide +kernel
theorem dX10_corner_10 : decode cX10_corner 10 = .ok (.ifCond .eq 5, 3) := by decide +kernel
theorem dX10_corner_13 : decode cX10_corner 13 = .ok (.iconst 0, 1) := by decide +kernel
theorem dX10_corner_14 : decode cX10_corner 14 = .ok (.ireturn, 1) := by decide +kernel
theorem dX10_corner_15 : decode cX10_corner 15 = .ok (.iconst 1, 1) := by decide +kernel
theorem dX10_corner_16 : decode cX10_corner 16 = .ok (.istore 4, 2) := by decide +kernel
theorem dX10_corner_18 : decode cX10_corner 18 = .ok (.iconst 1, 1) := by decide +kernel
theorem dX10_corner_19 : decode cX10_corner 19 = .ok (.istore 5, 2) := by decide +kernel
theorem dX10_corner_21 : decode cX10_corner 21 = .ok (.iload 5, 2) := by decide +kernel
theorem dX10_corner_23 : decode cX10_corner 23 = .ok (.sipush 7199, 3) := by decide +kernel
theorem dX10_corner_26 : decode cX10_corner 26 = .ok (.if_icmp .ge 88, 3) := by decide +kernel
theorem dX10_corner_29 : decode cX10_corner 29 = .ok (.aload_n 0, 1) := by decide +kernel
theorem dX10_corner_30 : decode cX10_corner 30 = .ok (.iload_n 1, 1) := by decide +kernel
theorem dX10_corner_31 : decode cX10_corner 31 = .ok (.iload_n 2, 1) := by decide +kernel
theorem dX10_corner_32 : decode cX10_corner 32 = .ok (.iload 5, 2) := by decide +kernel
theorem dX10_corner_34 : decode cX10_corner 34 = .ok (.iconst 1, 1) := by decide +kernel
theorem dX10_corner_35 : decode cX10_corner 35 = .ok (.iadd, 1) := by decide +kernel
theorem dX10_corner_36 : decode cX10_corner 36 = .ok (.invokevirtual 214, 3) := by decide +kernel
theorem dX10_corner_39 : decode cX10_corner 39 = .ok (.aload_n 0, 1) := by decide +kernel
theorem dX10_corner_40 : decode cX10_corner 40 = .ok (.iload_n 1, 1) := by decide +kernel
theorem dX10_corner_41 : decode cX10_corner 41 = .ok (.iload_n 2, 1) := by decide +kernel
theorem dX10_corner_42 : decode cX10_corner 42 = .ok (.iload 5, 2) := by decide +kernel
theorem dX10_corner_44 : decode cX10_corner 44 = .ok (.invokevirtual 214, 3) := by decide +kernel
theorem dX10_corner_47 : decode cX10_corner 47 = .ok (.isub, 1) := by decide +kernel
theorem dX10_corner_48 : decode cX10_corner 48 = .ok (.aload_n 0, 1) := by decide +kernel
theorem dX10_corner_49 : decode cX10_corner 49 = .ok (.iload_n 1, 1) := by decide +kernel
theorem dX10_corner_50 : decode cX10_corner 50 = .ok (.iload_n 2, 1) := by decide +kernel
theorem dX10_corner_51 : decode cX10_corner 51 = .ok (.iload 5, 2) := by decide +kernel
theorem dX10_corner_53 : decode cX10_corner 53 = .ok (.invokevirtual 214, 3) := by decide +kernel
theorem dX10_corner_56 : decode cX10_corner 56 = .ok (.aload_n 0, 1) := by decide +kernel
theorem dX10_corner_57 : decode cX10_corner 57 = .ok (.iload_n 1, 1) := by decide +kernel
theorem dX10_corner_58 : decode cX10_corner 58 = .ok (.iload_n 2, 1) := by decide +kernel
theorem dX10_corner_59 : decode cX10_corner 59 = .ok (.iload 5, 2) := by decide +kernel
theorem dX10_corner_61 : decode cX10_corner 61 = .ok (.iconst 1, 1) := by decide +kernel
theorem dX10_corner_62 : decode cX10_corner 62 = .ok (.isub, 1) := by decide +kernel
theorem dX10_corner_63 : decode cX10_corner 63 = .ok (.invokevirtual 214, 3) := by decide +kernel
theorem dX10_corner_66 : decode cX10_corner 66 = .ok (.isub, 1) := by decide +kernel
theorem dX10_corner_67 : decode cX10_corner 67 = .ok (.if_icmp .eq 7, 3) := by decide +kernel
theorem dX10_corner_70 : decode cX10_corner 70 = .ok (.iconst 1, 1) := by decide +kernel
theorem dX10_corner_71 : decode cX10_corner 71 = .ok (.goto 4, 3) := by decide +kernel
theorem dX10_corner_74 : decode cX10_corner 74 = .ok (.iconst 0, 1) := by decide +kernel
theorem dX10_corner_75 : decode cX10_corner 75 = .ok (.istore 6, 2) := by decide +kernel
theorem dX10_corner_77 : decode cX10_corner 77 = .ok (.iload 6, 2) := by decide +kernel
theorem dX10_corner_79 : decode cX10_corner 79 = .ok (.ifCond .eq 14, 3) := by decide +kernel
theorem dX10_corner_82 : decode cX10_corner 82 = .ok (.iload 4, 2) := by decide +kernel
theorem dX10_corner_84 : decode cX10_corner 84 = .ok (.iload_n 3, 1) := by decide +kernel
theorem dX10_corner_85 : decode cX10_corner 85 = .ok (.if_icmp .ne 8, 3) := by decide +kernel
theorem dX10_corner_88 : decode cX10_corner 88 = .ok (.iconst 2, 1) := by decide +kernel
theorem dX10_corner_89 : decode cX10_corner 89 = .ok (.iload 5, 2) := by decide +kernel
theorem dX10_corner_91 : decode cX10_corner 91 = .ok (.imul, 1) := by decide +kernel
theorem dX10_corner_92 : decode cX10_corner 92 = .ok (.ireturn, 1) := by decide +kernel
theorem dX10_corner_93 : decode cX10_corner 93 = .ok (.iload 4, 2) := by decide +kernel
theorem dX10_corner_95 : decode cX10_corner 95 = .ok (.iload 6, 2) := by decide +kernel
theorem dX10_corner_97 : decode cX10_corner 97 = .ok (.ifCond .eq 7, 3) := by decide +kernel
theorem dX10_corner_100 : decode cX10_corner 100 = .ok (.iconst 1, 1) := by decide +kernel
theorem dX10_corner_101 : decode cX10_corner 101 = .ok (.goto 4, 3) := by decide +kernel
theorem dX10_corner_104 : decode cX10_corner 104 = .ok (.iconst 0, 1) := by decide +kernel
theorem dX10_corner_105 : decode cX10_corner 105 = .ok (.iadd, 1) := by decide +kernel
theorem dX10_corner_106 : decode cX10_corner 106 = .ok (.istore 4, 2) := by decide +kernel
theorem dX10_corner_108 : decode cX10_corner 108 = .ok (.iinc 5 1, 3) := by decide +kernel
theorem dX10_corner_111 : decode cX10_corner 111 = .ok (.goto (-90), 3) := by decide +kernel
theorem dX10_corner_114 : decode cX10_corner 114 = .ok (.iload_n 3, 1) := by decide +kernel
theorem dX10_corner_115 : decode cX10_corner 115 = .ok (.ifCond .ne 7, 3) := by decide +kernel
theorem dX10_corner_118 : decode cX10_corner 118 = .ok (.iconst 0, 1) := by decide +kernel
theorem dX10_corner_119 : decode cX10_corner 119 = .ok (.goto 4, 3) := by decide +kernel
theorem dX10_corner_122 : decode cX10_corner 122 = .ok (.iconst (-1), 1) := by decide +kernel
theorem dX10_corner_123 : decode cX10_corner 123 = .ok (.ireturn, 1) := by decide +kernel
theorem dX10_isPart_0 : decode cX10_isPart 0 = .ok (.iload_n 1, 1) := by decide +kernel
theorem dX10_isPart_1 : decode cX10_isPart 1 = .ok (.iconst 0, 1) := by decide +kernel
theorem dX10_isPart_2 : decode cX10_isPart 2 = .ok (.aload_n 0, 1) := by decide +kernel
theorem dX10_isPart_3 : decode cX10_isPart 3 = .ok (.getfield 142, 3) := by decide +kernel
theorem dX10_isPart_6 : decode cX10_isPart 6 = .ok (.iconst 1, 1) := by decide +kernel
theorem dX10_isPart_7 : decode cX10_isPart 7 = .ok (.isub, 1) := by decide +kernel
theorem dX10_isPart_8 : decode cX10_isPart 8 = .ok (.invokestatic 152, 3) := by decide +kernel
theorem dX10_isPart_11 : decode cX10_isPart 11 = .ok (.ireturn, 1) := by decide +kernel
theorem dX10_add_0 : decode cX10_add 0 = .ok (.aload_n 0, 1) := by decide +kernel
theorem dX10_add_1 : decode cX10_add 1 = .ok (.aload_n 0, 1) := by decide +kernel
theorem dX10_add_2 : decode cX10_add 2 = .ok (.iload_n 1, 1) := by decide +kernel
theorem dX10_add_3 : decode cX10_add 3 = .ok (.invokevirtual 236, 3) := by decide +kernel
theorem dX10_add_6 : decode cX10_add 6 = .ok (.ifCond .ne 7, 3) := by decide +kernel
theorem dX10_add_9 : decode cX10_add 9 = .ok (.iconst 1, 1) := by decide +kernel
theorem dX10_add_10 : decode cX10_add 10 = .ok (.goto 16, 3) := by decide +kernel
theorem dX10_add_13 : decode cX10_add 13 = .ok (.aload_n 0, 1) := by decide +kernel
theorem dX10_add_14 : decode cX10_add 14 = .ok (.getfield 142, 3) := by decide +kernel
theorem dX10_add_17 : decode cX10_add 17 = .ok (.iconst 4, 1) := by decide +kernel
theorem dX10_add_18 : decode cX10_add 18 = .ok (.if_icmp .ne 7, 3) := by decide +kernel
theorem dX10_add_21 : decode cX10_add 21 = .ok (.iconst 2, 1) := by decide +kernel
theorem dX10_add_22 : decode cX10_add 22 = .ok (.goto 4, 3) := by decide +kernel
theorem dX10_add_25 : decode cX10_add 25 = .ok (.iconst 0, 1) := by decide +kernel
theorem dX10_add_26 : decode cX10_add 26 = .ok (.invokevirtual 227, 3) := by decide +kernel
theorem dX10_add_29 : decode cX10_add 29 = .ok (.ifCond .eq 5, 3) := by decide +kernel
theorem dX10_add_32 : decode cX10_add 32 = .ok (.iconst 0, 1) := by decide +kernel
theorem dX10_add_33 : decode cX10_add 33 = .ok (.ireturn, 1) := by decide +kernel
theorem dX10_add_34 : decode cX10_add 34 = .ok (.aload_n 0, 1) := by decide +kernel
theorem dX10_add_35 : decode cX10_add 35 = .ok (.aload_n 0, 1) := by decide +kernel
theorem dX10_add_36 : decode cX10_add 36 = .ok (.getfield 149, 3) := by decide +kernel
theorem dX10_add_39 : decode cX10_add 39 = .ok (.invokevirtual 230, 3) := by decide +kernel
theorem dX10_add_42 : decode cX10_add 42 = .ok (.aload_n 0, 1) := by decide +kernel
theorem dX10_add_43 : decode cX10_add 43 = .ok (.getfield 57, 3) := by decide +kernel
theorem dX10_add_46 : decode cX10_add 46 = .ok (.aload_n 0, 1) := by decide +kernel
theorem dX10_add_47 : decode cX10_add 47 = .ok (.getfield 142, 3) := by decide +kernel
theorem dX10_add_50 : decode cX10_add 50 = .ok (.iload_n 1, 1) := by decide +kernel
theorem dX10_add_51 : decode cX10_add 51 = .ok (.iastore, 1) := by decide +kernel
theorem dX10_add_52 : decode cX10_add 52 = .ok (.aload_n 0, 1) := by decide +kernel
theorem dX10_add_53 : decode cX10_add 53 = .ok (.dup, 1) := by decide +kernel
theorem dX10_add_54 : decode cX10_add 54 = .ok (.getfield 142, 3) := by decide +kernel
theorem dX10_add_57 : decode cX10_add 57 = .ok (.iconst 1, 1) := by decide +kernel
theorem dX10_add_58 : decode cX10_add 58 = .ok (.iadd, 1) := by decide +kernel
theorem dX10_add_59 : decode cX10_add 59 = .ok (.putfield 142, 3) := by decide +kernel
theorem dX10_add_62 : decode cX10_add 62 = .ok (.aload_n 0, 1) := by decide +kernel
theorem dX10_add_63 : decode cX10_add 63 = .ok (.getfield 142, 3) := by decide +kernel
theorem dX10_add_66 : decode cX10_add 66 = .ok (.ireturn, 1) := by decide +kernel
theorem dX10_remove_0 : decode cX10_remove 0 = .ok (.aload_n 0, 1) := by decide +kernel
theorem dX10_remove_1 : decode cX10_remove 1 = .ok (.aload_n 0, 1) := by decide +kernel
theorem dX10_remove_2 : decode cX10_remove 2 = .ok (.iload_n 1, 1) := by decide +kernel
theorem dX10_remove_3 : decode cX10_remove 3 = .ok (.invokevirtual 255, 3) := by decide +kernel
theorem dX10_remove_6 : decode cX10_remove 6 = .ok (.ifCond .eq 7, 3) := by decide +kernel
theorem dX10_remove_9 : decode cX10_remove 9 = .ok (.iconst 0, 1) := by decide +kernel
theorem dX10_remove_10 : decode cX10_remove 10 = .ok (.goto 4, 3) := by decide +kernel
theorem dX10_remove_13 : decode cX10_remove 13 = .ok (.iconst 1, 1) := by decide +kernel
theorem dX10_remove_14 : decode cX10_remove 14 = .ok (.invokevirtual 227, 3) := by decide +kernel
theorem dX10_remove_17 : decode cX10_remove 17 = .ok (.ifCond .eq 5, 3) := by decide +kernel
theorem dX10_remove_20 : decode cX10_remove 20 = .ok (.iconst 0, 1) := by decide +kernel
theorem dX10_remove_21 : decode cX10_remove 21 = .ok (.ireturn, 1) := by decide +kernel
theorem dX10_remove_22 : decode cX10_remove 22 = .ok (.aload_n 0, 1) := by decide +kernel
theorem dX10_remove_23 : decode cX10_remove 23 = .ok (.getfield 57, 3) := by decide +kernel
theorem dX10_remove_26 : decode cX10_remove 26 = .ok (.iload_n 1, 1) := by decide +kernel
theorem dX10_remove_27 : decode cX10_remove 27 = .ok (.iaload, 1) := by decide +kernel
theorem dX10_remove_28 : decode cX10_remove 28 = .ok (.istore_n 2, 1) := by decide +kernel
theorem dX10_remove_29 : decode cX10_remove 29 = .ok (.aload_n 0, 1) := by decide +kernel
theorem dX10_remove_30 : decode cX10_remove 30 = .ok (.aload_n 0, 1) := by decide +kernel
theorem dX10_remove_31 : decode cX10_remove 31 = .ok (.getfield 149, 3) := by decide +kernel
theorem dX10_remove_34 : decode cX10_remove 34 = .ok (.invokevirtual 230, 3) := by decide +kernel
theorem dX10_remove_37 : decode cX10_remove 37 = .ok (.iload_n 1, 1) := by decide +kernel
theorem dX10_remove_38 : decode cX10_remove 38 = .ok (.istore_n 3, 1) := by decide +kernel
theorem dX10_remove_39 : decode cX10_remove 39 = .ok (.iload_n 3, 1) := by decide +kernel
theorem dX10_remove_40 : decode cX10_remove 40 = .ok (.aload_n 0, 1) := by decide +kernel
theorem dX10_remove_41 : decode cX10_remove 41 = .ok (.getfield 142, 3) := by decide +kernel
theorem dX10_remove_44 : decode cX10_remove 44 = .ok (.iconst 1, 1) := by decide +kernel
theorem dX10_remove_45 : decode cX10_remove 45 = .ok (.isub, 1) := by decide +kernel
theorem dX10_remove_46 : decode cX10_remove 46 = .ok (.if_icmp .ge 23, 3) := by decide +kernel
theorem dX10_remove_49 : decode cX10_remove 49 = .ok (.aload_n 0, 1) := by decide +kernel
theorem dX10_remove_50 : decode cX10_remove 50 = .ok (.getfield 57, 3) := by decide +kernel
theorem dX10_remove_53 : decode cX10_remove 53 = .ok (.iload_n 3, 1) := by decide +kernel
theorem dX10_remove_54 : decode cX10_remove 54 = .ok (.aload_n 0, 1) := by decide +kernel
theorem dX10_remove_55 : decode cX10_remove 55 = .ok (.getfield 57, 3) := by decide +kernel
theorem dX10_remove_58 : decode cX10_remove 58 = .ok (.iload_n 3, 1) := by decide +kernel
theorem dX10_remove_59 : decode cX10_remove 59 = .ok (.iconst 1, 1) := by decide +kernel
theorem dX10_remove_60 : decode cX10_remove 60 = .ok (.iadd, 1) := by decide +kernel
theorem dX10_remove_61 : decode cX10_remove 61 = .ok (.iaload, 1) := by decide +kernel
theorem dX10_remove_62 : decode cX10_remove 62 = .ok (.iastore, 1) := by decide +kernel
theorem dX10_remove_63 : decode cX10_remove 63 = .ok (.iinc 3 1, 3) := by decide +kernel
theorem dX10_remove_66 : decode cX10_remove 66 = .ok (.goto (-27), 3) := by decide +kernel
theorem dX10_remove_69 : decode cX10_remove 69 = .ok (.aload_n 0, 1) := by decide +kernel
theorem dX10_remove_70 : decode cX10_remove 70 = .ok (.dup, 1) := by decide +kernel
theorem dX10_remove_71 : decode cX10_remove 71 = .ok (.getfield 142, 3) := by decide +kernel
theorem dX10_remove_74 : decode cX10_remove 74 = .ok (.iconst 1, 1) := by decide +kernel
theorem dX10_remove_75 : decode cX10_remove 75 = .ok (.isub, 1) := by decide +kernel
theorem dX10_remove_76 : decode cX10_remove 76 = .ok (.putfield 142, 3) := by decide +kernel
theorem dX10_remove_79 : decode cX10_remove 79 = .ok (.iload_n 2, 1) := by decide +kernel
theorem dX10_remove_80 : decode cX10_remove 80 = .ok (.ireturn, 1) := by decide +kernel
theorem dX10_components_0 : decode cX10_components 0 = .ok (.aload_n 0, 1) := by decide +kernel
theorem dX10_components_1 : decode cX10_components 1 = .ok (.iconst 0, 1) := by decide +kernel
theorem dX10_components_2 : decode cX10_components 2 = .ok (.putfield 146, 3) := by decide +kernel
theorem dX10_components_5 : decode cX10_components 5 = .ok (.aload_n 0, 1) := by decide +kernel
theorem dX10_components_6 : decode cX10_components 6 = .ok (.getfield 142, 3) := by decide +kernel
theorem dX10_components_9 : decode cX10_components 9 = .ok (.ireturn, 1) := by decide +kernel
theorem dX10_component_0 : decode cX10_component 0 = .ok (.aload_n 0, 1) := by decide +kernel
theorem dX10_component_1 : decode cX10_component 1 = .ok (.aload_n 0, 1) := by decide +kernel
theorem dX10_component_2 : decode cX10_component 2 = .ok (.iload_n 1, 1) := by decide +kernel
theorem dX10_component_3 : decode cX10_component 3 = .ok (.invokevirtual 255, 3) := by decide +kernel
theorem dX10_component_6 : decode cX10_component 6 = .ok (.ifCond .eq 7, 3) := by decide +kernel
theorem dX10_component_9 : decode cX10_component 9 = .ok (.iconst 0, 1) := by decide +kernel
theorem dX10_component_10 : decode cX10_component 10 = .ok (.goto 4, 3) := by decide +kernel
theorem dX10_component_13 : decode cX10_component 13 = .ok (.iconst 1, 1) := by decide +kernel
theorem dX10_component_14 : decode cX10_component 14 = .ok (.invokevirtual 227, 3) := by decide +kernel
theorem dX10_component_17 : decode cX10_component 17 = .ok (.ifCond .eq 7, 3) := by decide +kernel
theorem dX10_component_20 : decode cX10_component 20 = .ok (.iconst 0, 1) := by decide +kernel
theorem dX10_component_21 : decode cX10_component 21 = .ok (.goto 9, 3) := by decide +kernel
theorem dX10_component_24 : decode cX10_component 24 = .ok (.aload_n 0, 1) := by decide +kernel
theorem dX10_component_25 : decode cX10_component 25 = .ok (.getfield 57, 3) := by decide +kernel
theorem dX10_component_28 : decode cX10_component 28 = .ok (.iload_n 1, 1) := by decide +kernel
theorem dX10_component_29 : decode cX10_component 29 = .ok (.iaload, 1) := by decide +kernel
theorem dX10_component_30 : decode cX10_component 30 = .ok (.ireturn, 1) := by decide +kernel
theorem dX10_move_0 : decode cX10_move 0 = .ok (.aload_n 0, 1) := by decide +kernel
theorem dX10_move_1 : decode cX10_move 1 = .ok (.iload_n 1, 1) := by decide +kernel
theorem dX10_move_2 : decode cX10_move 2 = .ok (.invokevirtual 255, 3) := by decide +kernel
theorem dX10_move_5 : decode cX10_move 5 = .ok (.ifCond .eq 37, 3) := by decide +kernel
theorem dX10_move_8 : decode cX10_move 8 = .ok (.iload_n 2, 1) := by decide +kernel
theorem dX10_move_9 : decode cX10_move 9 = .ok (.iconst 0, 1) := by decide +kernel
theorem dX10_move_10 : decode cX10_move 10 = .ok (.iconst 1, 1) := by decide +kernel
theorem dX10_move_11 : decode cX10_move 11 = .ok (.invokestatic 152, 3) := by decide +kernel
theorem dX10_move_14 : decode cX10_move 14 = .ok (.ifCond .eq 28, 3) := by decide +kernel
theorem dX10_move_17 : decode cX10_move 17 = .ok (.iload_n 3, 1) := by decide +kernel
theorem dX10_move_18 : decode cX10_move 18 = .ok (.iconst 0, 1) := by decide +kernel
theorem dX10_move_19 : decode cX10_move 19 = .ok (.aload_n 0, 1) := by decide +kernel
theorem dX10_move_20 : decode cX10_move 20 = .ok (.aload_n 0, 1) := by decide +kernel
theorem dX10_move_21 : decode cX10_move 21 = .ok (.getfield 57, 3) := by decide +kernel
theorem dX10_move_24 : decode cX10_move 24 = .ok (.iload_n 1, 1) := by decide +kernel
theorem dX10_move_25 : decode cX10_move 25 = .ok (.iaload, 1) := by decide +kernel
theorem dX10_move_26 : decode cX10_move 26 = .ok (.iload_n 2, 1) := by decide +kernel
theorem dX10_move_27 : decode cX10_move 27 = .ok (.invokevirtual 164, 3) := by decide +kernel
theorem dX10_move_30 : decode cX10_move 30 = .ok (.iconst 1, 1) := by decide +kernel
theorem dX10_move_31 : decode cX10_move 31 = .ok (.isub, 1) := by decide +kernel
theorem dX10_move_32 : decode cX10_move 32 = .ok (.invokestatic 152, 3) := by decide +kernel
theorem dX10_move_35 : decode cX10_move 35 = .ok (.ifCond .eq 7, 3) := by decide +kernel
theorem dX10_move_38 : decode cX10_move 38 = .ok (.iconst 1, 1) := by decide +kernel
theorem dX10_move_39 : decode cX10_move 39 = .ok (.goto 4, 3) := by decide +kernel
theorem dX10_move_42 : decode cX10_move 42 = .ok (.iconst 0, 1) := by decide +kernel
theorem dX10_move_43 : decode cX10_move 43 = .ok (.istore 4, 2) := by decide +kernel
theorem dX10_move_45 : decode cX10_move 45 = .ok (.aload_n 0, 1) := by decide +kernel
theorem dX10_move_46 : decode cX10_move 46 = .ok (.aload_n 0, 1) := by decide +kernel
theorem dX10_move_47 : decode cX10_move 47 = .ok (.iload_n 1, 1) := by decide +kernel
theorem dX10_move_48 : decode cX10_move 48 = .ok (.invokevirtual 255, 3) := by decide +kernel
theorem dX10_move_51 : decode cX10_move 51 = .ok (.ifCond .ne 7, 3) := by decide +kernel
theorem dX10_move_54 : decode cX10_move 54 = .ok (.iconst 1, 1) := by decide +kernel
theorem dX10_move_55 : decode cX10_move 55 = .ok (.goto 31, 3) := by decide +kernel
theorem dX10_move_58 : decode cX10_move 58 = .ok (.iload 4, 2) := by decide +kernel
theorem dX10_move_60 : decode cX10_move 60 = .ok (.ifCond .ne 7, 3) := by decide +kernel
theorem dX10_move_63 : decode cX10_move 63 = .ok (.iconst 2, 1) := by decide +kernel
theorem dX10_move_64 : decode cX10_move 64 = .ok (.goto 22, 3) := by decide +kernel
theorem dX10_move_67 : decode cX10_move 67 = .ok (.aload_n 0, 1) := by decide +kernel
theorem dX10_move_68 : decode cX10_move 68 = .ok (.getfield 26, 3) := by decide +kernel
theorem dX10_move_71 : decode cX10_move 71 = .ok (.aload_n 0, 1) := by decide +kernel
theorem dX10_move_72 : decode cX10_move 72 = .ok (.getfield 57, 3) := by decide +kernel
theorem dX10_move_75 : decode cX10_move 75 = .ok (.iload_n 1, 1) := by decide +kernel
theorem dX10_move_76 : decode cX10_move 76 = .ok (.iaload, 1) := by decide +kernel
theorem dX10_move_77 : decode cX10_move 77 = .ok (.baload, 1) := by decide +kernel
theorem dX10_move_78 : decode cX10_move 78 = .ok (.ifCond .eq 7, 3) := by decide +kernel
theorem dX10_move_81 : decode cX10_move 81 = .ok (.iconst 3, 1) := by decide +kernel
theorem dX10_move_82 : decode cX10_move 82 = .ok (.goto 4, 3) := by decide +kernel
theorem dX10_move_85 : decode cX10_move 85 = .ok (.iconst 0, 1) := by decide +kernel
theorem dX10_move_86 : decode cX10_move 86 = .ok (.invokevirtual 227, 3) := by decide +kernel
theorem dX10_move_89 : decode cX10_move 89 = .ok (.ifCond .eq 5, 3) := by decide +kernel
theorem dX10_move_92 : decode cX10_move 92 = .ok (.iconst 0, 1) := by decide +kernel
theorem dX10_move_93 : decode cX10_move 93 = .ok (.ireturn, 1) := by decide +kernel
theorem dX10_move_94 : decode cX10_move 94 = .ok (.aload_n 0, 1) := by decide +kernel
theorem dX10_move_95 : decode cX10_move 95 = .ok (.aload_n 0, 1) := by decide +kernel
theorem dX10_move_96 : decode cX10_move 96 = .ok (.getfield 57, 3) := by decide +kernel
theorem dX10_move_99 : decode cX10_move 99 = .ok (.iload_n 1, 1) := by decide +kernel
theorem dX10_move_100 : decode cX10_move 100 = .ok (.iaload, 1) := by decide +kernel
theorem dX10_move_101 : decode cX10_move 101 = .ok (.iload_n 2, 1) := by decide +kernel
theorem dX10_move_102 : decode cX10_move 102 = .ok (.iload_n 3, 1) := by decide +kernel
theorem dX10_move_103 : decode cX10_move 103 = .ok (.invokevirtual 167, 3) := by decide +kernel
theorem dX10_move_106 : decode cX10_move 106 = .ok (.istore 5, 2) := by decide +kernel
theorem dX10_move_108 : decode cX10_move 108 = .ok (.aload_n 0, 1) := by decide +kernel
theorem dX10_move_109 : decode cX10_move 109 = .ok (.aload_n 0, 1) := by decide +kernel
theorem dX10_move_110 : decode cX10_move 110 = .ok (.getfield 149, 3) := by decide +kernel
theorem dX10_move_113 : decode cX10_move 113 = .ok (.invokevirtual 230, 3) := by decide +kernel
theorem dX10_move_116 : decode cX10_move 116 = .ok (.aload_n 0, 1) := by decide +kernel
theorem dX10_move_117 : decode cX10_move 117 = .ok (.getfield 57, 3) := by decide +kernel
theorem dX10_move_120 : decode cX10_move 120 = .ok (.iload_n 1, 1) := by decide +kernel
theorem dX10_move_121 : decode cX10_move 121 = .ok (.iload 5, 2) := by decide +kernel
theorem dX10_move_123 : decode cX10_move 123 = .ok (.iastore, 1) := by decide +kernel
theorem dX10_move_124 : decode cX10_move 124 = .ok (.iload 5, 2) := by decide +kernel
theorem dX10_move_126 : decode cX10_move 126 = .ok (.ireturn, 1) := by decide +kernel
theorem dX10_laysPositions_0 : decode cX10_laysPositions 0 = .ok (.iconst 0, 1) := by decide +kernel
theorem dX10_laysPositions_1 : decode cX10_laysPositions 1 = .ok (.istore_n 2, 1) := by decide +kernel
theorem dX10_laysPositions_2 : decode cX10_laysPositions 2 = .ok (.iload_n 2, 1) := by decide +kernel
theorem dX10_laysPositions_3 : decode cX10_laysPositions 3 = .ok (.bipush 40, 2) := by decide +kernel
theorem dX10_laysPositions_5 : decode cX10_laysPositions 5 = .ok (.if_icmp .ge 30, 3) := by decide +kernel
theorem dX10_laysPositions_8 : decode cX10_laysPositions 8 = .ok (.aload_n 0, 1) := by decide +kernel
theorem dX10_laysPositions_9 : decode cX10_laysPositions 9 = .ok (.getfield 84, 3) := by decide +kernel
theorem dX10_laysPositions_12 : decode cX10_laysPositions 12 = .ok (.iload_n 2, 1) := by decide +kernel
theorem dX10_laysPositions_13 : decode cX10_laysPositions 13 = .ok (.iload_n 2, 1) := by decide +kernel
theorem dX10_laysPositions_14 : decode cX10_laysPositions 14 = .ok (.aload_n 0, 1) := by decide +kernel
theorem dX10_laysPositions_15 : decode cX10_laysPositions 15 = .ok (.getfield 90, 3) := by decide +kernel
theorem dX10_laysPositions_18 : decode cX10_laysPositions 18 = .ok (.iload_n 1, 1) := by decide +kernel
theorem dX10_laysPositions_19 : decode cX10_laysPositions 19 = .ok (.iaload, 1) := by decide +kernel
theorem dX10_laysPositions_20 : decode cX10_laysPositions 20 = .ok (.if_icmp .ne 7, 3) := by decide +kernel
theorem dX10_laysPositions_23 : decode cX10_laysPositions 23 = .ok (.iconst 1, 1) := by decide +kernel
theorem dX10_laysPositions_24 : decode cX10_laysPositions 24 = .ok (.goto 4, 3) := by decide +kernel
theorem dX10_laysPositions_27 : decode cX10_laysPositions 27 = .ok (.iconst 0, 1) := by decide +kernel
theorem dX10_laysPositions_28 : decode cX10_laysPositions 28 = .ok (.bastore, 1) := by decide +kernel
theorem dX10_laysPositions_29 : decode cX10_laysPositions 29 = .ok (.iinc 2 1, 3) := by decide +kernel
theorem dX10_laysPositions_32 : decode cX10_laysPositions 32 = .ok (.goto (-30), 3) := by decide +kernel
theorem dX10_laysPositions_35 : decode cX10_laysPositions 35 = .ok (.aload_n 0, 1) := by decide +kernel
theorem dX10_laysPositions_36 : decode cX10_laysPositions 36 = .ok (.getfield 93, 3) := by decide +kernel
theorem dX10_laysPositions_39 : decode cX10_laysPositions 39 = .ok (.iload_n 1, 1) := by decide +kernel
theorem dX10_laysPositions_40 : decode cX10_laysPositions 40 = .ok (.iconst 0, 1) := by decide +kernel
theorem dX10_laysPositions_41 : decode cX10_laysPositions 41 = .ok (.iastore, 1) := by decide +kernel
theorem dX10_laysPositions_42 : decode cX10_laysPositions 42 = .ok (.aload_n 0, 1) := by decide +kernel
theorem dX10_laysPositions_43 : decode cX10_laysPositions 43 = .ok (.getfield 90, 3) := by decide +kernel
theorem dX10_laysPositions_46 : decode cX10_laysPositions 46 = .ok (.iload_n 1, 1) := by decide +kernel
theorem dX10_laysPositions_47 : decode cX10_laysPositions 47 = .ok (.iaload, 1) := by decide +kernel
theorem dX10_laysPositions_48 : decode cX10_laysPositions 48 = .ok (.istore_n 2, 1) := by decide +kernel
theorem dX10_laysPositions_49 : decode cX10_laysPositions 49 = .ok (.iload_n 2, 1) := by decide +kernel
theorem dX10_laysPositions_50 : decode cX10_laysPositions 50 = .ok (.ifCond .lt 74, 3) := by decide +kernel
theorem dX10_laysPositions_53 : decode cX10_laysPositions 53 = .ok (.iconst 0, 1) := by decide +kernel
theorem dX10_laysPositions_54 : decode cX10_laysPositions 54 = .ok (.istore_n 3, 1) := by decide +kernel
theorem dX10_laysPositions_55 : decode cX10_laysPositions 55 = .ok (.iload_n 3, 1) := by decide +kernel
theorem dX10_laysPositions_56 : decode cX10_laysPositions 56 = .ok (.iconst 2, 1) := by decide +kernel
theorem dX10_laysPositions_57 : decode cX10_laysPositions 57 = .ok (.if_icmp .ge 61, 3) := by decide +kernel
theorem dX10_laysPositions_60 : decode cX10_laysPositions 60 = .ok (.aload_n 0, 1) := by decide +kernel
theorem dX10_laysPositions_61 : decode cX10_laysPositions 61 = .ok (.getfield 84, 3) := by decide +kernel
theorem dX10_laysPositions_64 : decode cX10_laysPositions 64 = .ok (.iload_n 2, 1) := by decide +kernel
theorem dX10_laysPositions_65 : decode cX10_laysPositions 65 = .ok (.baload, 1) := by decide +kernel
theorem dX10_laysPositions_66 : decode cX10_laysPositions 66 = .ok (.ifCond .eq 52, 3) := by decide +kernel
theorem dX10_laysPositions_69 : decode cX10_laysPositions 69 = .ok (.aload_n 0, 1) := by decide +kernel
theorem dX10_laysPositions_70 : decode cX10_laysPositions 70 = .ok (.getfield 26, 3) := by decide +kernel
theorem dX10_laysPositions_73 : decode cX10_laysPositions 73 = .ok (.iload_n 2, 1) := by decide +kernel
theorem dX10_laysPositions_74 : decode cX10_laysPositions 74 = .ok (.baload, 1) := by decide +kernel
theorem dX10_laysPositions_75 : decode cX10_laysPositions 75 = .ok (.ifCond .ne 43, 3) := by decide +kernel
theorem dX10_laysPositions_78 : decode cX10_laysPositions 78 = .ok (.iconst 0, 1) := by decide +kernel
theorem dX10_laysPositions_79 : decode cX10_laysPositions 79 = .ok (.istore 4, 2) := by decide +kernel
theorem dX10_laysPositions_81 : decode cX10_laysPositions 81 = .ok (.iload 4, 2) := by decide +kernel
theorem dX10_laysPositions_83 : decode cX10_laysPositions 83 = .ok (.aload_n 0, 1) := by decide +kernel
theorem dX10_laysPositions_84 : decode cX10_laysPositions 84 = .ok (.iload_n 2, 1) := by decide +kernel
theorem dX10_laysPositions_85 : decode cX10_laysPositions 85 = .ok (.iload_n 3, 1) := by decide +kernel
theorem dX10_laysPositions_86 : decode cX10_laysPositions 86 = .ok (.invokevirtual 164, 3) := by decide +kernel
theorem dX10_laysPositions_89 : decode cX10_laysPositions 89 = .ok (.if_icmp .ge 23, 3) := by decide +kernel
theorem dX10_laysPositions_92 : decode cX10_laysPositions 92 = .ok (.aload_n 0, 1) := by decide +kernel
theorem dX10_laysPositions_93 : decode cX10_laysPositions 93 = .ok (.getfield 84, 3) := by decide +kernel
theorem dX10_laysPositions_96 : decode cX10_laysPositions 96 = .ok (.aload_n 0, 1) := by decide +kernel
theorem dX10_laysPositions_97 : decode cX10_laysPositions 97 = .ok (.iload_n 2, 1) := by decide +kernel
theorem dX10_laysPositions_98 : decode cX10_laysPositions 98 = .ok (.iload_n 3, 1) := by decide +kernel
theorem dX10_laysPositions_99 : decode cX10_laysPositions 99 = .ok (.iload 4, 2) := by decide +kernel
theorem dX10_laysPositions_101 : decode cX10_laysPositions 101 = .ok (.invokevirtual 167, 3) := by decide +kernel
theorem dX10_laysPositions_104 : decode cX10_laysPositions 104 = .ok (.iconst 1, 1) := by decide +kernel
theorem dX10_laysPositions_105 : decode cX10_laysPositions 105 = .ok (.bastore, 1) := by decide +kernel
theorem dX10_laysPositions_106 : decode cX10_laysPositions 106 = .ok (.iinc 4 1, 3) := by decide +kernel
theorem dX10_laysPositions_109 : decode cX10_laysPositions 109 = .ok (.goto (-28), 3) := by decide +kernel
theorem dX10_laysPositions_112 : decode cX10_laysPositions 112 = .ok (.iinc 3 1, 3) := by decide +kernel
theorem dX10_laysPositions_115 : decode cX10_laysPositions 115 = .ok (.goto (-60), 3) := by decide +kernel
theorem dX10_laysPositions_118 : decode cX10_laysPositions 118 = .ok (.iinc 2 (-1), 3) := by decide +kernel
theorem dX10_laysPositions_121 : decode cX10_laysPositions 121 = .ok (.goto (-72), 3) := by decide +kernel
theorem dX10_laysPositions_124 : decode cX10_laysPositions 124 = .ok (.iconst 0, 1) := by decide +kernel
theorem dX10_laysPositions_125 : decode cX10_laysPositions 125 = .ok (.istore_n 2, 1) := by decide +kernel
theorem dX10_laysPositions_126 : decode cX10_laysPositions 126 = .ok (.iload_n 2, 1) := by decide +kernel
theorem dX10_laysPositions_127 : decode cX10_laysPositions 127 = .ok (.aload_n 0, 1) := by decide +kernel
theorem dX10_laysPositions_128 : decode cX10_laysPositions 128 = .ok (.getfield 90, 3) := by decide +kernel
theorem dX10_laysPositions_131 : decode cX10_laysPositions 131 = .ok (.iload_n 1, 1) := by decide +kernel
theorem dX10_laysPositions_132 : decode cX10_laysPositions 132 = .ok (.iaload, 1) := by decide +kernel
theorem dX10_laysPositions_133 : decode cX10_laysPositions 133 = .ok (.if_icmp .gt 62, 3) := by decide +kernel
theorem dX10_laysPositions_136 : decode cX10_laysPositions 136 = .ok (.aload_n 0, 1) := by decide +kernel
theorem dX10_laysPositions_137 : decode cX10_laysPositions 137 = .ok (.getfield 84, 3) := by decide +kernel
theorem dX10_laysPositions_140 : decode cX10_laysPositions 140 = .ok (.iload_n 2, 1) := by decide +kernel
theorem dX10_laysPositions_141 : decode cX10_laysPositions 141 = .ok (.baload, 1) := by decide +kernel
theorem dX10_laysPositions_142 : decode cX10_laysPositions 142 = .ok (.ifCond .eq 47, 3) := by decide +kernel
theorem dX10_laysPositions_145 : decode cX10_laysPositions 145 = .ok (.aload_n 0, 1) := by decide +kernel
theorem dX10_laysPositions_146 : decode cX10_laysPositions 146 = .ok (.getfield 99, 3) := by decide +kernel
theorem dX10_laysPositions_149 : decode cX10_laysPositions 149 = .ok (.bipush 40, 2) := by decide +kernel
theorem dX10_laysPositions_151 : decode cX10_laysPositions 151 = .ok (.iload_n 1, 1) := by decide +kernel
theorem dX10_laysPositions_152 : decode cX10_laysPositions 152 = .ok (.imul, 1) := by decide +kernel
theorem dX10_laysPositions_153 : decode cX10_laysPositions 153 = .ok (.iload_n 2, 1) := by decide +kernel
theorem dX10_laysPositions_154 : decode cX10_laysPositions 154 = .ok (.iadd, 1) := by decide +kernel
theorem dX10_laysPositions_155 : decode cX10_laysPositions 155 = .ok (.aload_n 0, 1) := by decide +kernel
theorem dX10_laysPositions_156 : decode cX10_laysPositions 156 = .ok (.getfield 93, 3) := by decide +kernel
theorem dX10_laysPositions_159 : decode cX10_laysPositions 159 = .ok (.iload_n 1, 1) := by decide +kernel
theorem dX10_laysPositions_160 : decode cX10_laysPositions 160 = .ok (.iaload, 1) := by decide +kernel
theorem dX10_laysPositions_161 : decode cX10_laysPositions 161 = .ok (.iastore, 1) := by decide +kernel
theorem dX10_laysPositions_162 : decode cX10_laysPositions 162 = .ok (.aload_n 0, 1) := by decide +kernel
theorem dX10_laysPositions_163 : decode cX10_laysPositions 163 = .ok (.getfield 96, 3) := by decide +kernel
theorem dX10_laysPositions_166 : decode cX10_laysPositions 166 = .ok (.bipush 40, 2) := by decide +kernel
theorem dX10_laysPositions_168 : decode cX10_laysPositions 168 = .ok (.iload_n 1, 1) := by decide +kernel
theorem dX10_laysPositions_169 : decode cX10_laysPositions 169 = .ok (.imul, 1) := by decide +kernel
theorem dX10_laysPositions_170 : decode cX10_laysPositions 170 = .ok (.aload_n 0, 1) := by decide +kernel
theorem dX10_laysPositions_171 : decode cX10_laysPositions 171 = .ok (.getfield 93, 3) := by decide +kernel
theorem dX10_laysPositions_174 : decode cX10_laysPositions 174 = .ok (.iload_n 1, 1) := by decide +kernel
theorem dX10_laysPositions_175 : decode cX10_laysPositions 175 = .ok (.iaload, 1) := by decide +kernel
theorem dX10_laysPositions_176 : decode cX10_laysPositions 176 = .ok (.iadd, 1) := by decide +kernel
theorem dX10_laysPositions_177 : decode cX10_laysPositions 177 = .ok (.iload_n 2, 1) := by decide +kernel
theorem dX10_laysPositions_178 : decode cX10_laysPositions 178 = .ok (.iastore, 1) := by decide +kernel
theorem dX10_laysPositions_179 : decode cX10_laysPositions 179 = .ok (.aload_n 0, 1) := by decide +kernel
theorem dX10_laysPositions_180 : decode cX10_laysPositions 180 = .ok (.getfield 93, 3) := by decide +kernel
theorem dX10_laysPositions_183 : decode cX10_laysPositions 183 = .ok (.iload_n 1, 1) := by decide +kernel
theorem dX10_laysPositions_184 : decode cX10_laysPositions 184 = .ok (.dup2, 1) := by decide +kernel
theorem dX10_laysPositions_185 : decode cX10_laysPositions 185 = .ok (.iaload, 1) := by decide +kernel
theorem dX10_laysPositions_186 : decode cX10_laysPositions 186 = .ok (.iconst 1, 1) := by decide +kernel
theorem dX10_laysPositions_187 : decode cX10_laysPositions 187 = .ok (.iadd, 1) := by decide +kernel
theorem dX10_laysPositions_188 : decode cX10_laysPositions 188 = .ok (.iastore, 1) := by decide +kernel
theorem dX10_laysPositions_189 : decode cX10_laysPositions 189 = .ok (.iinc 2 1, 3) := by decide +kernel
theorem dX10_laysPositions_192 : decode cX10_laysPositions 192 = .ok (.goto (-66), 3) := by decide +kernel
theorem dX10_laysPositions_195 : decode cX10_laysPositions 195 = .ok (.return_, 1) := by decide +kernel
theorem dX10_sizeNow_0 : decode cX10_sizeNow 0 = .ok (.iconst 1, 1) := by decide +kernel
theorem dX10_sizeNow_1 : decode cX10_sizeNow 1 = .ok (.istore_n 1, 1) := by decide +kernel
theorem dX10_sizeNow_2 : decode cX10_sizeNow 2 = .ok (.iconst 0, 1) := by decide +kernel
theorem dX10_sizeNow_3 : decode cX10_sizeNow 3 = .ok (.istore_n 2, 1) := by decide +kernel
theorem dX10_sizeNow_4 : decode cX10_sizeNow 4 = .ok (.iload_n 2, 1) := by decide +kernel
theorem dX10_sizeNow_5 : decode cX10_sizeNow 5 = .ok (.aload_n 0, 1) := by decide +kernel
theorem dX10_sizeNow_6 : decode cX10_sizeNow 6 = .ok (.getfield 142, 3) := by decide +kernel
theorem dX10_sizeNow_9 : decode cX10_sizeNow 9 = .ok (.if_icmp .ge 23, 3) := by decide +kernel
theorem dX10_sizeNow_12 : decode cX10_sizeNow 12 = .ok (.aload_n 0, 1) := by decide +kernel
theorem dX10_sizeNow_13 : decode cX10_sizeNow 13 = .ok (.iload_n 2, 1) := by decide +kernel
theorem dX10_sizeNow_14 : decode cX10_sizeNow 14 = .ok (.invokevirtual 258, 3) := by decide +kernel
theorem dX10_sizeNow_17 : decode cX10_sizeNow 17 = .ok (.iload_n 1, 1) := by decide +kernel
theorem dX10_sizeNow_18 : decode cX10_sizeNow 18 = .ok (.aload_n 0, 1) := by decide +kernel
theorem dX10_sizeNow_19 : decode cX10_sizeNow 19 = .ok (.getfield 93, 3) := by decide +kernel
theorem dX10_sizeNow_22 : decode cX10_sizeNow 22 = .ok (.iload_n 2, 1) := by decide +kernel
theorem dX10_sizeNow_23 : decode cX10_sizeNow 23 = .ok (.iaload, 1) := by decide +kernel
theorem dX10_sizeNow_24 : decode cX10_sizeNow 24 = .ok (.imul, 1) := by decide +kernel
theorem dX10_sizeNow_25 : decode cX10_sizeNow 25 = .ok (.istore_n 1, 1) := by decide +kernel
theorem dX10_sizeNow_26 : decode cX10_sizeNow 26 = .ok (.iinc 2 1, 3) := by decide +kernel
theorem dX10_sizeNow_29 : decode cX10_sizeNow 29 = .ok (.goto (-25), 3) := by decide +kernel
theorem dX10_sizeNow_32 : decode cX10_sizeNow 32 = .ok (.iload_n 1, 1) := by decide +kernel
theorem dX10_sizeNow_33 : decode cX10_sizeNow 33 = .ok (.ireturn, 1) := by decide +kernel
theorem dX10_plays_0 : decode cX10_plays 0 = .ok (.iconst 0, 1) := by decide +kernel
theorem dX10_plays_1 : decode cX10_plays 1 = .ok (.istore_n 1, 1) := by decide +kernel
theorem dX10_plays_2 : decode cX10_plays 2 = .ok (.iload_n 1, 1) := by decide +kernel
theorem dX10_plays_3 : decode cX10_plays 3 = .ok (.aload_n 0, 1) := by decide +kernel
theorem dX10_plays_4 : decode cX10_plays 4 = .ok (.getfield 142, 3) := by decide +kernel
theorem dX10_plays_7 : decode cX10_plays 7 = .ok (.if_icmp .ge 21, 3) := by decide +kernel
theorem dX10_plays_10 : decode cX10_plays 10 = .ok (.aload_n 0, 1) := by decide +kernel
theorem dX10_plays_11 : decode cX10_plays 11 = .ok (.getfield 90, 3) := by decide +kernel
theorem dX10_plays_14 : decode cX10_plays 14 = .ok (.iload_n 1, 1) := by decide +kernel
theorem dX10_plays_15 : decode cX10_plays 15 = .ok (.aload_n 0, 1) := by decide +kernel
theorem dX10_plays_16 : decode cX10_plays 16 = .ok (.getfield 57, 3) := by decide +kernel
theorem dX10_plays_19 : decode cX10_plays 19 = .ok (.iload_n 1, 1) := by decide +kernel
theorem dX10_plays_20 : decode cX10_plays 20 = .ok (.iaload, 1) := by decide +kernel
theorem dX10_plays_21 : decode cX10_plays 21 = .ok (.iastore, 1) := by decide +kernel
theorem dX10_plays_22 : decode cX10_plays 22 = .ok (.iinc 1 1, 3) := by decide +kernel
theorem dX10_plays_25 : decode cX10_plays 25 = .ok (.goto (-23), 3) := by decide +kernel
theorem dX10_plays_28 : decode cX10_plays 28 = .ok (.return_, 1) := by decide +kernel
theorem dX10_size_0 : decode cX10_size 0 = .ok (.aload_n 0, 1) := by decide +kernel
theorem dX10_size_1 : decode cX10_size 1 = .ok (.iconst 0, 1) := by decide +kernel
theorem dX10_size_2 : decode cX10_size 2 = .ok (.putfield 146, 3) := by decide +kernel
theorem dX10_size_5 : decode cX10_size 5 = .ok (.aload_n 0, 1) := by decide +kernel
theorem dX10_size_6 : decode cX10_size 6 = .ok (.invokevirtual 261, 3) := by decide +kernel
theorem dX10_size_9 : decode cX10_size 9 = .ok (.aload_n 0, 1) := by decide +kernel
theorem dX10_size_10 : decode cX10_size 10 = .ok (.invokevirtual 264, 3) := by decide +kernel
theorem dX10_size_13 : decode cX10_size 13 = .ok (.ireturn, 1) := by decide +kernel
theorem dX10_weight_0 : decode cX10_weight 0 = .ok (.iconst 1, 1) := by decide +kernel
theorem dX10_weight_1 : decode cX10_weight 1 = .ok (.istore_n 2, 1) := by decide +kernel
theorem dX10_weight_2 : decode cX10_weight 2 = .ok (.iconst 0, 1) := by decide +kernel
theorem dX10_weight_3 : decode cX10_weight 3 = .ok (.istore_n 3, 1) := by decide +kernel
theorem dX10_weight_4 : decode cX10_weight 4 = .ok (.iload_n 3, 1) := by decide +kernel
theorem dX10_weight_5 : decode cX10_weight 5 = .ok (.iload_n 1, 1) := by decide +kernel
theorem dX10_weight_6 : decode cX10_weight 6 = .ok (.if_icmp .ge 18, 3) := by decide +kernel
theorem dX10_weight_9 : decode cX10_weight 9 = .ok (.iload_n 2, 1) := by decide +kernel
theorem dX10_weight_10 : decode cX10_weight 10 = .ok (.aload_n 0, 1) := by decide +kernel
theorem dX10_weight_11 : decode cX10_weight 11 = .ok (.getfield 93, 3) := by decide +kernel
theorem dX10_weight_14 : decode cX10_weight 14 = .ok (.iload_n 3, 1) := by decide +kernel
theorem dX10_weight_15 : decode cX10_weight 15 = .ok (.iaload, 1) := by decide +kernel
theorem dX10_weight_16 : decode cX10_weight 16 = .ok (.imul, 1) := by decide +kernel
theorem dX10_weight_17 : decode cX10_weight 17 = .ok (.istore_n 2, 1) := by decide +kernel
theorem dX10_weight_18 : decode cX10_weight 18 = .ok (.iinc 3 1, 3) := by decide +kernel
theorem dX10_weight_21 : decode cX10_weight 21 = .ok (.goto (-17), 3) := by decide +kernel
theorem dX10_weight_24 : decode cX10_weight 24 = .ok (.iload_n 2, 1) := by decide +kernel
theorem dX10_weight_25 : decode cX10_weight 25 = .ok (.ireturn, 1) := by decide +kernel
theorem dX10_gameAt_0 : decode cX10_gameAt 0 = .ok (.aload_n 0, 1) := by decide +kernel
theorem dX10_gameAt_1 : decode cX10_gameAt 1 = .ok (.getfield 96, 3) := by decide +kernel
theorem dX10_gameAt_4 : decode cX10_gameAt 4 = .ok (.bipush 40, 2) := by decide +kernel
theorem dX10_gameAt_6 : decode cX10_gameAt 6 = .ok (.iload_n 2, 1) := by decide +kernel
theorem dX10_gameAt_7 : decode cX10_gameAt 7 = .ok (.imul, 1) := by decide +kernel
theorem dX10_gameAt_8 : decode cX10_gameAt 8 = .ok (.iload_n 1, 1) := by decide +kernel
theorem dX10_gameAt_9 : decode cX10_gameAt 9 = .ok (.aload_n 0, 1) := by decide +kernel
theorem dX10_gameAt_10 : decode cX10_gameAt 10 = .ok (.iload_n 2, 1) := by decide +kernel
theorem dX10_gameAt_11 : decode cX10_gameAt 11 = .ok (.invokevirtual 267, 3) := by decide +kernel
theorem dX10_gameAt_14 : decode cX10_gameAt 14 = .ok (.idiv, 1) := by decide +kernel
theorem dX10_gameAt_15 : decode cX10_gameAt 15 = .ok (.aload_n 0, 1) := by decide +kernel
theorem dX10_gameAt_16 : decode cX10_gameAt 16 = .ok (.getfield 93, 3) := by decide +kernel
theorem dX10_gameAt_19 : decode cX10_gameAt 19 = .ok (.iload_n 2, 1) := by decide +kernel
theorem dX10_gameAt_20 : decode cX10_gameAt 20 = .ok (.iaload, 1) := by decide +kernel
theorem dX10_gameAt_21 : decode cX10_gameAt 21 = .ok (.irem, 1) := by decide +kernel
theorem dX10_gameAt_22 : decode cX10_gameAt 22 = .ok (.iadd, 1) := by decide +kernel
theorem dX10_gameAt_23 : decode cX10_gameAt 23 = .ok (.iaload, 1) := by decide +kernel
theorem dX10_gameAt_24 : decode cX10_gameAt 24 = .ok (.ireturn, 1) := by decide +kernel
theorem dX10_scoreOf_0 : decode cX10_scoreOf 0 = .ok (.iconst 1, 1) := by decide +kernel
theorem dX10_scoreOf_1 : decode cX10_scoreOf 1 = .ok (.istore_n 3, 1) := by decide +kernel
theorem dX10_scoreOf_2 : decode cX10_scoreOf 2 = .ok (.iconst 0, 1) := by decide +kernel
theorem dX10_scoreOf_3 : decode cX10_scoreOf 3 = .ok (.istore 4, 2) := by decide +kernel
theorem dX10_scoreOf_5 : decode cX10_scoreOf 5 = .ok (.iload_n 2, 1) := by decide +kernel
theorem dX10_scoreOf_6 : decode cX10_scoreOf 6 = .ok (.ifCond .ne 8, 3) := by decide +kernel
theorem dX10_scoreOf_9 : decode cX10_scoreOf 9 = .ok (.ldc 203, 2) := by decide +kernel
theorem dX10_scoreOf_11 : decode cX10_scoreOf 11 = .ok (.goto 5, 3) := by decide +kernel
theorem dX10_scoreOf_14 : decode cX10_scoreOf 14 = .ok (.ldc 204, 2) := by decide +kernel
theorem dX10_scoreOf_16 : decode cX10_scoreOf 16 = .ok (.istore 5, 2) := by decide +kernel
theorem dX10_scoreOf_18 : decode cX10_scoreOf 18 = .ok (.iconst 0, 1) := by decide +kernel
theorem dX10_scoreOf_19 : decode cX10_scoreOf 19 = .ok (.istore 6, 2) := by decide +kernel
theorem dX10_scoreOf_21 : decode cX10_scoreOf 21 = .ok (.iload 6, 2) := by decide +kernel
theorem dX10_scoreOf_23 : decode cX10_scoreOf 23 = .ok (.aload_n 0, 1) := by decide +kernel
theorem dX10_scoreOf_24 : decode cX10_scoreOf 24 = .ok (.getfield 142, 3) := by decide +kernel
theorem dX10_scoreOf_27 : decode cX10_scoreOf 27 = .ok (.if_icmp .ge 163, 3) := by decide +kernel
theorem dX10_scoreOf_30 : decode cX10_scoreOf 30 = .ok (.aload_n 0, 1) := by decide +kernel
theorem dX10_scoreOf_31 : decode cX10_scoreOf 31 = .ok (.iload_n 1, 1) := by decide +kernel
theorem dX10_scoreOf_32 : decode cX10_scoreOf 32 = .ok (.iload 6, 2) := by decide +kernel
theorem dX10_scoreOf_34 : decode cX10_scoreOf 34 = .ok (.invokevirtual 270, 3) := by decide +kernel
theorem dX10_scoreOf_37 : decode cX10_scoreOf 37 = .ok (.istore 7, 2) := by decide +kernel
theorem dX10_scoreOf_39 : decode cX10_scoreOf 39 = .ok (.aload_n 0, 1) := by decide +kernel
theorem dX10_scoreOf_40 : decode cX10_scoreOf 40 = .ok (.getfield 26, 3) := by decide +kernel
theorem dX10_scoreOf_43 : decode cX10_scoreOf 43 = .ok (.iload 7, 2) := by decide +kernel
theorem dX10_scoreOf_45 : decode cX10_scoreOf 45 = .ok (.baload, 1) := by decide +kernel
theorem dX10_scoreOf_46 : decode cX10_scoreOf 46 = .ok (.ifCond .eq 18, 3) := by decide +kernel
theorem dX10_scoreOf_49 : decode cX10_scoreOf 49 = .ok (.iload 4, 2) := by decide +kernel
theorem dX10_scoreOf_51 : decode cX10_scoreOf 51 = .ok (.aload_n 0, 1) := by decide +kernel
theorem dX10_scoreOf_52 : decode cX10_scoreOf 52 = .ok (.getfield 29, 3) := by decide +kernel
theorem dX10_scoreOf_55 : decode cX10_scoreOf 55 = .ok (.iload 7, 2) := by decide +kernel
theorem dX10_scoreOf_57 : decode cX10_scoreOf 57 = .ok (.iaload, 1) := by decide +kernel
theorem dX10_scoreOf_58 : decode cX10_scoreOf 58 = .ok (.iadd, 1) := by decide +kernel
theorem dX10_scoreOf_59 : decode cX10_scoreOf 59 = .ok (.istore 4, 2) := by decide +kernel
theorem dX10_scoreOf_61 : decode cX10_scoreOf 61 = .ok (.goto 123, 3) := by decide +kernel
theorem dX10_scoreOf_64 : decode cX10_scoreOf 64 = .ok (.iconst 0, 1) := by decide +kernel
theorem dX10_scoreOf_65 : decode cX10_scoreOf 65 = .ok (.istore_n 3, 1) := by decide +kernel
theorem dX10_scoreOf_66 : decode cX10_scoreOf 66 = .ok (.iconst 0, 1) := by decide +kernel
theorem dX10_scoreOf_67 : decode cX10_scoreOf 67 = .ok (.istore 8, 2) := by decide +kernel
theorem dX10_scoreOf_69 : decode cX10_scoreOf 69 = .ok (.iload 8, 2) := by decide +kernel
theorem dX10_scoreOf_71 : decode cX10_scoreOf 71 = .ok (.aload_n 0, 1) := by decide +kernel
theorem dX10_scoreOf_72 : decode cX10_scoreOf 72 = .ok (.iload 7, 2) := by decide +kernel
theorem dX10_scoreOf_74 : decode cX10_scoreOf 74 = .ok (.iload_n 2, 1) := by decide +kernel
theorem dX10_scoreOf_75 : decode cX10_scoreOf 75 = .ok (.invokevirtual 164, 3) := by decide +kernel
theorem dX10_scoreOf_78 : decode cX10_scoreOf 78 = .ok (.if_icmp .ge 106, 3) := by decide +kernel
theorem dX10_scoreOf_81 : decode cX10_scoreOf 81 = .ok (.iload_n 1, 1) := by decide +kernel
theorem dX10_scoreOf_82 : decode cX10_scoreOf 82 = .ok (.aload_n 0, 1) := by decide +kernel
theorem dX10_scoreOf_83 : decode cX10_scoreOf 83 = .ok (.iload 6, 2) := by decide +kernel
theorem dX10_scoreOf_85 : decode cX10_scoreOf 85 = .ok (.invokevirtual 267, 3) := by decide +kernel
theorem dX10_scoreOf_88 : decode cX10_scoreOf 88 = .ok (.aload_n 0, 1) := by decide +kernel
theorem dX10_scoreOf_89 : decode cX10_scoreOf 89 = .ok (.getfield 99, 3) := by decide +kernel
theorem dX10_scoreOf_92 : decode cX10_scoreOf 92 = .ok (.bipush 40, 2) := by decide +kernel
theorem dX10_scoreOf_94 : decode cX10_scoreOf 94 = .ok (.iload 6, 2) := by decide +kernel
theorem dX10_scoreOf_96 : decode cX10_scoreOf 96 = .ok (.imul, 1) := by decide +kernel
theorem dX10_scoreOf_97 : decode cX10_scoreOf 97 = .ok (.aload_n 0, 1) := by decide +kernel
theorem dX10_scoreOf_98 : decode cX10_scoreOf 98 = .ok (.iload 7, 2) := by decide +kernel
theorem dX10_scoreOf_100 : decode cX10_scoreOf 100 = .ok (.iload_n 2, 1) := by decide +kernel
theorem dX10_scoreOf_101 : decode cX10_scoreOf 101 = .ok (.iload 8, 2) := by decide +kernel
theorem dX10_scoreOf_103 : decode cX10_scoreOf 103 = .ok (.invokevirtual 167, 3) := by decide +kernel
theorem dX10_scoreOf_106 : decode cX10_scoreOf 106 = .ok (.iadd, 1) := by decide +kernel
theorem dX10_scoreOf_107 : decode cX10_scoreOf 107 = .ok (.iaload, 1) := by decide +kernel
theorem dX10_scoreOf_108 : decode cX10_scoreOf 108 = .ok (.aload_n 0, 1) := by decide +kernel
theorem dX10_scoreOf_109 : decode cX10_scoreOf 109 = .ok (.getfield 99, 3) := by decide +kernel
theorem dX10_scoreOf_112 : decode cX10_scoreOf 112 = .ok (.bipush 40, 2) := by decide +kernel
theorem dX10_scoreOf_114 : decode cX10_scoreOf 114 = .ok (.iload 6, 2) := by decide +kernel
theorem dX10_scoreOf_116 : decode cX10_scoreOf 116 = .ok (.imul, 1) := by decide +kernel
theorem dX10_scoreOf_117 : decode cX10_scoreOf 117 = .ok (.iload 7, 2) := by decide +kernel
theorem dX10_scoreOf_119 : decode cX10_scoreOf 119 = .ok (.iadd, 1) := by decide +kernel
theorem dX10_scoreOf_120 : decode cX10_scoreOf 120 = .ok (.iaload, 1) := by decide +kernel
theorem dX10_scoreOf_121 : decode cX10_scoreOf 121 = .ok (.isub, 1) := by decide +kernel
theorem dX10_scoreOf_122 : decode cX10_scoreOf 122 = .ok (.imul, 1) := by decide +kernel
theorem dX10_scoreOf_123 : decode cX10_scoreOf 123 = .ok (.iadd, 1) := by decide +kernel
theorem dX10_scoreOf_124 : decode cX10_scoreOf 124 = .ok (.istore 9, 2) := by decide +kernel
theorem dX10_scoreOf_126 : decode cX10_scoreOf 126 = .ok (.aload_n 0, 1) := by decide +kernel
theorem dX10_scoreOf_127 : decode cX10_scoreOf 127 = .ok (.getfield 102, 3) := by decide +kernel
theorem dX10_scoreOf_130 : decode cX10_scoreOf 130 = .ok (.iconst 2, 1) := by decide +kernel
theorem dX10_scoreOf_131 : decode cX10_scoreOf 131 = .ok (.iload 9, 2) := by decide +kernel
theorem dX10_scoreOf_133 : decode cX10_scoreOf 133 = .ok (.imul, 1) := by decide +kernel
theorem dX10_scoreOf_134 : decode cX10_scoreOf 134 = .ok (.iconst 1, 1) := by decide +kernel
theorem dX10_scoreOf_135 : decode cX10_scoreOf 135 = .ok (.iadd, 1) := by decide +kernel
theorem dX10_scoreOf_136 : decode cX10_scoreOf 136 = .ok (.iload_n 2, 1) := by decide +kernel
theorem dX10_scoreOf_137 : decode cX10_scoreOf 137 = .ok (.isub, 1) := by decide +kernel
theorem dX10_scoreOf_138 : decode cX10_scoreOf 138 = .ok (.iaload, 1) := by decide +kernel
theorem dX10_scoreOf_139 : decode cX10_scoreOf 139 = .ok (.istore 10, 2) := by decide +kernel
theorem dX10_scoreOf_141 : decode cX10_scoreOf 141 = .ok (.iload_n 2, 1) := by decide +kernel
theorem dX10_scoreOf_142 : decode cX10_scoreOf 142 = .ok (.ifCond .ne 20, 3) := by decide +kernel
theorem dX10_scoreOf_145 : decode cX10_scoreOf 145 = .ok (.iload 10, 2) := by decide +kernel
theorem dX10_scoreOf_147 : decode cX10_scoreOf 147 = .ok (.iload 5, 2) := by decide +kernel
theorem dX10_scoreOf_149 : decode cX10_scoreOf 149 = .ok (.if_icmp .le 8, 3) := by decide +kernel
theorem dX10_scoreOf_152 : decode cX10_scoreOf 152 = .ok (.iload 10, 2) := by decide +kernel
theorem dX10_scoreOf_154 : decode cX10_scoreOf 154 = .ok (.goto 22, 3) := by decide +kernel
theorem dX10_scoreOf_157 : decode cX10_scoreOf 157 = .ok (.iload 5, 2) := by decide +kernel
theorem dX10_scoreOf_159 : decode cX10_scoreOf 159 = .ok (.goto 17, 3) := by decide +kernel
theorem dX10_scoreOf_162 : decode cX10_scoreOf 162 = .ok (.iload 10, 2) := by decide +kernel
theorem dX10_scoreOf_164 : decode cX10_scoreOf 164 = .ok (.iload 5, 2) := by decide +kernel
theorem dX10_scoreOf_166 : decode cX10_scoreOf 166 = .ok (.if_icmp .ge 8, 3) := by decide +kernel
theorem dX10_scoreOf_169 : decode cX10_scoreOf 169 = .ok (.iload 10, 2) := by decide +kernel
theorem dX10_scoreOf_171 : decode cX10_scoreOf 171 = .ok (.goto 5, 3) := by decide +kernel
theorem dX10_scoreOf_174 : decode cX10_scoreOf 174 = .ok (.iload 5, 2) := by decide +kernel
theorem dX10_scoreOf_176 : decode cX10_scoreOf 176 = .ok (.istore 5, 2) := by decide +kernel
theorem dX10_scoreOf_178 : decode cX10_scoreOf 178 = .ok (.iinc 8 1, 3) := by decide +kernel
theorem dX10_scoreOf_181 : decode cX10_scoreOf 181 = .ok (.goto (-112), 3) := by decide +kernel
theorem dX10_scoreOf_184 : decode cX10_scoreOf 184 = .ok (.iinc 6 1, 3) := by decide +kernel
theorem dX10_scoreOf_187 : decode cX10_scoreOf 187 = .ok (.goto (-166), 3) := by decide +kernel
theorem dX10_scoreOf_190 : decode cX10_scoreOf 190 = .ok (.iload_n 3, 1) := by decide +kernel
theorem dX10_scoreOf_191 : decode cX10_scoreOf 191 = .ok (.ifCond .eq 8, 3) := by decide +kernel
theorem dX10_scoreOf_194 : decode cX10_scoreOf 194 = .ok (.iload 4, 2) := by decide +kernel
theorem dX10_scoreOf_196 : decode cX10_scoreOf 196 = .ok (.goto 5, 3) := by decide +kernel
theorem dX10_scoreOf_199 : decode cX10_scoreOf 199 = .ok (.iload 5, 2) := by decide +kernel
theorem dX10_scoreOf_201 : decode cX10_scoreOf 201 = .ok (.ireturn, 1) := by decide +kernel
theorem dX10_laysScores_0 : decode cX10_laysScores 0 = .ok (.aload_n 0, 1) := by decide +kernel
theorem dX10_laysScores_1 : decode cX10_laysScores 1 = .ok (.invokevirtual 264, 3) := by decide +kernel
theorem dX10_laysScores_4 : decode cX10_laysScores 4 = .ok (.istore_n 1, 1) := by decide +kernel
theorem dX10_laysScores_5 : decode cX10_laysScores 5 = .ok (.iconst 0, 1) := by decide +kernel
theorem dX10_laysScores_6 : decode cX10_laysScores 6 = .ok (.istore_n 2, 1) := by decide +kernel
theorem dX10_laysScores_7 : decode cX10_laysScores 7 = .ok (.iload_n 2, 1) := by decide +kernel
theorem dX10_laysScores_8 : decode cX10_laysScores 8 = .ok (.iload_n 1, 1) := by decide +kernel
theorem dX10_laysScores_9 : decode cX10_laysScores 9 = .ok (.if_icmp .ge 39, 3) := by decide +kernel
theorem dX10_laysScores_12 : decode cX10_laysScores 12 = .ok (.aload_n 0, 1) := by decide +kernel
theorem dX10_laysScores_13 : decode cX10_laysScores 13 = .ok (.getfield 102, 3) := by decide +kernel
theorem dX10_laysScores_16 : decode cX10_laysScores 16 = .ok (.iconst 2, 1) := by decide +kernel
theorem dX10_laysScores_17 : decode cX10_laysScores 17 = .ok (.iload_n 2, 1) := by decide +kernel
theorem dX10_laysScores_18 : decode cX10_laysScores 18 = .ok (.imul, 1) := by decide +kernel
theorem dX10_laysScores_19 : decode cX10_laysScores 19 = .ok (.aload_n 0, 1) := by decide +kernel
theorem dX10_laysScores_20 : decode cX10_laysScores 20 = .ok (.iload_n 2, 1) := by decide +kernel
theorem dX10_laysScores_21 : decode cX10_laysScores 21 = .ok (.iconst 0, 1) := by decide +kernel
theorem dX10_laysScores_22 : decode cX10_laysScores 22 = .ok (.invokevirtual 273, 3) := by decide +kernel
theorem dX10_laysScores_25 : decode cX10_laysScores 25 = .ok (.iastore, 1) := by decide +kernel
theorem dX10_laysScores_26 : decode cX10_laysScores 26 = .ok (.aload_n 0, 1) := by decide +kernel
theorem dX10_laysScores_27 : decode cX10_laysScores 27 = .ok (.getfield 102, 3) := by decide +kernel
theorem dX10_laysScores_30 : decode cX10_laysScores 30 = .ok (.iconst 2, 1) := by decide +kernel
theorem dX10_laysScores_31 : decode cX10_laysScores 31 = .ok (.iload_n 2, 1) := by decide +kernel
theorem dX10_laysScores_32 : decode cX10_laysScores 32 = .ok (.imul, 1) := by decide +kernel
theorem dX10_laysScores_33 : decode cX10_laysScores 33 = .ok (.iconst 1, 1) := by decide +kernel
theorem dX10_laysScores_34 : decode cX10_laysScores 34 = .ok (.iadd, 1) := by decide +kernel
theorem dX10_laysScores_35 : decode cX10_laysScores 35 = .ok (.aload_n 0, 1) := by decide +kernel
theorem dX10_laysScores_36 : decode cX10_laysScores 36 = .ok (.iload_n 2, 1) := by decide +kernel
theorem dX10_laysScores_37 : decode cX10_laysScores 37 = .ok (.iconst 1, 1) := by decide +kernel
theorem dX10_laysScores_38 : decode cX10_laysScores 38 = .ok (.invokevirtual 273, 3) := by decide +kernel
theorem dX10_laysScores_41 : decode cX10_laysScores 41 = .ok (.iastore, 1) := by decide +kernel
theorem dX10_laysScores_42 : decode cX10_laysScores 42 = .ok (.iinc 2 1, 3) := by decide +kernel
theorem dX10_laysScores_45 : decode cX10_laysScores 45 = .ok (.goto (-38), 3) := by decide +kernel
theorem dX10_laysScores_48 : decode cX10_laysScores 48 = .ok (.iload_n 1, 1) := by decide +kernel
theorem dX10_laysScores_49 : decode cX10_laysScores 49 = .ok (.iconst 1, 1) := by decide +kernel
theorem dX10_laysScores_50 : decode cX10_laysScores 50 = .ok (.isub, 1) := by decide +kernel
theorem dX10_laysScores_51 : decode cX10_laysScores 51 = .ok (.ireturn, 1) := by decide +kernel
theorem dX10_best_0 : decode cX10_best 0 = .ok (.aload_n 0, 1) := by decide +kernel
theorem dX10_best_1 : decode cX10_best 1 = .ok (.invokevirtual 261, 3) := by decide +kernel
theorem dX10_best_4 : decode cX10_best 4 = .ok (.aload_n 0, 1) := by decide +kernel
theorem dX10_best_5 : decode cX10_best 5 = .ok (.iload_n 1, 1) := by decide +kernel
theorem dX10_best_6 : decode cX10_best 6 = .ok (.iconst 0, 1) := by decide +kernel
theorem dX10_best_7 : decode cX10_best 7 = .ok (.iconst 1, 1) := by decide +kernel
theorem dX10_best_8 : decode cX10_best 8 = .ok (.invokestatic 152, 3) := by decide +kernel
theorem dX10_best_11 : decode cX10_best 11 = .ok (.ifCond .ne 7, 3) := by decide +kernel
theorem dX10_best_14 : decode cX10_best 14 = .ok (.iconst 1, 1) := by decide +kernel
theorem dX10_best_15 : decode cX10_best 15 = .ok (.goto 18, 3) := by decide +kernel
theorem dX10_best_18 : decode cX10_best 18 = .ok (.aload_n 0, 1) := by decide +kernel
theorem dX10_best_19 : decode cX10_best 19 = .ok (.invokevirtual 264, 3) := by decide +kernel
theorem dX10_best_22 : decode cX10_best 22 = .ok (.sipush 4000, 3) := by decide +kernel
theorem dX10_best_25 : decode cX10_best 25 = .ok (.if_icmp .le 7, 3) := by decide +kernel
theorem dX10_best_28 : decode cX10_best 28 = .ok (.iconst 2, 1) := by decide +kernel
theorem dX10_best_29 : decode cX10_best 29 = .ok (.goto 4, 3) := by decide +kernel
theorem dX10_best_32 : decode cX10_best 32 = .ok (.iconst 0, 1) := by decide +kernel
theorem dX10_best_33 : decode cX10_best 33 = .ok (.invokevirtual 227, 3) := by decide +kernel
theorem dX10_best_36 : decode cX10_best 36 = .ok (.ifCond .eq 5, 3) := by decide +kernel
theorem dX10_best_39 : decode cX10_best 39 = .ok (.iconst 0, 1) := by decide +kernel
theorem dX10_best_40 : decode cX10_best 40 = .ok (.ireturn, 1) := by decide +kernel
theorem dX10_best_41 : decode cX10_best 41 = .ok (.aload_n 0, 1) := by decide +kernel
theorem dX10_best_42 : decode cX10_best 42 = .ok (.getfield 102, 3) := by decide +kernel
theorem dX10_best_45 : decode cX10_best 45 = .ok (.iconst 2, 1) := by decide +kernel
theorem dX10_best_46 : decode cX10_best 46 = .ok (.aload_n 0, 1) := by decide +kernel
theorem dX10_best_47 : decode cX10_best 47 = .ok (.invokevirtual 276, 3) := by decide +kernel
theorem dX10_best_50 : decode cX10_best 50 = .ok (.imul, 1) := by decide +kernel
theorem dX10_best_51 : decode cX10_best 51 = .ok (.iload_n 1, 1) := by decide +kernel
theorem dX10_best_52 : decode cX10_best 52 = .ok (.iadd, 1) := by decide +kernel
theorem dX10_best_53 : decode cX10_best 53 = .ok (.iaload, 1) := by decide +kernel
theorem dX10_best_54 : decode cX10_best 54 = .ok (.ireturn, 1) := by decide +kernel
theorem dX10_isOver_0 : decode cX10_isOver 0 = .ok (.iconst 1, 1) := by decide +kernel
theorem dX10_isOver_1 : decode cX10_isOver 1 = .ok (.istore_n 1, 1) := by decide +kernel
theorem dX10_isOver_2 : decode cX10_isOver 2 = .ok (.iconst 0, 1) := by decide +kernel
theorem dX10_isOver_3 : decode cX10_isOver 3 = .ok (.istore_n 2, 1) := by decide +kernel
theorem dX10_isOver_4 : decode cX10_isOver 4 = .ok (.iload_n 2, 1) := by decide +kernel
theorem dX10_isOver_5 : decode cX10_isOver 5 = .ok (.aload_n 0, 1) := by decide +kernel
theorem dX10_isOver_6 : decode cX10_isOver 6 = .ok (.getfield 142, 3) := by decide +kernel
theorem dX10_isOver_9 : decode cX10_isOver 9 = .ok (.if_icmp .ge 33, 3) := by decide +kernel
theorem dX10_isOver_12 : decode cX10_isOver 12 = .ok (.iload_n 1, 1) := by decide +kernel
theorem dX10_isOver_13 : decode cX10_isOver 13 = .ok (.ifCond .eq 21, 3) := by decide +kernel
theorem dX10_isOver_16 : decode cX10_isOver 16 = .ok (.aload_n 0, 1) := by decide +kernel
theorem dX10_isOver_17 : decode cX10_isOver 17 = .ok (.getfield 26, 3) := by decide +kernel
theorem dX10_isOver_20 : decode cX10_isOver 20 = .ok (.aload_n 0, 1) := by decide +kernel
theorem dX10_isOver_21 : decode cX10_isOver 21 = .ok (.getfield 90, 3) := by decide +kernel
theorem dX10_isOver_24 : decode cX10_isOver 24 = .ok (.iload_n 2, 1) := by decide +kernel
theorem dX10_isOver_25 : decode cX10_isOver 25 = .ok (.iaload, 1) := by decide +kernel
theorem dX10_isOver_26 : decode cX10_isOver 26 = .ok (.baload, 1) := by decide +kernel
theorem dX10_isOver_27 : decode cX10_isOver 27 = .ok (.ifCond .eq 7, 3) := by decide +kernel
theorem dX10_isOver_30 : decode cX10_isOver 30 = .ok (.iconst 1, 1) := by decide +kernel
theorem dX10_isOver_31 : decode cX10_isOver 31 = .ok (.goto 4, 3) := by decide +kernel
theorem dX10_isOver_34 : decode cX10_isOver 34 = .ok (.iconst 0, 1) := by decide +kernel
theorem dX10_isOver_35 : decode cX10_isOver 35 = .ok (.istore_n 1, 1) := by decide +kernel
theorem dX10_isOver_36 : decode cX10_isOver 36 = .ok (.iinc 2 1, 3) := by decide +kernel
theorem dX10_isOver_39 : decode cX10_isOver 39 = .ok (.goto (-35), 3) := by decide +kernel
theorem dX10_isOver_42 : decode cX10_isOver 42 = .ok (.iload_n 1, 1) := by decide +kernel
theorem dX10_isOver_43 : decode cX10_isOver 43 = .ok (.ireturn, 1) := by decide +kernel
theorem dX10_worth_0 : decode cX10_worth 0 = .ok (.aload_n 0, 1) := by decide +kernel
theorem dX10_worth_1 : decode cX10_worth 1 = .ok (.getfield 90, 3) := by decide +kernel
theorem dX10_worth_4 : decode cX10_worth 4 = .ok (.iload_n 3, 1) := by decide +kernel
theorem dX10_worth_5 : decode cX10_worth 5 = .ok (.iaload, 1) := by decide +kernel
theorem dX10_worth_6 : decode cX10_worth 6 = .ok (.istore 5, 2) := by decide +kernel
theorem dX10_worth_8 : decode cX10_worth 8 = .ok (.aload_n 0, 1) := by decide +kernel
theorem dX10_worth_9 : decode cX10_worth 9 = .ok (.iload 5, 2) := by decide +kernel
theorem dX10_worth_11 : decode cX10_worth 11 = .ok (.iload_n 1, 1) := by decide +kernel
theorem dX10_worth_12 : decode cX10_worth 12 = .ok (.iload 4, 2) := by decide +kernel
theorem dX10_worth_14 : decode cX10_worth 14 = .ok (.invokevirtual 167, 3) := by decide +kernel
theorem dX10_worth_17 : decode cX10_worth 17 = .ok (.istore 6, 2) := by decide +kernel
theorem dX10_worth_19 : decode cX10_worth 19 = .ok (.iload_n 1, 1) := by decide +kernel
theorem dX10_worth_20 : decode cX10_worth 20 = .ok (.ifCond .ne 7, 3) := by decide +kernel
theorem dX10_worth_23 : decode cX10_worth 23 = .ok (.iconst 1, 1) := by decide +kernel
theorem dX10_worth_24 : decode cX10_worth 24 = .ok (.goto 4, 3) := by decide +kernel
theorem dX10_worth_27 : decode cX10_worth 27 = .ok (.iconst (-1), 1) := by decide +kernel
theorem dX10_worth_28 : decode cX10_worth 28 = .ok (.istore 7, 2) := by decide +kernel
theorem dX10_worth_30 : decode cX10_worth 30 = .ok (.iload_n 2, 1) := by decide +kernel
theorem dX10_worth_31 : decode cX10_worth 31 = .ok (.tableswitch 66 0 2 #[25, 27, 47], 25) := by decide +kernel
theorem dX10_worth_56 : decode cX10_worth 56 = .ok (.iconst 0, 1) := by decide +kernel
theorem dX10_worth_57 : decode cX10_worth 57 = .ok (.ireturn, 1) := by decide +kernel
theorem dX10_worth_58 : decode cX10_worth 58 = .ok (.iload 7, 2) := by decide +kernel
theorem dX10_worth_60 : decode cX10_worth 60 = .ok (.aload_n 0, 1) := by decide +kernel
theorem dX10_worth_61 : decode cX10_worth 61 = .ok (.iload 6, 2) := by decide +kernel
theorem dX10_worth_63 : decode cX10_worth 63 = .ok (.iconst 1, 1) := by decide +kernel
theorem dX10_worth_64 : decode cX10_worth 64 = .ok (.iload_n 1, 1) := by decide +kernel
theorem dX10_worth_65 : decode cX10_worth 65 = .ok (.isub, 1) := by decide +kernel
theorem dX10_worth_66 : decode cX10_worth 66 = .ok (.aload_n 0, 1) := by decide +kernel
theorem dX10_worth_67 : decode cX10_worth 67 = .ok (.getfield 50, 3) := by decide +kernel
theorem dX10_worth_70 : decode cX10_worth 70 = .ok (.iload 5, 2) := by decide +kernel
theorem dX10_worth_72 : decode cX10_worth 72 = .ok (.iaload, 1) := by decide +kernel
theorem dX10_worth_73 : decode cX10_worth 73 = .ok (.invokevirtual 252, 3) := by decide +kernel
theorem dX10_worth_76 : decode cX10_worth 76 = .ok (.imul, 1) := by decide +kernel
theorem dX10_worth_77 : decode cX10_worth 77 = .ok (.ireturn, 1) := by decide +kernel
theorem dX10_worth_78 : decode cX10_worth 78 = .ok (.iload 7, 2) := by decide +kernel
theorem dX10_worth_80 : decode cX10_worth 80 = .ok (.aload_n 0, 1) := by decide +kernel
theorem dX10_worth_81 : decode cX10_worth 81 = .ok (.getfield 47, 3) := by decide +kernel
theorem dX10_worth_84 : decode cX10_worth 84 = .ok (.iload 6, 2) := by decide +kernel
theorem dX10_worth_86 : decode cX10_worth 86 = .ok (.iaload, 1) := by decide +kernel
theorem dX10_worth_87 : decode cX10_worth 87 = .ok (.aload_n 0, 1) := by decide +kernel
theorem dX10_worth_88 : decode cX10_worth 88 = .ok (.getfield 47, 3) := by decide +kernel
theorem dX10_worth_91 : decode cX10_worth 91 = .ok (.iload 5, 2) := by decide +kernel
theorem dX10_worth_93 : decode cX10_worth 93 = .ok (.iaload, 1) := by decide +kernel
theorem dX10_worth_94 : decode cX10_worth 94 = .ok (.isub, 1) := by decide +kernel
theorem dX10_worth_95 : decode cX10_worth 95 = .ok (.imul, 1) := by decide +kernel
theorem dX10_worth_96 : decode cX10_worth 96 = .ok (.ireturn, 1) := by decide +kernel
theorem dX10_worth_97 : decode cX10_worth 97 = .ok (.iload 7, 2) := by decide +kernel
theorem dX10_worth_99 : decode cX10_worth 99 = .ok (.aload_n 0, 1) := by decide +kernel
theorem dX10_worth_100 : decode cX10_worth 100 = .ok (.getfield 102, 3) := by decide +kernel
theorem dX10_worth_103 : decode cX10_worth 103 = .ok (.iconst 2, 1) := by decide +kernel
theorem dX10_worth_104 : decode cX10_worth 104 = .ok (.aload_n 0, 1) := by decide +kernel
theorem dX10_worth_105 : decode cX10_worth 105 = .ok (.getfield 279, 3) := by decide +kernel
theorem dX10_worth_108 : decode cX10_worth 108 = .ok (.aload_n 0, 1) := by decide +kernel
theorem dX10_worth_109 : decode cX10_worth 109 = .ok (.iload_n 3, 1) := by decide +kernel
theorem dX10_worth_110 : decode cX10_worth 110 = .ok (.invokevirtual 267, 3) := by decide +kernel
theorem dX10_worth_113 : decode cX10_worth 113 = .ok (.aload_n 0, 1) := by decide +kernel
theorem dX10_worth_114 : decode cX10_worth 114 = .ok (.getfield 99, 3) := by decide +kernel
theorem dX10_worth_117 : decode cX10_worth 117 = .ok (.bipush 40, 2) := by decide +kernel
theorem dX10_worth_119 : decode cX10_worth 119 = .ok (.iload_n 3, 1) := by decide +kernel
theorem dX10_worth_120 : decode cX10_worth 120 = .ok (.imul, 1) := by decide +kernel
theorem dX10_worth_121 : decode cX10_worth 121 = .ok (.iload 6, 2) := by decide +kernel
theorem dX10_worth_123 : decode cX10_worth 123 = .ok (.iadd, 1) := by decide +kernel
theorem dX10_worth_124 : decode cX10_worth 124 = .ok (.iaload, 1) := by decide +kernel
theorem dX10_worth_125 : decode cX10_worth 125 = .ok (.aload_n 0, 1) := by decide +kernel
theorem dX10_worth_126 : decode cX10_worth 126 = .ok (.getfield 99, 3) := by decide +kernel
theorem dX10_worth_129 : decode cX10_worth 129 = .ok (.bipush 40, 2) := by decide +kernel
theorem dX10_worth_131 : decode cX10_worth 131 = .ok (.iload_n 3, 1) := by decide +kernel
theorem dX10_worth_132 : decode cX10_worth 132 = .ok (.imul, 1) := by decide +kernel
theorem dX10_worth_133 : decode cX10_worth 133 = .ok (.iload 5, 2) := by decide +kernel
theorem dX10_worth_135 : decode cX10_worth 135 = .ok (.iadd, 1) := by decide +kernel
theorem dX10_worth_136 : decode cX10_worth 136 = .ok (.iaload, 1) := by decide +kernel
theorem dX10_worth_137 : decode cX10_worth 137 = .ok (.isub, 1) := by decide +kernel
theorem dX10_worth_138 : decode cX10_worth 138 = .ok (.imul, 1) := by decide +kernel
theorem dX10_worth_139 : decode cX10_worth 139 = .ok (.iadd, 1) := by decide +kernel
theorem dX10_worth_140 : decode cX10_worth 140 = .ok (.imul, 1) := by decide +kernel
theorem dX10_worth_141 : decode cX10_worth 141 = .ok (.iconst 1, 1) := by decide +kernel
theorem dX10_worth_142 : decode cX10_worth 142 = .ok (.iadd, 1) := by decide +kernel
theorem dX10_worth_143 : decode cX10_worth 143 = .ok (.iload_n 1, 1) := by decide +kernel
theorem dX10_worth_144 : decode cX10_worth 144 = .ok (.isub, 1) := by decide +kernel
theorem dX10_worth_145 : decode cX10_worth 145 = .ok (.iaload, 1) := by decide +kernel
theorem dX10_worth_146 : decode cX10_worth 146 = .ok (.imul, 1) := by decide +kernel
theorem dX10_worth_147 : decode cX10_worth 147 = .ok (.ireturn, 1) := by decide +kernel
theorem dX10_hottest_0 : decode cX10_hottest 0 = .ok (.iconst (-1), 1) := by decide +kernel
theorem dX10_hottest_1 : decode cX10_hottest 1 = .ok (.istore_n 1, 1) := by decide +kernel
theorem dX10_hottest_2 : decode cX10_hottest 2 = .ok (.iconst 0, 1) := by decide +kernel
theorem dX10_hottest_3 : decode cX10_hottest 3 = .ok (.istore_n 2, 1) := by decide +kernel
theorem dX10_hottest_4 : decode cX10_hottest 4 = .ok (.iload_n 2, 1) := by decide +kernel
theorem dX10_hottest_5 : decode cX10_hottest 5 = .ok (.aload_n 0, 1) := by decide +kernel
theorem dX10_hottest_6 : decode cX10_hottest 6 = .ok (.getfield 142, 3) := by decide +kernel
theorem dX10_hottest_9 : decode cX10_hottest 9 = .ok (.if_icmp .ge 55, 3) := by decide +kernel
theorem dX10_hottest_12 : decode cX10_hottest 12 = .ok (.aload_n 0, 1) := by decide +kernel
theorem dX10_hottest_13 : decode cX10_hottest 13 = .ok (.getfield 26, 3) := by decide +kernel
theorem dX10_hottest_16 : decode cX10_hottest 16 = .ok (.aload_n 0, 1) := by decide +kernel
theorem dX10_hottest_17 : decode cX10_hottest 17 = .ok (.getfield 90, 3) := by decide +kernel
theorem dX10_hottest_20 : decode cX10_hottest 20 = .ok (.iload_n 2, 1) := by decide +kernel
theorem dX10_hottest_21 : decode cX10_hottest 21 = .ok (.iaload, 1) := by decide +kernel
theorem dX10_hottest_22 : decode cX10_hottest 22 = .ok (.baload, 1) := by decide +kernel
theorem dX10_hottest_23 : decode cX10_hottest 23 = .ok (.ifCond .ne 35, 3) := by decide +kernel
theorem dX10_hottest_26 : decode cX10_hottest 26 = .ok (.iload_n 1, 1) := by decide +kernel
theorem dX10_hottest_27 : decode cX10_hottest 27 = .ok (.iconst (-1), 1) := by decide +kernel
theorem dX10_hottest_28 : decode cX10_hottest 28 = .ok (.if_icmp .eq 28, 3) := by decide +kernel
theorem dX10_hottest_31 : decode cX10_hottest 31 = .ok (.aload_n 0, 1) := by decide +kernel
theorem dX10_hottest_32 : decode cX10_hottest 32 = .ok (.getfield 50, 3) := by decide +kernel
theorem dX10_hottest_35 : decode cX10_hottest 35 = .ok (.aload_n 0, 1) := by decide +kernel
theorem dX10_hottest_36 : decode cX10_hottest 36 = .ok (.getfield 90, 3) := by decide +kernel
theorem dX10_hottest_39 : decode cX10_hottest 39 = .ok (.iload_n 2, 1) := by decide +kernel
theorem dX10_hottest_40 : decode cX10_hottest 40 = .ok (.iaload, 1) := by decide +kernel
theorem dX10_hottest_41 : decode cX10_hottest 41 = .ok (.iaload, 1) := by decide +kernel
theorem dX10_hottest_42 : decode cX10_hottest 42 = .ok (.aload_n 0, 1) := by decide +kernel
theorem dX10_hottest_43 : decode cX10_hottest 43 = .ok (.getfield 50, 3) := by decide +kernel
theorem dX10_hottest_46 : decode cX10_hottest 46 = .ok (.aload_n 0, 1) := by decide +kernel
theorem dX10_hottest_47 : decode cX10_hottest 47 = .ok (.getfield 90, 3) := by decide +kernel
theorem dX10_hottest_50 : decode cX10_hottest 50 = .ok (.iload_n 1, 1) := by decide +kernel
theorem dX10_hottest_51 : decode cX10_hottest 51 = .ok (.iaload, 1) := by decide +kernel
theorem dX10_hottest_52 : decode cX10_hottest 52 = .ok (.iaload, 1) := by decide +kernel
theorem dX10_hottest_53 : decode cX10_hottest 53 = .ok (.if_icmp .le 5, 3) := by decide +kernel
theorem dX10_hottest_56 : decode cX10_hottest 56 = .ok (.iload_n 2, 1) := by decide +kernel
theorem dX10_hottest_57 : decode cX10_hottest 57 = .ok (.istore_n 1, 1) := by decide +kernel
theorem dX10_hottest_58 : decode cX10_hottest 58 = .ok (.iinc 2 1, 3) := by decide +kernel
theorem dX10_hottest_61 : decode cX10_hottest 61 = .ok (.goto (-57), 3) := by decide +kernel
theorem dX10_hottest_64 : decode cX10_hottest 64 = .ok (.iload_n 1, 1) := by decide +kernel
theorem dX10_hottest_65 : decode cX10_hottest 65 = .ok (.ireturn, 1) := by decide +kernel
theorem dX10_chosen_0 : decode cX10_chosen 0 = .ok (.aload_n 0, 1) := by decide +kernel
theorem dX10_chosen_1 : decode cX10_chosen 1 = .ok (.invokevirtual 282, 3) := by decide +kernel
theorem dX10_chosen_4 : decode cX10_chosen 4 = .ok (.ifCond .eq 5, 3) := by decide +kernel
theorem dX10_chosen_7 : decode cX10_chosen 7 = .ok (.iconst (-1), 1) := by decide +kernel
theorem dX10_chosen_8 : decode cX10_chosen 8 = .ok (.ireturn, 1) := by decide +kernel
theorem dX10_chosen_9 : decode cX10_chosen 9 = .ok (.iload_n 2, 1) := by decide +kernel
theorem dX10_chosen_10 : decode cX10_chosen 10 = .ok (.iconst 3, 1) := by decide +kernel
theorem dX10_chosen_11 : decode cX10_chosen 11 = .ok (.if_icmp .ne 11, 3) := by decide +kernel
theorem dX10_chosen_14 : decode cX10_chosen 14 = .ok (.aload_n 0, 1) := by decide +kernel
theorem dX10_chosen_15 : decode cX10_chosen 15 = .ok (.aload_n 0, 1) := by decide +kernel
theorem dX10_chosen_16 : decode cX10_chosen 16 = .ok (.invokevirtual 276, 3) := by decide +kernel
theorem dX10_chosen_19 : decode cX10_chosen 19 = .ok (.putfield 279, 3) := by decide +kernel
theorem dX10_chosen_22 : decode cX10_chosen 22 = .ok (.iload_n 2, 1) := by decide +kernel
theorem dX10_chosen_23 : decode cX10_chosen 23 = .ok (.iconst 1, 1) := by decide +kernel
theorem dX10_chosen_24 : decode cX10_chosen 24 = .ok (.if_icmp .ne 10, 3) := by decide +kernel
theorem dX10_chosen_27 : decode cX10_chosen 27 = .ok (.aload_n 0, 1) := by decide +kernel
theorem dX10_chosen_28 : decode cX10_chosen 28 = .ok (.invokevirtual 286, 3) := by decide +kernel
theorem dX10_chosen_31 : decode cX10_chosen 31 = .ok (.goto 4, 3) := by decide +kernel
theorem dX10_chosen_34 : decode cX10_chosen 34 = .ok (.iconst (-1), 1) := by decide +kernel
theorem dX10_chosen_35 : decode cX10_chosen 35 = .ok (.istore_n 3, 1) := by decide +kernel
theorem dX10_chosen_36 : decode cX10_chosen 36 = .ok (.iconst (-1), 1) := by decide +kernel
theorem dX10_chosen_37 : decode cX10_chosen 37 = .ok (.istore 4, 2) := by decide +kernel
theorem dX10_chosen_39 : decode cX10_chosen 39 = .ok (.iconst 0, 1) := by decide +kernel
theorem dX10_chosen_40 : decode cX10_chosen 40 = .ok (.istore 5, 2) := by decide +kernel
theorem dX10_chosen_42 : decode cX10_chosen 42 = .ok (.iconst 0, 1) := by decide +kernel
theorem dX10_chosen_43 : decode cX10_chosen 43 = .ok (.istore 6, 2) := by decide +kernel
theorem dX10_chosen_45 : decode cX10_chosen 45 = .ok (.iload 6, 2) := by decide +kernel
theorem dX10_chosen_47 : decode cX10_chosen 47 = .ok (.aload_n 0, 1) := by decide +kernel
theorem dX10_chosen_48 : decode cX10_chosen 48 = .ok (.getfield 142, 3) := by decide +kernel
theorem dX10_chosen_51 : decode cX10_chosen 51 = .ok (.if_icmp .ge 100, 3) := by decide +kernel
theorem dX10_chosen_54 : decode cX10_chosen 54 = .ok (.iconst 0, 1) := by decide +kernel
theorem dX10_chosen_55 : decode cX10_chosen 55 = .ok (.istore 7, 2) := by decide +kernel
theorem dX10_chosen_57 : decode cX10_chosen 57 = .ok (.aload_n 0, 1) := by decide +kernel
theorem dX10_chosen_58 : decode cX10_chosen 58 = .ok (.getfield 26, 3) := by decide +kernel
theorem dX10_chosen_61 : decode cX10_chosen 61 = .ok (.aload_n 0, 1) := by decide +kernel
theorem dX10_chosen_62 : decode cX10_chosen 62 = .ok (.getfield 90, 3) := by decide +kernel
theorem dX10_chosen_65 : decode cX10_chosen 65 = .ok (.iload 6, 2) := by decide +kernel
theorem dX10_chosen_67 : decode cX10_chosen 67 = .ok (.iaload, 1) := by decide +kernel
theorem dX10_chosen_68 : decode cX10_chosen 68 = .ok (.baload, 1) := by decide +kernel
theorem dX10_chosen_69 : decode cX10_chosen 69 = .ok (.ifCond .ne 76, 3) := by decide +kernel
theorem dX10_chosen_72 : decode cX10_chosen 72 = .ok (.iload_n 3, 1) := by decide +kernel
theorem dX10_chosen_73 : decode cX10_chosen 73 = .ok (.iconst (-1), 1) := by decide +kernel
theorem dX10_chosen_74 : decode cX10_chosen 74 = .ok (.if_icmp .eq 9, 3) := by decide +kernel
theorem dX10_chosen_77 : decode cX10_chosen 77 = .ok (.iload 6, 2) := by decide +kernel
theorem dX10_chosen_79 : decode cX10_chosen 79 = .ok (.iload_n 3, 1) := by decide +kernel
theorem dX10_chosen_80 : decode cX10_chosen 80 = .ok (.if_icmp .ne 65, 3) := by decide +kernel
theorem dX10_chosen_83 : decode cX10_chosen 83 = .ok (.iload 7, 2) := by decide +kernel
theorem dX10_chosen_85 : decode cX10_chosen 85 = .ok (.aload_n 0, 1) := by decide +kernel
theorem dX10_chosen_86 : decode cX10_chosen 86 = .ok (.aload_n 0, 1) := by decide +kernel
theorem dX10_chosen_87 : decode cX10_chosen 87 = .ok (.getfield 90, 3) := by decide +kernel
theorem dX10_chosen_90 : decode cX10_chosen 90 = .ok (.iload 6, 2) := by decide +kernel
theorem dX10_chosen_92 : decode cX10_chosen 92 = .ok (.iaload, 1) := by decide +kernel
theorem dX10_chosen_93 : decode cX10_chosen 93 = .ok (.iload_n 1, 1) := by decide +kernel
theorem dX10_chosen_94 : decode cX10_chosen 94 = .ok (.invokevirtual 164, 3) := by decide +kernel
theorem dX10_chosen_97 : decode cX10_chosen 97 = .ok (.if_icmp .ge 48, 3) := by decide +kernel
theorem dX10_chosen_100 : decode cX10_chosen 100 = .ok (.aload_n 0, 1) := by decide +kernel
theorem dX10_chosen_101 : decode cX10_chosen 101 = .ok (.iload_n 1, 1) := by decide +kernel
theorem dX10_chosen_102 : decode cX10_chosen 102 = .ok (.iload_n 2, 1) := by decide +kernel
theorem dX10_chosen_103 : decode cX10_chosen 103 = .ok (.iload 6, 2) := by decide +kernel
theorem dX10_chosen_105 : decode cX10_chosen 105 = .ok (.iload 7, 2) := by decide +kernel
theorem dX10_chosen_107 : decode cX10_chosen 107 = .ok (.invokevirtual 289, 3) := by decide +kernel
theorem dX10_chosen_110 : decode cX10_chosen 110 = .ok (.istore 8, 2) := by decide +kernel
theorem dX10_chosen_112 : decode cX10_chosen 112 = .ok (.iload 4, 2) := by decide +kernel
theorem dX10_chosen_114 : decode cX10_chosen 114 = .ok (.iconst (-1), 1) := by decide +kernel
theorem dX10_chosen_115 : decode cX10_chosen 115 = .ok (.if_icmp .eq 10, 3) := by decide +kernel
theorem dX10_chosen_118 : decode cX10_chosen 118 = .ok (.iload 8, 2) := by decide +kernel
theorem dX10_chosen_120 : decode cX10_chosen 120 = .ok (.iload 5, 2) := by decide +kernel
theorem dX10_chosen_122 : decode cX10_chosen 122 = .ok (.if_icmp .le 17, 3) := by decide +kernel
theorem dX10_chosen_125 : decode cX10_chosen 125 = .ok (.bipush 100, 2) := by decide +kernel
theorem dX10_chosen_127 : decode cX10_chosen 127 = .ok (.iload 6, 2) := by decide +kernel
theorem dX10_chosen_129 : decode cX10_chosen 129 = .ok (.imul, 1) := by decide +kernel
theorem dX10_chosen_130 : decode cX10_chosen 130 = .ok (.iload 7, 2) := by decide +kernel
theorem dX10_chosen_132 : decode cX10_chosen 132 = .ok (.iadd, 1) := by decide +kernel
theorem dX10_chosen_133 : decode cX10_chosen 133 = .ok (.istore 4, 2) := by decide +kernel
theorem dX10_chosen_135 : decode cX10_chosen 135 = .ok (.iload 8, 2) := by decide +kernel
theorem dX10_chosen_137 : decode cX10_chosen 137 = .ok (.istore 5, 2) := by decide +kernel
theorem dX10_chosen_139 : decode cX10_chosen 139 = .ok (.iinc 7 1, 3) := by decide +kernel
theorem dX10_chosen_142 : decode cX10_chosen 142 = .ok (.goto (-85), 3) := by decide +kernel
theorem dX10_chosen_145 : decode cX10_chosen 145 = .ok (.iinc 6 1, 3) := by decide +kernel
theorem dX10_chosen_148 : decode cX10_chosen 148 = .ok (.goto (-103), 3) := by decide +kernel
theorem dX10_chosen_151 : decode cX10_chosen 151 = .ok (.iload 4, 2) := by decide +kernel
theorem dX10_chosen_153 : decode cX10_chosen 153 = .ok (.ireturn, 1) := by decide +kernel
theorem dX10_advice_0 : decode cX10_advice 0 = .ok (.aload_n 0, 1) := by decide +kernel
theorem dX10_advice_1 : decode cX10_advice 1 = .ok (.invokevirtual 261, 3) := by decide +kernel
theorem dX10_advice_4 : decode cX10_advice 4 = .ok (.aload_n 0, 1) := by decide +kernel
theorem dX10_advice_5 : decode cX10_advice 5 = .ok (.iload_n 1, 1) := by decide +kernel
theorem dX10_advice_6 : decode cX10_advice 6 = .ok (.iconst 0, 1) := by decide +kernel
theorem dX10_advice_7 : decode cX10_advice 7 = .ok (.iconst 1, 1) := by decide +kernel
theorem dX10_advice_8 : decode cX10_advice 8 = .ok (.invokestatic 152, 3) := by decide +kernel
theorem dX10_advice_11 : decode cX10_advice 11 = .ok (.ifCond .eq 12, 3) := by decide +kernel
theorem dX10_advice_14 : decode cX10_advice 14 = .ok (.iload_n 2, 1) := by decide +kernel
theorem dX10_advice_15 : decode cX10_advice 15 = .ok (.iconst 0, 1) := by decide +kernel
theorem dX10_advice_16 : decode cX10_advice 16 = .ok (.iconst 3, 1) := by decide +kernel
theorem dX10_advice_17 : decode cX10_advice 17 = .ok (.invokestatic 152, 3) := by decide +kernel
theorem dX10_advice_20 : decode cX10_advice 20 = .ok (.ifCond .ne 7, 3) := by decide +kernel
theorem dX10_advice_23 : decode cX10_advice 23 = .ok (.iconst 1, 1) := by decide +kernel
theorem dX10_advice_24 : decode cX10_advice 24 = .ok (.goto 23, 3) := by decide +kernel
theorem dX10_advice_27 : decode cX10_advice 27 = .ok (.iload_n 2, 1) := by decide +kernel
theorem dX10_advice_28 : decode cX10_advice 28 = .ok (.iconst 3, 1) := by decide +kernel
theorem dX10_advice_29 : decode cX10_advice 29 = .ok (.if_icmp .ne 17, 3) := by decide +kernel
theorem dX10_advice_32 : decode cX10_advice 32 = .ok (.aload_n 0, 1) := by decide +kernel
theorem dX10_advice_33 : decode cX10_advice 33 = .ok (.invokevirtual 264, 3) := by decide +kernel
theorem dX10_advice_36 : decode cX10_advice 36 = .ok (.sipush 4000, 3) := by decide +kernel
theorem dX10_advice_39 : decode cX10_advice 39 = .ok (.if_icmp .le 7, 3) := by decide +kernel
theorem dX10_advice_42 : decode cX10_advice 42 = .ok (.iconst 2, 1) := by decide +kernel
theorem dX10_advice_43 : decode cX10_advice 43 = .ok (.goto 4, 3) := by decide +kernel
theorem dX10_advice_46 : decode cX10_advice 46 = .ok (.iconst 0, 1) := by decide +kernel
theorem dX10_advice_47 : decode cX10_advice 47 = .ok (.invokevirtual 227, 3) := by decide +kernel
theorem dX10_advice_50 : decode cX10_advice 50 = .ok (.ifCond .eq 5, 3) := by decide +kernel
theorem dX10_advice_53 : decode cX10_advice 53 = .ok (.iconst 0, 1) := by decide +kernel
theorem dX10_advice_54 : decode cX10_advice 54 = .ok (.ireturn, 1) := by decide +kernel
theorem dX10_advice_55 : decode cX10_advice 55 = .ok (.aload_n 0, 1) := by decide +kernel
theorem dX10_advice_56 : decode cX10_advice 56 = .ok (.iload_n 1, 1) := by decide +kernel
theorem dX10_advice_57 : decode cX10_advice 57 = .ok (.iload_n 2, 1) := by decide +kernel
theorem dX10_advice_58 : decode cX10_advice 58 = .ok (.invokevirtual 293, 3) := by decide +kernel
theorem dX10_advice_61 : decode cX10_advice 61 = .ok (.ireturn, 1) := by decide +kernel
theorem dX10_play_0 : decode cX10_play 0 = .ok (.aload_n 0, 1) := by decide +kernel
theorem dX10_play_1 : decode cX10_play 1 = .ok (.invokevirtual 261, 3) := by decide +kernel
theorem dX10_play_4 : decode cX10_play 4 = .ok (.iload_n 1, 1) := by decide +kernel
theorem dX10_play_5 : decode cX10_play 5 = .ok (.iconst 0, 1) := by decide +kernel
theorem dX10_play_6 : decode cX10_play 6 = .ok (.iconst 1, 1) := by decide +kernel
theorem dX10_play_7 : decode cX10_play 7 = .ok (.invokestatic 152, 3) := by decide +kernel
theorem dX10_play_10 : decode cX10_play 10 = .ok (.ifCond .eq 25, 3) := by decide +kernel
theorem dX10_play_13 : decode cX10_play 13 = .ok (.iload_n 2, 1) := by decide +kernel
theorem dX10_play_14 : decode cX10_play 14 = .ok (.iconst 0, 1) := by decide +kernel
theorem dX10_play_15 : decode cX10_play 15 = .ok (.iconst 3, 1) := by decide +kernel
theorem dX10_play_16 : decode cX10_play 16 = .ok (.invokestatic 152, 3) := by decide +kernel
theorem dX10_play_19 : decode cX10_play 19 = .ok (.ifCond .eq 16, 3) := by decide +kernel
theorem dX10_play_22 : decode cX10_play 22 = .ok (.iload_n 3, 1) := by decide +kernel
theorem dX10_play_23 : decode cX10_play 23 = .ok (.iconst 0, 1) := by decide +kernel
theorem dX10_play_24 : decode cX10_play 24 = .ok (.iconst 3, 1) := by decide +kernel
theorem dX10_play_25 : decode cX10_play 25 = .ok (.invokestatic 152, 3) := by decide +kernel
theorem dX10_play_28 : decode cX10_play 28 = .ok (.ifCond .eq 7, 3) := by decide +kernel
theorem dX10_play_31 : decode cX10_play 31 = .ok (.iconst 1, 1) := by decide +kernel
theorem dX10_play_32 : decode cX10_play 32 = .ok (.goto 4, 3) := by decide +kernel
theorem dX10_play_35 : decode cX10_play 35 = .ok (.iconst 0, 1) := by decide +kernel
theorem dX10_play_36 : decode cX10_play 36 = .ok (.istore 4, 2) := by decide +kernel
theorem dX10_play_38 : decode cX10_play 38 = .ok (.aload_n 0, 1) := by decide +kernel
theorem dX10_play_39 : decode cX10_play 39 = .ok (.iload 4, 2) := by decide +kernel
theorem dX10_play_41 : decode cX10_play 41 = .ok (.ifCond .ne 7, 3) := by decide +kernel
theorem dX10_play_44 : decode cX10_play 44 = .ok (.iconst 1, 1) := by decide +kernel
theorem dX10_play_45 : decode cX10_play 45 = .ok (.goto 28, 3) := by decide +kernel
theorem dX10_play_48 : decode cX10_play 48 = .ok (.iload_n 2, 1) := by decide +kernel
theorem dX10_play_49 : decode cX10_play 49 = .ok (.iconst 3, 1) := by decide +kernel
theorem dX10_play_50 : decode cX10_play 50 = .ok (.if_icmp .eq 8, 3) := by decide +kernel
theorem dX10_play_53 : decode cX10_play 53 = .ok (.iload_n 3, 1) := by decide +kernel
theorem dX10_play_54 : decode cX10_play 54 = .ok (.iconst 3, 1) := by decide +kernel
theorem dX10_play_55 : decode cX10_play 55 = .ok (.if_icmp .ne 17, 3) := by decide +kernel
theorem dX10_play_58 : decode cX10_play 58 = .ok (.aload_n 0, 1) := by decide +kernel
theorem dX10_play_59 : decode cX10_play 59 = .ok (.invokevirtual 264, 3) := by decide +kernel
theorem dX10_play_62 : decode cX10_play 62 = .ok (.sipush 4000, 3) := by decide +kernel
theorem dX10_play_65 : decode cX10_play 65 = .ok (.if_icmp .le 7, 3) := by decide +kernel
theorem dX10_play_68 : decode cX10_play 68 = .ok (.iconst 2, 1) := by decide +kernel
theorem dX10_play_69 : decode cX10_play 69 = .ok (.goto 4, 3) := by decide +kernel
theorem dX10_play_72 : decode cX10_play 72 = .ok (.iconst 0, 1) := by decide +kernel
theorem dX10_play_73 : decode cX10_play 73 = .ok (.invokevirtual 227, 3) := by decide +kernel
theorem dX10_play_76 : decode cX10_play 76 = .ok (.ifCond .eq 5, 3) := by decide +kernel
theorem dX10_play_79 : decode cX10_play 79 = .ok (.iconst 0, 1) := by decide +kernel
theorem dX10_play_80 : decode cX10_play 80 = .ok (.ireturn, 1) := by decide +kernel
theorem dX10_play_81 : decode cX10_play 81 = .ok (.aload_n 0, 1) := by decide +kernel
theorem dX10_play_82 : decode cX10_play 82 = .ok (.iconst 0, 1) := by decide +kernel
theorem dX10_play_83 : decode cX10_play 83 = .ok (.putfield 296, 3) := by decide +kernel
theorem dX10_play_86 : decode cX10_play 86 = .ok (.iload_n 1, 1) := by decide +kernel
theorem dX10_play_87 : decode cX10_play 87 = .ok (.istore 5, 2) := by decide +kernel
theorem dX10_play_89 : decode cX10_play 89 = .ok (.aload_n 0, 1) := by decide +kernel
theorem dX10_play_90 : decode cX10_play 90 = .ok (.invokevirtual 282, 3) := by decide +kernel
theorem dX10_play_93 : decode cX10_play 93 = .ok (.ifCond .ne 82, 3) := by decide +kernel
theorem dX10_play_96 : decode cX10_play 96 = .ok (.aload_n 0, 1) := by decide +kernel
theorem dX10_play_97 : decode cX10_play 97 = .ok (.iload 5, 2) := by decide +kernel
theorem dX10_play_99 : decode cX10_play 99 = .ok (.iload 5, 2) := by decide +kernel
theorem dX10_play_101 : decode cX10_play 101 = .ok (.ifCond .ne 7, 3) := by decide +kernel
theorem dX10_play_104 : decode cX10_play 104 = .ok (.iload_n 2, 1) := by decide +kernel
theorem dX10_play_105 : decode cX10_play 105 = .ok (.goto 4, 3) := by decide +kernel
theorem dX10_play_108 : decode cX10_play 108 = .ok (.iload_n 3, 1) := by decide +kernel
theorem dX10_play_109 : decode cX10_play 109 = .ok (.invokevirtual 293, 3) := by decide +kernel
theorem dX10_play_112 : decode cX10_play 112 = .ok (.istore 6, 2) := by decide +kernel
theorem dX10_play_114 : decode cX10_play 114 = .ok (.aload_n 0, 1) := by decide +kernel
theorem dX10_play_115 : decode cX10_play 115 = .ok (.getfield 75, 3) := by decide +kernel
theorem dX10_play_118 : decode cX10_play 118 = .ok (.aload_n 0, 1) := by decide +kernel
theorem dX10_play_119 : decode cX10_play 119 = .ok (.getfield 296, 3) := by decide +kernel
theorem dX10_play_122 : decode cX10_play 122 = .ok (.iload 6, 2) := by decide +kernel
theorem dX10_play_124 : decode cX10_play 124 = .ok (.iastore, 1) := by decide +kernel
theorem dX10_play_125 : decode cX10_play 125 = .ok (.aload_n 0, 1) := by decide +kernel
theorem dX10_play_126 : decode cX10_play 126 = .ok (.dup, 1) := by decide +kernel
theorem dX10_play_127 : decode cX10_play 127 = .ok (.getfield 296, 3) := by decide +kernel
theorem dX10_play_130 : decode cX10_play 130 = .ok (.iconst 1, 1) := by decide +kernel
theorem dX10_play_131 : decode cX10_play 131 = .ok (.iadd, 1) := by decide +kernel
theorem dX10_play_132 : decode cX10_play 132 = .ok (.putfield 296, 3) := by decide +kernel
theorem dX10_play_135 : decode cX10_play 135 = .ok (.aload_n 0, 1) := by decide +kernel
theorem dX10_play_136 : decode cX10_play 136 = .ok (.getfield 90, 3) := by decide +kernel
theorem dX10_play_139 : decode cX10_play 139 = .ok (.iload 6, 2) := by decide +kernel
theorem dX10_play_141 : decode cX10_play 141 = .ok (.bipush 100, 2) := by decide +kernel
theorem dX10_play_143 : decode cX10_play 143 = .ok (.idiv, 1) := by decide +kernel
theorem dX10_play_144 : decode cX10_play 144 = .ok (.aload_n 0, 1) := by decide +kernel
theorem dX10_play_145 : decode cX10_play 145 = .ok (.aload_n 0, 1) := by decide +kernel
theorem dX10_play_146 : decode cX10_play 146 = .ok (.getfield 90, 3) := by decide +kernel
theorem dX10_play_149 : decode cX10_play 149 = .ok (.iload 6, 2) := by decide +kernel
theorem dX10_play_151 : decode cX10_play 151 = .ok (.bipush 100, 2) := by decide +kernel
theorem dX10_play_153 : decode cX10_play 153 = .ok (.idiv, 1) := by decide +kernel
theorem dX10_play_154 : decode cX10_play 154 = .ok (.iaload, 1) := by decide +kernel
theorem dX10_play_155 : decode cX10_play 155 = .ok (.iload 5, 2) := by decide +kernel
theorem dX10_play_157 : decode cX10_play 157 = .ok (.iload 6, 2) := by decide +kernel
theorem dX10_play_159 : decode cX10_play 159 = .ok (.bipush 100, 2) := by decide +kernel
theorem dX10_play_161 : decode cX10_play 161 = .ok (.irem, 1) := by decide +kernel
theorem dX10_play_162 : decode cX10_play 162 = .ok (.invokevirtual 167, 3) := by decide +kernel
theorem dX10_play_165 : decode cX10_play 165 = .ok (.iastore, 1) := by decide +kernel
theorem dX10_play_166 : decode cX10_play 166 = .ok (.iconst 1, 1) := by decide +kernel
theorem dX10_play_167 : decode cX10_play 167 = .ok (.iload 5, 2) := by decide +kernel
theorem dX10_play_169 : decode cX10_play 169 = .ok (.isub, 1) := by decide +kernel
theorem dX10_play_170 : decode cX10_play 170 = .ok (.istore 5, 2) := by decide +kernel
theorem dX10_play_172 : decode cX10_play 172 = .ok (.goto (-83), 3) := by decide +kernel
theorem dX10_play_175 : decode cX10_play 175 = .ok (.iconst 0, 1) := by decide +kernel
theorem dX10_play_176 : decode cX10_play 176 = .ok (.istore 6, 2) := by decide +kernel
theorem dX10_play_178 : decode cX10_play 178 = .ok (.iconst 0, 1) := by decide +kernel
theorem dX10_play_179 : decode cX10_play 179 = .ok (.istore 7, 2) := by decide +kernel
theorem dX10_play_181 : decode cX10_play 181 = .ok (.iload 7, 2) := by decide +kernel
theorem dX10_play_183 : decode cX10_play 183 = .ok (.aload_n 0, 1) := by decide +kernel
theorem dX10_play_184 : decode cX10_play 184 = .ok (.getfield 142, 3) := by decide +kernel
theorem dX10_play_187 : decode cX10_play 187 = .ok (.if_icmp .ge 26, 3) := by decide +kernel
theorem dX10_play_190 : decode cX10_play 190 = .ok (.iload 6, 2) := by decide +kernel
theorem dX10_play_192 : decode cX10_play 192 = .ok (.aload_n 0, 1) := by decide +kernel
theorem dX10_play_193 : decode cX10_play 193 = .ok (.getfield 29, 3) := by decide +kernel
theorem dX10_play_196 : decode cX10_play 196 = .ok (.aload_n 0, 1) := by decide +kernel
theorem dX10_play_197 : decode cX10_play 197 = .ok (.getfield 90, 3) := by decide +kernel
theorem dX10_play_200 : decode cX10_play 200 = .ok (.iload 7, 2) := by decide +kernel
theorem dX10_play_202 : decode cX10_play 202 = .ok (.iaload, 1) := by decide +kernel
theorem dX10_play_203 : decode cX10_play 203 = .ok (.iaload, 1) := by decide +kernel
theorem dX10_play_204 : decode cX10_play 204 = .ok (.iadd, 1) := by decide +kernel
theorem dX10_play_205 : decode cX10_play 205 = .ok (.istore 6, 2) := by decide +kernel
theorem dX10_play_207 : decode cX10_play 207 = .ok (.iinc 7 1, 3) := by decide +kernel
theorem dX10_play_210 : decode cX10_play 210 = .ok (.goto (-29), 3) := by decide +kernel
theorem dX10_play_213 : decode cX10_play 213 = .ok (.iload 6, 2) := by decide +kernel
theorem dX10_play_215 : decode cX10_play 215 = .ok (.ireturn, 1) := by decide +kernel
theorem dX10_played_0 : decode cX10_played 0 = .ok (.aload_n 0, 1) := by decide +kernel
theorem dX10_played_1 : decode cX10_played 1 = .ok (.iconst 0, 1) := by decide +kernel
theorem dX10_played_2 : decode cX10_played 2 = .ok (.putfield 146, 3) := by decide +kernel
theorem dX10_played_5 : decode cX10_played 5 = .ok (.iload_n 1, 1) := by decide +kernel
theorem dX10_played_6 : decode cX10_played 6 = .ok (.iconst 0, 1) := by decide +kernel
theorem dX10_played_7 : decode cX10_played 7 = .ok (.aload_n 0, 1) := by decide +kernel
theorem dX10_played_8 : decode cX10_played 8 = .ok (.getfield 296, 3) := by decide +kernel
theorem dX10_played_11 : decode cX10_played 11 = .ok (.iconst 1, 1) := by decide +kernel
theorem dX10_played_12 : decode cX10_played 12 = .ok (.isub, 1) := by decide +kernel
theorem dX10_played_13 : decode cX10_played 13 = .ok (.invokestatic 152, 3) := by decide +kernel
theorem dX10_played_16 : decode cX10_played 16 = .ok (.ifCond .eq 12, 3) := by decide +kernel
theorem dX10_played_19 : decode cX10_played 19 = .ok (.aload_n 0, 1) := by decide +kernel
theorem dX10_played_20 : decode cX10_played 20 = .ok (.getfield 75, 3) := by decide +kernel
theorem dX10_played_23 : decode cX10_played 23 = .ok (.iload_n 1, 1) := by decide +kernel
theorem dX10_played_24 : decode cX10_played 24 = .ok (.iaload, 1) := by decide +kernel
theorem dX10_played_25 : decode cX10_played 25 = .ok (.goto 4, 3) := by decide +kernel
theorem dX10_played_28 : decode cX10_played 28 = .ok (.iconst (-1), 1) := by decide +kernel
theorem dX10_played_29 : decode cX10_played 29 = .ok (.ireturn, 1) := by decide +kernel
theorem dX10_type_0 : decode cX10_type 0 = .ok (.aload_n 0, 1) := by decide +kernel
theorem dX10_type_1 : decode cX10_type 1 = .ok (.iload_n 1, 1) := by decide +kernel
theorem dX10_type_2 : decode cX10_type 2 = .ok (.bipush 32, 2) := by decide +kernel
theorem dX10_type_4 : decode cX10_type 4 = .ok (.bipush 126, 2) := by decide +kernel
theorem dX10_type_6 : decode cX10_type 6 = .ok (.invokestatic 152, 3) := by decide +kernel
theorem dX10_type_9 : decode cX10_type 9 = .ok (.ifCond .ne 7, 3) := by decide +kernel
theorem dX10_type_12 : decode cX10_type 12 = .ok (.iconst 1, 1) := by decide +kernel
theorem dX10_type_13 : decode cX10_type 13 = .ok (.goto 17, 3) := by decide +kernel
theorem dX10_type_16 : decode cX10_type 16 = .ok (.aload_n 0, 1) := by decide +kernel
theorem dX10_type_17 : decode cX10_type 17 = .ok (.getfield 299, 3) := by decide +kernel
theorem dX10_type_20 : decode cX10_type 20 = .ok (.bipush 80, 2) := by decide +kernel
theorem dX10_type_22 : decode cX10_type 22 = .ok (.if_icmp .ne 7, 3) := by decide +kernel
theorem dX10_type_25 : decode cX10_type 25 = .ok (.iconst 2, 1) := by decide +kernel
theorem dX10_type_26 : decode cX10_type 26 = .ok (.goto 4, 3) := by decide +kernel
theorem dX10_type_29 : decode cX10_type 29 = .ok (.iconst 0, 1) := by decide +kernel
theorem dX10_type_30 : decode cX10_type 30 = .ok (.invokevirtual 227, 3) := by decide +kernel
theorem dX10_type_33 : decode cX10_type 33 = .ok (.ifCond .eq 5, 3) := by decide +kernel
theorem dX10_type_36 : decode cX10_type 36 = .ok (.iconst 0, 1) := by decide +kernel
theorem dX10_type_37 : decode cX10_type 37 = .ok (.ireturn, 1) := by decide +kernel
theorem dX10_type_38 : decode cX10_type 38 = .ok (.aload_n 0, 1) := by decide +kernel
theorem dX10_type_39 : decode cX10_type 39 = .ok (.getfield 69, 3) := by decide +kernel
theorem dX10_type_42 : decode cX10_type 42 = .ok (.aload_n 0, 1) := by decide +kernel
theorem dX10_type_43 : decode cX10_type 43 = .ok (.getfield 299, 3) := by decide +kernel
theorem dX10_type_46 : decode cX10_type 46 = .ok (.iload_n 1, 1) := by decide +kernel
theorem dX10_type_47 : decode cX10_type 47 = .ok (.iastore, 1) := by decide +kernel
theorem dX10_type_48 : decode cX10_type 48 = .ok (.aload_n 0, 1) := by decide +kernel
theorem dX10_type_49 : decode cX10_type 49 = .ok (.dup, 1) := by decide +kernel
theorem dX10_type_50 : decode cX10_type 50 = .ok (.getfield 299, 3) := by decide +kernel
theorem dX10_type_53 : decode cX10_type 53 = .ok (.iconst 1, 1) := by decide +kernel
theorem dX10_type_54 : decode cX10_type 54 = .ok (.iadd, 1) := by decide +kernel
theorem dX10_type_55 : decode cX10_type 55 = .ok (.putfield 299, 3) := by decide +kernel
theorem dX10_type_58 : decode cX10_type 58 = .ok (.aload_n 0, 1) := by decide +kernel
theorem dX10_type_59 : decode cX10_type 59 = .ok (.getfield 299, 3) := by decide +kernel
theorem dX10_type_62 : decode cX10_type 62 = .ok (.ireturn, 1) := by decide +kernel
theorem dX10_clearText_0 : decode cX10_clearText 0 = .ok (.aload_n 0, 1) := by decide +kernel
theorem dX10_clearText_1 : decode cX10_clearText 1 = .ok (.iconst 0, 1) := by decide +kernel
theorem dX10_clearText_2 : decode cX10_clearText 2 = .ok (.putfield 146, 3) := by decide +kernel
theorem dX10_clearText_5 : decode cX10_clearText 5 = .ok (.aload_n 0, 1) := by decide +kernel
theorem dX10_clearText_6 : decode cX10_clearText 6 = .ok (.getfield 299, 3) := by decide +kernel
theorem dX10_clearText_9 : decode cX10_clearText 9 = .ok (.istore_n 1, 1) := by decide +kernel
theorem dX10_clearText_10 : decode cX10_clearText 10 = .ok (.aload_n 0, 1) := by decide +kernel
theorem dX10_clearText_11 : decode cX10_clearText 11 = .ok (.iconst 0, 1) := by decide +kernel
theorem dX10_clearText_12 : decode cX10_clearText 12 = .ok (.putfield 299, 3) := by decide +kernel
theorem dX10_clearText_15 : decode cX10_clearText 15 = .ok (.iload_n 1, 1) := by decide +kernel
theorem dX10_clearText_16 : decode cX10_clearText 16 = .ok (.ireturn, 1) := by decide +kernel
theorem dX10_isLetter_0 : decode cX10_isLetter 0 = .ok (.iload_n 0, 1) := by decide +kernel
theorem dX10_isLetter_1 : decode cX10_isLetter 1 = .ok (.bipush 97, 2) := by decide +kernel
theorem dX10_isLetter_3 : decode cX10_isLetter 3 = .ok (.bipush 122, 2) := by decide +kernel
theorem dX10_isLetter_5 : decode cX10_isLetter 5 = .ok (.invokestatic 152, 3) := by decide +kernel
theorem dX10_isLetter_8 : decode cX10_isLetter 8 = .ok (.ireturn, 1) := by decide +kernel
theorem dX10_isDigit_0 : decode cX10_isDigit 0 = .ok (.iload_n 0, 1) := by decide +kernel
theorem dX10_isDigit_1 : decode cX10_isDigit 1 = .ok (.bipush 48, 2) := by decide +kernel
theorem dX10_isDigit_3 : decode cX10_isDigit 3 = .ok (.bipush 57, 2) := by decide +kernel
theorem dX10_isDigit_5 : decode cX10_isDigit 5 = .ok (.invokestatic 152, 3) := by decide +kernel
theorem dX10_isDigit_8 : decode cX10_isDigit 8 = .ok (.ireturn, 1) := by decide +kernel
theorem dX10_charAt_0 : decode cX10_charAt 0 = .ok (.iload_n 1, 1) := by decide +kernel
theorem dX10_charAt_1 : decode cX10_charAt 1 = .ok (.aload_n 0, 1) := by decide +kernel
theorem dX10_charAt_2 : decode cX10_charAt 2 = .ok (.getfield 299, 3) := by decide +kernel
theorem dX10_charAt_5 : decode cX10_charAt 5 = .ok (.if_icmp .ge 12, 3) := by decide +kernel
theorem dX10_charAt_8 : decode cX10_charAt 8 = .ok (.aload_n 0, 1) := by decide +kernel
theorem dX10_charAt_9 : decode cX10_charAt 9 = .ok (.getfield 69, 3) := by decide +kernel
theorem dX10_charAt_12 : decode cX10_charAt 12 = .ok (.iload_n 1, 1) := by decide +kernel
theorem dX10_charAt_13 : decode cX10_charAt 13 = .ok (.iaload, 1) := by decide +kernel
theorem dX10_charAt_14 : decode cX10_charAt 14 = .ok (.goto 4, 3) := by decide +kernel
theorem dX10_charAt_17 : decode cX10_charAt 17 = .ok (.iconst 0, 1) := by decide +kernel
theorem dX10_charAt_18 : decode cX10_charAt 18 = .ok (.ireturn, 1) := by decide +kernel
theorem dX10_next_0 : decode cX10_next 0 = .ok (.aload_n 0, 1) := by decide +kernel
theorem dX10_next_1 : decode cX10_next 1 = .ok (.aload_n 0, 1) := by decide +kernel
theorem dX10_next_2 : decode cX10_next 2 = .ok (.getfield 302, 3) := by decide +kernel
theorem dX10_next_5 : decode cX10_next 5 = .ok (.putfield 305, 3) := by decide +kernel
theorem dX10_next_8 : decode cX10_next 8 = .ok (.aload_n 0, 1) := by decide +kernel
theorem dX10_next_9 : decode cX10_next 9 = .ok (.aload_n 0, 1) := by decide +kernel
theorem dX10_next_10 : decode cX10_next 10 = .ok (.getfield 305, 3) := by decide +kernel
theorem dX10_next_13 : decode cX10_next 13 = .ok (.invokevirtual 308, 3) := by decide +kernel
theorem dX10_next_16 : decode cX10_next 16 = .ok (.bipush 32, 2) := by decide +kernel
theorem dX10_next_18 : decode cX10_next 18 = .ok (.if_icmp .ne 16, 3) := by decide +kernel
theorem dX10_next_21 : decode cX10_next 21 = .ok (.aload_n 0, 1) := by decide +kernel
theorem dX10_next_22 : decode cX10_next 22 = .ok (.dup, 1) := by decide +kernel
theorem dX10_next_23 : decode cX10_next 23 = .ok (.getfield 305, 3) := by decide +kernel
theorem dX10_next_26 : decode cX10_next 26 = .ok (.iconst 1, 1) := by decide +kernel
theorem dX10_next_27 : decode cX10_next 27 = .ok (.iadd, 1) := by decide +kernel
theorem dX10_next_28 : decode cX10_next 28 = .ok (.putfield 305, 3) := by decide +kernel
theorem dX10_next_31 : decode cX10_next 31 = .ok (.goto (-23), 3) := by decide +kernel
theorem dX10_next_34 : decode cX10_next 34 = .ok (.aload_n 0, 1) := by decide +kernel
theorem dX10_next_35 : decode cX10_next 35 = .ok (.aload_n 0, 1) := by decide +kernel
theorem dX10_next_36 : decode cX10_next 36 = .ok (.getfield 305, 3) := by decide +kernel
theorem dX10_next_39 : decode cX10_next 39 = .ok (.invokevirtual 308, 3) := by decide +kernel
theorem dX10_next_42 : decode cX10_next 42 = .ok (.istore_n 1, 1) := by decide +kernel
theorem dX10_next_43 : decode cX10_next 43 = .ok (.aload_n 0, 1) := by decide +kernel
theorem dX10_next_44 : decode cX10_next 44 = .ok (.aload_n 0, 1) := by decide +kernel
theorem dX10_next_45 : decode cX10_next 45 = .ok (.getfield 305, 3) := by decide +kernel
theorem dX10_next_48 : decode cX10_next 48 = .ok (.iconst 1, 1) := by decide +kernel
theorem dX10_next_49 : decode cX10_next 49 = .ok (.iadd, 1) := by decide +kernel
theorem dX10_next_50 : decode cX10_next 50 = .ok (.putfield 302, 3) := by decide +kernel
theorem dX10_next_53 : decode cX10_next 53 = .ok (.aload_n 0, 1) := by decide +kernel
theorem dX10_next_54 : decode cX10_next 54 = .ok (.iload_n 1, 1) := by decide +kernel
theorem dX10_next_55 : decode cX10_next 55 = .ok (.putfield 311, 3) := by decide +kernel
theorem dX10_next_58 : decode cX10_next 58 = .ok (.aload_n 0, 1) := by decide +kernel
theorem dX10_next_59 : decode cX10_next 59 = .ok (.getfield 305, 3) := by decide +kernel
theorem dX10_next_62 : decode cX10_next 62 = .ok (.aload_n 0, 1) := by decide +kernel
theorem dX10_next_63 : decode cX10_next 63 = .ok (.getfield 299, 3) := by decide +kernel
theorem dX10_next_66 : decode cX10_next 66 = .ok (.if_icmp .lt 11, 3) := by decide +kernel
theorem dX10_next_69 : decode cX10_next 69 = .ok (.aload_n 0, 1) := by decide +kernel
theorem dX10_next_70 : decode cX10_next 70 = .ok (.iconst 0, 1) := by decide +kernel
theorem dX10_next_71 : decode cX10_next 71 = .ok (.putfield 311, 3) := by decide +kernel
theorem dX10_next_74 : decode cX10_next 74 = .ok (.goto 240, 3) := by decide +kernel
theorem dX10_next_77 : decode cX10_next 77 = .ok (.iload_n 1, 1) := by decide +kernel
theorem dX10_next_78 : decode cX10_next 78 = .ok (.invokestatic 314, 3) := by decide +kernel
theorem dX10_next_81 : decode cX10_next 81 = .ok (.ifCond .eq 41, 3) := by decide +kernel
theorem dX10_next_84 : decode cX10_next 84 = .ok (.aload_n 0, 1) := by decide +kernel
theorem dX10_next_85 : decode cX10_next 85 = .ok (.aload_n 0, 1) := by decide +kernel
theorem dX10_next_86 : decode cX10_next 86 = .ok (.getfield 302, 3) := by decide +kernel
theorem dX10_next_89 : decode cX10_next 89 = .ok (.invokevirtual 308, 3) := by decide +kernel
theorem dX10_next_92 : decode cX10_next 92 = .ok (.invokestatic 314, 3) := by decide +kernel
theorem dX10_next_95 : decode cX10_next 95 = .ok (.ifCond .eq 16, 3) := by decide +kernel
theorem dX10_next_98 : decode cX10_next 98 = .ok (.aload_n 0, 1) := by decide +kernel
theorem dX10_next_99 : decode cX10_next 99 = .ok (.dup, 1) := by decide +kernel
theorem dX10_next_100 : decode cX10_next 100 = .ok (.getfield 302, 3) := by decide +kernel
theorem dX10_next_103 : decode cX10_next 103 = .ok (.iconst 1, 1) := by decide +kernel
theorem dX10_next_104 : decode cX10_next 104 = .ok (.iadd, 1) := by decide +kernel
theorem dX10_next_105 : decode cX10_next 105 = .ok (.putfield 302, 3) := by decide +kernel
theorem dX10_next_108 : decode cX10_next 108 = .ok (.goto (-24), 3) := by decide +kernel
theorem dX10_next_111 : decode cX10_next 111 = .ok (.aload_n 0, 1) := by decide +kernel
theorem dX10_next_112 : decode cX10_next 112 = .ok (.aload_n 0, 1) := by decide +kernel
theorem dX10_next_113 : decode cX10_next 113 = .ok (.invokevirtual 317, 3) := by decide +kernel
theorem dX10_next_116 : decode cX10_next 116 = .ok (.putfield 311, 3) := by decide +kernel
theorem dX10_next_119 : decode cX10_next 119 = .ok (.goto 195, 3) := by decide +kernel
theorem dX10_next_122 : decode cX10_next 122 = .ok (.iload_n 1, 1) := by decide +kernel
theorem dX10_next_123 : decode cX10_next 123 = .ok (.invokestatic 320, 3) := by decide +kernel
theorem dX10_next_126 : decode cX10_next 126 = .ok (.ifCond .eq 122, 3) := by decide +kernel
theorem dX10_next_129 : decode cX10_next 129 = .ok (.aload_n 0, 1) := by decide +kernel
theorem dX10_next_130 : decode cX10_next 130 = .ok (.iload_n 1, 1) := by decide +kernel
theorem dX10_next_131 : decode cX10_next 131 = .ok (.bipush 48, 2) := by decide +kernel
theorem dX10_next_133 : decode cX10_next 133 = .ok (.isub, 1) := by decide +kernel
theorem dX10_next_134 : decode cX10_next 134 = .ok (.putfield 323, 3) := by decide +kernel
theorem dX10_next_137 : decode cX10_next 137 = .ok (.aload_n 0, 1) := by decide +kernel
theorem dX10_next_138 : decode cX10_next 138 = .ok (.aload_n 0, 1) := by decide +kernel
theorem dX10_next_139 : decode cX10_next 139 = .ok (.getfield 302, 3) := by decide +kernel
theorem dX10_next_142 : decode cX10_next 142 = .ok (.invokevirtual 308, 3) := by decide +kernel
theorem dX10_next_145 : decode cX10_next 145 = .ok (.invokestatic 320, 3) := by decide +kernel
theorem dX10_next_148 : decode cX10_next 148 = .ok (.ifCond .eq 55, 3) := by decide +kernel
theorem dX10_next_151 : decode cX10_next 151 = .ok (.aload_n 0, 1) := by decide +kernel
theorem dX10_next_152 : decode cX10_next 152 = .ok (.aload_n 0, 1) := by decide +kernel
theorem dX10_next_153 : decode cX10_next 153 = .ok (.getfield 323, 3) := by decide +kernel
theorem dX10_next_156 : decode cX10_next 156 = .ok (.bipush 100, 2) := by decide +kernel
theorem dX10_next_158 : decode cX10_next 158 = .ok (.if_icmp .ge 25, 3) := by decide +kernel
theorem dX10_next_161 : decode cX10_next 161 = .ok (.bipush 10, 2) := by decide +kernel
theorem dX10_next_163 : decode cX10_next 163 = .ok (.aload_n 0, 1) := by decide +kernel
theorem dX10_next_164 : decode cX10_next 164 = .ok (.getfield 323, 3) := by decide +kernel
theorem dX10_next_167 : decode cX10_next 167 = .ok (.imul, 1) := by decide +kernel
theorem dX10_next_168 : decode cX10_next 168 = .ok (.aload_n 0, 1) := by decide +kernel
theorem dX10_next_169 : decode cX10_next 169 = .ok (.aload_n 0, 1) := by decide +kernel
theorem dX10_next_170 : decode cX10_next 170 = .ok (.getfield 302, 3) := by decide +kernel
theorem dX10_next_173 : decode cX10_next 173 = .ok (.invokevirtual 308, 3) := by decide +kernel
theorem dX10_next_176 : decode cX10_next 176 = .ok (.iadd, 1) := by decide +kernel
theorem dX10_next_177 : decode cX10_next 177 = .ok (.bipush 48, 2) := by decide +kernel
theorem dX10_next_179 : decode cX10_next 179 = .ok (.isub, 1) := by decide +kernel
theorem dX10_next_180 : decode cX10_next 180 = .ok (.goto 7, 3) := by decide +kernel
theorem dX10_next_183 : decode cX10_next 183 = .ok (.aload_n 0, 1) := by decide +kernel
theorem dX10_next_184 : decode cX10_next 184 = .ok (.getfield 323, 3) := by decide +kernel
theorem dX10_next_187 : decode cX10_next 187 = .ok (.putfield 323, 3) := by decide +kernel
theorem dX10_next_190 : decode cX10_next 190 = .ok (.aload_n 0, 1) := by decide +kernel
theorem dX10_next_191 : decode cX10_next 191 = .ok (.dup, 1) := by decide +kernel
theorem dX10_next_192 : decode cX10_next 192 = .ok (.getfield 302, 3) := by decide +kernel
theorem dX10_next_195 : decode cX10_next 195 = .ok (.iconst 1, 1) := by decide +kernel
theorem dX10_next_196 : decode cX10_next 196 = .ok (.iadd, 1) := by decide +kernel
theorem dX10_next_197 : decode cX10_next 197 = .ok (.putfield 302, 3) := by decide +kernel
theorem dX10_next_200 : decode cX10_next 200 = .ok (.goto (-63), 3) := by decide +kernel
theorem dX10_next_203 : decode cX10_next 203 = .ok (.aload_n 0, 1) := by decide +kernel
theorem dX10_next_204 : decode cX10_next 204 = .ok (.aload_n 0, 1) := by decide +kernel
theorem dX10_next_205 : decode cX10_next 205 = .ok (.getfield 302, 3) := by decide +kernel
theorem dX10_next_208 : decode cX10_next 208 = .ok (.aload_n 0, 1) := by decide +kernel
theorem dX10_next_209 : decode cX10_next 209 = .ok (.getfield 305, 3) := by decide +kernel
theorem dX10_next_212 : decode cX10_next 212 = .ok (.isub, 1) := by decide +kernel
theorem dX10_next_213 : decode cX10_next 213 = .ok (.iconst 2, 1) := by decide +kernel
theorem dX10_next_214 : decode cX10_next 214 = .ok (.if_icmp .gt 22, 3) := by decide +kernel
theorem dX10_next_217 : decode cX10_next 217 = .ok (.aload_n 0, 1) := by decide +kernel
theorem dX10_next_218 : decode cX10_next 218 = .ok (.getfield 302, 3) := by decide +kernel
theorem dX10_next_221 : decode cX10_next 221 = .ok (.aload_n 0, 1) := by decide +kernel
theorem dX10_next_222 : decode cX10_next 222 = .ok (.getfield 305, 3) := by decide +kernel
theorem dX10_next_225 : decode cX10_next 225 = .ok (.isub, 1) := by decide +kernel
theorem dX10_next_226 : decode cX10_next 226 = .ok (.iconst 2, 1) := by decide +kernel
theorem dX10_next_227 : decode cX10_next 227 = .ok (.if_icmp .ne 14, 3) := by decide +kernel
theorem dX10_next_230 : decode cX10_next 230 = .ok (.iload_n 1, 1) := by decide +kernel
theorem dX10_next_231 : decode cX10_next 231 = .ok (.bipush 48, 2) := by decide +kernel
theorem dX10_next_233 : decode cX10_next 233 = .ok (.if_icmp .ne 8, 3) := by decide +kernel
theorem dX10_next_236 : decode cX10_next 236 = .ok (.bipush 6, 2) := by decide +kernel
theorem dX10_next_238 : decode cX10_next 238 = .ok (.goto 4, 3) := by decide +kernel
theorem dX10_next_241 : decode cX10_next 241 = .ok (.iconst 4, 1) := by decide +kernel
theorem dX10_next_242 : decode cX10_next 242 = .ok (.putfield 311, 3) := by decide +kernel
theorem dX10_next_245 : decode cX10_next 245 = .ok (.goto 69, 3) := by decide +kernel
theorem dX10_next_248 : decode cX10_next 248 = .ok (.iload_n 1, 1) := by decide +kernel
theorem dX10_next_249 : decode cX10_next 249 = .ok (.bipush 43, 2) := by decide +kernel
theorem dX10_next_251 : decode cX10_next 251 = .ok (.if_icmp .ne 21, 3) := by decide +kernel
theorem dX10_next_254 : decode cX10_next 254 = .ok (.aload_n 0, 1) := by decide +kernel
theorem dX10_next_255 : decode cX10_next 255 = .ok (.iconst 5, 1) := by decide +kernel
theorem dX10_next_256 : decode cX10_next 256 = .ok (.putfield 311, 3) := by decide +kernel
theorem dX10_next_259 : decode cX10_next 259 = .ok (.aload_n 0, 1) := by decide +kernel
theorem dX10_next_260 : decode cX10_next 260 = .ok (.dup, 1) := by decide +kernel
theorem dX10_next_261 : decode cX10_next 261 = .ok (.getfield 302, 3) := by decide +kernel
theorem dX10_next_264 : decode cX10_next 264 = .ok (.iconst 1, 1) := by decide +kernel
theorem dX10_next_265 : decode cX10_next 265 = .ok (.iadd, 1) := by decide +kernel
theorem dX10_next_266 : decode cX10_next 266 = .ok (.putfield 302, 3) := by decide +kernel
theorem dX10_next_269 : decode cX10_next 269 = .ok (.goto 45, 3) := by decide +kernel
theorem dX10_next_272 : decode cX10_next 272 = .ok (.iload_n 1, 1) := by decide +kernel
theorem dX10_next_273 : decode cX10_next 273 = .ok (.bipush 45, 2) := by decide +kernel
theorem dX10_next_275 : decode cX10_next 275 = .ok (.if_icmp .eq 39, 3) := by decide +kernel
theorem dX10_next_278 : decode cX10_next 278 = .ok (.iload_n 1, 1) := by decide +kernel
theorem dX10_next_279 : decode cX10_next 279 = .ok (.bipush 47, 2) := by decide +kernel
theorem dX10_next_281 : decode cX10_next 281 = .ok (.if_icmp .eq 33, 3) := by decide +kernel
theorem dX10_next_284 : decode cX10_next 284 = .ok (.iload_n 1, 1) := by decide +kernel
theorem dX10_next_285 : decode cX10_next 285 = .ok (.bipush 123, 2) := by decide +kernel
theorem dX10_next_287 : decode cX10_next 287 = .ok (.if_icmp .eq 27, 3) := by decide +kernel
theorem dX10_next_290 : decode cX10_next 290 = .ok (.iload_n 1, 1) := by decide +kernel
theorem dX10_next_291 : decode cX10_next 291 = .ok (.bipush 124, 2) := by decide +kernel
theorem dX10_next_293 : decode cX10_next 293 = .ok (.if_icmp .eq 21, 3) := by decide +kernel
theorem dX10_next_296 : decode cX10_next 296 = .ok (.iload_n 1, 1) := by decide +kernel
theorem dX10_next_297 : decode cX10_next 297 = .ok (.bipush 125, 2) := by decide +kernel
theorem dX10_next_299 : decode cX10_next 299 = .ok (.if_icmp .eq 15, 3) := by decide +kernel
theorem dX10_next_302 : decode cX10_next 302 = .ok (.iload_n 1, 1) := by decide +kernel
theorem dX10_next_303 : decode cX10_next 303 = .ok (.bipush 44, 2) := by decide +kernel
theorem dX10_next_305 : decode cX10_next 305 = .ok (.if_icmp .eq 9, 3) := by decide +kernel
theorem dX10_next_308 : decode cX10_next 308 = .ok (.aload_n 0, 1) := by decide +kernel
theorem dX10_next_309 : decode cX10_next 309 = .ok (.bipush 6, 2) := by decide +kernel
theorem dX10_next_311 : decode cX10_next 311 = .ok (.putfield 311, 3) := by decide +kernel
theorem dX10_next_314 : decode cX10_next 314 = .ok (.return_, 1) := by decide +kernel
theorem dX10_named_0 : decode cX10_named 0 = .ok (.aload_n 0, 1) := by decide +kernel
theorem dX10_named_1 : decode cX10_named 1 = .ok (.getfield 302, 3) := by decide +kernel
theorem dX10_named_4 : decode cX10_named 4 = .ok (.aload_n 0, 1) := by decide +kernel
theorem dX10_named_5 : decode cX10_named 5 = .ok (.getfield 305, 3) := by decide +kernel
theorem dX10_named_8 : decode cX10_named 8 = .ok (.isub, 1) := by decide +kernel
theorem dX10_named_9 : decode cX10_named 9 = .ok (.istore_n 1, 1) := by decide +kernel
theorem dX10_named_10 : decode cX10_named 10 = .ok (.iconst 0, 1) := by decide +kernel
theorem dX10_named_11 : decode cX10_named 11 = .ok (.istore_n 2, 1) := by decide +kernel
theorem dX10_named_12 : decode cX10_named 12 = .ok (.aload_n 0, 1) := by decide +kernel
theorem dX10_named_13 : decode cX10_named 13 = .ok (.getfield 305, 3) := by decide +kernel
theorem dX10_named_16 : decode cX10_named 16 = .ok (.istore_n 3, 1) := by decide +kernel
theorem dX10_named_17 : decode cX10_named 17 = .ok (.iload_n 3, 1) := by decide +kernel
theorem dX10_named_18 : decode cX10_named 18 = .ok (.aload_n 0, 1) := by decide +kernel
theorem dX10_named_19 : decode cX10_named 19 = .ok (.getfield 302, 3) := by decide +kernel
theorem dX10_named_22 : decode cX10_named 22 = .ok (.if_icmp .ge 33, 3) := by decide +kernel
theorem dX10_named_25 : decode cX10_named 25 = .ok (.iload_n 1, 1) := by decide +kernel
theorem dX10_named_26 : decode cX10_named 26 = .ok (.iconst 4, 1) := by decide +kernel
theorem dX10_named_27 : decode cX10_named 27 = .ok (.if_icmp .le 7, 3) := by decide +kernel
theorem dX10_named_30 : decode cX10_named 30 = .ok (.iconst 0, 1) := by decide +kernel
theorem dX10_named_31 : decode cX10_named 31 = .ok (.goto 17, 3) := by decide +kernel
theorem dX10_named_34 : decode cX10_named 34 = .ok (.bipush 27, 2) := by decide +kernel
theorem dX10_named_36 : decode cX10_named 36 = .ok (.iload_n 2, 1) := by decide +kernel
theorem dX10_named_37 : decode cX10_named 37 = .ok (.imul, 1) := by decide +kernel
theorem dX10_named_38 : decode cX10_named 38 = .ok (.aload_n 0, 1) := by decide +kernel
theorem dX10_named_39 : decode cX10_named 39 = .ok (.getfield 69, 3) := by decide +kernel
theorem dX10_named_42 : decode cX10_named 42 = .ok (.iload_n 3, 1) := by decide +kernel
theorem dX10_named_43 : decode cX10_named 43 = .ok (.iaload, 1) := by decide +kernel
theorem dX10_named_44 : decode cX10_named 44 = .ok (.iadd, 1) := by decide +kernel
theorem dX10_named_45 : decode cX10_named 45 = .ok (.bipush 96, 2) := by decide +kernel
theorem dX10_named_47 : decode cX10_named 47 = .ok (.isub, 1) := by decide +kernel
theorem dX10_named_48 : decode cX10_named 48 = .ok (.istore_n 2, 1) := by decide +kernel
theorem dX10_named_49 : decode cX10_named 49 = .ok (.iinc 3 1, 3) := by decide +kernel
theorem dX10_named_52 : decode cX10_named 52 = .ok (.goto (-35), 3) := by decide +kernel
theorem dX10_named_55 : decode cX10_named 55 = .ok (.ldc_w 326, 3) := by decide +kernel
theorem dX10_named_58 : decode cX10_named 58 = .ok (.istore_n 3, 1) := by decide +kernel
theorem dX10_named_59 : decode cX10_named 59 = .ok (.sipush 583, 3) := by decide +kernel
theorem dX10_named_62 : decode cX10_named 62 = .ok (.istore 4, 2) := by decide +kernel
theorem dX10_named_64 : decode cX10_named 64 = .ok (.ldc_w 327, 3) := by decide +kernel
theorem dX10_named_67 : decode cX10_named 67 = .ok (.istore 5, 2) := by decide +kernel
theorem dX10_named_69 : decode cX10_named 69 = .ok (.iload_n 2, 1) := by decide +kernel
theorem dX10_named_70 : decode cX10_named 70 = .ok (.iload_n 3, 1) := by decide +kernel
theorem dX10_named_71 : decode cX10_named 71 = .ok (.if_icmp .ne 7, 3) := by decide +kernel
theorem dX10_named_74 : decode cX10_named 74 = .ok (.iconst 1, 1) := by decide +kernel
theorem dX10_named_75 : decode cX10_named 75 = .ok (.goto 25, 3) := by decide +kernel
theorem dX10_named_78 : decode cX10_named 78 = .ok (.iload_n 2, 1) := by decide +kernel
theorem dX10_named_79 : decode cX10_named 79 = .ok (.iload 4, 2) := by decide +kernel
theorem dX10_named_81 : decode cX10_named 81 = .ok (.if_icmp .ne 7, 3) := by decide +kernel
theorem dX10_named_84 : decode cX10_named 84 = .ok (.iconst 2, 1) := by decide +kernel
theorem dX10_named_85 : decode cX10_named 85 = .ok (.goto 15, 3) := by decide +kernel
theorem dX10_named_88 : decode cX10_named 88 = .ok (.iload_n 2, 1) := by decide +kernel
theorem dX10_named_89 : decode cX10_named 89 = .ok (.iload 5, 2) := by decide +kernel
theorem dX10_named_91 : decode cX10_named 91 = .ok (.if_icmp .ne 7, 3) := by decide +kernel
theorem dX10_named_94 : decode cX10_named 94 = .ok (.iconst 3, 1) := by decide +kernel
theorem dX10_named_95 : decode cX10_named 95 = .ok (.goto 5, 3) := by decide +kernel
theorem dX10_named_98 : decode cX10_named 98 = .ok (.bipush 6, 2) := by decide +kernel
theorem dX10_named_100 : decode cX10_named 100 = .ok (.ireturn, 1) := by decide +kernel
theorem dX10_goes_0 : decode cX10_goes 0 = .ok (.aload_n 0, 1) := by decide +kernel
theorem dX10_goes_1 : decode cX10_goes 1 = .ok (.iload_n 1, 1) := by decide +kernel
theorem dX10_goes_2 : decode cX10_goes 2 = .ok (.putfield 328, 3) := by decide +kernel
theorem dX10_goes_5 : decode cX10_goes 5 = .ok (.aload_n 0, 1) := by decide +kernel
theorem dX10_goes_6 : decode cX10_goes 6 = .ok (.iconst 0, 1) := by decide +kernel
theorem dX10_goes_7 : decode cX10_goes 7 = .ok (.putfield 331, 3) := by decide +kernel
theorem dX10_goes_10 : decode cX10_goes 10 = .ok (.aload_n 0, 1) := by decide +kernel
theorem dX10_goes_11 : decode cX10_goes 11 = .ok (.iconst 0, 1) := by decide +kernel
theorem dX10_goes_12 : decode cX10_goes 12 = .ok (.putfield 334, 3) := by decide +kernel
theorem dX10_goes_15 : decode cX10_goes 15 = .ok (.aload_n 0, 1) := by decide +kernel
theorem dX10_goes_16 : decode cX10_goes 16 = .ok (.iconst 0, 1) := by decide +kernel
theorem dX10_goes_17 : decode cX10_goes 17 = .ok (.putfield 302, 3) := by decide +kernel
theorem dX10_goes_20 : decode cX10_goes 20 = .ok (.iconst 0, 1) := by decide +kernel
theorem dX10_goes_21 : decode cX10_goes 21 = .ok (.istore_n 2, 1) := by decide +kernel
theorem dX10_goes_22 : decode cX10_goes 22 = .ok (.aload_n 0, 1) := by decide +kernel
theorem dX10_goes_23 : decode cX10_goes 23 = .ok (.invokevirtual 337, 3) := by decide +kernel
theorem dX10_goes_26 : decode cX10_goes 26 = .ok (.aload_n 0, 1) := by decide +kernel
theorem dX10_goes_27 : decode cX10_goes 27 = .ok (.getfield 311, 3) := by decide +kernel
theorem dX10_goes_30 : decode cX10_goes 30 = .ok (.ifCond .eq 38, 3) := by decide +kernel
theorem dX10_goes_33 : decode cX10_goes 33 = .ok (.aload_n 0, 1) := by decide +kernel
theorem dX10_goes_34 : decode cX10_goes 34 = .ok (.iload_n 2, 1) := by decide +kernel
theorem dX10_goes_35 : decode cX10_goes 35 = .ok (.invokevirtual 340, 3) := by decide +kernel
theorem dX10_goes_38 : decode cX10_goes 38 = .ok (.istore_n 3, 1) := by decide +kernel
theorem dX10_goes_39 : decode cX10_goes 39 = .ok (.iload_n 3, 1) := by decide +kernel
theorem dX10_goes_40 : decode cX10_goes 40 = .ok (.iconst (-1), 1) := by decide +kernel
theorem dX10_goes_41 : decode cX10_goes 41 = .ok (.if_icmp .ne 8, 3) := by decide +kernel
theorem dX10_goes_44 : decode cX10_goes 44 = .ok (.aload_n 0, 1) := by decide +kernel
theorem dX10_goes_45 : decode cX10_goes 45 = .ok (.getfield 305, 3) := by decide +kernel
theorem dX10_goes_48 : decode cX10_goes 48 = .ok (.ireturn, 1) := by decide +kernel
theorem dX10_goes_49 : decode cX10_goes 49 = .ok (.iload_n 3, 1) := by decide +kernel
theorem dX10_goes_50 : decode cX10_goes 50 = .ok (.iconst (-1), 1) := by decide +kernel
theorem dX10_goes_51 : decode cX10_goes 51 = .ok (.if_icmp .ge 8, 3) := by decide +kernel
theorem dX10_goes_54 : decode cX10_goes 54 = .ok (.bipush (-2), 2) := by decide +kernel
theorem dX10_goes_56 : decode cX10_goes 56 = .ok (.iload_n 3, 1) := by decide +kernel
theorem dX10_goes_57 : decode cX10_goes 57 = .ok (.isub, 1) := by decide +kernel
theorem dX10_goes_58 : decode cX10_goes 58 = .ok (.ireturn, 1) := by decide +kernel
theorem dX10_goes_59 : decode cX10_goes 59 = .ok (.iload_n 3, 1) := by decide +kernel
theorem dX10_goes_60 : decode cX10_goes 60 = .ok (.istore_n 2, 1) := by decide +kernel
theorem dX10_goes_61 : decode cX10_goes 61 = .ok (.aload_n 0, 1) := by decide +kernel
theorem dX10_goes_62 : decode cX10_goes 62 = .ok (.invokevirtual 337, 3) := by decide +kernel
theorem dX10_goes_65 : decode cX10_goes 65 = .ok (.goto (-39), 3) := by decide +kernel
theorem dX10_goes_68 : decode cX10_goes 68 = .ok (.iload_n 2, 1) := by decide +kernel
theorem dX10_goes_69 : decode cX10_goes 69 = .ok (.iconst 5, 1) := by decide +kernel
theorem dX10_goes_70 : decode cX10_goes 70 = .ok (.if_icmp .ne 17, 3) := by decide +kernel
theorem dX10_goes_73 : decode cX10_goes 73 = .ok (.aload_n 0, 1) := by decide +kernel
theorem dX10_goes_74 : decode cX10_goes 74 = .ok (.getfield 343, 3) := by decide +kernel
theorem dX10_goes_77 : decode cX10_goes 77 = .ok (.bipush 8, 2) := by decide +kernel
theorem dX10_goes_79 : decode cX10_goes 79 = .ok (.if_icmp .le 8, 3) := by decide +kernel
theorem dX10_goes_82 : decode cX10_goes 82 = .ok (.aload_n 0, 1) := by decide +kernel
theorem dX10_goes_83 : decode cX10_goes 83 = .ok (.getfield 346, 3) := by decide +kernel
theorem dX10_goes_86 : decode cX10_goes 86 = .ok (.ireturn, 1) := by decide +kernel
theorem dX10_goes_87 : decode cX10_goes 87 = .ok (.iload_n 2, 1) := by decide +kernel
theorem dX10_goes_88 : decode cX10_goes 88 = .ok (.iconst 5, 1) := by decide +kernel
theorem dX10_goes_89 : decode cX10_goes 89 = .ok (.if_icmp .ne 14, 3) := by decide +kernel
theorem dX10_goes_92 : decode cX10_goes 92 = .ok (.aload_n 0, 1) := by decide +kernel
theorem dX10_goes_93 : decode cX10_goes 93 = .ok (.bipush 8, 2) := by decide +kernel
theorem dX10_goes_95 : decode cX10_goes 95 = .ok (.aload_n 0, 1) := by decide +kernel
theorem dX10_goes_96 : decode cX10_goes 96 = .ok (.getfield 343, 3) := by decide +kernel
theorem dX10_goes_99 : decode cX10_goes 99 = .ok (.imul, 1) := by decide +kernel
theorem dX10_goes_100 : decode cX10_goes 100 = .ok (.invokevirtual 349, 3) := by decide +kernel
theorem dX10_goes_103 : decode cX10_goes 103 = .ok (.iload_n 2, 1) := by decide +kernel
theorem dX10_goes_104 : decode cX10_goes 104 = .ok (.iconst 3, 1) := by decide +kernel
theorem dX10_goes_105 : decode cX10_goes 105 = .ok (.if_icmp .eq 8, 3) := by decide +kernel
theorem dX10_goes_108 : decode cX10_goes 108 = .ok (.iload_n 2, 1) := by decide +kernel
theorem dX10_goes_109 : decode cX10_goes 109 = .ok (.iconst 5, 1) := by decide +kernel
theorem dX10_goes_110 : decode cX10_goes 110 = .ok (.if_icmp .ne 14, 3) := by decide +kernel
theorem dX10_goes_113 : decode cX10_goes 113 = .ok (.aload_n 0, 1) := by decide +kernel
theorem dX10_goes_114 : decode cX10_goes 114 = .ok (.getfield 334, 3) := by decide +kernel
theorem dX10_goes_117 : decode cX10_goes 117 = .ok (.ifCond .ne 7, 3) := by decide +kernel
theorem dX10_goes_120 : decode cX10_goes 120 = .ok (.iconst (-1), 1) := by decide +kernel
theorem dX10_goes_121 : decode cX10_goes 121 = .ok (.goto 7, 3) := by decide +kernel
theorem dX10_goes_124 : decode cX10_goes 124 = .ok (.aload_n 0, 1) := by decide +kernel
theorem dX10_goes_125 : decode cX10_goes 125 = .ok (.getfield 299, 3) := by decide +kernel
theorem dX10_goes_128 : decode cX10_goes 128 = .ok (.ireturn, 1) := by decide +kernel
theorem dX10_follows_0 : decode cX10_follows 0 = .ok (.iload_n 1, 1) := by decide +kernel
theorem dX10_follows_1 : decode cX10_follows 1 = .ok (.tableswitch 168 3 6 #[163, 31, 48, 93], 31) := by decide +kernel
theorem dX10_follows_32 : decode cX10_follows 32 = .ok (.aload_n 0, 1) := by decide +kernel
theorem dX10_follows_33 : decode cX10_follows 33 = .ok (.getfield 311, 3) := by decide +kernel
theorem dX10_follows_36 : decode cX10_follows 36 = .ok (.iconst 4, 1) := by decide +kernel
theorem dX10_follows_37 : decode cX10_follows 37 = .ok (.if_icmp .ne 10, 3) := by decide +kernel
theorem dX10_follows_40 : decode cX10_follows 40 = .ok (.aload_n 0, 1) := by decide +kernel
theorem dX10_follows_41 : decode cX10_follows 41 = .ok (.invokevirtual 352, 3) := by decide +kernel
theorem dX10_follows_44 : decode cX10_follows 44 = .ok (.goto 4, 3) := by decide +kernel
theorem dX10_follows_47 : decode cX10_follows 47 = .ok (.iconst (-1), 1) := by decide +kernel
theorem dX10_follows_48 : decode cX10_follows 48 = .ok (.ireturn, 1) := by decide +kernel
theorem dX10_follows_49 : decode cX10_follows 49 = .ok (.aload_n 0, 1) := by decide +kernel
theorem dX10_follows_50 : decode cX10_follows 50 = .ok (.getfield 311, 3) := by decide +kernel
theorem dX10_follows_53 : decode cX10_follows 53 = .ok (.bipush 47, 2) := by decide +kernel
theorem dX10_follows_55 : decode cX10_follows 55 = .ok (.if_icmp .ne 6, 3) := by decide +kernel
theorem dX10_follows_58 : decode cX10_follows 58 = .ok (.bipush 6, 2) := by decide +kernel
theorem dX10_follows_60 : decode cX10_follows 60 = .ok (.ireturn, 1) := by decide +kernel
theorem dX10_follows_61 : decode cX10_follows 61 = .ok (.aload_n 0, 1) := by decide +kernel
theorem dX10_follows_62 : decode cX10_follows 62 = .ok (.getfield 343, 3) := by decide +kernel
theorem dX10_follows_65 : decode cX10_follows 65 = .ok (.bipush 8, 2) := by decide +kernel
theorem dX10_follows_67 : decode cX10_follows 67 = .ok (.if_icmp .le 11, 3) := by decide +kernel
theorem dX10_follows_70 : decode cX10_follows 70 = .ok (.bipush (-2), 2) := by decide +kernel
theorem dX10_follows_72 : decode cX10_follows 72 = .ok (.aload_n 0, 1) := by decide +kernel
theorem dX10_follows_73 : decode cX10_follows 73 = .ok (.getfield 346, 3) := by decide +kernel
theorem dX10_follows_76 : decode cX10_follows 76 = .ok (.isub, 1) := by decide +kernel
theorem dX10_follows_77 : decode cX10_follows 77 = .ok (.ireturn, 1) := by decide +kernel
theorem dX10_follows_78 : decode cX10_follows 78 = .ok (.aload_n 0, 1) := by decide +kernel
theorem dX10_follows_79 : decode cX10_follows 79 = .ok (.bipush 8, 2) := by decide +kernel
theorem dX10_follows_81 : decode cX10_follows 81 = .ok (.aload_n 0, 1) := by decide +kernel
theorem dX10_follows_82 : decode cX10_follows 82 = .ok (.getfield 343, 3) := by decide +kernel
theorem dX10_follows_85 : decode cX10_follows 85 = .ok (.imul, 1) := by decide +kernel
theorem dX10_follows_86 : decode cX10_follows 86 = .ok (.invokevirtual 349, 3) := by decide +kernel
theorem dX10_follows_89 : decode cX10_follows 89 = .ok (.aload_n 0, 1) := by decide +kernel
theorem dX10_follows_90 : decode cX10_follows 90 = .ok (.invokevirtual 355, 3) := by decide +kernel
theorem dX10_follows_93 : decode cX10_follows 93 = .ok (.ireturn, 1) := by decide +kernel
theorem dX10_follows_94 : decode cX10_follows 94 = .ok (.aload_n 0, 1) := by decide +kernel
theorem dX10_follows_95 : decode cX10_follows 95 = .ok (.getfield 311, 3) := by decide +kernel
theorem dX10_follows_98 : decode cX10_follows 98 = .ok (.iconst 4, 1) := by decide +kernel
theorem dX10_follows_99 : decode cX10_follows 99 = .ok (.if_icmp .ne 45, 3) := by decide +kernel
theorem dX10_follows_102 : decode cX10_follows 102 = .ok (.aload_n 0, 1) := by decide +kernel
theorem dX10_follows_103 : decode cX10_follows 103 = .ok (.getfield 323, 3) := by decide +kernel
theorem dX10_follows_106 : decode cX10_follows 106 = .ok (.iconst 2, 1) := by decide +kernel
theorem dX10_follows_107 : decode cX10_follows 107 = .ok (.if_icmp .eq 20, 3) := by decide +kernel
theorem dX10_follows_110 : decode cX10_follows 110 = .ok (.aload_n 0, 1) := by decide +kernel
theorem dX10_follows_111 : decode cX10_follows 111 = .ok (.getfield 323, 3) := by decide +kernel
theorem dX10_follows_114 : decode cX10_follows 114 = .ok (.iconst 4, 1) := by decide +kernel
theorem dX10_follows_115 : decode cX10_follows 115 = .ok (.if_icmp .eq 12, 3) := by decide +kernel
theorem dX10_follows_118 : decode cX10_follows 118 = .ok (.aload_n 0, 1) := by decide +kernel
theorem dX10_follows_119 : decode cX10_follows 119 = .ok (.getfield 323, 3) := by decide +kernel
theorem dX10_follows_122 : decode cX10_follows 122 = .ok (.bipush 8, 2) := by decide +kernel
theorem dX10_follows_124 : decode cX10_follows 124 = .ok (.if_icmp .ne 20, 3) := by decide +kernel
theorem dX10_follows_127 : decode cX10_follows 127 = .ok (.aload_n 0, 1) := by decide +kernel
theorem dX10_follows_128 : decode cX10_follows 128 = .ok (.getfield 343, 3) := by decide +kernel
theorem dX10_follows_131 : decode cX10_follows 131 = .ok (.bipush 8, 2) := by decide +kernel
theorem dX10_follows_133 : decode cX10_follows 133 = .ok (.imul, 1) := by decide +kernel
theorem dX10_follows_134 : decode cX10_follows 134 = .ok (.aload_n 0, 1) := by decide +kernel
theorem dX10_follows_135 : decode cX10_follows 135 = .ok (.getfield 323, 3) := by decide +kernel
theorem dX10_follows_138 : decode cX10_follows 138 = .ok (.idiv, 1) := by decide +kernel
theorem dX10_follows_139 : decode cX10_follows 139 = .ok (.bipush 64, 2) := by decide +kernel
theorem dX10_follows_141 : decode cX10_follows 141 = .ok (.if_icmp .le 5, 3) := by decide +kernel
theorem dX10_follows_144 : decode cX10_follows 144 = .ok (.iconst (-1), 1) := by decide +kernel
theorem dX10_follows_145 : decode cX10_follows 145 = .ok (.ireturn, 1) := by decide +kernel
theorem dX10_follows_146 : decode cX10_follows 146 = .ok (.aload_n 0, 1) := by decide +kernel
theorem dX10_follows_147 : decode cX10_follows 147 = .ok (.aload_n 0, 1) := by decide +kernel
theorem dX10_follows_148 : decode cX10_follows 148 = .ok (.getfield 343, 3) := by decide +kernel
theorem dX10_follows_151 : decode cX10_follows 151 = .ok (.bipush 8, 2) := by decide +kernel
theorem dX10_follows_153 : decode cX10_follows 153 = .ok (.imul, 1) := by decide +kernel
theorem dX10_follows_154 : decode cX10_follows 154 = .ok (.aload_n 0, 1) := by decide +kernel
theorem dX10_follows_155 : decode cX10_follows 155 = .ok (.getfield 323, 3) := by decide +kernel
theorem dX10_follows_158 : decode cX10_follows 158 = .ok (.idiv, 1) := by decide +kernel
theorem dX10_follows_159 : decode cX10_follows 159 = .ok (.invokevirtual 349, 3) := by decide +kernel
theorem dX10_follows_162 : decode cX10_follows 162 = .ok (.iconst 3, 1) := by decide +kernel
theorem dX10_follows_163 : decode cX10_follows 163 = .ok (.ireturn, 1) := by decide +kernel
theorem dX10_follows_164 : decode cX10_follows 164 = .ok (.aload_n 0, 1) := by decide +kernel
theorem dX10_follows_165 : decode cX10_follows 165 = .ok (.invokevirtual 355, 3) := by decide +kernel
theorem dX10_follows_168 : decode cX10_follows 168 = .ok (.ireturn, 1) := by decide +kernel
theorem dX10_follows_169 : decode cX10_follows 169 = .ok (.aload_n 0, 1) := by decide +kernel
theorem dX10_follows_170 : decode cX10_follows 170 = .ok (.iload_n 1, 1) := by decide +kernel
theorem dX10_follows_171 : decode cX10_follows 171 = .ok (.invokevirtual 358, 3) := by decide +kernel
theorem dX10_follows_174 : decode cX10_follows 174 = .ok (.ireturn, 1) := by decide +kernel
theorem dX10_figures_0 : decode cX10_figures 0 = .ok (.aload_n 0, 1) := by decide +kernel
theorem dX10_figures_1 : decode cX10_figures 1 = .ok (.aload_n 0, 1) := by decide +kernel
theorem dX10_figures_2 : decode cX10_figures 2 = .ok (.getfield 323, 3) := by decide +kernel
theorem dX10_figures_5 : decode cX10_figures 5 = .ok (.putfield 343, 3) := by decide +kernel
theorem dX10_figures_8 : decode cX10_figures 8 = .ok (.aload_n 0, 1) := by decide +kernel
theorem dX10_figures_9 : decode cX10_figures 9 = .ok (.aload_n 0, 1) := by decide +kernel
theorem dX10_figures_10 : decode cX10_figures 10 = .ok (.getfield 305, 3) := by decide +kernel
theorem dX10_figures_13 : decode cX10_figures 13 = .ok (.putfield 346, 3) := by decide +kernel
theorem dX10_figures_16 : decode cX10_figures 16 = .ok (.iconst 5, 1) := by decide +kernel
theorem dX10_figures_17 : decode cX10_figures 17 = .ok (.ireturn, 1) := by decide +kernel
theorem dX10_beginsGame_0 : decode cX10_beginsGame 0 = .ok (.aload_n 0, 1) := by decide +kernel
theorem dX10_beginsGame_1 : decode cX10_beginsGame 1 = .ok (.iconst 1, 1) := by decide +kernel
theorem dX10_beginsGame_2 : decode cX10_beginsGame 2 = .ok (.putfield 361, 3) := by decide +kernel
theorem dX10_beginsGame_5 : decode cX10_beginsGame 5 = .ok (.aload_n 0, 1) := by decide +kernel
theorem dX10_beginsGame_6 : decode cX10_beginsGame 6 = .ok (.iconst 0, 1) := by decide +kernel
theorem dX10_beginsGame_7 : decode cX10_beginsGame 7 = .ok (.putfield 364, 3) := by decide +kernel
theorem dX10_beginsGame_10 : decode cX10_beginsGame 10 = .ok (.aload_n 0, 1) := by decide +kernel
theorem dX10_beginsGame_11 : decode cX10_beginsGame 11 = .ok (.getfield 311, 3) := by decide +kernel
theorem dX10_beginsGame_14 : decode cX10_beginsGame 14 = .ok (.lookupswitch 212 #[(1, 82), (2, 82), (3, 82), (4, 92), (5, 97), (45, 129), (123, 136), (124, 184), (125, 198)], 82) := by decide +kernel
theorem dX10_beginsGame_96 : decode cX10_beginsGame 96 = .ok (.aload_n 0, 1) := by decide +kernel
theorem dX10_beginsGame_97 : decode cX10_beginsGame 97 = .ok (.aload_n 0, 1) := by decide +kernel
theorem dX10_beginsGame_98 : decode cX10_beginsGame 98 = .ok (.getfield 311, 3) := by decide +kernel
theorem dX10_beginsGame_101 : decode cX10_beginsGame 101 = .ok (.invokevirtual 367, 3) := by decide +kernel
theorem dX10_beginsGame_104 : decode cX10_beginsGame 104 = .ok (.iconst 3, 1) := by decide +kernel
theorem dX10_beginsGame_105 : decode cX10_beginsGame 105 = .ok (.ireturn, 1) := by decide +kernel
theorem dX10_beginsGame_106 : decode cX10_beginsGame 106 = .ok (.aload_n 0, 1) := by decide +kernel
theorem dX10_beginsGame_107 : decode cX10_beginsGame 107 = .ok (.invokevirtual 352, 3) := by decide +kernel
theorem dX10_beginsGame_110 : decode cX10_beginsGame 110 = .ok (.ireturn, 1) := by decide +kernel
theorem dX10_beginsGame_111 : decode cX10_beginsGame 111 = .ok (.aload_n 0, 1) := by decide +kernel
theorem dX10_beginsGame_112 : decode cX10_beginsGame 112 = .ok (.aload_n 0, 1) := by decide +kernel
theorem dX10_beginsGame_113 : decode cX10_beginsGame 113 = .ok (.getfield 305, 3) := by decide +kernel
theorem dX10_beginsGame_116 : decode cX10_beginsGame 116 = .ok (.iconst 1, 1) := by decide +kernel
theorem dX10_beginsGame_117 : decode cX10_beginsGame 117 = .ok (.iadd, 1) := by decide +kernel
theorem dX10_beginsGame_118 : decode cX10_beginsGame 118 = .ok (.invokevirtual 308, 3) := by decide +kernel
theorem dX10_beginsGame_121 : decode cX10_beginsGame 121 = .ok (.bipush 45, 2) := by decide +kernel
theorem dX10_beginsGame_123 : decode cX10_beginsGame 123 = .ok (.if_icmp .eq 13, 3) := by decide +kernel
theorem dX10_beginsGame_126 : decode cX10_beginsGame 126 = .ok (.bipush (-2), 2) := by decide +kernel
theorem dX10_beginsGame_128 : decode cX10_beginsGame 128 = .ok (.aload_n 0, 1) := by decide +kernel
theorem dX10_beginsGame_129 : decode cX10_beginsGame 129 = .ok (.getfield 305, 3) := by decide +kernel
theorem dX10_beginsGame_132 : decode cX10_beginsGame 132 = .ok (.iconst 1, 1) := by decide +kernel
theorem dX10_beginsGame_133 : decode cX10_beginsGame 133 = .ok (.iadd, 1) := by decide +kernel
theorem dX10_beginsGame_134 : decode cX10_beginsGame 134 = .ok (.isub, 1) := by decide +kernel
theorem dX10_beginsGame_135 : decode cX10_beginsGame 135 = .ok (.ireturn, 1) := by decide +kernel
theorem dX10_beginsGame_136 : decode cX10_beginsGame 136 = .ok (.aload_n 0, 1) := by decide +kernel
theorem dX10_beginsGame_137 : decode cX10_beginsGame 137 = .ok (.iconst 1, 1) := by decide +kernel
theorem dX10_beginsGame_138 : decode cX10_beginsGame 138 = .ok (.putfield 364, 3) := by decide +kernel
theorem dX10_beginsGame_141 : decode cX10_beginsGame 141 = .ok (.iconst 4, 1) := by decide +kernel
theorem dX10_beginsGame_142 : decode cX10_beginsGame 142 = .ok (.ireturn, 1) := by decide +kernel
theorem dX10_beginsGame_143 : decode cX10_beginsGame 143 = .ok (.aload_n 0, 1) := by decide +kernel
theorem dX10_beginsGame_144 : decode cX10_beginsGame 144 = .ok (.iconst (-1), 1) := by decide +kernel
theorem dX10_beginsGame_145 : decode cX10_beginsGame 145 = .ok (.putfield 361, 3) := by decide +kernel
theorem dX10_beginsGame_148 : decode cX10_beginsGame 148 = .ok (.iconst 4, 1) := by decide +kernel
theorem dX10_beginsGame_149 : decode cX10_beginsGame 149 = .ok (.ireturn, 1) := by decide +kernel
theorem dX10_beginsGame_150 : decode cX10_beginsGame 150 = .ok (.aload_n 0, 1) := by decide +kernel
theorem dX10_beginsGame_151 : decode cX10_beginsGame 151 = .ok (.getfield 105, 3) := by decide +kernel
theorem dX10_beginsGame_154 : decode cX10_beginsGame 154 = .ok (.aload_n 0, 1) := by decide +kernel
theorem dX10_beginsGame_155 : decode cX10_beginsGame 155 = .ok (.getfield 334, 3) := by decide +kernel
theorem dX10_beginsGame_158 : decode cX10_beginsGame 158 = .ok (.iconst 0, 1) := by decide +kernel
theorem dX10_beginsGame_159 : decode cX10_beginsGame 159 = .ok (.iastore, 1) := by decide +kernel
theorem dX10_beginsGame_160 : decode cX10_beginsGame 160 = .ok (.aload_n 0, 1) := by decide +kernel
theorem dX10_beginsGame_161 : decode cX10_beginsGame 161 = .ok (.getfield 108, 3) := by decide +kernel
theorem dX10_beginsGame_164 : decode cX10_beginsGame 164 = .ok (.iconst 2, 1) := by decide +kernel
theorem dX10_beginsGame_165 : decode cX10_beginsGame 165 = .ok (.aload_n 0, 1) := by decide +kernel
theorem dX10_beginsGame_166 : decode cX10_beginsGame 166 = .ok (.getfield 334, 3) := by decide +kernel
theorem dX10_beginsGame_169 : decode cX10_beginsGame 169 = .ok (.imul, 1) := by decide +kernel
theorem dX10_beginsGame_170 : decode cX10_beginsGame 170 = .ok (.iconst 0, 1) := by decide +kernel
theorem dX10_beginsGame_171 : decode cX10_beginsGame 171 = .ok (.iastore, 1) := by decide +kernel
theorem dX10_beginsGame_172 : decode cX10_beginsGame 172 = .ok (.aload_n 0, 1) := by decide +kernel
theorem dX10_beginsGame_173 : decode cX10_beginsGame 173 = .ok (.getfield 108, 3) := by decide +kernel
theorem dX10_beginsGame_176 : decode cX10_beginsGame 176 = .ok (.iconst 2, 1) := by decide +kernel
theorem dX10_beginsGame_177 : decode cX10_beginsGame 177 = .ok (.aload_n 0, 1) := by decide +kernel
theorem dX10_beginsGame_178 : decode cX10_beginsGame 178 = .ok (.getfield 334, 3) := by decide +kernel
theorem dX10_beginsGame_181 : decode cX10_beginsGame 181 = .ok (.imul, 1) := by decide +kernel
theorem dX10_beginsGame_182 : decode cX10_beginsGame 182 = .ok (.iconst 1, 1) := by decide +kernel
theorem dX10_beginsGame_183 : decode cX10_beginsGame 183 = .ok (.iadd, 1) := by decide +kernel
theorem dX10_beginsGame_184 : decode cX10_beginsGame 184 = .ok (.iconst 0, 1) := by decide +kernel
theorem dX10_beginsGame_185 : decode cX10_beginsGame 185 = .ok (.iastore, 1) := by decide +kernel
theorem dX10_beginsGame_186 : decode cX10_beginsGame 186 = .ok (.aload_n 0, 1) := by decide +kernel
theorem dX10_beginsGame_187 : decode cX10_beginsGame 187 = .ok (.dup, 1) := by decide +kernel
theorem dX10_beginsGame_188 : decode cX10_beginsGame 188 = .ok (.getfield 334, 3) := by decide +kernel
theorem dX10_beginsGame_191 : decode cX10_beginsGame 191 = .ok (.iconst 1, 1) := by decide +kernel
theorem dX10_beginsGame_192 : decode cX10_beginsGame 192 = .ok (.iadd, 1) := by decide +kernel
theorem dX10_beginsGame_193 : decode cX10_beginsGame 193 = .ok (.putfield 334, 3) := by decide +kernel
theorem dX10_beginsGame_196 : decode cX10_beginsGame 196 = .ok (.iconst 1, 1) := by decide +kernel
theorem dX10_beginsGame_197 : decode cX10_beginsGame 197 = .ok (.ireturn, 1) := by decide +kernel
theorem dX10_beginsGame_198 : decode cX10_beginsGame 198 = .ok (.iload_n 1, 1) := by decide +kernel
theorem dX10_beginsGame_199 : decode cX10_beginsGame 199 = .ok (.iconst 1, 1) := by decide +kernel
theorem dX10_beginsGame_200 : decode cX10_beginsGame 200 = .ok (.if_icmp .ne 10, 3) := by decide +kernel
theorem dX10_beginsGame_203 : decode cX10_beginsGame 203 = .ok (.aload_n 0, 1) := by decide +kernel
theorem dX10_beginsGame_204 : decode cX10_beginsGame 204 = .ok (.invokevirtual 370, 3) := by decide +kernel
theorem dX10_beginsGame_207 : decode cX10_beginsGame 207 = .ok (.goto 4, 3) := by decide +kernel
theorem dX10_beginsGame_210 : decode cX10_beginsGame 210 = .ok (.iconst (-1), 1) := by decide +kernel
theorem dX10_beginsGame_211 : decode cX10_beginsGame 211 = .ok (.ireturn, 1) := by decide +kernel
theorem dX10_beginsGame_212 : decode cX10_beginsGame 212 = .ok (.iload_n 1, 1) := by decide +kernel
theorem dX10_beginsGame_213 : decode cX10_beginsGame 213 = .ok (.iconst 2, 1) := by decide +kernel
theorem dX10_beginsGame_214 : decode cX10_beginsGame 214 = .ok (.if_icmp .ne 10, 3) := by decide +kernel
theorem dX10_beginsGame_217 : decode cX10_beginsGame 217 = .ok (.aload_n 0, 1) := by decide +kernel
theorem dX10_beginsGame_218 : decode cX10_beginsGame 218 = .ok (.invokevirtual 373, 3) := by decide +kernel
theorem dX10_beginsGame_221 : decode cX10_beginsGame 221 = .ok (.goto 4, 3) := by decide +kernel
theorem dX10_beginsGame_224 : decode cX10_beginsGame 224 = .ok (.iconst (-1), 1) := by decide +kernel
theorem dX10_beginsGame_225 : decode cX10_beginsGame 225 = .ok (.ireturn, 1) := by decide +kernel
theorem dX10_beginsGame_226 : decode cX10_beginsGame 226 = .ok (.iconst (-1), 1) := by decide +kernel
theorem dX10_beginsGame_227 : decode cX10_beginsGame 227 = .ok (.ireturn, 1) := by decide +kernel
theorem dX10_turns_0 : decode cX10_turns 0 = .ok (.aload_n 0, 1) := by decide +kernel
theorem dX10_turns_1 : decode cX10_turns 1 = .ok (.getfield 105, 3) := by decide +kernel
theorem dX10_turns_4 : decode cX10_turns 4 = .ok (.aload_n 0, 1) := by decide +kernel
theorem dX10_turns_5 : decode cX10_turns 5 = .ok (.getfield 334, 3) := by decide +kernel
theorem dX10_turns_8 : decode cX10_turns 8 = .ok (.iconst 1, 1) := by decide +kernel
theorem dX10_turns_9 : decode cX10_turns 9 = .ok (.isub, 1) := by decide +kernel
theorem dX10_turns_10 : decode cX10_turns 10 = .ok (.iconst 1, 1) := by decide +kernel
theorem dX10_turns_11 : decode cX10_turns 11 = .ok (.iastore, 1) := by decide +kernel
theorem dX10_turns_12 : decode cX10_turns 12 = .ok (.iconst 2, 1) := by decide +kernel
theorem dX10_turns_13 : decode cX10_turns 13 = .ok (.ireturn, 1) := by decide +kernel
theorem dX10_behind_0 : decode cX10_behind 0 = .ok (.aload_n 0, 1) := by decide +kernel
theorem dX10_behind_1 : decode cX10_behind 1 = .ok (.getfield 334, 3) := by decide +kernel
theorem dX10_behind_4 : decode cX10_behind 4 = .ok (.ifCond .ne 5, 3) := by decide +kernel
theorem dX10_behind_7 : decode cX10_behind 7 = .ok (.iconst (-1), 1) := by decide +kernel
theorem dX10_behind_8 : decode cX10_behind 8 = .ok (.ireturn, 1) := by decide +kernel
theorem dX10_behind_9 : decode cX10_behind 9 = .ok (.aload_n 0, 1) := by decide +kernel
theorem dX10_behind_10 : decode cX10_behind 10 = .ok (.getfield 311, 3) := by decide +kernel
theorem dX10_behind_13 : decode cX10_behind 13 = .ok (.bipush 44, 2) := by decide +kernel
theorem dX10_behind_15 : decode cX10_behind 15 = .ok (.if_icmp .ne 5, 3) := by decide +kernel
theorem dX10_behind_18 : decode cX10_behind 18 = .ok (.iconst 0, 1) := by decide +kernel
theorem dX10_behind_19 : decode cX10_behind 19 = .ok (.ireturn, 1) := by decide +kernel
theorem dX10_behind_20 : decode cX10_behind 20 = .ok (.aload_n 0, 1) := by decide +kernel
theorem dX10_behind_21 : decode cX10_behind 21 = .ok (.getfield 311, 3) := by decide +kernel
theorem dX10_behind_24 : decode cX10_behind 24 = .ok (.bipush 124, 2) := by decide +kernel
theorem dX10_behind_26 : decode cX10_behind 26 = .ok (.if_icmp .ne 24, 3) := by decide +kernel
theorem dX10_behind_29 : decode cX10_behind 29 = .ok (.aload_n 0, 1) := by decide +kernel
theorem dX10_behind_30 : decode cX10_behind 30 = .ok (.getfield 105, 3) := by decide +kernel
theorem dX10_behind_33 : decode cX10_behind 33 = .ok (.aload_n 0, 1) := by decide +kernel
theorem dX10_behind_34 : decode cX10_behind 34 = .ok (.getfield 334, 3) := by decide +kernel
theorem dX10_behind_37 : decode cX10_behind 37 = .ok (.iconst 1, 1) := by decide +kernel
theorem dX10_behind_38 : decode cX10_behind 38 = .ok (.isub, 1) := by decide +kernel
theorem dX10_behind_39 : decode cX10_behind 39 = .ok (.iaload, 1) := by decide +kernel
theorem dX10_behind_40 : decode cX10_behind 40 = .ok (.ifCond .ne 10, 3) := by decide +kernel
theorem dX10_behind_43 : decode cX10_behind 43 = .ok (.aload_n 0, 1) := by decide +kernel
theorem dX10_behind_44 : decode cX10_behind 44 = .ok (.invokevirtual 370, 3) := by decide +kernel
theorem dX10_behind_47 : decode cX10_behind 47 = .ok (.goto 35, 3) := by decide +kernel
theorem dX10_behind_50 : decode cX10_behind 50 = .ok (.aload_n 0, 1) := by decide +kernel
theorem dX10_behind_51 : decode cX10_behind 51 = .ok (.getfield 311, 3) := by decide +kernel
theorem dX10_behind_54 : decode cX10_behind 54 = .ok (.bipush 125, 2) := by decide +kernel
theorem dX10_behind_56 : decode cX10_behind 56 = .ok (.if_icmp .ne 25, 3) := by decide +kernel
theorem dX10_behind_59 : decode cX10_behind 59 = .ok (.aload_n 0, 1) := by decide +kernel
theorem dX10_behind_60 : decode cX10_behind 60 = .ok (.getfield 105, 3) := by decide +kernel
theorem dX10_behind_63 : decode cX10_behind 63 = .ok (.aload_n 0, 1) := by decide +kernel
theorem dX10_behind_64 : decode cX10_behind 64 = .ok (.getfield 334, 3) := by decide +kernel
theorem dX10_behind_67 : decode cX10_behind 67 = .ok (.iconst 1, 1) := by decide +kernel
theorem dX10_behind_68 : decode cX10_behind 68 = .ok (.isub, 1) := by decide +kernel
theorem dX10_behind_69 : decode cX10_behind 69 = .ok (.iaload, 1) := by decide +kernel
theorem dX10_behind_70 : decode cX10_behind 70 = .ok (.iconst 1, 1) := by decide +kernel
theorem dX10_behind_71 : decode cX10_behind 71 = .ok (.if_icmp .ne 10, 3) := by decide +kernel
theorem dX10_behind_74 : decode cX10_behind 74 = .ok (.aload_n 0, 1) := by decide +kernel
theorem dX10_behind_75 : decode cX10_behind 75 = .ok (.invokevirtual 373, 3) := by decide +kernel
theorem dX10_behind_78 : decode cX10_behind 78 = .ok (.goto 4, 3) := by decide +kernel
theorem dX10_behind_81 : decode cX10_behind 81 = .ok (.iconst (-1), 1) := by decide +kernel
theorem dX10_behind_82 : decode cX10_behind 82 = .ok (.ireturn, 1) := by decide +kernel
theorem dX10_closes_0 : decode cX10_closes 0 = .ok (.aload_n 0, 1) := by decide +kernel
theorem dX10_closes_1 : decode cX10_closes 1 = .ok (.dup, 1) := by decide +kernel
theorem dX10_closes_2 : decode cX10_closes 2 = .ok (.getfield 334, 3) := by decide +kernel
theorem dX10_closes_5 : decode cX10_closes 5 = .ok (.iconst 1, 1) := by decide +kernel
theorem dX10_closes_6 : decode cX10_closes 6 = .ok (.isub, 1) := by decide +kernel
theorem dX10_closes_7 : decode cX10_closes 7 = .ok (.putfield 334, 3) := by decide +kernel
theorem dX10_closes_10 : decode cX10_closes 10 = .ok (.aload_n 0, 1) := by decide +kernel
theorem dX10_closes_11 : decode cX10_closes 11 = .ok (.getfield 328, 3) := by decide +kernel
theorem dX10_closes_14 : decode cX10_closes 14 = .ok (.ifCond .eq 82, 3) := by decide +kernel
theorem dX10_closes_17 : decode cX10_closes 17 = .ok (.aload_n 0, 1) := by decide +kernel
theorem dX10_closes_18 : decode cX10_closes 18 = .ok (.getfield 331, 3) := by decide +kernel
theorem dX10_closes_21 : decode cX10_closes 21 = .ok (.ifCond .ne 75, 3) := by decide +kernel
theorem dX10_closes_24 : decode cX10_closes 24 = .ok (.aload_n 0, 1) := by decide +kernel
theorem dX10_closes_25 : decode cX10_closes 25 = .ok (.invokevirtual 131, 3) := by decide +kernel
theorem dX10_closes_28 : decode cX10_closes 28 = .ok (.iconst 0, 1) := by decide +kernel
theorem dX10_closes_29 : decode cX10_closes 29 = .ok (.istore_n 1, 1) := by decide +kernel
theorem dX10_closes_30 : decode cX10_closes 30 = .ok (.iload_n 1, 1) := by decide +kernel
theorem dX10_closes_31 : decode cX10_closes 31 = .ok (.iconst 2, 1) := by decide +kernel
theorem dX10_closes_32 : decode cX10_closes 32 = .ok (.if_icmp .ge 56, 3) := by decide +kernel
theorem dX10_closes_35 : decode cX10_closes 35 = .ok (.iconst 0, 1) := by decide +kernel
theorem dX10_closes_36 : decode cX10_closes 36 = .ok (.istore_n 2, 1) := by decide +kernel
theorem dX10_closes_37 : decode cX10_closes 37 = .ok (.iload_n 2, 1) := by decide +kernel
theorem dX10_closes_38 : decode cX10_closes 38 = .ok (.aload_n 0, 1) := by decide +kernel
theorem dX10_closes_39 : decode cX10_closes 39 = .ok (.getfield 108, 3) := by decide +kernel
theorem dX10_closes_42 : decode cX10_closes 42 = .ok (.iconst 2, 1) := by decide +kernel
theorem dX10_closes_43 : decode cX10_closes 43 = .ok (.aload_n 0, 1) := by decide +kernel
theorem dX10_closes_44 : decode cX10_closes 44 = .ok (.getfield 334, 3) := by decide +kernel
theorem dX10_closes_47 : decode cX10_closes 47 = .ok (.imul, 1) := by decide +kernel
theorem dX10_closes_48 : decode cX10_closes 48 = .ok (.iload_n 1, 1) := by decide +kernel
theorem dX10_closes_49 : decode cX10_closes 49 = .ok (.iadd, 1) := by decide +kernel
theorem dX10_closes_50 : decode cX10_closes 50 = .ok (.iaload, 1) := by decide +kernel
theorem dX10_closes_51 : decode cX10_closes 51 = .ok (.if_icmp .ge 31, 3) := by decide +kernel
theorem dX10_closes_54 : decode cX10_closes 54 = .ok (.aload_n 0, 1) := by decide +kernel
theorem dX10_closes_55 : decode cX10_closes 55 = .ok (.iload_n 1, 1) := by decide +kernel
theorem dX10_closes_56 : decode cX10_closes 56 = .ok (.aload_n 0, 1) := by decide +kernel
theorem dX10_closes_57 : decode cX10_closes 57 = .ok (.getfield 111, 3) := by decide +kernel
theorem dX10_closes_60 : decode cX10_closes 60 = .ok (.iconst 4, 1) := by decide +kernel
theorem dX10_closes_61 : decode cX10_closes 61 = .ok (.iconst 2, 1) := by decide +kernel
theorem dX10_closes_62 : decode cX10_closes 62 = .ok (.aload_n 0, 1) := by decide +kernel
theorem dX10_closes_63 : decode cX10_closes 63 = .ok (.getfield 334, 3) := by decide +kernel
theorem dX10_closes_66 : decode cX10_closes 66 = .ok (.imul, 1) := by decide +kernel
theorem dX10_closes_67 : decode cX10_closes 67 = .ok (.iload_n 1, 1) := by decide +kernel
theorem dX10_closes_68 : decode cX10_closes 68 = .ok (.iadd, 1) := by decide +kernel
theorem dX10_closes_69 : decode cX10_closes 69 = .ok (.imul, 1) := by decide +kernel
theorem dX10_closes_70 : decode cX10_closes 70 = .ok (.iload_n 2, 1) := by decide +kernel
theorem dX10_closes_71 : decode cX10_closes 71 = .ok (.iadd, 1) := by decide +kernel
theorem dX10_closes_72 : decode cX10_closes 72 = .ok (.iaload, 1) := by decide +kernel
theorem dX10_closes_73 : decode cX10_closes 73 = .ok (.invokevirtual 134, 3) := by decide +kernel
theorem dX10_closes_76 : decode cX10_closes 76 = .ok (.iinc 2 1, 3) := by decide +kernel
theorem dX10_closes_79 : decode cX10_closes 79 = .ok (.goto (-42), 3) := by decide +kernel
theorem dX10_closes_82 : decode cX10_closes 82 = .ok (.iinc 1 1, 3) := by decide +kernel
theorem dX10_closes_85 : decode cX10_closes 85 = .ok (.goto (-55), 3) := by decide +kernel
theorem dX10_closes_88 : decode cX10_closes 88 = .ok (.aload_n 0, 1) := by decide +kernel
theorem dX10_closes_89 : decode cX10_closes 89 = .ok (.aload_n 0, 1) := by decide +kernel
theorem dX10_closes_90 : decode cX10_closes 90 = .ok (.invokevirtual 138, 3) := by decide +kernel
theorem dX10_closes_93 : decode cX10_closes 93 = .ok (.invokevirtual 376, 3) := by decide +kernel
theorem dX10_closes_96 : decode cX10_closes 96 = .ok (.iconst 3, 1) := by decide +kernel
theorem dX10_closes_97 : decode cX10_closes 97 = .ok (.ireturn, 1) := by decide +kernel
theorem dX10_gameIs_0 : decode cX10_gameIs 0 = .ok (.aload_n 0, 1) := by decide +kernel
theorem dX10_gameIs_1 : decode cX10_gameIs 1 = .ok (.aload_n 0, 1) := by decide +kernel
theorem dX10_gameIs_2 : decode cX10_gameIs 2 = .ok (.getfield 331, 3) := by decide +kernel
theorem dX10_gameIs_5 : decode cX10_gameIs 5 = .ok (.ifCond .ne 8, 3) := by decide +kernel
theorem dX10_gameIs_8 : decode cX10_gameIs 8 = .ok (.iload_n 1, 1) := by decide +kernel
theorem dX10_gameIs_9 : decode cX10_gameIs 9 = .ok (.iconst (-1), 1) := by decide +kernel
theorem dX10_gameIs_10 : decode cX10_gameIs 10 = .ok (.if_icmp .ne 7, 3) := by decide +kernel
theorem dX10_gameIs_13 : decode cX10_gameIs 13 = .ok (.iconst 1, 1) := by decide +kernel
theorem dX10_gameIs_14 : decode cX10_gameIs 14 = .ok (.goto 4, 3) := by decide +kernel
theorem dX10_gameIs_17 : decode cX10_gameIs 17 = .ok (.iconst 0, 1) := by decide +kernel
theorem dX10_gameIs_18 : decode cX10_gameIs 18 = .ok (.putfield 331, 3) := by decide +kernel
theorem dX10_gameIs_21 : decode cX10_gameIs 21 = .ok (.aload_n 0, 1) := by decide +kernel
theorem dX10_gameIs_22 : decode cX10_gameIs 22 = .ok (.getfield 331, 3) := by decide +kernel
theorem dX10_gameIs_25 : decode cX10_gameIs 25 = .ok (.ifCond .eq 4, 3) := by decide +kernel
theorem dX10_gameIs_28 : decode cX10_gameIs 28 = .ok (.return_, 1) := by decide +kernel
theorem dX10_gameIs_29 : decode cX10_gameIs 29 = .ok (.aload_n 0, 1) := by decide +kernel
theorem dX10_gameIs_30 : decode cX10_gameIs 30 = .ok (.iload_n 1, 1) := by decide +kernel
theorem dX10_gameIs_31 : decode cX10_gameIs 31 = .ok (.putfield 379, 3) := by decide +kernel
theorem dX10_gameIs_34 : decode cX10_gameIs 34 = .ok (.aload_n 0, 1) := by decide +kernel
theorem dX10_gameIs_35 : decode cX10_gameIs 35 = .ok (.getfield 334, 3) := by decide +kernel
theorem dX10_gameIs_38 : decode cX10_gameIs 38 = .ok (.ifCond .le 99, 3) := by decide +kernel
theorem dX10_gameIs_41 : decode cX10_gameIs 41 = .ok (.iconst 2, 1) := by decide +kernel
theorem dX10_gameIs_42 : decode cX10_gameIs 42 = .ok (.aload_n 0, 1) := by decide +kernel
theorem dX10_gameIs_43 : decode cX10_gameIs 43 = .ok (.getfield 334, 3) := by decide +kernel
theorem dX10_gameIs_46 : decode cX10_gameIs 46 = .ok (.iconst 1, 1) := by decide +kernel
theorem dX10_gameIs_47 : decode cX10_gameIs 47 = .ok (.isub, 1) := by decide +kernel
theorem dX10_gameIs_48 : decode cX10_gameIs 48 = .ok (.imul, 1) := by decide +kernel
theorem dX10_gameIs_49 : decode cX10_gameIs 49 = .ok (.aload_n 0, 1) := by decide +kernel
theorem dX10_gameIs_50 : decode cX10_gameIs 50 = .ok (.getfield 105, 3) := by decide +kernel
theorem dX10_gameIs_53 : decode cX10_gameIs 53 = .ok (.aload_n 0, 1) := by decide +kernel
theorem dX10_gameIs_54 : decode cX10_gameIs 54 = .ok (.getfield 334, 3) := by decide +kernel
theorem dX10_gameIs_57 : decode cX10_gameIs 57 = .ok (.iconst 1, 1) := by decide +kernel
theorem dX10_gameIs_58 : decode cX10_gameIs 58 = .ok (.isub, 1) := by decide +kernel
theorem dX10_gameIs_59 : decode cX10_gameIs 59 = .ok (.iaload, 1) := by decide +kernel
theorem dX10_gameIs_60 : decode cX10_gameIs 60 = .ok (.iadd, 1) := by decide +kernel
theorem dX10_gameIs_61 : decode cX10_gameIs 61 = .ok (.istore_n 2, 1) := by decide +kernel
theorem dX10_gameIs_62 : decode cX10_gameIs 62 = .ok (.iconst 0, 1) := by decide +kernel
theorem dX10_gameIs_63 : decode cX10_gameIs 63 = .ok (.istore_n 3, 1) := by decide +kernel
theorem dX10_gameIs_64 : decode cX10_gameIs 64 = .ok (.iload_n 3, 1) := by decide +kernel
theorem dX10_gameIs_65 : decode cX10_gameIs 65 = .ok (.aload_n 0, 1) := by decide +kernel
theorem dX10_gameIs_66 : decode cX10_gameIs 66 = .ok (.getfield 108, 3) := by decide +kernel
theorem dX10_gameIs_69 : decode cX10_gameIs 69 = .ok (.iload_n 2, 1) := by decide +kernel
theorem dX10_gameIs_70 : decode cX10_gameIs 70 = .ok (.iaload, 1) := by decide +kernel
theorem dX10_gameIs_71 : decode cX10_gameIs 71 = .ok (.if_icmp .ge 24, 3) := by decide +kernel
theorem dX10_gameIs_74 : decode cX10_gameIs 74 = .ok (.aload_n 0, 1) := by decide +kernel
theorem dX10_gameIs_75 : decode cX10_gameIs 75 = .ok (.getfield 111, 3) := by decide +kernel
theorem dX10_gameIs_78 : decode cX10_gameIs 78 = .ok (.iconst 4, 1) := by decide +kernel
theorem dX10_gameIs_79 : decode cX10_gameIs 79 = .ok (.iload_n 2, 1) := by decide +kernel
theorem dX10_gameIs_80 : decode cX10_gameIs 80 = .ok (.imul, 1) := by decide +kernel
theorem dX10_gameIs_81 : decode cX10_gameIs 81 = .ok (.iload_n 3, 1) := by decide +kernel
theorem dX10_gameIs_82 : decode cX10_gameIs 82 = .ok (.iadd, 1) := by decide +kernel
theorem dX10_gameIs_83 : decode cX10_gameIs 83 = .ok (.iaload, 1) := by decide +kernel
theorem dX10_gameIs_84 : decode cX10_gameIs 84 = .ok (.iload_n 1, 1) := by decide +kernel
theorem dX10_gameIs_85 : decode cX10_gameIs 85 = .ok (.if_icmp .ne 4, 3) := by decide +kernel
theorem dX10_gameIs_88 : decode cX10_gameIs 88 = .ok (.return_, 1) := by decide +kernel
theorem dX10_gameIs_89 : decode cX10_gameIs 89 = .ok (.iinc 3 1, 3) := by decide +kernel
theorem dX10_gameIs_92 : decode cX10_gameIs 92 = .ok (.goto (-28), 3) := by decide +kernel
theorem dX10_gameIs_95 : decode cX10_gameIs 95 = .ok (.aload_n 0, 1) := by decide +kernel
theorem dX10_gameIs_96 : decode cX10_gameIs 96 = .ok (.getfield 108, 3) := by decide +kernel
theorem dX10_gameIs_99 : decode cX10_gameIs 99 = .ok (.iload_n 2, 1) := by decide +kernel
theorem dX10_gameIs_100 : decode cX10_gameIs 100 = .ok (.iaload, 1) := by decide +kernel
theorem dX10_gameIs_101 : decode cX10_gameIs 101 = .ok (.iconst 4, 1) := by decide +kernel
theorem dX10_gameIs_102 : decode cX10_gameIs 102 = .ok (.if_icmp .ne 9, 3) := by decide +kernel
theorem dX10_gameIs_105 : decode cX10_gameIs 105 = .ok (.aload_n 0, 1) := by decide +kernel
theorem dX10_gameIs_106 : decode cX10_gameIs 106 = .ok (.iconst 1, 1) := by decide +kernel
theorem dX10_gameIs_107 : decode cX10_gameIs 107 = .ok (.putfield 331, 3) := by decide +kernel
theorem dX10_gameIs_110 : decode cX10_gameIs 110 = .ok (.return_, 1) := by decide +kernel
theorem dX10_gameIs_111 : decode cX10_gameIs 111 = .ok (.aload_n 0, 1) := by decide +kernel
theorem dX10_gameIs_112 : decode cX10_gameIs 112 = .ok (.getfield 111, 3) := by decide +kernel
theorem dX10_gameIs_115 : decode cX10_gameIs 115 = .ok (.iconst 4, 1) := by decide +kernel
theorem dX10_gameIs_116 : decode cX10_gameIs 116 = .ok (.iload_n 2, 1) := by decide +kernel
theorem dX10_gameIs_117 : decode cX10_gameIs 117 = .ok (.imul, 1) := by decide +kernel
theorem dX10_gameIs_118 : decode cX10_gameIs 118 = .ok (.aload_n 0, 1) := by decide +kernel
theorem dX10_gameIs_119 : decode cX10_gameIs 119 = .ok (.getfield 108, 3) := by decide +kernel
theorem dX10_gameIs_122 : decode cX10_gameIs 122 = .ok (.iload_n 2, 1) := by decide +kernel
theorem dX10_gameIs_123 : decode cX10_gameIs 123 = .ok (.iaload, 1) := by decide +kernel
theorem dX10_gameIs_124 : decode cX10_gameIs 124 = .ok (.iadd, 1) := by decide +kernel
theorem dX10_gameIs_125 : decode cX10_gameIs 125 = .ok (.iload_n 1, 1) := by decide +kernel
theorem dX10_gameIs_126 : decode cX10_gameIs 126 = .ok (.iastore, 1) := by decide +kernel
theorem dX10_gameIs_127 : decode cX10_gameIs 127 = .ok (.aload_n 0, 1) := by decide +kernel
theorem dX10_gameIs_128 : decode cX10_gameIs 128 = .ok (.getfield 108, 3) := by decide +kernel
theorem dX10_gameIs_131 : decode cX10_gameIs 131 = .ok (.iload_n 2, 1) := by decide +kernel
theorem dX10_gameIs_132 : decode cX10_gameIs 132 = .ok (.dup2, 1) := by decide +kernel
theorem dX10_gameIs_133 : decode cX10_gameIs 133 = .ok (.iaload, 1) := by decide +kernel
theorem dX10_gameIs_134 : decode cX10_gameIs 134 = .ok (.iconst 1, 1) := by decide +kernel
theorem dX10_gameIs_135 : decode cX10_gameIs 135 = .ok (.iadd, 1) := by decide +kernel
theorem dX10_gameIs_136 : decode cX10_gameIs 136 = .ok (.iastore, 1) := by decide +kernel
theorem dX10_gameIs_137 : decode cX10_gameIs 137 = .ok (.return_, 1) := by decide +kernel
theorem dX10_checkedPair_0 : decode cX10_checkedPair 0 = .ok (.iload_n 1, 1) := by decide +kernel
theorem dX10_checkedPair_1 : decode cX10_checkedPair 1 = .ok (.iconst (-1), 1) := by decide +kernel
theorem dX10_checkedPair_2 : decode cX10_checkedPair 2 = .ok (.if_icmp .eq 8, 3) := by decide +kernel
theorem dX10_checkedPair_5 : decode cX10_checkedPair 5 = .ok (.iload_n 2, 1) := by decide +kernel
theorem dX10_checkedPair_6 : decode cX10_checkedPair 6 = .ok (.iconst (-1), 1) := by decide +kernel
theorem dX10_checkedPair_7 : decode cX10_checkedPair 7 = .ok (.if_icmp .ne 7, 3) := by decide +kernel
theorem dX10_checkedPair_10 : decode cX10_checkedPair 10 = .ok (.iconst (-1), 1) := by decide +kernel
theorem dX10_checkedPair_11 : decode cX10_checkedPair 11 = .ok (.goto 9, 3) := by decide +kernel
theorem dX10_checkedPair_14 : decode cX10_checkedPair 14 = .ok (.aload_n 0, 1) := by decide +kernel
theorem dX10_checkedPair_15 : decode cX10_checkedPair 15 = .ok (.iload_n 1, 1) := by decide +kernel
theorem dX10_checkedPair_16 : decode cX10_checkedPair 16 = .ok (.iload_n 2, 1) := by decide +kernel
theorem dX10_checkedPair_17 : decode cX10_checkedPair 17 = .ok (.invokevirtual 127, 3) := by decide +kernel
theorem dX10_checkedPair_20 : decode cX10_checkedPair 20 = .ok (.ireturn, 1) := by decide +kernel
theorem dX10_numberIs_0 : decode cX10_numberIs 0 = .ok (.aload_n 0, 1) := by decide +kernel
theorem dX10_numberIs_1 : decode cX10_numberIs 1 = .ok (.getfield 328, 3) := by decide +kernel
theorem dX10_numberIs_4 : decode cX10_numberIs 4 = .ok (.ifCond .eq 10, 3) := by decide +kernel
theorem dX10_numberIs_7 : decode cX10_numberIs 7 = .ok (.aload_n 0, 1) := by decide +kernel
theorem dX10_numberIs_8 : decode cX10_numberIs 8 = .ok (.getfield 331, 3) := by decide +kernel
theorem dX10_numberIs_11 : decode cX10_numberIs 11 = .ok (.ifCond .eq 4, 3) := by decide +kernel
theorem dX10_numberIs_14 : decode cX10_numberIs 14 = .ok (.return_, 1) := by decide +kernel
theorem dX10_numberIs_15 : decode cX10_numberIs 15 = .ok (.aload_n 0, 1) := by decide +kernel
theorem dX10_numberIs_16 : decode cX10_numberIs 16 = .ok (.aload_n 0, 1) := by decide +kernel
theorem dX10_numberIs_17 : decode cX10_numberIs 17 = .ok (.getfield 361, 3) := by decide +kernel
theorem dX10_numberIs_20 : decode cX10_numberIs 20 = .ok (.iload_n 1, 1) := by decide +kernel
theorem dX10_numberIs_21 : decode cX10_numberIs 21 = .ok (.imul, 1) := by decide +kernel
theorem dX10_numberIs_22 : decode cX10_numberIs 22 = .ok (.invokevirtual 123, 3) := by decide +kernel
theorem dX10_numberIs_25 : decode cX10_numberIs 25 = .ok (.istore_n 2, 1) := by decide +kernel
theorem dX10_numberIs_26 : decode cX10_numberIs 26 = .ok (.aload_n 0, 1) := by decide +kernel
theorem dX10_numberIs_27 : decode cX10_numberIs 27 = .ok (.getfield 364, 3) := by decide +kernel
theorem dX10_numberIs_30 : decode cX10_numberIs 30 = .ok (.ifCond .eq 20, 3) := by decide +kernel
theorem dX10_numberIs_33 : decode cX10_numberIs 33 = .ok (.iload_n 2, 1) := by decide +kernel
theorem dX10_numberIs_34 : decode cX10_numberIs 34 = .ok (.iconst (-1), 1) := by decide +kernel
theorem dX10_numberIs_35 : decode cX10_numberIs 35 = .ok (.if_icmp .eq 15, 3) := by decide +kernel
theorem dX10_numberIs_38 : decode cX10_numberIs 38 = .ok (.aload_n 0, 1) := by decide +kernel
theorem dX10_numberIs_39 : decode cX10_numberIs 39 = .ok (.iload_n 2, 1) := by decide +kernel
theorem dX10_numberIs_40 : decode cX10_numberIs 40 = .ok (.aload_n 0, 1) := by decide +kernel
theorem dX10_numberIs_41 : decode cX10_numberIs 41 = .ok (.iload_n 1, 1) := by decide +kernel
theorem dX10_numberIs_42 : decode cX10_numberIs 42 = .ok (.ineg, 1) := by decide +kernel
theorem dX10_numberIs_43 : decode cX10_numberIs 43 = .ok (.invokevirtual 123, 3) := by decide +kernel
theorem dX10_numberIs_46 : decode cX10_numberIs 46 = .ok (.invokevirtual 382, 3) := by decide +kernel
theorem dX10_numberIs_49 : decode cX10_numberIs 49 = .ok (.istore_n 2, 1) := by decide +kernel
theorem dX10_numberIs_50 : decode cX10_numberIs 50 = .ok (.aload_n 0, 1) := by decide +kernel
theorem dX10_numberIs_51 : decode cX10_numberIs 51 = .ok (.iload_n 2, 1) := by decide +kernel
theorem dX10_numberIs_52 : decode cX10_numberIs 52 = .ok (.invokevirtual 376, 3) := by decide +kernel
theorem dX10_numberIs_55 : decode cX10_numberIs 55 = .ok (.return_, 1) := by decide +kernel
theorem dX10_nameIs_0 : decode cX10_nameIs 0 = .ok (.aload_n 0, 1) := by decide +kernel
theorem dX10_nameIs_1 : decode cX10_nameIs 1 = .ok (.getfield 328, 3) := by decide +kernel
theorem dX10_nameIs_4 : decode cX10_nameIs 4 = .ok (.ifCond .eq 10, 3) := by decide +kernel
theorem dX10_nameIs_7 : decode cX10_nameIs 7 = .ok (.aload_n 0, 1) := by decide +kernel
theorem dX10_nameIs_8 : decode cX10_nameIs 8 = .ok (.getfield 331, 3) := by decide +kernel
theorem dX10_nameIs_11 : decode cX10_nameIs 11 = .ok (.ifCond .eq 4, 3) := by decide +kernel
theorem dX10_nameIs_14 : decode cX10_nameIs 14 = .ok (.return_, 1) := by decide +kernel
theorem dX10_nameIs_15 : decode cX10_nameIs 15 = .ok (.aload_n 0, 1) := by decide +kernel
theorem dX10_nameIs_16 : decode cX10_nameIs 16 = .ok (.iconst 0, 1) := by decide +kernel
theorem dX10_nameIs_17 : decode cX10_nameIs 17 = .ok (.invokevirtual 123, 3) := by decide +kernel
theorem dX10_nameIs_20 : decode cX10_nameIs 20 = .ok (.istore_n 2, 1) := by decide +kernel
theorem dX10_nameIs_21 : decode cX10_nameIs 21 = .ok (.aload_n 0, 1) := by decide +kernel
theorem dX10_nameIs_22 : decode cX10_nameIs 22 = .ok (.iload_n 2, 1) := by decide +kernel
theorem dX10_nameIs_23 : decode cX10_nameIs 23 = .ok (.iload_n 2, 1) := by decide +kernel
theorem dX10_nameIs_24 : decode cX10_nameIs 24 = .ok (.invokevirtual 382, 3) := by decide +kernel
theorem dX10_nameIs_27 : decode cX10_nameIs 27 = .ok (.istore_n 3, 1) := by decide +kernel
theorem dX10_nameIs_28 : decode cX10_nameIs 28 = .ok (.aload_n 0, 1) := by decide +kernel
theorem dX10_nameIs_29 : decode cX10_nameIs 29 = .ok (.iload_n 1, 1) := by decide +kernel
theorem dX10_nameIs_30 : decode cX10_nameIs 30 = .ok (.iconst 1, 1) := by decide +kernel
theorem dX10_nameIs_31 : decode cX10_nameIs 31 = .ok (.if_icmp .ne 7, 3) := by decide +kernel
theorem dX10_nameIs_34 : decode cX10_nameIs 34 = .ok (.iload_n 3, 1) := by decide +kernel
theorem dX10_nameIs_35 : decode cX10_nameIs 35 = .ok (.goto 23, 3) := by decide +kernel
theorem dX10_nameIs_38 : decode cX10_nameIs 38 = .ok (.iload_n 1, 1) := by decide +kernel
theorem dX10_nameIs_39 : decode cX10_nameIs 39 = .ok (.iconst 2, 1) := by decide +kernel
theorem dX10_nameIs_40 : decode cX10_nameIs 40 = .ok (.if_icmp .ne 12, 3) := by decide +kernel
theorem dX10_nameIs_43 : decode cX10_nameIs 43 = .ok (.aload_n 0, 1) := by decide +kernel
theorem dX10_nameIs_44 : decode cX10_nameIs 44 = .ok (.iload_n 2, 1) := by decide +kernel
theorem dX10_nameIs_45 : decode cX10_nameIs 45 = .ok (.iload_n 3, 1) := by decide +kernel
theorem dX10_nameIs_46 : decode cX10_nameIs 46 = .ok (.invokevirtual 382, 3) := by decide +kernel
theorem dX10_nameIs_49 : decode cX10_nameIs 49 = .ok (.goto 9, 3) := by decide +kernel
theorem dX10_nameIs_52 : decode cX10_nameIs 52 = .ok (.aload_n 0, 1) := by decide +kernel
theorem dX10_nameIs_53 : decode cX10_nameIs 53 = .ok (.iload_n 3, 1) := by decide +kernel
theorem dX10_nameIs_54 : decode cX10_nameIs 54 = .ok (.iload_n 2, 1) := by decide +kernel
theorem dX10_nameIs_55 : decode cX10_nameIs 55 = .ok (.invokevirtual 382, 3) := by decide +kernel
theorem dX10_nameIs_58 : decode cX10_nameIs 58 = .ok (.invokevirtual 376, 3) := by decide +kernel
theorem dX10_nameIs_61 : decode cX10_nameIs 61 = .ok (.return_, 1) := by decide +kernel
theorem dX10_fault_0 : decode cX10_fault 0 = .ok (.aload_n 0, 1) := by decide +kernel
theorem dX10_fault_1 : decode cX10_fault 1 = .ok (.iconst 0, 1) := by decide +kernel
theorem dX10_fault_2 : decode cX10_fault 2 = .ok (.putfield 146, 3) := by decide +kernel
theorem dX10_fault_5 : decode cX10_fault 5 = .ok (.aload_n 0, 1) := by decide +kernel
theorem dX10_fault_6 : decode cX10_fault 6 = .ok (.iconst 0, 1) := by decide +kernel
theorem dX10_fault_7 : decode cX10_fault 7 = .ok (.invokevirtual 385, 3) := by decide +kernel
theorem dX10_fault_10 : decode cX10_fault 10 = .ok (.ireturn, 1) := by decide +kernel
theorem dX10_read_0 : decode cX10_read 0 = .ok (.aload_n 0, 1) := by decide +kernel
theorem dX10_read_1 : decode cX10_read 1 = .ok (.aload_n 0, 1) := by decide +kernel
theorem dX10_read_2 : decode cX10_read 2 = .ok (.iconst 0, 1) := by decide +kernel
theorem dX10_read_3 : decode cX10_read 3 = .ok (.invokevirtual 385, 3) := by decide +kernel
theorem dX10_read_6 : decode cX10_read 6 = .ok (.iconst (-1), 1) := by decide +kernel
theorem dX10_read_7 : decode cX10_read 7 = .ok (.if_icmp .ne 7, 3) := by decide +kernel
theorem dX10_read_10 : decode cX10_read 10 = .ok (.iconst 0, 1) := by decide +kernel
theorem dX10_read_11 : decode cX10_read 11 = .ok (.goto 4, 3) := by decide +kernel
theorem dX10_read_14 : decode cX10_read 14 = .ok (.iconst 1, 1) := by decide +kernel
theorem dX10_read_15 : decode cX10_read 15 = .ok (.invokevirtual 227, 3) := by decide +kernel
theorem dX10_read_18 : decode cX10_read 18 = .ok (.ifCond .eq 5, 3) := by decide +kernel
theorem dX10_read_21 : decode cX10_read 21 = .ok (.iconst 0, 1) := by decide +kernel
theorem dX10_read_22 : decode cX10_read 22 = .ok (.ireturn, 1) := by decide +kernel
theorem dX10_read_23 : decode cX10_read 23 = .ok (.aload_n 0, 1) := by decide +kernel
theorem dX10_read_24 : decode cX10_read 24 = .ok (.getfield 149, 3) := by decide +kernel
theorem dX10_read_27 : decode cX10_read 27 = .ok (.istore_n 1, 1) := by decide +kernel
theorem dX10_read_28 : decode cX10_read 28 = .ok (.aload_n 0, 1) := by decide +kernel
theorem dX10_read_29 : decode cX10_read 29 = .ok (.iconst 1, 1) := by decide +kernel
theorem dX10_read_30 : decode cX10_read 30 = .ok (.invokevirtual 385, 3) := by decide +kernel
theorem dX10_read_33 : decode cX10_read 33 = .ok (.pop, 1) := by decide +kernel
theorem dX10_read_34 : decode cX10_read 34 = .ok (.aload_n 0, 1) := by decide +kernel
theorem dX10_read_35 : decode cX10_read 35 = .ok (.iload_n 1, 1) := by decide +kernel
theorem dX10_read_36 : decode cX10_read 36 = .ok (.aload_n 0, 1) := by decide +kernel
theorem dX10_read_37 : decode cX10_read 37 = .ok (.getfield 331, 3) := by decide +kernel
theorem dX10_read_40 : decode cX10_read 40 = .ok (.ifCond .eq 7, 3) := by decide +kernel
theorem dX10_read_43 : decode cX10_read 43 = .ok (.iconst (-1), 1) := by decide +kernel
theorem dX10_read_44 : decode cX10_read 44 = .ok (.goto 7, 3) := by decide +kernel
theorem dX10_read_47 : decode cX10_read 47 = .ok (.aload_n 0, 1) := by decide +kernel
theorem dX10_read_48 : decode cX10_read 48 = .ok (.getfield 379, 3) := by decide +kernel
theorem dX10_read_51 : decode cX10_read 51 = .ok (.iconst 2, 1) := by decide +kernel
theorem dX10_read_52 : decode cX10_read 52 = .ok (.invokevirtual 233, 3) := by decide +kernel
theorem dX10_read_55 : decode cX10_read 55 = .ok (.ireturn, 1) := by decide +kernel
theorem dX10_writes_0 : decode cX10_writes 0 = .ok (.aload_n 0, 1) := by decide +kernel
theorem dX10_writes_1 : decode cX10_writes 1 = .ok (.getfield 389, 3) := by decide +kernel
theorem dX10_writes_4 : decode cX10_writes 4 = .ok (.sipush 400, 3) := by decide +kernel
theorem dX10_writes_7 : decode cX10_writes 7 = .ok (.if_icmp .gt 13, 3) := by decide +kernel
theorem dX10_writes_10 : decode cX10_writes 10 = .ok (.aload_n 0, 1) := by decide +kernel
theorem dX10_writes_11 : decode cX10_writes 11 = .ok (.getfield 72, 3) := by decide +kernel
theorem dX10_writes_14 : decode cX10_writes 14 = .ok (.aload_n 0, 1) := by decide +kernel
theorem dX10_writes_15 : decode cX10_writes 15 = .ok (.getfield 389, 3) := by decide +kernel
theorem dX10_writes_18 : decode cX10_writes 18 = .ok (.iload_n 1, 1) := by decide +kernel
theorem dX10_writes_19 : decode cX10_writes 19 = .ok (.iastore, 1) := by decide +kernel
theorem dX10_writes_20 : decode cX10_writes 20 = .ok (.aload_n 0, 1) := by decide +kernel
theorem dX10_writes_21 : decode cX10_writes 21 = .ok (.aload_n 0, 1) := by decide +kernel
theorem dX10_writes_22 : decode cX10_writes 22 = .ok (.getfield 389, 3) := by decide +kernel
theorem dX10_writes_25 : decode cX10_writes 25 = .ok (.sipush 400, 3) := by decide +kernel
theorem dX10_writes_28 : decode cX10_writes 28 = .ok (.if_icmp .gt 12, 3) := by decide +kernel
theorem dX10_writes_31 : decode cX10_writes 31 = .ok (.aload_n 0, 1) := by decide +kernel
theorem dX10_writes_32 : decode cX10_writes 32 = .ok (.getfield 389, 3) := by decide +kernel
theorem dX10_writes_35 : decode cX10_writes 35 = .ok (.iconst 1, 1) := by decide +kernel
theorem dX10_writes_36 : decode cX10_writes 36 = .ok (.iadd, 1) := by decide +kernel
theorem dX10_writes_37 : decode cX10_writes 37 = .ok (.goto 7, 3) := by decide +kernel
theorem dX10_writes_40 : decode cX10_writes 40 = .ok (.aload_n 0, 1) := by decide +kernel
theorem dX10_writes_41 : decode cX10_writes 41 = .ok (.getfield 389, 3) := by decide +kernel
theorem dX10_writes_44 : decode cX10_writes 44 = .ok (.putfield 389, 3) := by decide +kernel
theorem dX10_writes_47 : decode cX10_writes 47 = .ok (.return_, 1) := by decide +kernel
theorem dX10_writesWhole_0 : decode cX10_writesWhole 0 = .ok (.iload_n 1, 1) := by decide +kernel
theorem dX10_writesWhole_1 : decode cX10_writesWhole 1 = .ok (.bipush 9, 2) := by decide +kernel
theorem dX10_writesWhole_3 : decode cX10_writesWhole 3 = .ok (.if_icmp .le 14, 3) := by decide +kernel
theorem dX10_writesWhole_6 : decode cX10_writesWhole 6 = .ok (.aload_n 0, 1) := by decide +kernel
theorem dX10_writesWhole_7 : decode cX10_writesWhole 7 = .ok (.bipush 48, 2) := by decide +kernel
theorem dX10_writesWhole_9 : decode cX10_writesWhole 9 = .ok (.iload_n 1, 1) := by decide +kernel
theorem dX10_writesWhole_10 : decode cX10_writesWhole 10 = .ok (.bipush 10, 2) := by decide +kernel
theorem dX10_writesWhole_12 : decode cX10_writesWhole 12 = .ok (.idiv, 1) := by decide +kernel
theorem dX10_writesWhole_13 : decode cX10_writesWhole 13 = .ok (.iadd, 1) := by decide +kernel
theorem dX10_writesWhole_14 : decode cX10_writesWhole 14 = .ok (.invokevirtual 392, 3) := by decide +kernel
theorem dX10_writesWhole_17 : decode cX10_writesWhole 17 = .ok (.aload_n 0, 1) := by decide +kernel
theorem dX10_writesWhole_18 : decode cX10_writesWhole 18 = .ok (.bipush 48, 2) := by decide +kernel
theorem dX10_writesWhole_20 : decode cX10_writesWhole 20 = .ok (.iload_n 1, 1) := by decide +kernel
theorem dX10_writesWhole_21 : decode cX10_writesWhole 21 = .ok (.bipush 10, 2) := by decide +kernel
theorem dX10_writesWhole_23 : decode cX10_writesWhole 23 = .ok (.irem, 1) := by decide +kernel
theorem dX10_writesWhole_24 : decode cX10_writesWhole 24 = .ok (.iadd, 1) := by decide +kernel
theorem dX10_writesWhole_25 : decode cX10_writesWhole 25 = .ok (.invokevirtual 392, 3) := by decide +kernel
theorem dX10_writesWhole_28 : decode cX10_writesWhole 28 = .ok (.return_, 1) := by decide +kernel
theorem dX10_writesNumber_0 : decode cX10_writesNumber 0 = .ok (.iload_n 1, 1) := by decide +kernel
theorem dX10_writesNumber_1 : decode cX10_writesNumber 1 = .ok (.ifCond .ge 8, 3) := by decide +kernel
theorem dX10_writesNumber_4 : decode cX10_writesNumber 4 = .ok (.iload_n 1, 1) := by decide +kernel
theorem dX10_writesNumber_5 : decode cX10_writesNumber 5 = .ok (.ineg, 1) := by decide +kernel
theorem dX10_writesNumber_6 : decode cX10_writesNumber 6 = .ok (.goto 4, 3) := by decide +kernel
theorem dX10_writesNumber_9 : decode cX10_writesNumber 9 = .ok (.iload_n 1, 1) := by decide +kernel
theorem dX10_writesNumber_10 : decode cX10_writesNumber 10 = .ok (.istore_n 2, 1) := by decide +kernel
theorem dX10_writesNumber_11 : decode cX10_writesNumber 11 = .ok (.bipush 8, 2) := by decide +kernel
theorem dX10_writesNumber_13 : decode cX10_writesNumber 13 = .ok (.istore_n 3, 1) := by decide +kernel
theorem dX10_writesNumber_14 : decode cX10_writesNumber 14 = .ok (.iload_n 3, 1) := by decide +kernel
theorem dX10_writesNumber_15 : decode cX10_writesNumber 15 = .ok (.iconst 1, 1) := by decide +kernel
theorem dX10_writesNumber_16 : decode cX10_writesNumber 16 = .ok (.if_icmp .le 20, 3) := by decide +kernel
theorem dX10_writesNumber_19 : decode cX10_writesNumber 19 = .ok (.iload_n 2, 1) := by decide +kernel
theorem dX10_writesNumber_20 : decode cX10_writesNumber 20 = .ok (.iconst 2, 1) := by decide +kernel
theorem dX10_writesNumber_21 : decode cX10_writesNumber 21 = .ok (.irem, 1) := by decide +kernel
theorem dX10_writesNumber_22 : decode cX10_writesNumber 22 = .ok (.ifCond .ne 14, 3) := by decide +kernel
theorem dX10_writesNumber_25 : decode cX10_writesNumber 25 = .ok (.iload_n 2, 1) := by decide +kernel
theorem dX10_writesNumber_26 : decode cX10_writesNumber 26 = .ok (.iconst 2, 1) := by decide +kernel
theorem dX10_writesNumber_27 : decode cX10_writesNumber 27 = .ok (.idiv, 1) := by decide +kernel
theorem dX10_writesNumber_28 : decode cX10_writesNumber 28 = .ok (.istore_n 2, 1) := by decide +kernel
theorem dX10_writesNumber_29 : decode cX10_writesNumber 29 = .ok (.iload_n 3, 1) := by decide +kernel
theorem dX10_writesNumber_30 : decode cX10_writesNumber 30 = .ok (.iconst 2, 1) := by decide +kernel
theorem dX10_writesNumber_31 : decode cX10_writesNumber 31 = .ok (.idiv, 1) := by decide +kernel
theorem dX10_writesNumber_32 : decode cX10_writesNumber 32 = .ok (.istore_n 3, 1) := by decide +kernel
theorem dX10_writesNumber_33 : decode cX10_writesNumber 33 = .ok (.goto (-19), 3) := by decide +kernel
theorem dX10_writesNumber_36 : decode cX10_writesNumber 36 = .ok (.iload_n 1, 1) := by decide +kernel
theorem dX10_writesNumber_37 : decode cX10_writesNumber 37 = .ok (.ifCond .ge 9, 3) := by decide +kernel
theorem dX10_writesNumber_40 : decode cX10_writesNumber 40 = .ok (.aload_n 0, 1) := by decide +kernel
theorem dX10_writesNumber_41 : decode cX10_writesNumber 41 = .ok (.bipush 45, 2) := by decide +kernel
theorem dX10_writesNumber_43 : decode cX10_writesNumber 43 = .ok (.invokevirtual 392, 3) := by decide +kernel
theorem dX10_writesNumber_46 : decode cX10_writesNumber 46 = .ok (.aload_n 0, 1) := by decide +kernel
theorem dX10_writesNumber_47 : decode cX10_writesNumber 47 = .ok (.iload_n 2, 1) := by decide +kernel
theorem dX10_writesNumber_48 : decode cX10_writesNumber 48 = .ok (.invokevirtual 395, 3) := by decide +kernel
theorem dX10_writesNumber_51 : decode cX10_writesNumber 51 = .ok (.iload_n 3, 1) := by decide +kernel
theorem dX10_writesNumber_52 : decode cX10_writesNumber 52 = .ok (.iconst 1, 1) := by decide +kernel
theorem dX10_writesNumber_53 : decode cX10_writesNumber 53 = .ok (.if_icmp .le 14, 3) := by decide +kernel
theorem dX10_writesNumber_56 : decode cX10_writesNumber 56 = .ok (.aload_n 0, 1) := by decide +kernel
theorem dX10_writesNumber_57 : decode cX10_writesNumber 57 = .ok (.bipush 47, 2) := by decide +kernel
theorem dX10_writesNumber_59 : decode cX10_writesNumber 59 = .ok (.invokevirtual 392, 3) := by decide +kernel
theorem dX10_writesNumber_62 : decode cX10_writesNumber 62 = .ok (.aload_n 0, 1) := by decide +kernel
theorem dX10_writesNumber_63 : decode cX10_writesNumber 63 = .ok (.iload_n 3, 1) := by decide +kernel
theorem dX10_writesNumber_64 : decode cX10_writesNumber 64 = .ok (.invokevirtual 395, 3) := by decide +kernel
theorem dX10_writesNumber_67 : decode cX10_writesNumber 67 = .ok (.return_, 1) := by decide +kernel
theorem dX10_writesGame_0 : decode cX10_writesGame 0 = .ok (.aload_n 0, 1) := by decide +kernel
theorem dX10_writesGame_1 : decode cX10_writesGame 1 = .ok (.iconst 0, 1) := by decide +kernel
theorem dX10_writesGame_2 : decode cX10_writesGame 2 = .ok (.putfield 389, 3) := by decide +kernel
theorem dX10_writesGame_5 : decode cX10_writesGame 5 = .ok (.iconst 0, 1) := by decide +kernel
theorem dX10_writesGame_6 : decode cX10_writesGame 6 = .ok (.istore_n 2, 1) := by decide +kernel
theorem dX10_writesGame_7 : decode cX10_writesGame 7 = .ok (.aload_n 0, 1) := by decide +kernel
theorem dX10_writesGame_8 : decode cX10_writesGame 8 = .ok (.getfield 114, 3) := by decide +kernel
theorem dX10_writesGame_11 : decode cX10_writesGame 11 = .ok (.iconst 0, 1) := by decide +kernel
theorem dX10_writesGame_12 : decode cX10_writesGame 12 = .ok (.iload_n 1, 1) := by decide +kernel
theorem dX10_writesGame_13 : decode cX10_writesGame 13 = .ok (.iastore, 1) := by decide +kernel
theorem dX10_writesGame_14 : decode cX10_writesGame 14 = .ok (.aload_n 0, 1) := by decide +kernel
theorem dX10_writesGame_15 : decode cX10_writesGame 15 = .ok (.getfield 117, 3) := by decide +kernel
theorem dX10_writesGame_18 : decode cX10_writesGame 18 = .ok (.iconst 0, 1) := by decide +kernel
theorem dX10_writesGame_19 : decode cX10_writesGame 19 = .ok (.iconst 0, 1) := by decide +kernel
theorem dX10_writesGame_20 : decode cX10_writesGame 20 = .ok (.iastore, 1) := by decide +kernel
theorem dX10_writesGame_21 : decode cX10_writesGame 21 = .ok (.iload_n 2, 1) := by decide +kernel
theorem dX10_writesGame_22 : decode cX10_writesGame 22 = .ok (.ifCond .lt 195, 3) := by decide +kernel
theorem dX10_writesGame_25 : decode cX10_writesGame 25 = .ok (.aload_n 0, 1) := by decide +kernel
theorem dX10_writesGame_26 : decode cX10_writesGame 26 = .ok (.getfield 389, 3) := by decide +kernel
theorem dX10_writesGame_29 : decode cX10_writesGame 29 = .ok (.sipush 400, 3) := by decide +kernel
theorem dX10_writesGame_32 : decode cX10_writesGame 32 = .ok (.if_icmp .gt 185, 3) := by decide +kernel
theorem dX10_writesGame_35 : decode cX10_writesGame 35 = .ok (.aload_n 0, 1) := by decide +kernel
theorem dX10_writesGame_36 : decode cX10_writesGame 36 = .ok (.getfield 114, 3) := by decide +kernel
theorem dX10_writesGame_39 : decode cX10_writesGame 39 = .ok (.iload_n 2, 1) := by decide +kernel
theorem dX10_writesGame_40 : decode cX10_writesGame 40 = .ok (.iaload, 1) := by decide +kernel
theorem dX10_writesGame_41 : decode cX10_writesGame 41 = .ok (.istore_n 3, 1) := by decide +kernel
theorem dX10_writesGame_42 : decode cX10_writesGame 42 = .ok (.aload_n 0, 1) := by decide +kernel
theorem dX10_writesGame_43 : decode cX10_writesGame 43 = .ok (.getfield 117, 3) := by decide +kernel
theorem dX10_writesGame_46 : decode cX10_writesGame 46 = .ok (.iload_n 2, 1) := by decide +kernel
theorem dX10_writesGame_47 : decode cX10_writesGame 47 = .ok (.iaload, 1) := by decide +kernel
theorem dX10_writesGame_48 : decode cX10_writesGame 48 = .ok (.istore 4, 2) := by decide +kernel
theorem dX10_writesGame_50 : decode cX10_writesGame 50 = .ok (.aload_n 0, 1) := by decide +kernel
theorem dX10_writesGame_51 : decode cX10_writesGame 51 = .ok (.iload_n 3, 1) := by decide +kernel
theorem dX10_writesGame_52 : decode cX10_writesGame 52 = .ok (.iconst 0, 1) := by decide +kernel
theorem dX10_writesGame_53 : decode cX10_writesGame 53 = .ok (.invokevirtual 164, 3) := by decide +kernel
theorem dX10_writesGame_56 : decode cX10_writesGame 56 = .ok (.istore 5, 2) := by decide +kernel
theorem dX10_writesGame_58 : decode cX10_writesGame 58 = .ok (.iload 5, 2) := by decide +kernel
theorem dX10_writesGame_60 : decode cX10_writesGame 60 = .ok (.aload_n 0, 1) := by decide +kernel
theorem dX10_writesGame_61 : decode cX10_writesGame 61 = .ok (.iload_n 3, 1) := by decide +kernel
theorem dX10_writesGame_62 : decode cX10_writesGame 62 = .ok (.iconst 1, 1) := by decide +kernel
theorem dX10_writesGame_63 : decode cX10_writesGame 63 = .ok (.invokevirtual 164, 3) := by decide +kernel
theorem dX10_writesGame_66 : decode cX10_writesGame 66 = .ok (.iadd, 1) := by decide +kernel
theorem dX10_writesGame_67 : decode cX10_writesGame 67 = .ok (.istore 6, 2) := by decide +kernel
theorem dX10_writesGame_69 : decode cX10_writesGame 69 = .ok (.aload_n 0, 1) := by decide +kernel
theorem dX10_writesGame_70 : decode cX10_writesGame 70 = .ok (.getfield 117, 3) := by decide +kernel
theorem dX10_writesGame_73 : decode cX10_writesGame 73 = .ok (.iload_n 2, 1) := by decide +kernel
theorem dX10_writesGame_74 : decode cX10_writesGame 74 = .ok (.dup2, 1) := by decide +kernel
theorem dX10_writesGame_75 : decode cX10_writesGame 75 = .ok (.iaload, 1) := by decide +kernel
theorem dX10_writesGame_76 : decode cX10_writesGame 76 = .ok (.iconst 1, 1) := by decide +kernel
theorem dX10_writesGame_77 : decode cX10_writesGame 77 = .ok (.iadd, 1) := by decide +kernel
theorem dX10_writesGame_78 : decode cX10_writesGame 78 = .ok (.iastore, 1) := by decide +kernel
theorem dX10_writesGame_79 : decode cX10_writesGame 79 = .ok (.aload_n 0, 1) := by decide +kernel
theorem dX10_writesGame_80 : decode cX10_writesGame 80 = .ok (.getfield 7, 3) := by decide +kernel
theorem dX10_writesGame_83 : decode cX10_writesGame 83 = .ok (.iload_n 3, 1) := by decide +kernel
theorem dX10_writesGame_84 : decode cX10_writesGame 84 = .ok (.baload, 1) := by decide +kernel
theorem dX10_writesGame_85 : decode cX10_writesGame 85 = .ok (.ifCond .eq 23, 3) := by decide +kernel
theorem dX10_writesGame_88 : decode cX10_writesGame 88 = .ok (.aload_n 0, 1) := by decide +kernel
theorem dX10_writesGame_89 : decode cX10_writesGame 89 = .ok (.aload_n 0, 1) := by decide +kernel
theorem dX10_writesGame_90 : decode cX10_writesGame 90 = .ok (.getfield 13, 3) := by decide +kernel
theorem dX10_writesGame_93 : decode cX10_writesGame 93 = .ok (.iload_n 3, 1) := by decide +kernel
theorem dX10_writesGame_94 : decode cX10_writesGame 94 = .ok (.iaload, 1) := by decide +kernel
theorem dX10_writesGame_95 : decode cX10_writesGame 95 = .ok (.sipush 128, 3) := by decide +kernel
theorem dX10_writesGame_98 : decode cX10_writesGame 98 = .ok (.idiv, 1) := by decide +kernel
theorem dX10_writesGame_99 : decode cX10_writesGame 99 = .ok (.invokevirtual 398, 3) := by decide +kernel
theorem dX10_writesGame_102 : decode cX10_writesGame 102 = .ok (.iinc 2 (-1), 3) := by decide +kernel
theorem dX10_writesGame_105 : decode cX10_writesGame 105 = .ok (.goto 109, 3) := by decide +kernel
theorem dX10_writesGame_108 : decode cX10_writesGame 108 = .ok (.iload 4, 2) := by decide +kernel
theorem dX10_writesGame_110 : decode cX10_writesGame 110 = .ok (.ifCond .ne 9, 3) := by decide +kernel
theorem dX10_writesGame_113 : decode cX10_writesGame 113 = .ok (.aload_n 0, 1) := by decide +kernel
theorem dX10_writesGame_114 : decode cX10_writesGame 114 = .ok (.bipush 123, 2) := by decide +kernel
theorem dX10_writesGame_116 : decode cX10_writesGame 116 = .ok (.invokevirtual 392, 3) := by decide +kernel
theorem dX10_writesGame_119 : decode cX10_writesGame 119 = .ok (.iload 4, 2) := by decide +kernel
theorem dX10_writesGame_121 : decode cX10_writesGame 121 = .ok (.iload 5, 2) := by decide +kernel
theorem dX10_writesGame_123 : decode cX10_writesGame 123 = .ok (.if_icmp .ne 9, 3) := by decide +kernel
theorem dX10_writesGame_126 : decode cX10_writesGame 126 = .ok (.aload_n 0, 1) := by decide +kernel
theorem dX10_writesGame_127 : decode cX10_writesGame 127 = .ok (.bipush 124, 2) := by decide +kernel
theorem dX10_writesGame_129 : decode cX10_writesGame 129 = .ok (.invokevirtual 392, 3) := by decide +kernel
theorem dX10_writesGame_132 : decode cX10_writesGame 132 = .ok (.iload 4, 2) := by decide +kernel
theorem dX10_writesGame_134 : decode cX10_writesGame 134 = .ok (.iload 6, 2) := by decide +kernel
theorem dX10_writesGame_136 : decode cX10_writesGame 136 = .ok (.if_icmp .ne 15, 3) := by decide +kernel
theorem dX10_writesGame_139 : decode cX10_writesGame 139 = .ok (.aload_n 0, 1) := by decide +kernel
theorem dX10_writesGame_140 : decode cX10_writesGame 140 = .ok (.bipush 125, 2) := by decide +kernel
theorem dX10_writesGame_142 : decode cX10_writesGame 142 = .ok (.invokevirtual 392, 3) := by decide +kernel
theorem dX10_writesGame_145 : decode cX10_writesGame 145 = .ok (.iinc 2 (-1), 3) := by decide +kernel
theorem dX10_writesGame_148 : decode cX10_writesGame 148 = .ok (.goto 66, 3) := by decide +kernel
theorem dX10_writesGame_151 : decode cX10_writesGame 151 = .ok (.iload 4, 2) := by decide +kernel
theorem dX10_writesGame_153 : decode cX10_writesGame 153 = .ok (.ifCond .le 16, 3) := by decide +kernel
theorem dX10_writesGame_156 : decode cX10_writesGame 156 = .ok (.iload 4, 2) := by decide +kernel
theorem dX10_writesGame_158 : decode cX10_writesGame 158 = .ok (.iload 5, 2) := by decide +kernel
theorem dX10_writesGame_160 : decode cX10_writesGame 160 = .ok (.if_icmp .eq 9, 3) := by decide +kernel
theorem dX10_writesGame_163 : decode cX10_writesGame 163 = .ok (.aload_n 0, 1) := by decide +kernel
theorem dX10_writesGame_164 : decode cX10_writesGame 164 = .ok (.bipush 44, 2) := by decide +kernel
theorem dX10_writesGame_166 : decode cX10_writesGame 166 = .ok (.invokevirtual 392, 3) := by decide +kernel
theorem dX10_writesGame_169 : decode cX10_writesGame 169 = .ok (.iinc 2 1, 3) := by decide +kernel
theorem dX10_writesGame_172 : decode cX10_writesGame 172 = .ok (.aload_n 0, 1) := by decide +kernel
theorem dX10_writesGame_173 : decode cX10_writesGame 173 = .ok (.getfield 114, 3) := by decide +kernel
theorem dX10_writesGame_176 : decode cX10_writesGame 176 = .ok (.iload_n 2, 1) := by decide +kernel
theorem dX10_writesGame_177 : decode cX10_writesGame 177 = .ok (.iload 4, 2) := by decide +kernel
theorem dX10_writesGame_179 : decode cX10_writesGame 179 = .ok (.iload 5, 2) := by decide +kernel
theorem dX10_writesGame_181 : decode cX10_writesGame 181 = .ok (.if_icmp .ge 14, 3) := by decide +kernel
theorem dX10_writesGame_184 : decode cX10_writesGame 184 = .ok (.aload_n 0, 1) := by decide +kernel
theorem dX10_writesGame_185 : decode cX10_writesGame 185 = .ok (.iload_n 3, 1) := by decide +kernel
theorem dX10_writesGame_186 : decode cX10_writesGame 186 = .ok (.iconst 0, 1) := by decide +kernel
theorem dX10_writesGame_187 : decode cX10_writesGame 187 = .ok (.iload 4, 2) := by decide +kernel
theorem dX10_writesGame_189 : decode cX10_writesGame 189 = .ok (.invokevirtual 167, 3) := by decide +kernel
theorem dX10_writesGame_192 : decode cX10_writesGame 192 = .ok (.goto 14, 3) := by decide +kernel
theorem dX10_writesGame_195 : decode cX10_writesGame 195 = .ok (.aload_n 0, 1) := by decide +kernel
theorem dX10_writesGame_196 : decode cX10_writesGame 196 = .ok (.iload_n 3, 1) := by decide +kernel
theorem dX10_writesGame_197 : decode cX10_writesGame 197 = .ok (.iconst 1, 1) := by decide +kernel
theorem dX10_writesGame_198 : decode cX10_writesGame 198 = .ok (.iload 4, 2) := by decide +kernel
theorem dX10_writesGame_200 : decode cX10_writesGame 200 = .ok (.iload 5, 2) := by decide +kernel
theorem dX10_writesGame_202 : decode cX10_writesGame 202 = .ok (.isub, 1) := by decide +kernel
theorem dX10_writesGame_203 : decode cX10_writesGame 203 = .ok (.invokevirtual 167, 3) := by decide +kernel
theorem dX10_writesGame_206 : decode cX10_writesGame 206 = .ok (.iastore, 1) := by decide +kernel
theorem dX10_writesGame_207 : decode cX10_writesGame 207 = .ok (.aload_n 0, 1) := by decide +kernel
theorem dX10_writesGame_208 : decode cX10_writesGame 208 = .ok (.getfield 117, 3) := by decide +kernel
theorem dX10_writesGame_211 : decode cX10_writesGame 211 = .ok (.iload_n 2, 1) := by decide +kernel
theorem dX10_writesGame_212 : decode cX10_writesGame 212 = .ok (.iconst 0, 1) := by decide +kernel
theorem dX10_writesGame_213 : decode cX10_writesGame 213 = .ok (.iastore, 1) := by decide +kernel
theorem dX10_writesGame_214 : decode cX10_writesGame 214 = .ok (.goto (-193), 3) := by decide +kernel
theorem dX10_writesGame_217 : decode cX10_writesGame 217 = .ok (.return_, 1) := by decide +kernel
theorem dX10_write_0 : decode cX10_write 0 = .ok (.aload_n 0, 1) := by decide +kernel
theorem dX10_write_1 : decode cX10_write 1 = .ok (.iload_n 1, 1) := by decide +kernel
theorem dX10_write_2 : decode cX10_write 2 = .ok (.invokevirtual 236, 3) := by decide +kernel
theorem dX10_write_5 : decode cX10_write 5 = .ok (.istore_n 2, 1) := by decide +kernel
theorem dX10_write_6 : decode cX10_write 6 = .ok (.iload_n 2, 1) := by decide +kernel
theorem dX10_write_7 : decode cX10_write 7 = .ok (.ifCond .eq 8, 3) := by decide +kernel
theorem dX10_write_10 : decode cX10_write 10 = .ok (.aload_n 0, 1) := by decide +kernel
theorem dX10_write_11 : decode cX10_write 11 = .ok (.iload_n 1, 1) := by decide +kernel
theorem dX10_write_12 : decode cX10_write 12 = .ok (.invokevirtual 401, 3) := by decide +kernel
theorem dX10_write_15 : decode cX10_write 15 = .ok (.aload_n 0, 1) := by decide +kernel
theorem dX10_write_16 : decode cX10_write 16 = .ok (.iload_n 2, 1) := by decide +kernel
theorem dX10_write_17 : decode cX10_write 17 = .ok (.ifCond .ne 7, 3) := by decide +kernel
theorem dX10_write_20 : decode cX10_write 20 = .ok (.iconst 1, 1) := by decide +kernel
theorem dX10_write_21 : decode cX10_write 21 = .ok (.goto 18, 3) := by decide +kernel
theorem dX10_write_24 : decode cX10_write 24 = .ok (.aload_n 0, 1) := by decide +kernel
theorem dX10_write_25 : decode cX10_write 25 = .ok (.getfield 389, 3) := by decide +kernel
theorem dX10_write_28 : decode cX10_write 28 = .ok (.sipush 400, 3) := by decide +kernel
theorem dX10_write_31 : decode cX10_write 31 = .ok (.if_icmp .le 7, 3) := by decide +kernel
theorem dX10_write_34 : decode cX10_write 34 = .ok (.iconst 2, 1) := by decide +kernel
theorem dX10_write_35 : decode cX10_write 35 = .ok (.goto 4, 3) := by decide +kernel
theorem dX10_write_38 : decode cX10_write 38 = .ok (.iconst 0, 1) := by decide +kernel
theorem dX10_write_39 : decode cX10_write 39 = .ok (.invokevirtual 227, 3) := by decide +kernel
theorem dX10_write_42 : decode cX10_write 42 = .ok (.ifCond .eq 5, 3) := by decide +kernel
theorem dX10_write_45 : decode cX10_write 45 = .ok (.iconst 0, 1) := by decide +kernel
theorem dX10_write_46 : decode cX10_write 46 = .ok (.ireturn, 1) := by decide +kernel
theorem dX10_write_47 : decode cX10_write 47 = .ok (.aload_n 0, 1) := by decide +kernel
theorem dX10_write_48 : decode cX10_write 48 = .ok (.aload_n 0, 1) := by decide +kernel
theorem dX10_write_49 : decode cX10_write 49 = .ok (.getfield 389, 3) := by decide +kernel
theorem dX10_write_52 : decode cX10_write 52 = .ok (.putfield 404, 3) := by decide +kernel
theorem dX10_write_55 : decode cX10_write 55 = .ok (.iconst 0, 1) := by decide +kernel
theorem dX10_write_56 : decode cX10_write 56 = .ok (.istore_n 3, 1) := by decide +kernel
theorem dX10_write_57 : decode cX10_write 57 = .ok (.iload_n 3, 1) := by decide +kernel
theorem dX10_write_58 : decode cX10_write 58 = .ok (.aload_n 0, 1) := by decide +kernel
theorem dX10_write_59 : decode cX10_write 59 = .ok (.getfield 404, 3) := by decide +kernel
theorem dX10_write_62 : decode cX10_write 62 = .ok (.if_icmp .ge 21, 3) := by decide +kernel
theorem dX10_write_65 : decode cX10_write 65 = .ok (.aload_n 0, 1) := by decide +kernel
theorem dX10_write_66 : decode cX10_write 66 = .ok (.getfield 120, 3) := by decide +kernel
theorem dX10_write_69 : decode cX10_write 69 = .ok (.iload_n 3, 1) := by decide +kernel
theorem dX10_write_70 : decode cX10_write 70 = .ok (.aload_n 0, 1) := by decide +kernel
theorem dX10_write_71 : decode cX10_write 71 = .ok (.getfield 72, 3) := by decide +kernel
theorem dX10_write_74 : decode cX10_write 74 = .ok (.iload_n 3, 1) := by decide +kernel
theorem dX10_write_75 : decode cX10_write 75 = .ok (.iaload, 1) := by decide +kernel
theorem dX10_write_76 : decode cX10_write 76 = .ok (.iastore, 1) := by decide +kernel
theorem dX10_write_77 : decode cX10_write 77 = .ok (.iinc 3 1, 3) := by decide +kernel
theorem dX10_write_80 : decode cX10_write 80 = .ok (.goto (-23), 3) := by decide +kernel
theorem dX10_write_83 : decode cX10_write 83 = .ok (.aload_n 0, 1) := by decide +kernel
theorem dX10_write_84 : decode cX10_write 84 = .ok (.getfield 404, 3) := by decide +kernel
theorem dX10_write_87 : decode cX10_write 87 = .ok (.ireturn, 1) := by decide +kernel
theorem dX10_written_0 : decode cX10_written 0 = .ok (.aload_n 0, 1) := by decide +kernel
theorem dX10_written_1 : decode cX10_written 1 = .ok (.iconst 0, 1) := by decide +kernel
theorem dX10_written_2 : decode cX10_written 2 = .ok (.putfield 146, 3) := by decide +kernel
theorem dX10_written_5 : decode cX10_written 5 = .ok (.iload_n 1, 1) := by decide +kernel
theorem dX10_written_6 : decode cX10_written 6 = .ok (.iconst 0, 1) := by decide +kernel
theorem dX10_written_7 : decode cX10_written 7 = .ok (.aload_n 0, 1) := by decide +kernel
theorem dX10_written_8 : decode cX10_written 8 = .ok (.getfield 404, 3) := by decide +kernel
theorem dX10_written_11 : decode cX10_written 11 = .ok (.iconst 1, 1) := by decide +kernel
theorem dX10_written_12 : decode cX10_written 12 = .ok (.isub, 1) := by decide +kernel
theorem dX10_written_13 : decode cX10_written 13 = .ok (.invokestatic 152, 3) := by decide +kernel
theorem dX10_written_16 : decode cX10_written 16 = .ok (.ifCond .eq 12, 3) := by decide +kernel
theorem dX10_written_19 : decode cX10_written 19 = .ok (.aload_n 0, 1) := by decide +kernel
theorem dX10_written_20 : decode cX10_written 20 = .ok (.getfield 120, 3) := by decide +kernel
theorem dX10_written_23 : decode cX10_written 23 = .ok (.iload_n 1, 1) := by decide +kernel
theorem dX10_written_24 : decode cX10_written 24 = .ok (.iaload, 1) := by decide +kernel
theorem dX10_written_25 : decode cX10_written 25 = .ok (.goto 4, 3) := by decide +kernel
theorem dX10_written_28 : decode cX10_written 28 = .ok (.iconst (-1), 1) := by decide +kernel
theorem dX10_written_29 : decode cX10_written 29 = .ok (.ireturn, 1) := by decide +kernel
theorem dX10_mix_0 : decode cX10_mix 0 = .ok (.aload_n 0, 1) := by decide +kernel
theorem dX10_mix_1 : decode cX10_mix 1 = .ok (.ldc2_w 407, 3) := by decide +kernel
theorem dX10_mix_4 : decode cX10_mix 4 = .ok (.aload_n 0, 1) := by decide +kernel
theorem dX10_mix_5 : decode cX10_mix 5 = .ok (.getfield 409, 3) := by decide +kernel
theorem dX10_mix_8 : decode cX10_mix 8 = .ok (.lmul, 1) := by decide +kernel
theorem dX10_mix_9 : decode cX10_mix 9 = .ok (.lload_n 1, 1) := by decide +kernel
theorem dX10_mix_10 : decode cX10_mix 10 = .ok (.ladd, 1) := by decide +kernel
theorem dX10_mix_11 : decode cX10_mix 11 = .ok (.putfield 409, 3) := by decide +kernel
theorem dX10_mix_14 : decode cX10_mix 14 = .ok (.return_, 1) := by decide +kernel
theorem dX10_checksum_0 : decode cX10_checksum 0 = .ok (.aload_n 0, 1) := by decide +kernel
theorem dX10_checksum_1 : decode cX10_checksum 1 = .ok (.iconst 0, 1) := by decide +kernel
theorem dX10_checksum_2 : decode cX10_checksum 2 = .ok (.putfield 146, 3) := by decide +kernel
theorem dX10_checksum_5 : decode cX10_checksum 5 = .ok (.aload_n 0, 1) := by decide +kernel
theorem dX10_checksum_6 : decode cX10_checksum 6 = .ok (.ldc2_w 413, 3) := by decide +kernel
theorem dX10_checksum_9 : decode cX10_checksum 9 = .ok (.putfield 409, 3) := by decide +kernel
theorem dX10_checksum_12 : decode cX10_checksum 12 = .ok (.aload_n 0, 1) := by decide +kernel
theorem dX10_checksum_13 : decode cX10_checksum 13 = .ok (.aload_n 0, 1) := by decide +kernel
theorem dX10_checksum_14 : decode cX10_checksum 14 = .ok (.getfield 149, 3) := by decide +kernel
theorem dX10_checksum_17 : decode cX10_checksum 17 = .ok (.i2l, 1) := by decide +kernel
theorem dX10_checksum_18 : decode cX10_checksum 18 = .ok (.invokevirtual 415, 3) := by decide +kernel
theorem dX10_checksum_21 : decode cX10_checksum 21 = .ok (.iconst 0, 1) := by decide +kernel
theorem dX10_checksum_22 : decode cX10_checksum 22 = .ok (.istore_n 1, 1) := by decide +kernel
theorem dX10_checksum_23 : decode cX10_checksum 23 = .ok (.iload_n 1, 1) := by decide +kernel
theorem dX10_checksum_24 : decode cX10_checksum 24 = .ok (.aload_n 0, 1) := by decide +kernel
theorem dX10_checksum_25 : decode cX10_checksum 25 = .ok (.getfield 149, 3) := by decide +kernel
theorem dX10_checksum_28 : decode cX10_checksum 28 = .ok (.if_icmp .ge 131, 3) := by decide +kernel
theorem dX10_checksum_31 : decode cX10_checksum 31 = .ok (.aload_n 0, 1) := by decide +kernel
theorem dX10_checksum_32 : decode cX10_checksum 32 = .ok (.aload_n 0, 1) := by decide +kernel
theorem dX10_checksum_33 : decode cX10_checksum 33 = .ok (.getfield 23, 3) := by decide +kernel
theorem dX10_checksum_36 : decode cX10_checksum 36 = .ok (.iload_n 1, 1) := by decide +kernel
theorem dX10_checksum_37 : decode cX10_checksum 37 = .ok (.iaload, 1) := by decide +kernel
theorem dX10_checksum_38 : decode cX10_checksum 38 = .ok (.i2l, 1) := by decide +kernel
theorem dX10_checksum_39 : decode cX10_checksum 39 = .ok (.invokevirtual 415, 3) := by decide +kernel
theorem dX10_checksum_42 : decode cX10_checksum 42 = .ok (.aload_n 0, 1) := by decide +kernel
theorem dX10_checksum_43 : decode cX10_checksum 43 = .ok (.aload_n 0, 1) := by decide +kernel
theorem dX10_checksum_44 : decode cX10_checksum 44 = .ok (.iload_n 1, 1) := by decide +kernel
theorem dX10_checksum_45 : decode cX10_checksum 45 = .ok (.iconst 0, 1) := by decide +kernel
theorem dX10_checksum_46 : decode cX10_checksum 46 = .ok (.invokevirtual 164, 3) := by decide +kernel
theorem dX10_checksum_49 : decode cX10_checksum 49 = .ok (.i2l, 1) := by decide +kernel
theorem dX10_checksum_50 : decode cX10_checksum 50 = .ok (.invokevirtual 415, 3) := by decide +kernel
theorem dX10_checksum_53 : decode cX10_checksum 53 = .ok (.aload_n 0, 1) := by decide +kernel
theorem dX10_checksum_54 : decode cX10_checksum 54 = .ok (.aload_n 0, 1) := by decide +kernel
theorem dX10_checksum_55 : decode cX10_checksum 55 = .ok (.iload_n 1, 1) := by decide +kernel
theorem dX10_checksum_56 : decode cX10_checksum 56 = .ok (.iconst 1, 1) := by decide +kernel
theorem dX10_checksum_57 : decode cX10_checksum 57 = .ok (.invokevirtual 164, 3) := by decide +kernel
theorem dX10_checksum_60 : decode cX10_checksum 60 = .ok (.i2l, 1) := by decide +kernel
theorem dX10_checksum_61 : decode cX10_checksum 61 = .ok (.invokevirtual 415, 3) := by decide +kernel
theorem dX10_checksum_64 : decode cX10_checksum 64 = .ok (.iconst 0, 1) := by decide +kernel
theorem dX10_checksum_65 : decode cX10_checksum 65 = .ok (.istore_n 2, 1) := by decide +kernel
theorem dX10_checksum_66 : decode cX10_checksum 66 = .ok (.iload_n 2, 1) := by decide +kernel
theorem dX10_checksum_67 : decode cX10_checksum 67 = .ok (.iconst 2, 1) := by decide +kernel
theorem dX10_checksum_68 : decode cX10_checksum 68 = .ok (.if_icmp .ge 39, 3) := by decide +kernel
theorem dX10_checksum_71 : decode cX10_checksum 71 = .ok (.iconst 0, 1) := by decide +kernel
theorem dX10_checksum_72 : decode cX10_checksum 72 = .ok (.istore_n 3, 1) := by decide +kernel
theorem dX10_checksum_73 : decode cX10_checksum 73 = .ok (.iload_n 3, 1) := by decide +kernel
theorem dX10_checksum_74 : decode cX10_checksum 74 = .ok (.aload_n 0, 1) := by decide +kernel
theorem dX10_checksum_75 : decode cX10_checksum 75 = .ok (.iload_n 1, 1) := by decide +kernel
theorem dX10_checksum_76 : decode cX10_checksum 76 = .ok (.iload_n 2, 1) := by decide +kernel
theorem dX10_checksum_77 : decode cX10_checksum 77 = .ok (.invokevirtual 164, 3) := by decide +kernel
theorem dX10_checksum_80 : decode cX10_checksum 80 = .ok (.if_icmp .ge 21, 3) := by decide +kernel
theorem dX10_checksum_83 : decode cX10_checksum 83 = .ok (.aload_n 0, 1) := by decide +kernel
theorem dX10_checksum_84 : decode cX10_checksum 84 = .ok (.aload_n 0, 1) := by decide +kernel
theorem dX10_checksum_85 : decode cX10_checksum 85 = .ok (.iload_n 1, 1) := by decide +kernel
theorem dX10_checksum_86 : decode cX10_checksum 86 = .ok (.iload_n 2, 1) := by decide +kernel
theorem dX10_checksum_87 : decode cX10_checksum 87 = .ok (.iload_n 3, 1) := by decide +kernel
theorem dX10_checksum_88 : decode cX10_checksum 88 = .ok (.invokevirtual 167, 3) := by decide +kernel
theorem dX10_checksum_91 : decode cX10_checksum 91 = .ok (.i2l, 1) := by decide +kernel
theorem dX10_checksum_92 : decode cX10_checksum 92 = .ok (.invokevirtual 415, 3) := by decide +kernel
theorem dX10_checksum_95 : decode cX10_checksum 95 = .ok (.iinc 3 1, 3) := by decide +kernel
theorem dX10_checksum_98 : decode cX10_checksum 98 = .ok (.goto (-25), 3) := by decide +kernel
theorem dX10_checksum_101 : decode cX10_checksum 101 = .ok (.iinc 2 1, 3) := by decide +kernel
theorem dX10_checksum_104 : decode cX10_checksum 104 = .ok (.goto (-38), 3) := by decide +kernel
theorem dX10_checksum_107 : decode cX10_checksum 107 = .ok (.aload_n 0, 1) := by decide +kernel
theorem dX10_checksum_108 : decode cX10_checksum 108 = .ok (.aload_n 0, 1) := by decide +kernel
theorem dX10_checksum_109 : decode cX10_checksum 109 = .ok (.getfield 47, 3) := by decide +kernel
theorem dX10_checksum_112 : decode cX10_checksum 112 = .ok (.iload_n 1, 1) := by decide +kernel
theorem dX10_checksum_113 : decode cX10_checksum 113 = .ok (.iaload, 1) := by decide +kernel
theorem dX10_checksum_114 : decode cX10_checksum 114 = .ok (.i2l, 1) := by decide +kernel
theorem dX10_checksum_115 : decode cX10_checksum 115 = .ok (.invokevirtual 415, 3) := by decide +kernel
theorem dX10_checksum_118 : decode cX10_checksum 118 = .ok (.aload_n 0, 1) := by decide +kernel
theorem dX10_checksum_119 : decode cX10_checksum 119 = .ok (.aload_n 0, 1) := by decide +kernel
theorem dX10_checksum_120 : decode cX10_checksum 120 = .ok (.getfield 50, 3) := by decide +kernel
theorem dX10_checksum_123 : decode cX10_checksum 123 = .ok (.iload_n 1, 1) := by decide +kernel
theorem dX10_checksum_124 : decode cX10_checksum 124 = .ok (.iaload, 1) := by decide +kernel
theorem dX10_checksum_125 : decode cX10_checksum 125 = .ok (.i2l, 1) := by decide +kernel
theorem dX10_checksum_126 : decode cX10_checksum 126 = .ok (.invokevirtual 415, 3) := by decide +kernel
theorem dX10_checksum_129 : decode cX10_checksum 129 = .ok (.aload_n 0, 1) := by decide +kernel
theorem dX10_checksum_130 : decode cX10_checksum 130 = .ok (.aload_n 0, 1) := by decide +kernel
theorem dX10_checksum_131 : decode cX10_checksum 131 = .ok (.iload_n 1, 1) := by decide +kernel
theorem dX10_checksum_132 : decode cX10_checksum 132 = .ok (.iconst 0, 1) := by decide +kernel
theorem dX10_checksum_133 : decode cX10_checksum 133 = .ok (.iconst 0, 1) := by decide +kernel
theorem dX10_checksum_134 : decode cX10_checksum 134 = .ok (.invokevirtual 214, 3) := by decide +kernel
theorem dX10_checksum_137 : decode cX10_checksum 137 = .ok (.i2l, 1) := by decide +kernel
theorem dX10_checksum_138 : decode cX10_checksum 138 = .ok (.invokevirtual 415, 3) := by decide +kernel
theorem dX10_checksum_141 : decode cX10_checksum 141 = .ok (.aload_n 0, 1) := by decide +kernel
theorem dX10_checksum_142 : decode cX10_checksum 142 = .ok (.aload_n 0, 1) := by decide +kernel
theorem dX10_checksum_143 : decode cX10_checksum 143 = .ok (.iload_n 1, 1) := by decide +kernel
theorem dX10_checksum_144 : decode cX10_checksum 144 = .ok (.iconst 1, 1) := by decide +kernel
theorem dX10_checksum_145 : decode cX10_checksum 145 = .ok (.iconst 0, 1) := by decide +kernel
theorem dX10_checksum_146 : decode cX10_checksum 146 = .ok (.invokevirtual 214, 3) := by decide +kernel
theorem dX10_checksum_149 : decode cX10_checksum 149 = .ok (.i2l, 1) := by decide +kernel
theorem dX10_checksum_150 : decode cX10_checksum 150 = .ok (.invokevirtual 415, 3) := by decide +kernel
theorem dX10_checksum_153 : decode cX10_checksum 153 = .ok (.iinc 1 1, 3) := by decide +kernel
theorem dX10_checksum_156 : decode cX10_checksum 156 = .ok (.goto (-133), 3) := by decide +kernel
theorem dX10_checksum_159 : decode cX10_checksum 159 = .ok (.aload_n 0, 1) := by decide +kernel
theorem dX10_checksum_160 : decode cX10_checksum 160 = .ok (.aload_n 0, 1) := by decide +kernel
theorem dX10_checksum_161 : decode cX10_checksum 161 = .ok (.getfield 142, 3) := by decide +kernel
theorem dX10_checksum_164 : decode cX10_checksum 164 = .ok (.i2l, 1) := by decide +kernel
theorem dX10_checksum_165 : decode cX10_checksum 165 = .ok (.invokevirtual 415, 3) := by decide +kernel
theorem dX10_checksum_168 : decode cX10_checksum 168 = .ok (.iconst 0, 1) := by decide +kernel
theorem dX10_checksum_169 : decode cX10_checksum 169 = .ok (.istore_n 1, 1) := by decide +kernel
theorem dX10_checksum_170 : decode cX10_checksum 170 = .ok (.iload_n 1, 1) := by decide +kernel
theorem dX10_checksum_171 : decode cX10_checksum 171 = .ok (.aload_n 0, 1) := by decide +kernel
theorem dX10_checksum_172 : decode cX10_checksum 172 = .ok (.getfield 142, 3) := by decide +kernel
theorem dX10_checksum_175 : decode cX10_checksum 175 = .ok (.if_icmp .ge 20, 3) := by decide +kernel
theorem dX10_checksum_178 : decode cX10_checksum 178 = .ok (.aload_n 0, 1) := by decide +kernel
theorem dX10_checksum_179 : decode cX10_checksum 179 = .ok (.aload_n 0, 1) := by decide +kernel
theorem dX10_checksum_180 : decode cX10_checksum 180 = .ok (.getfield 57, 3) := by decide +kernel
theorem dX10_checksum_183 : decode cX10_checksum 183 = .ok (.iload_n 1, 1) := by decide +kernel
theorem dX10_checksum_184 : decode cX10_checksum 184 = .ok (.iaload, 1) := by decide +kernel
theorem dX10_checksum_185 : decode cX10_checksum 185 = .ok (.i2l, 1) := by decide +kernel
theorem dX10_checksum_186 : decode cX10_checksum 186 = .ok (.invokevirtual 415, 3) := by decide +kernel
theorem dX10_checksum_189 : decode cX10_checksum 189 = .ok (.iinc 1 1, 3) := by decide +kernel
theorem dX10_checksum_192 : decode cX10_checksum 192 = .ok (.goto (-22), 3) := by decide +kernel
theorem dX10_checksum_195 : decode cX10_checksum 195 = .ok (.aload_n 0, 1) := by decide +kernel
theorem dX10_checksum_196 : decode cX10_checksum 196 = .ok (.aload_n 0, 1) := by decide +kernel
theorem dX10_checksum_197 : decode cX10_checksum 197 = .ok (.getfield 299, 3) := by decide +kernel
theorem dX10_checksum_200 : decode cX10_checksum 200 = .ok (.i2l, 1) := by decide +kernel
theorem dX10_checksum_201 : decode cX10_checksum 201 = .ok (.invokevirtual 415, 3) := by decide +kernel
theorem dX10_checksum_204 : decode cX10_checksum 204 = .ok (.aload_n 0, 1) := by decide +kernel
theorem dX10_checksum_205 : decode cX10_checksum 205 = .ok (.aload_n 0, 1) := by decide +kernel
theorem dX10_checksum_206 : decode cX10_checksum 206 = .ok (.getfield 63, 3) := by decide +kernel
theorem dX10_checksum_209 : decode cX10_checksum 209 = .ok (.iconst 0, 1) := by decide +kernel
theorem dX10_checksum_210 : decode cX10_checksum 210 = .ok (.iaload, 1) := by decide +kernel
theorem dX10_checksum_211 : decode cX10_checksum 211 = .ok (.i2l, 1) := by decide +kernel
theorem dX10_checksum_212 : decode cX10_checksum 212 = .ok (.invokevirtual 415, 3) := by decide +kernel
theorem dX10_checksum_215 : decode cX10_checksum 215 = .ok (.aload_n 0, 1) := by decide +kernel
theorem dX10_checksum_216 : decode cX10_checksum 216 = .ok (.aload_n 0, 1) := by decide +kernel
theorem dX10_checksum_217 : decode cX10_checksum 217 = .ok (.getfield 63, 3) := by decide +kernel
theorem dX10_checksum_220 : decode cX10_checksum 220 = .ok (.iconst 1, 1) := by decide +kernel
theorem dX10_checksum_221 : decode cX10_checksum 221 = .ok (.iaload, 1) := by decide +kernel
theorem dX10_checksum_222 : decode cX10_checksum 222 = .ok (.i2l, 1) := by decide +kernel
theorem dX10_checksum_223 : decode cX10_checksum 223 = .ok (.invokevirtual 415, 3) := by decide +kernel
theorem dX10_checksum_226 : decode cX10_checksum 226 = .ok (.aload_n 0, 1) := by decide +kernel
theorem dX10_checksum_227 : decode cX10_checksum 227 = .ok (.aload_n 0, 1) := by decide +kernel
theorem dX10_checksum_228 : decode cX10_checksum 228 = .ok (.getfield 224, 3) := by decide +kernel
theorem dX10_checksum_231 : decode cX10_checksum 231 = .ok (.i2l, 1) := by decide +kernel
theorem dX10_checksum_232 : decode cX10_checksum 232 = .ok (.invokevirtual 415, 3) := by decide +kernel
theorem dX10_checksum_235 : decode cX10_checksum 235 = .ok (.aload_n 0, 1) := by decide +kernel
theorem dX10_checksum_236 : decode cX10_checksum 236 = .ok (.getfield 409, 3) := by decide +kernel
theorem dX10_checksum_239 : decode cX10_checksum 239 = .ok (.lreturn, 1) := by decide +kernel
