/-! ===== decoding: put, format, cell ===== -/
theorem dX0_put_0 : decode cX0_put 0 = .ok (.aload_n 0, 1) := by decide +kernel
theorem dX0_put_1 : decode cX0_put 1 = .ok (.getfield 9, 3) := by decide +kernel
theorem dX0_put_4 : decode cX0_put 4 = .ok (.iload_n 1, 1) := by decide +kernel
theorem dX0_put_5 : decode cX0_put 5 = .ok (.bipush 63, 2) := by decide +kernel
theorem dX0_put_7 : decode cX0_put 7 = .ok (.iand, 1) := by decide +kernel
theorem dX0_put_8 : decode cX0_put 8 = .ok (.bipush 8, 2) := by decide +kernel
theorem dX0_put_10 : decode cX0_put 10 = .ok (.imul, 1) := by decide +kernel
theorem dX0_put_11 : decode cX0_put 11 = .ok (.iload_n 2, 1) := by decide +kernel
theorem dX0_put_12 : decode cX0_put 12 = .ok (.bipush 7, 2) := by decide +kernel
theorem dX0_put_14 : decode cX0_put 14 = .ok (.iand, 1) := by decide +kernel
theorem dX0_put_15 : decode cX0_put 15 = .ok (.iadd, 1) := by decide +kernel
theorem dX0_put_16 : decode cX0_put 16 = .ok (.iload_n 3, 1) := by decide +kernel
theorem dX0_put_17 : decode cX0_put 17 = .ok (.iastore, 1) := by decide +kernel
theorem dX0_put_18 : decode cX0_put 18 = .ok (.return_, 1) := by decide +kernel
theorem dX0_format_0 : decode cX0_format 0 = .ok (.iconst 0, 1) := by decide +kernel
theorem dX0_format_1 : decode cX0_format 1 = .ok (.istore_n 2, 1) := by decide +kernel
theorem dX0_format_2 : decode cX0_format 2 = .ok (.iload_n 2, 1) := by decide +kernel
theorem dX0_format_3 : decode cX0_format 3 = .ok (.sipush 512, 3) := by decide +kernel
theorem dX0_format_6 : decode cX0_format 6 = .ok (.if_icmp .ge 16, 3) := by decide +kernel
theorem dX0_format_9 : decode cX0_format 9 = .ok (.aload_n 0, 1) := by decide +kernel
theorem dX0_format_10 : decode cX0_format 10 = .ok (.getfield 9, 3) := by decide +kernel
theorem dX0_format_13 : decode cX0_format 13 = .ok (.iload_n 2, 1) := by decide +kernel
theorem dX0_format_14 : decode cX0_format 14 = .ok (.iconst 0, 1) := by decide +kernel
theorem dX0_format_15 : decode cX0_format 15 = .ok (.iastore, 1) := by decide +kernel
theorem dX0_format_16 : decode cX0_format 16 = .ok (.iinc 2 1, 3) := by decide +kernel
theorem dX0_format_19 : decode cX0_format 19 = .ok (.goto (-17), 3) := by decide +kernel
theorem dX0_format_22 : decode cX0_format 22 = .ok (.aload_n 0, 1) := by decide +kernel
theorem dX0_format_23 : decode cX0_format 23 = .ok (.iconst 0, 1) := by decide +kernel
theorem dX0_format_24 : decode cX0_format 24 = .ok (.iconst 0, 1) := by decide +kernel
theorem dX0_format_25 : decode cX0_format 25 = .ok (.sipush 7001, 3) := by decide +kernel
theorem dX0_format_28 : decode cX0_format 28 = .ok (.invokevirtual 25, 3) := by decide +kernel
theorem dX0_format_31 : decode cX0_format 31 = .ok (.aload_n 0, 1) := by decide +kernel
theorem dX0_format_32 : decode cX0_format 32 = .ok (.iconst 0, 1) := by decide +kernel
theorem dX0_format_33 : decode cX0_format 33 = .ok (.iconst 1, 1) := by decide +kernel
theorem dX0_format_34 : decode cX0_format 34 = .ok (.iconst 1, 1) := by decide +kernel
theorem dX0_format_35 : decode cX0_format 35 = .ok (.invokevirtual 25, 3) := by decide +kernel
theorem dX0_format_38 : decode cX0_format 38 = .ok (.aload_n 0, 1) := by decide +kernel
theorem dX0_format_39 : decode cX0_format 39 = .ok (.iconst 0, 1) := by decide +kernel
theorem dX0_format_40 : decode cX0_format 40 = .ok (.iconst 2, 1) := by decide +kernel
theorem dX0_format_41 : decode cX0_format 41 = .ok (.iload_n 1, 1) := by decide +kernel
theorem dX0_format_42 : decode cX0_format 42 = .ok (.invokevirtual 25, 3) := by decide +kernel
theorem dX0_format_45 : decode cX0_format 45 = .ok (.aload_n 0, 1) := by decide +kernel
theorem dX0_format_46 : decode cX0_format 46 = .ok (.iconst 0, 1) := by decide +kernel
theorem dX0_format_47 : decode cX0_format 47 = .ok (.iconst 3, 1) := by decide +kernel
theorem dX0_format_48 : decode cX0_format 48 = .ok (.iconst 3, 1) := by decide +kernel
theorem dX0_format_49 : decode cX0_format 49 = .ok (.invokevirtual 25, 3) := by decide +kernel
theorem dX0_format_52 : decode cX0_format 52 = .ok (.aload_n 0, 1) := by decide +kernel
theorem dX0_format_53 : decode cX0_format 53 = .ok (.iconst 0, 1) := by decide +kernel
theorem dX0_format_54 : decode cX0_format 54 = .ok (.iconst 4, 1) := by decide +kernel
theorem dX0_format_55 : decode cX0_format 55 = .ok (.iconst 1, 1) := by decide +kernel
theorem dX0_format_56 : decode cX0_format 56 = .ok (.invokevirtual 25, 3) := by decide +kernel
theorem dX0_format_59 : decode cX0_format 59 = .ok (.aload_n 0, 1) := by decide +kernel
theorem dX0_format_60 : decode cX0_format 60 = .ok (.iconst 1, 1) := by decide +kernel
theorem dX0_format_61 : decode cX0_format 61 = .ok (.iconst 0, 1) := by decide +kernel
theorem dX0_format_62 : decode cX0_format 62 = .ok (.iconst 2, 1) := by decide +kernel
theorem dX0_format_63 : decode cX0_format 63 = .ok (.invokevirtual 25, 3) := by decide +kernel
theorem dX0_format_66 : decode cX0_format 66 = .ok (.iconst 0, 1) := by decide +kernel
theorem dX0_format_67 : decode cX0_format 67 = .ok (.istore_n 2, 1) := by decide +kernel
theorem dX0_format_68 : decode cX0_format 68 = .ok (.iload_n 2, 1) := by decide +kernel
theorem dX0_format_69 : decode cX0_format 69 = .ok (.iconst 3, 1) := by decide +kernel
theorem dX0_format_70 : decode cX0_format 70 = .ok (.if_icmp .gt 16, 3) := by decide +kernel
theorem dX0_format_73 : decode cX0_format 73 = .ok (.aload_n 0, 1) := by decide +kernel
theorem dX0_format_74 : decode cX0_format 74 = .ok (.iconst 2, 1) := by decide +kernel
theorem dX0_format_75 : decode cX0_format 75 = .ok (.iload_n 2, 1) := by decide +kernel
theorem dX0_format_76 : decode cX0_format 76 = .ok (.iconst 1, 1) := by decide +kernel
theorem dX0_format_77 : decode cX0_format 77 = .ok (.invokevirtual 25, 3) := by decide +kernel
theorem dX0_format_80 : decode cX0_format 80 = .ok (.iinc 2 1, 3) := by decide +kernel
theorem dX0_format_83 : decode cX0_format 83 = .ok (.goto (-15), 3) := by decide +kernel
theorem dX0_format_86 : decode cX0_format 86 = .ok (.return_, 1) := by decide +kernel
theorem dL_cell_0 : decode cL_cell 0 = .ok (.iload_n 1, 1) := by decide +kernel
theorem dL_cell_1 : decode cL_cell 1 = .ok (.aload_n 0, 1) := by decide +kernel
theorem dL_cell_2 : decode cL_cell 2 = .ok (.arraylength, 1) := by decide +kernel
theorem dL_cell_3 : decode cL_cell 3 = .ok (.if_icmp .ge 9, 3) := by decide +kernel
theorem dL_cell_6 : decode cL_cell 6 = .ok (.aload_n 0, 1) := by decide +kernel
theorem dL_cell_7 : decode cL_cell 7 = .ok (.iload_n 1, 1) := by decide +kernel
theorem dL_cell_8 : decode cL_cell 8 = .ok (.iaload, 1) := by decide +kernel
theorem dL_cell_9 : decode cL_cell 9 = .ok (.goto 4, 3) := by decide +kernel
theorem dL_cell_12 : decode cL_cell 12 = .ok (.iconst 0, 1) := by decide +kernel
theorem dL_cell_13 : decode cL_cell 13 = .ok (.ireturn, 1) := by decide +kernel
