theorem dX9_colourOf_19 : decode cX9_colourOf 19 = .ok (.ireturn, 1) := by decide +kernel
theorem dX9_colourOf_20 : decode cX9_colourOf 20 = .ok (.aload_n 3, 1) := by decide +kernel
theorem dX9_colourOf_21 : decode cX9_colourOf 21 = .ok (.getfield 102, 3) := by decide +kernel
theorem dX9_colourOf_24 : decode cX9_colourOf 24 = .ok (.iload_n 2, 1) := by decide +kernel
theorem dX9_colourOf_25 : decode cX9_colourOf 25 = .ok (.iaload, 1) := by decide +kernel
theorem dX9_colourOf_26 : decode cX9_colourOf 26 = .ok (.ireturn, 1) := by decide +kernel
theorem dX9_index_0 : decode cX9_index 0 = .ok (.aload_n 0, 1) := by decide +kernel
theorem dX9_index_1 : decode cX9_index 1 = .ok (.getfield 32, 3) := by decide +kernel
theorem dX9_index_4 : decode cX9_index 4 = .ok (.iload_n 1, 1) := by decide +kernel
theorem dX9_index_5 : decode cX9_index 5 = .ok (.invokevirtual 121, 3) := by decide +kernel
theorem dX9_index_8 : decode cX9_index 8 = .ok (.astore_n 3, 1) := by decide +kernel
theorem dX9_index_9 : decode cX9_index 9 = .ok (.aload_n 3, 1) := by decide +kernel
theorem dX9_index_10 : decode cX9_index 10 = .ok (.ifnull 15, 3) := by decide +kernel
theorem dX9_index_13 : decode cX9_index 13 = .ok (.iload_n 2, 1) := by decide +kernel
theorem dX9_index_14 : decode cX9_index 14 = .ok (.ifCond .lt 11, 3) := by decide +kernel
theorem dX9_index_17 : decode cX9_index 17 = .ok (.iload_n 2, 1) := by decide +kernel
theorem dX9_index_18 : decode cX9_index 18 = .ok (.aload_n 3, 1) := by decide +kernel
theorem dX9_index_19 : decode cX9_index 19 = .ok (.invokevirtual 138, 3) := by decide +kernel
theorem dX9_index_22 : decode cX9_index 22 = .ok (.if_icmp .lt 5, 3) := by decide +kernel
theorem dX9_index_25 : decode cX9_index 25 = .ok (.iconst (-1), 1) := by decide +kernel
theorem dX9_index_26 : decode cX9_index 26 = .ok (.ireturn, 1) := by decide +kernel
theorem dX9_index_27 : decode cX9_index 27 = .ok (.aload_n 3, 1) := by decide +kernel
theorem dX9_index_28 : decode cX9_index 28 = .ok (.getfield 203, 3) := by decide +kernel
theorem dX9_index_31 : decode cX9_index 31 = .ok (.iload_n 2, 1) := by decide +kernel
theorem dX9_index_32 : decode cX9_index 32 = .ok (.iaload, 1) := by decide +kernel
theorem dX9_index_33 : decode cX9_index 33 = .ok (.ireturn, 1) := by decide +kernel
theorem dX9_canvas_0 : decode cX9_canvas 0 = .ok (.aload_n 0, 1) := by decide +kernel
theorem dX9_canvas_1 : decode cX9_canvas 1 = .ok (.getfield 32, 3) := by decide +kernel
theorem dX9_canvas_4 : decode cX9_canvas 4 = .ok (.iload_n 1, 1) := by decide +kernel
theorem dX9_canvas_5 : decode cX9_canvas 5 = .ok (.invokevirtual 121, 3) := by decide +kernel
theorem dX9_canvas_8 : decode cX9_canvas 8 = .ok (.ifnull 33, 3) := by decide +kernel
theorem dX9_canvas_11 : decode cX9_canvas 11 = .ok (.iload_n 2, 1) := by decide +kernel
theorem dX9_canvas_12 : decode cX9_canvas 12 = .ok (.ifCond .lt 29, 3) := by decide +kernel
theorem dX9_canvas_15 : decode cX9_canvas 15 = .ok (.iload_n 2, 1) := by decide +kernel
theorem dX9_canvas_16 : decode cX9_canvas 16 = .ok (.aload_n 0, 1) := by decide +kernel
theorem dX9_canvas_17 : decode cX9_canvas 17 = .ok (.getfield 32, 3) := by decide +kernel
theorem dX9_canvas_20 : decode cX9_canvas 20 = .ok (.getfield 160, 3) := by decide +kernel
theorem dX9_canvas_23 : decode cX9_canvas 23 = .ok (.if_icmp .ge 18, 3) := by decide +kernel
theorem dX9_canvas_26 : decode cX9_canvas 26 = .ok (.iload_n 3, 1) := by decide +kernel
theorem dX9_canvas_27 : decode cX9_canvas 27 = .ok (.ifCond .lt 14, 3) := by decide +kernel
theorem dX9_canvas_30 : decode cX9_canvas 30 = .ok (.iload_n 3, 1) := by decide +kernel
theorem dX9_canvas_31 : decode cX9_canvas 31 = .ok (.aload_n 0, 1) := by decide +kernel
theorem dX9_canvas_32 : decode cX9_canvas 32 = .ok (.getfield 32, 3) := by decide +kernel
theorem dX9_canvas_35 : decode cX9_canvas 35 = .ok (.getfield 163, 3) := by decide +kernel
theorem dX9_canvas_38 : decode cX9_canvas 38 = .ok (.if_icmp .lt 6, 3) := by decide +kernel
theorem dX9_canvas_41 : decode cX9_canvas 41 = .ok (.bipush (-2), 2) := by decide +kernel
theorem dX9_canvas_43 : decode cX9_canvas 43 = .ok (.ireturn, 1) := by decide +kernel
theorem dX9_canvas_44 : decode cX9_canvas 44 = .ok (.aload_n 0, 1) := by decide +kernel
theorem dX9_canvas_45 : decode cX9_canvas 45 = .ok (.getfield 32, 3) := by decide +kernel
theorem dX9_canvas_48 : decode cX9_canvas 48 = .ok (.iload_n 1, 1) := by decide +kernel
theorem dX9_canvas_49 : decode cX9_canvas 49 = .ok (.iload_n 2, 1) := by decide +kernel
theorem dX9_canvas_50 : decode cX9_canvas 50 = .ok (.iload_n 3, 1) := by decide +kernel
theorem dX9_canvas_51 : decode cX9_canvas 51 = .ok (.invokevirtual 206, 3) := by decide +kernel
theorem dX9_canvas_54 : decode cX9_canvas 54 = .ok (.ireturn, 1) := by decide +kernel
theorem dX9_tableAt_0 : decode cX9_tableAt 0 = .ok (.iload_n 1, 1) := by decide +kernel
theorem dX9_tableAt_1 : decode cX9_tableAt 1 = .ok (.iconst (-1), 1) := by decide +kernel
theorem dX9_tableAt_2 : decode cX9_tableAt 2 = .ok (.if_icmp .ne 11, 3) := by decide +kernel
theorem dX9_tableAt_5 : decode cX9_tableAt 5 = .ok (.aload_n 0, 1) := by decide +kernel
theorem dX9_tableAt_6 : decode cX9_tableAt 6 = .ok (.getfield 32, 3) := by decide +kernel
theorem dX9_tableAt_9 : decode cX9_tableAt 9 = .ok (.getfield 166, 3) := by decide +kernel
theorem dX9_tableAt_12 : decode cX9_tableAt 12 = .ok (.areturn, 1) := by decide +kernel
theorem dX9_tableAt_13 : decode cX9_tableAt 13 = .ok (.aload_n 0, 1) := by decide +kernel
theorem dX9_tableAt_14 : decode cX9_tableAt 14 = .ok (.getfield 32, 3) := by decide +kernel
theorem dX9_tableAt_17 : decode cX9_tableAt 17 = .ok (.iload_n 1, 1) := by decide +kernel
theorem dX9_tableAt_18 : decode cX9_tableAt 18 = .ok (.invokevirtual 121, 3) := by decide +kernel
theorem dX9_tableAt_21 : decode cX9_tableAt 21 = .ok (.astore_n 2, 1) := by decide +kernel
theorem dX9_tableAt_22 : decode cX9_tableAt 22 = .ok (.aload_n 2, 1) := by decide +kernel
theorem dX9_tableAt_23 : decode cX9_tableAt 23 = .ok (.ifnonnull 7, 3) := by decide +kernel
theorem dX9_tableAt_26 : decode cX9_tableAt 26 = .ok (.aconst_null, 1) := by decide +kernel
theorem dX9_tableAt_27 : decode cX9_tableAt 27 = .ok (.goto 7, 3) := by decide +kernel
theorem dX9_tableAt_30 : decode cX9_tableAt 30 = .ok (.aload_n 2, 1) := by decide +kernel
theorem dX9_tableAt_31 : decode cX9_tableAt 31 = .ok (.getfield 185, 3) := by decide +kernel
theorem dX9_tableAt_34 : decode cX9_tableAt 34 = .ok (.areturn, 1) := by decide +kernel
theorem dX9_isSide_0 : decode cX9_isSide 0 = .ok (.iload_n 0, 1) := by decide +kernel
theorem dX9_isSide_1 : decode cX9_isSide 1 = .ok (.iconst 1, 1) := by decide +kernel
theorem dX9_isSide_2 : decode cX9_isSide 2 = .ok (.if_icmp .lt 13, 3) := by decide +kernel
theorem dX9_isSide_5 : decode cX9_isSide 5 = .ok (.iload_n 0, 1) := by decide +kernel
theorem dX9_isSide_6 : decode cX9_isSide 6 = .ok (.bipush 64, 2) := by decide +kernel
theorem dX9_isSide_8 : decode cX9_isSide 8 = .ok (.if_icmp .gt 7, 3) := by decide +kernel
theorem dX9_isSide_11 : decode cX9_isSide 11 = .ok (.iconst 1, 1) := by decide +kernel
theorem dX9_isSide_12 : decode cX9_isSide 12 = .ok (.goto 4, 3) := by decide +kernel
theorem dX9_isSide_15 : decode cX9_isSide 15 = .ok (.iconst 0, 1) := by decide +kernel
theorem dX9_isSide_16 : decode cX9_isSide 16 = .ok (.ireturn, 1) := by decide +kernel
theorem dX9_isByte_0 : decode cX9_isByte 0 = .ok (.iload_n 0, 1) := by decide +kernel
theorem dX9_isByte_1 : decode cX9_isByte 1 = .ok (.ifCond .lt 14, 3) := by decide +kernel
theorem dX9_isByte_4 : decode cX9_isByte 4 = .ok (.iload_n 0, 1) := by decide +kernel
theorem dX9_isByte_5 : decode cX9_isByte 5 = .ok (.sipush 255, 3) := by decide +kernel
theorem dX9_isByte_8 : decode cX9_isByte 8 = .ok (.if_icmp .gt 7, 3) := by decide +kernel
theorem dX9_isByte_11 : decode cX9_isByte 11 = .ok (.iconst 1, 1) := by decide +kernel
theorem dX9_isByte_12 : decode cX9_isByte 12 = .ok (.goto 4, 3) := by decide +kernel
theorem dX9_isByte_15 : decode cX9_isByte 15 = .ok (.iconst 0, 1) := by decide +kernel
theorem dX9_isByte_16 : decode cX9_isByte 16 = .ok (.ireturn, 1) := by decide +kernel
theorem dX9_isTableSize_0 : decode cX9_isTableSize 0 = .ok (.iload_n 0, 1) := by decide +kernel
theorem dX9_isTableSize_1 : decode cX9_isTableSize 1 = .ok (.ifCond .eq 23, 3) := by decide +kernel
theorem dX9_isTableSize_4 : decode cX9_isTableSize 4 = .ok (.iload_n 0, 1) := by decide +kernel
theorem dX9_isTableSize_5 : decode cX9_isTableSize 5 = .ok (.iconst 2, 1) := by decide +kernel
theorem dX9_isTableSize_6 : decode cX9_isTableSize 6 = .ok (.if_icmp .lt 22, 3) := by decide +kernel
theorem dX9_isTableSize_9 : decode cX9_isTableSize 9 = .ok (.iload_n 0, 1) := by decide +kernel
theorem dX9_isTableSize_10 : decode cX9_isTableSize 10 = .ok (.sipush 256, 3) := by decide +kernel
theorem dX9_isTableSize_13 : decode cX9_isTableSize 13 = .ok (.if_icmp .gt 15, 3) := by decide +kernel
theorem dX9_isTableSize_16 : decode cX9_isTableSize 16 = .ok (.iload_n 0, 1) := by decide +kernel
theorem dX9_isTableSize_17 : decode cX9_isTableSize 17 = .ok (.invokestatic 210, 3) := by decide +kernel
theorem dX9_isTableSize_20 : decode cX9_isTableSize 20 = .ok (.iconst 1, 1) := by decide +kernel
theorem dX9_isTableSize_21 : decode cX9_isTableSize 21 = .ok (.if_icmp .ne 7, 3) := by decide +kernel
theorem dX9_isTableSize_24 : decode cX9_isTableSize 24 = .ok (.iconst 1, 1) := by decide +kernel
theorem dX9_isTableSize_25 : decode cX9_isTableSize 25 = .ok (.goto 4, 3) := by decide +kernel
theorem dX9_isTableSize_28 : decode cX9_isTableSize 28 = .ok (.iconst 0, 1) := by decide +kernel
theorem dX9_isTableSize_29 : decode cX9_isTableSize 29 = .ok (.ireturn, 1) := by decide +kernel
theorem dX10_init_0 : decode cX10_init 0 = .ok (.aload_n 0, 1) := by decide +kernel
theorem dX10_init_1 : decode cX10_init 1 = .ok (.invokespecial 1, 3) := by decide +kernel
theorem dX10_init_4 : decode cX10_init 4 = .ok (.aload_n 0, 1) := by decide +kernel
theorem dX10_init_5 : decode cX10_init 5 = .ok (.sipush 12020, 3) := by decide +kernel
theorem dX10_init_8 : decode cX10_init 8 = .ok (.newarray .byte, 2) := by decide +kernel
theorem dX10_init_10 : decode cX10_init 10 = .ok (.putfield 7, 3) := by decide +kernel
theorem dX10_init_13 : decode cX10_init 13 = .ok (.aload_n 0, 1) := by decide +kernel
theorem dX10_init_14 : decode cX10_init 14 = .ok (.sipush 12020, 3) := by decide +kernel
theorem dX10_init_17 : decode cX10_init 17 = .ok (.newarray .byte, 2) := by decide +kernel
theorem dX10_init_19 : decode cX10_init 19 = .ok (.putfield 13, 3) := by decide +kernel
theorem dX10_init_22 : decode cX10_init 22 = .ok (.aload_n 0, 1) := by decide +kernel
theorem dX10_init_23 : decode cX10_init 23 = .ok (.iconst (-1), 1) := by decide +kernel
theorem dX10_init_24 : decode cX10_init 24 = .ok (.putfield 16, 3) := by decide +kernel
theorem dX10_init_27 : decode cX10_init 27 = .ok (.aload_n 0, 1) := by decide +kernel
theorem dX10_init_28 : decode cX10_init 28 = .ok (.iconst (-1), 1) := by decide +kernel
theorem dX10_init_29 : decode cX10_init 29 = .ok (.putfield 20, 3) := by decide +kernel
theorem dX10_init_32 : decode cX10_init 32 = .ok (.aload_n 0, 1) := by decide +kernel
theorem dX10_init_33 : decode cX10_init 33 = .ok (.bipush 12, 2) := by decide +kernel
theorem dX10_init_35 : decode cX10_init 35 = .ok (.newarray .int, 2) := by decide +kernel
theorem dX10_init_37 : decode cX10_init 37 = .ok (.putfield 23, 3) := by decide +kernel
theorem dX10_init_40 : decode cX10_init 40 = .ok (.aload_n 0, 1) := by decide +kernel
theorem dX10_init_41 : decode cX10_init 41 = .ok (.sipush 512, 3) := by decide +kernel
theorem dX10_init_44 : decode cX10_init 44 = .ok (.newarray .int, 2) := by decide +kernel
theorem dX10_init_46 : decode cX10_init 46 = .ok (.putfield 27, 3) := by decide +kernel
theorem dX10_init_49 : decode cX10_init 49 = .ok (.aload_n 0, 1) := by decide +kernel
theorem dX10_init_50 : decode cX10_init 50 = .ok (.sipush 480, 3) := by decide +kernel
theorem dX10_init_53 : decode cX10_init 53 = .ok (.newarray .int, 2) := by decide +kernel
theorem dX10_init_55 : decode cX10_init 55 = .ok (.putfield 30, 3) := by decide +kernel
theorem dX10_init_58 : decode cX10_init 58 = .ok (.aload_n 0, 1) := by decide +kernel
theorem dX10_init_59 : decode cX10_init 59 = .ok (.sipush 12288, 3) := by decide +kernel
theorem dX10_init_62 : decode cX10_init 62 = .ok (.newarray .int, 2) := by decide +kernel
theorem dX10_init_64 : decode cX10_init 64 = .ok (.putfield 33, 3) := by decide +kernel
theorem dX10_init_67 : decode cX10_init 67 = .ok (.aload_n 0, 1) := by decide +kernel
theorem dX10_init_68 : decode cX10_init 68 = .ok (.ldc 36, 2) := by decide +kernel
theorem dX10_init_70 : decode cX10_init 70 = .ok (.newarray .short, 2) := by decide +kernel
theorem dX10_init_72 : decode cX10_init 72 = .ok (.putfield 37, 3) := by decide +kernel
theorem dX10_init_75 : decode cX10_init 75 = .ok (.aload_n 0, 1) := by decide +kernel
theorem dX10_init_76 : decode cX10_init 76 = .ok (.sipush 12020, 3) := by decide +kernel
theorem dX10_init_79 : decode cX10_init 79 = .ok (.newarray .byte, 2) := by decide +kernel
theorem dX10_init_81 : decode cX10_init 81 = .ok (.putfield 41, 3) := by decide +kernel
theorem dX10_init_84 : decode cX10_init 84 = .ok (.aload_n 0, 1) := by decide +kernel
theorem dX10_init_85 : decode cX10_init 85 = .ok (.sipush 4096, 3) := by decide +kernel
theorem dX10_init_88 : decode cX10_init 88 = .ok (.newarray .short, 2) := by decide +kernel
theorem dX10_init_90 : decode cX10_init 90 = .ok (.putfield 44, 3) := by decide +kernel
theorem dX10_init_93 : decode cX10_init 93 = .ok (.aload_n 0, 1) := by decide +kernel
theorem dX10_init_94 : decode cX10_init 94 = .ok (.sipush 4096, 3) := by decide +kernel
theorem dX10_init_97 : decode cX10_init 97 = .ok (.newarray .short, 2) := by decide +kernel
theorem dX10_init_99 : decode cX10_init 99 = .ok (.putfield 47, 3) := by decide +kernel
theorem dX10_init_102 : decode cX10_init 102 = .ok (.aload_n 0, 1) := by decide +kernel
theorem dX10_init_103 : decode cX10_init 103 = .ok (.sipush 4096, 3) := by decide +kernel
theorem dX10_init_106 : decode cX10_init 106 = .ok (.newarray .short, 2) := by decide +kernel
theorem dX10_init_108 : decode cX10_init 108 = .ok (.putfield 50, 3) := by decide +kernel
theorem dX10_init_111 : decode cX10_init 111 = .ok (.aload_n 0, 1) := by decide +kernel
theorem dX10_init_112 : decode cX10_init 112 = .ok (.sipush 4096, 3) := by decide +kernel
theorem dX10_init_115 : decode cX10_init 115 = .ok (.newarray .short, 2) := by decide +kernel
theorem dX10_init_117 : decode cX10_init 117 = .ok (.putfield 53, 3) := by decide +kernel
theorem dX10_init_120 : decode cX10_init 120 = .ok (.aload_n 0, 1) := by decide +kernel
theorem dX10_init_121 : decode cX10_init 121 = .ok (.sipush 256, 3) := by decide +kernel
theorem dX10_init_124 : decode cX10_init 124 = .ok (.newarray .byte, 2) := by decide +kernel
theorem dX10_init_126 : decode cX10_init 126 = .ok (.putfield 56, 3) := by decide +kernel
theorem dX10_init_129 : decode cX10_init 129 = .ok (.aload_n 0, 1) := by decide +kernel
theorem dX10_init_130 : decode cX10_init 130 = .ok (.sipush 4096, 3) := by decide +kernel
theorem dX10_init_133 : decode cX10_init 133 = .ok (.newarray .short, 2) := by decide +kernel
theorem dX10_init_135 : decode cX10_init 135 = .ok (.putfield 59, 3) := by decide +kernel
theorem dX10_init_138 : decode cX10_init 138 = .ok (.aload_n 0, 1) := by decide +kernel
theorem dX10_init_139 : decode cX10_init 139 = .ok (.sipush 4096, 3) := by decide +kernel
theorem dX10_init_142 : decode cX10_init 142 = .ok (.newarray .short, 2) := by decide +kernel
theorem dX10_init_144 : decode cX10_init 144 = .ok (.putfield 62, 3) := by decide +kernel
theorem dX10_init_147 : decode cX10_init 147 = .ok (.aload_n 0, 1) := by decide +kernel
theorem dX10_init_148 : decode cX10_init 148 = .ok (.getfield 23, 3) := by decide +kernel
theorem dX10_init_151 : decode cX10_init 151 = .ok (.iconst 0, 1) := by decide +kernel
theorem dX10_init_152 : decode cX10_init 152 = .ok (.iconst 1, 1) := by decide +kernel
theorem dX10_init_153 : decode cX10_init 153 = .ok (.iastore, 1) := by decide +kernel
theorem dX10_init_154 : decode cX10_init 154 = .ok (.aload_n 0, 1) := by decide +kernel
theorem dX10_init_155 : decode cX10_init 155 = .ok (.getfield 23, 3) := by decide +kernel
theorem dX10_init_158 : decode cX10_init 158 = .ok (.iconst 1, 1) := by decide +kernel
theorem dX10_init_159 : decode cX10_init 159 = .ok (.iconst 1, 1) := by decide +kernel
theorem dX10_init_160 : decode cX10_init 160 = .ok (.iastore, 1) := by decide +kernel
theorem dX10_init_161 : decode cX10_init 161 = .ok (.return_, 1) := by decide +kernel
theorem dX10_field_0 : decode cX10_field 0 = .ok (.aload_n 0, 1) := by decide +kernel
theorem dX10_field_1 : decode cX10_field 1 = .ok (.getfield 30, 3) := by decide +kernel
theorem dX10_field_4 : decode cX10_field 4 = .ok (.sipush 240, 3) := by decide +kernel
theorem dX10_field_7 : decode cX10_field 7 = .ok (.iload_n 1, 1) := by decide +kernel
theorem dX10_field_8 : decode cX10_field 8 = .ok (.imul, 1) := by decide +kernel
theorem dX10_field_9 : decode cX10_field 9 = .ok (.bipush 10, 2) := by decide +kernel
theorem dX10_field_11 : decode cX10_field 11 = .ok (.iload_n 2, 1) := by decide +kernel
theorem dX10_field_12 : decode cX10_field 12 = .ok (.imul, 1) := by decide +kernel
theorem dX10_field_13 : decode cX10_field 13 = .ok (.iadd, 1) := by decide +kernel
theorem dX10_field_14 : decode cX10_field 14 = .ok (.iload_n 3, 1) := by decide +kernel
theorem dX10_field_15 : decode cX10_field 15 = .ok (.iadd, 1) := by decide +kernel
theorem dX10_field_16 : decode cX10_field 16 = .ok (.iaload, 1) := by decide +kernel
theorem dX10_field_17 : decode cX10_field 17 = .ok (.ireturn, 1) := by decide +kernel
theorem dX10_setField_0 : decode cX10_setField 0 = .ok (.aload_n 0, 1) := by decide +kernel
theorem dX10_setField_1 : decode cX10_setField 1 = .ok (.getfield 30, 3) := by decide +kernel
theorem dX10_setField_4 : decode cX10_setField 4 = .ok (.sipush 240, 3) := by decide +kernel
theorem dX10_setField_7 : decode cX10_setField 7 = .ok (.iload_n 1, 1) := by decide +kernel
theorem dX10_setField_8 : decode cX10_setField 8 = .ok (.imul, 1) := by decide +kernel
theorem dX10_setField_9 : decode cX10_setField 9 = .ok (.bipush 10, 2) := by decide +kernel
theorem dX10_setField_11 : decode cX10_setField 11 = .ok (.iload_n 2, 1) := by decide +kernel
theorem dX10_setField_12 : decode cX10_setField 12 = .ok (.imul, 1) := by decide +kernel
theorem dX10_setField_13 : decode cX10_setField 13 = .ok (.iadd, 1) := by decide +kernel
theorem dX10_setField_14 : decode cX10_setField 14 = .ok (.iload_n 3, 1) := by decide +kernel
theorem dX10_setField_15 : decode cX10_setField 15 = .ok (.iadd, 1) := by decide +kernel
theorem dX10_setField_16 : decode cX10_setField 16 = .ok (.iload 4, 2) := by decide +kernel
theorem dX10_setField_18 : decode cX10_setField 18 = .ok (.iastore, 1) := by decide +kernel
theorem dX10_setField_19 : decode cX10_setField 19 = .ok (.return_, 1) := by decide +kernel
theorem dX10_indexAt_0 : decode cX10_indexAt 0 = .ok (.aload_n 0, 1) := by decide +kernel
theorem dX10_indexAt_1 : decode cX10_indexAt 1 = .ok (.getfield 37, 3) := by decide +kernel
theorem dX10_indexAt_4 : decode cX10_indexAt 4 = .ok (.ldc 65, 2) := by decide +kernel
theorem dX10_indexAt_6 : decode cX10_indexAt 6 = .ok (.iload_n 1, 1) := by decide +kernel
theorem dX10_indexAt_7 : decode cX10_indexAt 7 = .ok (.imul, 1) := by decide +kernel
theorem dX10_indexAt_8 : decode cX10_indexAt 8 = .ok (.sipush 4096, 3) := by decide +kernel
theorem dX10_indexAt_11 : decode cX10_indexAt 11 = .ok (.iload_n 2, 1) := by decide +kernel
theorem dX10_indexAt_12 : decode cX10_indexAt 12 = .ok (.imul, 1) := by decide +kernel
theorem dX10_indexAt_13 : decode cX10_indexAt 13 = .ok (.iadd, 1) := by decide +kernel
theorem dX10_indexAt_14 : decode cX10_indexAt 14 = .ok (.iload_n 3, 1) := by decide +kernel
theorem dX10_indexAt_15 : decode cX10_indexAt 15 = .ok (.iadd, 1) := by decide +kernel
theorem dX10_indexAt_16 : decode cX10_indexAt 16 = .ok (.saload, 1) := by decide +kernel
theorem dX10_indexAt_17 : decode cX10_indexAt 17 = .ok (.ireturn, 1) := by decide +kernel
theorem dX10_setIndex_0 : decode cX10_setIndex 0 = .ok (.aload_n 0, 1) := by decide +kernel
theorem dX10_setIndex_1 : decode cX10_setIndex 1 = .ok (.getfield 37, 3) := by decide +kernel
theorem dX10_setIndex_4 : decode cX10_setIndex 4 = .ok (.ldc 65, 2) := by decide +kernel
theorem dX10_setIndex_6 : decode cX10_setIndex 6 = .ok (.iload_n 1, 1) := by decide +kernel
theorem dX10_setIndex_7 : decode cX10_setIndex 7 = .ok (.imul, 1) := by decide +kernel
theorem dX10_setIndex_8 : decode cX10_setIndex 8 = .ok (.sipush 4096, 3) := by decide +kernel
theorem dX10_setIndex_11 : decode cX10_setIndex 11 = .ok (.iload_n 2, 1) := by decide +kernel
theorem dX10_setIndex_12 : decode cX10_setIndex 12 = .ok (.imul, 1) := by decide +kernel
theorem dX10_setIndex_13 : decode cX10_setIndex 13 = .ok (.iadd, 1) := by decide +kernel
theorem dX10_setIndex_14 : decode cX10_setIndex 14 = .ok (.iload_n 3, 1) := by decide +kernel
theorem dX10_setIndex_15 : decode cX10_setIndex 15 = .ok (.iadd, 1) := by decide +kernel
theorem dX10_setIndex_16 : decode cX10_setIndex 16 = .ok (.iload 4, 2) := by decide +kernel
theorem dX10_setIndex_18 : decode cX10_setIndex 18 = .ok (.i2s, 1) := by decide +kernel
theorem dX10_setIndex_19 : decode cX10_setIndex 19 = .ok (.sastore, 1) := by decide +kernel
theorem dX10_setIndex_20 : decode cX10_setIndex 20 = .ok (.return_, 1) := by decide +kernel
theorem dX10_localAt_0 : decode cX10_localAt 0 = .ok (.sipush 6144, 3) := by decide +kernel
theorem dX10_localAt_3 : decode cX10_localAt 3 = .ok (.iload_n 0, 1) := by decide +kernel
theorem dX10_localAt_4 : decode cX10_localAt 4 = .ok (.imul, 1) := by decide +kernel
theorem dX10_localAt_5 : decode cX10_localAt 5 = .ok (.sipush 256, 3) := by decide +kernel
theorem dX10_localAt_8 : decode cX10_localAt 8 = .ok (.iload_n 1, 1) := by decide +kernel
theorem dX10_localAt_9 : decode cX10_localAt 9 = .ok (.imul, 1) := by decide +kernel
theorem dX10_localAt_10 : decode cX10_localAt 10 = .ok (.iadd, 1) := by decide +kernel
theorem dX10_localAt_11 : decode cX10_localAt 11 = .ok (.iload_n 2, 1) := by decide +kernel
theorem dX10_localAt_12 : decode cX10_localAt 12 = .ok (.iadd, 1) := by decide +kernel
theorem dX10_localAt_13 : decode cX10_localAt 13 = .ok (.ireturn, 1) := by decide +kernel
theorem dX10_frames_0 : decode cX10_frames 0 = .ok (.aload_n 0, 1) := by decide +kernel
theorem dX10_frames_1 : decode cX10_frames 1 = .ok (.getfield 23, 3) := by decide +kernel
theorem dX10_frames_4 : decode cX10_frames 4 = .ok (.bipush 6, 2) := by decide +kernel
theorem dX10_frames_6 : decode cX10_frames 6 = .ok (.aload_n 0, 1) := by decide +kernel
theorem dX10_frames_7 : decode cX10_frames 7 = .ok (.getfield 66, 3) := by decide +kernel
theorem dX10_frames_10 : decode cX10_frames 10 = .ok (.imul, 1) := by decide +kernel
theorem dX10_frames_11 : decode cX10_frames 11 = .ok (.iconst 5, 1) := by decide +kernel
theorem dX10_frames_12 : decode cX10_frames 12 = .ok (.iadd, 1) := by decide +kernel
theorem dX10_frames_13 : decode cX10_frames 13 = .ok (.iaload, 1) := by decide +kernel
theorem dX10_frames_14 : decode cX10_frames 14 = .ok (.ireturn, 1) := by decide +kernel
theorem dX10_isFrame_0 : decode cX10_isFrame 0 = .ok (.iload_n 1, 1) := by decide +kernel
theorem dX10_isFrame_1 : decode cX10_isFrame 1 = .ok (.ifCond .lt 15, 3) := by decide +kernel
theorem dX10_isFrame_4 : decode cX10_isFrame 4 = .ok (.iload_n 1, 1) := by decide +kernel
theorem dX10_isFrame_5 : decode cX10_isFrame 5 = .ok (.aload_n 0, 1) := by decide +kernel
theorem dX10_isFrame_6 : decode cX10_isFrame 6 = .ok (.invokevirtual 69, 3) := by decide +kernel
theorem dX10_isFrame_9 : decode cX10_isFrame 9 = .ok (.if_icmp .ge 7, 3) := by decide +kernel
theorem dX10_isFrame_12 : decode cX10_isFrame 12 = .ok (.iconst 1, 1) := by decide +kernel
theorem dX10_isFrame_13 : decode cX10_isFrame 13 = .ok (.goto 4, 3) := by decide +kernel
theorem dX10_isFrame_16 : decode cX10_isFrame 16 = .ok (.iconst 0, 1) := by decide +kernel
theorem dX10_isFrame_17 : decode cX10_isFrame 17 = .ok (.ireturn, 1) := by decide +kernel
theorem dX10_places_0 : decode cX10_places 0 = .ok (.aload_n 0, 1) := by decide +kernel
theorem dX10_places_1 : decode cX10_places 1 = .ok (.iload_n 1, 1) := by decide +kernel
theorem dX10_places_2 : decode cX10_places 2 = .ok (.iload_n 2, 1) := by decide +kernel
theorem dX10_places_3 : decode cX10_places 3 = .ok (.iconst 2, 1) := by decide +kernel
theorem dX10_places_4 : decode cX10_places 4 = .ok (.invokevirtual 73, 3) := by decide +kernel
theorem dX10_places_7 : decode cX10_places 7 = .ok (.aload_n 0, 1) := by decide +kernel
theorem dX10_places_8 : decode cX10_places 8 = .ok (.iload_n 1, 1) := by decide +kernel
theorem dX10_places_9 : decode cX10_places 9 = .ok (.iload_n 2, 1) := by decide +kernel
theorem dX10_places_10 : decode cX10_places 10 = .ok (.iconst 3, 1) := by decide +kernel
theorem dX10_places_11 : decode cX10_places 11 = .ok (.invokevirtual 73, 3) := by decide +kernel
theorem dX10_places_14 : decode cX10_places 14 = .ok (.imul, 1) := by decide +kernel
theorem dX10_places_15 : decode cX10_places 15 = .ok (.ireturn, 1) := by decide +kernel
theorem dX10_colours_0 : decode cX10_colours 0 = .ok (.aload_n 0, 1) := by decide +kernel
theorem dX10_colours_1 : decode cX10_colours 1 = .ok (.iload_n 1, 1) := by decide +kernel
theorem dX10_colours_2 : decode cX10_colours 2 = .ok (.iload_n 2, 1) := by decide +kernel
theorem dX10_colours_3 : decode cX10_colours 3 = .ok (.iconst 4, 1) := by decide +kernel
theorem dX10_colours_4 : decode cX10_colours 4 = .ok (.invokevirtual 73, 3) := by decide +kernel
theorem dX10_colours_7 : decode cX10_colours 7 = .ok (.ifCond .le 13, 3) := by decide +kernel
theorem dX10_colours_10 : decode cX10_colours 10 = .ok (.aload_n 0, 1) := by decide +kernel
theorem dX10_colours_11 : decode cX10_colours 11 = .ok (.iload_n 1, 1) := by decide +kernel
theorem dX10_colours_12 : decode cX10_colours 12 = .ok (.iload_n 2, 1) := by decide +kernel
theorem dX10_colours_13 : decode cX10_colours 13 = .ok (.iconst 4, 1) := by decide +kernel
theorem dX10_colours_14 : decode cX10_colours 14 = .ok (.invokevirtual 73, 3) := by decide +kernel
theorem dX10_colours_17 : decode cX10_colours 17 = .ok (.goto 14, 3) := by decide +kernel
theorem dX10_colours_20 : decode cX10_colours 20 = .ok (.aload_n 0, 1) := by decide +kernel
theorem dX10_colours_21 : decode cX10_colours 21 = .ok (.getfield 23, 3) := by decide +kernel
theorem dX10_colours_24 : decode cX10_colours 24 = .ok (.bipush 6, 2) := by decide +kernel
theorem dX10_colours_26 : decode cX10_colours 26 = .ok (.iload_n 1, 1) := by decide +kernel
theorem dX10_colours_27 : decode cX10_colours 27 = .ok (.imul, 1) := by decide +kernel
theorem dX10_colours_28 : decode cX10_colours 28 = .ok (.iconst 2, 1) := by decide +kernel
theorem dX10_colours_29 : decode cX10_colours 29 = .ok (.iadd, 1) := by decide +kernel
theorem dX10_colours_30 : decode cX10_colours 30 = .ok (.iaload, 1) := by decide +kernel
theorem dX10_colours_31 : decode cX10_colours 31 = .ok (.ireturn, 1) := by decide +kernel
theorem dX10_within_0 : decode cX10_within 0 = .ok (.iconst 0, 1) := by decide +kernel
theorem dX10_within_1 : decode cX10_within 1 = .ok (.istore_n 3, 1) := by decide +kernel
theorem dX10_within_2 : decode cX10_within 2 = .ok (.iload_n 3, 1) := by decide +kernel
theorem dX10_within_3 : decode cX10_within 3 = .ok (.iconst 4, 1) := by decide +kernel
theorem dX10_within_4 : decode cX10_within 4 = .ok (.if_icmp .ge 24, 3) := by decide +kernel
theorem dX10_within_7 : decode cX10_within 7 = .ok (.aload_n 0, 1) := by decide +kernel
theorem dX10_within_8 : decode cX10_within 8 = .ok (.iload_n 1, 1) := by decide +kernel
theorem dX10_within_9 : decode cX10_within 9 = .ok (.iload_n 3, 1) := by decide +kernel
theorem dX10_within_10 : decode cX10_within 10 = .ok (.iadd, 1) := by decide +kernel
theorem dX10_within_11 : decode cX10_within 11 = .ok (.iload_n 2, 1) := by decide +kernel
theorem dX10_within_12 : decode cX10_within 12 = .ok (.bipush 24, 2) := by decide +kernel
theorem dX10_within_14 : decode cX10_within 14 = .ok (.bipush 8, 2) := by decide +kernel
theorem dX10_within_16 : decode cX10_within 16 = .ok (.iload_n 3, 1) := by decide +kernel
theorem dX10_within_17 : decode cX10_within 17 = .ok (.imul, 1) := by decide +kernel
theorem dX10_within_18 : decode cX10_within 18 = .ok (.isub, 1) := by decide +kernel
theorem dX10_within_19 : decode cX10_within 19 = .ok (.ishr, 1) := by decide +kernel
theorem dX10_within_20 : decode cX10_within 20 = .ok (.i2b, 1) := by decide +kernel
theorem dX10_within_21 : decode cX10_within 21 = .ok (.bastore, 1) := by decide +kernel
theorem dX10_within_22 : decode cX10_within 22 = .ok (.iinc 3 1, 3) := by decide +kernel
theorem dX10_within_25 : decode cX10_within 25 = .ok (.goto (-23), 3) := by decide +kernel
theorem dX10_within_28 : decode cX10_within 28 = .ok (.iload_n 1, 1) := by decide +kernel
theorem dX10_within_29 : decode cX10_within 29 = .ok (.iconst 4, 1) := by decide +kernel
theorem dX10_within_30 : decode cX10_within 30 = .ok (.iadd, 1) := by decide +kernel
theorem dX10_within_31 : decode cX10_within 31 = .ok (.ireturn, 1) := by decide +kernel
theorem dX10_feed_0 : decode cX10_feed 0 = .ok (.aload_n 0, 1) := by decide +kernel
theorem dX10_feed_1 : decode cX10_feed 1 = .ok (.getfield 76, 3) := by decide +kernel
theorem dX10_feed_4 : decode cX10_feed 4 = .ok (.bipush 20, 2) := by decide +kernel
theorem dX10_feed_6 : decode cX10_feed 6 = .ok (.iadd, 1) := by decide +kernel
theorem dX10_feed_7 : decode cX10_feed 7 = .ok (.sipush 12000, 3) := by decide +kernel
theorem dX10_feed_10 : decode cX10_feed 10 = .ok (.if_icmp .le 5, 3) := by decide +kernel
theorem dX10_feed_13 : decode cX10_feed 13 = .ok (.iconst (-1), 1) := by decide +kernel
theorem dX10_feed_14 : decode cX10_feed 14 = .ok (.ireturn, 1) := by decide +kernel
theorem dX10_feed_15 : decode cX10_feed 15 = .ok (.aload_n 0, 1) := by decide +kernel
theorem dX10_feed_16 : decode cX10_feed 16 = .ok (.getfield 7, 3) := by decide +kernel
theorem dX10_feed_19 : decode cX10_feed 19 = .ok (.aload_n 0, 1) := by decide +kernel
theorem dX10_feed_20 : decode cX10_feed 20 = .ok (.getfield 76, 3) := by decide +kernel
theorem dX10_feed_23 : decode cX10_feed 23 = .ok (.iload_n 1, 1) := by decide +kernel
theorem dX10_feed_24 : decode cX10_feed 24 = .ok (.invokestatic 79, 3) := by decide +kernel
theorem dX10_feed_27 : decode cX10_feed 27 = .ok (.istore 6, 2) := by decide +kernel
theorem dX10_feed_29 : decode cX10_feed 29 = .ok (.aload_n 0, 1) := by decide +kernel
theorem dX10_feed_30 : decode cX10_feed 30 = .ok (.getfield 7, 3) := by decide +kernel
theorem dX10_feed_33 : decode cX10_feed 33 = .ok (.iload 6, 2) := by decide +kernel
theorem dX10_feed_35 : decode cX10_feed 35 = .ok (.iload_n 2, 1) := by decide +kernel
theorem dX10_feed_36 : decode cX10_feed 36 = .ok (.invokestatic 79, 3) := by decide +kernel
theorem dX10_feed_39 : decode cX10_feed 39 = .ok (.istore 6, 2) := by decide +kernel
theorem dX10_feed_41 : decode cX10_feed 41 = .ok (.aload_n 0, 1) := by decide +kernel
theorem dX10_feed_42 : decode cX10_feed 42 = .ok (.getfield 7, 3) := by decide +kernel
theorem dX10_feed_45 : decode cX10_feed 45 = .ok (.iload 6, 2) := by decide +kernel
theorem dX10_feed_47 : decode cX10_feed 47 = .ok (.iload_n 3, 1) := by decide +kernel
theorem dX10_feed_48 : decode cX10_feed 48 = .ok (.invokestatic 79, 3) := by decide +kernel
theorem dX10_feed_51 : decode cX10_feed 51 = .ok (.istore 6, 2) := by decide +kernel
theorem dX10_feed_53 : decode cX10_feed 53 = .ok (.aload_n 0, 1) := by decide +kernel
theorem dX10_feed_54 : decode cX10_feed 54 = .ok (.getfield 7, 3) := by decide +kernel
theorem dX10_feed_57 : decode cX10_feed 57 = .ok (.iload 6, 2) := by decide +kernel
theorem dX10_feed_59 : decode cX10_feed 59 = .ok (.iload 4, 2) := by decide +kernel
theorem dX10_feed_61 : decode cX10_feed 61 = .ok (.invokestatic 79, 3) := by decide +kernel
theorem dX10_feed_64 : decode cX10_feed 64 = .ok (.istore 6, 2) := by decide +kernel
theorem dX10_feed_66 : decode cX10_feed 66 = .ok (.aload_n 0, 1) := by decide +kernel
theorem dX10_feed_67 : decode cX10_feed 67 = .ok (.aload_n 0, 1) := by decide +kernel
theorem dX10_feed_68 : decode cX10_feed 68 = .ok (.getfield 7, 3) := by decide +kernel
theorem dX10_feed_71 : decode cX10_feed 71 = .ok (.iload 6, 2) := by decide +kernel
theorem dX10_feed_73 : decode cX10_feed 73 = .ok (.iload 5, 2) := by decide +kernel
theorem dX10_feed_75 : decode cX10_feed 75 = .ok (.invokestatic 79, 3) := by decide +kernel
theorem dX10_feed_78 : decode cX10_feed 78 = .ok (.putfield 76, 3) := by decide +kernel
theorem dX10_feed_81 : decode cX10_feed 81 = .ok (.aload_n 0, 1) := by decide +kernel
theorem dX10_feed_82 : decode cX10_feed 82 = .ok (.getfield 76, 3) := by decide +kernel
theorem dX10_feed_85 : decode cX10_feed 85 = .ok (.ireturn, 1) := by decide +kernel
theorem dX10_take_0 : decode cX10_take 0 = .ok (.iconst 0, 1) := by decide +kernel
theorem dX10_take_1 : decode cX10_take 1 = .ok (.istore_n 1, 1) := by decide +kernel
theorem dX10_take_2 : decode cX10_take 2 = .ok (.iload_n 1, 1) := by decide +kernel
theorem dX10_take_3 : decode cX10_take 3 = .ok (.aload_n 0, 1) := by decide +kernel
theorem dX10_take_4 : decode cX10_take 4 = .ok (.getfield 83, 3) := by decide +kernel
theorem dX10_take_7 : decode cX10_take 7 = .ok (.if_icmp .ge 21, 3) := by decide +kernel
theorem dX10_take_10 : decode cX10_take 10 = .ok (.aload_n 0, 1) := by decide +kernel
theorem dX10_take_11 : decode cX10_take 11 = .ok (.getfield 7, 3) := by decide +kernel
theorem dX10_take_14 : decode cX10_take 14 = .ok (.iload_n 1, 1) := by decide +kernel
theorem dX10_take_15 : decode cX10_take 15 = .ok (.aload_n 0, 1) := by decide +kernel
theorem dX10_take_16 : decode cX10_take 16 = .ok (.getfield 13, 3) := by decide +kernel
theorem dX10_take_19 : decode cX10_take 19 = .ok (.iload_n 1, 1) := by decide +kernel
theorem dX10_take_20 : decode cX10_take 20 = .ok (.baload, 1) := by decide +kernel
theorem dX10_take_21 : decode cX10_take 21 = .ok (.bastore, 1) := by decide +kernel
theorem dX10_take_22 : decode cX10_take 22 = .ok (.iinc 1 1, 3) := by decide +kernel
theorem dX10_take_25 : decode cX10_take 25 = .ok (.goto (-23), 3) := by decide +kernel
theorem dX10_take_28 : decode cX10_take 28 = .ok (.aload_n 0, 1) := by decide +kernel
theorem dX10_take_29 : decode cX10_take 29 = .ok (.aload_n 0, 1) := by decide +kernel
theorem dX10_take_30 : decode cX10_take 30 = .ok (.getfield 83, 3) := by decide +kernel
theorem dX10_take_33 : decode cX10_take 33 = .ok (.putfield 76, 3) := by decide +kernel
theorem dX10_take_36 : decode cX10_take 36 = .ok (.aload_n 0, 1) := by decide +kernel
theorem dX10_take_37 : decode cX10_take 37 = .ok (.getfield 76, 3) := by decide +kernel
theorem dX10_take_40 : decode cX10_take 40 = .ok (.ireturn, 1) := by decide +kernel
theorem dX10_wrong_0 : decode cX10_wrong 0 = .ok (.aload_n 0, 1) := by decide +kernel
theorem dX10_wrong_1 : decode cX10_wrong 1 = .ok (.getfield 16, 3) := by decide +kernel
theorem dX10_wrong_4 : decode cX10_wrong 4 = .ok (.ifCond .eq 4, 3) := by decide +kernel
theorem dX10_wrong_7 : decode cX10_wrong 7 = .ok (.return_, 1) := by decide +kernel
theorem dX10_wrong_8 : decode cX10_wrong 8 = .ok (.aload_n 0, 1) := by decide +kernel
theorem dX10_wrong_9 : decode cX10_wrong 9 = .ok (.iload_n 1, 1) := by decide +kernel
theorem dX10_wrong_10 : decode cX10_wrong 10 = .ok (.putfield 16, 3) := by decide +kernel
theorem dX10_wrong_13 : decode cX10_wrong 13 = .ok (.aload_n 0, 1) := by decide +kernel
theorem dX10_wrong_14 : decode cX10_wrong 14 = .ok (.iload_n 2, 1) := by decide +kernel
theorem dX10_wrong_15 : decode cX10_wrong 15 = .ok (.putfield 20, 3) := by decide +kernel
theorem dX10_wrong_18 : decode cX10_wrong 18 = .ok (.return_, 1) := by decide +kernel
theorem dX10_good_0 : decode cX10_good 0 = .ok (.aload_n 0, 1) := by decide +kernel
theorem dX10_good_1 : decode cX10_good 1 = .ok (.getfield 16, 3) := by decide +kernel
theorem dX10_good_4 : decode cX10_good 4 = .ok (.ifCond .ne 7, 3) := by decide +kernel
theorem dX10_good_7 : decode cX10_good 7 = .ok (.iconst 1, 1) := by decide +kernel
theorem dX10_good_8 : decode cX10_good 8 = .ok (.goto 4, 3) := by decide +kernel
theorem dX10_good_11 : decode cX10_good 11 = .ok (.iconst 0, 1) := by decide +kernel
theorem dX10_good_12 : decode cX10_good 12 = .ok (.ireturn, 1) := by decide +kernel
theorem dX10_one_0 : decode cX10_one 0 = .ok (.aload_n 0, 1) := by decide +kernel
theorem dX10_one_1 : decode cX10_one 1 = .ok (.invokevirtual 86, 3) := by decide +kernel
theorem dX10_one_4 : decode cX10_one 4 = .ok (.ifCond .eq 23, 3) := by decide +kernel
theorem dX10_one_7 : decode cX10_one 7 = .ok (.aload_n 0, 1) := by decide +kernel
theorem dX10_one_8 : decode cX10_one 8 = .ok (.getfield 90, 3) := by decide +kernel
theorem dX10_one_11 : decode cX10_one 11 = .ok (.aload_n 0, 1) := by decide +kernel
theorem dX10_one_12 : decode cX10_one 12 = .ok (.getfield 93, 3) := by decide +kernel
theorem dX10_one_15 : decode cX10_one 15 = .ok (.if_icmp .lt 12, 3) := by decide +kernel
theorem dX10_one_18 : decode cX10_one 18 = .ok (.aload_n 0, 1) := by decide +kernel
theorem dX10_one_19 : decode cX10_one 19 = .ok (.iconst 2, 1) := by decide +kernel
theorem dX10_one_20 : decode cX10_one 20 = .ok (.aload_n 0, 1) := by decide +kernel
theorem dX10_one_21 : decode cX10_one 21 = .ok (.getfield 93, 3) := by decide +kernel
theorem dX10_one_24 : decode cX10_one 24 = .ok (.invokevirtual 96, 3) := by decide +kernel
theorem dX10_one_27 : decode cX10_one 27 = .ok (.aload_n 0, 1) := by decide +kernel
theorem dX10_one_28 : decode cX10_one 28 = .ok (.invokevirtual 86, 3) := by decide +kernel
theorem dX10_one_31 : decode cX10_one 31 = .ok (.ifCond .ne 5, 3) := by decide +kernel
theorem dX10_one_34 : decode cX10_one 34 = .ok (.iconst 0, 1) := by decide +kernel
theorem dX10_one_35 : decode cX10_one 35 = .ok (.ireturn, 1) := by decide +kernel
theorem dX10_one_36 : decode cX10_one 36 = .ok (.aload_n 0, 1) := by decide +kernel
theorem dX10_one_37 : decode cX10_one 37 = .ok (.dup, 1) := by decide +kernel
theorem dX10_one_38 : decode cX10_one 38 = .ok (.getfield 90, 3) := by decide +kernel
theorem dX10_one_41 : decode cX10_one 41 = .ok (.iconst 1, 1) := by decide +kernel
theorem dX10_one_42 : decode cX10_one 42 = .ok (.iadd, 1) := by decide +kernel
theorem dX10_one_43 : decode cX10_one 43 = .ok (.putfield 90, 3) := by decide +kernel
theorem dX10_one_46 : decode cX10_one 46 = .ok (.aload_n 0, 1) := by decide +kernel
theorem dX10_one_47 : decode cX10_one 47 = .ok (.getfield 7, 3) := by decide +kernel
theorem dX10_one_50 : decode cX10_one 50 = .ok (.aload_n 0, 1) := by decide +kernel
theorem dX10_one_51 : decode cX10_one 51 = .ok (.getfield 90, 3) := by decide +kernel
theorem dX10_one_54 : decode cX10_one 54 = .ok (.iconst 1, 1) := by decide +kernel
theorem dX10_one_55 : decode cX10_one 55 = .ok (.isub, 1) := by decide +kernel
theorem dX10_one_56 : decode cX10_one 56 = .ok (.baload, 1) := by decide +kernel
theorem dX10_one_57 : decode cX10_one 57 = .ok (.sipush 255, 3) := by decide +kernel
theorem dX10_one_60 : decode cX10_one 60 = .ok (.iand, 1) := by decide +kernel
theorem dX10_one_61 : decode cX10_one 61 = .ok (.ireturn, 1) := by decide +kernel
theorem dX10_two_0 : decode cX10_two 0 = .ok (.aload_n 0, 1) := by decide +kernel
theorem dX10_two_1 : decode cX10_two 1 = .ok (.invokevirtual 100, 3) := by decide +kernel
theorem dX10_two_4 : decode cX10_two 4 = .ok (.istore_n 1, 1) := by decide +kernel
theorem dX10_two_5 : decode cX10_two 5 = .ok (.iload_n 1, 1) := by decide +kernel
theorem dX10_two_6 : decode cX10_two 6 = .ok (.sipush 256, 3) := by decide +kernel
theorem dX10_two_9 : decode cX10_two 9 = .ok (.aload_n 0, 1) := by decide +kernel
theorem dX10_two_10 : decode cX10_two 10 = .ok (.invokevirtual 100, 3) := by decide +kernel
theorem dX10_two_13 : decode cX10_two 13 = .ok (.imul, 1) := by decide +kernel
theorem dX10_two_14 : decode cX10_two 14 = .ok (.iadd, 1) := by decide +kernel
theorem dX10_two_15 : decode cX10_two 15 = .ok (.ireturn, 1) := by decide +kernel
theorem dX10_read_0 : decode cX10_read 0 = .ok (.iload_n 1, 1) := by decide +kernel
theorem dX10_read_1 : decode cX10_read 1 = .ok (.ifCond .lt 11, 3) := by decide +kernel
theorem dX10_read_4 : decode cX10_read 4 = .ok (.iload_n 1, 1) := by decide +kernel
theorem dX10_read_5 : decode cX10_read 5 = .ok (.aload_n 0, 1) := by decide +kernel
theorem dX10_read_6 : decode cX10_read 6 = .ok (.getfield 76, 3) := by decide +kernel
theorem dX10_read_9 : decode cX10_read 9 = .ok (.if_icmp .le 6, 3) := by decide +kernel
theorem dX10_read_12 : decode cX10_read 12 = .ok (.bipush (-2), 2) := by decide +kernel
theorem dX10_read_14 : decode cX10_read 14 = .ok (.ireturn, 1) := by decide +kernel
theorem dX10_read_15 : decode cX10_read 15 = .ok (.aload_n 0, 1) := by decide +kernel
theorem dX10_read_16 : decode cX10_read 16 = .ok (.iconst 0, 1) := by decide +kernel
theorem dX10_read_17 : decode cX10_read 17 = .ok (.putfield 76, 3) := by decide +kernel
theorem dX10_read_20 : decode cX10_read 20 = .ok (.aload_n 0, 1) := by decide +kernel
theorem dX10_read_21 : decode cX10_read 21 = .ok (.iconst 0, 1) := by decide +kernel
theorem dX10_read_22 : decode cX10_read 22 = .ok (.putfield 16, 3) := by decide +kernel
theorem dX10_read_25 : decode cX10_read 25 = .ok (.aload_n 0, 1) := by decide +kernel
theorem dX10_read_26 : decode cX10_read 26 = .ok (.iconst (-1), 1) := by decide +kernel
theorem dX10_read_27 : decode cX10_read 27 = .ok (.putfield 20, 3) := by decide +kernel
theorem dX10_read_30 : decode cX10_read 30 = .ok (.aload_n 0, 1) := by decide +kernel
theorem dX10_read_31 : decode cX10_read 31 = .ok (.iconst 0, 1) := by decide +kernel
theorem dX10_read_32 : decode cX10_read 32 = .ok (.putfield 90, 3) := by decide +kernel
theorem dX10_read_35 : decode cX10_read 35 = .ok (.aload_n 0, 1) := by decide +kernel
theorem dX10_read_36 : decode cX10_read 36 = .ok (.iload_n 1, 1) := by decide +kernel
theorem dX10_read_37 : decode cX10_read 37 = .ok (.putfield 93, 3) := by decide +kernel
theorem dX10_read_40 : decode cX10_read 40 = .ok (.aload_n 0, 1) := by decide +kernel
theorem dX10_read_41 : decode cX10_read 41 = .ok (.iconst 1, 1) := by decide +kernel
theorem dX10_read_42 : decode cX10_read 42 = .ok (.aload_n 0, 1) := by decide +kernel
theorem dX10_read_43 : decode cX10_read 43 = .ok (.getfield 66, 3) := by decide +kernel
theorem dX10_read_46 : decode cX10_read 46 = .ok (.isub, 1) := by decide +kernel
theorem dX10_read_47 : decode cX10_read 47 = .ok (.putfield 103, 3) := by decide +kernel
theorem dX10_read_50 : decode cX10_read 50 = .ok (.aload_n 0, 1) := by decide +kernel
theorem dX10_read_51 : decode cX10_read 51 = .ok (.invokevirtual 106, 3) := by decide +kernel
theorem dX10_read_54 : decode cX10_read 54 = .ok (.aload_n 0, 1) := by decide +kernel
theorem dX10_read_55 : decode cX10_read 55 = .ok (.invokevirtual 109, 3) := by decide +kernel
theorem dX10_read_58 : decode cX10_read 58 = .ok (.aload_n 0, 1) := by decide +kernel
theorem dX10_read_59 : decode cX10_read 59 = .ok (.invokevirtual 86, 3) := by decide +kernel
theorem dX10_read_62 : decode cX10_read 62 = .ok (.ifCond .ne 5, 3) := by decide +kernel
theorem dX10_read_65 : decode cX10_read 65 = .ok (.iconst (-1), 1) := by decide +kernel
theorem dX10_read_66 : decode cX10_read 66 = .ok (.ireturn, 1) := by decide +kernel
theorem dX10_read_67 : decode cX10_read 67 = .ok (.aload_n 0, 1) := by decide +kernel
theorem dX10_read_68 : decode cX10_read 68 = .ok (.aload_n 0, 1) := by decide +kernel
theorem dX10_read_69 : decode cX10_read 69 = .ok (.getfield 103, 3) := by decide +kernel
theorem dX10_read_72 : decode cX10_read 72 = .ok (.putfield 66, 3) := by decide +kernel
theorem dX10_read_75 : decode cX10_read 75 = .ok (.aload_n 0, 1) := by decide +kernel
theorem dX10_read_76 : decode cX10_read 76 = .ok (.invokevirtual 69, 3) := by decide +kernel
theorem dX10_read_79 : decode cX10_read 79 = .ok (.ireturn, 1) := by decide +kernel
theorem dX10_must_0 : decode cX10_must 0 = .ok (.aload_n 0, 1) := by decide +kernel
theorem dX10_must_1 : decode cX10_must 1 = .ok (.invokevirtual 100, 3) := by decide +kernel
theorem dX10_must_4 : decode cX10_must 4 = .ok (.iload_n 1, 1) := by decide +kernel
theorem dX10_must_5 : decode cX10_must 5 = .ok (.if_icmp .eq 9, 3) := by decide +kernel
theorem dX10_must_8 : decode cX10_must 8 = .ok (.aload_n 0, 1) := by decide +kernel
theorem dX10_must_9 : decode cX10_must 9 = .ok (.iconst 1, 1) := by decide +kernel
theorem dX10_must_10 : decode cX10_must 10 = .ok (.iload_n 2, 1) := by decide +kernel
theorem dX10_must_11 : decode cX10_must 11 = .ok (.invokevirtual 96, 3) := by decide +kernel
theorem dX10_must_14 : decode cX10_must 14 = .ok (.return_, 1) := by decide +kernel
theorem dX10_readHead_0 : decode cX10_readHead 0 = .ok (.aload_n 0, 1) := by decide +kernel
theorem dX10_readHead_1 : decode cX10_readHead 1 = .ok (.bipush 71, 2) := by decide +kernel
theorem dX10_readHead_3 : decode cX10_readHead 3 = .ok (.iconst 0, 1) := by decide +kernel
theorem dX10_readHead_4 : decode cX10_readHead 4 = .ok (.invokevirtual 112, 3) := by decide +kernel
theorem dX10_readHead_7 : decode cX10_readHead 7 = .ok (.aload_n 0, 1) := by decide +kernel
theorem dX10_readHead_8 : decode cX10_readHead 8 = .ok (.bipush 73, 2) := by decide +kernel
theorem dX10_readHead_10 : decode cX10_readHead 10 = .ok (.iconst 0, 1) := by decide +kernel
theorem dX10_readHead_11 : decode cX10_readHead 11 = .ok (.invokevirtual 112, 3) := by decide +kernel
theorem dX10_readHead_14 : decode cX10_readHead 14 = .ok (.aload_n 0, 1) := by decide +kernel
theorem dX10_readHead_15 : decode cX10_readHead 15 = .ok (.bipush 70, 2) := by decide +kernel
theorem dX10_readHead_17 : decode cX10_readHead 17 = .ok (.iconst 0, 1) := by decide +kernel
theorem dX10_readHead_18 : decode cX10_readHead 18 = .ok (.invokevirtual 112, 3) := by decide +kernel
theorem dX10_readHead_21 : decode cX10_readHead 21 = .ok (.aload_n 0, 1) := by decide +kernel
theorem dX10_readHead_22 : decode cX10_readHead 22 = .ok (.bipush 56, 2) := by decide +kernel
theorem dX10_readHead_24 : decode cX10_readHead 24 = .ok (.iconst 0, 1) := by decide +kernel
theorem dX10_readHead_25 : decode cX10_readHead 25 = .ok (.invokevirtual 112, 3) := by decide +kernel
theorem dX10_readHead_28 : decode cX10_readHead 28 = .ok (.aload_n 0, 1) := by decide +kernel
theorem dX10_readHead_29 : decode cX10_readHead 29 = .ok (.invokevirtual 100, 3) := by decide +kernel
theorem dX10_readHead_32 : decode cX10_readHead 32 = .ok (.istore_n 1, 1) := by decide +kernel
theorem dX10_readHead_33 : decode cX10_readHead 33 = .ok (.iload_n 1, 1) := by decide +kernel
theorem dX10_readHead_34 : decode cX10_readHead 34 = .ok (.bipush 55, 2) := by decide +kernel
theorem dX10_readHead_36 : decode cX10_readHead 36 = .ok (.if_icmp .eq 15, 3) := by decide +kernel
theorem dX10_readHead_39 : decode cX10_readHead 39 = .ok (.iload_n 1, 1) := by decide +kernel
theorem dX10_readHead_40 : decode cX10_readHead 40 = .ok (.bipush 57, 2) := by decide +kernel
theorem dX10_readHead_42 : decode cX10_readHead 42 = .ok (.if_icmp .eq 9, 3) := by decide +kernel
theorem dX10_readHead_45 : decode cX10_readHead 45 = .ok (.aload_n 0, 1) := by decide +kernel
theorem dX10_readHead_46 : decode cX10_readHead 46 = .ok (.iconst 1, 1) := by decide +kernel
theorem dX10_readHead_47 : decode cX10_readHead 47 = .ok (.iconst 0, 1) := by decide +kernel
theorem dX10_readHead_48 : decode cX10_readHead 48 = .ok (.invokevirtual 96, 3) := by decide +kernel
theorem dX10_readHead_51 : decode cX10_readHead 51 = .ok (.aload_n 0, 1) := by decide +kernel
theorem dX10_readHead_52 : decode cX10_readHead 52 = .ok (.iload_n 1, 1) := by decide +kernel
theorem dX10_readHead_53 : decode cX10_readHead 53 = .ok (.bipush 55, 2) := by decide +kernel
theorem dX10_readHead_55 : decode cX10_readHead 55 = .ok (.if_icmp .ne 7, 3) := by decide +kernel
theorem dX10_readHead_58 : decode cX10_readHead 58 = .ok (.iconst 1, 1) := by decide +kernel
theorem dX10_readHead_59 : decode cX10_readHead 59 = .ok (.goto 4, 3) := by decide +kernel
theorem dX10_readHead_62 : decode cX10_readHead 62 = .ok (.iconst 0, 1) := by decide +kernel
theorem dX10_readHead_63 : decode cX10_readHead 63 = .ok (.putfield 115, 3) := by decide +kernel
theorem dX10_readHead_66 : decode cX10_readHead 66 = .ok (.aload_n 0, 1) := by decide +kernel
theorem dX10_readHead_67 : decode cX10_readHead 67 = .ok (.bipush 97, 2) := by decide +kernel
theorem dX10_readHead_69 : decode cX10_readHead 69 = .ok (.iconst 0, 1) := by decide +kernel
theorem dX10_readHead_70 : decode cX10_readHead 70 = .ok (.invokevirtual 112, 3) := by decide +kernel
theorem dX10_readHead_73 : decode cX10_readHead 73 = .ok (.iconst 0, 1) := by decide +kernel
theorem dX10_readHead_74 : decode cX10_readHead 74 = .ok (.istore_n 2, 1) := by decide +kernel
theorem dX10_readHead_75 : decode cX10_readHead 75 = .ok (.iload_n 2, 1) := by decide +kernel
theorem dX10_readHead_76 : decode cX10_readHead 76 = .ok (.iconst 2, 1) := by decide +kernel
theorem dX10_readHead_77 : decode cX10_readHead 77 = .ok (.if_icmp .ge 55, 3) := by decide +kernel
theorem dX10_readHead_80 : decode cX10_readHead 80 = .ok (.aload_n 0, 1) := by decide +kernel
theorem dX10_readHead_81 : decode cX10_readHead 81 = .ok (.getfield 90, 3) := by decide +kernel
theorem dX10_readHead_84 : decode cX10_readHead 84 = .ok (.istore_n 3, 1) := by decide +kernel
theorem dX10_readHead_85 : decode cX10_readHead 85 = .ok (.aload_n 0, 1) := by decide +kernel
theorem dX10_readHead_86 : decode cX10_readHead 86 = .ok (.invokevirtual 119, 3) := by decide +kernel
theorem dX10_readHead_89 : decode cX10_readHead 89 = .ok (.istore 4, 2) := by decide +kernel
theorem dX10_readHead_91 : decode cX10_readHead 91 = .ok (.iload 4, 2) := by decide +kernel
theorem dX10_readHead_93 : decode cX10_readHead 93 = .ok (.iconst 1, 1) := by decide +kernel
theorem dX10_readHead_94 : decode cX10_readHead 94 = .ok (.if_icmp .lt 10, 3) := by decide +kernel
theorem dX10_readHead_97 : decode cX10_readHead 97 = .ok (.iload 4, 2) := by decide +kernel
theorem dX10_readHead_99 : decode cX10_readHead 99 = .ok (.bipush 64, 2) := by decide +kernel
theorem dX10_readHead_101 : decode cX10_readHead 101 = .ok (.if_icmp .le 9, 3) := by decide +kernel
theorem dX10_readHead_104 : decode cX10_readHead 104 = .ok (.aload_n 0, 1) := by decide +kernel
theorem dX10_readHead_105 : decode cX10_readHead 105 = .ok (.iconst 3, 1) := by decide +kernel
theorem dX10_readHead_106 : decode cX10_readHead 106 = .ok (.iload_n 3, 1) := by decide +kernel
theorem dX10_readHead_107 : decode cX10_readHead 107 = .ok (.invokevirtual 96, 3) := by decide +kernel
theorem dX10_readHead_110 : decode cX10_readHead 110 = .ok (.aload_n 0, 1) := by decide +kernel
theorem dX10_readHead_111 : decode cX10_readHead 111 = .ok (.getfield 23, 3) := by decide +kernel
theorem dX10_readHead_114 : decode cX10_readHead 114 = .ok (.bipush 6, 2) := by decide +kernel
theorem dX10_readHead_116 : decode cX10_readHead 116 = .ok (.aload_n 0, 1) := by decide +kernel
theorem dX10_readHead_117 : decode cX10_readHead 117 = .ok (.getfield 103, 3) := by decide +kernel
theorem dX10_readHead_120 : decode cX10_readHead 120 = .ok (.imul, 1) := by decide +kernel
theorem dX10_readHead_121 : decode cX10_readHead 121 = .ok (.iload_n 2, 1) := by decide +kernel
theorem dX10_readHead_122 : decode cX10_readHead 122 = .ok (.iadd, 1) := by decide +kernel
theorem dX10_readHead_123 : decode cX10_readHead 123 = .ok (.iload 4, 2) := by decide +kernel
theorem dX10_readHead_125 : decode cX10_readHead 125 = .ok (.iastore, 1) := by decide +kernel
theorem dX10_readHead_126 : decode cX10_readHead 126 = .ok (.iinc 2 1, 3) := by decide +kernel
theorem dX10_readHead_129 : decode cX10_readHead 129 = .ok (.goto (-54), 3) := by decide +kernel
theorem dX10_readHead_132 : decode cX10_readHead 132 = .ok (.aload_n 0, 1) := by decide +kernel
theorem dX10_readHead_133 : decode cX10_readHead 133 = .ok (.invokevirtual 100, 3) := by decide +kernel
theorem dX10_readHead_136 : decode cX10_readHead 136 = .ok (.istore_n 2, 1) := by decide +kernel
theorem dX10_readHead_137 : decode cX10_readHead 137 = .ok (.aload_n 0, 1) := by decide +kernel
theorem dX10_readHead_138 : decode cX10_readHead 138 = .ok (.getfield 23, 3) := by decide +kernel
theorem dX10_readHead_141 : decode cX10_readHead 141 = .ok (.bipush 6, 2) := by decide +kernel
theorem dX10_readHead_143 : decode cX10_readHead 143 = .ok (.aload_n 0, 1) := by decide +kernel
theorem dX10_readHead_144 : decode cX10_readHead 144 = .ok (.getfield 103, 3) := by decide +kernel
theorem dX10_readHead_147 : decode cX10_readHead 147 = .ok (.imul, 1) := by decide +kernel
theorem dX10_readHead_148 : decode cX10_readHead 148 = .ok (.iconst 3, 1) := by decide +kernel
theorem dX10_readHead_149 : decode cX10_readHead 149 = .ok (.iadd, 1) := by decide +kernel
theorem dX10_readHead_150 : decode cX10_readHead 150 = .ok (.aload_n 0, 1) := by decide +kernel
theorem dX10_readHead_151 : decode cX10_readHead 151 = .ok (.invokevirtual 100, 3) := by decide +kernel
theorem dX10_readHead_154 : decode cX10_readHead 154 = .ok (.iastore, 1) := by decide +kernel
theorem dX10_readHead_155 : decode cX10_readHead 155 = .ok (.aload_n 0, 1) := by decide +kernel
theorem dX10_readHead_156 : decode cX10_readHead 156 = .ok (.getfield 23, 3) := by decide +kernel
theorem dX10_readHead_159 : decode cX10_readHead 159 = .ok (.bipush 6, 2) := by decide +kernel
theorem dX10_readHead_161 : decode cX10_readHead 161 = .ok (.aload_n 0, 1) := by decide +kernel
theorem dX10_readHead_162 : decode cX10_readHead 162 = .ok (.getfield 103, 3) := by decide +kernel
theorem dX10_readHead_165 : decode cX10_readHead 165 = .ok (.imul, 1) := by decide +kernel
theorem dX10_readHead_166 : decode cX10_readHead 166 = .ok (.iconst 4, 1) := by decide +kernel
theorem dX10_readHead_167 : decode cX10_readHead 167 = .ok (.iadd, 1) := by decide +kernel
theorem dX10_readHead_168 : decode cX10_readHead 168 = .ok (.aload_n 0, 1) := by decide +kernel
theorem dX10_readHead_169 : decode cX10_readHead 169 = .ok (.invokevirtual 100, 3) := by decide +kernel
theorem dX10_readHead_172 : decode cX10_readHead 172 = .ok (.iastore, 1) := by decide +kernel
theorem dX10_readHead_173 : decode cX10_readHead 173 = .ok (.aload_n 0, 1) := by decide +kernel
theorem dX10_readHead_174 : decode cX10_readHead 174 = .ok (.getfield 23, 3) := by decide +kernel
theorem dX10_readHead_177 : decode cX10_readHead 177 = .ok (.bipush 6, 2) := by decide +kernel
theorem dX10_readHead_179 : decode cX10_readHead 179 = .ok (.aload_n 0, 1) := by decide +kernel
theorem dX10_readHead_180 : decode cX10_readHead 180 = .ok (.getfield 103, 3) := by decide +kernel
theorem dX10_readHead_183 : decode cX10_readHead 183 = .ok (.imul, 1) := by decide +kernel
theorem dX10_readHead_184 : decode cX10_readHead 184 = .ok (.iconst 5, 1) := by decide +kernel
theorem dX10_readHead_185 : decode cX10_readHead 185 = .ok (.iadd, 1) := by decide +kernel
theorem dX10_readHead_186 : decode cX10_readHead 186 = .ok (.iconst 0, 1) := by decide +kernel
theorem dX10_readHead_187 : decode cX10_readHead 187 = .ok (.iastore, 1) := by decide +kernel
theorem dX10_readHead_188 : decode cX10_readHead 188 = .ok (.aload_n 0, 1) := by decide +kernel
theorem dX10_readHead_189 : decode cX10_readHead 189 = .ok (.getfield 23, 3) := by decide +kernel
theorem dX10_readHead_192 : decode cX10_readHead 192 = .ok (.bipush 6, 2) := by decide +kernel
theorem dX10_readHead_194 : decode cX10_readHead 194 = .ok (.aload_n 0, 1) := by decide +kernel
theorem dX10_readHead_195 : decode cX10_readHead 195 = .ok (.getfield 103, 3) := by decide +kernel
theorem dX10_readHead_198 : decode cX10_readHead 198 = .ok (.imul, 1) := by decide +kernel
theorem dX10_readHead_199 : decode cX10_readHead 199 = .ok (.iconst 2, 1) := by decide +kernel
theorem dX10_readHead_200 : decode cX10_readHead 200 = .ok (.iadd, 1) := by decide +kernel
theorem dX10_readHead_201 : decode cX10_readHead 201 = .ok (.iload_n 2, 1) := by decide +kernel
theorem dX10_readHead_202 : decode cX10_readHead 202 = .ok (.bipush 127, 2) := by decide +kernel
theorem dX10_readHead_204 : decode cX10_readHead 204 = .ok (.if_icmp .le 12, 3) := by decide +kernel
theorem dX10_readHead_207 : decode cX10_readHead 207 = .ok (.iconst 2, 1) := by decide +kernel
theorem dX10_readHead_208 : decode cX10_readHead 208 = .ok (.iload_n 2, 1) := by decide +kernel
theorem dX10_readHead_209 : decode cX10_readHead 209 = .ok (.bipush 7, 2) := by decide +kernel
theorem dX10_readHead_211 : decode cX10_readHead 211 = .ok (.iand, 1) := by decide +kernel
theorem dX10_readHead_212 : decode cX10_readHead 212 = .ok (.ishl, 1) := by decide +kernel
theorem dX10_readHead_213 : decode cX10_readHead 213 = .ok (.goto 4, 3) := by decide +kernel
theorem dX10_readHead_216 : decode cX10_readHead 216 = .ok (.iconst 0, 1) := by decide +kernel
theorem dX10_readHead_217 : decode cX10_readHead 217 = .ok (.iastore, 1) := by decide +kernel
theorem dX10_readHead_218 : decode cX10_readHead 218 = .ok (.aload_n 0, 1) := by decide +kernel
theorem dX10_readHead_219 : decode cX10_readHead 219 = .ok (.aload_n 0, 1) := by decide +kernel
theorem dX10_readHead_220 : decode cX10_readHead 220 = .ok (.getfield 27, 3) := by decide +kernel
theorem dX10_readHead_223 : decode cX10_readHead 223 = .ok (.sipush 256, 3) := by decide +kernel
theorem dX10_readHead_226 : decode cX10_readHead 226 = .ok (.aload_n 0, 1) := by decide +kernel
theorem dX10_readHead_227 : decode cX10_readHead 227 = .ok (.getfield 103, 3) := by decide +kernel
theorem dX10_readHead_230 : decode cX10_readHead 230 = .ok (.imul, 1) := by decide +kernel
theorem dX10_readHead_231 : decode cX10_readHead 231 = .ok (.aload_n 0, 1) := by decide +kernel
theorem dX10_readHead_232 : decode cX10_readHead 232 = .ok (.getfield 23, 3) := by decide +kernel
theorem dX10_readHead_235 : decode cX10_readHead 235 = .ok (.bipush 6, 2) := by decide +kernel
theorem dX10_readHead_237 : decode cX10_readHead 237 = .ok (.aload_n 0, 1) := by decide +kernel
theorem dX10_readHead_238 : decode cX10_readHead 238 = .ok (.getfield 103, 3) := by decide +kernel
theorem dX10_readHead_241 : decode cX10_readHead 241 = .ok (.imul, 1) := by decide +kernel
theorem dX10_readHead_242 : decode cX10_readHead 242 = .ok (.iconst 2, 1) := by decide +kernel
theorem dX10_readHead_243 : decode cX10_readHead 243 = .ok (.iadd, 1) := by decide +kernel
theorem dX10_readHead_244 : decode cX10_readHead 244 = .ok (.iaload, 1) := by decide +kernel
theorem dX10_readHead_245 : decode cX10_readHead 245 = .ok (.invokevirtual 122, 3) := by decide +kernel
theorem dX10_readHead_248 : decode cX10_readHead 248 = .ok (.return_, 1) := by decide +kernel
theorem dX10_readTable_0 : decode cX10_readTable 0 = .ok (.iconst 0, 1) := by decide +kernel
theorem dX10_readTable_1 : decode cX10_readTable 1 = .ok (.istore 4, 2) := by decide +kernel
theorem dX10_readTable_3 : decode cX10_readTable 3 = .ok (.iload 4, 2) := by decide +kernel
theorem dX10_readTable_5 : decode cX10_readTable 5 = .ok (.iload_n 3, 1) := by decide +kernel
theorem dX10_readTable_6 : decode cX10_readTable 6 = .ok (.if_icmp .ge 50, 3) := by decide +kernel
theorem dX10_readTable_9 : decode cX10_readTable 9 = .ok (.aload_n 0, 1) := by decide +kernel
theorem dX10_readTable_10 : decode cX10_readTable 10 = .ok (.invokevirtual 86, 3) := by decide +kernel
theorem dX10_readTable_13 : decode cX10_readTable 13 = .ok (.ifCond .eq 43, 3) := by decide +kernel
theorem dX10_readTable_16 : decode cX10_readTable 16 = .ok (.aload_n 0, 1) := by decide +kernel
theorem dX10_readTable_17 : decode cX10_readTable 17 = .ok (.invokevirtual 100, 3) := by decide +kernel
theorem dX10_readTable_20 : decode cX10_readTable 20 = .ok (.bipush 16, 2) := by decide +kernel
theorem dX10_readTable_22 : decode cX10_readTable 22 = .ok (.ishl, 1) := by decide +kernel
theorem dX10_readTable_23 : decode cX10_readTable 23 = .ok (.istore 5, 2) := by decide +kernel
theorem dX10_readTable_25 : decode cX10_readTable 25 = .ok (.iload 5, 2) := by decide +kernel
theorem dX10_readTable_27 : decode cX10_readTable 27 = .ok (.aload_n 0, 1) := by decide +kernel
theorem dX10_readTable_28 : decode cX10_readTable 28 = .ok (.invokevirtual 100, 3) := by decide +kernel
theorem dX10_readTable_31 : decode cX10_readTable 31 = .ok (.bipush 8, 2) := by decide +kernel
theorem dX10_readTable_33 : decode cX10_readTable 33 = .ok (.ishl, 1) := by decide +kernel
theorem dX10_readTable_34 : decode cX10_readTable 34 = .ok (.ior, 1) := by decide +kernel
theorem dX10_readTable_35 : decode cX10_readTable 35 = .ok (.istore 5, 2) := by decide +kernel
theorem dX10_readTable_37 : decode cX10_readTable 37 = .ok (.aload_n 1, 1) := by decide +kernel
theorem dX10_readTable_38 : decode cX10_readTable 38 = .ok (.iload_n 2, 1) := by decide +kernel
theorem dX10_readTable_39 : decode cX10_readTable 39 = .ok (.iload 4, 2) := by decide +kernel
theorem dX10_readTable_41 : decode cX10_readTable 41 = .ok (.iadd, 1) := by decide +kernel
theorem dX10_readTable_42 : decode cX10_readTable 42 = .ok (.iload 5, 2) := by decide +kernel
theorem dX10_readTable_44 : decode cX10_readTable 44 = .ok (.aload_n 0, 1) := by decide +kernel
theorem dX10_readTable_45 : decode cX10_readTable 45 = .ok (.invokevirtual 100, 3) := by decide +kernel
theorem dX10_readTable_48 : decode cX10_readTable 48 = .ok (.ior, 1) := by decide +kernel
theorem dX10_readTable_49 : decode cX10_readTable 49 = .ok (.iastore, 1) := by decide +kernel
theorem dX10_readTable_50 : decode cX10_readTable 50 = .ok (.iinc 4 1, 3) := by decide +kernel
theorem dX10_readTable_53 : decode cX10_readTable 53 = .ok (.goto (-50), 3) := by decide +kernel
theorem dX10_readTable_56 : decode cX10_readTable 56 = .ok (.return_, 1) := by decide +kernel
theorem dX10_forget_0 : decode cX10_forget 0 = .ok (.aload_n 0, 1) := by decide +kernel
theorem dX10_forget_1 : decode cX10_forget 1 = .ok (.iconst 0, 1) := by decide +kernel
theorem dX10_forget_2 : decode cX10_forget 2 = .ok (.putfield 126, 3) := by decide +kernel
theorem dX10_forget_5 : decode cX10_forget 5 = .ok (.aload_n 0, 1) := by decide +kernel
theorem dX10_forget_6 : decode cX10_forget 6 = .ok (.iconst 0, 1) := by decide +kernel
theorem dX10_forget_7 : decode cX10_forget 7 = .ok (.putfield 129, 3) := by decide +kernel
theorem dX10_forget_10 : decode cX10_forget 10 = .ok (.aload_n 0, 1) := by decide +kernel
theorem dX10_forget_11 : decode cX10_forget 11 = .ok (.iconst (-1), 1) := by decide +kernel
theorem dX10_forget_12 : decode cX10_forget 12 = .ok (.putfield 132, 3) := by decide +kernel
theorem dX10_forget_15 : decode cX10_forget 15 = .ok (.aload_n 0, 1) := by decide +kernel
theorem dX10_forget_16 : decode cX10_forget 16 = .ok (.iconst 0, 1) := by decide +kernel
theorem dX10_forget_17 : decode cX10_forget 17 = .ok (.putfield 135, 3) := by decide +kernel
theorem dX10_forget_20 : decode cX10_forget 20 = .ok (.aload_n 0, 1) := by decide +kernel
theorem dX10_forget_21 : decode cX10_forget 21 = .ok (.iconst 0, 1) := by decide +kernel
theorem dX10_forget_22 : decode cX10_forget 22 = .ok (.putfield 138, 3) := by decide +kernel
theorem dX10_forget_25 : decode cX10_forget 25 = .ok (.return_, 1) := by decide +kernel
theorem dX10_readBlocks_0 : decode cX10_readBlocks 0 = .ok (.aload_n 0, 1) := by decide +kernel
theorem dX10_readBlocks_1 : decode cX10_readBlocks 1 = .ok (.invokevirtual 141, 3) := by decide +kernel
theorem dX10_readBlocks_4 : decode cX10_readBlocks 4 = .ok (.aload_n 0, 1) := by decide +kernel
theorem dX10_readBlocks_5 : decode cX10_readBlocks 5 = .ok (.invokevirtual 86, 3) := by decide +kernel
theorem dX10_readBlocks_8 : decode cX10_readBlocks 8 = .ok (.istore_n 1, 1) := by decide +kernel
theorem dX10_readBlocks_9 : decode cX10_readBlocks 9 = .ok (.iload_n 1, 1) := by decide +kernel
theorem dX10_readBlocks_10 : decode cX10_readBlocks 10 = .ok (.ifCond .eq 99, 3) := by decide +kernel
theorem dX10_readBlocks_13 : decode cX10_readBlocks 13 = .ok (.aload_n 0, 1) := by decide +kernel
theorem dX10_readBlocks_14 : decode cX10_readBlocks 14 = .ok (.getfield 90, 3) := by decide +kernel
theorem dX10_readBlocks_17 : decode cX10_readBlocks 17 = .ok (.istore_n 2, 1) := by decide +kernel
theorem dX10_readBlocks_18 : decode cX10_readBlocks 18 = .ok (.aload_n 0, 1) := by decide +kernel
theorem dX10_readBlocks_19 : decode cX10_readBlocks 19 = .ok (.invokevirtual 100, 3) := by decide +kernel
theorem dX10_readBlocks_22 : decode cX10_readBlocks 22 = .ok (.istore_n 3, 1) := by decide +kernel
theorem dX10_readBlocks_23 : decode cX10_readBlocks 23 = .ok (.aload_n 0, 1) := by decide +kernel
theorem dX10_readBlocks_24 : decode cX10_readBlocks 24 = .ok (.invokevirtual 86, 3) := by decide +kernel
theorem dX10_readBlocks_27 : decode cX10_readBlocks 27 = .ok (.ifCond .ne 4, 3) := by decide +kernel
theorem dX10_readBlocks_30 : decode cX10_readBlocks 30 = .ok (.return_, 1) := by decide +kernel
theorem dX10_readBlocks_31 : decode cX10_readBlocks 31 = .ok (.iload_n 3, 1) := by decide +kernel
theorem dX10_readBlocks_32 : decode cX10_readBlocks 32 = .ok (.bipush 44, 2) := by decide +kernel
theorem dX10_readBlocks_34 : decode cX10_readBlocks 34 = .ok (.if_icmp .ne 11, 3) := by decide +kernel
theorem dX10_readBlocks_37 : decode cX10_readBlocks 37 = .ok (.aload_n 0, 1) := by decide +kernel
theorem dX10_readBlocks_38 : decode cX10_readBlocks 38 = .ok (.iload_n 2, 1) := by decide +kernel
theorem dX10_readBlocks_39 : decode cX10_readBlocks 39 = .ok (.invokevirtual 144, 3) := by decide +kernel
theorem dX10_readBlocks_42 : decode cX10_readBlocks 42 = .ok (.goto 47, 3) := by decide +kernel
theorem dX10_readBlocks_45 : decode cX10_readBlocks 45 = .ok (.iload_n 3, 1) := by decide +kernel
theorem dX10_readBlocks_46 : decode cX10_readBlocks 46 = .ok (.bipush 33, 2) := by decide +kernel
theorem dX10_readBlocks_48 : decode cX10_readBlocks 48 = .ok (.if_icmp .ne 17, 3) := by decide +kernel
theorem dX10_readBlocks_51 : decode cX10_readBlocks 51 = .ok (.aload_n 0, 1) := by decide +kernel
theorem dX10_readBlocks_52 : decode cX10_readBlocks 52 = .ok (.getfield 115, 3) := by decide +kernel
theorem dX10_readBlocks_55 : decode cX10_readBlocks 55 = .ok (.ifCond .ne 10, 3) := by decide +kernel
theorem dX10_readBlocks_58 : decode cX10_readBlocks 58 = .ok (.aload_n 0, 1) := by decide +kernel
theorem dX10_readBlocks_59 : decode cX10_readBlocks 59 = .ok (.invokevirtual 148, 3) := by decide +kernel
theorem dX10_readBlocks_62 : decode cX10_readBlocks 62 = .ok (.goto 27, 3) := by decide +kernel
theorem dX10_readBlocks_65 : decode cX10_readBlocks 65 = .ok (.iload_n 3, 1) := by decide +kernel
theorem dX10_readBlocks_66 : decode cX10_readBlocks 66 = .ok (.bipush 59, 2) := by decide +kernel
theorem dX10_readBlocks_68 : decode cX10_readBlocks 68 = .ok (.if_icmp .ne 15, 3) := by decide +kernel
theorem dX10_readBlocks_71 : decode cX10_readBlocks 71 = .ok (.aload_n 0, 1) := by decide +kernel
theorem dX10_readBlocks_72 : decode cX10_readBlocks 72 = .ok (.getfield 126, 3) := by decide +kernel
theorem dX10_readBlocks_75 : decode cX10_readBlocks 75 = .ok (.ifCond .ne 8, 3) := by decide +kernel
theorem dX10_readBlocks_78 : decode cX10_readBlocks 78 = .ok (.iconst 0, 1) := by decide +kernel
theorem dX10_readBlocks_79 : decode cX10_readBlocks 79 = .ok (.istore_n 1, 1) := by decide +kernel
theorem dX10_readBlocks_80 : decode cX10_readBlocks 80 = .ok (.goto 9, 3) := by decide +kernel
theorem dX10_readBlocks_83 : decode cX10_readBlocks 83 = .ok (.aload_n 0, 1) := by decide +kernel
theorem dX10_readBlocks_84 : decode cX10_readBlocks 84 = .ok (.iconst 4, 1) := by decide +kernel
theorem dX10_readBlocks_85 : decode cX10_readBlocks 85 = .ok (.iload_n 2, 1) := by decide +kernel
theorem dX10_readBlocks_86 : decode cX10_readBlocks 86 = .ok (.invokevirtual 96, 3) := by decide +kernel
theorem dX10_readBlocks_89 : decode cX10_readBlocks 89 = .ok (.iload_n 1, 1) := by decide +kernel
theorem dX10_readBlocks_90 : decode cX10_readBlocks 90 = .ok (.ifCond .eq 14, 3) := by decide +kernel
theorem dX10_readBlocks_93 : decode cX10_readBlocks 93 = .ok (.aload_n 0, 1) := by decide +kernel
theorem dX10_readBlocks_94 : decode cX10_readBlocks 94 = .ok (.invokevirtual 86, 3) := by decide +kernel
theorem dX10_readBlocks_97 : decode cX10_readBlocks 97 = .ok (.ifCond .eq 7, 3) := by decide +kernel
theorem dX10_readBlocks_100 : decode cX10_readBlocks 100 = .ok (.iconst 1, 1) := by decide +kernel
theorem dX10_readBlocks_101 : decode cX10_readBlocks 101 = .ok (.goto 4, 3) := by decide +kernel
theorem dX10_readBlocks_104 : decode cX10_readBlocks 104 = .ok (.iconst 0, 1) := by decide +kernel
theorem dX10_readBlocks_105 : decode cX10_readBlocks 105 = .ok (.istore_n 1, 1) := by decide +kernel
theorem dX10_readBlocks_106 : decode cX10_readBlocks 106 = .ok (.goto (-97), 3) := by decide +kernel
theorem dX10_readBlocks_109 : decode cX10_readBlocks 109 = .ok (.aload_n 0, 1) := by decide +kernel
theorem dX10_readBlocks_110 : decode cX10_readBlocks 110 = .ok (.invokevirtual 86, 3) := by decide +kernel
theorem dX10_readBlocks_113 : decode cX10_readBlocks 113 = .ok (.ifCond .eq 24, 3) := by decide +kernel
theorem dX10_readBlocks_116 : decode cX10_readBlocks 116 = .ok (.aload_n 0, 1) := by decide +kernel
theorem dX10_readBlocks_117 : decode cX10_readBlocks 117 = .ok (.getfield 90, 3) := by decide +kernel
theorem dX10_readBlocks_120 : decode cX10_readBlocks 120 = .ok (.aload_n 0, 1) := by decide +kernel
theorem dX10_readBlocks_121 : decode cX10_readBlocks 121 = .ok (.getfield 93, 3) := by decide +kernel
theorem dX10_readBlocks_124 : decode cX10_readBlocks 124 = .ok (.if_icmp .ge 13, 3) := by decide +kernel
theorem dX10_readBlocks_127 : decode cX10_readBlocks 127 = .ok (.aload_n 0, 1) := by decide +kernel
theorem dX10_readBlocks_128 : decode cX10_readBlocks 128 = .ok (.bipush 10, 2) := by decide +kernel
theorem dX10_readBlocks_130 : decode cX10_readBlocks 130 = .ok (.aload_n 0, 1) := by decide +kernel
theorem dX10_readBlocks_131 : decode cX10_readBlocks 131 = .ok (.getfield 90, 3) := by decide +kernel
theorem dX10_readBlocks_134 : decode cX10_readBlocks 134 = .ok (.invokevirtual 96, 3) := by decide +kernel
theorem dX10_readBlocks_137 : decode cX10_readBlocks 137 = .ok (.return_, 1) := by decide +kernel
theorem dX10_length_0 : decode cX10_length 0 = .ok (.aload_n 0, 1) := by decide +kernel
theorem dX10_length_1 : decode cX10_length 1 = .ok (.getfield 90, 3) := by decide +kernel
theorem dX10_length_4 : decode cX10_length 4 = .ok (.istore_n 2, 1) := by decide +kernel
theorem dX10_length_5 : decode cX10_length 5 = .ok (.aload_n 0, 1) := by decide +kernel
theorem dX10_length_6 : decode cX10_length 6 = .ok (.invokevirtual 100, 3) := by decide +kernel
theorem dX10_length_9 : decode cX10_length 9 = .ok (.iload_n 1, 1) := by decide +kernel
theorem dX10_length_10 : decode cX10_length 10 = .ok (.if_icmp .eq 9, 3) := by decide +kernel
theorem dX10_length_13 : decode cX10_length 13 = .ok (.aload_n 0, 1) := by decide +kernel
theorem dX10_length_14 : decode cX10_length 14 = .ok (.iconst 5, 1) := by decide +kernel
theorem dX10_length_15 : decode cX10_length 15 = .ok (.iload_n 2, 1) := by decide +kernel
theorem dX10_length_16 : decode cX10_length 16 = .ok (.invokevirtual 96, 3) := by decide +kernel
theorem dX10_length_19 : decode cX10_length 19 = .ok (.return_, 1) := by decide +kernel
theorem dX10_skip_0 : decode cX10_skip 0 = .ok (.iconst 0, 1) := by decide +kernel
theorem dX10_skip_1 : decode cX10_skip 1 = .ok (.istore_n 2, 1) := by decide +kernel
theorem dX10_skip_2 : decode cX10_skip 2 = .ok (.iload_n 2, 1) := by decide +kernel
theorem dX10_skip_3 : decode cX10_skip 3 = .ok (.iload_n 1, 1) := by decide +kernel
theorem dX10_skip_4 : decode cX10_skip 4 = .ok (.if_icmp .ge 14, 3) := by decide +kernel
theorem dX10_skip_7 : decode cX10_skip 7 = .ok (.aload_n 0, 1) := by decide +kernel
theorem dX10_skip_8 : decode cX10_skip 8 = .ok (.invokevirtual 100, 3) := by decide +kernel
theorem dX10_skip_11 : decode cX10_skip 11 = .ok (.pop, 1) := by decide +kernel
theorem dX10_skip_12 : decode cX10_skip 12 = .ok (.iinc 2 1, 3) := by decide +kernel
theorem dX10_skip_15 : decode cX10_skip 15 = .ok (.goto (-13), 3) := by decide +kernel
theorem dX10_skip_18 : decode cX10_skip 18 = .ok (.return_, 1) := by decide +kernel
theorem dX10_rows_0 : decode cX10_rows 0 = .ok (.aload_n 0, 1) := by decide +kernel
theorem dX10_rows_1 : decode cX10_rows 1 = .ok (.invokevirtual 100, 3) := by decide +kernel
theorem dX10_rows_4 : decode cX10_rows 4 = .ok (.istore_n 1, 1) := by decide +kernel
theorem dX10_rows_5 : decode cX10_rows 5 = .ok (.aload_n 0, 1) := by decide +kernel
theorem dX10_rows_6 : decode cX10_rows 6 = .ok (.invokevirtual 86, 3) := by decide +kernel
theorem dX10_rows_9 : decode cX10_rows 9 = .ok (.ifCond .eq 20, 3) := by decide +kernel
theorem dX10_rows_12 : decode cX10_rows 12 = .ok (.iload_n 1, 1) := by decide +kernel
theorem dX10_rows_13 : decode cX10_rows 13 = .ok (.ifCond .le 16, 3) := by decide +kernel
theorem dX10_rows_16 : decode cX10_rows 16 = .ok (.aload_n 0, 1) := by decide +kernel
theorem dX10_rows_17 : decode cX10_rows 17 = .ok (.iload_n 1, 1) := by decide +kernel
theorem dX10_rows_18 : decode cX10_rows 18 = .ok (.invokevirtual 151, 3) := by decide +kernel
theorem dX10_rows_21 : decode cX10_rows 21 = .ok (.aload_n 0, 1) := by decide +kernel
theorem dX10_rows_22 : decode cX10_rows 22 = .ok (.invokevirtual 100, 3) := by decide +kernel
theorem dX10_rows_25 : decode cX10_rows 25 = .ok (.istore_n 1, 1) := by decide +kernel
theorem dX10_rows_26 : decode cX10_rows 26 = .ok (.goto (-21), 3) := by decide +kernel
theorem dX10_rows_29 : decode cX10_rows 29 = .ok (.return_, 1) := by decide +kernel
theorem dX10_readMore_0 : decode cX10_readMore 0 = .ok (.aload_n 0, 1) := by decide +kernel
theorem dX10_readMore_1 : decode cX10_readMore 1 = .ok (.getfield 90, 3) := by decide +kernel
theorem dX10_readMore_4 : decode cX10_readMore 4 = .ok (.istore_n 1, 1) := by decide +kernel
theorem dX10_readMore_5 : decode cX10_readMore 5 = .ok (.aload_n 0, 1) := by decide +kernel
theorem dX10_readMore_6 : decode cX10_readMore 6 = .ok (.invokevirtual 100, 3) := by decide +kernel
theorem dX10_readMore_9 : decode cX10_readMore 9 = .ok (.istore_n 2, 1) := by decide +kernel
theorem dX10_readMore_10 : decode cX10_readMore 10 = .ok (.iload_n 2, 1) := by decide +kernel
theorem dX10_readMore_11 : decode cX10_readMore 11 = .ok (.sipush 249, 3) := by decide +kernel
theorem dX10_readMore_14 : decode cX10_readMore 14 = .ok (.if_icmp .ne 83, 3) := by decide +kernel
theorem dX10_readMore_17 : decode cX10_readMore 17 = .ok (.aload_n 0, 1) := by decide +kernel
theorem dX10_readMore_18 : decode cX10_readMore 18 = .ok (.getfield 126, 3) := by decide +kernel
theorem dX10_readMore_21 : decode cX10_readMore 21 = .ok (.ifCond .ne 76, 3) := by decide +kernel
theorem dX10_readMore_24 : decode cX10_readMore 24 = .ok (.aload_n 0, 1) := by decide +kernel
theorem dX10_readMore_25 : decode cX10_readMore 25 = .ok (.iconst 4, 1) := by decide +kernel
theorem dX10_readMore_26 : decode cX10_readMore 26 = .ok (.invokevirtual 154, 3) := by decide +kernel
theorem dX10_readMore_29 : decode cX10_readMore 29 = .ok (.aload_n 0, 1) := by decide +kernel
theorem dX10_readMore_30 : decode cX10_readMore 30 = .ok (.invokevirtual 100, 3) := by decide +kernel
theorem dX10_readMore_33 : decode cX10_readMore 33 = .ok (.istore_n 3, 1) := by decide +kernel
theorem dX10_readMore_34 : decode cX10_readMore 34 = .ok (.aload_n 0, 1) := by decide +kernel
theorem dX10_readMore_35 : decode cX10_readMore 35 = .ok (.aload_n 0, 1) := by decide +kernel
theorem dX10_readMore_36 : decode cX10_readMore 36 = .ok (.invokevirtual 119, 3) := by decide +kernel
theorem dX10_readMore_39 : decode cX10_readMore 39 = .ok (.putfield 135, 3) := by decide +kernel
theorem dX10_readMore_42 : decode cX10_readMore 42 = .ok (.aload_n 0, 1) := by decide +kernel
theorem dX10_readMore_43 : decode cX10_readMore 43 = .ok (.invokevirtual 100, 3) := by decide +kernel
theorem dX10_readMore_46 : decode cX10_readMore 46 = .ok (.istore 4, 2) := by decide +kernel
theorem dX10_readMore_48 : decode cX10_readMore 48 = .ok (.aload_n 0, 1) := by decide +kernel
theorem dX10_readMore_49 : decode cX10_readMore 49 = .ok (.iconst 0, 1) := by decide +kernel
theorem dX10_readMore_50 : decode cX10_readMore 50 = .ok (.invokevirtual 154, 3) := by decide +kernel
theorem dX10_readMore_53 : decode cX10_readMore 53 = .ok (.aload_n 0, 1) := by decide +kernel
theorem dX10_readMore_54 : decode cX10_readMore 54 = .ok (.iconst 1, 1) := by decide +kernel
theorem dX10_readMore_55 : decode cX10_readMore 55 = .ok (.putfield 126, 3) := by decide +kernel
theorem dX10_readMore_58 : decode cX10_readMore 58 = .ok (.aload_n 0, 1) := by decide +kernel
theorem dX10_readMore_59 : decode cX10_readMore 59 = .ok (.iload_n 3, 1) := by decide +kernel
theorem dX10_readMore_60 : decode cX10_readMore 60 = .ok (.iconst 2, 1) := by decide +kernel
theorem dX10_readMore_61 : decode cX10_readMore 61 = .ok (.ishr, 1) := by decide +kernel
theorem dX10_readMore_62 : decode cX10_readMore 62 = .ok (.bipush 7, 2) := by decide +kernel
theorem dX10_readMore_64 : decode cX10_readMore 64 = .ok (.iand, 1) := by decide +kernel
theorem dX10_readMore_65 : decode cX10_readMore 65 = .ok (.putfield 129, 3) := by decide +kernel
theorem dX10_readMore_68 : decode cX10_readMore 68 = .ok (.aload_n 0, 1) := by decide +kernel
theorem dX10_readMore_69 : decode cX10_readMore 69 = .ok (.iload_n 3, 1) := by decide +kernel
theorem dX10_readMore_70 : decode cX10_readMore 70 = .ok (.iconst 1, 1) := by decide +kernel
theorem dX10_readMore_71 : decode cX10_readMore 71 = .ok (.ishr, 1) := by decide +kernel
theorem dX10_readMore_72 : decode cX10_readMore 72 = .ok (.iconst 1, 1) := by decide +kernel
theorem dX10_readMore_73 : decode cX10_readMore 73 = .ok (.iand, 1) := by decide +kernel
theorem dX10_readMore_74 : decode cX10_readMore 74 = .ok (.putfield 138, 3) := by decide +kernel
theorem dX10_readMore_77 : decode cX10_readMore 77 = .ok (.aload_n 0, 1) := by decide +kernel
theorem dX10_readMore_78 : decode cX10_readMore 78 = .ok (.iload_n 3, 1) := by decide +kernel
theorem dX10_readMore_79 : decode cX10_readMore 79 = .ok (.iconst 1, 1) := by decide +kernel
theorem dX10_readMore_80 : decode cX10_readMore 80 = .ok (.iand, 1) := by decide +kernel
theorem dX10_readMore_81 : decode cX10_readMore 81 = .ok (.iconst 1, 1) := by decide +kernel
theorem dX10_readMore_82 : decode cX10_readMore 82 = .ok (.if_icmp .ne 8, 3) := by decide +kernel
theorem dX10_readMore_85 : decode cX10_readMore 85 = .ok (.iload 4, 2) := by decide +kernel
theorem dX10_readMore_87 : decode cX10_readMore 87 = .ok (.goto 4, 3) := by decide +kernel
theorem dX10_readMore_90 : decode cX10_readMore 90 = .ok (.iconst (-1), 1) := by decide +kernel
theorem dX10_readMore_91 : decode cX10_readMore 91 = .ok (.putfield 132, 3) := by decide +kernel
theorem dX10_readMore_94 : decode cX10_readMore 94 = .ok (.goto 91, 3) := by decide +kernel
theorem dX10_readMore_97 : decode cX10_readMore 97 = .ok (.iload_n 2, 1) := by decide +kernel
theorem dX10_readMore_98 : decode cX10_readMore 98 = .ok (.iconst 1, 1) := by decide +kernel
theorem dX10_readMore_99 : decode cX10_readMore 99 = .ok (.if_icmp .ne 26, 3) := by decide +kernel
theorem dX10_readMore_102 : decode cX10_readMore 102 = .ok (.aload_n 0, 1) := by decide +kernel
theorem dX10_readMore_103 : decode cX10_readMore 103 = .ok (.bipush 12, 2) := by decide +kernel
theorem dX10_readMore_105 : decode cX10_readMore 105 = .ok (.invokevirtual 154, 3) := by decide +kernel
theorem dX10_readMore_108 : decode cX10_readMore 108 = .ok (.aload_n 0, 1) := by decide +kernel
theorem dX10_readMore_109 : decode cX10_readMore 109 = .ok (.bipush 12, 2) := by decide +kernel
theorem dX10_readMore_111 : decode cX10_readMore 111 = .ok (.invokevirtual 151, 3) := by decide +kernel
theorem dX10_readMore_114 : decode cX10_readMore 114 = .ok (.aload_n 0, 1) := by decide +kernel
theorem dX10_readMore_115 : decode cX10_readMore 115 = .ok (.invokevirtual 157, 3) := by decide +kernel
theorem dX10_readMore_118 : decode cX10_readMore 118 = .ok (.aload_n 0, 1) := by decide +kernel
theorem dX10_readMore_119 : decode cX10_readMore 119 = .ok (.invokevirtual 141, 3) := by decide +kernel
theorem dX10_readMore_122 : decode cX10_readMore 122 = .ok (.goto 63, 3) := by decide +kernel
theorem dX10_readMore_125 : decode cX10_readMore 125 = .ok (.iload_n 2, 1) := by decide +kernel
theorem dX10_readMore_126 : decode cX10_readMore 126 = .ok (.sipush 254, 3) := by decide +kernel
theorem dX10_readMore_129 : decode cX10_readMore 129 = .ok (.if_icmp .eq 10, 3) := by decide +kernel
theorem dX10_readMore_132 : decode cX10_readMore 132 = .ok (.iload_n 2, 1) := by decide +kernel
theorem dX10_readMore_133 : decode cX10_readMore 133 = .ok (.sipush 255, 3) := by decide +kernel
theorem dX10_readMore_136 : decode cX10_readMore 136 = .ok (.if_icmp .ne 43, 3) := by decide +kernel
theorem dX10_readMore_139 : decode cX10_readMore 139 = .ok (.aload_n 0, 1) := by decide +kernel
theorem dX10_readMore_140 : decode cX10_readMore 140 = .ok (.getfield 126, 3) := by decide +kernel
theorem dX10_readMore_143 : decode cX10_readMore 143 = .ok (.ifCond .ne 36, 3) := by decide +kernel
theorem dX10_readMore_146 : decode cX10_readMore 146 = .ok (.iload_n 2, 1) := by decide +kernel
theorem dX10_readMore_147 : decode cX10_readMore 147 = .ok (.sipush 255, 3) := by decide +kernel
theorem dX10_readMore_150 : decode cX10_readMore 150 = .ok (.if_icmp .ne 9, 3) := by decide +kernel
theorem dX10_readMore_153 : decode cX10_readMore 153 = .ok (.aload_n 0, 1) := by decide +kernel
theorem dX10_readMore_154 : decode cX10_readMore 154 = .ok (.bipush 11, 2) := by decide +kernel
theorem dX10_readMore_156 : decode cX10_readMore 156 = .ok (.invokevirtual 154, 3) := by decide +kernel
theorem dX10_readMore_159 : decode cX10_readMore 159 = .ok (.iload_n 2, 1) := by decide +kernel
theorem dX10_readMore_160 : decode cX10_readMore 160 = .ok (.sipush 255, 3) := by decide +kernel
theorem dX10_readMore_163 : decode cX10_readMore 163 = .ok (.if_icmp .ne 9, 3) := by decide +kernel
theorem dX10_readMore_166 : decode cX10_readMore 166 = .ok (.aload_n 0, 1) := by decide +kernel
theorem dX10_readMore_167 : decode cX10_readMore 167 = .ok (.bipush 11, 2) := by decide +kernel
theorem dX10_readMore_169 : decode cX10_readMore 169 = .ok (.invokevirtual 151, 3) := by decide +kernel
theorem dX10_readMore_172 : decode cX10_readMore 172 = .ok (.aload_n 0, 1) := by decide +kernel
theorem dX10_readMore_173 : decode cX10_readMore 173 = .ok (.invokevirtual 157, 3) := by decide +kernel
theorem dX10_readMore_176 : decode cX10_readMore 176 = .ok (.goto 9, 3) := by decide +kernel
theorem dX10_readMore_179 : decode cX10_readMore 179 = .ok (.aload_n 0, 1) := by decide +kernel
theorem dX10_readMore_180 : decode cX10_readMore 180 = .ok (.iconst 4, 1) := by decide +kernel
theorem dX10_readMore_181 : decode cX10_readMore 181 = .ok (.iload_n 1, 1) := by decide +kernel
theorem dX10_readMore_182 : decode cX10_readMore 182 = .ok (.invokevirtual 96, 3) := by decide +kernel
theorem dX10_readMore_185 : decode cX10_readMore 185 = .ok (.return_, 1) := by decide +kernel
theorem dX10_readImage_0 : decode cX10_readImage 0 = .ok (.aload_n 0, 1) := by decide +kernel
theorem dX10_readImage_1 : decode cX10_readImage 1 = .ok (.getfield 23, 3) := by decide +kernel
theorem dX10_readImage_4 : decode cX10_readImage 4 = .ok (.bipush 6, 2) := by decide +kernel
theorem dX10_readImage_6 : decode cX10_readImage 6 = .ok (.aload_n 0, 1) := by decide +kernel
theorem dX10_readImage_7 : decode cX10_readImage 7 = .ok (.getfield 103, 3) := by decide +kernel
theorem dX10_readImage_10 : decode cX10_readImage 10 = .ok (.imul, 1) := by decide +kernel
theorem dX10_readImage_11 : decode cX10_readImage 11 = .ok (.iconst 5, 1) := by decide +kernel
theorem dX10_readImage_12 : decode cX10_readImage 12 = .ok (.iadd, 1) := by decide +kernel
theorem dX10_readImage_13 : decode cX10_readImage 13 = .ok (.iaload, 1) := by decide +kernel
theorem dX10_readImage_14 : decode cX10_readImage 14 = .ok (.istore_n 2, 1) := by decide +kernel
theorem dX10_readImage_15 : decode cX10_readImage 15 = .ok (.aload_n 0, 1) := by decide +kernel
theorem dX10_readImage_16 : decode cX10_readImage 16 = .ok (.invokevirtual 119, 3) := by decide +kernel
theorem dX10_readImage_19 : decode cX10_readImage 19 = .ok (.istore_n 3, 1) := by decide +kernel
theorem dX10_readImage_20 : decode cX10_readImage 20 = .ok (.aload_n 0, 1) := by decide +kernel
theorem dX10_readImage_21 : decode cX10_readImage 21 = .ok (.invokevirtual 119, 3) := by decide +kernel
theorem dX10_readImage_24 : decode cX10_readImage 24 = .ok (.istore 4, 2) := by decide +kernel
theorem dX10_readImage_26 : decode cX10_readImage 26 = .ok (.aload_n 0, 1) := by decide +kernel
theorem dX10_readImage_27 : decode cX10_readImage 27 = .ok (.invokevirtual 119, 3) := by decide +kernel
theorem dX10_readImage_30 : decode cX10_readImage 30 = .ok (.istore 5, 2) := by decide +kernel
theorem dX10_readImage_32 : decode cX10_readImage 32 = .ok (.aload_n 0, 1) := by decide +kernel
theorem dX10_readImage_33 : decode cX10_readImage 33 = .ok (.invokevirtual 119, 3) := by decide +kernel
theorem dX10_readImage_36 : decode cX10_readImage 36 = .ok (.istore 6, 2) := by decide +kernel
theorem dX10_readImage_38 : decode cX10_readImage 38 = .ok (.iload_n 2, 1) := by decide +kernel
theorem dX10_readImage_39 : decode cX10_readImage 39 = .ok (.bipush 24, 2) := by decide +kernel
theorem dX10_readImage_41 : decode cX10_readImage 41 = .ok (.if_icmp .ge 58, 3) := by decide +kernel
theorem dX10_readImage_44 : decode cX10_readImage 44 = .ok (.iload 5, 2) := by decide +kernel
theorem dX10_readImage_46 : decode cX10_readImage 46 = .ok (.ifCond .le 53, 3) := by decide +kernel
theorem dX10_readImage_49 : decode cX10_readImage 49 = .ok (.iload 6, 2) := by decide +kernel
theorem dX10_readImage_51 : decode cX10_readImage 51 = .ok (.ifCond .le 48, 3) := by decide +kernel
theorem dX10_readImage_54 : decode cX10_readImage 54 = .ok (.iload_n 3, 1) := by decide +kernel
theorem dX10_readImage_55 : decode cX10_readImage 55 = .ok (.iload 5, 2) := by decide +kernel
theorem dX10_readImage_57 : decode cX10_readImage 57 = .ok (.iadd, 1) := by decide +kernel
theorem dX10_readImage_58 : decode cX10_readImage 58 = .ok (.aload_n 0, 1) := by decide +kernel
theorem dX10_readImage_59 : decode cX10_readImage 59 = .ok (.getfield 23, 3) := by decide +kernel
theorem dX10_readImage_62 : decode cX10_readImage 62 = .ok (.bipush 6, 2) := by decide +kernel
theorem dX10_readImage_64 : decode cX10_readImage 64 = .ok (.aload_n 0, 1) := by decide +kernel
theorem dX10_readImage_65 : decode cX10_readImage 65 = .ok (.getfield 103, 3) := by decide +kernel
theorem dX10_readImage_68 : decode cX10_readImage 68 = .ok (.imul, 1) := by decide +kernel
theorem dX10_readImage_69 : decode cX10_readImage 69 = .ok (.iaload, 1) := by decide +kernel
theorem dX10_readImage_70 : decode cX10_readImage 70 = .ok (.if_icmp .gt 29, 3) := by decide +kernel
theorem dX10_readImage_73 : decode cX10_readImage 73 = .ok (.iload 4, 2) := by decide +kernel
theorem dX10_readImage_75 : decode cX10_readImage 75 = .ok (.iload 6, 2) := by decide +kernel
theorem dX10_readImage_77 : decode cX10_readImage 77 = .ok (.iadd, 1) := by decide +kernel
theorem dX10_readImage_78 : decode cX10_readImage 78 = .ok (.aload_n 0, 1) := by decide +kernel
theorem dX10_readImage_79 : decode cX10_readImage 79 = .ok (.getfield 23, 3) := by decide +kernel
theorem dX10_readImage_82 : decode cX10_readImage 82 = .ok (.bipush 6, 2) := by decide +kernel
theorem dX10_readImage_84 : decode cX10_readImage 84 = .ok (.aload_n 0, 1) := by decide +kernel
theorem dX10_readImage_85 : decode cX10_readImage 85 = .ok (.getfield 103, 3) := by decide +kernel
theorem dX10_readImage_88 : decode cX10_readImage 88 = .ok (.imul, 1) := by decide +kernel
theorem dX10_readImage_89 : decode cX10_readImage 89 = .ok (.iconst 1, 1) := by decide +kernel
theorem dX10_readImage_90 : decode cX10_readImage 90 = .ok (.iadd, 1) := by decide +kernel
theorem dX10_readImage_91 : decode cX10_readImage 91 = .ok (.iaload, 1) := by decide +kernel
theorem dX10_readImage_92 : decode cX10_readImage 92 = .ok (.if_icmp .gt 7, 3) := by decide +kernel
theorem dX10_readImage_95 : decode cX10_readImage 95 = .ok (.iconst 1, 1) := by decide +kernel
theorem dX10_readImage_96 : decode cX10_readImage 96 = .ok (.goto 4, 3) := by decide +kernel
theorem dX10_readImage_99 : decode cX10_readImage 99 = .ok (.iconst 0, 1) := by decide +kernel
theorem dX10_readImage_100 : decode cX10_readImage 100 = .ok (.istore 7, 2) := by decide +kernel
theorem dX10_readImage_102 : decode cX10_readImage 102 = .ok (.iload 7, 2) := by decide +kernel
theorem dX10_readImage_104 : decode cX10_readImage 104 = .ok (.ifCond .ne 10, 3) := by decide +kernel
theorem dX10_readImage_107 : decode cX10_readImage 107 = .ok (.aload_n 0, 1) := by decide +kernel
theorem dX10_readImage_108 : decode cX10_readImage 108 = .ok (.bipush 6, 2) := by decide +kernel
theorem dX10_readImage_110 : decode cX10_readImage 110 = .ok (.iload_n 1, 1) := by decide +kernel
theorem dX10_readImage_111 : decode cX10_readImage 111 = .ok (.invokevirtual 96, 3) := by decide +kernel
theorem dX10_readImage_114 : decode cX10_readImage 114 = .ok (.aload_n 0, 1) := by decide +kernel
theorem dX10_readImage_115 : decode cX10_readImage 115 = .ok (.invokevirtual 100, 3) := by decide +kernel
theorem dX10_readImage_118 : decode cX10_readImage 118 = .ok (.istore 8, 2) := by decide +kernel
theorem dX10_readImage_120 : decode cX10_readImage 120 = .ok (.iload 8, 2) := by decide +kernel
theorem dX10_readImage_122 : decode cX10_readImage 122 = .ok (.bipush 127, 2) := by decide +kernel
theorem dX10_readImage_124 : decode cX10_readImage 124 = .ok (.if_icmp .le 13, 3) := by decide +kernel
theorem dX10_readImage_127 : decode cX10_readImage 127 = .ok (.iconst 2, 1) := by decide +kernel
theorem dX10_readImage_128 : decode cX10_readImage 128 = .ok (.iload 8, 2) := by decide +kernel
theorem dX10_readImage_130 : decode cX10_readImage 130 = .ok (.bipush 7, 2) := by decide +kernel
theorem dX10_readImage_132 : decode cX10_readImage 132 = .ok (.iand, 1) := by decide +kernel
theorem dX10_readImage_133 : decode cX10_readImage 133 = .ok (.ishl, 1) := by decide +kernel
theorem dX10_readImage_134 : decode cX10_readImage 134 = .ok (.goto 4, 3) := by decide +kernel
theorem dX10_readImage_137 : decode cX10_readImage 137 = .ok (.iconst 0, 1) := by decide +kernel
theorem dX10_readImage_138 : decode cX10_readImage 138 = .ok (.istore 9, 2) := by decide +kernel
theorem dX10_readImage_140 : decode cX10_readImage 140 = .ok (.iload 9, 2) := by decide +kernel
theorem dX10_readImage_142 : decode cX10_readImage 142 = .ok (.ifCond .ne 27, 3) := by decide +kernel
theorem dX10_readImage_145 : decode cX10_readImage 145 = .ok (.aload_n 0, 1) := by decide +kernel
theorem dX10_readImage_146 : decode cX10_readImage 146 = .ok (.getfield 23, 3) := by decide +kernel
theorem dX10_readImage_149 : decode cX10_readImage 149 = .ok (.bipush 6, 2) := by decide +kernel
theorem dX10_readImage_151 : decode cX10_readImage 151 = .ok (.aload_n 0, 1) := by decide +kernel
theorem dX10_readImage_152 : decode cX10_readImage 152 = .ok (.getfield 103, 3) := by decide +kernel
theorem dX10_readImage_155 : decode cX10_readImage 155 = .ok (.imul, 1) := by decide +kernel
theorem dX10_readImage_156 : decode cX10_readImage 156 = .ok (.iconst 2, 1) := by decide +kernel
theorem dX10_readImage_157 : decode cX10_readImage 157 = .ok (.iadd, 1) := by decide +kernel
theorem dX10_readImage_158 : decode cX10_readImage 158 = .ok (.iaload, 1) := by decide +kernel
theorem dX10_readImage_159 : decode cX10_readImage 159 = .ok (.ifCond .ne 10, 3) := by decide +kernel
theorem dX10_readImage_162 : decode cX10_readImage 162 = .ok (.aload_n 0, 1) := by decide +kernel
theorem dX10_readImage_163 : decode cX10_readImage 163 = .ok (.bipush 7, 2) := by decide +kernel
theorem dX10_readImage_165 : decode cX10_readImage 165 = .ok (.iload_n 1, 1) := by decide +kernel
theorem dX10_readImage_166 : decode cX10_readImage 166 = .ok (.invokevirtual 96, 3) := by decide +kernel
theorem dX10_readImage_169 : decode cX10_readImage 169 = .ok (.aload_n 0, 1) := by decide +kernel
theorem dX10_readImage_170 : decode cX10_readImage 170 = .ok (.invokevirtual 86, 3) := by decide +kernel
theorem dX10_readImage_173 : decode cX10_readImage 173 = .ok (.ifCond .ne 4, 3) := by decide +kernel
theorem dX10_readImage_176 : decode cX10_readImage 176 = .ok (.return_, 1) := by decide +kernel
theorem dX10_readImage_177 : decode cX10_readImage 177 = .ok (.aload_n 0, 1) := by decide +kernel
theorem dX10_readImage_178 : decode cX10_readImage 178 = .ok (.aload_n 0, 1) := by decide +kernel
theorem dX10_readImage_179 : decode cX10_readImage 179 = .ok (.getfield 33, 3) := by decide +kernel
theorem dX10_readImage_182 : decode cX10_readImage 182 = .ok (.aload_n 0, 1) := by decide +kernel
theorem dX10_readImage_183 : decode cX10_readImage 183 = .ok (.getfield 103, 3) := by decide +kernel
theorem dX10_readImage_186 : decode cX10_readImage 186 = .ok (.iload_n 2, 1) := by decide +kernel
theorem dX10_readImage_187 : decode cX10_readImage 187 = .ok (.iconst 0, 1) := by decide +kernel
theorem dX10_readImage_188 : decode cX10_readImage 188 = .ok (.invokestatic 160, 3) := by decide +kernel
theorem dX10_readImage_191 : decode cX10_readImage 191 = .ok (.iload 9, 2) := by decide +kernel
theorem dX10_readImage_193 : decode cX10_readImage 193 = .ok (.invokevirtual 122, 3) := by decide +kernel
theorem dX10_readImage_196 : decode cX10_readImage 196 = .ok (.aload_n 0, 1) := by decide +kernel
theorem dX10_readImage_197 : decode cX10_readImage 197 = .ok (.aload_n 0, 1) := by decide +kernel
theorem dX10_readImage_198 : decode cX10_readImage 198 = .ok (.getfield 103, 3) := by decide +kernel
theorem dX10_readImage_201 : decode cX10_readImage 201 = .ok (.iload_n 2, 1) := by decide +kernel
theorem dX10_readImage_202 : decode cX10_readImage 202 = .ok (.iconst 0, 1) := by decide +kernel
theorem dX10_readImage_203 : decode cX10_readImage 203 = .ok (.iload_n 3, 1) := by decide +kernel
theorem dX10_readImage_204 : decode cX10_readImage 204 = .ok (.invokevirtual 163, 3) := by decide +kernel
theorem dX10_readImage_207 : decode cX10_readImage 207 = .ok (.aload_n 0, 1) := by decide +kernel
theorem dX10_readImage_208 : decode cX10_readImage 208 = .ok (.aload_n 0, 1) := by decide +kernel
theorem dX10_readImage_209 : decode cX10_readImage 209 = .ok (.getfield 103, 3) := by decide +kernel
theorem dX10_readImage_212 : decode cX10_readImage 212 = .ok (.iload_n 2, 1) := by decide +kernel
theorem dX10_readImage_213 : decode cX10_readImage 213 = .ok (.iconst 1, 1) := by decide +kernel
theorem dX10_readImage_214 : decode cX10_readImage 214 = .ok (.iload 4, 2) := by decide +kernel
theorem dX10_readImage_216 : decode cX10_readImage 216 = .ok (.invokevirtual 163, 3) := by decide +kernel
theorem dX10_readImage_219 : decode cX10_readImage 219 = .ok (.aload_n 0, 1) := by decide +kernel
theorem dX10_readImage_220 : decode cX10_readImage 220 = .ok (.aload_n 0, 1) := by decide +kernel
theorem dX10_readImage_221 : decode cX10_readImage 221 = .ok (.getfield 103, 3) := by decide +kernel
theorem dX10_readImage_224 : decode cX10_readImage 224 = .ok (.iload_n 2, 1) := by decide +kernel
theorem dX10_readImage_225 : decode cX10_readImage 225 = .ok (.iconst 2, 1) := by decide +kernel
theorem dX10_readImage_226 : decode cX10_readImage 226 = .ok (.iload 5, 2) := by decide +kernel
theorem dX10_readImage_228 : decode cX10_readImage 228 = .ok (.invokevirtual 163, 3) := by decide +kernel
theorem dX10_readImage_231 : decode cX10_readImage 231 = .ok (.aload_n 0, 1) := by decide +kernel
theorem dX10_readImage_232 : decode cX10_readImage 232 = .ok (.aload_n 0, 1) := by decide +kernel
theorem dX10_readImage_233 : decode cX10_readImage 233 = .ok (.getfield 103, 3) := by decide +kernel
theorem dX10_readImage_236 : decode cX10_readImage 236 = .ok (.iload_n 2, 1) := by decide +kernel
theorem dX10_readImage_237 : decode cX10_readImage 237 = .ok (.iconst 3, 1) := by decide +kernel
theorem dX10_readImage_238 : decode cX10_readImage 238 = .ok (.iload 6, 2) := by decide +kernel
theorem dX10_readImage_240 : decode cX10_readImage 240 = .ok (.invokevirtual 163, 3) := by decide +kernel
theorem dX10_readImage_243 : decode cX10_readImage 243 = .ok (.aload_n 0, 1) := by decide +kernel
theorem dX10_readImage_244 : decode cX10_readImage 244 = .ok (.aload_n 0, 1) := by decide +kernel
theorem dX10_readImage_245 : decode cX10_readImage 245 = .ok (.getfield 103, 3) := by decide +kernel
theorem dX10_readImage_248 : decode cX10_readImage 248 = .ok (.iload_n 2, 1) := by decide +kernel
theorem dX10_readImage_249 : decode cX10_readImage 249 = .ok (.iconst 4, 1) := by decide +kernel
theorem dX10_readImage_250 : decode cX10_readImage 250 = .ok (.iload 9, 2) := by decide +kernel
theorem dX10_readImage_252 : decode cX10_readImage 252 = .ok (.invokevirtual 163, 3) := by decide +kernel
theorem dX10_readImage_255 : decode cX10_readImage 255 = .ok (.aload_n 0, 1) := by decide +kernel
theorem dX10_readImage_256 : decode cX10_readImage 256 = .ok (.aload_n 0, 1) := by decide +kernel
theorem dX10_readImage_257 : decode cX10_readImage 257 = .ok (.getfield 103, 3) := by decide +kernel
theorem dX10_readImage_260 : decode cX10_readImage 260 = .ok (.iload_n 2, 1) := by decide +kernel
theorem dX10_readImage_261 : decode cX10_readImage 261 = .ok (.iconst 5, 1) := by decide +kernel
theorem dX10_readImage_262 : decode cX10_readImage 262 = .ok (.iload 8, 2) := by decide +kernel
theorem dX10_readImage_264 : decode cX10_readImage 264 = .ok (.bipush 6, 2) := by decide +kernel
theorem dX10_readImage_266 : decode cX10_readImage 266 = .ok (.ishr, 1) := by decide +kernel
theorem dX10_readImage_267 : decode cX10_readImage 267 = .ok (.iconst 1, 1) := by decide +kernel
theorem dX10_readImage_268 : decode cX10_readImage 268 = .ok (.iand, 1) := by decide +kernel
theorem dX10_readImage_269 : decode cX10_readImage 269 = .ok (.invokevirtual 163, 3) := by decide +kernel
theorem dX10_readImage_272 : decode cX10_readImage 272 = .ok (.aload_n 0, 1) := by decide +kernel
theorem dX10_readImage_273 : decode cX10_readImage 273 = .ok (.aload_n 0, 1) := by decide +kernel
theorem dX10_readImage_274 : decode cX10_readImage 274 = .ok (.getfield 103, 3) := by decide +kernel
theorem dX10_readImage_277 : decode cX10_readImage 277 = .ok (.iload_n 2, 1) := by decide +kernel
theorem dX10_readImage_278 : decode cX10_readImage 278 = .ok (.bipush 6, 2) := by decide +kernel
theorem dX10_readImage_280 : decode cX10_readImage 280 = .ok (.aload_n 0, 1) := by decide +kernel
theorem dX10_readImage_281 : decode cX10_readImage 281 = .ok (.getfield 129, 3) := by decide +kernel
theorem dX10_readImage_284 : decode cX10_readImage 284 = .ok (.invokevirtual 163, 3) := by decide +kernel
theorem dX10_readImage_287 : decode cX10_readImage 287 = .ok (.aload_n 0, 1) := by decide +kernel
theorem dX10_readImage_288 : decode cX10_readImage 288 = .ok (.aload_n 0, 1) := by decide +kernel
theorem dX10_readImage_289 : decode cX10_readImage 289 = .ok (.getfield 103, 3) := by decide +kernel
theorem dX10_readImage_292 : decode cX10_readImage 292 = .ok (.iload_n 2, 1) := by decide +kernel
theorem dX10_readImage_293 : decode cX10_readImage 293 = .ok (.bipush 7, 2) := by decide +kernel
theorem dX10_readImage_295 : decode cX10_readImage 295 = .ok (.aload_n 0, 1) := by decide +kernel
theorem dX10_readImage_296 : decode cX10_readImage 296 = .ok (.getfield 132, 3) := by decide +kernel
theorem dX10_readImage_299 : decode cX10_readImage 299 = .ok (.invokevirtual 163, 3) := by decide +kernel
theorem dX10_readImage_302 : decode cX10_readImage 302 = .ok (.aload_n 0, 1) := by decide +kernel
theorem dX10_readImage_303 : decode cX10_readImage 303 = .ok (.aload_n 0, 1) := by decide +kernel
theorem dX10_readImage_304 : decode cX10_readImage 304 = .ok (.getfield 103, 3) := by decide +kernel
theorem dX10_readImage_307 : decode cX10_readImage 307 = .ok (.iload_n 2, 1) := by decide +kernel
theorem dX10_readImage_308 : decode cX10_readImage 308 = .ok (.bipush 8, 2) := by decide +kernel
theorem dX10_readImage_310 : decode cX10_readImage 310 = .ok (.aload_n 0, 1) := by decide +kernel
theorem dX10_readImage_311 : decode cX10_readImage 311 = .ok (.getfield 135, 3) := by decide +kernel
theorem dX10_readImage_314 : decode cX10_readImage 314 = .ok (.invokevirtual 163, 3) := by decide +kernel
theorem dX10_readImage_317 : decode cX10_readImage 317 = .ok (.aload_n 0, 1) := by decide +kernel
theorem dX10_readImage_318 : decode cX10_readImage 318 = .ok (.aload_n 0, 1) := by decide +kernel
theorem dX10_readImage_319 : decode cX10_readImage 319 = .ok (.getfield 103, 3) := by decide +kernel
theorem dX10_readImage_322 : decode cX10_readImage 322 = .ok (.iload_n 2, 1) := by decide +kernel
theorem dX10_readImage_323 : decode cX10_readImage 323 = .ok (.bipush 9, 2) := by decide +kernel
theorem dX10_readImage_325 : decode cX10_readImage 325 = .ok (.aload_n 0, 1) := by decide +kernel
theorem dX10_readImage_326 : decode cX10_readImage 326 = .ok (.getfield 138, 3) := by decide +kernel
theorem dX10_readImage_329 : decode cX10_readImage 329 = .ok (.invokevirtual 163, 3) := by decide +kernel
theorem dX10_readImage_332 : decode cX10_readImage 332 = .ok (.aload_n 0, 1) := by decide +kernel
theorem dX10_readImage_333 : decode cX10_readImage 333 = .ok (.invokevirtual 141, 3) := by decide +kernel
theorem dX10_readImage_336 : decode cX10_readImage 336 = .ok (.aload_n 0, 1) := by decide +kernel
theorem dX10_readImage_337 : decode cX10_readImage 337 = .ok (.getfield 90, 3) := by decide +kernel
theorem dX10_readImage_340 : decode cX10_readImage 340 = .ok (.istore 10, 2) := by decide +kernel
theorem dX10_readImage_342 : decode cX10_readImage 342 = .ok (.aload_n 0, 1) := by decide +kernel
theorem dX10_readImage_343 : decode cX10_readImage 343 = .ok (.invokevirtual 100, 3) := by decide +kernel
theorem dX10_readImage_346 : decode cX10_readImage 346 = .ok (.istore 11, 2) := by decide +kernel
theorem dX10_readImage_348 : decode cX10_readImage 348 = .ok (.iload 11, 2) := by decide +kernel
theorem dX10_readImage_350 : decode cX10_readImage 350 = .ok (.iconst 2, 1) := by decide +kernel
theorem dX10_readImage_351 : decode cX10_readImage 351 = .ok (.if_icmp .lt 10, 3) := by decide +kernel
theorem dX10_readImage_354 : decode cX10_readImage 354 = .ok (.iload 11, 2) := by decide +kernel
theorem dX10_readImage_356 : decode cX10_readImage 356 = .ok (.bipush 8, 2) := by decide +kernel
theorem dX10_readImage_358 : decode cX10_readImage 358 = .ok (.if_icmp .le 11, 3) := by decide +kernel
theorem dX10_readImage_361 : decode cX10_readImage 361 = .ok (.aload_n 0, 1) := by decide +kernel
theorem dX10_readImage_362 : decode cX10_readImage 362 = .ok (.bipush 8, 2) := by decide +kernel
theorem dX10_readImage_364 : decode cX10_readImage 364 = .ok (.iload 10, 2) := by decide +kernel
theorem dX10_readImage_366 : decode cX10_readImage 366 = .ok (.invokevirtual 96, 3) := by decide +kernel
theorem dX10_readImage_369 : decode cX10_readImage 369 = .ok (.aload_n 0, 1) := by decide +kernel
theorem dX10_readImage_370 : decode cX10_readImage 370 = .ok (.invokevirtual 86, 3) := by decide +kernel
theorem dX10_readImage_373 : decode cX10_readImage 373 = .ok (.ifCond .ne 4, 3) := by decide +kernel
theorem dX10_readImage_376 : decode cX10_readImage 376 = .ok (.return_, 1) := by decide +kernel
theorem dX10_readImage_377 : decode cX10_readImage 377 = .ok (.aload_n 0, 1) := by decide +kernel
theorem dX10_readImage_378 : decode cX10_readImage 378 = .ok (.invokevirtual 167, 3) := by decide +kernel
theorem dX10_readImage_381 : decode cX10_readImage 381 = .ok (.aload_n 0, 1) := by decide +kernel
theorem dX10_readImage_382 : decode cX10_readImage 382 = .ok (.invokevirtual 86, 3) := by decide +kernel
theorem dX10_readImage_385 : decode cX10_readImage 385 = .ok (.ifCond .eq 21, 3) := by decide +kernel
theorem dX10_readImage_388 : decode cX10_readImage 388 = .ok (.aload_n 0, 1) := by decide +kernel
theorem dX10_readImage_389 : decode cX10_readImage 389 = .ok (.iload 11, 2) := by decide +kernel
theorem dX10_readImage_391 : decode cX10_readImage 391 = .ok (.iload_n 2, 1) := by decide +kernel
theorem dX10_readImage_392 : decode cX10_readImage 392 = .ok (.invokevirtual 170, 3) := by decide +kernel
theorem dX10_readImage_395 : decode cX10_readImage 395 = .ok (.ifCond .ne 11, 3) := by decide +kernel
theorem dX10_readImage_398 : decode cX10_readImage 398 = .ok (.aload_n 0, 1) := by decide +kernel
theorem dX10_readImage_399 : decode cX10_readImage 399 = .ok (.bipush 9, 2) := by decide +kernel
theorem dX10_readImage_401 : decode cX10_readImage 401 = .ok (.iload 10, 2) := by decide +kernel
theorem dX10_readImage_403 : decode cX10_readImage 403 = .ok (.invokevirtual 96, 3) := by decide +kernel
theorem dX10_readImage_406 : decode cX10_readImage 406 = .ok (.aload_n 0, 1) := by decide +kernel
theorem dX10_readImage_407 : decode cX10_readImage 407 = .ok (.invokevirtual 86, 3) := by decide +kernel
theorem dX10_readImage_410 : decode cX10_readImage 410 = .ok (.ifCond .eq 20, 3) := by decide +kernel
theorem dX10_readImage_413 : decode cX10_readImage 413 = .ok (.aload_n 0, 1) := by decide +kernel
theorem dX10_readImage_414 : decode cX10_readImage 414 = .ok (.getfield 23, 3) := by decide +kernel
theorem dX10_readImage_417 : decode cX10_readImage 417 = .ok (.bipush 6, 2) := by decide +kernel
theorem dX10_readImage_419 : decode cX10_readImage 419 = .ok (.aload_n 0, 1) := by decide +kernel
theorem dX10_readImage_420 : decode cX10_readImage 420 = .ok (.getfield 103, 3) := by decide +kernel
theorem dX10_readImage_423 : decode cX10_readImage 423 = .ok (.imul, 1) := by decide +kernel
theorem dX10_readImage_424 : decode cX10_readImage 424 = .ok (.iconst 5, 1) := by decide +kernel
theorem dX10_readImage_425 : decode cX10_readImage 425 = .ok (.iadd, 1) := by decide +kernel
theorem dX10_readImage_426 : decode cX10_readImage 426 = .ok (.iload_n 2, 1) := by decide +kernel
theorem dX10_readImage_427 : decode cX10_readImage 427 = .ok (.iconst 1, 1) := by decide +kernel
theorem dX10_readImage_428 : decode cX10_readImage 428 = .ok (.iadd, 1) := by decide +kernel
theorem dX10_readImage_429 : decode cX10_readImage 429 = .ok (.iastore, 1) := by decide +kernel
theorem dX10_readImage_430 : decode cX10_readImage 430 = .ok (.return_, 1) := by decide +kernel
theorem dX10_gather_0 : decode cX10_gather 0 = .ok (.aload_n 0, 1) := by decide +kernel
theorem dX10_gather_1 : decode cX10_gather 1 = .ok (.iconst 0, 1) := by decide +kernel
theorem dX10_gather_2 : decode cX10_gather 2 = .ok (.putfield 174, 3) := by decide +kernel
theorem dX10_gather_5 : decode cX10_gather 5 = .ok (.aload_n 0, 1) := by decide +kernel
theorem dX10_gather_6 : decode cX10_gather 6 = .ok (.invokevirtual 100, 3) := by decide +kernel
theorem dX10_gather_9 : decode cX10_gather 9 = .ok (.istore_n 1, 1) := by decide +kernel
theorem dX10_gather_10 : decode cX10_gather 10 = .ok (.aload_n 0, 1) := by decide +kernel
theorem dX10_gather_11 : decode cX10_gather 11 = .ok (.invokevirtual 86, 3) := by decide +kernel
theorem dX10_gather_14 : decode cX10_gather 14 = .ok (.ifCond .eq 59, 3) := by decide +kernel
theorem dX10_gather_17 : decode cX10_gather 17 = .ok (.iload_n 1, 1) := by decide +kernel
theorem dX10_gather_18 : decode cX10_gather 18 = .ok (.ifCond .le 55, 3) := by decide +kernel
theorem dX10_gather_21 : decode cX10_gather 21 = .ok (.iconst 0, 1) := by decide +kernel
theorem dX10_gather_22 : decode cX10_gather 22 = .ok (.istore_n 2, 1) := by decide +kernel
theorem dX10_gather_23 : decode cX10_gather 23 = .ok (.iload_n 2, 1) := by decide +kernel
theorem dX10_gather_24 : decode cX10_gather 24 = .ok (.iload_n 1, 1) := by decide +kernel
theorem dX10_gather_25 : decode cX10_gather 25 = .ok (.if_icmp .ge 40, 3) := by decide +kernel
theorem dX10_gather_28 : decode cX10_gather 28 = .ok (.aload_n 0, 1) := by decide +kernel
theorem dX10_gather_29 : decode cX10_gather 29 = .ok (.invokevirtual 86, 3) := by decide +kernel
theorem dX10_gather_32 : decode cX10_gather 32 = .ok (.ifCond .eq 33, 3) := by decide +kernel
theorem dX10_gather_35 : decode cX10_gather 35 = .ok (.aload_n 0, 1) := by decide +kernel
theorem dX10_gather_36 : decode cX10_gather 36 = .ok (.getfield 41, 3) := by decide +kernel
theorem dX10_gather_39 : decode cX10_gather 39 = .ok (.aload_n 0, 1) := by decide +kernel
theorem dX10_gather_40 : decode cX10_gather 40 = .ok (.getfield 174, 3) := by decide +kernel
theorem dX10_gather_43 : decode cX10_gather 43 = .ok (.aload_n 0, 1) := by decide +kernel
theorem dX10_gather_44 : decode cX10_gather 44 = .ok (.invokevirtual 100, 3) := by decide +kernel
theorem dX10_gather_47 : decode cX10_gather 47 = .ok (.i2b, 1) := by decide +kernel
theorem dX10_gather_48 : decode cX10_gather 48 = .ok (.bastore, 1) := by decide +kernel
theorem dX10_gather_49 : decode cX10_gather 49 = .ok (.aload_n 0, 1) := by decide +kernel
theorem dX10_gather_50 : decode cX10_gather 50 = .ok (.dup, 1) := by decide +kernel
theorem dX10_gather_51 : decode cX10_gather 51 = .ok (.getfield 174, 3) := by decide +kernel
theorem dX10_gather_54 : decode cX10_gather 54 = .ok (.iconst 1, 1) := by decide +kernel
theorem dX10_gather_55 : decode cX10_gather 55 = .ok (.iadd, 1) := by decide +kernel
theorem dX10_gather_56 : decode cX10_gather 56 = .ok (.putfield 174, 3) := by decide +kernel
theorem dX10_gather_59 : decode cX10_gather 59 = .ok (.iinc 2 1, 3) := by decide +kernel
theorem dX10_gather_62 : decode cX10_gather 62 = .ok (.goto (-39), 3) := by decide +kernel
theorem dX10_gather_65 : decode cX10_gather 65 = .ok (.aload_n 0, 1) := by decide +kernel
theorem dX10_gather_66 : decode cX10_gather 66 = .ok (.invokevirtual 100, 3) := by decide +kernel
theorem dX10_gather_69 : decode cX10_gather 69 = .ok (.istore_n 1, 1) := by decide +kernel
theorem dX10_gather_70 : decode cX10_gather 70 = .ok (.goto (-60), 3) := by decide +kernel
theorem dX10_gather_73 : decode cX10_gather 73 = .ok (.return_, 1) := by decide +kernel
theorem dX10_restart_0 : decode cX10_restart 0 = .ok (.aload_n 0, 1) := by decide +kernel
theorem dX10_restart_1 : decode cX10_restart 1 = .ok (.iload_n 1, 1) := by decide +kernel
theorem dX10_restart_2 : decode cX10_restart 2 = .ok (.iconst 1, 1) := by decide +kernel
theorem dX10_restart_3 : decode cX10_restart 3 = .ok (.iadd, 1) := by decide +kernel
theorem dX10_restart_4 : decode cX10_restart 4 = .ok (.putfield 177, 3) := by decide +kernel
theorem dX10_restart_7 : decode cX10_restart 7 = .ok (.aload_n 0, 1) := by decide +kernel
theorem dX10_restart_8 : decode cX10_restart 8 = .ok (.iconst 1, 1) := by decide +kernel
theorem dX10_restart_9 : decode cX10_restart 9 = .ok (.iload_n 1, 1) := by decide +kernel
theorem dX10_restart_10 : decode cX10_restart 10 = .ok (.ishl, 1) := by decide +kernel
theorem dX10_restart_11 : decode cX10_restart 11 = .ok (.iconst 2, 1) := by decide +kernel
theorem dX10_restart_12 : decode cX10_restart 12 = .ok (.iadd, 1) := by decide +kernel
theorem dX10_restart_13 : decode cX10_restart 13 = .ok (.putfield 180, 3) := by decide +kernel
theorem dX10_restart_16 : decode cX10_restart 16 = .ok (.aload_n 0, 1) := by decide +kernel
theorem dX10_restart_17 : decode cX10_restart 17 = .ok (.iconst (-1), 1) := by decide +kernel
theorem dX10_restart_18 : decode cX10_restart 18 = .ok (.putfield 183, 3) := by decide +kernel
theorem dX10_restart_21 : decode cX10_restart 21 = .ok (.return_, 1) := by decide +kernel
theorem dX10_alone_0 : decode cX10_alone 0 = .ok (.iconst 0, 1) := by decide +kernel
theorem dX10_alone_1 : decode cX10_alone 1 = .ok (.istore_n 2, 1) := by decide +kernel
theorem dX10_alone_2 : decode cX10_alone 2 = .ok (.iload_n 2, 1) := by decide +kernel
theorem dX10_alone_3 : decode cX10_alone 3 = .ok (.iconst 1, 1) := by decide +kernel
theorem dX10_alone_4 : decode cX10_alone 4 = .ok (.iload_n 1, 1) := by decide +kernel
theorem dX10_alone_5 : decode cX10_alone 5 = .ok (.ishl, 1) := by decide +kernel
theorem dX10_alone_6 : decode cX10_alone 6 = .ok (.if_icmp .ge 39, 3) := by decide +kernel
theorem dX10_alone_9 : decode cX10_alone 9 = .ok (.aload_n 0, 1) := by decide +kernel
theorem dX10_alone_10 : decode cX10_alone 10 = .ok (.getfield 44, 3) := by decide +kernel
theorem dX10_alone_13 : decode cX10_alone 13 = .ok (.iload_n 2, 1) := by decide +kernel
theorem dX10_alone_14 : decode cX10_alone 14 = .ok (.iconst (-1), 1) := by decide +kernel
theorem dX10_alone_15 : decode cX10_alone 15 = .ok (.sastore, 1) := by decide +kernel
theorem dX10_alone_16 : decode cX10_alone 16 = .ok (.aload_n 0, 1) := by decide +kernel
theorem dX10_alone_17 : decode cX10_alone 17 = .ok (.getfield 47, 3) := by decide +kernel
theorem dX10_alone_20 : decode cX10_alone 20 = .ok (.iload_n 2, 1) := by decide +kernel
theorem dX10_alone_21 : decode cX10_alone 21 = .ok (.iload_n 2, 1) := by decide +kernel
theorem dX10_alone_22 : decode cX10_alone 22 = .ok (.i2s, 1) := by decide +kernel
theorem dX10_alone_23 : decode cX10_alone 23 = .ok (.sastore, 1) := by decide +kernel
theorem dX10_alone_24 : decode cX10_alone 24 = .ok (.aload_n 0, 1) := by decide +kernel
theorem dX10_alone_25 : decode cX10_alone 25 = .ok (.getfield 50, 3) := by decide +kernel
theorem dX10_alone_28 : decode cX10_alone 28 = .ok (.iload_n 2, 1) := by decide +kernel
theorem dX10_alone_29 : decode cX10_alone 29 = .ok (.iload_n 2, 1) := by decide +kernel
theorem dX10_alone_30 : decode cX10_alone 30 = .ok (.i2s, 1) := by decide +kernel
theorem dX10_alone_31 : decode cX10_alone 31 = .ok (.sastore, 1) := by decide +kernel
theorem dX10_alone_32 : decode cX10_alone 32 = .ok (.aload_n 0, 1) := by decide +kernel
theorem dX10_alone_33 : decode cX10_alone 33 = .ok (.getfield 53, 3) := by decide +kernel
theorem dX10_alone_36 : decode cX10_alone 36 = .ok (.iload_n 2, 1) := by decide +kernel
theorem dX10_alone_37 : decode cX10_alone 37 = .ok (.iconst 1, 1) := by decide +kernel
theorem dX10_alone_38 : decode cX10_alone 38 = .ok (.sastore, 1) := by decide +kernel
theorem dX10_alone_39 : decode cX10_alone 39 = .ok (.iinc 2 1, 3) := by decide +kernel
theorem dX10_alone_42 : decode cX10_alone 42 = .ok (.goto (-40), 3) := by decide +kernel
theorem dX10_alone_45 : decode cX10_alone 45 = .ok (.return_, 1) := by decide +kernel
theorem dX10_tell_0 : decode cX10_tell 0 = .ok (.aload_n 0, 1) := by decide +kernel
theorem dX10_tell_1 : decode cX10_tell 1 = .ok (.getfield 44, 3) := by decide +kernel
theorem dX10_tell_4 : decode cX10_tell 4 = .ok (.aload_n 0, 1) := by decide +kernel
theorem dX10_tell_5 : decode cX10_tell 5 = .ok (.getfield 180, 3) := by decide +kernel
theorem dX10_tell_8 : decode cX10_tell 8 = .ok (.aload_n 0, 1) := by decide +kernel
theorem dX10_tell_9 : decode cX10_tell 9 = .ok (.getfield 183, 3) := by decide +kernel
theorem dX10_tell_12 : decode cX10_tell 12 = .ok (.i2s, 1) := by decide +kernel
theorem dX10_tell_13 : decode cX10_tell 13 = .ok (.sastore, 1) := by decide +kernel
theorem dX10_tell_14 : decode cX10_tell 14 = .ok (.aload_n 0, 1) := by decide +kernel
theorem dX10_tell_15 : decode cX10_tell 15 = .ok (.getfield 47, 3) := by decide +kernel
theorem dX10_tell_18 : decode cX10_tell 18 = .ok (.aload_n 0, 1) := by decide +kernel
theorem dX10_tell_19 : decode cX10_tell 19 = .ok (.getfield 180, 3) := by decide +kernel
theorem dX10_tell_22 : decode cX10_tell 22 = .ok (.iload_n 1, 1) := by decide +kernel
theorem dX10_tell_23 : decode cX10_tell 23 = .ok (.i2s, 1) := by decide +kernel
theorem dX10_tell_24 : decode cX10_tell 24 = .ok (.sastore, 1) := by decide +kernel
theorem dX10_tell_25 : decode cX10_tell 25 = .ok (.aload_n 0, 1) := by decide +kernel
theorem dX10_tell_26 : decode cX10_tell 26 = .ok (.getfield 50, 3) := by decide +kernel
theorem dX10_tell_29 : decode cX10_tell 29 = .ok (.aload_n 0, 1) := by decide +kernel
theorem dX10_tell_30 : decode cX10_tell 30 = .ok (.getfield 180, 3) := by decide +kernel
theorem dX10_tell_33 : decode cX10_tell 33 = .ok (.aload_n 0, 1) := by decide +kernel
theorem dX10_tell_34 : decode cX10_tell 34 = .ok (.getfield 50, 3) := by decide +kernel
theorem dX10_tell_37 : decode cX10_tell 37 = .ok (.aload_n 0, 1) := by decide +kernel
theorem dX10_tell_38 : decode cX10_tell 38 = .ok (.getfield 183, 3) := by decide +kernel
theorem dX10_tell_41 : decode cX10_tell 41 = .ok (.saload, 1) := by decide +kernel
theorem dX10_tell_42 : decode cX10_tell 42 = .ok (.sastore, 1) := by decide +kernel
theorem dX10_tell_43 : decode cX10_tell 43 = .ok (.aload_n 0, 1) := by decide +kernel
theorem dX10_tell_44 : decode cX10_tell 44 = .ok (.getfield 53, 3) := by decide +kernel
theorem dX10_tell_47 : decode cX10_tell 47 = .ok (.aload_n 0, 1) := by decide +kernel
theorem dX10_tell_48 : decode cX10_tell 48 = .ok (.getfield 180, 3) := by decide +kernel
theorem dX10_tell_51 : decode cX10_tell 51 = .ok (.aload_n 0, 1) := by decide +kernel
theorem dX10_tell_52 : decode cX10_tell 52 = .ok (.getfield 53, 3) := by decide +kernel
theorem dX10_tell_55 : decode cX10_tell 55 = .ok (.aload_n 0, 1) := by decide +kernel
theorem dX10_tell_56 : decode cX10_tell 56 = .ok (.getfield 183, 3) := by decide +kernel
theorem dX10_tell_59 : decode cX10_tell 59 = .ok (.saload, 1) := by decide +kernel
theorem dX10_tell_60 : decode cX10_tell 60 = .ok (.iconst 1, 1) := by decide +kernel
theorem dX10_tell_61 : decode cX10_tell 61 = .ok (.iadd, 1) := by decide +kernel
theorem dX10_tell_62 : decode cX10_tell 62 = .ok (.i2s, 1) := by decide +kernel
theorem dX10_tell_63 : decode cX10_tell 63 = .ok (.sastore, 1) := by decide +kernel
theorem dX10_tell_64 : decode cX10_tell 64 = .ok (.aload_n 0, 1) := by decide +kernel
theorem dX10_tell_65 : decode cX10_tell 65 = .ok (.dup, 1) := by decide +kernel
theorem dX10_tell_66 : decode cX10_tell 66 = .ok (.getfield 180, 3) := by decide +kernel
theorem dX10_tell_69 : decode cX10_tell 69 = .ok (.iconst 1, 1) := by decide +kernel
theorem dX10_tell_70 : decode cX10_tell 70 = .ok (.iadd, 1) := by decide +kernel
theorem dX10_tell_71 : decode cX10_tell 71 = .ok (.putfield 180, 3) := by decide +kernel
theorem dX10_tell_74 : decode cX10_tell 74 = .ok (.aload_n 0, 1) := by decide +kernel
theorem dX10_tell_75 : decode cX10_tell 75 = .ok (.getfield 180, 3) := by decide +kernel
theorem dX10_tell_78 : decode cX10_tell 78 = .ok (.iconst 1, 1) := by decide +kernel
theorem dX10_tell_79 : decode cX10_tell 79 = .ok (.aload_n 0, 1) := by decide +kernel
theorem dX10_tell_80 : decode cX10_tell 80 = .ok (.getfield 177, 3) := by decide +kernel
theorem dX10_tell_83 : decode cX10_tell 83 = .ok (.ishl, 1) := by decide +kernel
theorem dX10_tell_84 : decode cX10_tell 84 = .ok (.if_icmp .ne 22, 3) := by decide +kernel
theorem dX10_tell_87 : decode cX10_tell 87 = .ok (.aload_n 0, 1) := by decide +kernel
theorem dX10_tell_88 : decode cX10_tell 88 = .ok (.getfield 177, 3) := by decide +kernel
theorem dX10_tell_91 : decode cX10_tell 91 = .ok (.bipush 12, 2) := by decide +kernel
theorem dX10_tell_93 : decode cX10_tell 93 = .ok (.if_icmp .ge 13, 3) := by decide +kernel
theorem dX10_tell_96 : decode cX10_tell 96 = .ok (.aload_n 0, 1) := by decide +kernel
theorem dX10_tell_97 : decode cX10_tell 97 = .ok (.dup, 1) := by decide +kernel
theorem dX10_tell_98 : decode cX10_tell 98 = .ok (.getfield 177, 3) := by decide +kernel
theorem dX10_tell_101 : decode cX10_tell 101 = .ok (.iconst 1, 1) := by decide +kernel
theorem dX10_tell_102 : decode cX10_tell 102 = .ok (.iadd, 1) := by decide +kernel
theorem dX10_tell_103 : decode cX10_tell 103 = .ok (.putfield 177, 3) := by decide +kernel
theorem dX10_tell_106 : decode cX10_tell 106 = .ok (.return_, 1) := by decide +kernel
theorem dX10_code_0 : decode cX10_code 0 = .ok (.aload_n 0, 1) := by decide +kernel
theorem dX10_code_1 : decode cX10_code 1 = .ok (.getfield 186, 3) := by decide +kernel
theorem dX10_code_4 : decode cX10_code 4 = .ok (.aload_n 0, 1) := by decide +kernel
theorem dX10_code_5 : decode cX10_code 5 = .ok (.getfield 177, 3) := by decide +kernel
theorem dX10_code_8 : decode cX10_code 8 = .ok (.iadd, 1) := by decide +kernel
theorem dX10_code_9 : decode cX10_code 9 = .ok (.bipush 8, 2) := by decide +kernel
theorem dX10_code_11 : decode cX10_code 11 = .ok (.aload_n 0, 1) := by decide +kernel
theorem dX10_code_12 : decode cX10_code 12 = .ok (.getfield 174, 3) := by decide +kernel
theorem dX10_code_15 : decode cX10_code 15 = .ok (.imul, 1) := by decide +kernel
theorem dX10_code_16 : decode cX10_code 16 = .ok (.if_icmp .le 5, 3) := by decide +kernel
theorem dX10_code_19 : decode cX10_code 19 = .ok (.iconst (-1), 1) := by decide +kernel
theorem dX10_code_20 : decode cX10_code 20 = .ok (.ireturn, 1) := by decide +kernel
theorem dX10_code_21 : decode cX10_code 21 = .ok (.iconst 0, 1) := by decide +kernel
theorem dX10_code_22 : decode cX10_code 22 = .ok (.istore_n 1, 1) := by decide +kernel
theorem dX10_code_23 : decode cX10_code 23 = .ok (.iconst 0, 1) := by decide +kernel
theorem dX10_code_24 : decode cX10_code 24 = .ok (.istore_n 2, 1) := by decide +kernel
theorem dX10_code_25 : decode cX10_code 25 = .ok (.iload_n 2, 1) := by decide +kernel
theorem dX10_code_26 : decode cX10_code 26 = .ok (.aload_n 0, 1) := by decide +kernel
theorem dX10_code_27 : decode cX10_code 27 = .ok (.getfield 177, 3) := by decide +kernel
theorem dX10_code_30 : decode cX10_code 30 = .ok (.if_icmp .ge 39, 3) := by decide +kernel
theorem dX10_code_33 : decode cX10_code 33 = .ok (.iload_n 1, 1) := by decide +kernel
theorem dX10_code_34 : decode cX10_code 34 = .ok (.aload_n 0, 1) := by decide +kernel
theorem dX10_code_35 : decode cX10_code 35 = .ok (.getfield 41, 3) := by decide +kernel
theorem dX10_code_38 : decode cX10_code 38 = .ok (.aload_n 0, 1) := by decide +kernel
theorem dX10_code_39 : decode cX10_code 39 = .ok (.getfield 186, 3) := by decide +kernel
theorem dX10_code_42 : decode cX10_code 42 = .ok (.iload_n 2, 1) := by decide +kernel
theorem dX10_code_43 : decode cX10_code 43 = .ok (.iadd, 1) := by decide +kernel
theorem dX10_code_44 : decode cX10_code 44 = .ok (.iconst 3, 1) := by decide +kernel
theorem dX10_code_45 : decode cX10_code 45 = .ok (.ishr, 1) := by decide +kernel
theorem dX10_code_46 : decode cX10_code 46 = .ok (.baload, 1) := by decide +kernel
theorem dX10_code_47 : decode cX10_code 47 = .ok (.aload_n 0, 1) := by decide +kernel
theorem dX10_code_48 : decode cX10_code 48 = .ok (.getfield 186, 3) := by decide +kernel
theorem dX10_code_51 : decode cX10_code 51 = .ok (.iload_n 2, 1) := by decide +kernel
theorem dX10_code_52 : decode cX10_code 52 = .ok (.iadd, 1) := by decide +kernel
theorem dX10_code_53 : decode cX10_code 53 = .ok (.bipush 7, 2) := by decide +kernel
theorem dX10_code_55 : decode cX10_code 55 = .ok (.iand, 1) := by decide +kernel
theorem dX10_code_56 : decode cX10_code 56 = .ok (.ishr, 1) := by decide +kernel
theorem dX10_code_57 : decode cX10_code 57 = .ok (.iconst 1, 1) := by decide +kernel
theorem dX10_code_58 : decode cX10_code 58 = .ok (.iand, 1) := by decide +kernel
theorem dX10_code_59 : decode cX10_code 59 = .ok (.iload_n 2, 1) := by decide +kernel
theorem dX10_code_60 : decode cX10_code 60 = .ok (.ishl, 1) := by decide +kernel
theorem dX10_code_61 : decode cX10_code 61 = .ok (.ior, 1) := by decide +kernel
theorem dX10_code_62 : decode cX10_code 62 = .ok (.istore_n 1, 1) := by decide +kernel
theorem dX10_code_63 : decode cX10_code 63 = .ok (.iinc 2 1, 3) := by decide +kernel
theorem dX10_code_66 : decode cX10_code 66 = .ok (.goto (-41), 3) := by decide +kernel
theorem dX10_code_69 : decode cX10_code 69 = .ok (.aload_n 0, 1) := by decide +kernel
theorem dX10_code_70 : decode cX10_code 70 = .ok (.dup, 1) := by decide +kernel
theorem dX10_code_71 : decode cX10_code 71 = .ok (.getfield 186, 3) := by decide +kernel
theorem dX10_code_74 : decode cX10_code 74 = .ok (.aload_n 0, 1) := by decide +kernel
theorem dX10_code_75 : decode cX10_code 75 = .ok (.getfield 177, 3) := by decide +kernel
theorem dX10_code_78 : decode cX10_code 78 = .ok (.iadd, 1) := by decide +kernel
theorem dX10_code_79 : decode cX10_code 79 = .ok (.putfield 186, 3) := by decide +kernel
theorem dX10_code_82 : decode cX10_code 82 = .ok (.iload_n 1, 1) := by decide +kernel
theorem dX10_code_83 : decode cX10_code 83 = .ok (.ireturn, 1) := by decide +kernel
theorem dX10_codes_0 : decode cX10_codes 0 = .ok (.iconst 1, 1) := by decide +kernel
theorem dX10_codes_1 : decode cX10_codes 1 = .ok (.iload_n 1, 1) := by decide +kernel
theorem dX10_codes_2 : decode cX10_codes 2 = .ok (.ishl, 1) := by decide +kernel
theorem dX10_codes_3 : decode cX10_codes 3 = .ok (.istore_n 3, 1) := by decide +kernel
theorem dX10_codes_4 : decode cX10_codes 4 = .ok (.aload_n 0, 1) := by decide +kernel
theorem dX10_codes_5 : decode cX10_codes 5 = .ok (.aload_n 0, 1) := by decide +kernel
theorem dX10_codes_6 : decode cX10_codes 6 = .ok (.getfield 103, 3) := by decide +kernel
theorem dX10_codes_9 : decode cX10_codes 9 = .ok (.iload_n 2, 1) := by decide +kernel
theorem dX10_codes_10 : decode cX10_codes 10 = .ok (.invokevirtual 189, 3) := by decide +kernel
theorem dX10_codes_13 : decode cX10_codes 13 = .ok (.istore 4, 2) := by decide +kernel
theorem dX10_codes_15 : decode cX10_codes 15 = .ok (.aload_n 0, 1) := by decide +kernel
theorem dX10_codes_16 : decode cX10_codes 16 = .ok (.aload_n 0, 1) := by decide +kernel
theorem dX10_codes_17 : decode cX10_codes 17 = .ok (.getfield 103, 3) := by decide +kernel
theorem dX10_codes_20 : decode cX10_codes 20 = .ok (.iload_n 2, 1) := by decide +kernel
theorem dX10_codes_21 : decode cX10_codes 21 = .ok (.invokevirtual 193, 3) := by decide +kernel
theorem dX10_codes_24 : decode cX10_codes 24 = .ok (.istore 5, 2) := by decide +kernel
theorem dX10_codes_26 : decode cX10_codes 26 = .ok (.aload_n 0, 1) := by decide +kernel
theorem dX10_codes_27 : decode cX10_codes 27 = .ok (.iload_n 1, 1) := by decide +kernel
theorem dX10_codes_28 : decode cX10_codes 28 = .ok (.invokevirtual 196, 3) := by decide +kernel
theorem dX10_codes_31 : decode cX10_codes 31 = .ok (.aload_n 0, 1) := by decide +kernel
theorem dX10_codes_32 : decode cX10_codes 32 = .ok (.iload_n 1, 1) := by decide +kernel
theorem dX10_codes_33 : decode cX10_codes 33 = .ok (.invokevirtual 199, 3) := by decide +kernel
theorem dX10_codes_36 : decode cX10_codes 36 = .ok (.aload_n 0, 1) := by decide +kernel
theorem dX10_codes_37 : decode cX10_codes 37 = .ok (.iconst 0, 1) := by decide +kernel
theorem dX10_codes_38 : decode cX10_codes 38 = .ok (.putfield 186, 3) := by decide +kernel
theorem dX10_codes_41 : decode cX10_codes 41 = .ok (.aload_n 0, 1) := by decide +kernel
theorem dX10_codes_42 : decode cX10_codes 42 = .ok (.invokevirtual 202, 3) := by decide +kernel
theorem dX10_codes_45 : decode cX10_codes 45 = .ok (.iload_n 3, 1) := by decide +kernel
theorem dX10_codes_46 : decode cX10_codes 46 = .ok (.if_icmp .eq 5, 3) := by decide +kernel
theorem dX10_codes_49 : decode cX10_codes 49 = .ok (.iconst 0, 1) := by decide +kernel
theorem dX10_codes_50 : decode cX10_codes 50 = .ok (.ireturn, 1) := by decide +kernel
theorem dX10_codes_51 : decode cX10_codes 51 = .ok (.iconst 0, 1) := by decide +kernel
theorem dX10_codes_52 : decode cX10_codes 52 = .ok (.istore 6, 2) := by decide +kernel
theorem dX10_codes_54 : decode cX10_codes 54 = .ok (.aload_n 0, 1) := by decide +kernel
theorem dX10_codes_55 : decode cX10_codes 55 = .ok (.invokevirtual 202, 3) := by decide +kernel
theorem dX10_codes_58 : decode cX10_codes 58 = .ok (.istore 7, 2) := by decide +kernel
theorem dX10_codes_60 : decode cX10_codes 60 = .ok (.iload 7, 2) := by decide +kernel
theorem dX10_codes_62 : decode cX10_codes 62 = .ok (.ifCond .ge 5, 3) := by decide +kernel
theorem dX10_codes_65 : decode cX10_codes 65 = .ok (.iconst 0, 1) := by decide +kernel
theorem dX10_codes_66 : decode cX10_codes 66 = .ok (.ireturn, 1) := by decide +kernel
theorem dX10_codes_67 : decode cX10_codes 67 = .ok (.iload 7, 2) := by decide +kernel
theorem dX10_codes_69 : decode cX10_codes 69 = .ok (.iload_n 3, 1) := by decide +kernel
theorem dX10_codes_70 : decode cX10_codes 70 = .ok (.iconst 1, 1) := by decide +kernel
theorem dX10_codes_71 : decode cX10_codes 71 = .ok (.iadd, 1) := by decide +kernel
theorem dX10_codes_72 : decode cX10_codes 72 = .ok (.if_icmp .ne 32, 3) := by decide +kernel
theorem dX10_codes_75 : decode cX10_codes 75 = .ok (.iload 6, 2) := by decide +kernel
