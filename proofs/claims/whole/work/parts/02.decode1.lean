theorem dX0_init_0 : decode cX0_init 0 = .ok (.aload_n 0, 1) := by decide +kernel
theorem dX0_init_1 : decode cX0_init 1 = .ok (.invokespecial 3, 3) := by decide +kernel
theorem dX0_init_4 : decode cX0_init 4 = .ok (.aload_n 0, 1) := by decide +kernel
theorem dX0_init_5 : decode cX0_init 5 = .ok (.bipush 100, 2) := by decide +kernel
theorem dX0_init_7 : decode cX0_init 7 = .ok (.newarray .int, 2) := by decide +kernel
theorem dX0_init_9 : decode cX0_init 9 = .ok (.putfield 9, 3) := by decide +kernel
theorem dX0_init_12 : decode cX0_init 12 = .ok (.aload_n 0, 1) := by decide +kernel
theorem dX0_init_13 : decode cX0_init 13 = .ok (.iconst 0, 1) := by decide +kernel
theorem dX0_init_14 : decode cX0_init 14 = .ok (.putfield 15, 3) := by decide +kernel
theorem dX0_init_17 : decode cX0_init 17 = .ok (.return_, 1) := by decide +kernel
theorem dX0_join_0 : decode cX0_join 0 = .ok (.aload_n 0, 1) := by decide +kernel
theorem dX0_join_1 : decode cX0_join 1 = .ok (.getfield 9, 3) := by decide +kernel
theorem dX0_join_4 : decode cX0_join 4 = .ok (.aload_n 0, 1) := by decide +kernel
theorem dX0_join_5 : decode cX0_join 5 = .ok (.getfield 15, 3) := by decide +kernel
theorem dX0_join_8 : decode cX0_join 8 = .ok (.iload_n 1, 1) := by decide +kernel
theorem dX0_join_9 : decode cX0_join 9 = .ok (.iastore, 1) := by decide +kernel
theorem dX0_join_10 : decode cX0_join 10 = .ok (.aload_n 0, 1) := by decide +kernel
theorem dX0_join_11 : decode cX0_join 11 = .ok (.dup, 1) := by decide +kernel
theorem dX0_join_12 : decode cX0_join 12 = .ok (.getfield 15, 3) := by decide +kernel
theorem dX0_join_15 : decode cX0_join 15 = .ok (.iconst 1, 1) := by decide +kernel
theorem dX0_join_16 : decode cX0_join 16 = .ok (.iadd, 1) := by decide +kernel
theorem dX0_join_17 : decode cX0_join 17 = .ok (.putfield 15, 3) := by decide +kernel
theorem dX0_join_20 : decode cX0_join 20 = .ok (.return_, 1) := by decide +kernel
theorem dX0_dropFirst_0 : decode cX0_dropFirst 0 = .ok (.aload_n 0, 1) := by decide +kernel
theorem dX0_dropFirst_1 : decode cX0_dropFirst 1 = .ok (.dup, 1) := by decide +kernel
theorem dX0_dropFirst_2 : decode cX0_dropFirst 2 = .ok (.getfield 15, 3) := by decide +kernel
theorem dX0_dropFirst_5 : decode cX0_dropFirst 5 = .ok (.iconst 1, 1) := by decide +kernel
theorem dX0_dropFirst_6 : decode cX0_dropFirst 6 = .ok (.isub, 1) := by decide +kernel
theorem dX0_dropFirst_7 : decode cX0_dropFirst 7 = .ok (.putfield 15, 3) := by decide +kernel
theorem dX0_dropFirst_10 : decode cX0_dropFirst 10 = .ok (.aload_n 0, 1) := by decide +kernel
theorem dX0_dropFirst_11 : decode cX0_dropFirst 11 = .ok (.getfield 9, 3) := by decide +kernel
theorem dX0_dropFirst_14 : decode cX0_dropFirst 14 = .ok (.iconst 1, 1) := by decide +kernel
theorem dX0_dropFirst_15 : decode cX0_dropFirst 15 = .ok (.aload_n 0, 1) := by decide +kernel
theorem dX0_dropFirst_16 : decode cX0_dropFirst 16 = .ok (.getfield 9, 3) := by decide +kernel
theorem dX0_dropFirst_19 : decode cX0_dropFirst 19 = .ok (.iconst 0, 1) := by decide +kernel
theorem dX0_dropFirst_20 : decode cX0_dropFirst 20 = .ok (.aload_n 0, 1) := by decide +kernel
theorem dX0_dropFirst_21 : decode cX0_dropFirst 21 = .ok (.getfield 15, 3) := by decide +kernel
theorem dX0_dropFirst_24 : decode cX0_dropFirst 24 = .ok (.invokestatic 19, 3) := by decide +kernel
theorem dX0_dropFirst_27 : decode cX0_dropFirst 27 = .ok (.return_, 1) := by decide +kernel
theorem dX0_mixAll_0 : decode cX0_mixAll 0 = .ok (.lload_n 1, 1) := by decide +kernel
theorem dX0_mixAll_1 : decode cX0_mixAll 1 = .ok (.lstore_n 3, 1) := by decide +kernel
theorem dX0_mixAll_2 : decode cX0_mixAll 2 = .ok (.iconst 0, 1) := by decide +kernel
theorem dX0_mixAll_3 : decode cX0_mixAll 3 = .ok (.istore 5, 2) := by decide +kernel
theorem dX0_mixAll_5 : decode cX0_mixAll 5 = .ok (.iload 5, 2) := by decide +kernel
theorem dX0_mixAll_7 : decode cX0_mixAll 7 = .ok (.aload_n 0, 1) := by decide +kernel
theorem dX0_mixAll_8 : decode cX0_mixAll 8 = .ok (.getfield 15, 3) := by decide +kernel
theorem dX0_mixAll_11 : decode cX0_mixAll 11 = .ok (.if_icmp .ge 21, 3) := by decide +kernel
theorem dX0_mixAll_14 : decode cX0_mixAll 14 = .ok (.lload_n 3, 1) := by decide +kernel
theorem dX0_mixAll_15 : decode cX0_mixAll 15 = .ok (.aload_n 0, 1) := by decide +kernel
theorem dX0_mixAll_16 : decode cX0_mixAll 16 = .ok (.getfield 9, 3) := by decide +kernel
theorem dX0_mixAll_19 : decode cX0_mixAll 19 = .ok (.iload 5, 2) := by decide +kernel
theorem dX0_mixAll_21 : decode cX0_mixAll 21 = .ok (.iaload, 1) := by decide +kernel
theorem dX0_mixAll_22 : decode cX0_mixAll 22 = .ok (.invokestatic 25, 3) := by decide +kernel
theorem dX0_mixAll_25 : decode cX0_mixAll 25 = .ok (.lstore_n 3, 1) := by decide +kernel
theorem dX0_mixAll_26 : decode cX0_mixAll 26 = .ok (.iinc 5 1, 3) := by decide +kernel
theorem dX0_mixAll_29 : decode cX0_mixAll 29 = .ok (.goto (-24), 3) := by decide +kernel
theorem dX0_mixAll_32 : decode cX0_mixAll 32 = .ok (.lload_n 3, 1) := by decide +kernel
theorem dX0_mixAll_33 : decode cX0_mixAll 33 = .ok (.lreturn, 1) := by decide +kernel
theorem dX1_init_0 : decode cX1_init 0 = .ok (.aload_n 0, 1) := by decide +kernel
theorem dX1_init_1 : decode cX1_init 1 = .ok (.invokespecial 3, 3) := by decide +kernel
theorem dX1_init_4 : decode cX1_init 4 = .ok (.aload_n 0, 1) := by decide +kernel
theorem dX1_init_5 : decode cX1_init 5 = .ok (.bipush 96, 2) := by decide +kernel
theorem dX1_init_7 : decode cX1_init 7 = .ok (.newarray .int, 2) := by decide +kernel
theorem dX1_init_9 : decode cX1_init 9 = .ok (.putfield 9, 3) := by decide +kernel
theorem dX1_init_12 : decode cX1_init 12 = .ok (.aload_n 0, 1) := by decide +kernel
theorem dX1_init_13 : decode cX1_init 13 = .ok (.bipush 12, 2) := by decide +kernel
theorem dX1_init_15 : decode cX1_init 15 = .ok (.newarray .int, 2) := by decide +kernel
theorem dX1_init_17 : decode cX1_init 17 = .ok (.putfield 15, 3) := by decide +kernel
theorem dX1_init_20 : decode cX1_init 20 = .ok (.return_, 1) := by decide +kernel
theorem dX1_paintOver_0 : decode cX1_paintOver 0 = .ok (.aload_n 0, 1) := by decide +kernel
theorem dX1_paintOver_1 : decode cX1_paintOver 1 = .ok (.getfield 9, 3) := by decide +kernel
theorem dX1_paintOver_4 : decode cX1_paintOver 4 = .ok (.bipush 8, 2) := by decide +kernel
theorem dX1_paintOver_6 : decode cX1_paintOver 6 = .ok (.iload_n 1, 1) := by decide +kernel
theorem dX1_paintOver_7 : decode cX1_paintOver 7 = .ok (.imul, 1) := by decide +kernel
theorem dX1_paintOver_8 : decode cX1_paintOver 8 = .ok (.aload_n 0, 1) := by decide +kernel
theorem dX1_paintOver_9 : decode cX1_paintOver 9 = .ok (.getfield 15, 3) := by decide +kernel
theorem dX1_paintOver_12 : decode cX1_paintOver 12 = .ok (.iload_n 1, 1) := by decide +kernel
theorem dX1_paintOver_13 : decode cX1_paintOver 13 = .ok (.iaload, 1) := by decide +kernel
theorem dX1_paintOver_14 : decode cX1_paintOver 14 = .ok (.iadd, 1) := by decide +kernel
theorem dX1_paintOver_15 : decode cX1_paintOver 15 = .ok (.iload_n 2, 1) := by decide +kernel
theorem dX1_paintOver_16 : decode cX1_paintOver 16 = .ok (.iastore, 1) := by decide +kernel
theorem dX1_paintOver_17 : decode cX1_paintOver 17 = .ok (.aload_n 0, 1) := by decide +kernel
theorem dX1_paintOver_18 : decode cX1_paintOver 18 = .ok (.getfield 15, 3) := by decide +kernel
theorem dX1_paintOver_21 : decode cX1_paintOver 21 = .ok (.iload_n 1, 1) := by decide +kernel
theorem dX1_paintOver_22 : decode cX1_paintOver 22 = .ok (.dup2, 1) := by decide +kernel
theorem dX1_paintOver_23 : decode cX1_paintOver 23 = .ok (.iaload, 1) := by decide +kernel
theorem dX1_paintOver_24 : decode cX1_paintOver 24 = .ok (.iconst 1, 1) := by decide +kernel
theorem dX1_paintOver_25 : decode cX1_paintOver 25 = .ok (.iadd, 1) := by decide +kernel
theorem dX1_paintOver_26 : decode cX1_paintOver 26 = .ok (.iastore, 1) := by decide +kernel
theorem dX1_paintOver_27 : decode cX1_paintOver 27 = .ok (.return_, 1) := by decide +kernel
theorem dX1_clear_0 : decode cX1_clear 0 = .ok (.aload_n 0, 1) := by decide +kernel
theorem dX1_clear_1 : decode cX1_clear 1 = .ok (.getfield 15, 3) := by decide +kernel
theorem dX1_clear_4 : decode cX1_clear 4 = .ok (.iload_n 1, 1) := by decide +kernel
theorem dX1_clear_5 : decode cX1_clear 5 = .ok (.iconst 0, 1) := by decide +kernel
theorem dX1_clear_6 : decode cX1_clear 6 = .ok (.iastore, 1) := by decide +kernel
theorem dX1_clear_7 : decode cX1_clear 7 = .ok (.return_, 1) := by decide +kernel
theorem dX1_takeOff_0 : decode cX1_takeOff 0 = .ok (.aload_n 0, 1) := by decide +kernel
theorem dX1_takeOff_1 : decode cX1_takeOff 1 = .ok (.getfield 15, 3) := by decide +kernel
theorem dX1_takeOff_4 : decode cX1_takeOff 4 = .ok (.iload_n 1, 1) := by decide +kernel
theorem dX1_takeOff_5 : decode cX1_takeOff 5 = .ok (.dup2, 1) := by decide +kernel
theorem dX1_takeOff_6 : decode cX1_takeOff 6 = .ok (.iaload, 1) := by decide +kernel
theorem dX1_takeOff_7 : decode cX1_takeOff 7 = .ok (.iload_n 2, 1) := by decide +kernel
theorem dX1_takeOff_8 : decode cX1_takeOff 8 = .ok (.isub, 1) := by decide +kernel
theorem dX1_takeOff_9 : decode cX1_takeOff 9 = .ok (.iastore, 1) := by decide +kernel
theorem dX1_takeOff_10 : decode cX1_takeOff 10 = .ok (.return_, 1) := by decide +kernel
theorem dX1_colourAtDepth_0 : decode cX1_colourAtDepth 0 = .ok (.iload_n 2, 1) := by decide +kernel
theorem dX1_colourAtDepth_1 : decode cX1_colourAtDepth 1 = .ok (.iconst 0, 1) := by decide +kernel
theorem dX1_colourAtDepth_2 : decode cX1_colourAtDepth 2 = .ok (.aload_n 0, 1) := by decide +kernel
theorem dX1_colourAtDepth_3 : decode cX1_colourAtDepth 3 = .ok (.getfield 15, 3) := by decide +kernel
theorem dX1_colourAtDepth_6 : decode cX1_colourAtDepth 6 = .ok (.iload_n 1, 1) := by decide +kernel
theorem dX1_colourAtDepth_7 : decode cX1_colourAtDepth 7 = .ok (.iaload, 1) := by decide +kernel
theorem dX1_colourAtDepth_8 : decode cX1_colourAtDepth 8 = .ok (.iconst 1, 1) := by decide +kernel
theorem dX1_colourAtDepth_9 : decode cX1_colourAtDepth 9 = .ok (.isub, 1) := by decide +kernel
theorem dX1_colourAtDepth_10 : decode cX1_colourAtDepth 10 = .ok (.invokestatic 18, 3) := by decide +kernel
theorem dX1_colourAtDepth_13 : decode cX1_colourAtDepth 13 = .ok (.ifCond .ne 5, 3) := by decide +kernel
theorem dX1_colourAtDepth_16 : decode cX1_colourAtDepth 16 = .ok (.iconst (-1), 1) := by decide +kernel
theorem dX1_colourAtDepth_17 : decode cX1_colourAtDepth 17 = .ok (.ireturn, 1) := by decide +kernel
theorem dX1_colourAtDepth_18 : decode cX1_colourAtDepth 18 = .ok (.aload_n 0, 1) := by decide +kernel
theorem dX1_colourAtDepth_19 : decode cX1_colourAtDepth 19 = .ok (.getfield 9, 3) := by decide +kernel
theorem dX1_colourAtDepth_22 : decode cX1_colourAtDepth 22 = .ok (.bipush 8, 2) := by decide +kernel
theorem dX1_colourAtDepth_24 : decode cX1_colourAtDepth 24 = .ok (.iload_n 1, 1) := by decide +kernel
theorem dX1_colourAtDepth_25 : decode cX1_colourAtDepth 25 = .ok (.imul, 1) := by decide +kernel
theorem dX1_colourAtDepth_26 : decode cX1_colourAtDepth 26 = .ok (.aload_n 0, 1) := by decide +kernel
theorem dX1_colourAtDepth_27 : decode cX1_colourAtDepth 27 = .ok (.getfield 15, 3) := by decide +kernel
theorem dX1_colourAtDepth_30 : decode cX1_colourAtDepth 30 = .ok (.iload_n 1, 1) := by decide +kernel
theorem dX1_colourAtDepth_31 : decode cX1_colourAtDepth 31 = .ok (.iaload, 1) := by decide +kernel
theorem dX1_colourAtDepth_32 : decode cX1_colourAtDepth 32 = .ok (.iadd, 1) := by decide +kernel
theorem dX1_colourAtDepth_33 : decode cX1_colourAtDepth 33 = .ok (.iconst 1, 1) := by decide +kernel
theorem dX1_colourAtDepth_34 : decode cX1_colourAtDepth 34 = .ok (.isub, 1) := by decide +kernel
theorem dX1_colourAtDepth_35 : decode cX1_colourAtDepth 35 = .ok (.iload_n 2, 1) := by decide +kernel
theorem dX1_colourAtDepth_36 : decode cX1_colourAtDepth 36 = .ok (.isub, 1) := by decide +kernel
theorem dX1_colourAtDepth_37 : decode cX1_colourAtDepth 37 = .ok (.iaload, 1) := by decide +kernel
theorem dX1_colourAtDepth_38 : decode cX1_colourAtDepth 38 = .ok (.ireturn, 1) := by decide +kernel
theorem dX1_depthOf_0 : decode cX1_depthOf 0 = .ok (.iconst 0, 1) := by decide +kernel
theorem dX1_depthOf_1 : decode cX1_depthOf 1 = .ok (.istore_n 3, 1) := by decide +kernel
theorem dX1_depthOf_2 : decode cX1_depthOf 2 = .ok (.iload_n 3, 1) := by decide +kernel
theorem dX1_depthOf_3 : decode cX1_depthOf 3 = .ok (.aload_n 0, 1) := by decide +kernel
theorem dX1_depthOf_4 : decode cX1_depthOf 4 = .ok (.getfield 15, 3) := by decide +kernel
theorem dX1_depthOf_7 : decode cX1_depthOf 7 = .ok (.iload_n 1, 1) := by decide +kernel
theorem dX1_depthOf_8 : decode cX1_depthOf 8 = .ok (.iaload, 1) := by decide +kernel
theorem dX1_depthOf_9 : decode cX1_depthOf 9 = .ok (.if_icmp .ge 21, 3) := by decide +kernel
theorem dX1_depthOf_12 : decode cX1_depthOf 12 = .ok (.aload_n 0, 1) := by decide +kernel
theorem dX1_depthOf_13 : decode cX1_depthOf 13 = .ok (.iload_n 1, 1) := by decide +kernel
theorem dX1_depthOf_14 : decode cX1_depthOf 14 = .ok (.iload_n 3, 1) := by decide +kernel
theorem dX1_depthOf_15 : decode cX1_depthOf 15 = .ok (.invokevirtual 22, 3) := by decide +kernel
theorem dX1_depthOf_18 : decode cX1_depthOf 18 = .ok (.iload_n 2, 1) := by decide +kernel
theorem dX1_depthOf_19 : decode cX1_depthOf 19 = .ok (.if_icmp .ne 5, 3) := by decide +kernel
theorem dX1_depthOf_22 : decode cX1_depthOf 22 = .ok (.iload_n 3, 1) := by decide +kernel
theorem dX1_depthOf_23 : decode cX1_depthOf 23 = .ok (.ireturn, 1) := by decide +kernel
theorem dX1_depthOf_24 : decode cX1_depthOf 24 = .ok (.iinc 3 1, 3) := by decide +kernel
theorem dX1_depthOf_27 : decode cX1_depthOf 27 = .ok (.goto (-25), 3) := by decide +kernel
theorem dX1_depthOf_30 : decode cX1_depthOf 30 = .ok (.iconst (-1), 1) := by decide +kernel
theorem dX1_depthOf_31 : decode cX1_depthOf 31 = .ok (.ireturn, 1) := by decide +kernel
theorem dX1_mixCoats_0 : decode cX1_mixCoats 0 = .ok (.lload_n 1, 1) := by decide +kernel
theorem dX1_mixCoats_1 : decode cX1_mixCoats 1 = .ok (.aload_n 0, 1) := by decide +kernel
theorem dX1_mixCoats_2 : decode cX1_mixCoats 2 = .ok (.getfield 15, 3) := by decide +kernel
theorem dX1_mixCoats_5 : decode cX1_mixCoats 5 = .ok (.iload_n 3, 1) := by decide +kernel
theorem dX1_mixCoats_6 : decode cX1_mixCoats 6 = .ok (.iaload, 1) := by decide +kernel
theorem dX1_mixCoats_7 : decode cX1_mixCoats 7 = .ok (.invokestatic 26, 3) := by decide +kernel
theorem dX1_mixCoats_10 : decode cX1_mixCoats 10 = .ok (.lstore 4, 2) := by decide +kernel
theorem dX1_mixCoats_12 : decode cX1_mixCoats 12 = .ok (.iconst 0, 1) := by decide +kernel
theorem dX1_mixCoats_13 : decode cX1_mixCoats 13 = .ok (.istore 6, 2) := by decide +kernel
theorem dX1_mixCoats_15 : decode cX1_mixCoats 15 = .ok (.iload 6, 2) := by decide +kernel
theorem dX1_mixCoats_17 : decode cX1_mixCoats 17 = .ok (.aload_n 0, 1) := by decide +kernel
theorem dX1_mixCoats_18 : decode cX1_mixCoats 18 = .ok (.getfield 15, 3) := by decide +kernel
theorem dX1_mixCoats_21 : decode cX1_mixCoats 21 = .ok (.iload_n 3, 1) := by decide +kernel
theorem dX1_mixCoats_22 : decode cX1_mixCoats 22 = .ok (.iaload, 1) := by decide +kernel
theorem dX1_mixCoats_23 : decode cX1_mixCoats 23 = .ok (.if_icmp .ge 28, 3) := by decide +kernel
theorem dX1_mixCoats_26 : decode cX1_mixCoats 26 = .ok (.lload 4, 2) := by decide +kernel
theorem dX1_mixCoats_28 : decode cX1_mixCoats 28 = .ok (.aload_n 0, 1) := by decide +kernel
theorem dX1_mixCoats_29 : decode cX1_mixCoats 29 = .ok (.getfield 9, 3) := by decide +kernel
theorem dX1_mixCoats_32 : decode cX1_mixCoats 32 = .ok (.bipush 8, 2) := by decide +kernel
theorem dX1_mixCoats_34 : decode cX1_mixCoats 34 = .ok (.iload_n 3, 1) := by decide +kernel
theorem dX1_mixCoats_35 : decode cX1_mixCoats 35 = .ok (.imul, 1) := by decide +kernel
theorem dX1_mixCoats_36 : decode cX1_mixCoats 36 = .ok (.iload 6, 2) := by decide +kernel
theorem dX1_mixCoats_38 : decode cX1_mixCoats 38 = .ok (.iadd, 1) := by decide +kernel
theorem dX1_mixCoats_39 : decode cX1_mixCoats 39 = .ok (.iaload, 1) := by decide +kernel
theorem dX1_mixCoats_40 : decode cX1_mixCoats 40 = .ok (.invokestatic 26, 3) := by decide +kernel
theorem dX1_mixCoats_43 : decode cX1_mixCoats 43 = .ok (.lstore 4, 2) := by decide +kernel
theorem dX1_mixCoats_45 : decode cX1_mixCoats 45 = .ok (.iinc 6 1, 3) := by decide +kernel
theorem dX1_mixCoats_48 : decode cX1_mixCoats 48 = .ok (.goto (-33), 3) := by decide +kernel
theorem dX1_mixCoats_51 : decode cX1_mixCoats 51 = .ok (.lload 4, 2) := by decide +kernel
theorem dX1_mixCoats_53 : decode cX1_mixCoats 53 = .ok (.lreturn, 1) := by decide +kernel
theorem dX2_init_0 : decode cX2_init 0 = .ok (.aload_n 0, 1) := by decide +kernel
theorem dX2_init_1 : decode cX2_init 1 = .ok (.invokespecial 3, 3) := by decide +kernel
theorem dX2_init_4 : decode cX2_init 4 = .ok (.aload_n 0, 1) := by decide +kernel
theorem dX2_init_5 : decode cX2_init 5 = .ok (.bipush 8, 2) := by decide +kernel
theorem dX2_init_7 : decode cX2_init 7 = .ok (.newarray .int, 2) := by decide +kernel
theorem dX2_init_9 : decode cX2_init 9 = .ok (.putfield 9, 3) := by decide +kernel
theorem dX2_init_12 : decode cX2_init 12 = .ok (.aload_n 0, 1) := by decide +kernel
theorem dX2_init_13 : decode cX2_init 13 = .ok (.bipush 8, 2) := by decide +kernel
theorem dX2_init_15 : decode cX2_init 15 = .ok (.newarray .int, 2) := by decide +kernel
theorem dX2_init_17 : decode cX2_init 17 = .ok (.putfield 15, 3) := by decide +kernel
theorem dX2_init_20 : decode cX2_init 20 = .ok (.aload_n 0, 1) := by decide +kernel
theorem dX2_init_21 : decode cX2_init 21 = .ok (.bipush 8, 2) := by decide +kernel
theorem dX2_init_23 : decode cX2_init 23 = .ok (.newarray .int, 2) := by decide +kernel
theorem dX2_init_25 : decode cX2_init 25 = .ok (.putfield 18, 3) := by decide +kernel
theorem dX2_init_28 : decode cX2_init 28 = .ok (.aload_n 0, 1) := by decide +kernel
theorem dX2_init_29 : decode cX2_init 29 = .ok (.bipush 64, 2) := by decide +kernel
theorem dX2_init_31 : decode cX2_init 31 = .ok (.newarray .int, 2) := by decide +kernel
theorem dX2_init_33 : decode cX2_init 33 = .ok (.putfield 21, 3) := by decide +kernel
theorem dX2_init_36 : decode cX2_init 36 = .ok (.aload_n 0, 1) := by decide +kernel
theorem dX2_init_37 : decode cX2_init 37 = .ok (.iconst 0, 1) := by decide +kernel
theorem dX2_init_38 : decode cX2_init 38 = .ok (.putfield 24, 3) := by decide +kernel
theorem dX2_init_41 : decode cX2_init 41 = .ok (.aload_n 0, 1) := by decide +kernel
theorem dX2_init_42 : decode cX2_init 42 = .ok (.bipush 8, 2) := by decide +kernel
theorem dX2_init_44 : decode cX2_init 44 = .ok (.newarray .int, 2) := by decide +kernel
theorem dX2_init_46 : decode cX2_init 46 = .ok (.putfield 28, 3) := by decide +kernel
theorem dX2_init_49 : decode cX2_init 49 = .ok (.aload_n 0, 1) := by decide +kernel
theorem dX2_init_50 : decode cX2_init 50 = .ok (.bipush 8, 2) := by decide +kernel
theorem dX2_init_52 : decode cX2_init 52 = .ok (.newarray .int, 2) := by decide +kernel
theorem dX2_init_54 : decode cX2_init 54 = .ok (.putfield 31, 3) := by decide +kernel
theorem dX2_init_57 : decode cX2_init 57 = .ok (.aload_n 0, 1) := by decide +kernel
theorem dX2_init_58 : decode cX2_init 58 = .ok (.bipush 8, 2) := by decide +kernel
theorem dX2_init_60 : decode cX2_init 60 = .ok (.newarray .int, 2) := by decide +kernel
theorem dX2_init_62 : decode cX2_init 62 = .ok (.putfield 34, 3) := by decide +kernel
theorem dX2_init_65 : decode cX2_init 65 = .ok (.return_, 1) := by decide +kernel
theorem dX2_isFair_0 : decode cX2_isFair 0 = .ok (.iload_n 1, 1) := by decide +kernel
theorem dX2_isFair_1 : decode cX2_isFair 1 = .ok (.ifCond .lt 15, 3) := by decide +kernel
theorem dX2_isFair_4 : decode cX2_isFair 4 = .ok (.iload_n 1, 1) := by decide +kernel
theorem dX2_isFair_5 : decode cX2_isFair 5 = .ok (.aload_n 0, 1) := by decide +kernel
theorem dX2_isFair_6 : decode cX2_isFair 6 = .ok (.getfield 24, 3) := by decide +kernel
theorem dX2_isFair_9 : decode cX2_isFair 9 = .ok (.if_icmp .ge 7, 3) := by decide +kernel
theorem dX2_isFair_12 : decode cX2_isFair 12 = .ok (.iconst 1, 1) := by decide +kernel
theorem dX2_isFair_13 : decode cX2_isFair 13 = .ok (.goto 4, 3) := by decide +kernel
theorem dX2_isFair_16 : decode cX2_isFair 16 = .ok (.iconst 0, 1) := by decide +kernel
theorem dX2_isFair_17 : decode cX2_isFair 17 = .ok (.ireturn, 1) := by decide +kernel
theorem dX2_announce_0 : decode cX2_announce 0 = .ok (.aload_n 0, 1) := by decide +kernel
theorem dX2_announce_1 : decode cX2_announce 1 = .ok (.getfield 24, 3) := by decide +kernel
theorem dX2_announce_4 : decode cX2_announce 4 = .ok (.istore 4, 2) := by decide +kernel
theorem dX2_announce_6 : decode cX2_announce 6 = .ok (.aload_n 0, 1) := by decide +kernel
theorem dX2_announce_7 : decode cX2_announce 7 = .ok (.getfield 9, 3) := by decide +kernel
theorem dX2_announce_10 : decode cX2_announce 10 = .ok (.iload 4, 2) := by decide +kernel
theorem dX2_announce_12 : decode cX2_announce 12 = .ok (.iload_n 1, 1) := by decide +kernel
theorem dX2_announce_13 : decode cX2_announce 13 = .ok (.iastore, 1) := by decide +kernel
theorem dX2_announce_14 : decode cX2_announce 14 = .ok (.aload_n 0, 1) := by decide +kernel
theorem dX2_announce_15 : decode cX2_announce 15 = .ok (.getfield 15, 3) := by decide +kernel
theorem dX2_announce_18 : decode cX2_announce 18 = .ok (.iload 4, 2) := by decide +kernel
theorem dX2_announce_20 : decode cX2_announce 20 = .ok (.iload_n 2, 1) := by decide +kernel
theorem dX2_announce_21 : decode cX2_announce 21 = .ok (.iastore, 1) := by decide +kernel
theorem dX2_announce_22 : decode cX2_announce 22 = .ok (.aload_n 0, 1) := by decide +kernel
theorem dX2_announce_23 : decode cX2_announce 23 = .ok (.getfield 18, 3) := by decide +kernel
theorem dX2_announce_26 : decode cX2_announce 26 = .ok (.iload 4, 2) := by decide +kernel
theorem dX2_announce_28 : decode cX2_announce 28 = .ok (.iload_n 3, 1) := by decide +kernel
theorem dX2_announce_29 : decode cX2_announce 29 = .ok (.iastore, 1) := by decide +kernel
theorem dX2_announce_30 : decode cX2_announce 30 = .ok (.aload_n 0, 1) := by decide +kernel
theorem dX2_announce_31 : decode cX2_announce 31 = .ok (.dup, 1) := by decide +kernel
theorem dX2_announce_32 : decode cX2_announce 32 = .ok (.getfield 24, 3) := by decide +kernel
theorem dX2_announce_35 : decode cX2_announce 35 = .ok (.iconst 1, 1) := by decide +kernel
theorem dX2_announce_36 : decode cX2_announce 36 = .ok (.iadd, 1) := by decide +kernel
theorem dX2_announce_37 : decode cX2_announce 37 = .ok (.putfield 24, 3) := by decide +kernel
theorem dX2_announce_40 : decode cX2_announce 40 = .ok (.iload 4, 2) := by decide +kernel
theorem dX2_announce_42 : decode cX2_announce 42 = .ok (.ireturn, 1) := by decide +kernel
theorem dX2_daysBetween_0 : decode cX2_daysBetween 0 = .ok (.aload_n 0, 1) := by decide +kernel
theorem dX2_daysBetween_1 : decode cX2_daysBetween 1 = .ok (.getfield 21, 3) := by decide +kernel
theorem dX2_daysBetween_4 : decode cX2_daysBetween 4 = .ok (.bipush 8, 2) := by decide +kernel
theorem dX2_daysBetween_6 : decode cX2_daysBetween 6 = .ok (.iload_n 1, 1) := by decide +kernel
theorem dX2_daysBetween_7 : decode cX2_daysBetween 7 = .ok (.imul, 1) := by decide +kernel
theorem dX2_daysBetween_8 : decode cX2_daysBetween 8 = .ok (.iload_n 2, 1) := by decide +kernel
theorem dX2_daysBetween_9 : decode cX2_daysBetween 9 = .ok (.iadd, 1) := by decide +kernel
theorem dX2_daysBetween_10 : decode cX2_daysBetween 10 = .ok (.iaload, 1) := by decide +kernel
theorem dX2_daysBetween_11 : decode cX2_daysBetween 11 = .ok (.ireturn, 1) := by decide +kernel
theorem dX2_layRoad_0 : decode cX2_layRoad 0 = .ok (.aload_n 0, 1) := by decide +kernel
theorem dX2_layRoad_1 : decode cX2_layRoad 1 = .ok (.getfield 21, 3) := by decide +kernel
theorem dX2_layRoad_4 : decode cX2_layRoad 4 = .ok (.bipush 8, 2) := by decide +kernel
theorem dX2_layRoad_6 : decode cX2_layRoad 6 = .ok (.iload_n 1, 1) := by decide +kernel
theorem dX2_layRoad_7 : decode cX2_layRoad 7 = .ok (.imul, 1) := by decide +kernel
theorem dX2_layRoad_8 : decode cX2_layRoad 8 = .ok (.iload_n 2, 1) := by decide +kernel
theorem dX2_layRoad_9 : decode cX2_layRoad 9 = .ok (.iadd, 1) := by decide +kernel
theorem dX2_layRoad_10 : decode cX2_layRoad 10 = .ok (.iload_n 3, 1) := by decide +kernel
theorem dX2_layRoad_11 : decode cX2_layRoad 11 = .ok (.iastore, 1) := by decide +kernel
theorem dX2_layRoad_12 : decode cX2_layRoad 12 = .ok (.aload_n 0, 1) := by decide +kernel
theorem dX2_layRoad_13 : decode cX2_layRoad 13 = .ok (.getfield 21, 3) := by decide +kernel
theorem dX2_layRoad_16 : decode cX2_layRoad 16 = .ok (.bipush 8, 2) := by decide +kernel
theorem dX2_layRoad_18 : decode cX2_layRoad 18 = .ok (.iload_n 2, 1) := by decide +kernel
theorem dX2_layRoad_19 : decode cX2_layRoad 19 = .ok (.imul, 1) := by decide +kernel
theorem dX2_layRoad_20 : decode cX2_layRoad 20 = .ok (.iload_n 1, 1) := by decide +kernel
theorem dX2_layRoad_21 : decode cX2_layRoad 21 = .ok (.iadd, 1) := by decide +kernel
theorem dX2_layRoad_22 : decode cX2_layRoad 22 = .ok (.iload_n 3, 1) := by decide +kernel
theorem dX2_layRoad_23 : decode cX2_layRoad 23 = .ok (.iastore, 1) := by decide +kernel
theorem dX2_layRoad_24 : decode cX2_layRoad 24 = .ok (.return_, 1) := by decide +kernel
theorem dX2_planRounds_0 : decode cX2_planRounds 0 = .ok (.iconst 0, 1) := by decide +kernel
theorem dX2_planRounds_1 : decode cX2_planRounds 1 = .ok (.istore_n 1, 1) := by decide +kernel
theorem dX2_planRounds_2 : decode cX2_planRounds 2 = .ok (.iload_n 1, 1) := by decide +kernel
theorem dX2_planRounds_3 : decode cX2_planRounds 3 = .ok (.aload_n 0, 1) := by decide +kernel
theorem dX2_planRounds_4 : decode cX2_planRounds 4 = .ok (.getfield 24, 3) := by decide +kernel
theorem dX2_planRounds_7 : decode cX2_planRounds 7 = .ok (.if_icmp .ge 30, 3) := by decide +kernel
theorem dX2_planRounds_10 : decode cX2_planRounds 10 = .ok (.iconst 0, 1) := by decide +kernel
theorem dX2_planRounds_11 : decode cX2_planRounds 11 = .ok (.istore_n 2, 1) := by decide +kernel
theorem dX2_planRounds_12 : decode cX2_planRounds 12 = .ok (.iload_n 2, 1) := by decide +kernel
theorem dX2_planRounds_13 : decode cX2_planRounds 13 = .ok (.aload_n 0, 1) := by decide +kernel
theorem dX2_planRounds_14 : decode cX2_planRounds 14 = .ok (.getfield 24, 3) := by decide +kernel
theorem dX2_planRounds_17 : decode cX2_planRounds 17 = .ok (.if_icmp .ge 14, 3) := by decide +kernel
theorem dX2_planRounds_20 : decode cX2_planRounds 20 = .ok (.aload_n 0, 1) := by decide +kernel
theorem dX2_planRounds_21 : decode cX2_planRounds 21 = .ok (.iload_n 2, 1) := by decide +kernel
theorem dX2_planRounds_22 : decode cX2_planRounds 22 = .ok (.invokevirtual 37, 3) := by decide +kernel
theorem dX2_planRounds_25 : decode cX2_planRounds 25 = .ok (.iinc 2 1, 3) := by decide +kernel
theorem dX2_planRounds_28 : decode cX2_planRounds 28 = .ok (.goto (-16), 3) := by decide +kernel
theorem dX2_planRounds_31 : decode cX2_planRounds 31 = .ok (.iinc 1 1, 3) := by decide +kernel
theorem dX2_planRounds_34 : decode cX2_planRounds 34 = .ok (.goto (-32), 3) := by decide +kernel
theorem dX2_planRounds_37 : decode cX2_planRounds 37 = .ok (.return_, 1) := by decide +kernel
theorem dX2_planFrom_0 : decode cX2_planFrom 0 = .ok (.aload_n 0, 1) := by decide +kernel
theorem dX2_planFrom_1 : decode cX2_planFrom 1 = .ok (.iload_n 1, 1) := by decide +kernel
theorem dX2_planFrom_2 : decode cX2_planFrom 2 = .ok (.invokevirtual 41, 3) := by decide +kernel
theorem dX2_planFrom_5 : decode cX2_planFrom 5 = .ok (.istore_n 2, 1) := by decide +kernel
theorem dX2_planFrom_6 : decode cX2_planFrom 6 = .ok (.aload_n 0, 1) := by decide +kernel
theorem dX2_planFrom_7 : decode cX2_planFrom 7 = .ok (.getfield 34, 3) := by decide +kernel
theorem dX2_planFrom_10 : decode cX2_planFrom 10 = .ok (.iload_n 1, 1) := by decide +kernel
theorem dX2_planFrom_11 : decode cX2_planFrom 11 = .ok (.iload_n 2, 1) := by decide +kernel
theorem dX2_planFrom_12 : decode cX2_planFrom 12 = .ok (.iastore, 1) := by decide +kernel
theorem dX2_planFrom_13 : decode cX2_planFrom 13 = .ok (.aload_n 0, 1) := by decide +kernel
theorem dX2_planFrom_14 : decode cX2_planFrom 14 = .ok (.getfield 28, 3) := by decide +kernel
theorem dX2_planFrom_17 : decode cX2_planFrom 17 = .ok (.iload_n 1, 1) := by decide +kernel
theorem dX2_planFrom_18 : decode cX2_planFrom 18 = .ok (.aload_n 0, 1) := by decide +kernel
theorem dX2_planFrom_19 : decode cX2_planFrom 19 = .ok (.getfield 18, 3) := by decide +kernel
theorem dX2_planFrom_22 : decode cX2_planFrom 22 = .ok (.iload_n 1, 1) := by decide +kernel
theorem dX2_planFrom_23 : decode cX2_planFrom 23 = .ok (.iaload, 1) := by decide +kernel
theorem dX2_planFrom_24 : decode cX2_planFrom 24 = .ok (.aload_n 0, 1) := by decide +kernel
theorem dX2_planFrom_25 : decode cX2_planFrom 25 = .ok (.iload_n 2, 1) := by decide +kernel
theorem dX2_planFrom_26 : decode cX2_planFrom 26 = .ok (.invokevirtual 45, 3) := by decide +kernel
theorem dX2_planFrom_29 : decode cX2_planFrom 29 = .ok (.iadd, 1) := by decide +kernel
theorem dX2_planFrom_30 : decode cX2_planFrom 30 = .ok (.iastore, 1) := by decide +kernel
theorem dX2_planFrom_31 : decode cX2_planFrom 31 = .ok (.aload_n 0, 1) := by decide +kernel
theorem dX2_planFrom_32 : decode cX2_planFrom 32 = .ok (.getfield 31, 3) := by decide +kernel
theorem dX2_planFrom_35 : decode cX2_planFrom 35 = .ok (.iload_n 1, 1) := by decide +kernel
theorem dX2_planFrom_36 : decode cX2_planFrom 36 = .ok (.iconst 1, 1) := by decide +kernel
theorem dX2_planFrom_37 : decode cX2_planFrom 37 = .ok (.aload_n 0, 1) := by decide +kernel
theorem dX2_planFrom_38 : decode cX2_planFrom 38 = .ok (.iload_n 2, 1) := by decide +kernel
theorem dX2_planFrom_39 : decode cX2_planFrom 39 = .ok (.invokevirtual 48, 3) := by decide +kernel
theorem dX2_planFrom_42 : decode cX2_planFrom 42 = .ok (.iadd, 1) := by decide +kernel
theorem dX2_planFrom_43 : decode cX2_planFrom 43 = .ok (.iastore, 1) := by decide +kernel
theorem dX2_planFrom_44 : decode cX2_planFrom 44 = .ok (.return_, 1) := by decide +kernel
theorem dX2_bestBehind_0 : decode cX2_bestBehind 0 = .ok (.iconst (-1), 1) := by decide +kernel
theorem dX2_bestBehind_1 : decode cX2_bestBehind 1 = .ok (.istore_n 2, 1) := by decide +kernel
theorem dX2_bestBehind_2 : decode cX2_bestBehind 2 = .ok (.iconst 0, 1) := by decide +kernel
theorem dX2_bestBehind_3 : decode cX2_bestBehind 3 = .ok (.istore_n 3, 1) := by decide +kernel
theorem dX2_bestBehind_4 : decode cX2_bestBehind 4 = .ok (.iload_n 3, 1) := by decide +kernel
theorem dX2_bestBehind_5 : decode cX2_bestBehind 5 = .ok (.aload_n 0, 1) := by decide +kernel
theorem dX2_bestBehind_6 : decode cX2_bestBehind 6 = .ok (.getfield 24, 3) := by decide +kernel
theorem dX2_bestBehind_9 : decode cX2_bestBehind 9 = .ok (.if_icmp .ge 29, 3) := by decide +kernel
theorem dX2_bestBehind_12 : decode cX2_bestBehind 12 = .ok (.aload_n 0, 1) := by decide +kernel
theorem dX2_bestBehind_13 : decode cX2_bestBehind 13 = .ok (.iload_n 1, 1) := by decide +kernel
theorem dX2_bestBehind_14 : decode cX2_bestBehind 14 = .ok (.iload_n 3, 1) := by decide +kernel
theorem dX2_bestBehind_15 : decode cX2_bestBehind 15 = .ok (.invokevirtual 51, 3) := by decide +kernel
theorem dX2_bestBehind_18 : decode cX2_bestBehind 18 = .ok (.ifCond .eq 14, 3) := by decide +kernel
theorem dX2_bestBehind_21 : decode cX2_bestBehind 21 = .ok (.aload_n 0, 1) := by decide +kernel
theorem dX2_bestBehind_22 : decode cX2_bestBehind 22 = .ok (.iload_n 3, 1) := by decide +kernel
theorem dX2_bestBehind_23 : decode cX2_bestBehind 23 = .ok (.iload_n 2, 1) := by decide +kernel
theorem dX2_bestBehind_24 : decode cX2_bestBehind 24 = .ok (.invokevirtual 55, 3) := by decide +kernel
theorem dX2_bestBehind_27 : decode cX2_bestBehind 27 = .ok (.ifCond .eq 5, 3) := by decide +kernel
theorem dX2_bestBehind_30 : decode cX2_bestBehind 30 = .ok (.iload_n 3, 1) := by decide +kernel
theorem dX2_bestBehind_31 : decode cX2_bestBehind 31 = .ok (.istore_n 2, 1) := by decide +kernel
theorem dX2_bestBehind_32 : decode cX2_bestBehind 32 = .ok (.iinc 3 1, 3) := by decide +kernel
theorem dX2_bestBehind_35 : decode cX2_bestBehind 35 = .ok (.goto (-31), 3) := by decide +kernel
theorem dX2_bestBehind_38 : decode cX2_bestBehind 38 = .ok (.iload_n 2, 1) := by decide +kernel
theorem dX2_bestBehind_39 : decode cX2_bestBehind 39 = .ok (.ireturn, 1) := by decide +kernel
theorem dX2_mayFollow_0 : decode cX2_mayFollow 0 = .ok (.aload_n 0, 1) := by decide +kernel
theorem dX2_mayFollow_1 : decode cX2_mayFollow 1 = .ok (.iload_n 1, 1) := by decide +kernel
theorem dX2_mayFollow_2 : decode cX2_mayFollow 2 = .ok (.invokevirtual 58, 3) := by decide +kernel
theorem dX2_mayFollow_5 : decode cX2_mayFollow 5 = .ok (.ifCond .eq 25, 3) := by decide +kernel
theorem dX2_mayFollow_8 : decode cX2_mayFollow 8 = .ok (.aload_n 0, 1) := by decide +kernel
theorem dX2_mayFollow_9 : decode cX2_mayFollow 9 = .ok (.getfield 9, 3) := by decide +kernel
theorem dX2_mayFollow_12 : decode cX2_mayFollow 12 = .ok (.iload_n 2, 1) := by decide +kernel
theorem dX2_mayFollow_13 : decode cX2_mayFollow 13 = .ok (.iaload, 1) := by decide +kernel
theorem dX2_mayFollow_14 : decode cX2_mayFollow 14 = .ok (.aload_n 0, 1) := by decide +kernel
theorem dX2_mayFollow_15 : decode cX2_mayFollow 15 = .ok (.getfield 15, 3) := by decide +kernel
theorem dX2_mayFollow_18 : decode cX2_mayFollow 18 = .ok (.iload_n 1, 1) := by decide +kernel
theorem dX2_mayFollow_19 : decode cX2_mayFollow 19 = .ok (.iaload, 1) := by decide +kernel
theorem dX2_mayFollow_20 : decode cX2_mayFollow 20 = .ok (.aload_n 0, 1) := by decide +kernel
theorem dX2_mayFollow_21 : decode cX2_mayFollow 21 = .ok (.iload_n 1, 1) := by decide +kernel
theorem dX2_mayFollow_22 : decode cX2_mayFollow 22 = .ok (.iload_n 2, 1) := by decide +kernel
theorem dX2_mayFollow_23 : decode cX2_mayFollow 23 = .ok (.invokevirtual 62, 3) := by decide +kernel
theorem dX2_mayFollow_26 : decode cX2_mayFollow 26 = .ok (.iadd, 1) := by decide +kernel
theorem dX2_mayFollow_27 : decode cX2_mayFollow 27 = .ok (.if_icmp .le 7, 3) := by decide +kernel
theorem dX2_mayFollow_30 : decode cX2_mayFollow 30 = .ok (.iconst 1, 1) := by decide +kernel
theorem dX2_mayFollow_31 : decode cX2_mayFollow 31 = .ok (.goto 4, 3) := by decide +kernel
theorem dX2_mayFollow_34 : decode cX2_mayFollow 34 = .ok (.iconst 0, 1) := by decide +kernel
theorem dX2_mayFollow_35 : decode cX2_mayFollow 35 = .ok (.ireturn, 1) := by decide +kernel
theorem dX2_isBetter_0 : decode cX2_isBetter 0 = .ok (.aload_n 0, 1) := by decide +kernel
theorem dX2_isBetter_1 : decode cX2_isBetter 1 = .ok (.iload_n 2, 1) := by decide +kernel
theorem dX2_isBetter_2 : decode cX2_isBetter 2 = .ok (.invokevirtual 45, 3) := by decide +kernel
theorem dX2_isBetter_5 : decode cX2_isBetter 5 = .ok (.istore_n 3, 1) := by decide +kernel
theorem dX2_isBetter_6 : decode cX2_isBetter 6 = .ok (.aload_n 0, 1) := by decide +kernel
theorem dX2_isBetter_7 : decode cX2_isBetter 7 = .ok (.getfield 28, 3) := by decide +kernel
theorem dX2_isBetter_10 : decode cX2_isBetter 10 = .ok (.iload_n 1, 1) := by decide +kernel
theorem dX2_isBetter_11 : decode cX2_isBetter 11 = .ok (.iaload, 1) := by decide +kernel
theorem dX2_isBetter_12 : decode cX2_isBetter 12 = .ok (.iload_n 3, 1) := by decide +kernel
theorem dX2_isBetter_13 : decode cX2_isBetter 13 = .ok (.if_icmp .gt 27, 3) := by decide +kernel
theorem dX2_isBetter_16 : decode cX2_isBetter 16 = .ok (.aload_n 0, 1) := by decide +kernel
theorem dX2_isBetter_17 : decode cX2_isBetter 17 = .ok (.getfield 28, 3) := by decide +kernel
theorem dX2_isBetter_20 : decode cX2_isBetter 20 = .ok (.iload_n 1, 1) := by decide +kernel
theorem dX2_isBetter_21 : decode cX2_isBetter 21 = .ok (.iaload, 1) := by decide +kernel
theorem dX2_isBetter_22 : decode cX2_isBetter 22 = .ok (.iload_n 3, 1) := by decide +kernel
theorem dX2_isBetter_23 : decode cX2_isBetter 23 = .ok (.if_icmp .ne 21, 3) := by decide +kernel
theorem dX2_isBetter_26 : decode cX2_isBetter 26 = .ok (.aload_n 0, 1) := by decide +kernel
theorem dX2_isBetter_27 : decode cX2_isBetter 27 = .ok (.getfield 31, 3) := by decide +kernel
theorem dX2_isBetter_30 : decode cX2_isBetter 30 = .ok (.iload_n 1, 1) := by decide +kernel
theorem dX2_isBetter_31 : decode cX2_isBetter 31 = .ok (.iaload, 1) := by decide +kernel
theorem dX2_isBetter_32 : decode cX2_isBetter 32 = .ok (.aload_n 0, 1) := by decide +kernel
theorem dX2_isBetter_33 : decode cX2_isBetter 33 = .ok (.iload_n 2, 1) := by decide +kernel
theorem dX2_isBetter_34 : decode cX2_isBetter 34 = .ok (.invokevirtual 48, 3) := by decide +kernel
theorem dX2_isBetter_37 : decode cX2_isBetter 37 = .ok (.if_icmp .ge 7, 3) := by decide +kernel
theorem dX2_isBetter_40 : decode cX2_isBetter 40 = .ok (.iconst 1, 1) := by decide +kernel
theorem dX2_isBetter_41 : decode cX2_isBetter 41 = .ok (.goto 4, 3) := by decide +kernel
theorem dX2_isBetter_44 : decode cX2_isBetter 44 = .ok (.iconst 0, 1) := by decide +kernel
theorem dX2_isBetter_45 : decode cX2_isBetter 45 = .ok (.ireturn, 1) := by decide +kernel
theorem dX2_gainFrom_0 : decode cX2_gainFrom 0 = .ok (.aload_n 0, 1) := by decide +kernel
theorem dX2_gainFrom_1 : decode cX2_gainFrom 1 = .ok (.iload_n 1, 1) := by decide +kernel
theorem dX2_gainFrom_2 : decode cX2_gainFrom 2 = .ok (.invokevirtual 58, 3) := by decide +kernel
theorem dX2_gainFrom_5 : decode cX2_gainFrom 5 = .ok (.ifCond .eq 12, 3) := by decide +kernel
theorem dX2_gainFrom_8 : decode cX2_gainFrom 8 = .ok (.aload_n 0, 1) := by decide +kernel
theorem dX2_gainFrom_9 : decode cX2_gainFrom 9 = .ok (.getfield 28, 3) := by decide +kernel
theorem dX2_gainFrom_12 : decode cX2_gainFrom 12 = .ok (.iload_n 1, 1) := by decide +kernel
theorem dX2_gainFrom_13 : decode cX2_gainFrom 13 = .ok (.iaload, 1) := by decide +kernel
theorem dX2_gainFrom_14 : decode cX2_gainFrom 14 = .ok (.goto 4, 3) := by decide +kernel
theorem dX2_gainFrom_17 : decode cX2_gainFrom 17 = .ok (.iconst 0, 1) := by decide +kernel
theorem dX2_gainFrom_18 : decode cX2_gainFrom 18 = .ok (.ireturn, 1) := by decide +kernel
theorem dX2_lengthFrom_0 : decode cX2_lengthFrom 0 = .ok (.aload_n 0, 1) := by decide +kernel
theorem dX2_lengthFrom_1 : decode cX2_lengthFrom 1 = .ok (.iload_n 1, 1) := by decide +kernel
theorem dX2_lengthFrom_2 : decode cX2_lengthFrom 2 = .ok (.invokevirtual 58, 3) := by decide +kernel
theorem dX2_lengthFrom_5 : decode cX2_lengthFrom 5 = .ok (.ifCond .eq 12, 3) := by decide +kernel
theorem dX2_lengthFrom_8 : decode cX2_lengthFrom 8 = .ok (.aload_n 0, 1) := by decide +kernel
theorem dX2_lengthFrom_9 : decode cX2_lengthFrom 9 = .ok (.getfield 31, 3) := by decide +kernel
theorem dX2_lengthFrom_12 : decode cX2_lengthFrom 12 = .ok (.iload_n 1, 1) := by decide +kernel
theorem dX2_lengthFrom_13 : decode cX2_lengthFrom 13 = .ok (.iaload, 1) := by decide +kernel
theorem dX2_lengthFrom_14 : decode cX2_lengthFrom 14 = .ok (.goto 4, 3) := by decide +kernel
theorem dX2_lengthFrom_17 : decode cX2_lengthFrom 17 = .ok (.iconst 0, 1) := by decide +kernel
theorem dX2_lengthFrom_18 : decode cX2_lengthFrom 18 = .ok (.ireturn, 1) := by decide +kernel
theorem dX2_fairOfBestRound_0 : decode cX2_fairOfBestRound 0 = .ok (.aload_n 0, 1) := by decide +kernel
theorem dX2_fairOfBestRound_1 : decode cX2_fairOfBestRound 1 = .ok (.iconst (-1), 1) := by decide +kernel
theorem dX2_fairOfBestRound_2 : decode cX2_fairOfBestRound 2 = .ok (.invokevirtual 41, 3) := by decide +kernel
theorem dX2_fairOfBestRound_5 : decode cX2_fairOfBestRound 5 = .ok (.istore_n 2, 1) := by decide +kernel
theorem dX2_fairOfBestRound_6 : decode cX2_fairOfBestRound 6 = .ok (.iconst 0, 1) := by decide +kernel
theorem dX2_fairOfBestRound_7 : decode cX2_fairOfBestRound 7 = .ok (.istore_n 3, 1) := by decide +kernel
theorem dX2_fairOfBestRound_8 : decode cX2_fairOfBestRound 8 = .ok (.iload_n 3, 1) := by decide +kernel
theorem dX2_fairOfBestRound_9 : decode cX2_fairOfBestRound 9 = .ok (.iload_n 1, 1) := by decide +kernel
theorem dX2_fairOfBestRound_10 : decode cX2_fairOfBestRound 10 = .ok (.if_icmp .ge 24, 3) := by decide +kernel
theorem dX2_fairOfBestRound_13 : decode cX2_fairOfBestRound 13 = .ok (.aload_n 0, 1) := by decide +kernel
theorem dX2_fairOfBestRound_14 : decode cX2_fairOfBestRound 14 = .ok (.iload_n 2, 1) := by decide +kernel
theorem dX2_fairOfBestRound_15 : decode cX2_fairOfBestRound 15 = .ok (.invokevirtual 58, 3) := by decide +kernel
theorem dX2_fairOfBestRound_18 : decode cX2_fairOfBestRound 18 = .ok (.ifCond .eq 16, 3) := by decide +kernel
theorem dX2_fairOfBestRound_21 : decode cX2_fairOfBestRound 21 = .ok (.aload_n 0, 1) := by decide +kernel
theorem dX2_fairOfBestRound_22 : decode cX2_fairOfBestRound 22 = .ok (.getfield 34, 3) := by decide +kernel
theorem dX2_fairOfBestRound_25 : decode cX2_fairOfBestRound 25 = .ok (.iload_n 2, 1) := by decide +kernel
theorem dX2_fairOfBestRound_26 : decode cX2_fairOfBestRound 26 = .ok (.iaload, 1) := by decide +kernel
theorem dX2_fairOfBestRound_27 : decode cX2_fairOfBestRound 27 = .ok (.istore_n 2, 1) := by decide +kernel
theorem dX2_fairOfBestRound_28 : decode cX2_fairOfBestRound 28 = .ok (.iinc 3 1, 3) := by decide +kernel
theorem dX2_fairOfBestRound_31 : decode cX2_fairOfBestRound 31 = .ok (.goto (-23), 3) := by decide +kernel
theorem dX2_fairOfBestRound_34 : decode cX2_fairOfBestRound 34 = .ok (.iload_n 2, 1) := by decide +kernel
theorem dX2_fairOfBestRound_35 : decode cX2_fairOfBestRound 35 = .ok (.ireturn, 1) := by decide +kernel
theorem dX2_mixAll_0 : decode cX2_mixAll 0 = .ok (.lload_n 1, 1) := by decide +kernel
theorem dX2_mixAll_1 : decode cX2_mixAll 1 = .ok (.lstore_n 3, 1) := by decide +kernel
theorem dX2_mixAll_2 : decode cX2_mixAll 2 = .ok (.iconst 0, 1) := by decide +kernel
theorem dX2_mixAll_3 : decode cX2_mixAll 3 = .ok (.istore 5, 2) := by decide +kernel
theorem dX2_mixAll_5 : decode cX2_mixAll 5 = .ok (.iload 5, 2) := by decide +kernel
theorem dX2_mixAll_7 : decode cX2_mixAll 7 = .ok (.aload_n 0, 1) := by decide +kernel
theorem dX2_mixAll_8 : decode cX2_mixAll 8 = .ok (.getfield 24, 3) := by decide +kernel
theorem dX2_mixAll_11 : decode cX2_mixAll 11 = .ok (.if_icmp .ge 75, 3) := by decide +kernel
theorem dX2_mixAll_14 : decode cX2_mixAll 14 = .ok (.lload_n 3, 1) := by decide +kernel
theorem dX2_mixAll_15 : decode cX2_mixAll 15 = .ok (.aload_n 0, 1) := by decide +kernel
theorem dX2_mixAll_16 : decode cX2_mixAll 16 = .ok (.getfield 9, 3) := by decide +kernel
theorem dX2_mixAll_19 : decode cX2_mixAll 19 = .ok (.iload 5, 2) := by decide +kernel
theorem dX2_mixAll_21 : decode cX2_mixAll 21 = .ok (.iaload, 1) := by decide +kernel
theorem dX2_mixAll_22 : decode cX2_mixAll 22 = .ok (.invokestatic 66, 3) := by decide +kernel
theorem dX2_mixAll_25 : decode cX2_mixAll 25 = .ok (.aload_n 0, 1) := by decide +kernel
theorem dX2_mixAll_26 : decode cX2_mixAll 26 = .ok (.getfield 15, 3) := by decide +kernel
theorem dX2_mixAll_29 : decode cX2_mixAll 29 = .ok (.iload 5, 2) := by decide +kernel
theorem dX2_mixAll_31 : decode cX2_mixAll 31 = .ok (.iaload, 1) := by decide +kernel
theorem dX2_mixAll_32 : decode cX2_mixAll 32 = .ok (.invokestatic 66, 3) := by decide +kernel
theorem dX2_mixAll_35 : decode cX2_mixAll 35 = .ok (.aload_n 0, 1) := by decide +kernel
theorem dX2_mixAll_36 : decode cX2_mixAll 36 = .ok (.getfield 18, 3) := by decide +kernel
theorem dX2_mixAll_39 : decode cX2_mixAll 39 = .ok (.iload 5, 2) := by decide +kernel
theorem dX2_mixAll_41 : decode cX2_mixAll 41 = .ok (.iaload, 1) := by decide +kernel
theorem dX2_mixAll_42 : decode cX2_mixAll 42 = .ok (.invokestatic 66, 3) := by decide +kernel
theorem dX2_mixAll_45 : decode cX2_mixAll 45 = .ok (.lstore_n 3, 1) := by decide +kernel
theorem dX2_mixAll_46 : decode cX2_mixAll 46 = .ok (.iload 5, 2) := by decide +kernel
theorem dX2_mixAll_48 : decode cX2_mixAll 48 = .ok (.iconst 1, 1) := by decide +kernel
theorem dX2_mixAll_49 : decode cX2_mixAll 49 = .ok (.iadd, 1) := by decide +kernel
theorem dX2_mixAll_50 : decode cX2_mixAll 50 = .ok (.istore 6, 2) := by decide +kernel
theorem dX2_mixAll_52 : decode cX2_mixAll 52 = .ok (.iload 6, 2) := by decide +kernel
theorem dX2_mixAll_54 : decode cX2_mixAll 54 = .ok (.aload_n 0, 1) := by decide +kernel
theorem dX2_mixAll_55 : decode cX2_mixAll 55 = .ok (.getfield 24, 3) := by decide +kernel
theorem dX2_mixAll_58 : decode cX2_mixAll 58 = .ok (.if_icmp .ge 22, 3) := by decide +kernel
theorem dX2_mixAll_61 : decode cX2_mixAll 61 = .ok (.lload_n 3, 1) := by decide +kernel
theorem dX2_mixAll_62 : decode cX2_mixAll 62 = .ok (.aload_n 0, 1) := by decide +kernel
theorem dX2_mixAll_63 : decode cX2_mixAll 63 = .ok (.iload 5, 2) := by decide +kernel
theorem dX2_mixAll_65 : decode cX2_mixAll 65 = .ok (.iload 6, 2) := by decide +kernel
theorem dX2_mixAll_67 : decode cX2_mixAll 67 = .ok (.invokevirtual 62, 3) := by decide +kernel
theorem dX2_mixAll_70 : decode cX2_mixAll 70 = .ok (.invokestatic 66, 3) := by decide +kernel
theorem dX2_mixAll_73 : decode cX2_mixAll 73 = .ok (.lstore_n 3, 1) := by decide +kernel
theorem dX2_mixAll_74 : decode cX2_mixAll 74 = .ok (.iinc 6 1, 3) := by decide +kernel
theorem dX2_mixAll_77 : decode cX2_mixAll 77 = .ok (.goto (-25), 3) := by decide +kernel
theorem dX2_mixAll_80 : decode cX2_mixAll 80 = .ok (.iinc 5 1, 3) := by decide +kernel
theorem dX2_mixAll_83 : decode cX2_mixAll 83 = .ok (.goto (-78), 3) := by decide +kernel
theorem dX2_mixAll_86 : decode cX2_mixAll 86 = .ok (.lload_n 3, 1) := by decide +kernel
theorem dX2_mixAll_87 : decode cX2_mixAll 87 = .ok (.lreturn, 1) := by decide +kernel
theorem dX3_init_0 : decode cX3_init 0 = .ok (.aload_n 0, 1) := by decide +kernel
theorem dX3_init_1 : decode cX3_init 1 = .ok (.invokespecial 3, 3) := by decide +kernel
theorem dX3_init_4 : decode cX3_init 4 = .ok (.aload_n 0, 1) := by decide +kernel
theorem dX3_init_5 : decode cX3_init 5 = .ok (.bipush 48, 2) := by decide +kernel
theorem dX3_init_7 : decode cX3_init 7 = .ok (.newarray .int, 2) := by decide +kernel
theorem dX3_init_9 : decode cX3_init 9 = .ok (.putfield 9, 3) := by decide +kernel
theorem dX3_init_12 : decode cX3_init 12 = .ok (.aload_n 0, 1) := by decide +kernel
theorem dX3_init_13 : decode cX3_init 13 = .ok (.bipush 48, 2) := by decide +kernel
theorem dX3_init_15 : decode cX3_init 15 = .ok (.newarray .int, 2) := by decide +kernel
theorem dX3_init_17 : decode cX3_init 17 = .ok (.putfield 15, 3) := by decide +kernel
theorem dX3_init_20 : decode cX3_init 20 = .ok (.iconst 0, 1) := by decide +kernel
theorem dX3_init_21 : decode cX3_init 21 = .ok (.istore_n 1, 1) := by decide +kernel
theorem dX3_init_22 : decode cX3_init 22 = .ok (.iload_n 1, 1) := by decide +kernel
theorem dX3_init_23 : decode cX3_init 23 = .ok (.bipush 48, 2) := by decide +kernel
theorem dX3_init_25 : decode cX3_init 25 = .ok (.if_icmp .ge 16, 3) := by decide +kernel
theorem dX3_init_28 : decode cX3_init 28 = .ok (.aload_n 0, 1) := by decide +kernel
theorem dX3_init_29 : decode cX3_init 29 = .ok (.getfield 9, 3) := by decide +kernel
theorem dX3_init_32 : decode cX3_init 32 = .ok (.iload_n 1, 1) := by decide +kernel
theorem dX3_init_33 : decode cX3_init 33 = .ok (.iload_n 1, 1) := by decide +kernel
theorem dX3_init_34 : decode cX3_init 34 = .ok (.iastore, 1) := by decide +kernel
theorem dX3_init_35 : decode cX3_init 35 = .ok (.iinc 1 1, 3) := by decide +kernel
theorem dX3_init_38 : decode cX3_init 38 = .ok (.goto (-16), 3) := by decide +kernel
theorem dX3_init_41 : decode cX3_init 41 = .ok (.return_, 1) := by decide +kernel
theorem dX3_areOwn_0 : decode cX3_areOwn 0 = .ok (.iconst 0, 1) := by decide +kernel
theorem dX3_areOwn_1 : decode cX3_areOwn 1 = .ok (.istore_n 2, 1) := by decide +kernel
theorem dX3_areOwn_2 : decode cX3_areOwn 2 = .ok (.iload_n 2, 1) := by decide +kernel
theorem dX3_areOwn_3 : decode cX3_areOwn 3 = .ok (.iconst 4, 1) := by decide +kernel
theorem dX3_areOwn_4 : decode cX3_areOwn 4 = .ok (.if_icmp .ge 29, 3) := by decide +kernel
theorem dX3_areOwn_7 : decode cX3_areOwn 7 = .ok (.aload_n 0, 1) := by decide +kernel
theorem dX3_areOwn_8 : decode cX3_areOwn 8 = .ok (.getfield 9, 3) := by decide +kernel
theorem dX3_areOwn_11 : decode cX3_areOwn 11 = .ok (.iload_n 1, 1) := by decide +kernel
theorem dX3_areOwn_12 : decode cX3_areOwn 12 = .ok (.iload_n 2, 1) := by decide +kernel
theorem dX3_areOwn_13 : decode cX3_areOwn 13 = .ok (.invokestatic 18, 3) := by decide +kernel
theorem dX3_areOwn_16 : decode cX3_areOwn 16 = .ok (.iaload, 1) := by decide +kernel
theorem dX3_areOwn_17 : decode cX3_areOwn 17 = .ok (.iload_n 1, 1) := by decide +kernel
theorem dX3_areOwn_18 : decode cX3_areOwn 18 = .ok (.iload_n 2, 1) := by decide +kernel
theorem dX3_areOwn_19 : decode cX3_areOwn 19 = .ok (.invokestatic 18, 3) := by decide +kernel
theorem dX3_areOwn_22 : decode cX3_areOwn 22 = .ok (.if_icmp .eq 5, 3) := by decide +kernel
theorem dX3_areOwn_25 : decode cX3_areOwn 25 = .ok (.iconst 0, 1) := by decide +kernel
theorem dX3_areOwn_26 : decode cX3_areOwn 26 = .ok (.ireturn, 1) := by decide +kernel
theorem dX3_areOwn_27 : decode cX3_areOwn 27 = .ok (.iinc 2 1, 3) := by decide +kernel
theorem dX3_areOwn_30 : decode cX3_areOwn 30 = .ok (.goto (-28), 3) := by decide +kernel
theorem dX3_areOwn_33 : decode cX3_areOwn 33 = .ok (.iconst 1, 1) := by decide +kernel
theorem dX3_areOwn_34 : decode cX3_areOwn 34 = .ok (.ireturn, 1) := by decide +kernel
theorem dX3_exchange_0 : decode cX3_exchange 0 = .ok (.aload_n 0, 1) := by decide +kernel
theorem dX3_exchange_1 : decode cX3_exchange 1 = .ok (.getfield 9, 3) := by decide +kernel
theorem dX3_exchange_4 : decode cX3_exchange 4 = .ok (.iload_n 1, 1) := by decide +kernel
theorem dX3_exchange_5 : decode cX3_exchange 5 = .ok (.iaload, 1) := by decide +kernel
theorem dX3_exchange_6 : decode cX3_exchange 6 = .ok (.istore_n 3, 1) := by decide +kernel
theorem dX3_exchange_7 : decode cX3_exchange 7 = .ok (.aload_n 0, 1) := by decide +kernel
theorem dX3_exchange_8 : decode cX3_exchange 8 = .ok (.getfield 9, 3) := by decide +kernel
theorem dX3_exchange_11 : decode cX3_exchange 11 = .ok (.iload_n 1, 1) := by decide +kernel
theorem dX3_exchange_12 : decode cX3_exchange 12 = .ok (.aload_n 0, 1) := by decide +kernel
theorem dX3_exchange_13 : decode cX3_exchange 13 = .ok (.getfield 9, 3) := by decide +kernel
theorem dX3_exchange_16 : decode cX3_exchange 16 = .ok (.iload_n 2, 1) := by decide +kernel
theorem dX3_exchange_17 : decode cX3_exchange 17 = .ok (.iaload, 1) := by decide +kernel
theorem dX3_exchange_18 : decode cX3_exchange 18 = .ok (.iastore, 1) := by decide +kernel
theorem dX3_exchange_19 : decode cX3_exchange 19 = .ok (.aload_n 0, 1) := by decide +kernel
theorem dX3_exchange_20 : decode cX3_exchange 20 = .ok (.getfield 9, 3) := by decide +kernel
theorem dX3_exchange_23 : decode cX3_exchange 23 = .ok (.iload_n 2, 1) := by decide +kernel
theorem dX3_exchange_24 : decode cX3_exchange 24 = .ok (.iload_n 3, 1) := by decide +kernel
theorem dX3_exchange_25 : decode cX3_exchange 25 = .ok (.iastore, 1) := by decide +kernel
theorem dX3_exchange_26 : decode cX3_exchange 26 = .ok (.return_, 1) := by decide +kernel
theorem dX3_whereIs_0 : decode cX3_whereIs 0 = .ok (.iconst 0, 1) := by decide +kernel
theorem dX3_whereIs_1 : decode cX3_whereIs 1 = .ok (.istore_n 2, 1) := by decide +kernel
theorem dX3_whereIs_2 : decode cX3_whereIs 2 = .ok (.iload_n 2, 1) := by decide +kernel
theorem dX3_whereIs_3 : decode cX3_whereIs 3 = .ok (.bipush 48, 2) := by decide +kernel
theorem dX3_whereIs_5 : decode cX3_whereIs 5 = .ok (.if_icmp .ge 21, 3) := by decide +kernel
theorem dX3_whereIs_8 : decode cX3_whereIs 8 = .ok (.aload_n 0, 1) := by decide +kernel
theorem dX3_whereIs_9 : decode cX3_whereIs 9 = .ok (.getfield 9, 3) := by decide +kernel
theorem dX3_whereIs_12 : decode cX3_whereIs 12 = .ok (.iload_n 2, 1) := by decide +kernel
theorem dX3_whereIs_13 : decode cX3_whereIs 13 = .ok (.iaload, 1) := by decide +kernel
theorem dX3_whereIs_14 : decode cX3_whereIs 14 = .ok (.iload_n 1, 1) := by decide +kernel
theorem dX3_whereIs_15 : decode cX3_whereIs 15 = .ok (.if_icmp .ne 5, 3) := by decide +kernel
theorem dX3_whereIs_18 : decode cX3_whereIs 18 = .ok (.iload_n 2, 1) := by decide +kernel
theorem dX3_whereIs_19 : decode cX3_whereIs 19 = .ok (.ireturn, 1) := by decide +kernel
theorem dX3_whereIs_20 : decode cX3_whereIs 20 = .ok (.iinc 2 1, 3) := by decide +kernel
theorem dX3_whereIs_23 : decode cX3_whereIs 23 = .ok (.goto (-21), 3) := by decide +kernel
theorem dX3_whereIs_26 : decode cX3_whereIs 26 = .ok (.iconst (-1), 1) := by decide +kernel
theorem dX3_whereIs_27 : decode cX3_whereIs 27 = .ok (.ireturn, 1) := by decide +kernel
theorem dX3_fewestSwaps_0 : decode cX3_fewestSwaps 0 = .ok (.aload_n 0, 1) := by decide +kernel
theorem dX3_fewestSwaps_1 : decode cX3_fewestSwaps 1 = .ok (.getfield 9, 3) := by decide +kernel
theorem dX3_fewestSwaps_4 : decode cX3_fewestSwaps 4 = .ok (.iconst 0, 1) := by decide +kernel
theorem dX3_fewestSwaps_5 : decode cX3_fewestSwaps 5 = .ok (.aload_n 0, 1) := by decide +kernel
theorem dX3_fewestSwaps_6 : decode cX3_fewestSwaps 6 = .ok (.getfield 15, 3) := by decide +kernel
theorem dX3_fewestSwaps_9 : decode cX3_fewestSwaps 9 = .ok (.iconst 0, 1) := by decide +kernel
theorem dX3_fewestSwaps_10 : decode cX3_fewestSwaps 10 = .ok (.bipush 48, 2) := by decide +kernel
theorem dX3_fewestSwaps_12 : decode cX3_fewestSwaps 12 = .ok (.invokestatic 22, 3) := by decide +kernel
theorem dX3_fewestSwaps_15 : decode cX3_fewestSwaps 15 = .ok (.iconst 0, 1) := by decide +kernel
theorem dX3_fewestSwaps_16 : decode cX3_fewestSwaps 16 = .ok (.istore_n 1, 1) := by decide +kernel
theorem dX3_fewestSwaps_17 : decode cX3_fewestSwaps 17 = .ok (.iconst 0, 1) := by decide +kernel
theorem dX3_fewestSwaps_18 : decode cX3_fewestSwaps 18 = .ok (.istore_n 2, 1) := by decide +kernel
theorem dX3_fewestSwaps_19 : decode cX3_fewestSwaps 19 = .ok (.iload_n 2, 1) := by decide +kernel
theorem dX3_fewestSwaps_20 : decode cX3_fewestSwaps 20 = .ok (.bipush 48, 2) := by decide +kernel
theorem dX3_fewestSwaps_22 : decode cX3_fewestSwaps 22 = .ok (.if_icmp .ge 29, 3) := by decide +kernel
theorem dX3_fewestSwaps_25 : decode cX3_fewestSwaps 25 = .ok (.aload_n 0, 1) := by decide +kernel
theorem dX3_fewestSwaps_26 : decode cX3_fewestSwaps 26 = .ok (.getfield 15, 3) := by decide +kernel
theorem dX3_fewestSwaps_29 : decode cX3_fewestSwaps 29 = .ok (.iload_n 2, 1) := by decide +kernel
theorem dX3_fewestSwaps_30 : decode cX3_fewestSwaps 30 = .ok (.iaload, 1) := by decide +kernel
theorem dX3_fewestSwaps_31 : decode cX3_fewestSwaps 31 = .ok (.iconst (-1), 1) := by decide +kernel
theorem dX3_fewestSwaps_32 : decode cX3_fewestSwaps 32 = .ok (.if_icmp .eq 13, 3) := by decide +kernel
theorem dX3_fewestSwaps_35 : decode cX3_fewestSwaps 35 = .ok (.iload_n 1, 1) := by decide +kernel
theorem dX3_fewestSwaps_36 : decode cX3_fewestSwaps 36 = .ok (.aload_n 0, 1) := by decide +kernel
theorem dX3_fewestSwaps_37 : decode cX3_fewestSwaps 37 = .ok (.iload_n 2, 1) := by decide +kernel
theorem dX3_fewestSwaps_38 : decode cX3_fewestSwaps 38 = .ok (.invokevirtual 28, 3) := by decide +kernel
theorem dX3_fewestSwaps_41 : decode cX3_fewestSwaps 41 = .ok (.iconst 1, 1) := by decide +kernel
theorem dX3_fewestSwaps_42 : decode cX3_fewestSwaps 42 = .ok (.isub, 1) := by decide +kernel
theorem dX3_fewestSwaps_43 : decode cX3_fewestSwaps 43 = .ok (.iadd, 1) := by decide +kernel
theorem dX3_fewestSwaps_44 : decode cX3_fewestSwaps 44 = .ok (.istore_n 1, 1) := by decide +kernel
theorem dX3_fewestSwaps_45 : decode cX3_fewestSwaps 45 = .ok (.iinc 2 1, 3) := by decide +kernel
theorem dX3_fewestSwaps_48 : decode cX3_fewestSwaps 48 = .ok (.goto (-29), 3) := by decide +kernel
theorem dX3_fewestSwaps_51 : decode cX3_fewestSwaps 51 = .ok (.iload_n 1, 1) := by decide +kernel
theorem dX3_fewestSwaps_52 : decode cX3_fewestSwaps 52 = .ok (.ireturn, 1) := by decide +kernel
theorem dX3_walkCycle_0 : decode cX3_walkCycle 0 = .ok (.iload_n 1, 1) := by decide +kernel
theorem dX3_walkCycle_1 : decode cX3_walkCycle 1 = .ok (.istore_n 2, 1) := by decide +kernel
theorem dX3_walkCycle_2 : decode cX3_walkCycle 2 = .ok (.iconst 0, 1) := by decide +kernel
theorem dX3_walkCycle_3 : decode cX3_walkCycle 3 = .ok (.istore_n 3, 1) := by decide +kernel
theorem dX3_walkCycle_4 : decode cX3_walkCycle 4 = .ok (.iload_n 3, 1) := by decide +kernel
theorem dX3_walkCycle_5 : decode cX3_walkCycle 5 = .ok (.bipush 48, 2) := by decide +kernel
theorem dX3_walkCycle_7 : decode cX3_walkCycle 7 = .ok (.if_icmp .ge 47, 3) := by decide +kernel
theorem dX3_walkCycle_10 : decode cX3_walkCycle 10 = .ok (.iload_n 2, 1) := by decide +kernel
theorem dX3_walkCycle_11 : decode cX3_walkCycle 11 = .ok (.iconst 0, 1) := by decide +kernel
theorem dX3_walkCycle_12 : decode cX3_walkCycle 12 = .ok (.bipush 47, 2) := by decide +kernel
theorem dX3_walkCycle_14 : decode cX3_walkCycle 14 = .ok (.invokestatic 32, 3) := by decide +kernel
theorem dX3_walkCycle_17 : decode cX3_walkCycle 17 = .ok (.ifCond .eq 37, 3) := by decide +kernel
theorem dX3_walkCycle_20 : decode cX3_walkCycle 20 = .ok (.aload_n 0, 1) := by decide +kernel
theorem dX3_walkCycle_21 : decode cX3_walkCycle 21 = .ok (.getfield 15, 3) := by decide +kernel
theorem dX3_walkCycle_24 : decode cX3_walkCycle 24 = .ok (.iload_n 2, 1) := by decide +kernel
theorem dX3_walkCycle_25 : decode cX3_walkCycle 25 = .ok (.iaload, 1) := by decide +kernel
theorem dX3_walkCycle_26 : decode cX3_walkCycle 26 = .ok (.iconst (-1), 1) := by decide +kernel
theorem dX3_walkCycle_27 : decode cX3_walkCycle 27 = .ok (.if_icmp .eq 27, 3) := by decide +kernel
theorem dX3_walkCycle_30 : decode cX3_walkCycle 30 = .ok (.aload_n 0, 1) := by decide +kernel
theorem dX3_walkCycle_31 : decode cX3_walkCycle 31 = .ok (.getfield 15, 3) := by decide +kernel
theorem dX3_walkCycle_34 : decode cX3_walkCycle 34 = .ok (.iload_n 2, 1) := by decide +kernel
theorem dX3_walkCycle_35 : decode cX3_walkCycle 35 = .ok (.iaload, 1) := by decide +kernel
theorem dX3_walkCycle_36 : decode cX3_walkCycle 36 = .ok (.istore 4, 2) := by decide +kernel
theorem dX3_walkCycle_38 : decode cX3_walkCycle 38 = .ok (.aload_n 0, 1) := by decide +kernel
theorem dX3_walkCycle_39 : decode cX3_walkCycle 39 = .ok (.getfield 15, 3) := by decide +kernel
theorem dX3_walkCycle_42 : decode cX3_walkCycle 42 = .ok (.iload_n 2, 1) := by decide +kernel
theorem dX3_walkCycle_43 : decode cX3_walkCycle 43 = .ok (.iconst (-1), 1) := by decide +kernel
theorem dX3_walkCycle_44 : decode cX3_walkCycle 44 = .ok (.iastore, 1) := by decide +kernel
theorem dX3_walkCycle_45 : decode cX3_walkCycle 45 = .ok (.iload 4, 2) := by decide +kernel
theorem dX3_walkCycle_47 : decode cX3_walkCycle 47 = .ok (.istore_n 2, 1) := by decide +kernel
theorem dX3_walkCycle_48 : decode cX3_walkCycle 48 = .ok (.iinc 3 1, 3) := by decide +kernel
theorem dX3_walkCycle_51 : decode cX3_walkCycle 51 = .ok (.goto (-47), 3) := by decide +kernel
theorem dX3_walkCycle_54 : decode cX3_walkCycle 54 = .ok (.iload_n 3, 1) := by decide +kernel
theorem dX3_walkCycle_55 : decode cX3_walkCycle 55 = .ok (.ireturn, 1) := by decide +kernel
theorem dX3_mixLegs_0 : decode cX3_mixLegs 0 = .ok (.lload_n 1, 1) := by decide +kernel
theorem dX3_mixLegs_1 : decode cX3_mixLegs 1 = .ok (.lstore 4, 2) := by decide +kernel
theorem dX3_mixLegs_3 : decode cX3_mixLegs 3 = .ok (.iconst 0, 1) := by decide +kernel
theorem dX3_mixLegs_4 : decode cX3_mixLegs 4 = .ok (.istore 6, 2) := by decide +kernel
theorem dX3_mixLegs_6 : decode cX3_mixLegs 6 = .ok (.iload 6, 2) := by decide +kernel
theorem dX3_mixLegs_8 : decode cX3_mixLegs 8 = .ok (.iconst 4, 1) := by decide +kernel
theorem dX3_mixLegs_9 : decode cX3_mixLegs 9 = .ok (.if_icmp .ge 27, 3) := by decide +kernel
theorem dX3_mixLegs_12 : decode cX3_mixLegs 12 = .ok (.lload 4, 2) := by decide +kernel
theorem dX3_mixLegs_14 : decode cX3_mixLegs 14 = .ok (.aload_n 0, 1) := by decide +kernel
theorem dX3_mixLegs_15 : decode cX3_mixLegs 15 = .ok (.getfield 9, 3) := by decide +kernel
theorem dX3_mixLegs_18 : decode cX3_mixLegs 18 = .ok (.iload_n 3, 1) := by decide +kernel
theorem dX3_mixLegs_19 : decode cX3_mixLegs 19 = .ok (.iload 6, 2) := by decide +kernel
theorem dX3_mixLegs_21 : decode cX3_mixLegs 21 = .ok (.invokestatic 18, 3) := by decide +kernel
theorem dX3_mixLegs_24 : decode cX3_mixLegs 24 = .ok (.iaload, 1) := by decide +kernel
theorem dX3_mixLegs_25 : decode cX3_mixLegs 25 = .ok (.invokestatic 36, 3) := by decide +kernel
theorem dX3_mixLegs_28 : decode cX3_mixLegs 28 = .ok (.lstore 4, 2) := by decide +kernel
theorem dX3_mixLegs_30 : decode cX3_mixLegs 30 = .ok (.iinc 6 1, 3) := by decide +kernel
theorem dX3_mixLegs_33 : decode cX3_mixLegs 33 = .ok (.goto (-27), 3) := by decide +kernel
theorem dX3_mixLegs_36 : decode cX3_mixLegs 36 = .ok (.lload 4, 2) := by decide +kernel
theorem dX3_mixLegs_38 : decode cX3_mixLegs 38 = .ok (.lreturn, 1) := by decide +kernel
theorem dX4_init_0 : decode cX4_init 0 = .ok (.aload_n 0, 1) := by decide +kernel
theorem dX4_init_1 : decode cX4_init 1 = .ok (.invokespecial 3, 3) := by decide +kernel
theorem dX4_init_4 : decode cX4_init 4 = .ok (.aload_n 0, 1) := by decide +kernel
theorem dX4_init_5 : decode cX4_init 5 = .ok (.bipush 12, 2) := by decide +kernel
theorem dX4_init_7 : decode cX4_init 7 = .ok (.newarray .int, 2) := by decide +kernel
theorem dX4_init_9 : decode cX4_init 9 = .ok (.putfield 9, 3) := by decide +kernel
theorem dX4_init_12 : decode cX4_init 12 = .ok (.aload_n 0, 1) := by decide +kernel
theorem dX4_init_13 : decode cX4_init 13 = .ok (.bipush 12, 2) := by decide +kernel
theorem dX4_init_15 : decode cX4_init 15 = .ok (.newarray .int, 2) := by decide +kernel
theorem dX4_init_17 : decode cX4_init 17 = .ok (.putfield 15, 3) := by decide +kernel
theorem dX4_init_20 : decode cX4_init 20 = .ok (.aload_n 0, 1) := by decide +kernel
theorem dX4_init_21 : decode cX4_init 21 = .ok (.sipush 3000, 3) := by decide +kernel
theorem dX4_init_24 : decode cX4_init 24 = .ok (.putfield 18, 3) := by decide +kernel
theorem dX4_init_27 : decode cX4_init 27 = .ok (.aload_n 0, 1) := by decide +kernel
theorem dX4_init_28 : decode cX4_init 28 = .ok (.sipush 5000, 3) := by decide +kernel
theorem dX4_init_31 : decode cX4_init 31 = .ok (.putfield 22, 3) := by decide +kernel
theorem dX4_init_34 : decode cX4_init 34 = .ok (.aload_n 0, 1) := by decide +kernel
theorem dX4_init_35 : decode cX4_init 35 = .ok (.iconst 0, 1) := by decide +kernel
theorem dX4_init_36 : decode cX4_init 36 = .ok (.putfield 25, 3) := by decide +kernel
theorem dX4_init_39 : decode cX4_init 39 = .ok (.aload_n 0, 1) := by decide +kernel
theorem dX4_init_40 : decode cX4_init 40 = .ok (.iconst 0, 1) := by decide +kernel
theorem dX4_init_41 : decode cX4_init 41 = .ok (.putfield 28, 3) := by decide +kernel
theorem dX4_init_44 : decode cX4_init 44 = .ok (.aload_n 0, 1) := by decide +kernel
theorem dX4_init_45 : decode cX4_init 45 = .ok (.iconst 0, 1) := by decide +kernel
theorem dX4_init_46 : decode cX4_init 46 = .ok (.putfield 31, 3) := by decide +kernel
theorem dX4_init_49 : decode cX4_init 49 = .ok (.aload_n 0, 1) := by decide +kernel
theorem dX4_init_50 : decode cX4_init 50 = .ok (.iconst 0, 1) := by decide +kernel
theorem dX4_init_51 : decode cX4_init 51 = .ok (.putfield 34, 3) := by decide +kernel
theorem dX4_init_54 : decode cX4_init 54 = .ok (.return_, 1) := by decide +kernel
theorem dX4_hasHorse_0 : decode cX4_hasHorse 0 = .ok (.iload_n 1, 1) := by decide +kernel
theorem dX4_hasHorse_1 : decode cX4_hasHorse 1 = .ok (.invokestatic 37, 3) := by decide +kernel
theorem dX4_hasHorse_4 : decode cX4_hasHorse 4 = .ok (.ifCond .eq 16, 3) := by decide +kernel
theorem dX4_hasHorse_7 : decode cX4_hasHorse 7 = .ok (.aload_n 0, 1) := by decide +kernel
theorem dX4_hasHorse_8 : decode cX4_hasHorse 8 = .ok (.getfield 9, 3) := by decide +kernel
theorem dX4_hasHorse_11 : decode cX4_hasHorse 11 = .ok (.iload_n 1, 1) := by decide +kernel
theorem dX4_hasHorse_12 : decode cX4_hasHorse 12 = .ok (.iaload, 1) := by decide +kernel
theorem dX4_hasHorse_13 : decode cX4_hasHorse 13 = .ok (.ifCond .le 7, 3) := by decide +kernel
theorem dX4_hasHorse_16 : decode cX4_hasHorse 16 = .ok (.iconst 1, 1) := by decide +kernel
theorem dX4_hasHorse_17 : decode cX4_hasHorse 17 = .ok (.goto 4, 3) := by decide +kernel
theorem dX4_hasHorse_20 : decode cX4_hasHorse 20 = .ok (.iconst 0, 1) := by decide +kernel
theorem dX4_hasHorse_21 : decode cX4_hasHorse 21 = .ok (.ireturn, 1) := by decide +kernel
theorem dX4_hasRider_0 : decode cX4_hasRider 0 = .ok (.iload_n 1, 1) := by decide +kernel
theorem dX4_hasRider_1 : decode cX4_hasRider 1 = .ok (.invokestatic 37, 3) := by decide +kernel
theorem dX4_hasRider_4 : decode cX4_hasRider 4 = .ok (.ifCond .eq 16, 3) := by decide +kernel
theorem dX4_hasRider_7 : decode cX4_hasRider 7 = .ok (.aload_n 0, 1) := by decide +kernel
theorem dX4_hasRider_8 : decode cX4_hasRider 8 = .ok (.getfield 15, 3) := by decide +kernel
theorem dX4_hasRider_11 : decode cX4_hasRider 11 = .ok (.iload_n 1, 1) := by decide +kernel
theorem dX4_hasRider_12 : decode cX4_hasRider 12 = .ok (.iaload, 1) := by decide +kernel
theorem dX4_hasRider_13 : decode cX4_hasRider 13 = .ok (.ifCond .le 7, 3) := by decide +kernel
theorem dX4_hasRider_16 : decode cX4_hasRider 16 = .ok (.iconst 1, 1) := by decide +kernel
theorem dX4_hasRider_17 : decode cX4_hasRider 17 = .ok (.goto 4, 3) := by decide +kernel
theorem dX4_hasRider_20 : decode cX4_hasRider 20 = .ok (.iconst 0, 1) := by decide +kernel
theorem dX4_hasRider_21 : decode cX4_hasRider 21 = .ok (.ireturn, 1) := by decide +kernel
theorem dX4_isFree_0 : decode cX4_isFree 0 = .ok (.aload_n 0, 1) := by decide +kernel
theorem dX4_isFree_1 : decode cX4_isFree 1 = .ok (.iload_n 1, 1) := by decide +kernel
theorem dX4_isFree_2 : decode cX4_isFree 2 = .ok (.invokevirtual 41, 3) := by decide +kernel
theorem dX4_isFree_5 : decode cX4_isFree 5 = .ok (.ifCond .eq 15, 3) := by decide +kernel
theorem dX4_isFree_8 : decode cX4_isFree 8 = .ok (.aload_n 0, 1) := by decide +kernel
theorem dX4_isFree_9 : decode cX4_isFree 9 = .ok (.iload_n 1, 1) := by decide +kernel
theorem dX4_isFree_10 : decode cX4_isFree 10 = .ok (.invokevirtual 44, 3) := by decide +kernel
theorem dX4_isFree_13 : decode cX4_isFree 13 = .ok (.ifCond .ne 7, 3) := by decide +kernel
theorem dX4_isFree_16 : decode cX4_isFree 16 = .ok (.iconst 1, 1) := by decide +kernel
theorem dX4_isFree_17 : decode cX4_isFree 17 = .ok (.goto 4, 3) := by decide +kernel
theorem dX4_isFree_20 : decode cX4_isFree 20 = .ok (.iconst 0, 1) := by decide +kernel
theorem dX4_isFree_21 : decode cX4_isFree 21 = .ok (.ireturn, 1) := by decide +kernel
theorem dX4_putHorse_0 : decode cX4_putHorse 0 = .ok (.aload_n 0, 1) := by decide +kernel
theorem dX4_putHorse_1 : decode cX4_putHorse 1 = .ok (.getfield 9, 3) := by decide +kernel
theorem dX4_putHorse_4 : decode cX4_putHorse 4 = .ok (.iload_n 1, 1) := by decide +kernel
theorem dX4_putHorse_5 : decode cX4_putHorse 5 = .ok (.iload_n 2, 1) := by decide +kernel
theorem dX4_putHorse_6 : decode cX4_putHorse 6 = .ok (.iastore, 1) := by decide +kernel
theorem dX4_putHorse_7 : decode cX4_putHorse 7 = .ok (.aload_n 0, 1) := by decide +kernel
theorem dX4_putHorse_8 : decode cX4_putHorse 8 = .ok (.iload_n 1, 1) := by decide +kernel
theorem dX4_putHorse_9 : decode cX4_putHorse 9 = .ok (.iload_n 2, 1) := by decide +kernel
theorem dX4_putHorse_10 : decode cX4_putHorse 10 = .ok (.invokevirtual 47, 3) := by decide +kernel
theorem dX4_putHorse_13 : decode cX4_putHorse 13 = .ok (.return_, 1) := by decide +kernel
theorem dX4_takeHorse_0 : decode cX4_takeHorse 0 = .ok (.aload_n 0, 1) := by decide +kernel
theorem dX4_takeHorse_1 : decode cX4_takeHorse 1 = .ok (.getfield 9, 3) := by decide +kernel
theorem dX4_takeHorse_4 : decode cX4_takeHorse 4 = .ok (.iload_n 1, 1) := by decide +kernel
theorem dX4_takeHorse_5 : decode cX4_takeHorse 5 = .ok (.iaload, 1) := by decide +kernel
theorem dX4_takeHorse_6 : decode cX4_takeHorse 6 = .ok (.istore_n 2, 1) := by decide +kernel
theorem dX4_takeHorse_7 : decode cX4_takeHorse 7 = .ok (.aload_n 0, 1) := by decide +kernel
theorem dX4_takeHorse_8 : decode cX4_takeHorse 8 = .ok (.getfield 9, 3) := by decide +kernel
theorem dX4_takeHorse_11 : decode cX4_takeHorse 11 = .ok (.iload_n 1, 1) := by decide +kernel
theorem dX4_takeHorse_12 : decode cX4_takeHorse 12 = .ok (.iconst 0, 1) := by decide +kernel
theorem dX4_takeHorse_13 : decode cX4_takeHorse 13 = .ok (.iastore, 1) := by decide +kernel
theorem dX4_takeHorse_14 : decode cX4_takeHorse 14 = .ok (.aload_n 0, 1) := by decide +kernel
theorem dX4_takeHorse_15 : decode cX4_takeHorse 15 = .ok (.iload_n 1, 1) := by decide +kernel
theorem dX4_takeHorse_16 : decode cX4_takeHorse 16 = .ok (.iload_n 2, 1) := by decide +kernel
theorem dX4_takeHorse_17 : decode cX4_takeHorse 17 = .ok (.ineg, 1) := by decide +kernel
theorem dX4_takeHorse_18 : decode cX4_takeHorse 18 = .ok (.invokevirtual 47, 3) := by decide +kernel
theorem dX4_takeHorse_21 : decode cX4_takeHorse 21 = .ok (.iload_n 2, 1) := by decide +kernel
theorem dX4_takeHorse_22 : decode cX4_takeHorse 22 = .ok (.ireturn, 1) := by decide +kernel
theorem dX4_putRider_0 : decode cX4_putRider 0 = .ok (.aload_n 0, 1) := by decide +kernel
theorem dX4_putRider_1 : decode cX4_putRider 1 = .ok (.getfield 15, 3) := by decide +kernel
theorem dX4_putRider_4 : decode cX4_putRider 4 = .ok (.iload_n 1, 1) := by decide +kernel
theorem dX4_putRider_5 : decode cX4_putRider 5 = .ok (.iload_n 2, 1) := by decide +kernel
theorem dX4_putRider_6 : decode cX4_putRider 6 = .ok (.iastore, 1) := by decide +kernel
theorem dX4_putRider_7 : decode cX4_putRider 7 = .ok (.aload_n 0, 1) := by decide +kernel
theorem dX4_putRider_8 : decode cX4_putRider 8 = .ok (.iload_n 1, 1) := by decide +kernel
theorem dX4_putRider_9 : decode cX4_putRider 9 = .ok (.iload_n 2, 1) := by decide +kernel
theorem dX4_putRider_10 : decode cX4_putRider 10 = .ok (.invokevirtual 47, 3) := by decide +kernel
theorem dX4_putRider_13 : decode cX4_putRider 13 = .ok (.return_, 1) := by decide +kernel
theorem dX4_takeRider_0 : decode cX4_takeRider 0 = .ok (.aload_n 0, 1) := by decide +kernel
theorem dX4_takeRider_1 : decode cX4_takeRider 1 = .ok (.getfield 15, 3) := by decide +kernel
theorem dX4_takeRider_4 : decode cX4_takeRider 4 = .ok (.iload_n 1, 1) := by decide +kernel
theorem dX4_takeRider_5 : decode cX4_takeRider 5 = .ok (.iaload, 1) := by decide +kernel
theorem dX4_takeRider_6 : decode cX4_takeRider 6 = .ok (.istore_n 2, 1) := by decide +kernel
theorem dX4_takeRider_7 : decode cX4_takeRider 7 = .ok (.aload_n 0, 1) := by decide +kernel
theorem dX4_takeRider_8 : decode cX4_takeRider 8 = .ok (.getfield 15, 3) := by decide +kernel
theorem dX4_takeRider_11 : decode cX4_takeRider 11 = .ok (.iload_n 1, 1) := by decide +kernel
theorem dX4_takeRider_12 : decode cX4_takeRider 12 = .ok (.iconst 0, 1) := by decide +kernel
theorem dX4_takeRider_13 : decode cX4_takeRider 13 = .ok (.iastore, 1) := by decide +kernel
theorem dX4_takeRider_14 : decode cX4_takeRider 14 = .ok (.aload_n 0, 1) := by decide +kernel
theorem dX4_takeRider_15 : decode cX4_takeRider 15 = .ok (.iload_n 1, 1) := by decide +kernel
theorem dX4_takeRider_16 : decode cX4_takeRider 16 = .ok (.iload_n 2, 1) := by decide +kernel
theorem dX4_takeRider_17 : decode cX4_takeRider 17 = .ok (.ineg, 1) := by decide +kernel
theorem dX4_takeRider_18 : decode cX4_takeRider 18 = .ok (.invokevirtual 47, 3) := by decide +kernel
theorem dX4_takeRider_21 : decode cX4_takeRider 21 = .ok (.iload_n 2, 1) := by decide +kernel
theorem dX4_takeRider_22 : decode cX4_takeRider 22 = .ok (.ireturn, 1) := by decide +kernel
theorem dX4_takeAllRiders_0 : decode cX4_takeAllRiders 0 = .ok (.iconst 0, 1) := by decide +kernel
theorem dX4_takeAllRiders_1 : decode cX4_takeAllRiders 1 = .ok (.istore_n 1, 1) := by decide +kernel
theorem dX4_takeAllRiders_2 : decode cX4_takeAllRiders 2 = .ok (.iload_n 1, 1) := by decide +kernel
theorem dX4_takeAllRiders_3 : decode cX4_takeAllRiders 3 = .ok (.bipush 12, 2) := by decide +kernel
theorem dX4_takeAllRiders_5 : decode cX4_takeAllRiders 5 = .ok (.if_icmp .ge 15, 3) := by decide +kernel
theorem dX4_takeAllRiders_8 : decode cX4_takeAllRiders 8 = .ok (.aload_n 0, 1) := by decide +kernel
theorem dX4_takeAllRiders_9 : decode cX4_takeAllRiders 9 = .ok (.iload_n 1, 1) := by decide +kernel
theorem dX4_takeAllRiders_10 : decode cX4_takeAllRiders 10 = .ok (.invokevirtual 51, 3) := by decide +kernel
theorem dX4_takeAllRiders_13 : decode cX4_takeAllRiders 13 = .ok (.pop, 1) := by decide +kernel
theorem dX4_takeAllRiders_14 : decode cX4_takeAllRiders 14 = .ok (.iinc 1 1, 3) := by decide +kernel
theorem dX4_takeAllRiders_17 : decode cX4_takeAllRiders 17 = .ok (.goto (-15), 3) := by decide +kernel
theorem dX4_takeAllRiders_20 : decode cX4_takeAllRiders 20 = .ok (.return_, 1) := by decide +kernel
theorem dX4_addLoad_0 : decode cX4_addLoad 0 = .ok (.aload_n 0, 1) := by decide +kernel
theorem dX4_addLoad_1 : decode cX4_addLoad 1 = .ok (.dup, 1) := by decide +kernel
theorem dX4_addLoad_2 : decode cX4_addLoad 2 = .ok (.getfield 25, 3) := by decide +kernel
theorem dX4_addLoad_5 : decode cX4_addLoad 5 = .ok (.iload_n 2, 1) := by decide +kernel
theorem dX4_addLoad_6 : decode cX4_addLoad 6 = .ok (.getstatic 55, 3) := by decide +kernel
theorem dX4_addLoad_9 : decode cX4_addLoad 9 = .ok (.iload_n 1, 1) := by decide +kernel
theorem dX4_addLoad_10 : decode cX4_addLoad 10 = .ok (.iaload, 1) := by decide +kernel
theorem dX4_addLoad_11 : decode cX4_addLoad 11 = .ok (.imul, 1) := by decide +kernel
theorem dX4_addLoad_12 : decode cX4_addLoad 12 = .ok (.iadd, 1) := by decide +kernel
theorem dX4_addLoad_13 : decode cX4_addLoad 13 = .ok (.putfield 25, 3) := by decide +kernel
theorem dX4_addLoad_16 : decode cX4_addLoad 16 = .ok (.aload_n 0, 1) := by decide +kernel
theorem dX4_addLoad_17 : decode cX4_addLoad 17 = .ok (.dup, 1) := by decide +kernel
theorem dX4_addLoad_18 : decode cX4_addLoad 18 = .ok (.getfield 28, 3) := by decide +kernel
theorem dX4_addLoad_21 : decode cX4_addLoad 21 = .ok (.iload_n 2, 1) := by decide +kernel
theorem dX4_addLoad_22 : decode cX4_addLoad 22 = .ok (.getstatic 58, 3) := by decide +kernel
theorem dX4_addLoad_25 : decode cX4_addLoad 25 = .ok (.iload_n 1, 1) := by decide +kernel
theorem dX4_addLoad_26 : decode cX4_addLoad 26 = .ok (.iaload, 1) := by decide +kernel
theorem dX4_addLoad_27 : decode cX4_addLoad 27 = .ok (.imul, 1) := by decide +kernel
theorem dX4_addLoad_28 : decode cX4_addLoad 28 = .ok (.iadd, 1) := by decide +kernel
theorem dX4_addLoad_29 : decode cX4_addLoad 29 = .ok (.putfield 28, 3) := by decide +kernel
theorem dX4_addLoad_32 : decode cX4_addLoad 32 = .ok (.aload_n 0, 1) := by decide +kernel
theorem dX4_addLoad_33 : decode cX4_addLoad 33 = .ok (.dup, 1) := by decide +kernel
theorem dX4_addLoad_34 : decode cX4_addLoad 34 = .ok (.getfield 31, 3) := by decide +kernel
theorem dX4_addLoad_37 : decode cX4_addLoad 37 = .ok (.iload_n 1, 1) := by decide +kernel
theorem dX4_addLoad_38 : decode cX4_addLoad 38 = .ok (.iload_n 2, 1) := by decide +kernel
theorem dX4_addLoad_39 : decode cX4_addLoad 39 = .ok (.invokestatic 61, 3) := by decide +kernel
theorem dX4_addLoad_42 : decode cX4_addLoad 42 = .ok (.iadd, 1) := by decide +kernel
theorem dX4_addLoad_43 : decode cX4_addLoad 43 = .ok (.putfield 31, 3) := by decide +kernel
theorem dX4_addLoad_46 : decode cX4_addLoad 46 = .ok (.aload_n 0, 1) := by decide +kernel
theorem dX4_addLoad_47 : decode cX4_addLoad 47 = .ok (.dup, 1) := by decide +kernel
theorem dX4_addLoad_48 : decode cX4_addLoad 48 = .ok (.getfield 34, 3) := by decide +kernel
theorem dX4_addLoad_51 : decode cX4_addLoad 51 = .ok (.iload_n 2, 1) := by decide +kernel
theorem dX4_addLoad_52 : decode cX4_addLoad 52 = .ok (.iadd, 1) := by decide +kernel
theorem dX4_addLoad_53 : decode cX4_addLoad 53 = .ok (.putfield 34, 3) := by decide +kernel
theorem dX4_addLoad_56 : decode cX4_addLoad 56 = .ok (.return_, 1) := by decide +kernel
theorem dX4_liftOf_0 : decode cX4_liftOf 0 = .ok (.iload_n 0, 1) := by decide +kernel
theorem dX4_liftOf_1 : decode cX4_liftOf 1 = .ok (.iconst 2, 1) := by decide +kernel
theorem dX4_liftOf_2 : decode cX4_liftOf 2 = .ok (.irem, 1) := by decide +kernel
theorem dX4_liftOf_3 : decode cX4_liftOf 3 = .ok (.ifCond .ne 7, 3) := by decide +kernel
theorem dX4_liftOf_6 : decode cX4_liftOf 6 = .ok (.iload_n 1, 1) := by decide +kernel
theorem dX4_liftOf_7 : decode cX4_liftOf 7 = .ok (.goto 5, 3) := by decide +kernel
theorem dX4_liftOf_10 : decode cX4_liftOf 10 = .ok (.iload_n 1, 1) := by decide +kernel
theorem dX4_liftOf_11 : decode cX4_liftOf 11 = .ok (.ineg, 1) := by decide +kernel
theorem dX4_liftOf_12 : decode cX4_liftOf 12 = .ok (.ireturn, 1) := by decide +kernel
theorem dX4_shakeNow_0 : decode cX4_shakeNow 0 = .ok (.aload_n 0, 1) := by decide +kernel
theorem dX4_shakeNow_1 : decode cX4_shakeNow 1 = .ok (.getfield 25, 3) := by decide +kernel
theorem dX4_shakeNow_4 : decode cX4_shakeNow 4 = .ok (.aload_n 0, 1) := by decide +kernel
theorem dX4_shakeNow_5 : decode cX4_shakeNow 5 = .ok (.getfield 28, 3) := by decide +kernel
theorem dX4_shakeNow_8 : decode cX4_shakeNow 8 = .ok (.invokestatic 65, 3) := by decide +kernel
theorem dX4_shakeNow_11 : decode cX4_shakeNow 11 = .ok (.ireturn, 1) := by decide +kernel
theorem dX4_shakeWith_0 : decode cX4_shakeWith 0 = .ok (.aload_n 0, 1) := by decide +kernel
theorem dX4_shakeWith_1 : decode cX4_shakeWith 1 = .ok (.getfield 25, 3) := by decide +kernel
theorem dX4_shakeWith_4 : decode cX4_shakeWith 4 = .ok (.iload_n 2, 1) := by decide +kernel
theorem dX4_shakeWith_5 : decode cX4_shakeWith 5 = .ok (.getstatic 55, 3) := by decide +kernel
theorem dX4_shakeWith_8 : decode cX4_shakeWith 8 = .ok (.iload_n 1, 1) := by decide +kernel
theorem dX4_shakeWith_9 : decode cX4_shakeWith 9 = .ok (.iaload, 1) := by decide +kernel
theorem dX4_shakeWith_10 : decode cX4_shakeWith 10 = .ok (.imul, 1) := by decide +kernel
theorem dX4_shakeWith_11 : decode cX4_shakeWith 11 = .ok (.iadd, 1) := by decide +kernel
theorem dX4_shakeWith_12 : decode cX4_shakeWith 12 = .ok (.aload_n 0, 1) := by decide +kernel
theorem dX4_shakeWith_13 : decode cX4_shakeWith 13 = .ok (.getfield 28, 3) := by decide +kernel
theorem dX4_shakeWith_16 : decode cX4_shakeWith 16 = .ok (.iload_n 2, 1) := by decide +kernel
theorem dX4_shakeWith_17 : decode cX4_shakeWith 17 = .ok (.getstatic 58, 3) := by decide +kernel
theorem dX4_shakeWith_20 : decode cX4_shakeWith 20 = .ok (.iload_n 1, 1) := by decide +kernel
theorem dX4_shakeWith_21 : decode cX4_shakeWith 21 = .ok (.iaload, 1) := by decide +kernel
theorem dX4_shakeWith_22 : decode cX4_shakeWith 22 = .ok (.imul, 1) := by decide +kernel
theorem dX4_shakeWith_23 : decode cX4_shakeWith 23 = .ok (.iadd, 1) := by decide +kernel
theorem dX4_shakeWith_24 : decode cX4_shakeWith 24 = .ok (.invokestatic 65, 3) := by decide +kernel
theorem dX4_shakeWith_27 : decode cX4_shakeWith 27 = .ok (.ireturn, 1) := by decide +kernel
theorem dX4_mayTurn_0 : decode cX4_mayTurn 0 = .ok (.aload_n 0, 1) := by decide +kernel
theorem dX4_mayTurn_1 : decode cX4_mayTurn 1 = .ok (.aload_n 0, 1) := by decide +kernel
theorem dX4_mayTurn_2 : decode cX4_mayTurn 2 = .ok (.invokevirtual 68, 3) := by decide +kernel
theorem dX4_mayTurn_5 : decode cX4_mayTurn 5 = .ok (.aload_n 0, 1) := by decide +kernel
theorem dX4_mayTurn_6 : decode cX4_mayTurn 6 = .ok (.getfield 31, 3) := by decide +kernel
theorem dX4_mayTurn_9 : decode cX4_mayTurn 9 = .ok (.invokevirtual 72, 3) := by decide +kernel
theorem dX4_mayTurn_12 : decode cX4_mayTurn 12 = .ok (.ireturn, 1) := by decide +kernel
theorem dX4_mayTurnWith_0 : decode cX4_mayTurnWith 0 = .ok (.aload_n 0, 1) := by decide +kernel
theorem dX4_mayTurnWith_1 : decode cX4_mayTurnWith 1 = .ok (.aload_n 0, 1) := by decide +kernel
theorem dX4_mayTurnWith_2 : decode cX4_mayTurnWith 2 = .ok (.iload_n 1, 1) := by decide +kernel
theorem dX4_mayTurnWith_3 : decode cX4_mayTurnWith 3 = .ok (.iload_n 2, 1) := by decide +kernel
theorem dX4_mayTurnWith_4 : decode cX4_mayTurnWith 4 = .ok (.invokevirtual 76, 3) := by decide +kernel
theorem dX4_mayTurnWith_7 : decode cX4_mayTurnWith 7 = .ok (.aload_n 0, 1) := by decide +kernel
theorem dX4_mayTurnWith_8 : decode cX4_mayTurnWith 8 = .ok (.getfield 31, 3) := by decide +kernel
theorem dX4_mayTurnWith_11 : decode cX4_mayTurnWith 11 = .ok (.iload_n 1, 1) := by decide +kernel
theorem dX4_mayTurnWith_12 : decode cX4_mayTurnWith 12 = .ok (.iload_n 2, 1) := by decide +kernel
theorem dX4_mayTurnWith_13 : decode cX4_mayTurnWith 13 = .ok (.invokestatic 61, 3) := by decide +kernel
theorem dX4_mayTurnWith_16 : decode cX4_mayTurnWith 16 = .ok (.iadd, 1) := by decide +kernel
theorem dX4_mayTurnWith_17 : decode cX4_mayTurnWith 17 = .ok (.invokevirtual 72, 3) := by decide +kernel
theorem dX4_mayTurnWith_20 : decode cX4_mayTurnWith 20 = .ok (.ireturn, 1) := by decide +kernel
theorem dX4_isLawful_0 : decode cX4_isLawful 0 = .ok (.iload_n 1, 1) := by decide +kernel
theorem dX4_isLawful_1 : decode cX4_isLawful 1 = .ok (.aload_n 0, 1) := by decide +kernel
theorem dX4_isLawful_2 : decode cX4_isLawful 2 = .ok (.getfield 18, 3) := by decide +kernel
theorem dX4_isLawful_5 : decode cX4_isLawful 5 = .ok (.aload_n 0, 1) := by decide +kernel
theorem dX4_isLawful_6 : decode cX4_isLawful 6 = .ok (.getfield 18, 3) := by decide +kernel
theorem dX4_isLawful_9 : decode cX4_isLawful 9 = .ok (.imul, 1) := by decide +kernel
theorem dX4_isLawful_10 : decode cX4_isLawful 10 = .ok (.if_icmp .gt 18, 3) := by decide +kernel
theorem dX4_isLawful_13 : decode cX4_isLawful 13 = .ok (.iload_n 2, 1) := by decide +kernel
theorem dX4_isLawful_14 : decode cX4_isLawful 14 = .ok (.invokestatic 79, 3) := by decide +kernel
theorem dX4_isLawful_17 : decode cX4_isLawful 17 = .ok (.aload_n 0, 1) := by decide +kernel
theorem dX4_isLawful_18 : decode cX4_isLawful 18 = .ok (.getfield 22, 3) := by decide +kernel
theorem dX4_isLawful_21 : decode cX4_isLawful 21 = .ok (.if_icmp .gt 7, 3) := by decide +kernel
theorem dX4_isLawful_24 : decode cX4_isLawful 24 = .ok (.iconst 1, 1) := by decide +kernel
theorem dX4_isLawful_25 : decode cX4_isLawful 25 = .ok (.goto 4, 3) := by decide +kernel
theorem dX4_isLawful_28 : decode cX4_isLawful 28 = .ok (.iconst 0, 1) := by decide +kernel
theorem dX4_isLawful_29 : decode cX4_isLawful 29 = .ok (.ireturn, 1) := by decide +kernel
theorem dX4_bestHorse_0 : decode cX4_bestHorse 0 = .ok (.iconst (-1), 1) := by decide +kernel
theorem dX4_bestHorse_1 : decode cX4_bestHorse 1 = .ok (.istore_n 2, 1) := by decide +kernel
theorem dX4_bestHorse_2 : decode cX4_bestHorse 2 = .ok (.iconst 0, 1) := by decide +kernel
theorem dX4_bestHorse_3 : decode cX4_bestHorse 3 = .ok (.istore_n 3, 1) := by decide +kernel
theorem dX4_bestHorse_4 : decode cX4_bestHorse 4 = .ok (.iconst 0, 1) := by decide +kernel
theorem dX4_bestHorse_5 : decode cX4_bestHorse 5 = .ok (.istore 4, 2) := by decide +kernel
theorem dX4_bestHorse_7 : decode cX4_bestHorse 7 = .ok (.iload 4, 2) := by decide +kernel
theorem dX4_bestHorse_9 : decode cX4_bestHorse 9 = .ok (.bipush 12, 2) := by decide +kernel
theorem dX4_bestHorse_11 : decode cX4_bestHorse 11 = .ok (.if_icmp .ge 54, 3) := by decide +kernel
theorem dX4_bestHorse_14 : decode cX4_bestHorse 14 = .ok (.aload_n 0, 1) := by decide +kernel
theorem dX4_bestHorse_15 : decode cX4_bestHorse 15 = .ok (.iload 4, 2) := by decide +kernel
theorem dX4_bestHorse_17 : decode cX4_bestHorse 17 = .ok (.invokevirtual 84, 3) := by decide +kernel
theorem dX4_bestHorse_20 : decode cX4_bestHorse 20 = .ok (.ifCond .eq 39, 3) := by decide +kernel
theorem dX4_bestHorse_23 : decode cX4_bestHorse 23 = .ok (.aload_n 0, 1) := by decide +kernel
theorem dX4_bestHorse_24 : decode cX4_bestHorse 24 = .ok (.iload 4, 2) := by decide +kernel
theorem dX4_bestHorse_26 : decode cX4_bestHorse 26 = .ok (.iload_n 1, 1) := by decide +kernel
theorem dX4_bestHorse_27 : decode cX4_bestHorse 27 = .ok (.invokevirtual 87, 3) := by decide +kernel
theorem dX4_bestHorse_30 : decode cX4_bestHorse 30 = .ok (.ifCond .eq 29, 3) := by decide +kernel
theorem dX4_bestHorse_33 : decode cX4_bestHorse 33 = .ok (.aload_n 0, 1) := by decide +kernel
theorem dX4_bestHorse_34 : decode cX4_bestHorse 34 = .ok (.iload 4, 2) := by decide +kernel
theorem dX4_bestHorse_36 : decode cX4_bestHorse 36 = .ok (.iload_n 1, 1) := by decide +kernel
theorem dX4_bestHorse_37 : decode cX4_bestHorse 37 = .ok (.invokevirtual 76, 3) := by decide +kernel
theorem dX4_bestHorse_40 : decode cX4_bestHorse 40 = .ok (.istore 5, 2) := by decide +kernel
theorem dX4_bestHorse_42 : decode cX4_bestHorse 42 = .ok (.iload_n 2, 1) := by decide +kernel
theorem dX4_bestHorse_43 : decode cX4_bestHorse 43 = .ok (.iconst (-1), 1) := by decide +kernel
theorem dX4_bestHorse_44 : decode cX4_bestHorse 44 = .ok (.if_icmp .eq 9, 3) := by decide +kernel
theorem dX4_bestHorse_47 : decode cX4_bestHorse 47 = .ok (.iload 5, 2) := by decide +kernel
theorem dX4_bestHorse_49 : decode cX4_bestHorse 49 = .ok (.iload_n 3, 1) := by decide +kernel
theorem dX4_bestHorse_50 : decode cX4_bestHorse 50 = .ok (.if_icmp .ge 9, 3) := by decide +kernel
theorem dX4_bestHorse_53 : decode cX4_bestHorse 53 = .ok (.iload 4, 2) := by decide +kernel
theorem dX4_bestHorse_55 : decode cX4_bestHorse 55 = .ok (.istore_n 2, 1) := by decide +kernel
theorem dX4_bestHorse_56 : decode cX4_bestHorse 56 = .ok (.iload 5, 2) := by decide +kernel
theorem dX4_bestHorse_58 : decode cX4_bestHorse 58 = .ok (.istore_n 3, 1) := by decide +kernel
theorem dX4_bestHorse_59 : decode cX4_bestHorse 59 = .ok (.iinc 4 1, 3) := by decide +kernel
theorem dX4_bestHorse_62 : decode cX4_bestHorse 62 = .ok (.goto (-55), 3) := by decide +kernel
theorem dX4_bestHorse_65 : decode cX4_bestHorse 65 = .ok (.iload_n 2, 1) := by decide +kernel
theorem dX4_bestHorse_66 : decode cX4_bestHorse 66 = .ok (.ireturn, 1) := by decide +kernel
theorem dX4_horsesStanding_0 : decode cX4_horsesStanding 0 = .ok (.aload_n 0, 1) := by decide +kernel
theorem dX4_horsesStanding_1 : decode cX4_horsesStanding 1 = .ok (.getfield 9, 3) := by decide +kernel
theorem dX4_horsesStanding_4 : decode cX4_horsesStanding 4 = .ok (.invokestatic 90, 3) := by decide +kernel
theorem dX4_horsesStanding_7 : decode cX4_horsesStanding 7 = .ok (.ireturn, 1) := by decide +kernel
theorem dX4_ridersSitting_0 : decode cX4_ridersSitting 0 = .ok (.aload_n 0, 1) := by decide +kernel
theorem dX4_ridersSitting_1 : decode cX4_ridersSitting 1 = .ok (.getfield 15, 3) := by decide +kernel
theorem dX4_ridersSitting_4 : decode cX4_ridersSitting 4 = .ok (.invokestatic 90, 3) := by decide +kernel
theorem dX4_ridersSitting_7 : decode cX4_ridersSitting 7 = .ok (.ireturn, 1) := by decide +kernel
theorem dX4_freeHorses_0 : decode cX4_freeHorses 0 = .ok (.aload_n 0, 1) := by decide +kernel
theorem dX4_freeHorses_1 : decode cX4_freeHorses 1 = .ok (.invokevirtual 94, 3) := by decide +kernel
theorem dX4_freeHorses_4 : decode cX4_freeHorses 4 = .ok (.aload_n 0, 1) := by decide +kernel
theorem dX4_freeHorses_5 : decode cX4_freeHorses 5 = .ok (.invokevirtual 97, 3) := by decide +kernel
theorem dX4_freeHorses_8 : decode cX4_freeHorses 8 = .ok (.isub, 1) := by decide +kernel
theorem dX4_freeHorses_9 : decode cX4_freeHorses 9 = .ok (.ireturn, 1) := by decide +kernel
theorem dX4_numberAboveZero_0 : decode cX4_numberAboveZero 0 = .ok (.iconst 0, 1) := by decide +kernel
theorem dX4_numberAboveZero_1 : decode cX4_numberAboveZero 1 = .ok (.istore_n 1, 1) := by decide +kernel
theorem dX4_numberAboveZero_2 : decode cX4_numberAboveZero 2 = .ok (.aload_n 0, 1) := by decide +kernel
theorem dX4_numberAboveZero_3 : decode cX4_numberAboveZero 3 = .ok (.astore_n 2, 1) := by decide +kernel
theorem dX4_numberAboveZero_4 : decode cX4_numberAboveZero 4 = .ok (.aload_n 2, 1) := by decide +kernel
theorem dX4_numberAboveZero_5 : decode cX4_numberAboveZero 5 = .ok (.arraylength, 1) := by decide +kernel
theorem dX4_numberAboveZero_6 : decode cX4_numberAboveZero 6 = .ok (.istore_n 3, 1) := by decide +kernel
theorem dX4_numberAboveZero_7 : decode cX4_numberAboveZero 7 = .ok (.iconst 0, 1) := by decide +kernel
theorem dX4_numberAboveZero_8 : decode cX4_numberAboveZero 8 = .ok (.istore 4, 2) := by decide +kernel
theorem dX4_numberAboveZero_10 : decode cX4_numberAboveZero 10 = .ok (.iload 4, 2) := by decide +kernel
theorem dX4_numberAboveZero_12 : decode cX4_numberAboveZero 12 = .ok (.iload_n 3, 1) := by decide +kernel
theorem dX4_numberAboveZero_13 : decode cX4_numberAboveZero 13 = .ok (.if_icmp .ge 23, 3) := by decide +kernel
theorem dX4_numberAboveZero_16 : decode cX4_numberAboveZero 16 = .ok (.aload_n 2, 1) := by decide +kernel
theorem dX4_numberAboveZero_17 : decode cX4_numberAboveZero 17 = .ok (.iload 4, 2) := by decide +kernel
theorem dX4_numberAboveZero_19 : decode cX4_numberAboveZero 19 = .ok (.iaload, 1) := by decide +kernel
theorem dX4_numberAboveZero_20 : decode cX4_numberAboveZero 20 = .ok (.istore 5, 2) := by decide +kernel
theorem dX4_numberAboveZero_22 : decode cX4_numberAboveZero 22 = .ok (.iload 5, 2) := by decide +kernel
theorem dX4_numberAboveZero_24 : decode cX4_numberAboveZero 24 = .ok (.ifCond .le 6, 3) := by decide +kernel
theorem dX4_numberAboveZero_27 : decode cX4_numberAboveZero 27 = .ok (.iinc 1 1, 3) := by decide +kernel
theorem dX4_numberAboveZero_30 : decode cX4_numberAboveZero 30 = .ok (.iinc 4 1, 3) := by decide +kernel
theorem dX4_numberAboveZero_33 : decode cX4_numberAboveZero 33 = .ok (.goto (-23), 3) := by decide +kernel
theorem dX4_numberAboveZero_36 : decode cX4_numberAboveZero 36 = .ok (.iload_n 1, 1) := by decide +kernel
theorem dX4_numberAboveZero_37 : decode cX4_numberAboveZero 37 = .ok (.ireturn, 1) := by decide +kernel
theorem dX5_init_0 : decode cX5_init 0 = .ok (.aload_n 0, 1) := by decide +kernel
theorem dX5_init_1 : decode cX5_init 1 = .ok (.invokespecial 3, 3) := by decide +kernel
theorem dX5_init_4 : decode cX5_init 4 = .ok (.aload_n 0, 1) := by decide +kernel
theorem dX5_init_5 : decode cX5_init 5 = .ok (.iconst 3, 1) := by decide +kernel
theorem dX5_init_6 : decode cX5_init 6 = .ok (.newarray .int, 2) := by decide +kernel
theorem dX5_init_8 : decode cX5_init 8 = .ok (.putfield 9, 3) := by decide +kernel
theorem dX5_init_11 : decode cX5_init 11 = .ok (.aload_n 0, 1) := by decide +kernel
theorem dX5_init_12 : decode cX5_init 12 = .ok (.iconst 3, 1) := by decide +kernel
theorem dX5_init_13 : decode cX5_init 13 = .ok (.newarray .int, 2) := by decide +kernel
theorem dX5_init_15 : decode cX5_init 15 = .ok (.putfield 15, 3) := by decide +kernel
theorem dX5_init_18 : decode cX5_init 18 = .ok (.aload_n 0, 1) := by decide +kernel
theorem dX5_init_19 : decode cX5_init 19 = .ok (.iconst 3, 1) := by decide +kernel
theorem dX5_init_20 : decode cX5_init 20 = .ok (.newarray .int, 2) := by decide +kernel
theorem dX5_init_22 : decode cX5_init 22 = .ok (.putfield 18, 3) := by decide +kernel
theorem dX5_init_25 : decode cX5_init 25 = .ok (.aload_n 0, 1) := by decide +kernel
theorem dX5_init_26 : decode cX5_init 26 = .ok (.iconst 0, 1) := by decide +kernel
theorem dX5_init_27 : decode cX5_init 27 = .ok (.putfield 21, 3) := by decide +kernel
theorem dX5_init_30 : decode cX5_init 30 = .ok (.aload_n 0, 1) := by decide +kernel
theorem dX5_init_31 : decode cX5_init 31 = .ok (.iconst (-1), 1) := by decide +kernel
theorem dX5_init_32 : decode cX5_init 32 = .ok (.putfield 25, 3) := by decide +kernel
theorem dX5_init_35 : decode cX5_init 35 = .ok (.return_, 1) := by decide +kernel
theorem dX5_choose_0 : decode cX5_choose 0 = .ok (.aload_n 0, 1) := by decide +kernel
theorem dX5_choose_1 : decode cX5_choose 1 = .ok (.getfield 9, 3) := by decide +kernel
theorem dX5_choose_4 : decode cX5_choose 4 = .ok (.iconst 0, 1) := by decide +kernel
theorem dX5_choose_5 : decode cX5_choose 5 = .ok (.iload_n 3, 1) := by decide +kernel
theorem dX5_choose_6 : decode cX5_choose 6 = .ok (.iastore, 1) := by decide +kernel
theorem dX5_choose_7 : decode cX5_choose 7 = .ok (.aload_n 0, 1) := by decide +kernel
theorem dX5_choose_8 : decode cX5_choose 8 = .ok (.getfield 9, 3) := by decide +kernel
theorem dX5_choose_11 : decode cX5_choose 11 = .ok (.iconst 1, 1) := by decide +kernel
theorem dX5_choose_12 : decode cX5_choose 12 = .ok (.iload 4, 2) := by decide +kernel
theorem dX5_choose_14 : decode cX5_choose 14 = .ok (.iastore, 1) := by decide +kernel
theorem dX5_choose_15 : decode cX5_choose 15 = .ok (.aload_n 0, 1) := by decide +kernel
theorem dX5_choose_16 : decode cX5_choose 16 = .ok (.getfield 9, 3) := by decide +kernel
theorem dX5_choose_19 : decode cX5_choose 19 = .ok (.iconst 2, 1) := by decide +kernel
theorem dX5_choose_20 : decode cX5_choose 20 = .ok (.iload 5, 2) := by decide +kernel
theorem dX5_choose_22 : decode cX5_choose 22 = .ok (.iastore, 1) := by decide +kernel
theorem dX5_choose_23 : decode cX5_choose 23 = .ok (.aload_n 0, 1) := by decide +kernel
theorem dX5_choose_24 : decode cX5_choose 24 = .ok (.iload_n 2, 1) := by decide +kernel
theorem dX5_choose_25 : decode cX5_choose 25 = .ok (.putfield 21, 3) := by decide +kernel
theorem dX5_choose_28 : decode cX5_choose 28 = .ok (.aload_n 0, 1) := by decide +kernel
theorem dX5_choose_29 : decode cX5_choose 29 = .ok (.iconst (-1), 1) := by decide +kernel
theorem dX5_choose_30 : decode cX5_choose 30 = .ok (.putfield 25, 3) := by decide +kernel
theorem dX5_choose_33 : decode cX5_choose 33 = .ok (.aload_n 0, 1) := by decide +kernel
theorem dX5_choose_34 : decode cX5_choose 34 = .ok (.aload_n 1, 1) := by decide +kernel
theorem dX5_choose_35 : decode cX5_choose 35 = .ok (.iconst 0, 1) := by decide +kernel
theorem dX5_choose_36 : decode cX5_choose 36 = .ok (.aload_n 1, 1) := by decide +kernel
theorem dX5_choose_37 : decode cX5_choose 37 = .ok (.getfield 28, 3) := by decide +kernel
theorem dX5_choose_40 : decode cX5_choose 40 = .ok (.aload_n 1, 1) := by decide +kernel
theorem dX5_choose_41 : decode cX5_choose 41 = .ok (.getfield 33, 3) := by decide +kernel
theorem dX5_choose_44 : decode cX5_choose 44 = .ok (.invokestatic 36, 3) := by decide +kernel
theorem dX5_choose_47 : decode cX5_choose 47 = .ok (.return_, 1) := by decide +kernel
theorem dX5_tryRiders_0 : decode cX5_tryRiders 0 = .ok (.iload_n 2, 1) := by decide +kernel
theorem dX5_tryRiders_1 : decode cX5_tryRiders 1 = .ok (.aload_n 0, 1) := by decide +kernel
theorem dX5_tryRiders_2 : decode cX5_tryRiders 2 = .ok (.getfield 21, 3) := by decide +kernel
theorem dX5_tryRiders_5 : decode cX5_tryRiders 5 = .ok (.if_icmp .ge 8, 3) := by decide +kernel
theorem dX5_tryRiders_8 : decode cX5_tryRiders 8 = .ok (.iload_n 2, 1) := by decide +kernel
theorem dX5_tryRiders_9 : decode cX5_tryRiders 9 = .ok (.iconst 3, 1) := by decide +kernel
theorem dX5_tryRiders_10 : decode cX5_tryRiders 10 = .ok (.if_icmp .lt 14, 3) := by decide +kernel
theorem dX5_tryRiders_13 : decode cX5_tryRiders 13 = .ok (.aload_n 0, 1) := by decide +kernel
theorem dX5_tryRiders_14 : decode cX5_tryRiders 14 = .ok (.iload_n 3, 1) := by decide +kernel
theorem dX5_tryRiders_15 : decode cX5_tryRiders 15 = .ok (.iload 4, 2) := by decide +kernel
theorem dX5_tryRiders_17 : decode cX5_tryRiders 17 = .ok (.invokestatic 40, 3) := by decide +kernel
theorem dX5_tryRiders_20 : decode cX5_tryRiders 20 = .ok (.invokevirtual 44, 3) := by decide +kernel
theorem dX5_tryRiders_23 : decode cX5_tryRiders 23 = .ok (.return_, 1) := by decide +kernel
theorem dX5_tryRiders_24 : decode cX5_tryRiders 24 = .ok (.aload_n 0, 1) := by decide +kernel
theorem dX5_tryRiders_25 : decode cX5_tryRiders 25 = .ok (.getfield 9, 3) := by decide +kernel
theorem dX5_tryRiders_28 : decode cX5_tryRiders 28 = .ok (.iload_n 2, 1) := by decide +kernel
theorem dX5_tryRiders_29 : decode cX5_tryRiders 29 = .ok (.iaload, 1) := by decide +kernel
theorem dX5_tryRiders_30 : decode cX5_tryRiders 30 = .ok (.istore 5, 2) := by decide +kernel
theorem dX5_tryRiders_32 : decode cX5_tryRiders 32 = .ok (.iconst 0, 1) := by decide +kernel
theorem dX5_tryRiders_33 : decode cX5_tryRiders 33 = .ok (.istore 6, 2) := by decide +kernel
theorem dX5_tryRiders_35 : decode cX5_tryRiders 35 = .ok (.iload 6, 2) := by decide +kernel
theorem dX5_tryRiders_37 : decode cX5_tryRiders 37 = .ok (.bipush 12, 2) := by decide +kernel
theorem dX5_tryRiders_39 : decode cX5_tryRiders 39 = .ok (.if_icmp .ge 67, 3) := by decide +kernel
theorem dX5_tryRiders_42 : decode cX5_tryRiders 42 = .ok (.aload_n 1, 1) := by decide +kernel
theorem dX5_tryRiders_43 : decode cX5_tryRiders 43 = .ok (.iload 6, 2) := by decide +kernel
theorem dX5_tryRiders_45 : decode cX5_tryRiders 45 = .ok (.invokevirtual 48, 3) := by decide +kernel
theorem dX5_tryRiders_48 : decode cX5_tryRiders 48 = .ok (.ifCond .eq 52, 3) := by decide +kernel
theorem dX5_tryRiders_51 : decode cX5_tryRiders 51 = .ok (.aload_n 0, 1) := by decide +kernel
theorem dX5_tryRiders_52 : decode cX5_tryRiders 52 = .ok (.iload 6, 2) := by decide +kernel
theorem dX5_tryRiders_54 : decode cX5_tryRiders 54 = .ok (.iload_n 2, 1) := by decide +kernel
theorem dX5_tryRiders_55 : decode cX5_tryRiders 55 = .ok (.invokevirtual 52, 3) := by decide +kernel
theorem dX5_tryRiders_58 : decode cX5_tryRiders 58 = .ok (.ifCond .ne 42, 3) := by decide +kernel
theorem dX5_tryRiders_61 : decode cX5_tryRiders 61 = .ok (.aload_n 0, 1) := by decide +kernel
theorem dX5_tryRiders_62 : decode cX5_tryRiders 62 = .ok (.getfield 15, 3) := by decide +kernel
theorem dX5_tryRiders_65 : decode cX5_tryRiders 65 = .ok (.iload_n 2, 1) := by decide +kernel
theorem dX5_tryRiders_66 : decode cX5_tryRiders 66 = .ok (.iload 6, 2) := by decide +kernel
theorem dX5_tryRiders_68 : decode cX5_tryRiders 68 = .ok (.iastore, 1) := by decide +kernel
theorem dX5_tryRiders_69 : decode cX5_tryRiders 69 = .ok (.aload_n 0, 1) := by decide +kernel
theorem dX5_tryRiders_70 : decode cX5_tryRiders 70 = .ok (.aload_n 1, 1) := by decide +kernel
theorem dX5_tryRiders_71 : decode cX5_tryRiders 71 = .ok (.iload_n 2, 1) := by decide +kernel
theorem dX5_tryRiders_72 : decode cX5_tryRiders 72 = .ok (.iconst 1, 1) := by decide +kernel
theorem dX5_tryRiders_73 : decode cX5_tryRiders 73 = .ok (.iadd, 1) := by decide +kernel
theorem dX5_tryRiders_74 : decode cX5_tryRiders 74 = .ok (.iload_n 3, 1) := by decide +kernel
theorem dX5_tryRiders_75 : decode cX5_tryRiders 75 = .ok (.iload 5, 2) := by decide +kernel
theorem dX5_tryRiders_77 : decode cX5_tryRiders 77 = .ok (.getstatic 56, 3) := by decide +kernel
theorem dX5_tryRiders_80 : decode cX5_tryRiders 80 = .ok (.iload 6, 2) := by decide +kernel
theorem dX5_tryRiders_82 : decode cX5_tryRiders 82 = .ok (.iaload, 1) := by decide +kernel
theorem dX5_tryRiders_83 : decode cX5_tryRiders 83 = .ok (.imul, 1) := by decide +kernel
theorem dX5_tryRiders_84 : decode cX5_tryRiders 84 = .ok (.iadd, 1) := by decide +kernel
theorem dX5_tryRiders_85 : decode cX5_tryRiders 85 = .ok (.iload 4, 2) := by decide +kernel
theorem dX5_tryRiders_87 : decode cX5_tryRiders 87 = .ok (.iload 5, 2) := by decide +kernel
theorem dX5_tryRiders_89 : decode cX5_tryRiders 89 = .ok (.getstatic 59, 3) := by decide +kernel
theorem dX5_tryRiders_92 : decode cX5_tryRiders 92 = .ok (.iload 6, 2) := by decide +kernel
theorem dX5_tryRiders_94 : decode cX5_tryRiders 94 = .ok (.iaload, 1) := by decide +kernel
theorem dX5_tryRiders_95 : decode cX5_tryRiders 95 = .ok (.imul, 1) := by decide +kernel
theorem dX5_tryRiders_96 : decode cX5_tryRiders 96 = .ok (.iadd, 1) := by decide +kernel
theorem dX5_tryRiders_97 : decode cX5_tryRiders 97 = .ok (.invokestatic 36, 3) := by decide +kernel
theorem dX5_tryRiders_100 : decode cX5_tryRiders 100 = .ok (.iinc 6 1, 3) := by decide +kernel
theorem dX5_tryRiders_103 : decode cX5_tryRiders 103 = .ok (.goto (-68), 3) := by decide +kernel
theorem dX5_tryRiders_106 : decode cX5_tryRiders 106 = .ok (.return_, 1) := by decide +kernel
theorem dX5_isTaken_0 : decode cX5_isTaken 0 = .ok (.iconst 0, 1) := by decide +kernel
theorem dX5_isTaken_1 : decode cX5_isTaken 1 = .ok (.istore_n 3, 1) := by decide +kernel
theorem dX5_isTaken_2 : decode cX5_isTaken 2 = .ok (.iload_n 3, 1) := by decide +kernel
theorem dX5_isTaken_3 : decode cX5_isTaken 3 = .ok (.iload_n 2, 1) := by decide +kernel
theorem dX5_isTaken_4 : decode cX5_isTaken 4 = .ok (.if_icmp .ge 21, 3) := by decide +kernel
theorem dX5_isTaken_7 : decode cX5_isTaken 7 = .ok (.aload_n 0, 1) := by decide +kernel
theorem dX5_isTaken_8 : decode cX5_isTaken 8 = .ok (.getfield 15, 3) := by decide +kernel
theorem dX5_isTaken_11 : decode cX5_isTaken 11 = .ok (.iload_n 3, 1) := by decide +kernel
theorem dX5_isTaken_12 : decode cX5_isTaken 12 = .ok (.iaload, 1) := by decide +kernel
theorem dX5_isTaken_13 : decode cX5_isTaken 13 = .ok (.iload_n 1, 1) := by decide +kernel
theorem dX5_isTaken_14 : decode cX5_isTaken 14 = .ok (.if_icmp .ne 5, 3) := by decide +kernel
theorem dX5_isTaken_17 : decode cX5_isTaken 17 = .ok (.iconst 1, 1) := by decide +kernel
theorem dX5_isTaken_18 : decode cX5_isTaken 18 = .ok (.ireturn, 1) := by decide +kernel
theorem dX5_isTaken_19 : decode cX5_isTaken 19 = .ok (.iinc 3 1, 3) := by decide +kernel
theorem dX5_isTaken_22 : decode cX5_isTaken 22 = .ok (.goto (-20), 3) := by decide +kernel
theorem dX5_isTaken_25 : decode cX5_isTaken 25 = .ok (.iconst 0, 1) := by decide +kernel
theorem dX5_isTaken_26 : decode cX5_isTaken 26 = .ok (.ireturn, 1) := by decide +kernel
theorem dX5_keepIfLess_0 : decode cX5_keepIfLess 0 = .ok (.aload_n 0, 1) := by decide +kernel
theorem dX5_keepIfLess_1 : decode cX5_keepIfLess 1 = .ok (.getfield 25, 3) := by decide +kernel
theorem dX5_keepIfLess_4 : decode cX5_keepIfLess 4 = .ok (.iconst (-1), 1) := by decide +kernel
theorem dX5_keepIfLess_5 : decode cX5_keepIfLess 5 = .ok (.if_icmp .eq 11, 3) := by decide +kernel
theorem dX5_keepIfLess_8 : decode cX5_keepIfLess 8 = .ok (.iload_n 1, 1) := by decide +kernel
theorem dX5_keepIfLess_9 : decode cX5_keepIfLess 9 = .ok (.aload_n 0, 1) := by decide +kernel
theorem dX5_keepIfLess_10 : decode cX5_keepIfLess 10 = .ok (.getfield 25, 3) := by decide +kernel
theorem dX5_keepIfLess_13 : decode cX5_keepIfLess 13 = .ok (.if_icmp .ge 22, 3) := by decide +kernel
theorem dX5_keepIfLess_16 : decode cX5_keepIfLess 16 = .ok (.aload_n 0, 1) := by decide +kernel
theorem dX5_keepIfLess_17 : decode cX5_keepIfLess 17 = .ok (.iload_n 1, 1) := by decide +kernel
theorem dX5_keepIfLess_18 : decode cX5_keepIfLess 18 = .ok (.putfield 25, 3) := by decide +kernel
theorem dX5_keepIfLess_21 : decode cX5_keepIfLess 21 = .ok (.aload_n 0, 1) := by decide +kernel
theorem dX5_keepIfLess_22 : decode cX5_keepIfLess 22 = .ok (.getfield 15, 3) := by decide +kernel
theorem dX5_keepIfLess_25 : decode cX5_keepIfLess 25 = .ok (.iconst 0, 1) := by decide +kernel
theorem dX5_keepIfLess_26 : decode cX5_keepIfLess 26 = .ok (.aload_n 0, 1) := by decide +kernel
theorem dX5_keepIfLess_27 : decode cX5_keepIfLess 27 = .ok (.getfield 18, 3) := by decide +kernel
theorem dX5_keepIfLess_30 : decode cX5_keepIfLess 30 = .ok (.iconst 0, 1) := by decide +kernel
theorem dX5_keepIfLess_31 : decode cX5_keepIfLess 31 = .ok (.iconst 3, 1) := by decide +kernel
theorem dX5_keepIfLess_32 : decode cX5_keepIfLess 32 = .ok (.invokestatic 62, 3) := by decide +kernel
theorem dX5_keepIfLess_35 : decode cX5_keepIfLess 35 = .ok (.return_, 1) := by decide +kernel
theorem dX5_seatAll_0 : decode cX5_seatAll 0 = .ok (.iconst 0, 1) := by decide +kernel
theorem dX5_seatAll_1 : decode cX5_seatAll 1 = .ok (.istore_n 2, 1) := by decide +kernel
theorem dX5_seatAll_2 : decode cX5_seatAll 2 = .ok (.iload_n 2, 1) := by decide +kernel
theorem dX5_seatAll_3 : decode cX5_seatAll 3 = .ok (.aload_n 0, 1) := by decide +kernel
theorem dX5_seatAll_4 : decode cX5_seatAll 4 = .ok (.getfield 21, 3) := by decide +kernel
theorem dX5_seatAll_7 : decode cX5_seatAll 7 = .ok (.if_icmp .ge 25, 3) := by decide +kernel
theorem dX5_seatAll_10 : decode cX5_seatAll 10 = .ok (.aload_n 1, 1) := by decide +kernel
theorem dX5_seatAll_11 : decode cX5_seatAll 11 = .ok (.aload_n 0, 1) := by decide +kernel
theorem dX5_seatAll_12 : decode cX5_seatAll 12 = .ok (.getfield 18, 3) := by decide +kernel
theorem dX5_seatAll_15 : decode cX5_seatAll 15 = .ok (.iload_n 2, 1) := by decide +kernel
theorem dX5_seatAll_16 : decode cX5_seatAll 16 = .ok (.iaload, 1) := by decide +kernel
theorem dX5_seatAll_17 : decode cX5_seatAll 17 = .ok (.aload_n 0, 1) := by decide +kernel
theorem dX5_seatAll_18 : decode cX5_seatAll 18 = .ok (.getfield 9, 3) := by decide +kernel
theorem dX5_seatAll_21 : decode cX5_seatAll 21 = .ok (.iload_n 2, 1) := by decide +kernel
theorem dX5_seatAll_22 : decode cX5_seatAll 22 = .ok (.iaload, 1) := by decide +kernel
theorem dX5_seatAll_23 : decode cX5_seatAll 23 = .ok (.invokevirtual 68, 3) := by decide +kernel
theorem dX5_seatAll_26 : decode cX5_seatAll 26 = .ok (.iinc 2 1, 3) := by decide +kernel
theorem dX5_seatAll_29 : decode cX5_seatAll 29 = .ok (.goto (-27), 3) := by decide +kernel
theorem dX5_seatAll_32 : decode cX5_seatAll 32 = .ok (.return_, 1) := by decide +kernel
theorem dX6_init_0 : decode cX6_init 0 = .ok (.aload_n 0, 1) := by decide +kernel
theorem dX6_init_1 : decode cX6_init 1 = .ok (.invokespecial 3, 3) := by decide +kernel
theorem dX6_init_4 : decode cX6_init 4 = .ok (.aload_n 0, 1) := by decide +kernel
theorem dX6_init_5 : decode cX6_init 5 = .ok (.new 9, 3) := by decide +kernel
theorem dX6_init_8 : decode cX6_init 8 = .ok (.dup, 1) := by decide +kernel
theorem dX6_init_9 : decode cX6_init 9 = .ok (.invokespecial 11, 3) := by decide +kernel
theorem dX6_init_12 : decode cX6_init 12 = .ok (.putfield 12, 3) := by decide +kernel
theorem dX6_init_15 : decode cX6_init 15 = .ok (.aload_n 0, 1) := by decide +kernel
theorem dX6_init_16 : decode cX6_init 16 = .ok (.new 16, 3) := by decide +kernel
theorem dX6_init_19 : decode cX6_init 19 = .ok (.dup, 1) := by decide +kernel
theorem dX6_init_20 : decode cX6_init 20 = .ok (.invokespecial 18, 3) := by decide +kernel
theorem dX6_init_23 : decode cX6_init 23 = .ok (.putfield 19, 3) := by decide +kernel
theorem dX6_init_26 : decode cX6_init 26 = .ok (.aload_n 0, 1) := by decide +kernel
theorem dX6_init_27 : decode cX6_init 27 = .ok (.new 23, 3) := by decide +kernel
theorem dX6_init_30 : decode cX6_init 30 = .ok (.dup, 1) := by decide +kernel
theorem dX6_init_31 : decode cX6_init 31 = .ok (.invokespecial 25, 3) := by decide +kernel
theorem dX6_init_34 : decode cX6_init 34 = .ok (.putfield 26, 3) := by decide +kernel
theorem dX6_init_37 : decode cX6_init 37 = .ok (.aload_n 0, 1) := by decide +kernel
theorem dX6_init_38 : decode cX6_init 38 = .ok (.new 30, 3) := by decide +kernel
theorem dX6_init_41 : decode cX6_init 41 = .ok (.dup, 1) := by decide +kernel
theorem dX6_init_42 : decode cX6_init 42 = .ok (.invokespecial 32, 3) := by decide +kernel
theorem dX6_init_45 : decode cX6_init 45 = .ok (.putfield 33, 3) := by decide +kernel
theorem dX6_init_48 : decode cX6_init 48 = .ok (.aload_n 0, 1) := by decide +kernel
theorem dX6_init_49 : decode cX6_init 49 = .ok (.new 37, 3) := by decide +kernel
theorem dX6_init_52 : decode cX6_init 52 = .ok (.dup, 1) := by decide +kernel
theorem dX6_init_53 : decode cX6_init 53 = .ok (.invokespecial 39, 3) := by decide +kernel
theorem dX6_init_56 : decode cX6_init 56 = .ok (.putfield 40, 3) := by decide +kernel
theorem dX6_init_59 : decode cX6_init 59 = .ok (.aload_n 0, 1) := by decide +kernel
theorem dX6_init_60 : decode cX6_init 60 = .ok (.new 44, 3) := by decide +kernel
theorem dX6_init_63 : decode cX6_init 63 = .ok (.dup, 1) := by decide +kernel
theorem dX6_init_64 : decode cX6_init 64 = .ok (.invokespecial 46, 3) := by decide +kernel
theorem dX6_init_67 : decode cX6_init 67 = .ok (.putfield 47, 3) := by decide +kernel
theorem dX6_init_70 : decode cX6_init 70 = .ok (.aload_n 0, 1) := by decide +kernel
theorem dX6_init_71 : decode cX6_init 71 = .ok (.iconst 0, 1) := by decide +kernel
theorem dX6_init_72 : decode cX6_init 72 = .ok (.putfield 51, 3) := by decide +kernel
theorem dX6_init_75 : decode cX6_init 75 = .ok (.aload_n 0, 1) := by decide +kernel
theorem dX6_init_76 : decode cX6_init 76 = .ok (.bipush 100, 2) := by decide +kernel
theorem dX6_init_78 : decode cX6_init 78 = .ok (.putfield 55, 3) := by decide +kernel
theorem dX6_init_81 : decode cX6_init 81 = .ok (.aload_n 0, 1) := by decide +kernel
theorem dX6_init_82 : decode cX6_init 82 = .ok (.iconst 0, 1) := by decide +kernel
theorem dX6_init_83 : decode cX6_init 83 = .ok (.putfield 58, 3) := by decide +kernel
theorem dX6_init_86 : decode cX6_init 86 = .ok (.aload_n 0, 1) := by decide +kernel
theorem dX6_init_87 : decode cX6_init 87 = .ok (.iconst 0, 1) := by decide +kernel
theorem dX6_init_88 : decode cX6_init 88 = .ok (.putfield 61, 3) := by decide +kernel
theorem dX6_init_91 : decode cX6_init 91 = .ok (.return_, 1) := by decide +kernel
theorem dX6_horse_0 : decode cX6_horse 0 = .ok (.iload_n 1, 1) := by decide +kernel
theorem dX6_horse_1 : decode cX6_horse 1 = .ok (.invokestatic 64, 3) := by decide +kernel
theorem dX6_horse_4 : decode cX6_horse 4 = .ok (.ifCond .ne 6, 3) := by decide +kernel
theorem dX6_horse_7 : decode cX6_horse 7 = .ok (.bipush (-101), 2) := by decide +kernel
theorem dX6_horse_9 : decode cX6_horse 9 = .ok (.ireturn, 1) := by decide +kernel
theorem dX6_horse_10 : decode cX6_horse 10 = .ok (.iload_n 2, 1) := by decide +kernel
theorem dX6_horse_11 : decode cX6_horse 11 = .ok (.iconst 1, 1) := by decide +kernel
theorem dX6_horse_12 : decode cX6_horse 12 = .ok (.sipush 200, 3) := by decide +kernel
theorem dX6_horse_15 : decode cX6_horse 15 = .ok (.invokestatic 68, 3) := by decide +kernel
theorem dX6_horse_18 : decode cX6_horse 18 = .ok (.ifCond .eq 13, 3) := by decide +kernel
theorem dX6_horse_21 : decode cX6_horse 21 = .ok (.iload_n 3, 1) := by decide +kernel
theorem dX6_horse_22 : decode cX6_horse 22 = .ok (.iconst 0, 1) := by decide +kernel
theorem dX6_horse_23 : decode cX6_horse 23 = .ok (.bipush 99, 2) := by decide +kernel
theorem dX6_horse_25 : decode cX6_horse 25 = .ok (.invokestatic 68, 3) := by decide +kernel
theorem dX6_horse_28 : decode cX6_horse 28 = .ok (.ifCond .ne 6, 3) := by decide +kernel
theorem dX6_horse_31 : decode cX6_horse 31 = .ok (.bipush (-102), 2) := by decide +kernel
theorem dX6_horse_33 : decode cX6_horse 33 = .ok (.ireturn, 1) := by decide +kernel
theorem dX6_horse_34 : decode cX6_horse 34 = .ok (.aload_n 0, 1) := by decide +kernel
theorem dX6_horse_35 : decode cX6_horse 35 = .ok (.getfield 12, 3) := by decide +kernel
theorem dX6_horse_38 : decode cX6_horse 38 = .ok (.iload_n 1, 1) := by decide +kernel
theorem dX6_horse_39 : decode cX6_horse 39 = .ok (.invokevirtual 72, 3) := by decide +kernel
theorem dX6_horse_42 : decode cX6_horse 42 = .ok (.ifCond .eq 6, 3) := by decide +kernel
theorem dX6_horse_45 : decode cX6_horse 45 = .ok (.bipush (-103), 2) := by decide +kernel
theorem dX6_horse_47 : decode cX6_horse 47 = .ok (.ireturn, 1) := by decide +kernel
theorem dX6_horse_48 : decode cX6_horse 48 = .ok (.aload_n 0, 1) := by decide +kernel
theorem dX6_horse_49 : decode cX6_horse 49 = .ok (.getfield 12, 3) := by decide +kernel
theorem dX6_horse_52 : decode cX6_horse 52 = .ok (.iload_n 1, 1) := by decide +kernel
theorem dX6_horse_53 : decode cX6_horse 53 = .ok (.iload_n 2, 1) := by decide +kernel
theorem dX6_horse_54 : decode cX6_horse 54 = .ok (.invokevirtual 75, 3) := by decide +kernel
theorem dX6_horse_57 : decode cX6_horse 57 = .ok (.aload_n 0, 1) := by decide +kernel
theorem dX6_horse_58 : decode cX6_horse 58 = .ok (.getfield 26, 3) := by decide +kernel
theorem dX6_horse_61 : decode cX6_horse 61 = .ok (.iload_n 1, 1) := by decide +kernel
theorem dX6_horse_62 : decode cX6_horse 62 = .ok (.iload_n 3, 1) := by decide +kernel
theorem dX6_horse_63 : decode cX6_horse 63 = .ok (.invokevirtual 79, 3) := by decide +kernel
theorem dX6_horse_66 : decode cX6_horse 66 = .ok (.aload_n 0, 1) := by decide +kernel
theorem dX6_horse_67 : decode cX6_horse 67 = .ok (.getfield 12, 3) := by decide +kernel
theorem dX6_horse_70 : decode cX6_horse 70 = .ok (.invokevirtual 82, 3) := by decide +kernel
theorem dX6_horse_73 : decode cX6_horse 73 = .ok (.ireturn, 1) := by decide +kernel
theorem dX6_leave_0 : decode cX6_leave 0 = .ok (.aload_n 0, 1) := by decide +kernel
theorem dX6_leave_1 : decode cX6_leave 1 = .ok (.getfield 12, 3) := by decide +kernel
theorem dX6_leave_4 : decode cX6_leave 4 = .ok (.iload_n 1, 1) := by decide +kernel
theorem dX6_leave_5 : decode cX6_leave 5 = .ok (.invokevirtual 72, 3) := by decide +kernel
theorem dX6_leave_8 : decode cX6_leave 8 = .ok (.ifCond .ne 6, 3) := by decide +kernel
theorem dX6_leave_11 : decode cX6_leave 11 = .ok (.bipush (-101), 2) := by decide +kernel
theorem dX6_leave_13 : decode cX6_leave 13 = .ok (.ireturn, 1) := by decide +kernel
theorem dX6_leave_14 : decode cX6_leave 14 = .ok (.aload_n 0, 1) := by decide +kernel
theorem dX6_leave_15 : decode cX6_leave 15 = .ok (.getfield 12, 3) := by decide +kernel
theorem dX6_leave_18 : decode cX6_leave 18 = .ok (.iload_n 1, 1) := by decide +kernel
theorem dX6_leave_19 : decode cX6_leave 19 = .ok (.invokevirtual 86, 3) := by decide +kernel
theorem dX6_leave_22 : decode cX6_leave 22 = .ok (.ifCond .ne 14, 3) := by decide +kernel
theorem dX6_leave_25 : decode cX6_leave 25 = .ok (.aload_n 0, 1) := by decide +kernel
theorem dX6_leave_26 : decode cX6_leave 26 = .ok (.getfield 33, 3) := by decide +kernel
theorem dX6_leave_29 : decode cX6_leave 29 = .ok (.iload_n 1, 1) := by decide +kernel
theorem dX6_leave_30 : decode cX6_leave 30 = .ok (.invokevirtual 89, 3) := by decide +kernel
theorem dX6_leave_33 : decode cX6_leave 33 = .ok (.ifCond .ne 6, 3) := by decide +kernel
theorem dX6_leave_36 : decode cX6_leave 36 = .ok (.bipush (-103), 2) := by decide +kernel
theorem dX6_leave_38 : decode cX6_leave 38 = .ok (.ireturn, 1) := by decide +kernel
theorem dX6_leave_39 : decode cX6_leave 39 = .ok (.aload_n 0, 1) := by decide +kernel
theorem dX6_leave_40 : decode cX6_leave 40 = .ok (.getfield 26, 3) := by decide +kernel
theorem dX6_leave_43 : decode cX6_leave 43 = .ok (.iload_n 1, 1) := by decide +kernel
theorem dX6_leave_44 : decode cX6_leave 44 = .ok (.invokevirtual 92, 3) := by decide +kernel
theorem dX6_leave_47 : decode cX6_leave 47 = .ok (.aload_n 0, 1) := by decide +kernel
theorem dX6_leave_48 : decode cX6_leave 48 = .ok (.getfield 12, 3) := by decide +kernel
theorem dX6_leave_51 : decode cX6_leave 51 = .ok (.iload_n 1, 1) := by decide +kernel
theorem dX6_leave_52 : decode cX6_leave 52 = .ok (.invokevirtual 96, 3) := by decide +kernel
theorem dX6_leave_55 : decode cX6_leave 55 = .ok (.ireturn, 1) := by decide +kernel
theorem dX6_sit_0 : decode cX6_sit 0 = .ok (.aload_n 0, 1) := by decide +kernel
theorem dX6_sit_1 : decode cX6_sit 1 = .ok (.getfield 12, 3) := by decide +kernel
theorem dX6_sit_4 : decode cX6_sit 4 = .ok (.iload_n 1, 1) := by decide +kernel
theorem dX6_sit_5 : decode cX6_sit 5 = .ok (.invokevirtual 72, 3) := by decide +kernel
theorem dX6_sit_8 : decode cX6_sit 8 = .ok (.ifCond .ne 6, 3) := by decide +kernel
theorem dX6_sit_11 : decode cX6_sit 11 = .ok (.bipush (-101), 2) := by decide +kernel
theorem dX6_sit_13 : decode cX6_sit 13 = .ok (.ireturn, 1) := by decide +kernel
theorem dX6_sit_14 : decode cX6_sit 14 = .ok (.iload_n 2, 1) := by decide +kernel
theorem dX6_sit_15 : decode cX6_sit 15 = .ok (.invokestatic 100, 3) := by decide +kernel
theorem dX6_sit_18 : decode cX6_sit 18 = .ok (.ifCond .ne 6, 3) := by decide +kernel
theorem dX6_sit_21 : decode cX6_sit 21 = .ok (.bipush (-102), 2) := by decide +kernel
theorem dX6_sit_23 : decode cX6_sit 23 = .ok (.ireturn, 1) := by decide +kernel
theorem dX6_sit_24 : decode cX6_sit 24 = .ok (.aload_n 0, 1) := by decide +kernel
theorem dX6_sit_25 : decode cX6_sit 25 = .ok (.getfield 12, 3) := by decide +kernel
theorem dX6_sit_28 : decode cX6_sit 28 = .ok (.iload_n 1, 1) := by decide +kernel
theorem dX6_sit_29 : decode cX6_sit 29 = .ok (.invokevirtual 86, 3) := by decide +kernel
theorem dX6_sit_32 : decode cX6_sit 32 = .ok (.ifCond .ne 15, 3) := by decide +kernel
theorem dX6_sit_35 : decode cX6_sit 35 = .ok (.aload_n 0, 1) := by decide +kernel
theorem dX6_sit_36 : decode cX6_sit 36 = .ok (.getfield 12, 3) := by decide +kernel
theorem dX6_sit_39 : decode cX6_sit 39 = .ok (.iload_n 1, 1) := by decide +kernel
theorem dX6_sit_40 : decode cX6_sit 40 = .ok (.iload_n 2, 1) := by decide +kernel
theorem dX6_sit_41 : decode cX6_sit 41 = .ok (.invokevirtual 103, 3) := by decide +kernel
theorem dX6_sit_44 : decode cX6_sit 44 = .ok (.ifCond .ne 6, 3) := by decide +kernel
theorem dX6_sit_47 : decode cX6_sit 47 = .ok (.bipush (-103), 2) := by decide +kernel
theorem dX6_sit_49 : decode cX6_sit 49 = .ok (.ireturn, 1) := by decide +kernel
theorem dX6_sit_50 : decode cX6_sit 50 = .ok (.aload_n 0, 1) := by decide +kernel
theorem dX6_sit_51 : decode cX6_sit 51 = .ok (.getfield 12, 3) := by decide +kernel
theorem dX6_sit_54 : decode cX6_sit 54 = .ok (.iload_n 1, 1) := by decide +kernel
theorem dX6_sit_55 : decode cX6_sit 55 = .ok (.iload_n 2, 1) := by decide +kernel
theorem dX6_sit_56 : decode cX6_sit 56 = .ok (.invokevirtual 107, 3) := by decide +kernel
theorem dX6_sit_59 : decode cX6_sit 59 = .ok (.aload_n 0, 1) := by decide +kernel
theorem dX6_sit_60 : decode cX6_sit 60 = .ok (.getfield 12, 3) := by decide +kernel
theorem dX6_sit_63 : decode cX6_sit 63 = .ok (.invokevirtual 110, 3) := by decide +kernel
theorem dX6_sit_66 : decode cX6_sit 66 = .ok (.ireturn, 1) := by decide +kernel
theorem dX6_rise_0 : decode cX6_rise 0 = .ok (.aload_n 0, 1) := by decide +kernel
theorem dX6_rise_1 : decode cX6_rise 1 = .ok (.getfield 12, 3) := by decide +kernel
theorem dX6_rise_4 : decode cX6_rise 4 = .ok (.iload_n 1, 1) := by decide +kernel
theorem dX6_rise_5 : decode cX6_rise 5 = .ok (.invokevirtual 72, 3) := by decide +kernel
theorem dX6_rise_8 : decode cX6_rise 8 = .ok (.ifCond .ne 6, 3) := by decide +kernel
theorem dX6_rise_11 : decode cX6_rise 11 = .ok (.bipush (-101), 2) := by decide +kernel
theorem dX6_rise_13 : decode cX6_rise 13 = .ok (.ireturn, 1) := by decide +kernel
theorem dX6_rise_14 : decode cX6_rise 14 = .ok (.aload_n 0, 1) := by decide +kernel
theorem dX6_rise_15 : decode cX6_rise 15 = .ok (.getfield 12, 3) := by decide +kernel
theorem dX6_rise_18 : decode cX6_rise 18 = .ok (.iload_n 1, 1) := by decide +kernel
theorem dX6_rise_19 : decode cX6_rise 19 = .ok (.invokevirtual 86, 3) := by decide +kernel
theorem dX6_rise_22 : decode cX6_rise 22 = .ok (.ifCond .ne 6, 3) := by decide +kernel
theorem dX6_rise_25 : decode cX6_rise 25 = .ok (.bipush (-103), 2) := by decide +kernel
theorem dX6_rise_27 : decode cX6_rise 27 = .ok (.ireturn, 1) := by decide +kernel
theorem dX6_rise_28 : decode cX6_rise 28 = .ok (.aload_n 0, 1) := by decide +kernel
theorem dX6_rise_29 : decode cX6_rise 29 = .ok (.getfield 12, 3) := by decide +kernel
theorem dX6_rise_32 : decode cX6_rise 32 = .ok (.iload_n 1, 1) := by decide +kernel
theorem dX6_rise_33 : decode cX6_rise 33 = .ok (.invokevirtual 113, 3) := by decide +kernel
theorem dX6_rise_36 : decode cX6_rise 36 = .ok (.ireturn, 1) := by decide +kernel
theorem dX6_shake_0 : decode cX6_shake 0 = .ok (.aload_n 0, 1) := by decide +kernel
theorem dX6_shake_1 : decode cX6_shake 1 = .ok (.getfield 12, 3) := by decide +kernel
theorem dX6_shake_4 : decode cX6_shake 4 = .ok (.invokevirtual 110, 3) := by decide +kernel
theorem dX6_shake_7 : decode cX6_shake 7 = .ok (.ireturn, 1) := by decide +kernel
theorem dX6_rising_0 : decode cX6_rising 0 = .ok (.aload_n 0, 1) := by decide +kernel
theorem dX6_rising_1 : decode cX6_rising 1 = .ok (.getfield 12, 3) := by decide +kernel
theorem dX6_rising_4 : decode cX6_rising 4 = .ok (.getfield 116, 3) := by decide +kernel
theorem dX6_rising_7 : decode cX6_rising 7 = .ok (.ireturn, 1) := by decide +kernel
theorem dX6_may_0 : decode cX6_may 0 = .ok (.aload_n 0, 1) := by decide +kernel
theorem dX6_may_1 : decode cX6_may 1 = .ok (.getfield 12, 3) := by decide +kernel
theorem dX6_may_4 : decode cX6_may 4 = .ok (.invokevirtual 119, 3) := by decide +kernel
theorem dX6_may_7 : decode cX6_may 7 = .ok (.ifCond .eq 7, 3) := by decide +kernel
theorem dX6_may_10 : decode cX6_may 10 = .ok (.iconst 1, 1) := by decide +kernel
theorem dX6_may_11 : decode cX6_may 11 = .ok (.goto 4, 3) := by decide +kernel
theorem dX6_may_14 : decode cX6_may 14 = .ok (.iconst 0, 1) := by decide +kernel
theorem dX6_may_15 : decode cX6_may 15 = .ok (.ireturn, 1) := by decide +kernel
theorem dX6_law_0 : decode cX6_law 0 = .ok (.iload_n 1, 1) := by decide +kernel
theorem dX6_law_1 : decode cX6_law 1 = .ok (.ifCond .ne 9, 3) := by decide +kernel
theorem dX6_law_4 : decode cX6_law 4 = .ok (.aload_n 0, 1) := by decide +kernel
theorem dX6_law_5 : decode cX6_law 5 = .ok (.iload_n 2, 1) := by decide +kernel
theorem dX6_law_6 : decode cX6_law 6 = .ok (.invokevirtual 123, 3) := by decide +kernel
theorem dX6_law_9 : decode cX6_law 9 = .ok (.ireturn, 1) := by decide +kernel
theorem dX6_law_10 : decode cX6_law 10 = .ok (.iload_n 1, 1) := by decide +kernel
theorem dX6_law_11 : decode cX6_law 11 = .ok (.iconst 1, 1) := by decide +kernel
theorem dX6_law_12 : decode cX6_law 12 = .ok (.if_icmp .ne 9, 3) := by decide +kernel
theorem dX6_law_15 : decode cX6_law 15 = .ok (.aload_n 0, 1) := by decide +kernel
theorem dX6_law_16 : decode cX6_law 16 = .ok (.iload_n 2, 1) := by decide +kernel
theorem dX6_law_17 : decode cX6_law 17 = .ok (.invokevirtual 126, 3) := by decide +kernel
theorem dX6_law_20 : decode cX6_law 20 = .ok (.ireturn, 1) := by decide +kernel
theorem dX6_law_21 : decode cX6_law 21 = .ok (.bipush (-101), 2) := by decide +kernel
theorem dX6_law_23 : decode cX6_law 23 = .ok (.ireturn, 1) := by decide +kernel
theorem dX6_best_0 : decode cX6_best 0 = .ok (.iload_n 1, 1) := by decide +kernel
theorem dX6_best_1 : decode cX6_best 1 = .ok (.invokestatic 100, 3) := by decide +kernel
theorem dX6_best_4 : decode cX6_best 4 = .ok (.ifCond .eq 14, 3) := by decide +kernel
theorem dX6_best_7 : decode cX6_best 7 = .ok (.aload_n 0, 1) := by decide +kernel
theorem dX6_best_8 : decode cX6_best 8 = .ok (.getfield 12, 3) := by decide +kernel
theorem dX6_best_11 : decode cX6_best 11 = .ok (.iload_n 1, 1) := by decide +kernel
theorem dX6_best_12 : decode cX6_best 12 = .ok (.invokevirtual 129, 3) := by decide +kernel
theorem dX6_best_15 : decode cX6_best 15 = .ok (.goto 5, 3) := by decide +kernel
theorem dX6_best_18 : decode cX6_best 18 = .ok (.bipush (-102), 2) := by decide +kernel
theorem dX6_best_20 : decode cX6_best 20 = .ok (.ireturn, 1) := by decide +kernel
theorem dX6_group_0 : decode cX6_group 0 = .ok (.iload_n 1, 1) := by decide +kernel
theorem dX6_group_1 : decode cX6_group 1 = .ok (.iload_n 2, 1) := by decide +kernel
theorem dX6_group_2 : decode cX6_group 2 = .ok (.iload_n 3, 1) := by decide +kernel
theorem dX6_group_3 : decode cX6_group 3 = .ok (.iload 4, 2) := by decide +kernel
theorem dX6_group_5 : decode cX6_group 5 = .ok (.invokestatic 132, 3) := by decide +kernel
theorem dX6_group_8 : decode cX6_group 8 = .ok (.ifCond .ne 6, 3) := by decide +kernel
theorem dX6_group_11 : decode cX6_group 11 = .ok (.bipush (-102), 2) := by decide +kernel
theorem dX6_group_13 : decode cX6_group 13 = .ok (.ireturn, 1) := by decide +kernel
theorem dX6_group_14 : decode cX6_group 14 = .ok (.aload_n 0, 1) := by decide +kernel
theorem dX6_group_15 : decode cX6_group 15 = .ok (.getfield 51, 3) := by decide +kernel
theorem dX6_group_18 : decode cX6_group 18 = .ok (.bipush 60, 2) := by decide +kernel
theorem dX6_group_20 : decode cX6_group 20 = .ok (.if_icmp .lt 6, 3) := by decide +kernel
theorem dX6_group_23 : decode cX6_group 23 = .ok (.bipush (-103), 2) := by decide +kernel
theorem dX6_group_25 : decode cX6_group 25 = .ok (.ireturn, 1) := by decide +kernel
theorem dX6_group_26 : decode cX6_group 26 = .ok (.aload_n 0, 1) := by decide +kernel
theorem dX6_group_27 : decode cX6_group 27 = .ok (.dup, 1) := by decide +kernel
theorem dX6_group_28 : decode cX6_group 28 = .ok (.getfield 51, 3) := by decide +kernel
theorem dX6_group_31 : decode cX6_group 31 = .ok (.iconst 1, 1) := by decide +kernel
theorem dX6_group_32 : decode cX6_group 32 = .ok (.iadd, 1) := by decide +kernel
theorem dX6_group_33 : decode cX6_group 33 = .ok (.putfield 51, 3) := by decide +kernel
theorem dX6_group_36 : decode cX6_group 36 = .ok (.aload_n 0, 1) := by decide +kernel
theorem dX6_group_37 : decode cX6_group 37 = .ok (.getfield 12, 3) := by decide +kernel
theorem dX6_group_40 : decode cX6_group 40 = .ok (.invokevirtual 136, 3) := by decide +kernel
theorem dX6_group_43 : decode cX6_group 43 = .ok (.iload_n 1, 1) := by decide +kernel
theorem dX6_group_44 : decode cX6_group 44 = .ok (.if_icmp .ge 5, 3) := by decide +kernel
theorem dX6_group_47 : decode cX6_group 47 = .ok (.iconst (-1), 1) := by decide +kernel
theorem dX6_group_48 : decode cX6_group 48 = .ok (.ireturn, 1) := by decide +kernel
theorem dX6_group_49 : decode cX6_group 49 = .ok (.aload_n 0, 1) := by decide +kernel
theorem dX6_group_50 : decode cX6_group 50 = .ok (.getfield 19, 3) := by decide +kernel
theorem dX6_group_53 : decode cX6_group 53 = .ok (.aload_n 0, 1) := by decide +kernel
theorem dX6_group_54 : decode cX6_group 54 = .ok (.getfield 12, 3) := by decide +kernel
theorem dX6_group_57 : decode cX6_group 57 = .ok (.iload_n 1, 1) := by decide +kernel
theorem dX6_group_58 : decode cX6_group 58 = .ok (.iload_n 2, 1) := by decide +kernel
theorem dX6_group_59 : decode cX6_group 59 = .ok (.iload_n 3, 1) := by decide +kernel
theorem dX6_group_60 : decode cX6_group 60 = .ok (.iload 4, 2) := by decide +kernel
theorem dX6_group_62 : decode cX6_group 62 = .ok (.invokevirtual 139, 3) := by decide +kernel
theorem dX6_group_65 : decode cX6_group 65 = .ok (.aload_n 0, 1) := by decide +kernel
theorem dX6_group_66 : decode cX6_group 66 = .ok (.getfield 19, 3) := by decide +kernel
theorem dX6_group_69 : decode cX6_group 69 = .ok (.aload_n 0, 1) := by decide +kernel
theorem dX6_group_70 : decode cX6_group 70 = .ok (.getfield 12, 3) := by decide +kernel
theorem dX6_group_73 : decode cX6_group 73 = .ok (.invokevirtual 143, 3) := by decide +kernel
theorem dX6_group_76 : decode cX6_group 76 = .ok (.aload_n 0, 1) := by decide +kernel
theorem dX6_group_77 : decode cX6_group 77 = .ok (.getfield 12, 3) := by decide +kernel
theorem dX6_group_80 : decode cX6_group 80 = .ok (.invokevirtual 110, 3) := by decide +kernel
theorem dX6_group_83 : decode cX6_group 83 = .ok (.ireturn, 1) := by decide +kernel
theorem dX6_rider_0 : decode cX6_rider 0 = .ok (.iload_n 1, 1) := by decide +kernel
theorem dX6_rider_1 : decode cX6_rider 1 = .ok (.invokestatic 64, 3) := by decide +kernel
theorem dX6_rider_4 : decode cX6_rider 4 = .ok (.ifCond .eq 15, 3) := by decide +kernel
theorem dX6_rider_7 : decode cX6_rider 7 = .ok (.aload_n 0, 1) := by decide +kernel
theorem dX6_rider_8 : decode cX6_rider 8 = .ok (.getfield 12, 3) := by decide +kernel
theorem dX6_rider_11 : decode cX6_rider 11 = .ok (.getfield 147, 3) := by decide +kernel
theorem dX6_rider_14 : decode cX6_rider 14 = .ok (.iload_n 1, 1) := by decide +kernel
theorem dX6_rider_15 : decode cX6_rider 15 = .ok (.iaload, 1) := by decide +kernel
theorem dX6_rider_16 : decode cX6_rider 16 = .ok (.goto 5, 3) := by decide +kernel
theorem dX6_rider_19 : decode cX6_rider 19 = .ok (.bipush (-101), 2) := by decide +kernel
theorem dX6_rider_21 : decode cX6_rider 21 = .ok (.ireturn, 1) := by decide +kernel
theorem dX6_coat_0 : decode cX6_coat 0 = .ok (.aload_n 0, 1) := by decide +kernel
theorem dX6_coat_1 : decode cX6_coat 1 = .ok (.getfield 12, 3) := by decide +kernel
theorem dX6_coat_4 : decode cX6_coat 4 = .ok (.iload_n 1, 1) := by decide +kernel
theorem dX6_coat_5 : decode cX6_coat 5 = .ok (.invokevirtual 72, 3) := by decide +kernel
theorem dX6_coat_8 : decode cX6_coat 8 = .ok (.ifCond .ne 6, 3) := by decide +kernel
theorem dX6_coat_11 : decode cX6_coat 11 = .ok (.bipush (-101), 2) := by decide +kernel
theorem dX6_coat_13 : decode cX6_coat 13 = .ok (.ireturn, 1) := by decide +kernel
theorem dX6_coat_14 : decode cX6_coat 14 = .ok (.iload_n 2, 1) := by decide +kernel
theorem dX6_coat_15 : decode cX6_coat 15 = .ok (.iconst 0, 1) := by decide +kernel
theorem dX6_coat_16 : decode cX6_coat 16 = .ok (.bipush 99, 2) := by decide +kernel
theorem dX6_coat_18 : decode cX6_coat 18 = .ok (.invokestatic 68, 3) := by decide +kernel
theorem dX6_coat_21 : decode cX6_coat 21 = .ok (.ifCond .ne 6, 3) := by decide +kernel
theorem dX6_coat_24 : decode cX6_coat 24 = .ok (.bipush (-102), 2) := by decide +kernel
theorem dX6_coat_26 : decode cX6_coat 26 = .ok (.ireturn, 1) := by decide +kernel
theorem dX6_coat_27 : decode cX6_coat 27 = .ok (.aload_n 0, 1) := by decide +kernel
theorem dX6_coat_28 : decode cX6_coat 28 = .ok (.getfield 26, 3) := by decide +kernel
theorem dX6_coat_31 : decode cX6_coat 31 = .ok (.getfield 151, 3) := by decide +kernel
theorem dX6_coat_34 : decode cX6_coat 34 = .ok (.iload_n 1, 1) := by decide +kernel
theorem dX6_coat_35 : decode cX6_coat 35 = .ok (.iaload, 1) := by decide +kernel
theorem dX6_coat_36 : decode cX6_coat 36 = .ok (.bipush 8, 2) := by decide +kernel
theorem dX6_coat_38 : decode cX6_coat 38 = .ok (.if_icmp .lt 6, 3) := by decide +kernel
theorem dX6_coat_41 : decode cX6_coat 41 = .ok (.bipush (-104), 2) := by decide +kernel
theorem dX6_coat_43 : decode cX6_coat 43 = .ok (.ireturn, 1) := by decide +kernel
theorem dX6_coat_44 : decode cX6_coat 44 = .ok (.aload_n 0, 1) := by decide +kernel
theorem dX6_coat_45 : decode cX6_coat 45 = .ok (.getfield 26, 3) := by decide +kernel
theorem dX6_coat_48 : decode cX6_coat 48 = .ok (.iload_n 1, 1) := by decide +kernel
theorem dX6_coat_49 : decode cX6_coat 49 = .ok (.iload_n 2, 1) := by decide +kernel
theorem dX6_coat_50 : decode cX6_coat 50 = .ok (.invokevirtual 79, 3) := by decide +kernel
theorem dX6_coat_53 : decode cX6_coat 53 = .ok (.aload_n 0, 1) := by decide +kernel
theorem dX6_coat_54 : decode cX6_coat 54 = .ok (.getfield 26, 3) := by decide +kernel
theorem dX6_coat_57 : decode cX6_coat 57 = .ok (.getfield 151, 3) := by decide +kernel
theorem dX6_coat_60 : decode cX6_coat 60 = .ok (.iload_n 1, 1) := by decide +kernel
theorem dX6_coat_61 : decode cX6_coat 61 = .ok (.iaload, 1) := by decide +kernel
theorem dX6_coat_62 : decode cX6_coat 62 = .ok (.ireturn, 1) := by decide +kernel
theorem dX6_sample_0 : decode cX6_sample 0 = .ok (.aload_n 0, 1) := by decide +kernel
theorem dX6_sample_1 : decode cX6_sample 1 = .ok (.getfield 12, 3) := by decide +kernel
theorem dX6_sample_4 : decode cX6_sample 4 = .ok (.iload_n 1, 1) := by decide +kernel
theorem dX6_sample_5 : decode cX6_sample 5 = .ok (.invokevirtual 72, 3) := by decide +kernel
theorem dX6_sample_8 : decode cX6_sample 8 = .ok (.ifCond .eq 15, 3) := by decide +kernel
theorem dX6_sample_11 : decode cX6_sample 11 = .ok (.aload_n 0, 1) := by decide +kernel
theorem dX6_sample_12 : decode cX6_sample 12 = .ok (.getfield 26, 3) := by decide +kernel
theorem dX6_sample_15 : decode cX6_sample 15 = .ok (.iload_n 1, 1) := by decide +kernel
theorem dX6_sample_16 : decode cX6_sample 16 = .ok (.iload_n 2, 1) := by decide +kernel
theorem dX6_sample_17 : decode cX6_sample 17 = .ok (.invokevirtual 154, 3) := by decide +kernel
theorem dX6_sample_20 : decode cX6_sample 20 = .ok (.goto 5, 3) := by decide +kernel
theorem dX6_sample_23 : decode cX6_sample 23 = .ok (.bipush (-101), 2) := by decide +kernel
theorem dX6_sample_25 : decode cX6_sample 25 = .ok (.ireturn, 1) := by decide +kernel
theorem dX6_strip_0 : decode cX6_strip 0 = .ok (.aload_n 0, 1) := by decide +kernel
theorem dX6_strip_1 : decode cX6_strip 1 = .ok (.getfield 12, 3) := by decide +kernel
theorem dX6_strip_4 : decode cX6_strip 4 = .ok (.iload_n 1, 1) := by decide +kernel
theorem dX6_strip_5 : decode cX6_strip 5 = .ok (.invokevirtual 72, 3) := by decide +kernel
theorem dX6_strip_8 : decode cX6_strip 8 = .ok (.ifCond .ne 6, 3) := by decide +kernel
theorem dX6_strip_11 : decode cX6_strip 11 = .ok (.bipush (-101), 2) := by decide +kernel
theorem dX6_strip_13 : decode cX6_strip 13 = .ok (.ireturn, 1) := by decide +kernel
theorem dX6_strip_14 : decode cX6_strip 14 = .ok (.aload_n 0, 1) := by decide +kernel
theorem dX6_strip_15 : decode cX6_strip 15 = .ok (.getfield 26, 3) := by decide +kernel
theorem dX6_strip_18 : decode cX6_strip 18 = .ok (.iload_n 1, 1) := by decide +kernel
theorem dX6_strip_19 : decode cX6_strip 19 = .ok (.iload_n 2, 1) := by decide +kernel
theorem dX6_strip_20 : decode cX6_strip 20 = .ok (.invokevirtual 158, 3) := by decide +kernel
theorem dX6_strip_23 : decode cX6_strip 23 = .ok (.istore_n 3, 1) := by decide +kernel
theorem dX6_strip_24 : decode cX6_strip 24 = .ok (.iload_n 3, 1) := by decide +kernel
theorem dX6_strip_25 : decode cX6_strip 25 = .ok (.iconst (-1), 1) := by decide +kernel
theorem dX6_strip_26 : decode cX6_strip 26 = .ok (.if_icmp .ne 6, 3) := by decide +kernel
theorem dX6_strip_29 : decode cX6_strip 29 = .ok (.bipush (-102), 2) := by decide +kernel
theorem dX6_strip_31 : decode cX6_strip 31 = .ok (.ireturn, 1) := by decide +kernel
theorem dX6_strip_32 : decode cX6_strip 32 = .ok (.aload_n 0, 1) := by decide +kernel
theorem dX6_strip_33 : decode cX6_strip 33 = .ok (.getfield 26, 3) := by decide +kernel
theorem dX6_strip_36 : decode cX6_strip 36 = .ok (.iload_n 1, 1) := by decide +kernel
theorem dX6_strip_37 : decode cX6_strip 37 = .ok (.iload_n 3, 1) := by decide +kernel
theorem dX6_strip_38 : decode cX6_strip 38 = .ok (.invokevirtual 161, 3) := by decide +kernel
theorem dX6_strip_41 : decode cX6_strip 41 = .ok (.iload_n 3, 1) := by decide +kernel
theorem dX6_strip_42 : decode cX6_strip 42 = .ok (.ireturn, 1) := by decide +kernel
theorem dX6_swap_0 : decode cX6_swap 0 = .ok (.aload_n 0, 1) := by decide +kernel
theorem dX6_swap_1 : decode cX6_swap 1 = .ok (.iload_n 1, 1) := by decide +kernel
theorem dX6_swap_2 : decode cX6_swap 2 = .ok (.iload_n 2, 1) := by decide +kernel
theorem dX6_swap_3 : decode cX6_swap 3 = .ok (.invokevirtual 164, 3) := by decide +kernel
theorem dX6_swap_6 : decode cX6_swap 6 = .ok (.ifCond .eq 13, 3) := by decide +kernel
theorem dX6_swap_9 : decode cX6_swap 9 = .ok (.aload_n 0, 1) := by decide +kernel
theorem dX6_swap_10 : decode cX6_swap 10 = .ok (.iload_n 3, 1) := by decide +kernel
theorem dX6_swap_11 : decode cX6_swap 11 = .ok (.iload 4, 2) := by decide +kernel
theorem dX6_swap_13 : decode cX6_swap 13 = .ok (.invokevirtual 164, 3) := by decide +kernel
theorem dX6_swap_16 : decode cX6_swap 16 = .ok (.ifCond .ne 6, 3) := by decide +kernel
theorem dX6_swap_19 : decode cX6_swap 19 = .ok (.bipush (-101), 2) := by decide +kernel
theorem dX6_swap_21 : decode cX6_swap 21 = .ok (.ireturn, 1) := by decide +kernel
theorem dX6_swap_22 : decode cX6_swap 22 = .ok (.iload_n 1, 1) := by decide +kernel
theorem dX6_swap_23 : decode cX6_swap 23 = .ok (.iload_n 3, 1) := by decide +kernel
theorem dX6_swap_24 : decode cX6_swap 24 = .ok (.if_icmp .ne 12, 3) := by decide +kernel
theorem dX6_swap_27 : decode cX6_swap 27 = .ok (.iload_n 2, 1) := by decide +kernel
theorem dX6_swap_28 : decode cX6_swap 28 = .ok (.iload 4, 2) := by decide +kernel
theorem dX6_swap_30 : decode cX6_swap 30 = .ok (.if_icmp .ne 6, 3) := by decide +kernel
theorem dX6_swap_33 : decode cX6_swap 33 = .ok (.bipush (-102), 2) := by decide +kernel
theorem dX6_swap_35 : decode cX6_swap 35 = .ok (.ireturn, 1) := by decide +kernel
theorem dX6_swap_36 : decode cX6_swap 36 = .ok (.aload_n 0, 1) := by decide +kernel
theorem dX6_swap_37 : decode cX6_swap 37 = .ok (.getfield 33, 3) := by decide +kernel
theorem dX6_swap_40 : decode cX6_swap 40 = .ok (.iload_n 1, 1) := by decide +kernel
theorem dX6_swap_41 : decode cX6_swap 41 = .ok (.iload_n 2, 1) := by decide +kernel
theorem dX6_swap_42 : decode cX6_swap 42 = .ok (.invokestatic 167, 3) := by decide +kernel
theorem dX6_swap_45 : decode cX6_swap 45 = .ok (.iload_n 3, 1) := by decide +kernel
theorem dX6_swap_46 : decode cX6_swap 46 = .ok (.iload 4, 2) := by decide +kernel
theorem dX6_swap_48 : decode cX6_swap 48 = .ok (.invokestatic 167, 3) := by decide +kernel
theorem dX6_swap_51 : decode cX6_swap 51 = .ok (.invokevirtual 170, 3) := by decide +kernel
theorem dX6_swap_54 : decode cX6_swap 54 = .ok (.iconst 1, 1) := by decide +kernel
theorem dX6_swap_55 : decode cX6_swap 55 = .ok (.ireturn, 1) := by decide +kernel
theorem dX6_mark_0 : decode cX6_mark 0 = .ok (.aload_n 0, 1) := by decide +kernel
theorem dX6_mark_1 : decode cX6_mark 1 = .ok (.iload_n 1, 1) := by decide +kernel
theorem dX6_mark_2 : decode cX6_mark 2 = .ok (.iload_n 2, 1) := by decide +kernel
theorem dX6_mark_3 : decode cX6_mark 3 = .ok (.invokevirtual 164, 3) := by decide +kernel
theorem dX6_mark_6 : decode cX6_mark 6 = .ok (.ifCond .eq 19, 3) := by decide +kernel
theorem dX6_mark_9 : decode cX6_mark 9 = .ok (.aload_n 0, 1) := by decide +kernel
theorem dX6_mark_10 : decode cX6_mark 10 = .ok (.getfield 33, 3) := by decide +kernel
theorem dX6_mark_13 : decode cX6_mark 13 = .ok (.getfield 173, 3) := by decide +kernel
theorem dX6_mark_16 : decode cX6_mark 16 = .ok (.iload_n 1, 1) := by decide +kernel
theorem dX6_mark_17 : decode cX6_mark 17 = .ok (.iload_n 2, 1) := by decide +kernel
theorem dX6_mark_18 : decode cX6_mark 18 = .ok (.invokestatic 167, 3) := by decide +kernel
theorem dX6_mark_21 : decode cX6_mark 21 = .ok (.iaload, 1) := by decide +kernel
theorem dX6_mark_22 : decode cX6_mark 22 = .ok (.goto 5, 3) := by decide +kernel
theorem dX6_mark_25 : decode cX6_mark 25 = .ok (.bipush (-101), 2) := by decide +kernel
theorem dX6_mark_27 : decode cX6_mark 27 = .ok (.ireturn, 1) := by decide +kernel
theorem dX6_swaps_0 : decode cX6_swaps 0 = .ok (.aload_n 0, 1) := by decide +kernel
theorem dX6_swaps_1 : decode cX6_swaps 1 = .ok (.getfield 33, 3) := by decide +kernel
theorem dX6_swaps_4 : decode cX6_swaps 4 = .ok (.invokevirtual 176, 3) := by decide +kernel
theorem dX6_swaps_7 : decode cX6_swaps 7 = .ok (.ireturn, 1) := by decide +kernel
theorem dX6_find_0 : decode cX6_find 0 = .ok (.iload_n 1, 1) := by decide +kernel
theorem dX6_find_1 : decode cX6_find 1 = .ok (.invokestatic 64, 3) := by decide +kernel
theorem dX6_find_4 : decode cX6_find 4 = .ok (.ifCond .eq 10, 3) := by decide +kernel
theorem dX6_find_7 : decode cX6_find 7 = .ok (.iload_n 2, 1) := by decide +kernel
theorem dX6_find_8 : decode cX6_find 8 = .ok (.invokestatic 179, 3) := by decide +kernel
theorem dX6_find_11 : decode cX6_find 11 = .ok (.ifCond .ne 6, 3) := by decide +kernel
theorem dX6_find_14 : decode cX6_find 14 = .ok (.bipush (-101), 2) := by decide +kernel
theorem dX6_find_16 : decode cX6_find 16 = .ok (.ireturn, 1) := by decide +kernel
theorem dX6_find_17 : decode cX6_find 17 = .ok (.aload_n 0, 1) := by decide +kernel
theorem dX6_find_18 : decode cX6_find 18 = .ok (.getfield 12, 3) := by decide +kernel
theorem dX6_find_21 : decode cX6_find 21 = .ok (.iload_n 1, 1) := by decide +kernel
theorem dX6_find_22 : decode cX6_find 22 = .ok (.invokevirtual 72, 3) := by decide +kernel
theorem dX6_find_25 : decode cX6_find 25 = .ok (.ifCond .eq 18, 3) := by decide +kernel
theorem dX6_find_28 : decode cX6_find 28 = .ok (.aload_n 0, 1) := by decide +kernel
theorem dX6_find_29 : decode cX6_find 29 = .ok (.getfield 33, 3) := by decide +kernel
theorem dX6_find_32 : decode cX6_find 32 = .ok (.iload_n 1, 1) := by decide +kernel
theorem dX6_find_33 : decode cX6_find 33 = .ok (.iload_n 2, 1) := by decide +kernel
theorem dX6_find_34 : decode cX6_find 34 = .ok (.invokestatic 167, 3) := by decide +kernel
theorem dX6_find_37 : decode cX6_find 37 = .ok (.invokevirtual 182, 3) := by decide +kernel
theorem dX6_find_40 : decode cX6_find 40 = .ok (.goto 4, 3) := by decide +kernel
theorem dX6_find_43 : decode cX6_find 43 = .ok (.iconst (-1), 1) := by decide +kernel
theorem dX6_find_44 : decode cX6_find 44 = .ok (.ireturn, 1) := by decide +kernel
theorem dX6_fair_0 : decode cX6_fair 0 = .ok (.iload_n 1, 1) := by decide +kernel
theorem dX6_fair_1 : decode cX6_fair 1 = .ok (.iconst 0, 1) := by decide +kernel
theorem dX6_fair_2 : decode cX6_fair 2 = .ok (.sipush 400, 3) := by decide +kernel
theorem dX6_fair_5 : decode cX6_fair 5 = .ok (.invokestatic 68, 3) := by decide +kernel
theorem dX6_fair_8 : decode cX6_fair 8 = .ok (.ifCond .eq 25, 3) := by decide +kernel
theorem dX6_fair_11 : decode cX6_fair 11 = .ok (.iload_n 2, 1) := by decide +kernel
theorem dX6_fair_12 : decode cX6_fair 12 = .ok (.iload_n 1, 1) := by decide +kernel
theorem dX6_fair_13 : decode cX6_fair 13 = .ok (.sipush 400, 3) := by decide +kernel
theorem dX6_fair_16 : decode cX6_fair 16 = .ok (.invokestatic 68, 3) := by decide +kernel
theorem dX6_fair_19 : decode cX6_fair 19 = .ok (.ifCond .eq 14, 3) := by decide +kernel
theorem dX6_fair_22 : decode cX6_fair 22 = .ok (.iload_n 3, 1) := by decide +kernel
theorem dX6_fair_23 : decode cX6_fair 23 = .ok (.iconst 0, 1) := by decide +kernel
theorem dX6_fair_24 : decode cX6_fair 24 = .ok (.sipush 10000, 3) := by decide +kernel
theorem dX6_fair_27 : decode cX6_fair 27 = .ok (.invokestatic 68, 3) := by decide +kernel
theorem dX6_fair_30 : decode cX6_fair 30 = .ok (.ifCond .ne 6, 3) := by decide +kernel
theorem dX6_fair_33 : decode cX6_fair 33 = .ok (.bipush (-102), 2) := by decide +kernel
theorem dX6_fair_35 : decode cX6_fair 35 = .ok (.ireturn, 1) := by decide +kernel
theorem dX6_fair_36 : decode cX6_fair 36 = .ok (.aload_n 0, 1) := by decide +kernel
theorem dX6_fair_37 : decode cX6_fair 37 = .ok (.getfield 40, 3) := by decide +kernel
theorem dX6_fair_40 : decode cX6_fair 40 = .ok (.getfield 185, 3) := by decide +kernel
theorem dX6_fair_43 : decode cX6_fair 43 = .ok (.bipush 8, 2) := by decide +kernel
theorem dX6_fair_45 : decode cX6_fair 45 = .ok (.if_icmp .lt 6, 3) := by decide +kernel
theorem dX6_fair_48 : decode cX6_fair 48 = .ok (.bipush (-104), 2) := by decide +kernel
theorem dX6_fair_50 : decode cX6_fair 50 = .ok (.ireturn, 1) := by decide +kernel
theorem dX6_fair_51 : decode cX6_fair 51 = .ok (.aload_n 0, 1) := by decide +kernel
theorem dX6_fair_52 : decode cX6_fair 52 = .ok (.getfield 40, 3) := by decide +kernel
theorem dX6_fair_55 : decode cX6_fair 55 = .ok (.iload_n 1, 1) := by decide +kernel
theorem dX6_fair_56 : decode cX6_fair 56 = .ok (.iload_n 2, 1) := by decide +kernel
theorem dX6_fair_57 : decode cX6_fair 57 = .ok (.iload_n 3, 1) := by decide +kernel
theorem dX6_fair_58 : decode cX6_fair 58 = .ok (.invokevirtual 188, 3) := by decide +kernel
theorem dX6_fair_61 : decode cX6_fair 61 = .ok (.ireturn, 1) := by decide +kernel
theorem dX6_road_0 : decode cX6_road 0 = .ok (.aload_n 0, 1) := by decide +kernel
theorem dX6_road_1 : decode cX6_road 1 = .ok (.getfield 40, 3) := by decide +kernel
theorem dX6_road_4 : decode cX6_road 4 = .ok (.iload_n 1, 1) := by decide +kernel
theorem dX6_road_5 : decode cX6_road 5 = .ok (.invokevirtual 192, 3) := by decide +kernel
theorem dX6_road_8 : decode cX6_road 8 = .ok (.ifCond .eq 14, 3) := by decide +kernel
theorem dX6_road_11 : decode cX6_road 11 = .ok (.aload_n 0, 1) := by decide +kernel
theorem dX6_road_12 : decode cX6_road 12 = .ok (.getfield 40, 3) := by decide +kernel
theorem dX6_road_15 : decode cX6_road 15 = .ok (.iload_n 2, 1) := by decide +kernel
theorem dX6_road_16 : decode cX6_road 16 = .ok (.invokevirtual 192, 3) := by decide +kernel
theorem dX6_road_19 : decode cX6_road 19 = .ok (.ifCond .ne 6, 3) := by decide +kernel
theorem dX6_road_22 : decode cX6_road 22 = .ok (.bipush (-101), 2) := by decide +kernel
theorem dX6_road_24 : decode cX6_road 24 = .ok (.ireturn, 1) := by decide +kernel
theorem dX6_road_25 : decode cX6_road 25 = .ok (.iload_n 3, 1) := by decide +kernel
theorem dX6_road_26 : decode cX6_road 26 = .ok (.iconst 0, 1) := by decide +kernel
theorem dX6_road_27 : decode cX6_road 27 = .ok (.bipush 50, 2) := by decide +kernel
theorem dX6_road_29 : decode cX6_road 29 = .ok (.invokestatic 68, 3) := by decide +kernel
theorem dX6_road_32 : decode cX6_road 32 = .ok (.ifCond .eq 8, 3) := by decide +kernel
theorem dX6_road_35 : decode cX6_road 35 = .ok (.iload_n 1, 1) := by decide +kernel
theorem dX6_road_36 : decode cX6_road 36 = .ok (.iload_n 2, 1) := by decide +kernel
theorem dX6_road_37 : decode cX6_road 37 = .ok (.if_icmp .ne 6, 3) := by decide +kernel
theorem dX6_road_40 : decode cX6_road 40 = .ok (.bipush (-102), 2) := by decide +kernel
theorem dX6_road_42 : decode cX6_road 42 = .ok (.ireturn, 1) := by decide +kernel
theorem dX6_road_43 : decode cX6_road 43 = .ok (.aload_n 0, 1) := by decide +kernel
theorem dX6_road_44 : decode cX6_road 44 = .ok (.getfield 40, 3) := by decide +kernel
theorem dX6_road_47 : decode cX6_road 47 = .ok (.iload_n 1, 1) := by decide +kernel
