theorem dX6_road_48 : decode cX6_road 48 = .ok (.iload_n 2, 1) := by decide +kernel
theorem dX6_road_49 : decode cX6_road 49 = .ok (.invokevirtual 195, 3) := by decide +kernel
theorem dX6_road_52 : decode cX6_road 52 = .ok (.istore 4, 2) := by decide +kernel
theorem dX6_road_54 : decode cX6_road 54 = .ok (.aload_n 0, 1) := by decide +kernel
theorem dX6_road_55 : decode cX6_road 55 = .ok (.getfield 40, 3) := by decide +kernel
theorem dX6_road_58 : decode cX6_road 58 = .ok (.iload_n 1, 1) := by decide +kernel
theorem dX6_road_59 : decode cX6_road 59 = .ok (.iload_n 2, 1) := by decide +kernel
theorem dX6_road_60 : decode cX6_road 60 = .ok (.iload_n 3, 1) := by decide +kernel
theorem dX6_road_61 : decode cX6_road 61 = .ok (.invokevirtual 198, 3) := by decide +kernel
theorem dX6_road_64 : decode cX6_road 64 = .ok (.iload 4, 2) := by decide +kernel
theorem dX6_road_66 : decode cX6_road 66 = .ok (.ireturn, 1) := by decide +kernel
theorem dX6_earns_0 : decode cX6_earns 0 = .ok (.aload_n 0, 1) := by decide +kernel
theorem dX6_earns_1 : decode cX6_earns 1 = .ok (.getfield 40, 3) := by decide +kernel
theorem dX6_earns_4 : decode cX6_earns 4 = .ok (.invokevirtual 202, 3) := by decide +kernel
theorem dX6_earns_7 : decode cX6_earns 7 = .ok (.aload_n 0, 1) := by decide +kernel
theorem dX6_earns_8 : decode cX6_earns 8 = .ok (.getfield 40, 3) := by decide +kernel
theorem dX6_earns_11 : decode cX6_earns 11 = .ok (.aload_n 0, 1) := by decide +kernel
theorem dX6_earns_12 : decode cX6_earns 12 = .ok (.getfield 40, 3) := by decide +kernel
theorem dX6_earns_15 : decode cX6_earns 15 = .ok (.iconst (-1), 1) := by decide +kernel
theorem dX6_earns_16 : decode cX6_earns 16 = .ok (.invokevirtual 205, 3) := by decide +kernel
theorem dX6_earns_19 : decode cX6_earns 19 = .ok (.invokevirtual 208, 3) := by decide +kernel
theorem dX6_earns_22 : decode cX6_earns 22 = .ok (.ireturn, 1) := by decide +kernel
theorem dX6_round_0 : decode cX6_round 0 = .ok (.aload_n 0, 1) := by decide +kernel
theorem dX6_round_1 : decode cX6_round 1 = .ok (.getfield 40, 3) := by decide +kernel
theorem dX6_round_4 : decode cX6_round 4 = .ok (.iload_n 1, 1) := by decide +kernel
theorem dX6_round_5 : decode cX6_round 5 = .ok (.invokevirtual 192, 3) := by decide +kernel
theorem dX6_round_8 : decode cX6_round 8 = .ok (.ifCond .ne 5, 3) := by decide +kernel
theorem dX6_round_11 : decode cX6_round 11 = .ok (.iconst (-1), 1) := by decide +kernel
theorem dX6_round_12 : decode cX6_round 12 = .ok (.ireturn, 1) := by decide +kernel
theorem dX6_round_13 : decode cX6_round 13 = .ok (.aload_n 0, 1) := by decide +kernel
theorem dX6_round_14 : decode cX6_round 14 = .ok (.getfield 40, 3) := by decide +kernel
theorem dX6_round_17 : decode cX6_round 17 = .ok (.invokevirtual 202, 3) := by decide +kernel
theorem dX6_round_20 : decode cX6_round 20 = .ok (.aload_n 0, 1) := by decide +kernel
theorem dX6_round_21 : decode cX6_round 21 = .ok (.getfield 40, 3) := by decide +kernel
theorem dX6_round_24 : decode cX6_round 24 = .ok (.iload_n 1, 1) := by decide +kernel
theorem dX6_round_25 : decode cX6_round 25 = .ok (.invokevirtual 211, 3) := by decide +kernel
theorem dX6_round_28 : decode cX6_round 28 = .ok (.ireturn, 1) := by decide +kernel
theorem dX6_turn_0 : decode cX6_turn 0 = .ok (.aload_n 0, 1) := by decide +kernel
theorem dX6_turn_1 : decode cX6_turn 1 = .ok (.getfield 12, 3) := by decide +kernel
theorem dX6_turn_4 : decode cX6_turn 4 = .ok (.invokevirtual 119, 3) := by decide +kernel
theorem dX6_turn_7 : decode cX6_turn 7 = .ok (.ifCond .eq 17, 3) := by decide +kernel
theorem dX6_turn_10 : decode cX6_turn 10 = .ok (.aload_n 0, 1) := by decide +kernel
theorem dX6_turn_11 : decode cX6_turn 11 = .ok (.getfield 58, 3) := by decide +kernel
theorem dX6_turn_14 : decode cX6_turn 14 = .ok (.aload_n 0, 1) := by decide +kernel
theorem dX6_turn_15 : decode cX6_turn 15 = .ok (.getfield 55, 3) := by decide +kernel
theorem dX6_turn_18 : decode cX6_turn 18 = .ok (.bipush 10, 2) := by decide +kernel
theorem dX6_turn_20 : decode cX6_turn 20 = .ok (.imul, 1) := by decide +kernel
theorem dX6_turn_21 : decode cX6_turn 21 = .ok (.if_icmp .lt 6, 3) := by decide +kernel
theorem dX6_turn_24 : decode cX6_turn 24 = .ok (.bipush (-103), 2) := by decide +kernel
theorem dX6_turn_26 : decode cX6_turn 26 = .ok (.ireturn, 1) := by decide +kernel
theorem dX6_turn_27 : decode cX6_turn 27 = .ok (.aload_n 0, 1) := by decide +kernel
theorem dX6_turn_28 : decode cX6_turn 28 = .ok (.getfield 12, 3) := by decide +kernel
theorem dX6_turn_31 : decode cX6_turn 31 = .ok (.invokevirtual 214, 3) := by decide +kernel
theorem dX6_turn_34 : decode cX6_turn 34 = .ok (.istore_n 1, 1) := by decide +kernel
theorem dX6_turn_35 : decode cX6_turn 35 = .ok (.aload_n 0, 1) := by decide +kernel
theorem dX6_turn_36 : decode cX6_turn 36 = .ok (.getfield 12, 3) := by decide +kernel
theorem dX6_turn_39 : decode cX6_turn 39 = .ok (.invokevirtual 217, 3) := by decide +kernel
theorem dX6_turn_42 : decode cX6_turn 42 = .ok (.aload_n 0, 1) := by decide +kernel
theorem dX6_turn_43 : decode cX6_turn 43 = .ok (.dup, 1) := by decide +kernel
theorem dX6_turn_44 : decode cX6_turn 44 = .ok (.getfield 58, 3) := by decide +kernel
theorem dX6_turn_47 : decode cX6_turn 47 = .ok (.iconst 1, 1) := by decide +kernel
theorem dX6_turn_48 : decode cX6_turn 48 = .ok (.iadd, 1) := by decide +kernel
theorem dX6_turn_49 : decode cX6_turn 49 = .ok (.putfield 58, 3) := by decide +kernel
theorem dX6_turn_52 : decode cX6_turn 52 = .ok (.aload_n 0, 1) := by decide +kernel
theorem dX6_turn_53 : decode cX6_turn 53 = .ok (.dup, 1) := by decide +kernel
theorem dX6_turn_54 : decode cX6_turn 54 = .ok (.getfield 61, 3) := by decide +kernel
theorem dX6_turn_57 : decode cX6_turn 57 = .ok (.iload_n 1, 1) := by decide +kernel
theorem dX6_turn_58 : decode cX6_turn 58 = .ok (.iadd, 1) := by decide +kernel
theorem dX6_turn_59 : decode cX6_turn 59 = .ok (.putfield 61, 3) := by decide +kernel
theorem dX6_turn_62 : decode cX6_turn 62 = .ok (.iload_n 1, 1) := by decide +kernel
theorem dX6_turn_63 : decode cX6_turn 63 = .ok (.ireturn, 1) := by decide +kernel
theorem dX6_look_0 : decode cX6_look 0 = .ok (.aload_n 0, 1) := by decide +kernel
theorem dX6_look_1 : decode cX6_look 1 = .ok (.getfield 58, 3) := by decide +kernel
theorem dX6_look_4 : decode cX6_look 4 = .ok (.istore_n 1, 1) := by decide +kernel
theorem dX6_look_5 : decode cX6_look 5 = .ok (.aload_n 0, 1) := by decide +kernel
theorem dX6_look_6 : decode cX6_look 6 = .ok (.iconst 0, 1) := by decide +kernel
theorem dX6_look_7 : decode cX6_look 7 = .ok (.putfield 58, 3) := by decide +kernel
theorem dX6_look_10 : decode cX6_look 10 = .ok (.iload_n 1, 1) := by decide +kernel
theorem dX6_look_11 : decode cX6_look 11 = .ok (.ireturn, 1) := by decide +kernel
theorem dX6_hours_0 : decode cX6_hours 0 = .ok (.iload_n 1, 1) := by decide +kernel
theorem dX6_hours_1 : decode cX6_hours 1 = .ok (.iconst 1, 1) := by decide +kernel
theorem dX6_hours_2 : decode cX6_hours 2 = .ok (.sipush 1000, 3) := by decide +kernel
theorem dX6_hours_5 : decode cX6_hours 5 = .ok (.invokestatic 68, 3) := by decide +kernel
theorem dX6_hours_8 : decode cX6_hours 8 = .ok (.ifCond .ne 6, 3) := by decide +kernel
theorem dX6_hours_11 : decode cX6_hours 11 = .ok (.bipush (-102), 2) := by decide +kernel
theorem dX6_hours_13 : decode cX6_hours 13 = .ok (.ireturn, 1) := by decide +kernel
theorem dX6_hours_14 : decode cX6_hours 14 = .ok (.aload_n 0, 1) := by decide +kernel
theorem dX6_hours_15 : decode cX6_hours 15 = .ok (.getfield 55, 3) := by decide +kernel
theorem dX6_hours_18 : decode cX6_hours 18 = .ok (.istore_n 2, 1) := by decide +kernel
theorem dX6_hours_19 : decode cX6_hours 19 = .ok (.aload_n 0, 1) := by decide +kernel
theorem dX6_hours_20 : decode cX6_hours 20 = .ok (.iload_n 1, 1) := by decide +kernel
theorem dX6_hours_21 : decode cX6_hours 21 = .ok (.putfield 55, 3) := by decide +kernel
theorem dX6_hours_24 : decode cX6_hours 24 = .ok (.iload_n 2, 1) := by decide +kernel
theorem dX6_hours_25 : decode cX6_hours 25 = .ok (.ireturn, 1) := by decide +kernel
theorem dX6_come_0 : decode cX6_come 0 = .ok (.iload_n 1, 1) := by decide +kernel
theorem dX6_come_1 : decode cX6_come 1 = .ok (.invokestatic 100, 3) := by decide +kernel
theorem dX6_come_4 : decode cX6_come 4 = .ok (.ifCond .ne 6, 3) := by decide +kernel
theorem dX6_come_7 : decode cX6_come 7 = .ok (.bipush (-102), 2) := by decide +kernel
theorem dX6_come_9 : decode cX6_come 9 = .ok (.ireturn, 1) := by decide +kernel
theorem dX6_come_10 : decode cX6_come 10 = .ok (.aload_n 0, 1) := by decide +kernel
theorem dX6_come_11 : decode cX6_come 11 = .ok (.getfield 47, 3) := by decide +kernel
theorem dX6_come_14 : decode cX6_come 14 = .ok (.getfield 220, 3) := by decide +kernel
theorem dX6_come_17 : decode cX6_come 17 = .ok (.bipush 100, 2) := by decide +kernel
theorem dX6_come_19 : decode cX6_come 19 = .ok (.if_icmp .lt 6, 3) := by decide +kernel
theorem dX6_come_22 : decode cX6_come 22 = .ok (.bipush (-104), 2) := by decide +kernel
theorem dX6_come_24 : decode cX6_come 24 = .ok (.ireturn, 1) := by decide +kernel
theorem dX6_come_25 : decode cX6_come 25 = .ok (.aload_n 0, 1) := by decide +kernel
theorem dX6_come_26 : decode cX6_come 26 = .ok (.getfield 47, 3) := by decide +kernel
theorem dX6_come_29 : decode cX6_come 29 = .ok (.iload_n 1, 1) := by decide +kernel
theorem dX6_come_30 : decode cX6_come 30 = .ok (.invokevirtual 223, 3) := by decide +kernel
theorem dX6_come_33 : decode cX6_come 33 = .ok (.aload_n 0, 1) := by decide +kernel
theorem dX6_come_34 : decode cX6_come 34 = .ok (.getfield 47, 3) := by decide +kernel
theorem dX6_come_37 : decode cX6_come 37 = .ok (.getfield 220, 3) := by decide +kernel
theorem dX6_come_40 : decode cX6_come 40 = .ok (.ireturn, 1) := by decide +kernel
theorem dX6_next_0 : decode cX6_next 0 = .ok (.aload_n 0, 1) := by decide +kernel
theorem dX6_next_1 : decode cX6_next 1 = .ok (.getfield 47, 3) := by decide +kernel
theorem dX6_next_4 : decode cX6_next 4 = .ok (.getfield 220, 3) := by decide +kernel
theorem dX6_next_7 : decode cX6_next 7 = .ok (.ifCond .ne 5, 3) := by decide +kernel
theorem dX6_next_10 : decode cX6_next 10 = .ok (.iconst (-1), 1) := by decide +kernel
theorem dX6_next_11 : decode cX6_next 11 = .ok (.ireturn, 1) := by decide +kernel
theorem dX6_next_12 : decode cX6_next 12 = .ok (.aload_n 0, 1) := by decide +kernel
theorem dX6_next_13 : decode cX6_next 13 = .ok (.getfield 12, 3) := by decide +kernel
theorem dX6_next_16 : decode cX6_next 16 = .ok (.aload_n 0, 1) := by decide +kernel
theorem dX6_next_17 : decode cX6_next 17 = .ok (.getfield 47, 3) := by decide +kernel
theorem dX6_next_20 : decode cX6_next 20 = .ok (.getfield 226, 3) := by decide +kernel
theorem dX6_next_23 : decode cX6_next 23 = .ok (.iconst 0, 1) := by decide +kernel
theorem dX6_next_24 : decode cX6_next 24 = .ok (.iaload, 1) := by decide +kernel
theorem dX6_next_25 : decode cX6_next 25 = .ok (.invokevirtual 129, 3) := by decide +kernel
theorem dX6_next_28 : decode cX6_next 28 = .ok (.istore_n 1, 1) := by decide +kernel
theorem dX6_next_29 : decode cX6_next 29 = .ok (.iload_n 1, 1) := by decide +kernel
theorem dX6_next_30 : decode cX6_next 30 = .ok (.iconst (-1), 1) := by decide +kernel
theorem dX6_next_31 : decode cX6_next 31 = .ok (.if_icmp .eq 27, 3) := by decide +kernel
theorem dX6_next_34 : decode cX6_next 34 = .ok (.aload_n 0, 1) := by decide +kernel
theorem dX6_next_35 : decode cX6_next 35 = .ok (.getfield 12, 3) := by decide +kernel
theorem dX6_next_38 : decode cX6_next 38 = .ok (.iload_n 1, 1) := by decide +kernel
theorem dX6_next_39 : decode cX6_next 39 = .ok (.aload_n 0, 1) := by decide +kernel
theorem dX6_next_40 : decode cX6_next 40 = .ok (.getfield 47, 3) := by decide +kernel
theorem dX6_next_43 : decode cX6_next 43 = .ok (.getfield 226, 3) := by decide +kernel
theorem dX6_next_46 : decode cX6_next 46 = .ok (.iconst 0, 1) := by decide +kernel
theorem dX6_next_47 : decode cX6_next 47 = .ok (.iaload, 1) := by decide +kernel
theorem dX6_next_48 : decode cX6_next 48 = .ok (.invokevirtual 107, 3) := by decide +kernel
theorem dX6_next_51 : decode cX6_next 51 = .ok (.aload_n 0, 1) := by decide +kernel
theorem dX6_next_52 : decode cX6_next 52 = .ok (.getfield 47, 3) := by decide +kernel
theorem dX6_next_55 : decode cX6_next 55 = .ok (.invokevirtual 229, 3) := by decide +kernel
theorem dX6_next_58 : decode cX6_next 58 = .ok (.iload_n 1, 1) := by decide +kernel
theorem dX6_next_59 : decode cX6_next 59 = .ok (.ireturn, 1) := by decide +kernel
theorem dX6_book_0 : decode cX6_book 0 = .ok (.iload_n 1, 1) := by decide +kernel
theorem dX6_book_1 : decode cX6_book 1 = .ok (.iconst 0, 1) := by decide +kernel
theorem dX6_book_2 : decode cX6_book 2 = .ok (.ldc 232, 2) := by decide +kernel
theorem dX6_book_4 : decode cX6_book 4 = .ok (.invokestatic 68, 3) := by decide +kernel
theorem dX6_book_7 : decode cX6_book 7 = .ok (.ifCond .ne 6, 3) := by decide +kernel
theorem dX6_book_10 : decode cX6_book 10 = .ok (.bipush (-102), 2) := by decide +kernel
theorem dX6_book_12 : decode cX6_book 12 = .ok (.ireturn, 1) := by decide +kernel
theorem dX6_book_13 : decode cX6_book 13 = .ok (.aload_n 0, 1) := by decide +kernel
theorem dX6_book_14 : decode cX6_book 14 = .ok (.getfield 61, 3) := by decide +kernel
theorem dX6_book_17 : decode cX6_book 17 = .ok (.istore_n 2, 1) := by decide +kernel
theorem dX6_book_18 : decode cX6_book 18 = .ok (.aload_n 0, 1) := by decide +kernel
theorem dX6_book_19 : decode cX6_book 19 = .ok (.iconst 0, 1) := by decide +kernel
theorem dX6_book_20 : decode cX6_book 20 = .ok (.putfield 61, 3) := by decide +kernel
theorem dX6_book_23 : decode cX6_book 23 = .ok (.iload_n 2, 1) := by decide +kernel
theorem dX6_book_24 : decode cX6_book 24 = .ok (.iload_n 1, 1) := by decide +kernel
theorem dX6_book_25 : decode cX6_book 25 = .ok (.isub, 1) := by decide +kernel
theorem dX6_book_26 : decode cX6_book 26 = .ok (.ireturn, 1) := by decide +kernel
theorem dX6_count_0 : decode cX6_count 0 = .ok (.iload_n 1, 1) := by decide +kernel
theorem dX6_count_1 : decode cX6_count 1 = .ok (.tableswitch 102 0 7 #[47, 55, 63, 71, 79, 84, 89, 97], 47) := by decide +kernel
theorem dX6_count_48 : decode cX6_count 48 = .ok (.aload_n 0, 1) := by decide +kernel
theorem dX6_count_49 : decode cX6_count 49 = .ok (.getfield 12, 3) := by decide +kernel
theorem dX6_count_52 : decode cX6_count 52 = .ok (.invokevirtual 82, 3) := by decide +kernel
theorem dX6_count_55 : decode cX6_count 55 = .ok (.ireturn, 1) := by decide +kernel
theorem dX6_count_56 : decode cX6_count 56 = .ok (.aload_n 0, 1) := by decide +kernel
theorem dX6_count_57 : decode cX6_count 57 = .ok (.getfield 12, 3) := by decide +kernel
theorem dX6_count_60 : decode cX6_count 60 = .ok (.invokevirtual 214, 3) := by decide +kernel
theorem dX6_count_63 : decode cX6_count 63 = .ok (.ireturn, 1) := by decide +kernel
theorem dX6_count_64 : decode cX6_count 64 = .ok (.aload_n 0, 1) := by decide +kernel
theorem dX6_count_65 : decode cX6_count 65 = .ok (.getfield 47, 3) := by decide +kernel
theorem dX6_count_68 : decode cX6_count 68 = .ok (.getfield 220, 3) := by decide +kernel
theorem dX6_count_71 : decode cX6_count 71 = .ok (.ireturn, 1) := by decide +kernel
theorem dX6_count_72 : decode cX6_count 72 = .ok (.aload_n 0, 1) := by decide +kernel
theorem dX6_count_73 : decode cX6_count 73 = .ok (.getfield 40, 3) := by decide +kernel
theorem dX6_count_76 : decode cX6_count 76 = .ok (.getfield 185, 3) := by decide +kernel
theorem dX6_count_79 : decode cX6_count 79 = .ok (.ireturn, 1) := by decide +kernel
theorem dX6_count_80 : decode cX6_count 80 = .ok (.aload_n 0, 1) := by decide +kernel
theorem dX6_count_81 : decode cX6_count 81 = .ok (.getfield 58, 3) := by decide +kernel
theorem dX6_count_84 : decode cX6_count 84 = .ok (.ireturn, 1) := by decide +kernel
theorem dX6_count_85 : decode cX6_count 85 = .ok (.aload_n 0, 1) := by decide +kernel
theorem dX6_count_86 : decode cX6_count 86 = .ok (.getfield 61, 3) := by decide +kernel
theorem dX6_count_89 : decode cX6_count 89 = .ok (.ireturn, 1) := by decide +kernel
theorem dX6_count_90 : decode cX6_count 90 = .ok (.aload_n 0, 1) := by decide +kernel
theorem dX6_count_91 : decode cX6_count 91 = .ok (.getfield 12, 3) := by decide +kernel
theorem dX6_count_94 : decode cX6_count 94 = .ok (.getfield 233, 3) := by decide +kernel
theorem dX6_count_97 : decode cX6_count 97 = .ok (.ireturn, 1) := by decide +kernel
theorem dX6_count_98 : decode cX6_count 98 = .ok (.aload_n 0, 1) := by decide +kernel
theorem dX6_count_99 : decode cX6_count 99 = .ok (.getfield 51, 3) := by decide +kernel
theorem dX6_count_102 : decode cX6_count 102 = .ok (.ireturn, 1) := by decide +kernel
theorem dX6_count_103 : decode cX6_count 103 = .ok (.bipush (-102), 2) := by decide +kernel
theorem dX6_count_105 : decode cX6_count 105 = .ok (.ireturn, 1) := by decide +kernel
theorem dX6_digest_0 : decode cX6_digest 0 = .ok (.ldc2_w 236, 3) := by decide +kernel
theorem dX6_digest_3 : decode cX6_digest 3 = .ok (.lstore_n 1, 1) := by decide +kernel
theorem dX6_digest_4 : decode cX6_digest 4 = .ok (.iconst 0, 1) := by decide +kernel
theorem dX6_digest_5 : decode cX6_digest 5 = .ok (.istore_n 3, 1) := by decide +kernel
theorem dX6_digest_6 : decode cX6_digest 6 = .ok (.iload_n 3, 1) := by decide +kernel
theorem dX6_digest_7 : decode cX6_digest 7 = .ok (.bipush 12, 2) := by decide +kernel
theorem dX6_digest_9 : decode cX6_digest 9 = .ok (.if_icmp .ge 16, 3) := by decide +kernel
theorem dX6_digest_12 : decode cX6_digest 12 = .ok (.aload_n 0, 1) := by decide +kernel
theorem dX6_digest_13 : decode cX6_digest 13 = .ok (.lload_n 1, 1) := by decide +kernel
theorem dX6_digest_14 : decode cX6_digest 14 = .ok (.iload_n 3, 1) := by decide +kernel
theorem dX6_digest_15 : decode cX6_digest 15 = .ok (.invokevirtual 238, 3) := by decide +kernel
theorem dX6_digest_18 : decode cX6_digest 18 = .ok (.lstore_n 1, 1) := by decide +kernel
theorem dX6_digest_19 : decode cX6_digest 19 = .ok (.iinc 3 1, 3) := by decide +kernel
theorem dX6_digest_22 : decode cX6_digest 22 = .ok (.goto (-16), 3) := by decide +kernel
theorem dX6_digest_25 : decode cX6_digest 25 = .ok (.lload_n 1, 1) := by decide +kernel
theorem dX6_digest_26 : decode cX6_digest 26 = .ok (.aload_n 0, 1) := by decide +kernel
theorem dX6_digest_27 : decode cX6_digest 27 = .ok (.getfield 12, 3) := by decide +kernel
theorem dX6_digest_30 : decode cX6_digest 30 = .ok (.getfield 242, 3) := by decide +kernel
theorem dX6_digest_33 : decode cX6_digest 33 = .ok (.invokestatic 245, 3) := by decide +kernel
theorem dX6_digest_36 : decode cX6_digest 36 = .ok (.lstore_n 1, 1) := by decide +kernel
theorem dX6_digest_37 : decode cX6_digest 37 = .ok (.lload_n 1, 1) := by decide +kernel
theorem dX6_digest_38 : decode cX6_digest 38 = .ok (.aload_n 0, 1) := by decide +kernel
theorem dX6_digest_39 : decode cX6_digest 39 = .ok (.getfield 12, 3) := by decide +kernel
theorem dX6_digest_42 : decode cX6_digest 42 = .ok (.getfield 248, 3) := by decide +kernel
theorem dX6_digest_45 : decode cX6_digest 45 = .ok (.invokestatic 245, 3) := by decide +kernel
theorem dX6_digest_48 : decode cX6_digest 48 = .ok (.lstore_n 1, 1) := by decide +kernel
theorem dX6_digest_49 : decode cX6_digest 49 = .ok (.aload_n 0, 1) := by decide +kernel
theorem dX6_digest_50 : decode cX6_digest 50 = .ok (.getfield 40, 3) := by decide +kernel
theorem dX6_digest_53 : decode cX6_digest 53 = .ok (.lload_n 1, 1) := by decide +kernel
theorem dX6_digest_54 : decode cX6_digest 54 = .ok (.invokevirtual 251, 3) := by decide +kernel
theorem dX6_digest_57 : decode cX6_digest 57 = .ok (.lstore_n 1, 1) := by decide +kernel
theorem dX6_digest_58 : decode cX6_digest 58 = .ok (.lload_n 1, 1) := by decide +kernel
theorem dX6_digest_59 : decode cX6_digest 59 = .ok (.aload_n 0, 1) := by decide +kernel
theorem dX6_digest_60 : decode cX6_digest 60 = .ok (.getfield 55, 3) := by decide +kernel
theorem dX6_digest_63 : decode cX6_digest 63 = .ok (.invokestatic 245, 3) := by decide +kernel
theorem dX6_digest_66 : decode cX6_digest 66 = .ok (.lstore_n 1, 1) := by decide +kernel
theorem dX6_digest_67 : decode cX6_digest 67 = .ok (.lload_n 1, 1) := by decide +kernel
theorem dX6_digest_68 : decode cX6_digest 68 = .ok (.aload_n 0, 1) := by decide +kernel
theorem dX6_digest_69 : decode cX6_digest 69 = .ok (.getfield 58, 3) := by decide +kernel
theorem dX6_digest_72 : decode cX6_digest 72 = .ok (.invokestatic 245, 3) := by decide +kernel
theorem dX6_digest_75 : decode cX6_digest 75 = .ok (.lstore_n 1, 1) := by decide +kernel
theorem dX6_digest_76 : decode cX6_digest 76 = .ok (.lload_n 1, 1) := by decide +kernel
theorem dX6_digest_77 : decode cX6_digest 77 = .ok (.aload_n 0, 1) := by decide +kernel
theorem dX6_digest_78 : decode cX6_digest 78 = .ok (.getfield 61, 3) := by decide +kernel
theorem dX6_digest_81 : decode cX6_digest 81 = .ok (.invokestatic 245, 3) := by decide +kernel
theorem dX6_digest_84 : decode cX6_digest 84 = .ok (.lstore_n 1, 1) := by decide +kernel
theorem dX6_digest_85 : decode cX6_digest 85 = .ok (.lload_n 1, 1) := by decide +kernel
theorem dX6_digest_86 : decode cX6_digest 86 = .ok (.aload_n 0, 1) := by decide +kernel
theorem dX6_digest_87 : decode cX6_digest 87 = .ok (.getfield 51, 3) := by decide +kernel
theorem dX6_digest_90 : decode cX6_digest 90 = .ok (.invokestatic 245, 3) := by decide +kernel
theorem dX6_digest_93 : decode cX6_digest 93 = .ok (.lstore_n 1, 1) := by decide +kernel
theorem dX6_digest_94 : decode cX6_digest 94 = .ok (.aload_n 0, 1) := by decide +kernel
theorem dX6_digest_95 : decode cX6_digest 95 = .ok (.getfield 47, 3) := by decide +kernel
theorem dX6_digest_98 : decode cX6_digest 98 = .ok (.lload_n 1, 1) := by decide +kernel
theorem dX6_digest_99 : decode cX6_digest 99 = .ok (.invokevirtual 255, 3) := by decide +kernel
theorem dX6_digest_102 : decode cX6_digest 102 = .ok (.lreturn, 1) := by decide +kernel
theorem dX6_lawOfShaking_0 : decode cX6_lawOfShaking 0 = .ok (.iload_n 1, 1) := by decide +kernel
theorem dX6_lawOfShaking_1 : decode cX6_lawOfShaking 1 = .ok (.iconst 0, 1) := by decide +kernel
theorem dX6_lawOfShaking_2 : decode cX6_lawOfShaking 2 = .ok (.sipush 30000, 3) := by decide +kernel
theorem dX6_lawOfShaking_5 : decode cX6_lawOfShaking 5 = .ok (.invokestatic 68, 3) := by decide +kernel
theorem dX6_lawOfShaking_8 : decode cX6_lawOfShaking 8 = .ok (.ifCond .ne 6, 3) := by decide +kernel
theorem dX6_lawOfShaking_11 : decode cX6_lawOfShaking 11 = .ok (.bipush (-102), 2) := by decide +kernel
theorem dX6_lawOfShaking_13 : decode cX6_lawOfShaking 13 = .ok (.ireturn, 1) := by decide +kernel
theorem dX6_lawOfShaking_14 : decode cX6_lawOfShaking 14 = .ok (.aload_n 0, 1) := by decide +kernel
theorem dX6_lawOfShaking_15 : decode cX6_lawOfShaking 15 = .ok (.getfield 12, 3) := by decide +kernel
theorem dX6_lawOfShaking_18 : decode cX6_lawOfShaking 18 = .ok (.getfield 242, 3) := by decide +kernel
theorem dX6_lawOfShaking_21 : decode cX6_lawOfShaking 21 = .ok (.istore_n 2, 1) := by decide +kernel
theorem dX6_lawOfShaking_22 : decode cX6_lawOfShaking 22 = .ok (.aload_n 0, 1) := by decide +kernel
theorem dX6_lawOfShaking_23 : decode cX6_lawOfShaking 23 = .ok (.getfield 12, 3) := by decide +kernel
theorem dX6_lawOfShaking_26 : decode cX6_lawOfShaking 26 = .ok (.iload_n 1, 1) := by decide +kernel
theorem dX6_lawOfShaking_27 : decode cX6_lawOfShaking 27 = .ok (.putfield 242, 3) := by decide +kernel
theorem dX6_lawOfShaking_30 : decode cX6_lawOfShaking 30 = .ok (.iload_n 2, 1) := by decide +kernel
theorem dX6_lawOfShaking_31 : decode cX6_lawOfShaking 31 = .ok (.ireturn, 1) := by decide +kernel
theorem dX6_lawOfLift_0 : decode cX6_lawOfLift 0 = .ok (.iload_n 1, 1) := by decide +kernel
theorem dX6_lawOfLift_1 : decode cX6_lawOfLift 1 = .ok (.iconst 0, 1) := by decide +kernel
theorem dX6_lawOfLift_2 : decode cX6_lawOfLift 2 = .ok (.sipush 5000, 3) := by decide +kernel
theorem dX6_lawOfLift_5 : decode cX6_lawOfLift 5 = .ok (.invokestatic 68, 3) := by decide +kernel
theorem dX6_lawOfLift_8 : decode cX6_lawOfLift 8 = .ok (.ifCond .ne 6, 3) := by decide +kernel
theorem dX6_lawOfLift_11 : decode cX6_lawOfLift 11 = .ok (.bipush (-102), 2) := by decide +kernel
theorem dX6_lawOfLift_13 : decode cX6_lawOfLift 13 = .ok (.ireturn, 1) := by decide +kernel
theorem dX6_lawOfLift_14 : decode cX6_lawOfLift 14 = .ok (.aload_n 0, 1) := by decide +kernel
theorem dX6_lawOfLift_15 : decode cX6_lawOfLift 15 = .ok (.getfield 12, 3) := by decide +kernel
theorem dX6_lawOfLift_18 : decode cX6_lawOfLift 18 = .ok (.getfield 248, 3) := by decide +kernel
theorem dX6_lawOfLift_21 : decode cX6_lawOfLift 21 = .ok (.istore_n 2, 1) := by decide +kernel
theorem dX6_lawOfLift_22 : decode cX6_lawOfLift 22 = .ok (.aload_n 0, 1) := by decide +kernel
theorem dX6_lawOfLift_23 : decode cX6_lawOfLift 23 = .ok (.getfield 12, 3) := by decide +kernel
theorem dX6_lawOfLift_26 : decode cX6_lawOfLift 26 = .ok (.iload_n 1, 1) := by decide +kernel
theorem dX6_lawOfLift_27 : decode cX6_lawOfLift 27 = .ok (.putfield 248, 3) := by decide +kernel
theorem dX6_lawOfLift_30 : decode cX6_lawOfLift 30 = .ok (.iload_n 2, 1) := by decide +kernel
theorem dX6_lawOfLift_31 : decode cX6_lawOfLift 31 = .ok (.ireturn, 1) := by decide +kernel
theorem dX6_isLegOfHorse_0 : decode cX6_isLegOfHorse 0 = .ok (.aload_n 0, 1) := by decide +kernel
theorem dX6_isLegOfHorse_1 : decode cX6_isLegOfHorse 1 = .ok (.getfield 12, 3) := by decide +kernel
theorem dX6_isLegOfHorse_4 : decode cX6_isLegOfHorse 4 = .ok (.iload_n 1, 1) := by decide +kernel
theorem dX6_isLegOfHorse_5 : decode cX6_isLegOfHorse 5 = .ok (.invokevirtual 72, 3) := by decide +kernel
theorem dX6_isLegOfHorse_8 : decode cX6_isLegOfHorse 8 = .ok (.ifCond .eq 14, 3) := by decide +kernel
theorem dX6_isLegOfHorse_11 : decode cX6_isLegOfHorse 11 = .ok (.iload_n 2, 1) := by decide +kernel
theorem dX6_isLegOfHorse_12 : decode cX6_isLegOfHorse 12 = .ok (.invokestatic 179, 3) := by decide +kernel
theorem dX6_isLegOfHorse_15 : decode cX6_isLegOfHorse 15 = .ok (.ifCond .eq 7, 3) := by decide +kernel
theorem dX6_isLegOfHorse_18 : decode cX6_isLegOfHorse 18 = .ok (.iconst 1, 1) := by decide +kernel
theorem dX6_isLegOfHorse_19 : decode cX6_isLegOfHorse 19 = .ok (.goto 4, 3) := by decide +kernel
theorem dX6_isLegOfHorse_22 : decode cX6_isLegOfHorse 22 = .ok (.iconst 0, 1) := by decide +kernel
theorem dX6_isLegOfHorse_23 : decode cX6_isLegOfHorse 23 = .ok (.ireturn, 1) := by decide +kernel
theorem dX6_mixPlace_0 : decode cX6_mixPlace 0 = .ok (.aload_n 0, 1) := by decide +kernel
theorem dX6_mixPlace_1 : decode cX6_mixPlace 1 = .ok (.getfield 12, 3) := by decide +kernel
theorem dX6_mixPlace_4 : decode cX6_mixPlace 4 = .ok (.iload_n 3, 1) := by decide +kernel
theorem dX6_mixPlace_5 : decode cX6_mixPlace 5 = .ok (.invokevirtual 72, 3) := by decide +kernel
theorem dX6_mixPlace_8 : decode cX6_mixPlace 8 = .ok (.ifCond .ne 9, 3) := by decide +kernel
theorem dX6_mixPlace_11 : decode cX6_mixPlace 11 = .ok (.lload_n 1, 1) := by decide +kernel
theorem dX6_mixPlace_12 : decode cX6_mixPlace 12 = .ok (.iconst 0, 1) := by decide +kernel
theorem dX6_mixPlace_13 : decode cX6_mixPlace 13 = .ok (.invokestatic 245, 3) := by decide +kernel
theorem dX6_mixPlace_16 : decode cX6_mixPlace 16 = .ok (.lreturn, 1) := by decide +kernel
theorem dX6_mixPlace_17 : decode cX6_mixPlace 17 = .ok (.lload_n 1, 1) := by decide +kernel
theorem dX6_mixPlace_18 : decode cX6_mixPlace 18 = .ok (.aload_n 0, 1) := by decide +kernel
theorem dX6_mixPlace_19 : decode cX6_mixPlace 19 = .ok (.getfield 12, 3) := by decide +kernel
theorem dX6_mixPlace_22 : decode cX6_mixPlace 22 = .ok (.getfield 256, 3) := by decide +kernel
theorem dX6_mixPlace_25 : decode cX6_mixPlace 25 = .ok (.iload_n 3, 1) := by decide +kernel
theorem dX6_mixPlace_26 : decode cX6_mixPlace 26 = .ok (.iaload, 1) := by decide +kernel
theorem dX6_mixPlace_27 : decode cX6_mixPlace 27 = .ok (.invokestatic 245, 3) := by decide +kernel
theorem dX6_mixPlace_30 : decode cX6_mixPlace 30 = .ok (.aload_n 0, 1) := by decide +kernel
theorem dX6_mixPlace_31 : decode cX6_mixPlace 31 = .ok (.getfield 12, 3) := by decide +kernel
theorem dX6_mixPlace_34 : decode cX6_mixPlace 34 = .ok (.getfield 147, 3) := by decide +kernel
theorem dX6_mixPlace_37 : decode cX6_mixPlace 37 = .ok (.iload_n 3, 1) := by decide +kernel
theorem dX6_mixPlace_38 : decode cX6_mixPlace 38 = .ok (.iaload, 1) := by decide +kernel
theorem dX6_mixPlace_39 : decode cX6_mixPlace 39 = .ok (.invokestatic 245, 3) := by decide +kernel
theorem dX6_mixPlace_42 : decode cX6_mixPlace 42 = .ok (.lstore 4, 2) := by decide +kernel
theorem dX6_mixPlace_44 : decode cX6_mixPlace 44 = .ok (.aload_n 0, 1) := by decide +kernel
theorem dX6_mixPlace_45 : decode cX6_mixPlace 45 = .ok (.getfield 33, 3) := by decide +kernel
theorem dX6_mixPlace_48 : decode cX6_mixPlace 48 = .ok (.aload_n 0, 1) := by decide +kernel
theorem dX6_mixPlace_49 : decode cX6_mixPlace 49 = .ok (.getfield 26, 3) := by decide +kernel
theorem dX6_mixPlace_52 : decode cX6_mixPlace 52 = .ok (.lload 4, 2) := by decide +kernel
theorem dX6_mixPlace_54 : decode cX6_mixPlace 54 = .ok (.iload_n 3, 1) := by decide +kernel
theorem dX6_mixPlace_55 : decode cX6_mixPlace 55 = .ok (.invokevirtual 259, 3) := by decide +kernel
theorem dX6_mixPlace_58 : decode cX6_mixPlace 58 = .ok (.iload_n 3, 1) := by decide +kernel
theorem dX6_mixPlace_59 : decode cX6_mixPlace 59 = .ok (.invokevirtual 262, 3) := by decide +kernel
theorem dX6_mixPlace_62 : decode cX6_mixPlace 62 = .ok (.lreturn, 1) := by decide +kernel
theorem dX6_mix_0 : decode cX6_mix 0 = .ok (.ldc2_w 265, 3) := by decide +kernel
theorem dX6_mix_3 : decode cX6_mix 3 = .ok (.lload_n 0, 1) := by decide +kernel
theorem dX6_mix_4 : decode cX6_mix 4 = .ok (.lmul, 1) := by decide +kernel
theorem dX6_mix_5 : decode cX6_mix 5 = .ok (.iload_n 2, 1) := by decide +kernel
theorem dX6_mix_6 : decode cX6_mix 6 = .ok (.i2l, 1) := by decide +kernel
theorem dX6_mix_7 : decode cX6_mix 7 = .ok (.ladd, 1) := by decide +kernel
theorem dX6_mix_8 : decode cX6_mix 8 = .ok (.lreturn, 1) := by decide +kernel
theorem dX6_isWithin_0 : decode cX6_isWithin 0 = .ok (.iload_n 0, 1) := by decide +kernel
theorem dX6_isWithin_1 : decode cX6_isWithin 1 = .ok (.iload_n 1, 1) := by decide +kernel
theorem dX6_isWithin_2 : decode cX6_isWithin 2 = .ok (.if_icmp .lt 12, 3) := by decide +kernel
theorem dX6_isWithin_5 : decode cX6_isWithin 5 = .ok (.iload_n 0, 1) := by decide +kernel
theorem dX6_isWithin_6 : decode cX6_isWithin 6 = .ok (.iload_n 2, 1) := by decide +kernel
theorem dX6_isWithin_7 : decode cX6_isWithin 7 = .ok (.if_icmp .gt 7, 3) := by decide +kernel
theorem dX6_isWithin_10 : decode cX6_isWithin 10 = .ok (.iconst 1, 1) := by decide +kernel
theorem dX6_isWithin_11 : decode cX6_isWithin 11 = .ok (.goto 4, 3) := by decide +kernel
theorem dX6_isWithin_14 : decode cX6_isWithin 14 = .ok (.iconst 0, 1) := by decide +kernel
theorem dX6_isWithin_15 : decode cX6_isWithin 15 = .ok (.ireturn, 1) := by decide +kernel
theorem dX6_isPlace_0 : decode cX6_isPlace 0 = .ok (.iload_n 0, 1) := by decide +kernel
theorem dX6_isPlace_1 : decode cX6_isPlace 1 = .ok (.ifCond .lt 13, 3) := by decide +kernel
theorem dX6_isPlace_4 : decode cX6_isPlace 4 = .ok (.iload_n 0, 1) := by decide +kernel
theorem dX6_isPlace_5 : decode cX6_isPlace 5 = .ok (.bipush 12, 2) := by decide +kernel
theorem dX6_isPlace_7 : decode cX6_isPlace 7 = .ok (.if_icmp .ge 7, 3) := by decide +kernel
theorem dX6_isPlace_10 : decode cX6_isPlace 10 = .ok (.iconst 1, 1) := by decide +kernel
theorem dX6_isPlace_11 : decode cX6_isPlace 11 = .ok (.goto 4, 3) := by decide +kernel
theorem dX6_isPlace_14 : decode cX6_isPlace 14 = .ok (.iconst 0, 1) := by decide +kernel
theorem dX6_isPlace_15 : decode cX6_isPlace 15 = .ok (.ireturn, 1) := by decide +kernel
theorem dX6_isLeg_0 : decode cX6_isLeg 0 = .ok (.iload_n 0, 1) := by decide +kernel
theorem dX6_isLeg_1 : decode cX6_isLeg 1 = .ok (.ifCond .lt 12, 3) := by decide +kernel
theorem dX6_isLeg_4 : decode cX6_isLeg 4 = .ok (.iload_n 0, 1) := by decide +kernel
theorem dX6_isLeg_5 : decode cX6_isLeg 5 = .ok (.iconst 4, 1) := by decide +kernel
theorem dX6_isLeg_6 : decode cX6_isLeg 6 = .ok (.if_icmp .ge 7, 3) := by decide +kernel
theorem dX6_isLeg_9 : decode cX6_isLeg 9 = .ok (.iconst 1, 1) := by decide +kernel
theorem dX6_isLeg_10 : decode cX6_isLeg 10 = .ok (.goto 4, 3) := by decide +kernel
theorem dX6_isLeg_13 : decode cX6_isLeg 13 = .ok (.iconst 0, 1) := by decide +kernel
theorem dX6_isLeg_14 : decode cX6_isLeg 14 = .ok (.ireturn, 1) := by decide +kernel
theorem dX6_legNumber_0 : decode cX6_legNumber 0 = .ok (.iconst 4, 1) := by decide +kernel
theorem dX6_legNumber_1 : decode cX6_legNumber 1 = .ok (.iload_n 0, 1) := by decide +kernel
theorem dX6_legNumber_2 : decode cX6_legNumber 2 = .ok (.imul, 1) := by decide +kernel
theorem dX6_legNumber_3 : decode cX6_legNumber 3 = .ok (.iload_n 1, 1) := by decide +kernel
theorem dX6_legNumber_4 : decode cX6_legNumber 4 = .ok (.iadd, 1) := by decide +kernel
theorem dX6_legNumber_5 : decode cX6_legNumber 5 = .ok (.ireturn, 1) := by decide +kernel
theorem dX6_isRiderWeight_0 : decode cX6_isRiderWeight 0 = .ok (.iload_n 0, 1) := by decide +kernel
theorem dX6_isRiderWeight_1 : decode cX6_isRiderWeight 1 = .ok (.iconst 1, 1) := by decide +kernel
theorem dX6_isRiderWeight_2 : decode cX6_isRiderWeight 2 = .ok (.sipush 150, 3) := by decide +kernel
theorem dX6_isRiderWeight_5 : decode cX6_isRiderWeight 5 = .ok (.invokestatic 68, 3) := by decide +kernel
theorem dX6_isRiderWeight_8 : decode cX6_isRiderWeight 8 = .ok (.ireturn, 1) := by decide +kernel
theorem dX6_isGroup_0 : decode cX6_isGroup 0 = .ok (.iload_n 0, 1) := by decide +kernel
theorem dX6_isGroup_1 : decode cX6_isGroup 1 = .ok (.iconst 1, 1) := by decide +kernel
theorem dX6_isGroup_2 : decode cX6_isGroup 2 = .ok (.iconst 3, 1) := by decide +kernel
theorem dX6_isGroup_3 : decode cX6_isGroup 3 = .ok (.invokestatic 68, 3) := by decide +kernel
theorem dX6_isGroup_6 : decode cX6_isGroup 6 = .ok (.ifCond .eq 38, 3) := by decide +kernel
theorem dX6_isGroup_9 : decode cX6_isGroup 9 = .ok (.iload_n 1, 1) := by decide +kernel
theorem dX6_isGroup_10 : decode cX6_isGroup 10 = .ok (.invokestatic 100, 3) := by decide +kernel
theorem dX6_isGroup_13 : decode cX6_isGroup 13 = .ok (.ifCond .eq 31, 3) := by decide +kernel
theorem dX6_isGroup_16 : decode cX6_isGroup 16 = .ok (.iload_n 0, 1) := by decide +kernel
theorem dX6_isGroup_17 : decode cX6_isGroup 17 = .ok (.iconst 2, 1) := by decide +kernel
theorem dX6_isGroup_18 : decode cX6_isGroup 18 = .ok (.if_icmp .lt 10, 3) := by decide +kernel
theorem dX6_isGroup_21 : decode cX6_isGroup 21 = .ok (.iload_n 2, 1) := by decide +kernel
theorem dX6_isGroup_22 : decode cX6_isGroup 22 = .ok (.invokestatic 100, 3) := by decide +kernel
theorem dX6_isGroup_25 : decode cX6_isGroup 25 = .ok (.ifCond .eq 19, 3) := by decide +kernel
theorem dX6_isGroup_28 : decode cX6_isGroup 28 = .ok (.iload_n 0, 1) := by decide +kernel
theorem dX6_isGroup_29 : decode cX6_isGroup 29 = .ok (.iconst 3, 1) := by decide +kernel
theorem dX6_isGroup_30 : decode cX6_isGroup 30 = .ok (.if_icmp .lt 10, 3) := by decide +kernel
theorem dX6_isGroup_33 : decode cX6_isGroup 33 = .ok (.iload_n 3, 1) := by decide +kernel
theorem dX6_isGroup_34 : decode cX6_isGroup 34 = .ok (.invokestatic 100, 3) := by decide +kernel
theorem dX6_isGroup_37 : decode cX6_isGroup 37 = .ok (.ifCond .eq 7, 3) := by decide +kernel
theorem dX6_isGroup_40 : decode cX6_isGroup 40 = .ok (.iconst 1, 1) := by decide +kernel
theorem dX6_isGroup_41 : decode cX6_isGroup 41 = .ok (.goto 4, 3) := by decide +kernel
theorem dX6_isGroup_44 : decode cX6_isGroup 44 = .ok (.iconst 0, 1) := by decide +kernel
theorem dX6_isGroup_45 : decode cX6_isGroup 45 = .ok (.ireturn, 1) := by decide +kernel
theorem dX6_shakeOf_0 : decode cX6_shakeOf 0 = .ok (.iload_n 0, 1) := by decide +kernel
theorem dX6_shakeOf_1 : decode cX6_shakeOf 1 = .ok (.iload_n 0, 1) := by decide +kernel
theorem dX6_shakeOf_2 : decode cX6_shakeOf 2 = .ok (.imul, 1) := by decide +kernel
theorem dX6_shakeOf_3 : decode cX6_shakeOf 3 = .ok (.iload_n 1, 1) := by decide +kernel
theorem dX6_shakeOf_4 : decode cX6_shakeOf 4 = .ok (.iload_n 1, 1) := by decide +kernel
theorem dX6_shakeOf_5 : decode cX6_shakeOf 5 = .ok (.imul, 1) := by decide +kernel
theorem dX6_shakeOf_6 : decode cX6_shakeOf 6 = .ok (.iadd, 1) := by decide +kernel
theorem dX6_shakeOf_7 : decode cX6_shakeOf 7 = .ok (.ireturn, 1) := by decide +kernel
theorem dX7_init_0 : decode cX7_init 0 = .ok (.aload_n 0, 1) := by decide +kernel
theorem dX7_init_1 : decode cX7_init 1 = .ok (.invokespecial 1, 3) := by decide +kernel
theorem dX7_init_4 : decode cX7_init 4 = .ok (.aload_n 0, 1) := by decide +kernel
theorem dX7_init_5 : decode cX7_init 5 = .ok (.bipush 12, 2) := by decide +kernel
theorem dX7_init_7 : decode cX7_init 7 = .ok (.newarray .int, 2) := by decide +kernel
theorem dX7_init_9 : decode cX7_init 9 = .ok (.putfield 7, 3) := by decide +kernel
theorem dX7_init_12 : decode cX7_init 12 = .ok (.aload_n 0, 1) := by decide +kernel
theorem dX7_init_13 : decode cX7_init 13 = .ok (.bipush 12, 2) := by decide +kernel
theorem dX7_init_15 : decode cX7_init 15 = .ok (.newarray .int, 2) := by decide +kernel
theorem dX7_init_17 : decode cX7_init 17 = .ok (.putfield 13, 3) := by decide +kernel
theorem dX7_init_20 : decode cX7_init 20 = .ok (.aload_n 0, 1) := by decide +kernel
theorem dX7_init_21 : decode cX7_init 21 = .ok (.bipush 12, 2) := by decide +kernel
theorem dX7_init_23 : decode cX7_init 23 = .ok (.newarray .int, 2) := by decide +kernel
theorem dX7_init_25 : decode cX7_init 25 = .ok (.putfield 16, 3) := by decide +kernel
theorem dX7_init_28 : decode cX7_init 28 = .ok (.aload_n 0, 1) := by decide +kernel
theorem dX7_init_29 : decode cX7_init 29 = .ok (.bipush 12, 2) := by decide +kernel
theorem dX7_init_31 : decode cX7_init 31 = .ok (.newarray .int, 2) := by decide +kernel
theorem dX7_init_33 : decode cX7_init 33 = .ok (.putfield 19, 3) := by decide +kernel
theorem dX7_init_36 : decode cX7_init 36 = .ok (.aload_n 0, 1) := by decide +kernel
theorem dX7_init_37 : decode cX7_init 37 = .ok (.bipush 12, 2) := by decide +kernel
theorem dX7_init_39 : decode cX7_init 39 = .ok (.newarray .int, 2) := by decide +kernel
theorem dX7_init_41 : decode cX7_init 41 = .ok (.putfield 22, 3) := by decide +kernel
theorem dX7_init_44 : decode cX7_init 44 = .ok (.aload_n 0, 1) := by decide +kernel
theorem dX7_init_45 : decode cX7_init 45 = .ok (.bipush 96, 2) := by decide +kernel
theorem dX7_init_47 : decode cX7_init 47 = .ok (.newarray .int, 2) := by decide +kernel
theorem dX7_init_49 : decode cX7_init 49 = .ok (.putfield 25, 3) := by decide +kernel
theorem dX7_init_52 : decode cX7_init 52 = .ok (.aload_n 0, 1) := by decide +kernel
theorem dX7_init_53 : decode cX7_init 53 = .ok (.bipush 48, 2) := by decide +kernel
theorem dX7_init_55 : decode cX7_init 55 = .ok (.newarray .int, 2) := by decide +kernel
theorem dX7_init_57 : decode cX7_init 57 = .ok (.putfield 28, 3) := by decide +kernel
theorem dX7_init_60 : decode cX7_init 60 = .ok (.aload_n 0, 1) := by decide +kernel
theorem dX7_init_61 : decode cX7_init 61 = .ok (.iconst 3, 1) := by decide +kernel
theorem dX7_init_62 : decode cX7_init 62 = .ok (.newarray .int, 2) := by decide +kernel
theorem dX7_init_64 : decode cX7_init 64 = .ok (.putfield 31, 3) := by decide +kernel
theorem dX7_init_67 : decode cX7_init 67 = .ok (.aload_n 0, 1) := by decide +kernel
theorem dX7_init_68 : decode cX7_init 68 = .ok (.bipush 48, 2) := by decide +kernel
theorem dX7_init_70 : decode cX7_init 70 = .ok (.newarray .boolean, 2) := by decide +kernel
theorem dX7_init_72 : decode cX7_init 72 = .ok (.putfield 34, 3) := by decide +kernel
theorem dX7_init_75 : decode cX7_init 75 = .ok (.aload_n 0, 1) := by decide +kernel
theorem dX7_init_76 : decode cX7_init 76 = .ok (.bipush 8, 2) := by decide +kernel
theorem dX7_init_78 : decode cX7_init 78 = .ok (.newarray .int, 2) := by decide +kernel
theorem dX7_init_80 : decode cX7_init 80 = .ok (.putfield 38, 3) := by decide +kernel
theorem dX7_init_83 : decode cX7_init 83 = .ok (.aload_n 0, 1) := by decide +kernel
theorem dX7_init_84 : decode cX7_init 84 = .ok (.bipush 8, 2) := by decide +kernel
theorem dX7_init_86 : decode cX7_init 86 = .ok (.newarray .int, 2) := by decide +kernel
theorem dX7_init_88 : decode cX7_init 88 = .ok (.putfield 41, 3) := by decide +kernel
theorem dX7_init_91 : decode cX7_init 91 = .ok (.aload_n 0, 1) := by decide +kernel
theorem dX7_init_92 : decode cX7_init 92 = .ok (.bipush 8, 2) := by decide +kernel
theorem dX7_init_94 : decode cX7_init 94 = .ok (.newarray .int, 2) := by decide +kernel
theorem dX7_init_96 : decode cX7_init 96 = .ok (.putfield 44, 3) := by decide +kernel
theorem dX7_init_99 : decode cX7_init 99 = .ok (.aload_n 0, 1) := by decide +kernel
theorem dX7_init_100 : decode cX7_init 100 = .ok (.bipush 64, 2) := by decide +kernel
theorem dX7_init_102 : decode cX7_init 102 = .ok (.newarray .int, 2) := by decide +kernel
theorem dX7_init_104 : decode cX7_init 104 = .ok (.putfield 47, 3) := by decide +kernel
theorem dX7_init_107 : decode cX7_init 107 = .ok (.aload_n 0, 1) := by decide +kernel
theorem dX7_init_108 : decode cX7_init 108 = .ok (.bipush 8, 2) := by decide +kernel
theorem dX7_init_110 : decode cX7_init 110 = .ok (.newarray .int, 2) := by decide +kernel
theorem dX7_init_112 : decode cX7_init 112 = .ok (.putfield 50, 3) := by decide +kernel
theorem dX7_init_115 : decode cX7_init 115 = .ok (.aload_n 0, 1) := by decide +kernel
theorem dX7_init_116 : decode cX7_init 116 = .ok (.bipush 8, 2) := by decide +kernel
theorem dX7_init_118 : decode cX7_init 118 = .ok (.newarray .int, 2) := by decide +kernel
theorem dX7_init_120 : decode cX7_init 120 = .ok (.putfield 53, 3) := by decide +kernel
theorem dX7_init_123 : decode cX7_init 123 = .ok (.aload_n 0, 1) := by decide +kernel
theorem dX7_init_124 : decode cX7_init 124 = .ok (.bipush 100, 2) := by decide +kernel
theorem dX7_init_126 : decode cX7_init 126 = .ok (.newarray .int, 2) := by decide +kernel
theorem dX7_init_128 : decode cX7_init 128 = .ok (.putfield 56, 3) := by decide +kernel
theorem dX7_init_131 : decode cX7_init 131 = .ok (.aload_n 0, 1) := by decide +kernel
theorem dX7_init_132 : decode cX7_init 132 = .ok (.sipush 3000, 3) := by decide +kernel
theorem dX7_init_135 : decode cX7_init 135 = .ok (.putfield 59, 3) := by decide +kernel
theorem dX7_init_138 : decode cX7_init 138 = .ok (.aload_n 0, 1) := by decide +kernel
theorem dX7_init_139 : decode cX7_init 139 = .ok (.sipush 5000, 3) := by decide +kernel
theorem dX7_init_142 : decode cX7_init 142 = .ok (.putfield 63, 3) := by decide +kernel
theorem dX7_init_145 : decode cX7_init 145 = .ok (.aload_n 0, 1) := by decide +kernel
theorem dX7_init_146 : decode cX7_init 146 = .ok (.bipush 100, 2) := by decide +kernel
theorem dX7_init_148 : decode cX7_init 148 = .ok (.putfield 66, 3) := by decide +kernel
theorem dX7_init_151 : decode cX7_init 151 = .ok (.aload_n 0, 1) := by decide +kernel
theorem dX7_init_152 : decode cX7_init 152 = .ok (.iconst 0, 1) := by decide +kernel
theorem dX7_init_153 : decode cX7_init 153 = .ok (.bipush 10, 2) := by decide +kernel
theorem dX7_init_155 : decode cX7_init 155 = .ok (.iconst 0, 1) := by decide +kernel
theorem dX7_init_156 : decode cX7_init 156 = .ok (.invokevirtual 69, 3) := by decide +kernel
theorem dX7_init_159 : decode cX7_init 159 = .ok (.aload_n 0, 1) := by decide +kernel
theorem dX7_init_160 : decode cX7_init 160 = .ok (.iconst 1, 1) := by decide +kernel
theorem dX7_init_161 : decode cX7_init 161 = .ok (.bipush 9, 2) := by decide +kernel
theorem dX7_init_163 : decode cX7_init 163 = .ok (.iconst 5, 1) := by decide +kernel
theorem dX7_init_164 : decode cX7_init 164 = .ok (.invokevirtual 69, 3) := by decide +kernel
theorem dX7_init_167 : decode cX7_init 167 = .ok (.aload_n 0, 1) := by decide +kernel
theorem dX7_init_168 : decode cX7_init 168 = .ok (.iconst 2, 1) := by decide +kernel
theorem dX7_init_169 : decode cX7_init 169 = .ok (.iconst 5, 1) := by decide +kernel
theorem dX7_init_170 : decode cX7_init 170 = .ok (.bipush 9, 2) := by decide +kernel
theorem dX7_init_172 : decode cX7_init 172 = .ok (.invokevirtual 69, 3) := by decide +kernel
theorem dX7_init_175 : decode cX7_init 175 = .ok (.return_, 1) := by decide +kernel
theorem dX7_in_0 : decode cX7_in 0 = .ok (.lload_n 0, 1) := by decide +kernel
theorem dX7_in_1 : decode cX7_in 1 = .ok (.lload_n 2, 1) := by decide +kernel
theorem dX7_in_2 : decode cX7_in 2 = .ok (.lcmp, 1) := by decide +kernel
theorem dX7_in_3 : decode cX7_in 3 = .ok (.ifCond .lt 14, 3) := by decide +kernel
theorem dX7_in_6 : decode cX7_in 6 = .ok (.lload_n 0, 1) := by decide +kernel
theorem dX7_in_7 : decode cX7_in 7 = .ok (.lload 4, 2) := by decide +kernel
theorem dX7_in_9 : decode cX7_in 9 = .ok (.lcmp, 1) := by decide +kernel
theorem dX7_in_10 : decode cX7_in 10 = .ok (.ifCond .gt 7, 3) := by decide +kernel
theorem dX7_in_13 : decode cX7_in 13 = .ok (.iconst 1, 1) := by decide +kernel
theorem dX7_in_14 : decode cX7_in 14 = .ok (.goto 4, 3) := by decide +kernel
theorem dX7_in_17 : decode cX7_in 17 = .ok (.iconst 0, 1) := by decide +kernel
theorem dX7_in_18 : decode cX7_in 18 = .ok (.ireturn, 1) := by decide +kernel
theorem dX7_put_0 : decode cX7_put 0 = .ok (.iload_n 2, 1) := by decide +kernel
theorem dX7_put_1 : decode cX7_put 1 = .ok (.istore 4, 2) := by decide +kernel
theorem dX7_put_3 : decode cX7_put 3 = .ok (.iload_n 3, 1) := by decide +kernel
theorem dX7_put_4 : decode cX7_put 4 = .ok (.istore 5, 2) := by decide +kernel
theorem dX7_put_6 : decode cX7_put 6 = .ok (.iload_n 1, 1) := by decide +kernel
theorem dX7_put_7 : decode cX7_put 7 = .ok (.istore 6, 2) := by decide +kernel
theorem dX7_put_9 : decode cX7_put 9 = .ok (.iload 6, 2) := by decide +kernel
theorem dX7_put_11 : decode cX7_put 11 = .ok (.bipush 12, 2) := by decide +kernel
theorem dX7_put_13 : decode cX7_put 13 = .ok (.if_icmp .ge 40, 3) := by decide +kernel
theorem dX7_put_16 : decode cX7_put 16 = .ok (.aload_n 0, 1) := by decide +kernel
theorem dX7_put_17 : decode cX7_put 17 = .ok (.getfield 7, 3) := by decide +kernel
theorem dX7_put_20 : decode cX7_put 20 = .ok (.iload 6, 2) := by decide +kernel
theorem dX7_put_22 : decode cX7_put 22 = .ok (.iload 4, 2) := by decide +kernel
theorem dX7_put_24 : decode cX7_put 24 = .ok (.iastore, 1) := by decide +kernel
theorem dX7_put_25 : decode cX7_put 25 = .ok (.aload_n 0, 1) := by decide +kernel
theorem dX7_put_26 : decode cX7_put 26 = .ok (.getfield 13, 3) := by decide +kernel
theorem dX7_put_29 : decode cX7_put 29 = .ok (.iload 6, 2) := by decide +kernel
theorem dX7_put_31 : decode cX7_put 31 = .ok (.iload 5, 2) := by decide +kernel
theorem dX7_put_33 : decode cX7_put 33 = .ok (.iastore, 1) := by decide +kernel
theorem dX7_put_34 : decode cX7_put 34 = .ok (.iload 4, 2) := by decide +kernel
theorem dX7_put_36 : decode cX7_put 36 = .ok (.istore 7, 2) := by decide +kernel
theorem dX7_put_38 : decode cX7_put 38 = .ok (.iload 5, 2) := by decide +kernel
theorem dX7_put_40 : decode cX7_put 40 = .ok (.ineg, 1) := by decide +kernel
theorem dX7_put_41 : decode cX7_put 41 = .ok (.istore 4, 2) := by decide +kernel
theorem dX7_put_43 : decode cX7_put 43 = .ok (.iload 7, 2) := by decide +kernel
theorem dX7_put_45 : decode cX7_put 45 = .ok (.istore 5, 2) := by decide +kernel
theorem dX7_put_47 : decode cX7_put 47 = .ok (.iinc 6 3, 3) := by decide +kernel
theorem dX7_put_50 : decode cX7_put 50 = .ok (.goto (-41), 3) := by decide +kernel
theorem dX7_put_53 : decode cX7_put 53 = .ok (.return_, 1) := by decide +kernel
theorem dX7_isPlace_0 : decode cX7_isPlace 0 = .ok (.iload_n 0, 1) := by decide +kernel
theorem dX7_isPlace_1 : decode cX7_isPlace 1 = .ok (.i2l, 1) := by decide +kernel
theorem dX7_isPlace_2 : decode cX7_isPlace 2 = .ok (.lconst 0, 1) := by decide +kernel
theorem dX7_isPlace_3 : decode cX7_isPlace 3 = .ok (.ldc2_w 73, 3) := by decide +kernel
theorem dX7_isPlace_6 : decode cX7_isPlace 6 = .ok (.invokestatic 75, 3) := by decide +kernel
theorem dX7_isPlace_9 : decode cX7_isPlace 9 = .ok (.ireturn, 1) := by decide +kernel
theorem dX7_isHorse_0 : decode cX7_isHorse 0 = .ok (.iload_n 1, 1) := by decide +kernel
theorem dX7_isHorse_1 : decode cX7_isHorse 1 = .ok (.invokestatic 79, 3) := by decide +kernel
theorem dX7_isHorse_4 : decode cX7_isHorse 4 = .ok (.ifCond .eq 16, 3) := by decide +kernel
theorem dX7_isHorse_7 : decode cX7_isHorse 7 = .ok (.aload_n 0, 1) := by decide +kernel
theorem dX7_isHorse_8 : decode cX7_isHorse 8 = .ok (.getfield 16, 3) := by decide +kernel
theorem dX7_isHorse_11 : decode cX7_isHorse 11 = .ok (.iload_n 1, 1) := by decide +kernel
theorem dX7_isHorse_12 : decode cX7_isHorse 12 = .ok (.iaload, 1) := by decide +kernel
theorem dX7_isHorse_13 : decode cX7_isHorse 13 = .ok (.ifCond .le 7, 3) := by decide +kernel
theorem dX7_isHorse_16 : decode cX7_isHorse 16 = .ok (.iconst 1, 1) := by decide +kernel
theorem dX7_isHorse_17 : decode cX7_isHorse 17 = .ok (.goto 4, 3) := by decide +kernel
theorem dX7_isHorse_20 : decode cX7_isHorse 20 = .ok (.iconst 0, 1) := by decide +kernel
theorem dX7_isHorse_21 : decode cX7_isHorse 21 = .ok (.ireturn, 1) := by decide +kernel
theorem dX7_horses_0 : decode cX7_horses 0 = .ok (.iconst 0, 1) := by decide +kernel
theorem dX7_horses_1 : decode cX7_horses 1 = .ok (.istore_n 1, 1) := by decide +kernel
theorem dX7_horses_2 : decode cX7_horses 2 = .ok (.iconst 0, 1) := by decide +kernel
theorem dX7_horses_3 : decode cX7_horses 3 = .ok (.istore_n 2, 1) := by decide +kernel
theorem dX7_horses_4 : decode cX7_horses 4 = .ok (.iload_n 2, 1) := by decide +kernel
theorem dX7_horses_5 : decode cX7_horses 5 = .ok (.bipush 12, 2) := by decide +kernel
theorem dX7_horses_7 : decode cX7_horses 7 = .ok (.if_icmp .ge 26, 3) := by decide +kernel
theorem dX7_horses_10 : decode cX7_horses 10 = .ok (.iload_n 1, 1) := by decide +kernel
theorem dX7_horses_11 : decode cX7_horses 11 = .ok (.aload_n 0, 1) := by decide +kernel
theorem dX7_horses_12 : decode cX7_horses 12 = .ok (.getfield 16, 3) := by decide +kernel
theorem dX7_horses_15 : decode cX7_horses 15 = .ok (.iload_n 2, 1) := by decide +kernel
theorem dX7_horses_16 : decode cX7_horses 16 = .ok (.iaload, 1) := by decide +kernel
theorem dX7_horses_17 : decode cX7_horses 17 = .ok (.ifCond .le 7, 3) := by decide +kernel
theorem dX7_horses_20 : decode cX7_horses 20 = .ok (.iconst 1, 1) := by decide +kernel
theorem dX7_horses_21 : decode cX7_horses 21 = .ok (.goto 4, 3) := by decide +kernel
theorem dX7_horses_24 : decode cX7_horses 24 = .ok (.iconst 0, 1) := by decide +kernel
theorem dX7_horses_25 : decode cX7_horses 25 = .ok (.iadd, 1) := by decide +kernel
theorem dX7_horses_26 : decode cX7_horses 26 = .ok (.istore_n 1, 1) := by decide +kernel
theorem dX7_horses_27 : decode cX7_horses 27 = .ok (.iinc 2 1, 3) := by decide +kernel
theorem dX7_horses_30 : decode cX7_horses 30 = .ok (.goto (-26), 3) := by decide +kernel
theorem dX7_horses_33 : decode cX7_horses 33 = .ok (.iload_n 1, 1) := by decide +kernel
theorem dX7_horses_34 : decode cX7_horses 34 = .ok (.ireturn, 1) := by decide +kernel
theorem dX7_horse_0 : decode cX7_horse 0 = .ok (.iload_n 1, 1) := by decide +kernel
theorem dX7_horse_1 : decode cX7_horse 1 = .ok (.invokestatic 79, 3) := by decide +kernel
theorem dX7_horse_4 : decode cX7_horse 4 = .ok (.ifCond .ne 6, 3) := by decide +kernel
theorem dX7_horse_7 : decode cX7_horse 7 = .ok (.bipush (-101), 2) := by decide +kernel
theorem dX7_horse_9 : decode cX7_horse 9 = .ok (.ireturn, 1) := by decide +kernel
theorem dX7_horse_10 : decode cX7_horse 10 = .ok (.iload_n 2, 1) := by decide +kernel
theorem dX7_horse_11 : decode cX7_horse 11 = .ok (.i2l, 1) := by decide +kernel
theorem dX7_horse_12 : decode cX7_horse 12 = .ok (.lconst 1, 1) := by decide +kernel
theorem dX7_horse_13 : decode cX7_horse 13 = .ok (.ldc2_w 83, 3) := by decide +kernel
theorem dX7_horse_16 : decode cX7_horse 16 = .ok (.invokestatic 75, 3) := by decide +kernel
theorem dX7_horse_19 : decode cX7_horse 19 = .ok (.ifCond .eq 15, 3) := by decide +kernel
theorem dX7_horse_22 : decode cX7_horse 22 = .ok (.iload_n 3, 1) := by decide +kernel
theorem dX7_horse_23 : decode cX7_horse 23 = .ok (.i2l, 1) := by decide +kernel
theorem dX7_horse_24 : decode cX7_horse 24 = .ok (.lconst 0, 1) := by decide +kernel
theorem dX7_horse_25 : decode cX7_horse 25 = .ok (.ldc2_w 85, 3) := by decide +kernel
theorem dX7_horse_28 : decode cX7_horse 28 = .ok (.invokestatic 75, 3) := by decide +kernel
theorem dX7_horse_31 : decode cX7_horse 31 = .ok (.ifCond .ne 6, 3) := by decide +kernel
theorem dX7_horse_34 : decode cX7_horse 34 = .ok (.bipush (-102), 2) := by decide +kernel
theorem dX7_horse_36 : decode cX7_horse 36 = .ok (.ireturn, 1) := by decide +kernel
theorem dX7_horse_37 : decode cX7_horse 37 = .ok (.aload_n 0, 1) := by decide +kernel
theorem dX7_horse_38 : decode cX7_horse 38 = .ok (.getfield 16, 3) := by decide +kernel
theorem dX7_horse_41 : decode cX7_horse 41 = .ok (.iload_n 1, 1) := by decide +kernel
theorem dX7_horse_42 : decode cX7_horse 42 = .ok (.iaload, 1) := by decide +kernel
theorem dX7_horse_43 : decode cX7_horse 43 = .ok (.ifCond .le 6, 3) := by decide +kernel
theorem dX7_horse_46 : decode cX7_horse 46 = .ok (.bipush (-103), 2) := by decide +kernel
theorem dX7_horse_48 : decode cX7_horse 48 = .ok (.ireturn, 1) := by decide +kernel
theorem dX7_horse_49 : decode cX7_horse 49 = .ok (.aload_n 0, 1) := by decide +kernel
theorem dX7_horse_50 : decode cX7_horse 50 = .ok (.getfield 16, 3) := by decide +kernel
theorem dX7_horse_53 : decode cX7_horse 53 = .ok (.iload_n 1, 1) := by decide +kernel
theorem dX7_horse_54 : decode cX7_horse 54 = .ok (.iload_n 2, 1) := by decide +kernel
theorem dX7_horse_55 : decode cX7_horse 55 = .ok (.iastore, 1) := by decide +kernel
theorem dX7_horse_56 : decode cX7_horse 56 = .ok (.aload_n 0, 1) := by decide +kernel
theorem dX7_horse_57 : decode cX7_horse 57 = .ok (.getfield 19, 3) := by decide +kernel
theorem dX7_horse_60 : decode cX7_horse 60 = .ok (.iload_n 1, 1) := by decide +kernel
theorem dX7_horse_61 : decode cX7_horse 61 = .ok (.iconst 0, 1) := by decide +kernel
theorem dX7_horse_62 : decode cX7_horse 62 = .ok (.iastore, 1) := by decide +kernel
theorem dX7_horse_63 : decode cX7_horse 63 = .ok (.aload_n 0, 1) := by decide +kernel
theorem dX7_horse_64 : decode cX7_horse 64 = .ok (.getfield 22, 3) := by decide +kernel
theorem dX7_horse_67 : decode cX7_horse 67 = .ok (.iload_n 1, 1) := by decide +kernel
theorem dX7_horse_68 : decode cX7_horse 68 = .ok (.iconst 1, 1) := by decide +kernel
theorem dX7_horse_69 : decode cX7_horse 69 = .ok (.iastore, 1) := by decide +kernel
theorem dX7_horse_70 : decode cX7_horse 70 = .ok (.aload_n 0, 1) := by decide +kernel
theorem dX7_horse_71 : decode cX7_horse 71 = .ok (.getfield 25, 3) := by decide +kernel
theorem dX7_horse_74 : decode cX7_horse 74 = .ok (.bipush 8, 2) := by decide +kernel
theorem dX7_horse_76 : decode cX7_horse 76 = .ok (.iload_n 1, 1) := by decide +kernel
theorem dX7_horse_77 : decode cX7_horse 77 = .ok (.imul, 1) := by decide +kernel
theorem dX7_horse_78 : decode cX7_horse 78 = .ok (.iload_n 3, 1) := by decide +kernel
theorem dX7_horse_79 : decode cX7_horse 79 = .ok (.iastore, 1) := by decide +kernel
theorem dX7_horse_80 : decode cX7_horse 80 = .ok (.iconst 0, 1) := by decide +kernel
theorem dX7_horse_81 : decode cX7_horse 81 = .ok (.istore 4, 2) := by decide +kernel
theorem dX7_horse_83 : decode cX7_horse 83 = .ok (.iload 4, 2) := by decide +kernel
theorem dX7_horse_85 : decode cX7_horse 85 = .ok (.iconst 4, 1) := by decide +kernel
theorem dX7_horse_86 : decode cX7_horse 86 = .ok (.if_icmp .ge 26, 3) := by decide +kernel
theorem dX7_horse_89 : decode cX7_horse 89 = .ok (.aload_n 0, 1) := by decide +kernel
theorem dX7_horse_90 : decode cX7_horse 90 = .ok (.getfield 28, 3) := by decide +kernel
theorem dX7_horse_93 : decode cX7_horse 93 = .ok (.iconst 4, 1) := by decide +kernel
theorem dX7_horse_94 : decode cX7_horse 94 = .ok (.iload_n 1, 1) := by decide +kernel
theorem dX7_horse_95 : decode cX7_horse 95 = .ok (.imul, 1) := by decide +kernel
theorem dX7_horse_96 : decode cX7_horse 96 = .ok (.iload 4, 2) := by decide +kernel
theorem dX7_horse_98 : decode cX7_horse 98 = .ok (.iadd, 1) := by decide +kernel
theorem dX7_horse_99 : decode cX7_horse 99 = .ok (.iconst 4, 1) := by decide +kernel
theorem dX7_horse_100 : decode cX7_horse 100 = .ok (.iload_n 1, 1) := by decide +kernel
theorem dX7_horse_101 : decode cX7_horse 101 = .ok (.imul, 1) := by decide +kernel
theorem dX7_horse_102 : decode cX7_horse 102 = .ok (.iload 4, 2) := by decide +kernel
theorem dX7_horse_104 : decode cX7_horse 104 = .ok (.iadd, 1) := by decide +kernel
theorem dX7_horse_105 : decode cX7_horse 105 = .ok (.iastore, 1) := by decide +kernel
theorem dX7_horse_106 : decode cX7_horse 106 = .ok (.iinc 4 1, 3) := by decide +kernel
theorem dX7_horse_109 : decode cX7_horse 109 = .ok (.goto (-26), 3) := by decide +kernel
theorem dX7_horse_112 : decode cX7_horse 112 = .ok (.aload_n 0, 1) := by decide +kernel
theorem dX7_horse_113 : decode cX7_horse 113 = .ok (.invokevirtual 87, 3) := by decide +kernel
theorem dX7_horse_116 : decode cX7_horse 116 = .ok (.ireturn, 1) := by decide +kernel
theorem dX7_leave_0 : decode cX7_leave 0 = .ok (.aload_n 0, 1) := by decide +kernel
theorem dX7_leave_1 : decode cX7_leave 1 = .ok (.iload_n 1, 1) := by decide +kernel
theorem dX7_leave_2 : decode cX7_leave 2 = .ok (.invokevirtual 91, 3) := by decide +kernel
theorem dX7_leave_5 : decode cX7_leave 5 = .ok (.ifCond .ne 6, 3) := by decide +kernel
theorem dX7_leave_8 : decode cX7_leave 8 = .ok (.bipush (-101), 2) := by decide +kernel
theorem dX7_leave_10 : decode cX7_leave 10 = .ok (.ireturn, 1) := by decide +kernel
theorem dX7_leave_11 : decode cX7_leave 11 = .ok (.aload_n 0, 1) := by decide +kernel
theorem dX7_leave_12 : decode cX7_leave 12 = .ok (.getfield 19, 3) := by decide +kernel
theorem dX7_leave_15 : decode cX7_leave 15 = .ok (.iload_n 1, 1) := by decide +kernel
theorem dX7_leave_16 : decode cX7_leave 16 = .ok (.iaload, 1) := by decide +kernel
theorem dX7_leave_17 : decode cX7_leave 17 = .ok (.ifCond .ne 7, 3) := by decide +kernel
theorem dX7_leave_20 : decode cX7_leave 20 = .ok (.iconst 1, 1) := by decide +kernel
theorem dX7_leave_21 : decode cX7_leave 21 = .ok (.goto 4, 3) := by decide +kernel
theorem dX7_leave_24 : decode cX7_leave 24 = .ok (.iconst 0, 1) := by decide +kernel
theorem dX7_leave_25 : decode cX7_leave 25 = .ok (.istore_n 2, 1) := by decide +kernel
theorem dX7_leave_26 : decode cX7_leave 26 = .ok (.iconst 0, 1) := by decide +kernel
theorem dX7_leave_27 : decode cX7_leave 27 = .ok (.istore_n 3, 1) := by decide +kernel
theorem dX7_leave_28 : decode cX7_leave 28 = .ok (.iload_n 3, 1) := by decide +kernel
theorem dX7_leave_29 : decode cX7_leave 29 = .ok (.iconst 4, 1) := by decide +kernel
theorem dX7_leave_30 : decode cX7_leave 30 = .ok (.if_icmp .ge 37, 3) := by decide +kernel
theorem dX7_leave_33 : decode cX7_leave 33 = .ok (.iload_n 2, 1) := by decide +kernel
theorem dX7_leave_34 : decode cX7_leave 34 = .ok (.ifCond .eq 25, 3) := by decide +kernel
theorem dX7_leave_37 : decode cX7_leave 37 = .ok (.aload_n 0, 1) := by decide +kernel
theorem dX7_leave_38 : decode cX7_leave 38 = .ok (.getfield 28, 3) := by decide +kernel
theorem dX7_leave_41 : decode cX7_leave 41 = .ok (.iconst 4, 1) := by decide +kernel
theorem dX7_leave_42 : decode cX7_leave 42 = .ok (.iload_n 1, 1) := by decide +kernel
theorem dX7_leave_43 : decode cX7_leave 43 = .ok (.imul, 1) := by decide +kernel
theorem dX7_leave_44 : decode cX7_leave 44 = .ok (.iload_n 3, 1) := by decide +kernel
theorem dX7_leave_45 : decode cX7_leave 45 = .ok (.iadd, 1) := by decide +kernel
theorem dX7_leave_46 : decode cX7_leave 46 = .ok (.iaload, 1) := by decide +kernel
theorem dX7_leave_47 : decode cX7_leave 47 = .ok (.iconst 4, 1) := by decide +kernel
theorem dX7_leave_48 : decode cX7_leave 48 = .ok (.iload_n 1, 1) := by decide +kernel
theorem dX7_leave_49 : decode cX7_leave 49 = .ok (.imul, 1) := by decide +kernel
theorem dX7_leave_50 : decode cX7_leave 50 = .ok (.iload_n 3, 1) := by decide +kernel
theorem dX7_leave_51 : decode cX7_leave 51 = .ok (.iadd, 1) := by decide +kernel
theorem dX7_leave_52 : decode cX7_leave 52 = .ok (.if_icmp .ne 7, 3) := by decide +kernel
theorem dX7_leave_55 : decode cX7_leave 55 = .ok (.iconst 1, 1) := by decide +kernel
theorem dX7_leave_56 : decode cX7_leave 56 = .ok (.goto 4, 3) := by decide +kernel
theorem dX7_leave_59 : decode cX7_leave 59 = .ok (.iconst 0, 1) := by decide +kernel
theorem dX7_leave_60 : decode cX7_leave 60 = .ok (.istore_n 2, 1) := by decide +kernel
theorem dX7_leave_61 : decode cX7_leave 61 = .ok (.iinc 3 1, 3) := by decide +kernel
theorem dX7_leave_64 : decode cX7_leave 64 = .ok (.goto (-36), 3) := by decide +kernel
theorem dX7_leave_67 : decode cX7_leave 67 = .ok (.iload_n 2, 1) := by decide +kernel
theorem dX7_leave_68 : decode cX7_leave 68 = .ok (.ifCond .ne 6, 3) := by decide +kernel
theorem dX7_leave_71 : decode cX7_leave 71 = .ok (.bipush (-103), 2) := by decide +kernel
theorem dX7_leave_73 : decode cX7_leave 73 = .ok (.ireturn, 1) := by decide +kernel
theorem dX7_leave_74 : decode cX7_leave 74 = .ok (.aload_n 0, 1) := by decide +kernel
theorem dX7_leave_75 : decode cX7_leave 75 = .ok (.getfield 16, 3) := by decide +kernel
theorem dX7_leave_78 : decode cX7_leave 78 = .ok (.iload_n 1, 1) := by decide +kernel
theorem dX7_leave_79 : decode cX7_leave 79 = .ok (.iaload, 1) := by decide +kernel
theorem dX7_leave_80 : decode cX7_leave 80 = .ok (.istore_n 3, 1) := by decide +kernel
theorem dX7_leave_81 : decode cX7_leave 81 = .ok (.aload_n 0, 1) := by decide +kernel
theorem dX7_leave_82 : decode cX7_leave 82 = .ok (.getfield 16, 3) := by decide +kernel
theorem dX7_leave_85 : decode cX7_leave 85 = .ok (.iload_n 1, 1) := by decide +kernel
theorem dX7_leave_86 : decode cX7_leave 86 = .ok (.iconst 0, 1) := by decide +kernel
theorem dX7_leave_87 : decode cX7_leave 87 = .ok (.iastore, 1) := by decide +kernel
theorem dX7_leave_88 : decode cX7_leave 88 = .ok (.iload_n 3, 1) := by decide +kernel
theorem dX7_leave_89 : decode cX7_leave 89 = .ok (.ireturn, 1) := by decide +kernel
theorem dX7_load_0 : decode cX7_load 0 = .ok (.aload_n 0, 1) := by decide +kernel
theorem dX7_load_1 : decode cX7_load 1 = .ok (.getfield 16, 3) := by decide +kernel
theorem dX7_load_4 : decode cX7_load 4 = .ok (.iload_n 1, 1) := by decide +kernel
theorem dX7_load_5 : decode cX7_load 5 = .ok (.iaload, 1) := by decide +kernel
theorem dX7_load_6 : decode cX7_load 6 = .ok (.ifCond .le 19, 3) := by decide +kernel
theorem dX7_load_9 : decode cX7_load 9 = .ok (.aload_n 0, 1) := by decide +kernel
theorem dX7_load_10 : decode cX7_load 10 = .ok (.getfield 16, 3) := by decide +kernel
theorem dX7_load_13 : decode cX7_load 13 = .ok (.iload_n 1, 1) := by decide +kernel
theorem dX7_load_14 : decode cX7_load 14 = .ok (.iaload, 1) := by decide +kernel
theorem dX7_load_15 : decode cX7_load 15 = .ok (.aload_n 0, 1) := by decide +kernel
theorem dX7_load_16 : decode cX7_load 16 = .ok (.getfield 19, 3) := by decide +kernel
theorem dX7_load_19 : decode cX7_load 19 = .ok (.iload_n 1, 1) := by decide +kernel
theorem dX7_load_20 : decode cX7_load 20 = .ok (.iaload, 1) := by decide +kernel
theorem dX7_load_21 : decode cX7_load 21 = .ok (.iadd, 1) := by decide +kernel
theorem dX7_load_22 : decode cX7_load 22 = .ok (.goto 4, 3) := by decide +kernel
theorem dX7_load_25 : decode cX7_load 25 = .ok (.iconst 0, 1) := by decide +kernel
theorem dX7_load_26 : decode cX7_load 26 = .ok (.ireturn, 1) := by decide +kernel
theorem dX7_shakeOf_0 : decode cX7_shakeOf 0 = .ok (.iconst 0, 1) := by decide +kernel
theorem dX7_shakeOf_1 : decode cX7_shakeOf 1 = .ok (.istore_n 1, 1) := by decide +kernel
theorem dX7_shakeOf_2 : decode cX7_shakeOf 2 = .ok (.iconst 0, 1) := by decide +kernel
theorem dX7_shakeOf_3 : decode cX7_shakeOf 3 = .ok (.istore_n 2, 1) := by decide +kernel
theorem dX7_shakeOf_4 : decode cX7_shakeOf 4 = .ok (.iconst 0, 1) := by decide +kernel
theorem dX7_shakeOf_5 : decode cX7_shakeOf 5 = .ok (.istore_n 3, 1) := by decide +kernel
theorem dX7_shakeOf_6 : decode cX7_shakeOf 6 = .ok (.iload_n 3, 1) := by decide +kernel
theorem dX7_shakeOf_7 : decode cX7_shakeOf 7 = .ok (.bipush 12, 2) := by decide +kernel
theorem dX7_shakeOf_9 : decode cX7_shakeOf 9 = .ok (.if_icmp .ge 39, 3) := by decide +kernel
theorem dX7_shakeOf_12 : decode cX7_shakeOf 12 = .ok (.iload_n 1, 1) := by decide +kernel
theorem dX7_shakeOf_13 : decode cX7_shakeOf 13 = .ok (.aload_n 0, 1) := by decide +kernel
theorem dX7_shakeOf_14 : decode cX7_shakeOf 14 = .ok (.iload_n 3, 1) := by decide +kernel
theorem dX7_shakeOf_15 : decode cX7_shakeOf 15 = .ok (.invokevirtual 94, 3) := by decide +kernel
theorem dX7_shakeOf_18 : decode cX7_shakeOf 18 = .ok (.aload_n 0, 1) := by decide +kernel
theorem dX7_shakeOf_19 : decode cX7_shakeOf 19 = .ok (.getfield 7, 3) := by decide +kernel
theorem dX7_shakeOf_22 : decode cX7_shakeOf 22 = .ok (.iload_n 3, 1) := by decide +kernel
theorem dX7_shakeOf_23 : decode cX7_shakeOf 23 = .ok (.iaload, 1) := by decide +kernel
theorem dX7_shakeOf_24 : decode cX7_shakeOf 24 = .ok (.imul, 1) := by decide +kernel
theorem dX7_shakeOf_25 : decode cX7_shakeOf 25 = .ok (.iadd, 1) := by decide +kernel
theorem dX7_shakeOf_26 : decode cX7_shakeOf 26 = .ok (.istore_n 1, 1) := by decide +kernel
theorem dX7_shakeOf_27 : decode cX7_shakeOf 27 = .ok (.iload_n 2, 1) := by decide +kernel
theorem dX7_shakeOf_28 : decode cX7_shakeOf 28 = .ok (.aload_n 0, 1) := by decide +kernel
theorem dX7_shakeOf_29 : decode cX7_shakeOf 29 = .ok (.iload_n 3, 1) := by decide +kernel
theorem dX7_shakeOf_30 : decode cX7_shakeOf 30 = .ok (.invokevirtual 94, 3) := by decide +kernel
theorem dX7_shakeOf_33 : decode cX7_shakeOf 33 = .ok (.aload_n 0, 1) := by decide +kernel
theorem dX7_shakeOf_34 : decode cX7_shakeOf 34 = .ok (.getfield 13, 3) := by decide +kernel
theorem dX7_shakeOf_37 : decode cX7_shakeOf 37 = .ok (.iload_n 3, 1) := by decide +kernel
theorem dX7_shakeOf_38 : decode cX7_shakeOf 38 = .ok (.iaload, 1) := by decide +kernel
theorem dX7_shakeOf_39 : decode cX7_shakeOf 39 = .ok (.imul, 1) := by decide +kernel
theorem dX7_shakeOf_40 : decode cX7_shakeOf 40 = .ok (.iadd, 1) := by decide +kernel
theorem dX7_shakeOf_41 : decode cX7_shakeOf 41 = .ok (.istore_n 2, 1) := by decide +kernel
theorem dX7_shakeOf_42 : decode cX7_shakeOf 42 = .ok (.iinc 3 1, 3) := by decide +kernel
theorem dX7_shakeOf_45 : decode cX7_shakeOf 45 = .ok (.goto (-39), 3) := by decide +kernel
theorem dX7_shakeOf_48 : decode cX7_shakeOf 48 = .ok (.iload_n 1, 1) := by decide +kernel
theorem dX7_shakeOf_49 : decode cX7_shakeOf 49 = .ok (.iload_n 1, 1) := by decide +kernel
theorem dX7_shakeOf_50 : decode cX7_shakeOf 50 = .ok (.imul, 1) := by decide +kernel
theorem dX7_shakeOf_51 : decode cX7_shakeOf 51 = .ok (.iload_n 2, 1) := by decide +kernel
theorem dX7_shakeOf_52 : decode cX7_shakeOf 52 = .ok (.iload_n 2, 1) := by decide +kernel
theorem dX7_shakeOf_53 : decode cX7_shakeOf 53 = .ok (.imul, 1) := by decide +kernel
theorem dX7_shakeOf_54 : decode cX7_shakeOf 54 = .ok (.iadd, 1) := by decide +kernel
theorem dX7_shakeOf_55 : decode cX7_shakeOf 55 = .ok (.ireturn, 1) := by decide +kernel
theorem dX7_risingOf_0 : decode cX7_risingOf 0 = .ok (.iconst 0, 1) := by decide +kernel
theorem dX7_risingOf_1 : decode cX7_risingOf 1 = .ok (.istore_n 1, 1) := by decide +kernel
theorem dX7_risingOf_2 : decode cX7_risingOf 2 = .ok (.iconst 0, 1) := by decide +kernel
theorem dX7_risingOf_3 : decode cX7_risingOf 3 = .ok (.istore_n 2, 1) := by decide +kernel
theorem dX7_risingOf_4 : decode cX7_risingOf 4 = .ok (.iload_n 2, 1) := by decide +kernel
theorem dX7_risingOf_5 : decode cX7_risingOf 5 = .ok (.bipush 12, 2) := by decide +kernel
theorem dX7_risingOf_7 : decode cX7_risingOf 7 = .ok (.if_icmp .ge 32, 3) := by decide +kernel
theorem dX7_risingOf_10 : decode cX7_risingOf 10 = .ok (.iload_n 1, 1) := by decide +kernel
theorem dX7_risingOf_11 : decode cX7_risingOf 11 = .ok (.iload_n 2, 1) := by decide +kernel
theorem dX7_risingOf_12 : decode cX7_risingOf 12 = .ok (.iconst 2, 1) := by decide +kernel
theorem dX7_risingOf_13 : decode cX7_risingOf 13 = .ok (.irem, 1) := by decide +kernel
theorem dX7_risingOf_14 : decode cX7_risingOf 14 = .ok (.ifCond .ne 11, 3) := by decide +kernel
theorem dX7_risingOf_17 : decode cX7_risingOf 17 = .ok (.aload_n 0, 1) := by decide +kernel
theorem dX7_risingOf_18 : decode cX7_risingOf 18 = .ok (.iload_n 2, 1) := by decide +kernel
theorem dX7_risingOf_19 : decode cX7_risingOf 19 = .ok (.invokevirtual 94, 3) := by decide +kernel
theorem dX7_risingOf_22 : decode cX7_risingOf 22 = .ok (.goto 9, 3) := by decide +kernel
theorem dX7_risingOf_25 : decode cX7_risingOf 25 = .ok (.aload_n 0, 1) := by decide +kernel
theorem dX7_risingOf_26 : decode cX7_risingOf 26 = .ok (.iload_n 2, 1) := by decide +kernel
theorem dX7_risingOf_27 : decode cX7_risingOf 27 = .ok (.invokevirtual 94, 3) := by decide +kernel
theorem dX7_risingOf_30 : decode cX7_risingOf 30 = .ok (.ineg, 1) := by decide +kernel
theorem dX7_risingOf_31 : decode cX7_risingOf 31 = .ok (.iadd, 1) := by decide +kernel
theorem dX7_risingOf_32 : decode cX7_risingOf 32 = .ok (.istore_n 1, 1) := by decide +kernel
theorem dX7_risingOf_33 : decode cX7_risingOf 33 = .ok (.iinc 2 1, 3) := by decide +kernel
theorem dX7_risingOf_36 : decode cX7_risingOf 36 = .ok (.goto (-32), 3) := by decide +kernel
theorem dX7_risingOf_39 : decode cX7_risingOf 39 = .ok (.iload_n 1, 1) := by decide +kernel
theorem dX7_risingOf_40 : decode cX7_risingOf 40 = .ok (.ireturn, 1) := by decide +kernel
theorem dX7_mayTurn_0 : decode cX7_mayTurn 0 = .ok (.aload_n 0, 1) := by decide +kernel
theorem dX7_mayTurn_1 : decode cX7_mayTurn 1 = .ok (.invokevirtual 98, 3) := by decide +kernel
theorem dX7_mayTurn_4 : decode cX7_mayTurn 4 = .ok (.istore_n 1, 1) := by decide +kernel
theorem dX7_mayTurn_5 : decode cX7_mayTurn 5 = .ok (.aload_n 0, 1) := by decide +kernel
theorem dX7_mayTurn_6 : decode cX7_mayTurn 6 = .ok (.invokevirtual 101, 3) := by decide +kernel
theorem dX7_mayTurn_9 : decode cX7_mayTurn 9 = .ok (.aload_n 0, 1) := by decide +kernel
theorem dX7_mayTurn_10 : decode cX7_mayTurn 10 = .ok (.getfield 59, 3) := by decide +kernel
theorem dX7_mayTurn_13 : decode cX7_mayTurn 13 = .ok (.aload_n 0, 1) := by decide +kernel
theorem dX7_mayTurn_14 : decode cX7_mayTurn 14 = .ok (.getfield 59, 3) := by decide +kernel
theorem dX7_mayTurn_17 : decode cX7_mayTurn 17 = .ok (.imul, 1) := by decide +kernel
theorem dX7_mayTurn_18 : decode cX7_mayTurn 18 = .ok (.if_icmp .gt 24, 3) := by decide +kernel
theorem dX7_mayTurn_21 : decode cX7_mayTurn 21 = .ok (.iload_n 1, 1) := by decide +kernel
theorem dX7_mayTurn_22 : decode cX7_mayTurn 22 = .ok (.aload_n 0, 1) := by decide +kernel
theorem dX7_mayTurn_23 : decode cX7_mayTurn 23 = .ok (.getfield 63, 3) := by decide +kernel
theorem dX7_mayTurn_26 : decode cX7_mayTurn 26 = .ok (.if_icmp .gt 16, 3) := by decide +kernel
theorem dX7_mayTurn_29 : decode cX7_mayTurn 29 = .ok (.iload_n 1, 1) := by decide +kernel
theorem dX7_mayTurn_30 : decode cX7_mayTurn 30 = .ok (.ineg, 1) := by decide +kernel
theorem dX7_mayTurn_31 : decode cX7_mayTurn 31 = .ok (.aload_n 0, 1) := by decide +kernel
theorem dX7_mayTurn_32 : decode cX7_mayTurn 32 = .ok (.getfield 63, 3) := by decide +kernel
theorem dX7_mayTurn_35 : decode cX7_mayTurn 35 = .ok (.if_icmp .gt 7, 3) := by decide +kernel
theorem dX7_mayTurn_38 : decode cX7_mayTurn 38 = .ok (.iconst 1, 1) := by decide +kernel
theorem dX7_mayTurn_39 : decode cX7_mayTurn 39 = .ok (.goto 4, 3) := by decide +kernel
theorem dX7_mayTurn_42 : decode cX7_mayTurn 42 = .ok (.iconst 0, 1) := by decide +kernel
theorem dX7_mayTurn_43 : decode cX7_mayTurn 43 = .ok (.ireturn, 1) := by decide +kernel
theorem dX7_isBlocked_0 : decode cX7_isBlocked 0 = .ok (.aload_n 0, 1) := by decide +kernel
theorem dX7_isBlocked_1 : decode cX7_isBlocked 1 = .ok (.getfield 19, 3) := by decide +kernel
theorem dX7_isBlocked_4 : decode cX7_isBlocked 4 = .ok (.iload_n 1, 1) := by decide +kernel
theorem dX7_isBlocked_5 : decode cX7_isBlocked 5 = .ok (.iload_n 2, 1) := by decide +kernel
theorem dX7_isBlocked_6 : decode cX7_isBlocked 6 = .ok (.iastore, 1) := by decide +kernel
theorem dX7_isBlocked_7 : decode cX7_isBlocked 7 = .ok (.aload_n 0, 1) := by decide +kernel
theorem dX7_isBlocked_8 : decode cX7_isBlocked 8 = .ok (.invokevirtual 104, 3) := by decide +kernel
theorem dX7_isBlocked_11 : decode cX7_isBlocked 11 = .ok (.istore_n 3, 1) := by decide +kernel
theorem dX7_isBlocked_12 : decode cX7_isBlocked 12 = .ok (.aload_n 0, 1) := by decide +kernel
theorem dX7_isBlocked_13 : decode cX7_isBlocked 13 = .ok (.getfield 19, 3) := by decide +kernel
theorem dX7_isBlocked_16 : decode cX7_isBlocked 16 = .ok (.iload_n 1, 1) := by decide +kernel
theorem dX7_isBlocked_17 : decode cX7_isBlocked 17 = .ok (.iconst 0, 1) := by decide +kernel
theorem dX7_isBlocked_18 : decode cX7_isBlocked 18 = .ok (.iastore, 1) := by decide +kernel
theorem dX7_isBlocked_19 : decode cX7_isBlocked 19 = .ok (.iload_n 3, 1) := by decide +kernel
theorem dX7_isBlocked_20 : decode cX7_isBlocked 20 = .ok (.ifCond .ne 7, 3) := by decide +kernel
theorem dX7_isBlocked_23 : decode cX7_isBlocked 23 = .ok (.iconst 1, 1) := by decide +kernel
theorem dX7_isBlocked_24 : decode cX7_isBlocked 24 = .ok (.goto 4, 3) := by decide +kernel
theorem dX7_isBlocked_27 : decode cX7_isBlocked 27 = .ok (.iconst 0, 1) := by decide +kernel
theorem dX7_isBlocked_28 : decode cX7_isBlocked 28 = .ok (.ireturn, 1) := by decide +kernel
theorem dX7_isRider_0 : decode cX7_isRider 0 = .ok (.iload_n 0, 1) := by decide +kernel
theorem dX7_isRider_1 : decode cX7_isRider 1 = .ok (.i2l, 1) := by decide +kernel
theorem dX7_isRider_2 : decode cX7_isRider 2 = .ok (.lconst 1, 1) := by decide +kernel
theorem dX7_isRider_3 : decode cX7_isRider 3 = .ok (.ldc2_w 108, 3) := by decide +kernel
theorem dX7_isRider_6 : decode cX7_isRider 6 = .ok (.invokestatic 75, 3) := by decide +kernel
theorem dX7_isRider_9 : decode cX7_isRider 9 = .ok (.ireturn, 1) := by decide +kernel
theorem dX7_sit_0 : decode cX7_sit 0 = .ok (.aload_n 0, 1) := by decide +kernel
theorem dX7_sit_1 : decode cX7_sit 1 = .ok (.iload_n 1, 1) := by decide +kernel
theorem dX7_sit_2 : decode cX7_sit 2 = .ok (.invokevirtual 91, 3) := by decide +kernel
theorem dX7_sit_5 : decode cX7_sit 5 = .ok (.ifCond .ne 6, 3) := by decide +kernel
theorem dX7_sit_8 : decode cX7_sit 8 = .ok (.bipush (-101), 2) := by decide +kernel
theorem dX7_sit_10 : decode cX7_sit 10 = .ok (.ireturn, 1) := by decide +kernel
theorem dX7_sit_11 : decode cX7_sit 11 = .ok (.iload_n 2, 1) := by decide +kernel
theorem dX7_sit_12 : decode cX7_sit 12 = .ok (.invokestatic 110, 3) := by decide +kernel
theorem dX7_sit_15 : decode cX7_sit 15 = .ok (.ifCond .ne 6, 3) := by decide +kernel
theorem dX7_sit_18 : decode cX7_sit 18 = .ok (.bipush (-102), 2) := by decide +kernel
theorem dX7_sit_20 : decode cX7_sit 20 = .ok (.ireturn, 1) := by decide +kernel
theorem dX7_sit_21 : decode cX7_sit 21 = .ok (.aload_n 0, 1) := by decide +kernel
theorem dX7_sit_22 : decode cX7_sit 22 = .ok (.getfield 19, 3) := by decide +kernel
theorem dX7_sit_25 : decode cX7_sit 25 = .ok (.iload_n 1, 1) := by decide +kernel
theorem dX7_sit_26 : decode cX7_sit 26 = .ok (.iaload, 1) := by decide +kernel
theorem dX7_sit_27 : decode cX7_sit 27 = .ok (.ifCond .gt 12, 3) := by decide +kernel
theorem dX7_sit_30 : decode cX7_sit 30 = .ok (.aload_n 0, 1) := by decide +kernel
theorem dX7_sit_31 : decode cX7_sit 31 = .ok (.iload_n 1, 1) := by decide +kernel
theorem dX7_sit_32 : decode cX7_sit 32 = .ok (.iload_n 2, 1) := by decide +kernel
theorem dX7_sit_33 : decode cX7_sit 33 = .ok (.invokevirtual 113, 3) := by decide +kernel
theorem dX7_sit_36 : decode cX7_sit 36 = .ok (.ifCond .eq 6, 3) := by decide +kernel
theorem dX7_sit_39 : decode cX7_sit 39 = .ok (.bipush (-103), 2) := by decide +kernel
theorem dX7_sit_41 : decode cX7_sit 41 = .ok (.ireturn, 1) := by decide +kernel
theorem dX7_sit_42 : decode cX7_sit 42 = .ok (.aload_n 0, 1) := by decide +kernel
theorem dX7_sit_43 : decode cX7_sit 43 = .ok (.getfield 19, 3) := by decide +kernel
theorem dX7_sit_46 : decode cX7_sit 46 = .ok (.iload_n 1, 1) := by decide +kernel
theorem dX7_sit_47 : decode cX7_sit 47 = .ok (.iload_n 2, 1) := by decide +kernel
theorem dX7_sit_48 : decode cX7_sit 48 = .ok (.iastore, 1) := by decide +kernel
theorem dX7_sit_49 : decode cX7_sit 49 = .ok (.aload_n 0, 1) := by decide +kernel
theorem dX7_sit_50 : decode cX7_sit 50 = .ok (.invokevirtual 101, 3) := by decide +kernel
theorem dX7_sit_53 : decode cX7_sit 53 = .ok (.ireturn, 1) := by decide +kernel
theorem dX7_rise_0 : decode cX7_rise 0 = .ok (.aload_n 0, 1) := by decide +kernel
theorem dX7_rise_1 : decode cX7_rise 1 = .ok (.iload_n 1, 1) := by decide +kernel
theorem dX7_rise_2 : decode cX7_rise 2 = .ok (.invokevirtual 91, 3) := by decide +kernel
theorem dX7_rise_5 : decode cX7_rise 5 = .ok (.ifCond .ne 6, 3) := by decide +kernel
theorem dX7_rise_8 : decode cX7_rise 8 = .ok (.bipush (-101), 2) := by decide +kernel
theorem dX7_rise_10 : decode cX7_rise 10 = .ok (.ireturn, 1) := by decide +kernel
theorem dX7_rise_11 : decode cX7_rise 11 = .ok (.aload_n 0, 1) := by decide +kernel
theorem dX7_rise_12 : decode cX7_rise 12 = .ok (.getfield 19, 3) := by decide +kernel
theorem dX7_rise_15 : decode cX7_rise 15 = .ok (.iload_n 1, 1) := by decide +kernel
theorem dX7_rise_16 : decode cX7_rise 16 = .ok (.iaload, 1) := by decide +kernel
theorem dX7_rise_17 : decode cX7_rise 17 = .ok (.ifCond .ne 6, 3) := by decide +kernel
theorem dX7_rise_20 : decode cX7_rise 20 = .ok (.bipush (-103), 2) := by decide +kernel
theorem dX7_rise_22 : decode cX7_rise 22 = .ok (.ireturn, 1) := by decide +kernel
theorem dX7_rise_23 : decode cX7_rise 23 = .ok (.aload_n 0, 1) := by decide +kernel
theorem dX7_rise_24 : decode cX7_rise 24 = .ok (.getfield 19, 3) := by decide +kernel
theorem dX7_rise_27 : decode cX7_rise 27 = .ok (.iload_n 1, 1) := by decide +kernel
theorem dX7_rise_28 : decode cX7_rise 28 = .ok (.iaload, 1) := by decide +kernel
theorem dX7_rise_29 : decode cX7_rise 29 = .ok (.istore_n 2, 1) := by decide +kernel
theorem dX7_rise_30 : decode cX7_rise 30 = .ok (.aload_n 0, 1) := by decide +kernel
theorem dX7_rise_31 : decode cX7_rise 31 = .ok (.getfield 19, 3) := by decide +kernel
theorem dX7_rise_34 : decode cX7_rise 34 = .ok (.iload_n 1, 1) := by decide +kernel
theorem dX7_rise_35 : decode cX7_rise 35 = .ok (.iconst 0, 1) := by decide +kernel
theorem dX7_rise_36 : decode cX7_rise 36 = .ok (.iastore, 1) := by decide +kernel
theorem dX7_rise_37 : decode cX7_rise 37 = .ok (.iload_n 2, 1) := by decide +kernel
theorem dX7_rise_38 : decode cX7_rise 38 = .ok (.ireturn, 1) := by decide +kernel
theorem dX7_shake_0 : decode cX7_shake 0 = .ok (.aload_n 0, 1) := by decide +kernel
theorem dX7_shake_1 : decode cX7_shake 1 = .ok (.invokevirtual 101, 3) := by decide +kernel
theorem dX7_shake_4 : decode cX7_shake 4 = .ok (.ireturn, 1) := by decide +kernel
theorem dX7_rising_0 : decode cX7_rising 0 = .ok (.aload_n 0, 1) := by decide +kernel
theorem dX7_rising_1 : decode cX7_rising 1 = .ok (.invokevirtual 98, 3) := by decide +kernel
theorem dX7_rising_4 : decode cX7_rising 4 = .ok (.ireturn, 1) := by decide +kernel
theorem dX7_may_0 : decode cX7_may 0 = .ok (.aload_n 0, 1) := by decide +kernel
theorem dX7_may_1 : decode cX7_may 1 = .ok (.invokevirtual 104, 3) := by decide +kernel
theorem dX7_may_4 : decode cX7_may 4 = .ok (.ifCond .eq 7, 3) := by decide +kernel
theorem dX7_may_7 : decode cX7_may 7 = .ok (.iconst 1, 1) := by decide +kernel
theorem dX7_may_8 : decode cX7_may 8 = .ok (.goto 4, 3) := by decide +kernel
theorem dX7_may_11 : decode cX7_may 11 = .ok (.iconst 0, 1) := by decide +kernel
theorem dX7_may_12 : decode cX7_may 12 = .ok (.ireturn, 1) := by decide +kernel
theorem dX7_law_0 : decode cX7_law 0 = .ok (.iload_n 1, 1) := by decide +kernel
theorem dX7_law_1 : decode cX7_law 1 = .ok (.i2l, 1) := by decide +kernel
theorem dX7_law_2 : decode cX7_law 2 = .ok (.lconst 0, 1) := by decide +kernel
theorem dX7_law_3 : decode cX7_law 3 = .ok (.lconst 1, 1) := by decide +kernel
theorem dX7_law_4 : decode cX7_law 4 = .ok (.invokestatic 75, 3) := by decide +kernel
theorem dX7_law_7 : decode cX7_law 7 = .ok (.ifCond .ne 6, 3) := by decide +kernel
theorem dX7_law_10 : decode cX7_law 10 = .ok (.bipush (-101), 2) := by decide +kernel
theorem dX7_law_12 : decode cX7_law 12 = .ok (.ireturn, 1) := by decide +kernel
theorem dX7_law_13 : decode cX7_law 13 = .ok (.iload_n 2, 1) := by decide +kernel
theorem dX7_law_14 : decode cX7_law 14 = .ok (.i2l, 1) := by decide +kernel
theorem dX7_law_15 : decode cX7_law 15 = .ok (.lconst 0, 1) := by decide +kernel
theorem dX7_law_16 : decode cX7_law 16 = .ok (.iload_n 1, 1) := by decide +kernel
theorem dX7_law_17 : decode cX7_law 17 = .ok (.ifCond .ne 9, 3) := by decide +kernel
theorem dX7_law_20 : decode cX7_law 20 = .ok (.ldc2_w 117, 3) := by decide +kernel
theorem dX7_law_23 : decode cX7_law 23 = .ok (.goto 6, 3) := by decide +kernel
theorem dX7_law_26 : decode cX7_law 26 = .ok (.ldc2_w 119, 3) := by decide +kernel
theorem dX7_law_29 : decode cX7_law 29 = .ok (.invokestatic 75, 3) := by decide +kernel
theorem dX7_law_32 : decode cX7_law 32 = .ok (.ifCond .ne 6, 3) := by decide +kernel
theorem dX7_law_35 : decode cX7_law 35 = .ok (.bipush (-102), 2) := by decide +kernel
theorem dX7_law_37 : decode cX7_law 37 = .ok (.ireturn, 1) := by decide +kernel
theorem dX7_law_38 : decode cX7_law 38 = .ok (.iload_n 1, 1) := by decide +kernel
theorem dX7_law_39 : decode cX7_law 39 = .ok (.ifCond .ne 10, 3) := by decide +kernel
theorem dX7_law_42 : decode cX7_law 42 = .ok (.aload_n 0, 1) := by decide +kernel
theorem dX7_law_43 : decode cX7_law 43 = .ok (.getfield 59, 3) := by decide +kernel
theorem dX7_law_46 : decode cX7_law 46 = .ok (.goto 7, 3) := by decide +kernel
theorem dX7_law_49 : decode cX7_law 49 = .ok (.aload_n 0, 1) := by decide +kernel
theorem dX7_law_50 : decode cX7_law 50 = .ok (.getfield 63, 3) := by decide +kernel
theorem dX7_law_53 : decode cX7_law 53 = .ok (.istore_n 3, 1) := by decide +kernel
theorem dX7_law_54 : decode cX7_law 54 = .ok (.iload_n 1, 1) := by decide +kernel
theorem dX7_law_55 : decode cX7_law 55 = .ok (.ifCond .ne 11, 3) := by decide +kernel
theorem dX7_law_58 : decode cX7_law 58 = .ok (.aload_n 0, 1) := by decide +kernel
theorem dX7_law_59 : decode cX7_law 59 = .ok (.iload_n 2, 1) := by decide +kernel
theorem dX7_law_60 : decode cX7_law 60 = .ok (.putfield 59, 3) := by decide +kernel
theorem dX7_law_63 : decode cX7_law 63 = .ok (.goto 8, 3) := by decide +kernel
theorem dX7_law_66 : decode cX7_law 66 = .ok (.aload_n 0, 1) := by decide +kernel
theorem dX7_law_67 : decode cX7_law 67 = .ok (.iload_n 2, 1) := by decide +kernel
theorem dX7_law_68 : decode cX7_law 68 = .ok (.putfield 63, 3) := by decide +kernel
theorem dX7_law_71 : decode cX7_law 71 = .ok (.iload_n 3, 1) := by decide +kernel
theorem dX7_law_72 : decode cX7_law 72 = .ok (.ireturn, 1) := by decide +kernel
theorem dX7_isFree_0 : decode cX7_isFree 0 = .ok (.aload_n 0, 1) := by decide +kernel
theorem dX7_isFree_1 : decode cX7_isFree 1 = .ok (.getfield 16, 3) := by decide +kernel
theorem dX7_isFree_4 : decode cX7_isFree 4 = .ok (.iload_n 1, 1) := by decide +kernel
theorem dX7_isFree_5 : decode cX7_isFree 5 = .ok (.iaload, 1) := by decide +kernel
theorem dX7_isFree_6 : decode cX7_isFree 6 = .ok (.ifCond .le 16, 3) := by decide +kernel
theorem dX7_isFree_9 : decode cX7_isFree 9 = .ok (.aload_n 0, 1) := by decide +kernel
theorem dX7_isFree_10 : decode cX7_isFree 10 = .ok (.getfield 19, 3) := by decide +kernel
theorem dX7_isFree_13 : decode cX7_isFree 13 = .ok (.iload_n 1, 1) := by decide +kernel
theorem dX7_isFree_14 : decode cX7_isFree 14 = .ok (.iaload, 1) := by decide +kernel
theorem dX7_isFree_15 : decode cX7_isFree 15 = .ok (.ifCond .ne 7, 3) := by decide +kernel
theorem dX7_isFree_18 : decode cX7_isFree 18 = .ok (.iconst 1, 1) := by decide +kernel
theorem dX7_isFree_19 : decode cX7_isFree 19 = .ok (.goto 4, 3) := by decide +kernel
theorem dX7_isFree_22 : decode cX7_isFree 22 = .ok (.iconst 0, 1) := by decide +kernel
theorem dX7_isFree_23 : decode cX7_isFree 23 = .ok (.ireturn, 1) := by decide +kernel
theorem dX7_bestOf_0 : decode cX7_bestOf 0 = .ok (.iconst (-1), 1) := by decide +kernel
theorem dX7_bestOf_1 : decode cX7_bestOf 1 = .ok (.istore_n 2, 1) := by decide +kernel
theorem dX7_bestOf_2 : decode cX7_bestOf 2 = .ok (.iconst 0, 1) := by decide +kernel
theorem dX7_bestOf_3 : decode cX7_bestOf 3 = .ok (.istore_n 3, 1) := by decide +kernel
theorem dX7_bestOf_4 : decode cX7_bestOf 4 = .ok (.iconst 0, 1) := by decide +kernel
theorem dX7_bestOf_5 : decode cX7_bestOf 5 = .ok (.istore 4, 2) := by decide +kernel
theorem dX7_bestOf_7 : decode cX7_bestOf 7 = .ok (.iload 4, 2) := by decide +kernel
theorem dX7_bestOf_9 : decode cX7_bestOf 9 = .ok (.bipush 12, 2) := by decide +kernel
theorem dX7_bestOf_11 : decode cX7_bestOf 11 = .ok (.if_icmp .ge 67, 3) := by decide +kernel
theorem dX7_bestOf_14 : decode cX7_bestOf 14 = .ok (.aload_n 0, 1) := by decide +kernel
theorem dX7_bestOf_15 : decode cX7_bestOf 15 = .ok (.iload 4, 2) := by decide +kernel
theorem dX7_bestOf_17 : decode cX7_bestOf 17 = .ok (.invokevirtual 121, 3) := by decide +kernel
theorem dX7_bestOf_20 : decode cX7_bestOf 20 = .ok (.ifCond .eq 52, 3) := by decide +kernel
theorem dX7_bestOf_23 : decode cX7_bestOf 23 = .ok (.aload_n 0, 1) := by decide +kernel
theorem dX7_bestOf_24 : decode cX7_bestOf 24 = .ok (.iload 4, 2) := by decide +kernel
theorem dX7_bestOf_26 : decode cX7_bestOf 26 = .ok (.iload_n 1, 1) := by decide +kernel
theorem dX7_bestOf_27 : decode cX7_bestOf 27 = .ok (.invokevirtual 113, 3) := by decide +kernel
theorem dX7_bestOf_30 : decode cX7_bestOf 30 = .ok (.ifCond .ne 42, 3) := by decide +kernel
theorem dX7_bestOf_33 : decode cX7_bestOf 33 = .ok (.aload_n 0, 1) := by decide +kernel
theorem dX7_bestOf_34 : decode cX7_bestOf 34 = .ok (.getfield 19, 3) := by decide +kernel
theorem dX7_bestOf_37 : decode cX7_bestOf 37 = .ok (.iload 4, 2) := by decide +kernel
theorem dX7_bestOf_39 : decode cX7_bestOf 39 = .ok (.iload_n 1, 1) := by decide +kernel
theorem dX7_bestOf_40 : decode cX7_bestOf 40 = .ok (.iastore, 1) := by decide +kernel
theorem dX7_bestOf_41 : decode cX7_bestOf 41 = .ok (.aload_n 0, 1) := by decide +kernel
theorem dX7_bestOf_42 : decode cX7_bestOf 42 = .ok (.invokevirtual 101, 3) := by decide +kernel
theorem dX7_bestOf_45 : decode cX7_bestOf 45 = .ok (.istore 5, 2) := by decide +kernel
theorem dX7_bestOf_47 : decode cX7_bestOf 47 = .ok (.aload_n 0, 1) := by decide +kernel
theorem dX7_bestOf_48 : decode cX7_bestOf 48 = .ok (.getfield 19, 3) := by decide +kernel
theorem dX7_bestOf_51 : decode cX7_bestOf 51 = .ok (.iload 4, 2) := by decide +kernel
theorem dX7_bestOf_53 : decode cX7_bestOf 53 = .ok (.iconst 0, 1) := by decide +kernel
theorem dX7_bestOf_54 : decode cX7_bestOf 54 = .ok (.iastore, 1) := by decide +kernel
theorem dX7_bestOf_55 : decode cX7_bestOf 55 = .ok (.iload_n 2, 1) := by decide +kernel
theorem dX7_bestOf_56 : decode cX7_bestOf 56 = .ok (.iconst (-1), 1) := by decide +kernel
theorem dX7_bestOf_57 : decode cX7_bestOf 57 = .ok (.if_icmp .eq 9, 3) := by decide +kernel
theorem dX7_bestOf_60 : decode cX7_bestOf 60 = .ok (.iload 5, 2) := by decide +kernel
theorem dX7_bestOf_62 : decode cX7_bestOf 62 = .ok (.iload_n 3, 1) := by decide +kernel
theorem dX7_bestOf_63 : decode cX7_bestOf 63 = .ok (.if_icmp .ge 9, 3) := by decide +kernel
theorem dX7_bestOf_66 : decode cX7_bestOf 66 = .ok (.iload 4, 2) := by decide +kernel
theorem dX7_bestOf_68 : decode cX7_bestOf 68 = .ok (.istore_n 2, 1) := by decide +kernel
theorem dX7_bestOf_69 : decode cX7_bestOf 69 = .ok (.iload 5, 2) := by decide +kernel
theorem dX7_bestOf_71 : decode cX7_bestOf 71 = .ok (.istore_n 3, 1) := by decide +kernel
theorem dX7_bestOf_72 : decode cX7_bestOf 72 = .ok (.iinc 4 1, 3) := by decide +kernel
theorem dX7_bestOf_75 : decode cX7_bestOf 75 = .ok (.goto (-68), 3) := by decide +kernel
theorem dX7_bestOf_78 : decode cX7_bestOf 78 = .ok (.iload_n 2, 1) := by decide +kernel
theorem dX7_bestOf_79 : decode cX7_bestOf 79 = .ok (.ireturn, 1) := by decide +kernel
theorem dX7_best_0 : decode cX7_best 0 = .ok (.iload_n 1, 1) := by decide +kernel
theorem dX7_best_1 : decode cX7_best 1 = .ok (.invokestatic 110, 3) := by decide +kernel
theorem dX7_best_4 : decode cX7_best 4 = .ok (.ifCond .eq 11, 3) := by decide +kernel
theorem dX7_best_7 : decode cX7_best 7 = .ok (.aload_n 0, 1) := by decide +kernel
theorem dX7_best_8 : decode cX7_best 8 = .ok (.iload_n 1, 1) := by decide +kernel
theorem dX7_best_9 : decode cX7_best 9 = .ok (.invokevirtual 124, 3) := by decide +kernel
theorem dX7_best_12 : decode cX7_best 12 = .ok (.goto 5, 3) := by decide +kernel
theorem dX7_best_15 : decode cX7_best 15 = .ok (.bipush (-102), 2) := by decide +kernel
theorem dX7_best_17 : decode cX7_best 17 = .ok (.ireturn, 1) := by decide +kernel
theorem dX7_group_0 : decode cX7_group 0 = .ok (.iload_n 1, 1) := by decide +kernel
theorem dX7_group_1 : decode cX7_group 1 = .ok (.i2l, 1) := by decide +kernel
theorem dX7_group_2 : decode cX7_group 2 = .ok (.lconst 1, 1) := by decide +kernel
theorem dX7_group_3 : decode cX7_group 3 = .ok (.ldc2_w 127, 3) := by decide +kernel
theorem dX7_group_6 : decode cX7_group 6 = .ok (.invokestatic 75, 3) := by decide +kernel
theorem dX7_group_9 : decode cX7_group 9 = .ok (.ifCond .eq 35, 3) := by decide +kernel
theorem dX7_group_12 : decode cX7_group 12 = .ok (.iload_n 2, 1) := by decide +kernel
theorem dX7_group_13 : decode cX7_group 13 = .ok (.invokestatic 110, 3) := by decide +kernel
theorem dX7_group_16 : decode cX7_group 16 = .ok (.ifCond .eq 28, 3) := by decide +kernel
theorem dX7_group_19 : decode cX7_group 19 = .ok (.iload_n 1, 1) := by decide +kernel
theorem dX7_group_20 : decode cX7_group 20 = .ok (.iconst 1, 1) := by decide +kernel
theorem dX7_group_21 : decode cX7_group 21 = .ok (.if_icmp .le 10, 3) := by decide +kernel
theorem dX7_group_24 : decode cX7_group 24 = .ok (.iload_n 3, 1) := by decide +kernel
theorem dX7_group_25 : decode cX7_group 25 = .ok (.invokestatic 110, 3) := by decide +kernel
theorem dX7_group_28 : decode cX7_group 28 = .ok (.ifCond .eq 16, 3) := by decide +kernel
theorem dX7_group_31 : decode cX7_group 31 = .ok (.iload_n 1, 1) := by decide +kernel
theorem dX7_group_32 : decode cX7_group 32 = .ok (.iconst 2, 1) := by decide +kernel
theorem dX7_group_33 : decode cX7_group 33 = .ok (.if_icmp .le 14, 3) := by decide +kernel
theorem dX7_group_36 : decode cX7_group 36 = .ok (.iload 4, 2) := by decide +kernel
theorem dX7_group_38 : decode cX7_group 38 = .ok (.invokestatic 110, 3) := by decide +kernel
theorem dX7_group_41 : decode cX7_group 41 = .ok (.ifCond .ne 6, 3) := by decide +kernel
theorem dX7_group_44 : decode cX7_group 44 = .ok (.bipush (-102), 2) := by decide +kernel
theorem dX7_group_46 : decode cX7_group 46 = .ok (.ireturn, 1) := by decide +kernel
theorem dX7_group_47 : decode cX7_group 47 = .ok (.aload_n 0, 1) := by decide +kernel
theorem dX7_group_48 : decode cX7_group 48 = .ok (.getfield 129, 3) := by decide +kernel
theorem dX7_group_51 : decode cX7_group 51 = .ok (.bipush 60, 2) := by decide +kernel
theorem dX7_group_53 : decode cX7_group 53 = .ok (.if_icmp .ne 6, 3) := by decide +kernel
theorem dX7_group_56 : decode cX7_group 56 = .ok (.bipush (-103), 2) := by decide +kernel
theorem dX7_group_58 : decode cX7_group 58 = .ok (.ireturn, 1) := by decide +kernel
theorem dX7_group_59 : decode cX7_group 59 = .ok (.aload_n 0, 1) := by decide +kernel
theorem dX7_group_60 : decode cX7_group 60 = .ok (.dup, 1) := by decide +kernel
theorem dX7_group_61 : decode cX7_group 61 = .ok (.getfield 129, 3) := by decide +kernel
theorem dX7_group_64 : decode cX7_group 64 = .ok (.iconst 1, 1) := by decide +kernel
theorem dX7_group_65 : decode cX7_group 65 = .ok (.iadd, 1) := by decide +kernel
theorem dX7_group_66 : decode cX7_group 66 = .ok (.putfield 129, 3) := by decide +kernel
theorem dX7_group_69 : decode cX7_group 69 = .ok (.iconst (-1), 1) := by decide +kernel
theorem dX7_group_70 : decode cX7_group 70 = .ok (.istore 5, 2) := by decide +kernel
theorem dX7_group_72 : decode cX7_group 72 = .ok (.iload_n 1, 1) := by decide +kernel
theorem dX7_group_73 : decode cX7_group 73 = .ok (.iconst 1, 1) := by decide +kernel
theorem dX7_group_74 : decode cX7_group 74 = .ok (.if_icmp .ne 8, 3) := by decide +kernel
theorem dX7_group_77 : decode cX7_group 77 = .ok (.bipush 12, 2) := by decide +kernel
theorem dX7_group_79 : decode cX7_group 79 = .ok (.goto 17, 3) := by decide +kernel
theorem dX7_group_82 : decode cX7_group 82 = .ok (.iload_n 1, 1) := by decide +kernel
theorem dX7_group_83 : decode cX7_group 83 = .ok (.iconst 2, 1) := by decide +kernel
theorem dX7_group_84 : decode cX7_group 84 = .ok (.if_icmp .ne 9, 3) := by decide +kernel
theorem dX7_group_87 : decode cX7_group 87 = .ok (.sipush 144, 3) := by decide +kernel
theorem dX7_group_90 : decode cX7_group 90 = .ok (.goto 6, 3) := by decide +kernel
theorem dX7_group_93 : decode cX7_group 93 = .ok (.sipush 1728, 3) := by decide +kernel
theorem dX7_group_96 : decode cX7_group 96 = .ok (.istore 6, 2) := by decide +kernel
theorem dX7_group_98 : decode cX7_group 98 = .ok (.iconst 0, 1) := by decide +kernel
theorem dX7_group_99 : decode cX7_group 99 = .ok (.istore 7, 2) := by decide +kernel
theorem dX7_group_101 : decode cX7_group 101 = .ok (.iload 7, 2) := by decide +kernel
theorem dX7_group_103 : decode cX7_group 103 = .ok (.iload 6, 2) := by decide +kernel
theorem dX7_group_105 : decode cX7_group 105 = .ok (.if_icmp .ge 248, 3) := by decide +kernel
theorem dX7_group_108 : decode cX7_group 108 = .ok (.iload_n 1, 1) := by decide +kernel
theorem dX7_group_109 : decode cX7_group 109 = .ok (.iconst 1, 1) := by decide +kernel
theorem dX7_group_110 : decode cX7_group 110 = .ok (.if_icmp .ne 8, 3) := by decide +kernel
theorem dX7_group_113 : decode cX7_group 113 = .ok (.iload 7, 2) := by decide +kernel
theorem dX7_group_115 : decode cX7_group 115 = .ok (.goto 22, 3) := by decide +kernel
theorem dX7_group_118 : decode cX7_group 118 = .ok (.iload_n 1, 1) := by decide +kernel
theorem dX7_group_119 : decode cX7_group 119 = .ok (.iconst 2, 1) := by decide +kernel
theorem dX7_group_120 : decode cX7_group 120 = .ok (.if_icmp .ne 11, 3) := by decide +kernel
theorem dX7_group_123 : decode cX7_group 123 = .ok (.iload 7, 2) := by decide +kernel
theorem dX7_group_125 : decode cX7_group 125 = .ok (.bipush 12, 2) := by decide +kernel
theorem dX7_group_127 : decode cX7_group 127 = .ok (.idiv, 1) := by decide +kernel
theorem dX7_group_128 : decode cX7_group 128 = .ok (.goto 9, 3) := by decide +kernel
theorem dX7_group_131 : decode cX7_group 131 = .ok (.iload 7, 2) := by decide +kernel
theorem dX7_group_133 : decode cX7_group 133 = .ok (.sipush 144, 3) := by decide +kernel
theorem dX7_group_136 : decode cX7_group 136 = .ok (.idiv, 1) := by decide +kernel
theorem dX7_group_137 : decode cX7_group 137 = .ok (.istore 8, 2) := by decide +kernel
theorem dX7_group_139 : decode cX7_group 139 = .ok (.iload_n 1, 1) := by decide +kernel
theorem dX7_group_140 : decode cX7_group 140 = .ok (.iconst 1, 1) := by decide +kernel
theorem dX7_group_141 : decode cX7_group 141 = .ok (.if_icmp .ne 7, 3) := by decide +kernel
theorem dX7_group_144 : decode cX7_group 144 = .ok (.iconst (-1), 1) := by decide +kernel
theorem dX7_group_145 : decode cX7_group 145 = .ok (.goto 24, 3) := by decide +kernel
theorem dX7_group_148 : decode cX7_group 148 = .ok (.iload_n 1, 1) := by decide +kernel
theorem dX7_group_149 : decode cX7_group 149 = .ok (.iconst 2, 1) := by decide +kernel
theorem dX7_group_150 : decode cX7_group 150 = .ok (.if_icmp .ne 11, 3) := by decide +kernel
theorem dX7_group_153 : decode cX7_group 153 = .ok (.iload 7, 2) := by decide +kernel
theorem dX7_group_155 : decode cX7_group 155 = .ok (.bipush 12, 2) := by decide +kernel
theorem dX7_group_157 : decode cX7_group 157 = .ok (.irem, 1) := by decide +kernel
theorem dX7_group_158 : decode cX7_group 158 = .ok (.goto 11, 3) := by decide +kernel
theorem dX7_group_161 : decode cX7_group 161 = .ok (.iload 7, 2) := by decide +kernel
theorem dX7_group_163 : decode cX7_group 163 = .ok (.bipush 12, 2) := by decide +kernel
theorem dX7_group_165 : decode cX7_group 165 = .ok (.idiv, 1) := by decide +kernel
theorem dX7_group_166 : decode cX7_group 166 = .ok (.bipush 12, 2) := by decide +kernel
theorem dX7_group_168 : decode cX7_group 168 = .ok (.irem, 1) := by decide +kernel
theorem dX7_group_169 : decode cX7_group 169 = .ok (.istore 9, 2) := by decide +kernel
theorem dX7_group_171 : decode cX7_group 171 = .ok (.iload_n 1, 1) := by decide +kernel
theorem dX7_group_172 : decode cX7_group 172 = .ok (.iconst 3, 1) := by decide +kernel
theorem dX7_group_173 : decode cX7_group 173 = .ok (.if_icmp .ge 7, 3) := by decide +kernel
theorem dX7_group_176 : decode cX7_group 176 = .ok (.iconst (-1), 1) := by decide +kernel
theorem dX7_group_177 : decode cX7_group 177 = .ok (.goto 8, 3) := by decide +kernel
theorem dX7_group_180 : decode cX7_group 180 = .ok (.iload 7, 2) := by decide +kernel
theorem dX7_group_182 : decode cX7_group 182 = .ok (.bipush 12, 2) := by decide +kernel
theorem dX7_group_184 : decode cX7_group 184 = .ok (.irem, 1) := by decide +kernel
theorem dX7_group_185 : decode cX7_group 185 = .ok (.istore 10, 2) := by decide +kernel
theorem dX7_group_187 : decode cX7_group 187 = .ok (.aload_n 0, 1) := by decide +kernel
theorem dX7_group_188 : decode cX7_group 188 = .ok (.iload 8, 2) := by decide +kernel
theorem dX7_group_190 : decode cX7_group 190 = .ok (.invokevirtual 121, 3) := by decide +kernel
theorem dX7_group_193 : decode cX7_group 193 = .ok (.ifCond .eq 56, 3) := by decide +kernel
theorem dX7_group_196 : decode cX7_group 196 = .ok (.iload_n 1, 1) := by decide +kernel
theorem dX7_group_197 : decode cX7_group 197 = .ok (.iconst 2, 1) := by decide +kernel
theorem dX7_group_198 : decode cX7_group 198 = .ok (.if_icmp .lt 19, 3) := by decide +kernel
theorem dX7_group_201 : decode cX7_group 201 = .ok (.aload_n 0, 1) := by decide +kernel
theorem dX7_group_202 : decode cX7_group 202 = .ok (.iload 9, 2) := by decide +kernel
theorem dX7_group_204 : decode cX7_group 204 = .ok (.invokevirtual 121, 3) := by decide +kernel
theorem dX7_group_207 : decode cX7_group 207 = .ok (.ifCond .eq 42, 3) := by decide +kernel
theorem dX7_group_210 : decode cX7_group 210 = .ok (.iload 9, 2) := by decide +kernel
theorem dX7_group_212 : decode cX7_group 212 = .ok (.iload 8, 2) := by decide +kernel
theorem dX7_group_214 : decode cX7_group 214 = .ok (.if_icmp .eq 35, 3) := by decide +kernel
theorem dX7_group_217 : decode cX7_group 217 = .ok (.iload_n 1, 1) := by decide +kernel
theorem dX7_group_218 : decode cX7_group 218 = .ok (.iconst 3, 1) := by decide +kernel
theorem dX7_group_219 : decode cX7_group 219 = .ok (.if_icmp .lt 26, 3) := by decide +kernel
theorem dX7_group_222 : decode cX7_group 222 = .ok (.aload_n 0, 1) := by decide +kernel
theorem dX7_group_223 : decode cX7_group 223 = .ok (.iload 10, 2) := by decide +kernel
theorem dX7_group_225 : decode cX7_group 225 = .ok (.invokevirtual 121, 3) := by decide +kernel
theorem dX7_group_228 : decode cX7_group 228 = .ok (.ifCond .eq 21, 3) := by decide +kernel
theorem dX7_group_231 : decode cX7_group 231 = .ok (.iload 10, 2) := by decide +kernel
theorem dX7_group_233 : decode cX7_group 233 = .ok (.iload 8, 2) := by decide +kernel
theorem dX7_group_235 : decode cX7_group 235 = .ok (.if_icmp .eq 14, 3) := by decide +kernel
theorem dX7_group_238 : decode cX7_group 238 = .ok (.iload 10, 2) := by decide +kernel
theorem dX7_group_240 : decode cX7_group 240 = .ok (.iload 9, 2) := by decide +kernel
theorem dX7_group_242 : decode cX7_group 242 = .ok (.if_icmp .eq 7, 3) := by decide +kernel
theorem dX7_group_245 : decode cX7_group 245 = .ok (.iconst 1, 1) := by decide +kernel
theorem dX7_group_246 : decode cX7_group 246 = .ok (.goto 4, 3) := by decide +kernel
theorem dX7_group_249 : decode cX7_group 249 = .ok (.iconst 0, 1) := by decide +kernel
theorem dX7_group_250 : decode cX7_group 250 = .ok (.istore 11, 2) := by decide +kernel
theorem dX7_group_252 : decode cX7_group 252 = .ok (.iload 11, 2) := by decide +kernel
theorem dX7_group_254 : decode cX7_group 254 = .ok (.ifCond .eq 93, 3) := by decide +kernel
theorem dX7_group_257 : decode cX7_group 257 = .ok (.aload_n 0, 1) := by decide +kernel
theorem dX7_group_258 : decode cX7_group 258 = .ok (.iload 8, 2) := by decide +kernel
theorem dX7_group_260 : decode cX7_group 260 = .ok (.iload_n 2, 1) := by decide +kernel
theorem dX7_group_261 : decode cX7_group 261 = .ok (.invokevirtual 132, 3) := by decide +kernel
theorem dX7_group_264 : decode cX7_group 264 = .ok (.aload_n 0, 1) := by decide +kernel
theorem dX7_group_265 : decode cX7_group 265 = .ok (.iload 9, 2) := by decide +kernel
theorem dX7_group_267 : decode cX7_group 267 = .ok (.iload_n 3, 1) := by decide +kernel
theorem dX7_group_268 : decode cX7_group 268 = .ok (.invokevirtual 132, 3) := by decide +kernel
theorem dX7_group_271 : decode cX7_group 271 = .ok (.aload_n 0, 1) := by decide +kernel
theorem dX7_group_272 : decode cX7_group 272 = .ok (.iload 10, 2) := by decide +kernel
theorem dX7_group_274 : decode cX7_group 274 = .ok (.iload 4, 2) := by decide +kernel
theorem dX7_group_276 : decode cX7_group 276 = .ok (.invokevirtual 132, 3) := by decide +kernel
theorem dX7_group_279 : decode cX7_group 279 = .ok (.aload_n 0, 1) := by decide +kernel
theorem dX7_group_280 : decode cX7_group 280 = .ok (.invokevirtual 101, 3) := by decide +kernel
theorem dX7_group_283 : decode cX7_group 283 = .ok (.istore 12, 2) := by decide +kernel
theorem dX7_group_285 : decode cX7_group 285 = .ok (.iload 5, 2) := by decide +kernel
theorem dX7_group_287 : decode cX7_group 287 = .ok (.iconst (-1), 1) := by decide +kernel
theorem dX7_group_288 : decode cX7_group 288 = .ok (.if_icmp .eq 10, 3) := by decide +kernel
theorem dX7_group_291 : decode cX7_group 291 = .ok (.iload 12, 2) := by decide +kernel
theorem dX7_group_293 : decode cX7_group 293 = .ok (.iload 5, 2) := by decide +kernel
theorem dX7_group_295 : decode cX7_group 295 = .ok (.if_icmp .ge 31, 3) := by decide +kernel
theorem dX7_group_298 : decode cX7_group 298 = .ok (.iload 12, 2) := by decide +kernel
theorem dX7_group_300 : decode cX7_group 300 = .ok (.istore 5, 2) := by decide +kernel
theorem dX7_group_302 : decode cX7_group 302 = .ok (.aload_n 0, 1) := by decide +kernel
theorem dX7_group_303 : decode cX7_group 303 = .ok (.getfield 31, 3) := by decide +kernel
theorem dX7_group_306 : decode cX7_group 306 = .ok (.iconst 0, 1) := by decide +kernel
theorem dX7_group_307 : decode cX7_group 307 = .ok (.iload 8, 2) := by decide +kernel
theorem dX7_group_309 : decode cX7_group 309 = .ok (.iastore, 1) := by decide +kernel
theorem dX7_group_310 : decode cX7_group 310 = .ok (.aload_n 0, 1) := by decide +kernel
theorem dX7_group_311 : decode cX7_group 311 = .ok (.getfield 31, 3) := by decide +kernel
theorem dX7_group_314 : decode cX7_group 314 = .ok (.iconst 1, 1) := by decide +kernel
theorem dX7_group_315 : decode cX7_group 315 = .ok (.iload 9, 2) := by decide +kernel
theorem dX7_group_317 : decode cX7_group 317 = .ok (.iastore, 1) := by decide +kernel
theorem dX7_group_318 : decode cX7_group 318 = .ok (.aload_n 0, 1) := by decide +kernel
theorem dX7_group_319 : decode cX7_group 319 = .ok (.getfield 31, 3) := by decide +kernel
theorem dX7_group_322 : decode cX7_group 322 = .ok (.iconst 2, 1) := by decide +kernel
theorem dX7_group_323 : decode cX7_group 323 = .ok (.iload 10, 2) := by decide +kernel
theorem dX7_group_325 : decode cX7_group 325 = .ok (.iastore, 1) := by decide +kernel
theorem dX7_group_326 : decode cX7_group 326 = .ok (.aload_n 0, 1) := by decide +kernel
theorem dX7_group_327 : decode cX7_group 327 = .ok (.iload 8, 2) := by decide +kernel
theorem dX7_group_329 : decode cX7_group 329 = .ok (.iconst 0, 1) := by decide +kernel
theorem dX7_group_330 : decode cX7_group 330 = .ok (.invokevirtual 132, 3) := by decide +kernel
theorem dX7_group_333 : decode cX7_group 333 = .ok (.aload_n 0, 1) := by decide +kernel
theorem dX7_group_334 : decode cX7_group 334 = .ok (.iload 9, 2) := by decide +kernel
theorem dX7_group_336 : decode cX7_group 336 = .ok (.iconst 0, 1) := by decide +kernel
theorem dX7_group_337 : decode cX7_group 337 = .ok (.invokevirtual 132, 3) := by decide +kernel
theorem dX7_group_340 : decode cX7_group 340 = .ok (.aload_n 0, 1) := by decide +kernel
theorem dX7_group_341 : decode cX7_group 341 = .ok (.iload 10, 2) := by decide +kernel
theorem dX7_group_343 : decode cX7_group 343 = .ok (.iconst 0, 1) := by decide +kernel
theorem dX7_group_344 : decode cX7_group 344 = .ok (.invokevirtual 132, 3) := by decide +kernel
theorem dX7_group_347 : decode cX7_group 347 = .ok (.iinc 7 1, 3) := by decide +kernel
theorem dX7_group_350 : decode cX7_group 350 = .ok (.goto (-249), 3) := by decide +kernel
theorem dX7_group_353 : decode cX7_group 353 = .ok (.iload 5, 2) := by decide +kernel
theorem dX7_group_355 : decode cX7_group 355 = .ok (.iconst (-1), 1) := by decide +kernel
theorem dX7_group_356 : decode cX7_group 356 = .ok (.if_icmp .eq 37, 3) := by decide +kernel
theorem dX7_group_359 : decode cX7_group 359 = .ok (.aload_n 0, 1) := by decide +kernel
theorem dX7_group_360 : decode cX7_group 360 = .ok (.aload_n 0, 1) := by decide +kernel
theorem dX7_group_361 : decode cX7_group 361 = .ok (.getfield 31, 3) := by decide +kernel
theorem dX7_group_364 : decode cX7_group 364 = .ok (.iconst 0, 1) := by decide +kernel
theorem dX7_group_365 : decode cX7_group 365 = .ok (.iaload, 1) := by decide +kernel
theorem dX7_group_366 : decode cX7_group 366 = .ok (.iload_n 2, 1) := by decide +kernel
theorem dX7_group_367 : decode cX7_group 367 = .ok (.invokevirtual 132, 3) := by decide +kernel
theorem dX7_group_370 : decode cX7_group 370 = .ok (.aload_n 0, 1) := by decide +kernel
theorem dX7_group_371 : decode cX7_group 371 = .ok (.aload_n 0, 1) := by decide +kernel
theorem dX7_group_372 : decode cX7_group 372 = .ok (.getfield 31, 3) := by decide +kernel
theorem dX7_group_375 : decode cX7_group 375 = .ok (.iconst 1, 1) := by decide +kernel
theorem dX7_group_376 : decode cX7_group 376 = .ok (.iaload, 1) := by decide +kernel
theorem dX7_group_377 : decode cX7_group 377 = .ok (.iload_n 3, 1) := by decide +kernel
theorem dX7_group_378 : decode cX7_group 378 = .ok (.invokevirtual 132, 3) := by decide +kernel
theorem dX7_group_381 : decode cX7_group 381 = .ok (.aload_n 0, 1) := by decide +kernel
theorem dX7_group_382 : decode cX7_group 382 = .ok (.aload_n 0, 1) := by decide +kernel
theorem dX7_group_383 : decode cX7_group 383 = .ok (.getfield 31, 3) := by decide +kernel
theorem dX7_group_386 : decode cX7_group 386 = .ok (.iconst 2, 1) := by decide +kernel
theorem dX7_group_387 : decode cX7_group 387 = .ok (.iaload, 1) := by decide +kernel
theorem dX7_group_388 : decode cX7_group 388 = .ok (.iload 4, 2) := by decide +kernel
theorem dX7_group_390 : decode cX7_group 390 = .ok (.invokevirtual 132, 3) := by decide +kernel
theorem dX7_group_393 : decode cX7_group 393 = .ok (.iload 5, 2) := by decide +kernel
theorem dX7_group_395 : decode cX7_group 395 = .ok (.ireturn, 1) := by decide +kernel
theorem dX7_seat_0 : decode cX7_seat 0 = .ok (.iload_n 1, 1) := by decide +kernel
theorem dX7_seat_1 : decode cX7_seat 1 = .ok (.iconst (-1), 1) := by decide +kernel
theorem dX7_seat_2 : decode cX7_seat 2 = .ok (.if_icmp .eq 10, 3) := by decide +kernel
theorem dX7_seat_5 : decode cX7_seat 5 = .ok (.aload_n 0, 1) := by decide +kernel
theorem dX7_seat_6 : decode cX7_seat 6 = .ok (.getfield 19, 3) := by decide +kernel
theorem dX7_seat_9 : decode cX7_seat 9 = .ok (.iload_n 1, 1) := by decide +kernel
theorem dX7_seat_10 : decode cX7_seat 10 = .ok (.iload_n 2, 1) := by decide +kernel
theorem dX7_seat_11 : decode cX7_seat 11 = .ok (.iastore, 1) := by decide +kernel
theorem dX7_seat_12 : decode cX7_seat 12 = .ok (.return_, 1) := by decide +kernel
theorem dX7_rider_0 : decode cX7_rider 0 = .ok (.iload_n 1, 1) := by decide +kernel
theorem dX7_rider_1 : decode cX7_rider 1 = .ok (.invokestatic 79, 3) := by decide +kernel
theorem dX7_rider_4 : decode cX7_rider 4 = .ok (.ifCond .ne 8, 3) := by decide +kernel
theorem dX7_rider_7 : decode cX7_rider 7 = .ok (.bipush (-101), 2) := by decide +kernel
theorem dX7_rider_9 : decode cX7_rider 9 = .ok (.goto 22, 3) := by decide +kernel
theorem dX7_rider_12 : decode cX7_rider 12 = .ok (.aload_n 0, 1) := by decide +kernel
theorem dX7_rider_13 : decode cX7_rider 13 = .ok (.getfield 16, 3) := by decide +kernel
theorem dX7_rider_16 : decode cX7_rider 16 = .ok (.iload_n 1, 1) := by decide +kernel
theorem dX7_rider_17 : decode cX7_rider 17 = .ok (.iaload, 1) := by decide +kernel
theorem dX7_rider_18 : decode cX7_rider 18 = .ok (.ifCond .le 12, 3) := by decide +kernel
theorem dX7_rider_21 : decode cX7_rider 21 = .ok (.aload_n 0, 1) := by decide +kernel
theorem dX7_rider_22 : decode cX7_rider 22 = .ok (.getfield 19, 3) := by decide +kernel
theorem dX7_rider_25 : decode cX7_rider 25 = .ok (.iload_n 1, 1) := by decide +kernel
theorem dX7_rider_26 : decode cX7_rider 26 = .ok (.iaload, 1) := by decide +kernel
theorem dX7_rider_27 : decode cX7_rider 27 = .ok (.goto 4, 3) := by decide +kernel
theorem dX7_rider_30 : decode cX7_rider 30 = .ok (.iconst 0, 1) := by decide +kernel
theorem dX7_rider_31 : decode cX7_rider 31 = .ok (.ireturn, 1) := by decide +kernel
theorem dX7_coat_0 : decode cX7_coat 0 = .ok (.aload_n 0, 1) := by decide +kernel
theorem dX7_coat_1 : decode cX7_coat 1 = .ok (.iload_n 1, 1) := by decide +kernel
theorem dX7_coat_2 : decode cX7_coat 2 = .ok (.invokevirtual 91, 3) := by decide +kernel
theorem dX7_coat_5 : decode cX7_coat 5 = .ok (.ifCond .ne 6, 3) := by decide +kernel
theorem dX7_coat_8 : decode cX7_coat 8 = .ok (.bipush (-101), 2) := by decide +kernel
theorem dX7_coat_10 : decode cX7_coat 10 = .ok (.ireturn, 1) := by decide +kernel
theorem dX7_coat_11 : decode cX7_coat 11 = .ok (.iload_n 2, 1) := by decide +kernel
theorem dX7_coat_12 : decode cX7_coat 12 = .ok (.i2l, 1) := by decide +kernel
theorem dX7_coat_13 : decode cX7_coat 13 = .ok (.lconst 0, 1) := by decide +kernel
theorem dX7_coat_14 : decode cX7_coat 14 = .ok (.ldc2_w 85, 3) := by decide +kernel
theorem dX7_coat_17 : decode cX7_coat 17 = .ok (.invokestatic 75, 3) := by decide +kernel
theorem dX7_coat_20 : decode cX7_coat 20 = .ok (.ifCond .ne 6, 3) := by decide +kernel
theorem dX7_coat_23 : decode cX7_coat 23 = .ok (.bipush (-102), 2) := by decide +kernel
theorem dX7_coat_25 : decode cX7_coat 25 = .ok (.ireturn, 1) := by decide +kernel
theorem dX7_coat_26 : decode cX7_coat 26 = .ok (.aload_n 0, 1) := by decide +kernel
theorem dX7_coat_27 : decode cX7_coat 27 = .ok (.getfield 22, 3) := by decide +kernel
theorem dX7_coat_30 : decode cX7_coat 30 = .ok (.iload_n 1, 1) := by decide +kernel
theorem dX7_coat_31 : decode cX7_coat 31 = .ok (.iaload, 1) := by decide +kernel
theorem dX7_coat_32 : decode cX7_coat 32 = .ok (.bipush 8, 2) := by decide +kernel
theorem dX7_coat_34 : decode cX7_coat 34 = .ok (.if_icmp .ne 6, 3) := by decide +kernel
theorem dX7_coat_37 : decode cX7_coat 37 = .ok (.bipush (-104), 2) := by decide +kernel
theorem dX7_coat_39 : decode cX7_coat 39 = .ok (.ireturn, 1) := by decide +kernel
theorem dX7_coat_40 : decode cX7_coat 40 = .ok (.aload_n 0, 1) := by decide +kernel
theorem dX7_coat_41 : decode cX7_coat 41 = .ok (.getfield 25, 3) := by decide +kernel
theorem dX7_coat_44 : decode cX7_coat 44 = .ok (.bipush 8, 2) := by decide +kernel
theorem dX7_coat_46 : decode cX7_coat 46 = .ok (.iload_n 1, 1) := by decide +kernel
theorem dX7_coat_47 : decode cX7_coat 47 = .ok (.imul, 1) := by decide +kernel
theorem dX7_coat_48 : decode cX7_coat 48 = .ok (.aload_n 0, 1) := by decide +kernel
theorem dX7_coat_49 : decode cX7_coat 49 = .ok (.getfield 22, 3) := by decide +kernel
theorem dX7_coat_52 : decode cX7_coat 52 = .ok (.iload_n 1, 1) := by decide +kernel
theorem dX7_coat_53 : decode cX7_coat 53 = .ok (.iaload, 1) := by decide +kernel
theorem dX7_coat_54 : decode cX7_coat 54 = .ok (.iadd, 1) := by decide +kernel
theorem dX7_coat_55 : decode cX7_coat 55 = .ok (.iload_n 2, 1) := by decide +kernel
theorem dX7_coat_56 : decode cX7_coat 56 = .ok (.iastore, 1) := by decide +kernel
theorem dX7_coat_57 : decode cX7_coat 57 = .ok (.aload_n 0, 1) := by decide +kernel
theorem dX7_coat_58 : decode cX7_coat 58 = .ok (.getfield 22, 3) := by decide +kernel
theorem dX7_coat_61 : decode cX7_coat 61 = .ok (.iload_n 1, 1) := by decide +kernel
theorem dX7_coat_62 : decode cX7_coat 62 = .ok (.dup2, 1) := by decide +kernel
theorem dX7_coat_63 : decode cX7_coat 63 = .ok (.iaload, 1) := by decide +kernel
theorem dX7_coat_64 : decode cX7_coat 64 = .ok (.iconst 1, 1) := by decide +kernel
theorem dX7_coat_65 : decode cX7_coat 65 = .ok (.iadd, 1) := by decide +kernel
theorem dX7_coat_66 : decode cX7_coat 66 = .ok (.iastore, 1) := by decide +kernel
theorem dX7_coat_67 : decode cX7_coat 67 = .ok (.aload_n 0, 1) := by decide +kernel
theorem dX7_coat_68 : decode cX7_coat 68 = .ok (.getfield 22, 3) := by decide +kernel
theorem dX7_coat_71 : decode cX7_coat 71 = .ok (.iload_n 1, 1) := by decide +kernel
theorem dX7_coat_72 : decode cX7_coat 72 = .ok (.iaload, 1) := by decide +kernel
theorem dX7_coat_73 : decode cX7_coat 73 = .ok (.ireturn, 1) := by decide +kernel
theorem dX7_sample_0 : decode cX7_sample 0 = .ok (.aload_n 0, 1) := by decide +kernel
theorem dX7_sample_1 : decode cX7_sample 1 = .ok (.iload_n 1, 1) := by decide +kernel
theorem dX7_sample_2 : decode cX7_sample 2 = .ok (.invokevirtual 91, 3) := by decide +kernel
theorem dX7_sample_5 : decode cX7_sample 5 = .ok (.ifCond .ne 6, 3) := by decide +kernel
theorem dX7_sample_8 : decode cX7_sample 8 = .ok (.bipush (-101), 2) := by decide +kernel
theorem dX7_sample_10 : decode cX7_sample 10 = .ok (.ireturn, 1) := by decide +kernel
theorem dX7_sample_11 : decode cX7_sample 11 = .ok (.iload_n 2, 1) := by decide +kernel
theorem dX7_sample_12 : decode cX7_sample 12 = .ok (.i2l, 1) := by decide +kernel
theorem dX7_sample_13 : decode cX7_sample 13 = .ok (.lconst 0, 1) := by decide +kernel
theorem dX7_sample_14 : decode cX7_sample 14 = .ok (.aload_n 0, 1) := by decide +kernel
theorem dX7_sample_15 : decode cX7_sample 15 = .ok (.getfield 22, 3) := by decide +kernel
theorem dX7_sample_18 : decode cX7_sample 18 = .ok (.iload_n 1, 1) := by decide +kernel
theorem dX7_sample_19 : decode cX7_sample 19 = .ok (.iaload, 1) := by decide +kernel
theorem dX7_sample_20 : decode cX7_sample 20 = .ok (.iconst 1, 1) := by decide +kernel
theorem dX7_sample_21 : decode cX7_sample 21 = .ok (.isub, 1) := by decide +kernel
theorem dX7_sample_22 : decode cX7_sample 22 = .ok (.i2l, 1) := by decide +kernel
theorem dX7_sample_23 : decode cX7_sample 23 = .ok (.invokestatic 75, 3) := by decide +kernel
theorem dX7_sample_26 : decode cX7_sample 26 = .ok (.ifCond .eq 26, 3) := by decide +kernel
theorem dX7_sample_29 : decode cX7_sample 29 = .ok (.aload_n 0, 1) := by decide +kernel
theorem dX7_sample_30 : decode cX7_sample 30 = .ok (.getfield 25, 3) := by decide +kernel
theorem dX7_sample_33 : decode cX7_sample 33 = .ok (.bipush 8, 2) := by decide +kernel
theorem dX7_sample_35 : decode cX7_sample 35 = .ok (.iload_n 1, 1) := by decide +kernel
theorem dX7_sample_36 : decode cX7_sample 36 = .ok (.imul, 1) := by decide +kernel
theorem dX7_sample_37 : decode cX7_sample 37 = .ok (.aload_n 0, 1) := by decide +kernel
theorem dX7_sample_38 : decode cX7_sample 38 = .ok (.getfield 22, 3) := by decide +kernel
theorem dX7_sample_41 : decode cX7_sample 41 = .ok (.iload_n 1, 1) := by decide +kernel
theorem dX7_sample_42 : decode cX7_sample 42 = .ok (.iaload, 1) := by decide +kernel
theorem dX7_sample_43 : decode cX7_sample 43 = .ok (.iadd, 1) := by decide +kernel
theorem dX7_sample_44 : decode cX7_sample 44 = .ok (.iconst 1, 1) := by decide +kernel
theorem dX7_sample_45 : decode cX7_sample 45 = .ok (.isub, 1) := by decide +kernel
theorem dX7_sample_46 : decode cX7_sample 46 = .ok (.iload_n 2, 1) := by decide +kernel
theorem dX7_sample_47 : decode cX7_sample 47 = .ok (.isub, 1) := by decide +kernel
theorem dX7_sample_48 : decode cX7_sample 48 = .ok (.iaload, 1) := by decide +kernel
theorem dX7_sample_49 : decode cX7_sample 49 = .ok (.goto 4, 3) := by decide +kernel
theorem dX7_sample_52 : decode cX7_sample 52 = .ok (.iconst (-1), 1) := by decide +kernel
theorem dX7_sample_53 : decode cX7_sample 53 = .ok (.ireturn, 1) := by decide +kernel
theorem dX7_strip_0 : decode cX7_strip 0 = .ok (.aload_n 0, 1) := by decide +kernel
theorem dX7_strip_1 : decode cX7_strip 1 = .ok (.iload_n 1, 1) := by decide +kernel
theorem dX7_strip_2 : decode cX7_strip 2 = .ok (.invokevirtual 91, 3) := by decide +kernel
theorem dX7_strip_5 : decode cX7_strip 5 = .ok (.ifCond .ne 6, 3) := by decide +kernel
theorem dX7_strip_8 : decode cX7_strip 8 = .ok (.bipush (-101), 2) := by decide +kernel
theorem dX7_strip_10 : decode cX7_strip 10 = .ok (.ireturn, 1) := by decide +kernel
theorem dX7_strip_11 : decode cX7_strip 11 = .ok (.aload_n 0, 1) := by decide +kernel
theorem dX7_strip_12 : decode cX7_strip 12 = .ok (.getfield 22, 3) := by decide +kernel
theorem dX7_strip_15 : decode cX7_strip 15 = .ok (.iload_n 1, 1) := by decide +kernel
theorem dX7_strip_16 : decode cX7_strip 16 = .ok (.iaload, 1) := by decide +kernel
theorem dX7_strip_17 : decode cX7_strip 17 = .ok (.iconst 1, 1) := by decide +kernel
theorem dX7_strip_18 : decode cX7_strip 18 = .ok (.isub, 1) := by decide +kernel
theorem dX7_strip_19 : decode cX7_strip 19 = .ok (.istore_n 3, 1) := by decide +kernel
theorem dX7_strip_20 : decode cX7_strip 20 = .ok (.iload_n 3, 1) := by decide +kernel
theorem dX7_strip_21 : decode cX7_strip 21 = .ok (.ifCond .lt 24, 3) := by decide +kernel
theorem dX7_strip_24 : decode cX7_strip 24 = .ok (.aload_n 0, 1) := by decide +kernel
theorem dX7_strip_25 : decode cX7_strip 25 = .ok (.getfield 25, 3) := by decide +kernel
theorem dX7_strip_28 : decode cX7_strip 28 = .ok (.bipush 8, 2) := by decide +kernel
theorem dX7_strip_30 : decode cX7_strip 30 = .ok (.iload_n 1, 1) := by decide +kernel
theorem dX7_strip_31 : decode cX7_strip 31 = .ok (.imul, 1) := by decide +kernel
theorem dX7_strip_32 : decode cX7_strip 32 = .ok (.iload_n 3, 1) := by decide +kernel
theorem dX7_strip_33 : decode cX7_strip 33 = .ok (.iadd, 1) := by decide +kernel
theorem dX7_strip_34 : decode cX7_strip 34 = .ok (.iaload, 1) := by decide +kernel
theorem dX7_strip_35 : decode cX7_strip 35 = .ok (.iload_n 2, 1) := by decide +kernel
theorem dX7_strip_36 : decode cX7_strip 36 = .ok (.if_icmp .eq 9, 3) := by decide +kernel
theorem dX7_strip_39 : decode cX7_strip 39 = .ok (.iinc 3 (-1), 3) := by decide +kernel
theorem dX7_strip_42 : decode cX7_strip 42 = .ok (.goto (-22), 3) := by decide +kernel
theorem dX7_strip_45 : decode cX7_strip 45 = .ok (.iload_n 3, 1) := by decide +kernel
theorem dX7_strip_46 : decode cX7_strip 46 = .ok (.ifCond .ge 6, 3) := by decide +kernel
theorem dX7_strip_49 : decode cX7_strip 49 = .ok (.bipush (-102), 2) := by decide +kernel
theorem dX7_strip_51 : decode cX7_strip 51 = .ok (.ireturn, 1) := by decide +kernel
theorem dX7_strip_52 : decode cX7_strip 52 = .ok (.aload_n 0, 1) := by decide +kernel
theorem dX7_strip_53 : decode cX7_strip 53 = .ok (.getfield 22, 3) := by decide +kernel
theorem dX7_strip_56 : decode cX7_strip 56 = .ok (.iload_n 1, 1) := by decide +kernel
theorem dX7_strip_57 : decode cX7_strip 57 = .ok (.iaload, 1) := by decide +kernel
theorem dX7_strip_58 : decode cX7_strip 58 = .ok (.iconst 1, 1) := by decide +kernel
theorem dX7_strip_59 : decode cX7_strip 59 = .ok (.isub, 1) := by decide +kernel
theorem dX7_strip_60 : decode cX7_strip 60 = .ok (.iload_n 3, 1) := by decide +kernel
theorem dX7_strip_61 : decode cX7_strip 61 = .ok (.isub, 1) := by decide +kernel
theorem dX7_strip_62 : decode cX7_strip 62 = .ok (.istore 4, 2) := by decide +kernel
theorem dX7_strip_64 : decode cX7_strip 64 = .ok (.aload_n 0, 1) := by decide +kernel
theorem dX7_strip_65 : decode cX7_strip 65 = .ok (.getfield 22, 3) := by decide +kernel
theorem dX7_strip_68 : decode cX7_strip 68 = .ok (.iload_n 1, 1) := by decide +kernel
theorem dX7_strip_69 : decode cX7_strip 69 = .ok (.iload_n 3, 1) := by decide +kernel
theorem dX7_strip_70 : decode cX7_strip 70 = .ok (.iconst 1, 1) := by decide +kernel
theorem dX7_strip_71 : decode cX7_strip 71 = .ok (.iadd, 1) := by decide +kernel
theorem dX7_strip_72 : decode cX7_strip 72 = .ok (.iastore, 1) := by decide +kernel
theorem dX7_strip_73 : decode cX7_strip 73 = .ok (.iload 4, 2) := by decide +kernel
theorem dX7_strip_75 : decode cX7_strip 75 = .ok (.ireturn, 1) := by decide +kernel
theorem dX7_isLeg_0 : decode cX7_isLeg 0 = .ok (.aload_n 0, 1) := by decide +kernel
theorem dX7_isLeg_1 : decode cX7_isLeg 1 = .ok (.iload_n 1, 1) := by decide +kernel
theorem dX7_isLeg_2 : decode cX7_isLeg 2 = .ok (.invokevirtual 91, 3) := by decide +kernel
theorem dX7_isLeg_5 : decode cX7_isLeg 5 = .ok (.ifCond .eq 19, 3) := by decide +kernel
theorem dX7_isLeg_8 : decode cX7_isLeg 8 = .ok (.iload_n 2, 1) := by decide +kernel
theorem dX7_isLeg_9 : decode cX7_isLeg 9 = .ok (.i2l, 1) := by decide +kernel
theorem dX7_isLeg_10 : decode cX7_isLeg 10 = .ok (.lconst 0, 1) := by decide +kernel
theorem dX7_isLeg_11 : decode cX7_isLeg 11 = .ok (.ldc2_w 127, 3) := by decide +kernel
theorem dX7_isLeg_14 : decode cX7_isLeg 14 = .ok (.invokestatic 75, 3) := by decide +kernel
theorem dX7_isLeg_17 : decode cX7_isLeg 17 = .ok (.ifCond .eq 7, 3) := by decide +kernel
theorem dX7_isLeg_20 : decode cX7_isLeg 20 = .ok (.iconst 1, 1) := by decide +kernel
theorem dX7_isLeg_21 : decode cX7_isLeg 21 = .ok (.goto 4, 3) := by decide +kernel
theorem dX7_isLeg_24 : decode cX7_isLeg 24 = .ok (.iconst 0, 1) := by decide +kernel
theorem dX7_isLeg_25 : decode cX7_isLeg 25 = .ok (.ireturn, 1) := by decide +kernel
theorem dX7_swap_0 : decode cX7_swap 0 = .ok (.aload_n 0, 1) := by decide +kernel
theorem dX7_swap_1 : decode cX7_swap 1 = .ok (.iload_n 1, 1) := by decide +kernel
theorem dX7_swap_2 : decode cX7_swap 2 = .ok (.iload_n 2, 1) := by decide +kernel
theorem dX7_swap_3 : decode cX7_swap 3 = .ok (.invokevirtual 136, 3) := by decide +kernel
theorem dX7_swap_6 : decode cX7_swap 6 = .ok (.ifCond .eq 13, 3) := by decide +kernel
theorem dX7_swap_9 : decode cX7_swap 9 = .ok (.aload_n 0, 1) := by decide +kernel
theorem dX7_swap_10 : decode cX7_swap 10 = .ok (.iload_n 3, 1) := by decide +kernel
theorem dX7_swap_11 : decode cX7_swap 11 = .ok (.iload 4, 2) := by decide +kernel
theorem dX7_swap_13 : decode cX7_swap 13 = .ok (.invokevirtual 136, 3) := by decide +kernel
theorem dX7_swap_16 : decode cX7_swap 16 = .ok (.ifCond .ne 6, 3) := by decide +kernel
theorem dX7_swap_19 : decode cX7_swap 19 = .ok (.bipush (-101), 2) := by decide +kernel
theorem dX7_swap_21 : decode cX7_swap 21 = .ok (.ireturn, 1) := by decide +kernel
theorem dX7_swap_22 : decode cX7_swap 22 = .ok (.iload_n 1, 1) := by decide +kernel
theorem dX7_swap_23 : decode cX7_swap 23 = .ok (.iload_n 3, 1) := by decide +kernel
theorem dX7_swap_24 : decode cX7_swap 24 = .ok (.if_icmp .ne 12, 3) := by decide +kernel
theorem dX7_swap_27 : decode cX7_swap 27 = .ok (.iload_n 2, 1) := by decide +kernel
theorem dX7_swap_28 : decode cX7_swap 28 = .ok (.iload 4, 2) := by decide +kernel
theorem dX7_swap_30 : decode cX7_swap 30 = .ok (.if_icmp .ne 6, 3) := by decide +kernel
theorem dX7_swap_33 : decode cX7_swap 33 = .ok (.bipush (-102), 2) := by decide +kernel
theorem dX7_swap_35 : decode cX7_swap 35 = .ok (.ireturn, 1) := by decide +kernel
theorem dX7_swap_36 : decode cX7_swap 36 = .ok (.aload_n 0, 1) := by decide +kernel
theorem dX7_swap_37 : decode cX7_swap 37 = .ok (.getfield 28, 3) := by decide +kernel
theorem dX7_swap_40 : decode cX7_swap 40 = .ok (.iconst 4, 1) := by decide +kernel
theorem dX7_swap_41 : decode cX7_swap 41 = .ok (.iload_n 1, 1) := by decide +kernel
theorem dX7_swap_42 : decode cX7_swap 42 = .ok (.imul, 1) := by decide +kernel
theorem dX7_swap_43 : decode cX7_swap 43 = .ok (.iload_n 2, 1) := by decide +kernel
theorem dX7_swap_44 : decode cX7_swap 44 = .ok (.iadd, 1) := by decide +kernel
theorem dX7_swap_45 : decode cX7_swap 45 = .ok (.iaload, 1) := by decide +kernel
theorem dX7_swap_46 : decode cX7_swap 46 = .ok (.istore 5, 2) := by decide +kernel
theorem dX7_swap_48 : decode cX7_swap 48 = .ok (.aload_n 0, 1) := by decide +kernel
theorem dX7_swap_49 : decode cX7_swap 49 = .ok (.getfield 28, 3) := by decide +kernel
theorem dX7_swap_52 : decode cX7_swap 52 = .ok (.iconst 4, 1) := by decide +kernel
theorem dX7_swap_53 : decode cX7_swap 53 = .ok (.iload_n 1, 1) := by decide +kernel
theorem dX7_swap_54 : decode cX7_swap 54 = .ok (.imul, 1) := by decide +kernel
theorem dX7_swap_55 : decode cX7_swap 55 = .ok (.iload_n 2, 1) := by decide +kernel
theorem dX7_swap_56 : decode cX7_swap 56 = .ok (.iadd, 1) := by decide +kernel
theorem dX7_swap_57 : decode cX7_swap 57 = .ok (.aload_n 0, 1) := by decide +kernel
theorem dX7_swap_58 : decode cX7_swap 58 = .ok (.getfield 28, 3) := by decide +kernel
theorem dX7_swap_61 : decode cX7_swap 61 = .ok (.iconst 4, 1) := by decide +kernel
theorem dX7_swap_62 : decode cX7_swap 62 = .ok (.iload_n 3, 1) := by decide +kernel
theorem dX7_swap_63 : decode cX7_swap 63 = .ok (.imul, 1) := by decide +kernel
theorem dX7_swap_64 : decode cX7_swap 64 = .ok (.iload 4, 2) := by decide +kernel
theorem dX7_swap_66 : decode cX7_swap 66 = .ok (.iadd, 1) := by decide +kernel
theorem dX7_swap_67 : decode cX7_swap 67 = .ok (.iaload, 1) := by decide +kernel
theorem dX7_swap_68 : decode cX7_swap 68 = .ok (.iastore, 1) := by decide +kernel
theorem dX7_swap_69 : decode cX7_swap 69 = .ok (.aload_n 0, 1) := by decide +kernel
theorem dX7_swap_70 : decode cX7_swap 70 = .ok (.getfield 28, 3) := by decide +kernel
theorem dX7_swap_73 : decode cX7_swap 73 = .ok (.iconst 4, 1) := by decide +kernel
theorem dX7_swap_74 : decode cX7_swap 74 = .ok (.iload_n 3, 1) := by decide +kernel
theorem dX7_swap_75 : decode cX7_swap 75 = .ok (.imul, 1) := by decide +kernel
theorem dX7_swap_76 : decode cX7_swap 76 = .ok (.iload 4, 2) := by decide +kernel
theorem dX7_swap_78 : decode cX7_swap 78 = .ok (.iadd, 1) := by decide +kernel
theorem dX7_swap_79 : decode cX7_swap 79 = .ok (.iload 5, 2) := by decide +kernel
theorem dX7_swap_81 : decode cX7_swap 81 = .ok (.iastore, 1) := by decide +kernel
theorem dX7_swap_82 : decode cX7_swap 82 = .ok (.iconst 1, 1) := by decide +kernel
theorem dX7_swap_83 : decode cX7_swap 83 = .ok (.ireturn, 1) := by decide +kernel
theorem dX7_mark_0 : decode cX7_mark 0 = .ok (.aload_n 0, 1) := by decide +kernel
theorem dX7_mark_1 : decode cX7_mark 1 = .ok (.iload_n 1, 1) := by decide +kernel
theorem dX7_mark_2 : decode cX7_mark 2 = .ok (.iload_n 2, 1) := by decide +kernel
theorem dX7_mark_3 : decode cX7_mark 3 = .ok (.invokevirtual 136, 3) := by decide +kernel
theorem dX7_mark_6 : decode cX7_mark 6 = .ok (.ifCond .eq 16, 3) := by decide +kernel
theorem dX7_mark_9 : decode cX7_mark 9 = .ok (.aload_n 0, 1) := by decide +kernel
theorem dX7_mark_10 : decode cX7_mark 10 = .ok (.getfield 28, 3) := by decide +kernel
theorem dX7_mark_13 : decode cX7_mark 13 = .ok (.iconst 4, 1) := by decide +kernel
theorem dX7_mark_14 : decode cX7_mark 14 = .ok (.iload_n 1, 1) := by decide +kernel
theorem dX7_mark_15 : decode cX7_mark 15 = .ok (.imul, 1) := by decide +kernel
theorem dX7_mark_16 : decode cX7_mark 16 = .ok (.iload_n 2, 1) := by decide +kernel
theorem dX7_mark_17 : decode cX7_mark 17 = .ok (.iadd, 1) := by decide +kernel
theorem dX7_mark_18 : decode cX7_mark 18 = .ok (.iaload, 1) := by decide +kernel
theorem dX7_mark_19 : decode cX7_mark 19 = .ok (.goto 5, 3) := by decide +kernel
theorem dX7_mark_22 : decode cX7_mark 22 = .ok (.bipush (-101), 2) := by decide +kernel
theorem dX7_mark_24 : decode cX7_mark 24 = .ok (.ireturn, 1) := by decide +kernel
theorem dX7_swaps_0 : decode cX7_swaps 0 = .ok (.iconst 0, 1) := by decide +kernel
theorem dX7_swaps_1 : decode cX7_swaps 1 = .ok (.istore_n 1, 1) := by decide +kernel
theorem dX7_swaps_2 : decode cX7_swaps 2 = .ok (.iload_n 1, 1) := by decide +kernel
theorem dX7_swaps_3 : decode cX7_swaps 3 = .ok (.bipush 48, 2) := by decide +kernel
theorem dX7_swaps_5 : decode cX7_swaps 5 = .ok (.if_icmp .ge 16, 3) := by decide +kernel
theorem dX7_swaps_8 : decode cX7_swaps 8 = .ok (.aload_n 0, 1) := by decide +kernel
theorem dX7_swaps_9 : decode cX7_swaps 9 = .ok (.getfield 34, 3) := by decide +kernel
theorem dX7_swaps_12 : decode cX7_swaps 12 = .ok (.iload_n 1, 1) := by decide +kernel
theorem dX7_swaps_13 : decode cX7_swaps 13 = .ok (.iconst 0, 1) := by decide +kernel
theorem dX7_swaps_14 : decode cX7_swaps 14 = .ok (.bastore, 1) := by decide +kernel
theorem dX7_swaps_15 : decode cX7_swaps 15 = .ok (.iinc 1 1, 3) := by decide +kernel
theorem dX7_swaps_18 : decode cX7_swaps 18 = .ok (.goto (-16), 3) := by decide +kernel
theorem dX7_swaps_21 : decode cX7_swaps 21 = .ok (.iconst 0, 1) := by decide +kernel
theorem dX7_swaps_22 : decode cX7_swaps 22 = .ok (.istore_n 1, 1) := by decide +kernel
theorem dX7_swaps_23 : decode cX7_swaps 23 = .ok (.iconst 0, 1) := by decide +kernel
theorem dX7_swaps_24 : decode cX7_swaps 24 = .ok (.istore_n 2, 1) := by decide +kernel
theorem dX7_swaps_25 : decode cX7_swaps 25 = .ok (.iload_n 2, 1) := by decide +kernel
theorem dX7_swaps_26 : decode cX7_swaps 26 = .ok (.bipush 48, 2) := by decide +kernel
theorem dX7_swaps_28 : decode cX7_swaps 28 = .ok (.if_icmp .ge 63, 3) := by decide +kernel
theorem dX7_swaps_31 : decode cX7_swaps 31 = .ok (.aload_n 0, 1) := by decide +kernel
theorem dX7_swaps_32 : decode cX7_swaps 32 = .ok (.getfield 16, 3) := by decide +kernel
theorem dX7_swaps_35 : decode cX7_swaps 35 = .ok (.iload_n 2, 1) := by decide +kernel
theorem dX7_swaps_36 : decode cX7_swaps 36 = .ok (.iconst 4, 1) := by decide +kernel
theorem dX7_swaps_37 : decode cX7_swaps 37 = .ok (.idiv, 1) := by decide +kernel
theorem dX7_swaps_38 : decode cX7_swaps 38 = .ok (.iaload, 1) := by decide +kernel
theorem dX7_swaps_39 : decode cX7_swaps 39 = .ok (.ifCond .le 46, 3) := by decide +kernel
theorem dX7_swaps_42 : decode cX7_swaps 42 = .ok (.aload_n 0, 1) := by decide +kernel
theorem dX7_swaps_43 : decode cX7_swaps 43 = .ok (.getfield 34, 3) := by decide +kernel
theorem dX7_swaps_46 : decode cX7_swaps 46 = .ok (.iload_n 2, 1) := by decide +kernel
theorem dX7_swaps_47 : decode cX7_swaps 47 = .ok (.baload, 1) := by decide +kernel
theorem dX7_swaps_48 : decode cX7_swaps 48 = .ok (.ifCond .ne 37, 3) := by decide +kernel
theorem dX7_swaps_51 : decode cX7_swaps 51 = .ok (.iload_n 2, 1) := by decide +kernel
theorem dX7_swaps_52 : decode cX7_swaps 52 = .ok (.istore_n 3, 1) := by decide +kernel
theorem dX7_swaps_53 : decode cX7_swaps 53 = .ok (.iinc 1 (-1), 3) := by decide +kernel
theorem dX7_swaps_56 : decode cX7_swaps 56 = .ok (.aload_n 0, 1) := by decide +kernel
theorem dX7_swaps_57 : decode cX7_swaps 57 = .ok (.getfield 34, 3) := by decide +kernel
theorem dX7_swaps_60 : decode cX7_swaps 60 = .ok (.iload_n 3, 1) := by decide +kernel
theorem dX7_swaps_61 : decode cX7_swaps 61 = .ok (.baload, 1) := by decide +kernel
theorem dX7_swaps_62 : decode cX7_swaps 62 = .ok (.ifCond .ne 23, 3) := by decide +kernel
theorem dX7_swaps_65 : decode cX7_swaps 65 = .ok (.aload_n 0, 1) := by decide +kernel
theorem dX7_swaps_66 : decode cX7_swaps 66 = .ok (.getfield 34, 3) := by decide +kernel
theorem dX7_swaps_69 : decode cX7_swaps 69 = .ok (.iload_n 3, 1) := by decide +kernel
theorem dX7_swaps_70 : decode cX7_swaps 70 = .ok (.iconst 1, 1) := by decide +kernel
theorem dX7_swaps_71 : decode cX7_swaps 71 = .ok (.bastore, 1) := by decide +kernel
theorem dX7_swaps_72 : decode cX7_swaps 72 = .ok (.aload_n 0, 1) := by decide +kernel
theorem dX7_swaps_73 : decode cX7_swaps 73 = .ok (.getfield 28, 3) := by decide +kernel
theorem dX7_swaps_76 : decode cX7_swaps 76 = .ok (.iload_n 3, 1) := by decide +kernel
theorem dX7_swaps_77 : decode cX7_swaps 77 = .ok (.iaload, 1) := by decide +kernel
theorem dX7_swaps_78 : decode cX7_swaps 78 = .ok (.istore_n 3, 1) := by decide +kernel
theorem dX7_swaps_79 : decode cX7_swaps 79 = .ok (.iinc 1 1, 3) := by decide +kernel
theorem dX7_swaps_82 : decode cX7_swaps 82 = .ok (.goto (-26), 3) := by decide +kernel
theorem dX7_swaps_85 : decode cX7_swaps 85 = .ok (.iinc 2 1, 3) := by decide +kernel
theorem dX7_swaps_88 : decode cX7_swaps 88 = .ok (.goto (-63), 3) := by decide +kernel
theorem dX7_swaps_91 : decode cX7_swaps 91 = .ok (.iload_n 1, 1) := by decide +kernel
theorem dX7_swaps_92 : decode cX7_swaps 92 = .ok (.ireturn, 1) := by decide +kernel
theorem dX7_find_0 : decode cX7_find 0 = .ok (.iload_n 1, 1) := by decide +kernel
theorem dX7_find_1 : decode cX7_find 1 = .ok (.invokestatic 79, 3) := by decide +kernel
theorem dX7_find_4 : decode cX7_find 4 = .ok (.ifCond .eq 15, 3) := by decide +kernel
theorem dX7_find_7 : decode cX7_find 7 = .ok (.iload_n 2, 1) := by decide +kernel
theorem dX7_find_8 : decode cX7_find 8 = .ok (.i2l, 1) := by decide +kernel
theorem dX7_find_9 : decode cX7_find 9 = .ok (.lconst 0, 1) := by decide +kernel
theorem dX7_find_10 : decode cX7_find 10 = .ok (.ldc2_w 127, 3) := by decide +kernel
theorem dX7_find_13 : decode cX7_find 13 = .ok (.invokestatic 75, 3) := by decide +kernel
theorem dX7_find_16 : decode cX7_find 16 = .ok (.ifCond .ne 6, 3) := by decide +kernel
theorem dX7_find_19 : decode cX7_find 19 = .ok (.bipush (-101), 2) := by decide +kernel
theorem dX7_find_21 : decode cX7_find 21 = .ok (.ireturn, 1) := by decide +kernel
theorem dX7_find_22 : decode cX7_find 22 = .ok (.iconst 0, 1) := by decide +kernel
theorem dX7_find_23 : decode cX7_find 23 = .ok (.istore_n 3, 1) := by decide +kernel
theorem dX7_find_24 : decode cX7_find 24 = .ok (.iload_n 3, 1) := by decide +kernel
theorem dX7_find_25 : decode cX7_find 25 = .ok (.bipush 48, 2) := by decide +kernel
theorem dX7_find_27 : decode cX7_find 27 = .ok (.if_icmp .ge 36, 3) := by decide +kernel
theorem dX7_find_30 : decode cX7_find 30 = .ok (.aload_n 0, 1) := by decide +kernel
theorem dX7_find_31 : decode cX7_find 31 = .ok (.getfield 16, 3) := by decide +kernel
theorem dX7_find_34 : decode cX7_find 34 = .ok (.iload_n 3, 1) := by decide +kernel
theorem dX7_find_35 : decode cX7_find 35 = .ok (.iconst 4, 1) := by decide +kernel
theorem dX7_find_36 : decode cX7_find 36 = .ok (.idiv, 1) := by decide +kernel
theorem dX7_find_37 : decode cX7_find 37 = .ok (.iaload, 1) := by decide +kernel
theorem dX7_find_38 : decode cX7_find 38 = .ok (.ifCond .le 19, 3) := by decide +kernel
theorem dX7_find_41 : decode cX7_find 41 = .ok (.aload_n 0, 1) := by decide +kernel
theorem dX7_find_42 : decode cX7_find 42 = .ok (.getfield 28, 3) := by decide +kernel
theorem dX7_find_45 : decode cX7_find 45 = .ok (.iload_n 3, 1) := by decide +kernel
theorem dX7_find_46 : decode cX7_find 46 = .ok (.iaload, 1) := by decide +kernel
theorem dX7_find_47 : decode cX7_find 47 = .ok (.iconst 4, 1) := by decide +kernel
theorem dX7_find_48 : decode cX7_find 48 = .ok (.iload_n 1, 1) := by decide +kernel
theorem dX7_find_49 : decode cX7_find 49 = .ok (.imul, 1) := by decide +kernel
theorem dX7_find_50 : decode cX7_find 50 = .ok (.iload_n 2, 1) := by decide +kernel
theorem dX7_find_51 : decode cX7_find 51 = .ok (.iadd, 1) := by decide +kernel
theorem dX7_find_52 : decode cX7_find 52 = .ok (.if_icmp .ne 5, 3) := by decide +kernel
theorem dX7_find_55 : decode cX7_find 55 = .ok (.iload_n 3, 1) := by decide +kernel
theorem dX7_find_56 : decode cX7_find 56 = .ok (.ireturn, 1) := by decide +kernel
theorem dX7_find_57 : decode cX7_find 57 = .ok (.iinc 3 1, 3) := by decide +kernel
theorem dX7_find_60 : decode cX7_find 60 = .ok (.goto (-36), 3) := by decide +kernel
theorem dX7_find_63 : decode cX7_find 63 = .ok (.iconst (-1), 1) := by decide +kernel
theorem dX7_find_64 : decode cX7_find 64 = .ok (.ireturn, 1) := by decide +kernel
theorem dX7_fair_0 : decode cX7_fair 0 = .ok (.iload_n 1, 1) := by decide +kernel
theorem dX7_fair_1 : decode cX7_fair 1 = .ok (.i2l, 1) := by decide +kernel
theorem dX7_fair_2 : decode cX7_fair 2 = .ok (.lconst 0, 1) := by decide +kernel
theorem dX7_fair_3 : decode cX7_fair 3 = .ok (.ldc2_w 139, 3) := by decide +kernel
theorem dX7_fair_6 : decode cX7_fair 6 = .ok (.invokestatic 75, 3) := by decide +kernel
theorem dX7_fair_9 : decode cX7_fair 9 = .ok (.ifCond .eq 28, 3) := by decide +kernel
theorem dX7_fair_12 : decode cX7_fair 12 = .ok (.iload_n 2, 1) := by decide +kernel
theorem dX7_fair_13 : decode cX7_fair 13 = .ok (.i2l, 1) := by decide +kernel
theorem dX7_fair_14 : decode cX7_fair 14 = .ok (.iload_n 1, 1) := by decide +kernel
theorem dX7_fair_15 : decode cX7_fair 15 = .ok (.i2l, 1) := by decide +kernel
theorem dX7_fair_16 : decode cX7_fair 16 = .ok (.ldc2_w 139, 3) := by decide +kernel
theorem dX7_fair_19 : decode cX7_fair 19 = .ok (.invokestatic 75, 3) := by decide +kernel
theorem dX7_fair_22 : decode cX7_fair 22 = .ok (.ifCond .eq 15, 3) := by decide +kernel
theorem dX7_fair_25 : decode cX7_fair 25 = .ok (.iload_n 3, 1) := by decide +kernel
theorem dX7_fair_26 : decode cX7_fair 26 = .ok (.i2l, 1) := by decide +kernel
theorem dX7_fair_27 : decode cX7_fair 27 = .ok (.lconst 0, 1) := by decide +kernel
theorem dX7_fair_28 : decode cX7_fair 28 = .ok (.ldc2_w 141, 3) := by decide +kernel
theorem dX7_fair_31 : decode cX7_fair 31 = .ok (.invokestatic 75, 3) := by decide +kernel
theorem dX7_fair_34 : decode cX7_fair 34 = .ok (.ifCond .ne 6, 3) := by decide +kernel
theorem dX7_fair_37 : decode cX7_fair 37 = .ok (.bipush (-102), 2) := by decide +kernel
theorem dX7_fair_39 : decode cX7_fair 39 = .ok (.ireturn, 1) := by decide +kernel
theorem dX7_fair_40 : decode cX7_fair 40 = .ok (.aload_n 0, 1) := by decide +kernel
theorem dX7_fair_41 : decode cX7_fair 41 = .ok (.getfield 143, 3) := by decide +kernel
theorem dX7_fair_44 : decode cX7_fair 44 = .ok (.bipush 8, 2) := by decide +kernel
theorem dX7_fair_46 : decode cX7_fair 46 = .ok (.if_icmp .ne 6, 3) := by decide +kernel
theorem dX7_fair_49 : decode cX7_fair 49 = .ok (.bipush (-104), 2) := by decide +kernel
theorem dX7_fair_51 : decode cX7_fair 51 = .ok (.ireturn, 1) := by decide +kernel
theorem dX7_fair_52 : decode cX7_fair 52 = .ok (.aload_n 0, 1) := by decide +kernel
theorem dX7_fair_53 : decode cX7_fair 53 = .ok (.getfield 38, 3) := by decide +kernel
theorem dX7_fair_56 : decode cX7_fair 56 = .ok (.aload_n 0, 1) := by decide +kernel
theorem dX7_fair_57 : decode cX7_fair 57 = .ok (.getfield 143, 3) := by decide +kernel
theorem dX7_fair_60 : decode cX7_fair 60 = .ok (.iload_n 1, 1) := by decide +kernel
theorem dX7_fair_61 : decode cX7_fair 61 = .ok (.iastore, 1) := by decide +kernel
theorem dX7_fair_62 : decode cX7_fair 62 = .ok (.aload_n 0, 1) := by decide +kernel
theorem dX7_fair_63 : decode cX7_fair 63 = .ok (.getfield 41, 3) := by decide +kernel
