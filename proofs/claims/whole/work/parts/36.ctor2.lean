theorem kb_X0 : Cond.methodLink RX0 3 objectInit ∈ jm_gw := jm_g (i := 217) (by decide +kernel) rfl
theorem kf_X0_9 : k_PF RX0 9 0 0 (.array .int) := ⟨RX0, TX0, 2, tyX0, rfl, by decide, ingX0, rfl, jm_g (i := 218) (by decide +kernel) rfl, tyX0_ok, nmX0, rfl, rfl, by decide +kernel⟩
theorem kb_X1 : Cond.methodLink RX1 3 objectInit ∈ jm_gw := jm_g (i := 157) (by decide +kernel) rfl
theorem kf_X1_9 : k_PF RX1 9 1 0 (.array .int) := ⟨RX1, TX1, 2, tyX1, rfl, by decide, ingX1, rfl, jm_g (i := 158) (by decide +kernel) rfl, tyX1_ok, nmX1, rfl, rfl, by decide +kernel⟩
theorem kf_X1_15 : k_PF RX1 15 1 1 (.array .int) := ⟨RX1, TX1, 2, tyX1, rfl, by decide, ingX1, rfl, jm_g (i := 159) (by decide +kernel) rfl, tyX1_ok, nmX1, rfl, rfl, by decide +kernel⟩
theorem kb_X2 : Cond.methodLink RX2 3 objectInit ∈ jm_gw := jm_g (i := 185) (by decide +kernel) rfl
theorem kf_X2_9 : k_PF RX2 9 2 0 (.array .int) := ⟨RX2, TX2, 8, tyX2, rfl, by decide, ingX2, rfl, jm_g (i := 186) (by decide +kernel) rfl, tyX2_ok, nmX2, rfl, rfl, by decide +kernel⟩
theorem kf_X2_15 : k_PF RX2 15 2 1 (.array .int) := ⟨RX2, TX2, 8, tyX2, rfl, by decide, ingX2, rfl, jm_g (i := 187) (by decide +kernel) rfl, tyX2_ok, nmX2, rfl, rfl, by decide +kernel⟩
theorem kf_X2_18 : k_PF RX2 18 2 2 (.array .int) := ⟨RX2, TX2, 8, tyX2, rfl, by decide, ingX2, rfl, jm_g (i := 188) (by decide +kernel) rfl, tyX2_ok, nmX2, rfl, rfl, by decide +kernel⟩
theorem kf_X2_21 : k_PF RX2 21 2 3 (.array .int) := ⟨RX2, TX2, 8, tyX2, rfl, by decide, ingX2, rfl, jm_g (i := 189) (by decide +kernel) rfl, tyX2_ok, nmX2, rfl, rfl, by decide +kernel⟩
theorem kf_X2_28 : k_PF RX2 28 2 5 (.array .int) := ⟨RX2, TX2, 8, tyX2, rfl, by decide, ingX2, rfl, jm_g (i := 192) (by decide +kernel) rfl, tyX2_ok, nmX2, rfl, rfl, by decide +kernel⟩
theorem kf_X2_31 : k_PF RX2 31 2 6 (.array .int) := ⟨RX2, TX2, 8, tyX2, rfl, by decide, ingX2, rfl, jm_g (i := 193) (by decide +kernel) rfl, tyX2_ok, nmX2, rfl, rfl, by decide +kernel⟩
theorem kf_X2_34 : k_PF RX2 34 2 7 (.array .int) := ⟨RX2, TX2, 8, tyX2, rfl, by decide, ingX2, rfl, jm_g (i := 194) (by decide +kernel) rfl, tyX2_ok, nmX2, rfl, rfl, by decide +kernel⟩
theorem kb_X3 : Cond.methodLink RX3 3 objectInit ∈ jm_gw := jm_g (i := 171) (by decide +kernel) rfl
theorem kf_X3_9 : k_PF RX3 9 3 0 (.array .int) := ⟨RX3, TX3, 2, tyX3, rfl, by decide, ingX3, rfl, jm_g (i := 172) (by decide +kernel) rfl, tyX3_ok, nmX3, rfl, rfl, by decide +kernel⟩
theorem kf_X3_15 : k_PF RX3 15 3 1 (.array .int) := ⟨RX3, TX3, 2, tyX3, rfl, by decide, ingX3, rfl, jm_g (i := 174) (by decide +kernel) rfl, tyX3_ok, nmX3, rfl, rfl, by decide +kernel⟩
theorem kb_X4 : Cond.methodLink RX4 3 objectInit ∈ jm_gw := jm_g (i := 95) (by decide +kernel) rfl
theorem kf_X4_9 : k_PF RX4 9 4 0 (.array .int) := ⟨RX4, TX4, 8, tyX4, rfl, by decide, ingX4, rfl, jm_g (i := 96) (by decide +kernel) rfl, tyX4_ok, nmX4, rfl, rfl, by decide +kernel⟩
theorem kf_X4_15 : k_PF RX4 15 4 1 (.array .int) := ⟨RX4, TX4, 8, tyX4, rfl, by decide, ingX4, rfl, jm_g (i := 98) (by decide +kernel) rfl, tyX4_ok, nmX4, rfl, rfl, by decide +kernel⟩
theorem kb_X5 : Cond.methodLink RX5 3 objectInit ∈ jm_gw := jm_g (i := 135) (by decide +kernel) rfl
theorem kf_X5_9 : k_PF RX5 9 5 0 (.array .int) := ⟨RX5, TX5, 5, tyX5, rfl, by decide, ingX5, rfl, jm_g (i := 136) (by decide +kernel) rfl, tyX5_ok, nmX5, rfl, rfl, by decide +kernel⟩
theorem kf_X5_15 : k_PF RX5 15 5 1 (.array .int) := ⟨RX5, TX5, 5, tyX5, rfl, by decide, ingX5, rfl, jm_g (i := 137) (by decide +kernel) rfl, tyX5_ok, nmX5, rfl, rfl, by decide +kernel⟩
theorem kf_X5_18 : k_PF RX5 18 5 2 (.array .int) := ⟨RX5, TX5, 5, tyX5, rfl, by decide, ingX5, rfl, jm_g (i := 138) (by decide +kernel) rfl, tyX5_ok, nmX5, rfl, rfl, by decide +kernel⟩
theorem kb_X6 : Cond.methodLink RX6 3 objectInit ∈ jm_gw := jm_g (i := 87) (by decide +kernel) rfl
theorem kf_X6_12 : k_PF RX6 12 6 0 (.object "GallopingRing$Ring") := ⟨RX6, TX6, 10, tyX6, rfl, by decide, ingX6, rfl, jm_g (i := 227) (by decide +kernel) rfl, tyX6_ok, nmX6, rfl, rfl, by decide +kernel⟩
theorem kf_X6_19 : k_PF RX6 19 6 1 (.object "GallopingRing$Seating") := ⟨RX6, TX6, 10, tyX6, rfl, by decide, ingX6, rfl, jm_g (i := 228) (by decide +kernel) rfl, tyX6_ok, nmX6, rfl, rfl, by decide +kernel⟩
theorem kf_X6_26 : k_PF RX6 26 6 2 (.object "GallopingRing$Coats") := ⟨RX6, TX6, 10, tyX6, rfl, by decide, ingX6, rfl, jm_g (i := 229) (by decide +kernel) rfl, tyX6_ok, nmX6, rfl, rfl, by decide +kernel⟩
theorem kf_X6_33 : k_PF RX6 33 6 3 (.object "GallopingRing$Legs") := ⟨RX6, TX6, 10, tyX6, rfl, by decide, ingX6, rfl, jm_g (i := 230) (by decide +kernel) rfl, tyX6_ok, nmX6, rfl, rfl, by decide +kernel⟩
theorem kf_X6_40 : k_PF RX6 40 6 4 (.object "GallopingRing$Fairs") := ⟨RX6, TX6, 10, tyX6, rfl, by decide, ingX6, rfl, jm_g (i := 231) (by decide +kernel) rfl, tyX6_ok, nmX6, rfl, rfl, by decide +kernel⟩
theorem kf_X6_47 : k_PF RX6 47 6 5 (.object "GallopingRing$ChildQueue") := ⟨RX6, TX6, 10, tyX6, rfl, by decide, ingX6, rfl, jm_g (i := 232) (by decide +kernel) rfl, tyX6_ok, nmX6, rfl, rfl, by decide +kernel⟩
theorem kb_X7 : Cond.methodLink RX7 1 objectInit ∈ jm_gw := jm_g (i := 672) (by decide +kernel) rfl
theorem kf_X7_7 : k_PF RX7 7 7 0 (.array .int) := ⟨RX7, TX7, 26, tyX7, rfl, by decide, ingX7, rfl, jm_g (i := 677) (by decide +kernel) rfl, tyX7_ok, nmX7, rfl, rfl, by decide +kernel⟩
theorem kf_X7_13 : k_PF RX7 13 7 1 (.array .int) := ⟨RX7, TX7, 26, tyX7, rfl, by decide, ingX7, rfl, jm_g (i := 678) (by decide +kernel) rfl, tyX7_ok, nmX7, rfl, rfl, by decide +kernel⟩
theorem kf_X7_16 : k_PF RX7 16 7 2 (.array .int) := ⟨RX7, TX7, 26, tyX7, rfl, by decide, ingX7, rfl, jm_g (i := 679) (by decide +kernel) rfl, tyX7_ok, nmX7, rfl, rfl, by decide +kernel⟩
theorem kf_X7_19 : k_PF RX7 19 7 3 (.array .int) := ⟨RX7, TX7, 26, tyX7, rfl, by decide, ingX7, rfl, jm_g (i := 680) (by decide +kernel) rfl, tyX7_ok, nmX7, rfl, rfl, by decide +kernel⟩
theorem kf_X7_22 : k_PF RX7 22 7 4 (.array .int) := ⟨RX7, TX7, 26, tyX7, rfl, by decide, ingX7, rfl, jm_g (i := 681) (by decide +kernel) rfl, tyX7_ok, nmX7, rfl, rfl, by decide +kernel⟩
theorem kf_X7_25 : k_PF RX7 25 7 5 (.array .int) := ⟨RX7, TX7, 26, tyX7, rfl, by decide, ingX7, rfl, jm_g (i := 682) (by decide +kernel) rfl, tyX7_ok, nmX7, rfl, rfl, by decide +kernel⟩
theorem kf_X7_28 : k_PF RX7 28 7 6 (.array .int) := ⟨RX7, TX7, 26, tyX7, rfl, by decide, ingX7, rfl, jm_g (i := 683) (by decide +kernel) rfl, tyX7_ok, nmX7, rfl, rfl, by decide +kernel⟩
theorem kf_X7_31 : k_PF RX7 31 7 10 (.array .int) := ⟨RX7, TX7, 26, tyX7, rfl, by decide, ingX7, rfl, jm_g (i := 687) (by decide +kernel) rfl, tyX7_ok, nmX7, rfl, rfl, by decide +kernel⟩
theorem kf_X7_34 : k_PF RX7 34 7 11 (.array .boolean) := ⟨RX7, TX7, 26, tyX7, rfl, by decide, ingX7, rfl, jm_g (i := 688) (by decide +kernel) rfl, tyX7_ok, nmX7, rfl, rfl, by decide +kernel⟩
theorem kf_X7_38 : k_PF RX7 38 7 13 (.array .int) := ⟨RX7, TX7, 26, tyX7, rfl, by decide, ingX7, rfl, jm_g (i := 690) (by decide +kernel) rfl, tyX7_ok, nmX7, rfl, rfl, by decide +kernel⟩
theorem kf_X7_41 : k_PF RX7 41 7 14 (.array .int) := ⟨RX7, TX7, 26, tyX7, rfl, by decide, ingX7, rfl, jm_g (i := 691) (by decide +kernel) rfl, tyX7_ok, nmX7, rfl, rfl, by decide +kernel⟩
theorem kf_X7_44 : k_PF RX7 44 7 15 (.array .int) := ⟨RX7, TX7, 26, tyX7, rfl, by decide, ingX7, rfl, jm_g (i := 692) (by decide +kernel) rfl, tyX7_ok, nmX7, rfl, rfl, by decide +kernel⟩
theorem kf_X7_47 : k_PF RX7 47 7 16 (.array .int) := ⟨RX7, TX7, 26, tyX7, rfl, by decide, ingX7, rfl, jm_g (i := 693) (by decide +kernel) rfl, tyX7_ok, nmX7, rfl, rfl, by decide +kernel⟩
theorem kf_X7_50 : k_PF RX7 50 7 17 (.array .int) := ⟨RX7, TX7, 26, tyX7, rfl, by decide, ingX7, rfl, jm_g (i := 694) (by decide +kernel) rfl, tyX7_ok, nmX7, rfl, rfl, by decide +kernel⟩
theorem kf_X7_53 : k_PF RX7 53 7 19 (.array .int) := ⟨RX7, TX7, 26, tyX7, rfl, by decide, ingX7, rfl, jm_g (i := 696) (by decide +kernel) rfl, tyX7_ok, nmX7, rfl, rfl, by decide +kernel⟩
theorem kf_X7_56 : k_PF RX7 56 7 25 (.array .int) := ⟨RX7, TX7, 26, tyX7, rfl, by decide, ingX7, rfl, jm_g (i := 702) (by decide +kernel) rfl, tyX7_ok, nmX7, rfl, rfl, by decide +kernel⟩
theorem kn_X6 : k_NE RL 7 6 10 [.null, .null, .null, .null, .null, .null, .int 0, .int 0, .int 0, .int 0] := ⟨RX6, TX6, tyX6, rfl, ingX6, tyX6_ok, jm_g (i := 82) (by decide +kernel) rfl, jm_g (i := 83) (by decide +kernel) rfl, jm_g (i := 72) (by decide +kernel) rfl, fun j hj => by rcases (show j = 0 ∨ j = 1 ∨ j = 2 ∨ j = 3 ∨ j = 4 ∨ j = 5 ∨ j = 6 ∨ j = 7 ∨ j = 8 ∨ j = 9 by omega) with rfl | rfl | rfl | rfl | rfl | rfl | rfl | rfl | rfl | rfl <;> rfl⟩
theorem ki_X6 : jm_CB RL 9 mX6_init 0 := ⟨by decide +kernel, jm_g (i := 86) (by decide +kernel) rfl, jm_g (i := 72) (by decide +kernel) rfl, by decide +kernel, by decide, Or.inl (jm_g (i := 84) (by decide +kernel) rfl)⟩
theorem kj_X6 : Cond.instanceMethod yX6_init ∈ jm_gw := jm_g (i := 85) (by decide +kernel) rfl
theorem kn_X7 : k_NE RL 10 7 26 [.null, .null, .null, .null, .null, .null, .null, .int 0, .int 0, .int 0, .null, .null, .int 0, .null, .null, .null, .null, .null, .int 0, .null, .int 0, .int 0, .int 0, .int 0, .int 0, .null] := ⟨RX7, TX7, tyX7, rfl, ingX7, tyX7_ok, jm_g (i := 667) (by decide +kernel) rfl, jm_g (i := 668) (by decide +kernel) rfl, jm_g (i := 79) (by decide +kernel) rfl, fun j hj => by rcases (show j = 0 ∨ j = 1 ∨ j = 2 ∨ j = 3 ∨ j = 4 ∨ j = 5 ∨ j = 6 ∨ j = 7 ∨ j = 8 ∨ j = 9 ∨ j = 10 ∨ j = 11 ∨ j = 12 ∨ j = 13 ∨ j = 14 ∨ j = 15 ∨ j = 16 ∨ j = 17 ∨ j = 18 ∨ j = 19 ∨ j = 20 ∨ j = 21 ∨ j = 22 ∨ j = 23 ∨ j = 24 ∨ j = 25 by omega) with rfl | rfl | rfl | rfl | rfl | rfl | rfl | rfl | rfl | rfl | rfl | rfl | rfl | rfl | rfl | rfl | rfl | rfl | rfl | rfl | rfl | rfl | rfl | rfl | rfl | rfl <;> rfl⟩
theorem ki_X7 : jm_CB RL 12 mX7_init 0 := ⟨by decide +kernel, jm_g (i := 671) (by decide +kernel) rfl, jm_g (i := 79) (by decide +kernel) rfl, by decide +kernel, by decide, Or.inl (jm_g (i := 669) (by decide +kernel) rfl)⟩
theorem kj_X7 : Cond.instanceMethod yX7_init ∈ jm_gw := jm_g (i := 670) (by decide +kernel) rfl
theorem kn_X4 : k_NE RX6 9 4 8 [.null, .null, .int 0, .int 0, .int 0, .int 0, .int 0, .int 0] := ⟨RX4, TX4, tyX4, rfl, ingX4, tyX4_ok, jm_g (i := 90) (by decide +kernel) rfl, jm_g (i := 91) (by decide +kernel) rfl, jm_g (i := 73) (by decide +kernel) rfl, fun j hj => by rcases (show j = 0 ∨ j = 1 ∨ j = 2 ∨ j = 3 ∨ j = 4 ∨ j = 5 ∨ j = 6 ∨ j = 7 by omega) with rfl | rfl | rfl | rfl | rfl | rfl | rfl | rfl <;> rfl⟩
theorem ki_X4 : jm_CB RX6 11 mX4_init 0 := ⟨by decide +kernel, jm_g (i := 94) (by decide +kernel) rfl, jm_g (i := 73) (by decide +kernel) rfl, by decide +kernel, by decide, Or.inr ⟨"GallopingRing", jm_n (i := 92) (by decide +kernel) rfl⟩⟩
theorem kj_X4 : Cond.instanceMethod yX4_init ∈ jm_gw := jm_g (i := 93) (by decide +kernel) rfl
theorem kn_X5 : k_NE RX6 16 5 5 [.null, .null, .null, .int 0, .int 0] := ⟨RX5, TX5, tyX5, rfl, ingX5, tyX5_ok, jm_g (i := 130) (by decide +kernel) rfl, jm_g (i := 131) (by decide +kernel) rfl, jm_g (i := 74) (by decide +kernel) rfl, fun j hj => by rcases (show j = 0 ∨ j = 1 ∨ j = 2 ∨ j = 3 ∨ j = 4 by omega) with rfl | rfl | rfl | rfl | rfl <;> rfl⟩
theorem ki_X5 : jm_CB RX6 18 mX5_init 0 := ⟨by decide +kernel, jm_g (i := 134) (by decide +kernel) rfl, jm_g (i := 74) (by decide +kernel) rfl, by decide +kernel, by decide, Or.inr ⟨"GallopingRing", jm_n (i := 132) (by decide +kernel) rfl⟩⟩
theorem kj_X5 : Cond.instanceMethod yX5_init ∈ jm_gw := jm_g (i := 133) (by decide +kernel) rfl
theorem kn_X1 : k_NE RX6 23 1 2 [.null, .null] := ⟨RX1, TX1, tyX1, rfl, ingX1, tyX1_ok, jm_g (i := 152) (by decide +kernel) rfl, jm_g (i := 153) (by decide +kernel) rfl, jm_g (i := 75) (by decide +kernel) rfl, fun j hj => by rcases (show j = 0 ∨ j = 1 by omega) with rfl | rfl <;> rfl⟩
theorem ki_X1 : jm_CB RX6 25 mX1_init 0 := ⟨by decide +kernel, jm_g (i := 156) (by decide +kernel) rfl, jm_g (i := 75) (by decide +kernel) rfl, by decide +kernel, by decide, Or.inr ⟨"GallopingRing", jm_n (i := 154) (by decide +kernel) rfl⟩⟩
theorem kj_X1 : Cond.instanceMethod yX1_init ∈ jm_gw := jm_g (i := 155) (by decide +kernel) rfl
theorem kn_X3 : k_NE RX6 30 3 2 [.null, .null] := ⟨RX3, TX3, tyX3, rfl, ingX3, tyX3_ok, jm_g (i := 166) (by decide +kernel) rfl, jm_g (i := 167) (by decide +kernel) rfl, jm_g (i := 76) (by decide +kernel) rfl, fun j hj => by rcases (show j = 0 ∨ j = 1 by omega) with rfl | rfl <;> rfl⟩
theorem ki_X3 : jm_CB RX6 32 mX3_init 0 := ⟨by decide +kernel, jm_g (i := 170) (by decide +kernel) rfl, jm_g (i := 76) (by decide +kernel) rfl, by decide +kernel, by decide, Or.inr ⟨"GallopingRing", jm_n (i := 168) (by decide +kernel) rfl⟩⟩
theorem kj_X3 : Cond.instanceMethod yX3_init ∈ jm_gw := jm_g (i := 169) (by decide +kernel) rfl
theorem kn_X2 : k_NE RX6 37 2 8 [.null, .null, .null, .null, .int 0, .null, .null, .null] := ⟨RX2, TX2, tyX2, rfl, ingX2, tyX2_ok, jm_g (i := 180) (by decide +kernel) rfl, jm_g (i := 181) (by decide +kernel) rfl, jm_g (i := 77) (by decide +kernel) rfl, fun j hj => by rcases (show j = 0 ∨ j = 1 ∨ j = 2 ∨ j = 3 ∨ j = 4 ∨ j = 5 ∨ j = 6 ∨ j = 7 by omega) with rfl | rfl | rfl | rfl | rfl | rfl | rfl | rfl <;> rfl⟩
theorem ki_X2 : jm_CB RX6 39 mX2_init 0 := ⟨by decide +kernel, jm_g (i := 184) (by decide +kernel) rfl, jm_g (i := 77) (by decide +kernel) rfl, by decide +kernel, by decide, Or.inr ⟨"GallopingRing", jm_n (i := 182) (by decide +kernel) rfl⟩⟩
theorem kj_X2 : Cond.instanceMethod yX2_init ∈ jm_gw := jm_g (i := 183) (by decide +kernel) rfl
theorem kn_X0 : k_NE RX6 44 0 2 [.null, .int 0] := ⟨RX0, TX0, tyX0, rfl, ingX0, tyX0_ok, jm_g (i := 212) (by decide +kernel) rfl, jm_g (i := 213) (by decide +kernel) rfl, jm_g (i := 78) (by decide +kernel) rfl, fun j hj => by rcases (show j = 0 ∨ j = 1 by omega) with rfl | rfl <;> rfl⟩
theorem ki_X0 : jm_CB RX6 46 mX0_init 0 := ⟨by decide +kernel, jm_g (i := 216) (by decide +kernel) rfl, jm_g (i := 78) (by decide +kernel) rfl, by decide +kernel, by decide, Or.inr ⟨"GallopingRing", jm_n (i := 214) (by decide +kernel) rfl⟩⟩
theorem kj_X0 : Cond.instanceMethod yX0_init ∈ jm_gw := jm_g (i := 215) (by decide +kernel) rfl
def kq_X4 (cI : ClassId) (q : Nat) (w : va_W) : Prop := ∃ q2 q3 : Nat, w = [(q, .inr (4, [.ref q2, .ref q3, .int (nI 3000), .int (nI 5000), .int 0, .int 0, .int 0, .int 0])), (q2, .inl (cI, 12, .inl (fun _ => 0))), (q3, .inl (cI, 12, .inl (fun _ => 0)))]
set_option maxHeartbeats 2000000 in
theorem n_X4 {D : va_G} {cI cZ : ClassId} {h0 : Nat} : k_J D cI cZ mX4_init 0 2 24 h0 0 0 0 [] [(h0, .inr (4, [.null, .null, .int 0, .int 0, .int 0, .int 0, .int 0, .int 0]))] (kq_X4 cI h0) := by
  refine k_aload dX4_init_0 rfl ?_
  refine k_obj dX4_init_1 rfl kb_X4 ?_
  refine k_aload dX4_init_4 rfl ?_
  refine k_bipush (nI 12) dX4_init_5 rfl (by decide +kernel) ?_
  refine k_newI (f := fun q2 => [(h0, .inr (4, [.null, .null, .int 0, .int 0, .int 0, .int 0, .int 0, .int 0])), (q2, .inl (cI, 12, .inl (fun _ => 0)))]) dX4_init_7 rfl rfl (by decide) (fun _ => rfl) (Nat.le_of_ble_eq_true rfl) (Nat.le_of_ble_eq_true rfl) (fun q2 => ?_)
  refine k_putF (fs' := [.ref q2, .null, .int 0, .int 0, .int 0, .int 0, .int 0, .int 0]) dX4_init_9 rfl kf_X4_9 rfl rfl (Nat.le_of_ble_eq_true rfl) rfl ?_
  refine k_aload dX4_init_12 rfl ?_
  refine k_bipush (nI 12) dX4_init_13 rfl (by decide +kernel) ?_
  refine k_newI (f := fun q3 => [(h0, .inr (4, [.ref q2, .null, .int 0, .int 0, .int 0, .int 0, .int 0, .int 0])), (q2, .inl (cI, 12, .inl (fun _ => 0))), (q3, .inl (cI, 12, .inl (fun _ => 0)))]) dX4_init_15 rfl rfl (by decide) (fun _ => rfl) (Nat.le_of_ble_eq_true rfl) (Nat.le_of_ble_eq_true rfl) (fun q3 => ?_)
  refine k_putF (fs' := [.ref q2, .ref q3, .int 0, .int 0, .int 0, .int 0, .int 0, .int 0]) dX4_init_17 rfl kf_X4_15 rfl rfl (Nat.le_of_ble_eq_true rfl) rfl ?_
  refine k_aload dX4_init_20 rfl ?_
  refine k_sipush (nI 3000) dX4_init_21 rfl (by decide +kernel) ?_
  refine k_puti (fs' := [.ref q2, .ref q3, .int (nI 3000), .int 0, .int 0, .int 0, .int 0, .int 0]) dX4_init_24 rfl pe_X4_18 (Nat.le_of_ble_eq_true rfl) rfl ?_
  refine k_aload dX4_init_27 rfl ?_
  refine k_sipush (nI 5000) dX4_init_28 rfl (by decide +kernel) ?_
  refine k_puti (fs' := [.ref q2, .ref q3, .int (nI 3000), .int (nI 5000), .int 0, .int 0, .int 0, .int 0]) dX4_init_31 rfl pe_X4_22 (Nat.le_of_ble_eq_true rfl) rfl ?_
  refine k_aload dX4_init_34 rfl ?_
  refine k_iconst 0 dX4_init_35 rfl (by decide +kernel) ?_
  refine k_puti (fs' := [.ref q2, .ref q3, .int (nI 3000), .int (nI 5000), .int 0, .int 0, .int 0, .int 0]) dX4_init_36 rfl pe_X4_25 (Nat.le_of_ble_eq_true rfl) rfl ?_
  refine k_aload dX4_init_39 rfl ?_
  refine k_iconst 0 dX4_init_40 rfl (by decide +kernel) ?_
  refine k_puti (fs' := [.ref q2, .ref q3, .int (nI 3000), .int (nI 5000), .int 0, .int 0, .int 0, .int 0]) dX4_init_41 rfl pe_X4_28 (Nat.le_of_ble_eq_true rfl) rfl ?_
  refine k_aload dX4_init_44 rfl ?_
  refine k_iconst 0 dX4_init_45 rfl (by decide +kernel) ?_
  refine k_puti (fs' := [.ref q2, .ref q3, .int (nI 3000), .int (nI 5000), .int 0, .int 0, .int 0, .int 0]) dX4_init_46 rfl pe_X4_31 (Nat.le_of_ble_eq_true rfl) rfl ?_
  refine k_aload dX4_init_49 rfl ?_
  refine k_iconst 0 dX4_init_50 rfl (by decide +kernel) ?_
  refine k_puti (fs' := [.ref q2, .ref q3, .int (nI 3000), .int (nI 5000), .int 0, .int 0, .int 0, .int 0]) dX4_init_51 rfl pe_X4_34 (Nat.le_of_ble_eq_true rfl) rfl ?_
  exact k_ret dX4_init_54 rfl rfl ⟨q2, q3, rfl⟩
def kq_X5 (cI : ClassId) (q : Nat) (w : va_W) : Prop := ∃ q5 q6 q7 : Nat, w = [(q, .inr (5, [.ref q5, .ref q6, .ref q7, .int 0, .int (-1)])), (q5, .inl (cI, 3, .inl (fun _ => 0))), (q6, .inl (cI, 3, .inl (fun _ => 0))), (q7, .inl (cI, 3, .inl (fun _ => 0)))]
set_option maxHeartbeats 2000000 in
theorem n_X5 {D : va_G} {cI cZ : ClassId} {h0 : Nat} : k_J D cI cZ mX5_init 0 3 9 h0 0 0 0 [] [(h0, .inr (5, [.null, .null, .null, .int 0, .int 0]))] (kq_X5 cI h0) := by
  refine k_aload dX5_init_0 rfl ?_
  refine k_obj dX5_init_1 rfl kb_X5 ?_
  refine k_aload dX5_init_4 rfl ?_
  refine k_iconst (nI 3) dX5_init_5 rfl (by decide +kernel) ?_
  refine k_newI (f := fun q5 => [(h0, .inr (5, [.null, .null, .null, .int 0, .int 0])), (q5, .inl (cI, 3, .inl (fun _ => 0)))]) dX5_init_6 rfl rfl (by decide) (fun _ => rfl) (Nat.le_of_ble_eq_true rfl) (Nat.le_of_ble_eq_true rfl) (fun q5 => ?_)
  refine k_putF (fs' := [.ref q5, .null, .null, .int 0, .int 0]) dX5_init_8 rfl kf_X5_9 rfl rfl (Nat.le_of_ble_eq_true rfl) rfl ?_
  refine k_aload dX5_init_11 rfl ?_
  refine k_iconst (nI 3) dX5_init_12 rfl (by decide +kernel) ?_
  refine k_newI (f := fun q6 => [(h0, .inr (5, [.ref q5, .null, .null, .int 0, .int 0])), (q5, .inl (cI, 3, .inl (fun _ => 0))), (q6, .inl (cI, 3, .inl (fun _ => 0)))]) dX5_init_13 rfl rfl (by decide) (fun _ => rfl) (Nat.le_of_ble_eq_true rfl) (Nat.le_of_ble_eq_true rfl) (fun q6 => ?_)
  refine k_putF (fs' := [.ref q5, .ref q6, .null, .int 0, .int 0]) dX5_init_15 rfl kf_X5_15 rfl rfl (Nat.le_of_ble_eq_true rfl) rfl ?_
  refine k_aload dX5_init_18 rfl ?_
  refine k_iconst (nI 3) dX5_init_19 rfl (by decide +kernel) ?_
  refine k_newI (f := fun q7 => [(h0, .inr (5, [.ref q5, .ref q6, .null, .int 0, .int 0])), (q5, .inl (cI, 3, .inl (fun _ => 0))), (q6, .inl (cI, 3, .inl (fun _ => 0))), (q7, .inl (cI, 3, .inl (fun _ => 0)))]) dX5_init_20 rfl rfl (by decide) (fun _ => rfl) (Nat.le_of_ble_eq_true rfl) (Nat.le_of_ble_eq_true rfl) (fun q7 => ?_)
  refine k_putF (fs' := [.ref q5, .ref q6, .ref q7, .int 0, .int 0]) dX5_init_22 rfl kf_X5_18 rfl rfl (Nat.le_of_ble_eq_true rfl) rfl ?_
  refine k_aload dX5_init_25 rfl ?_
  refine k_iconst 0 dX5_init_26 rfl (by decide +kernel) ?_
  refine k_puti (fs' := [.ref q5, .ref q6, .ref q7, .int 0, .int 0]) dX5_init_27 rfl pe_X5_21 (Nat.le_of_ble_eq_true rfl) rfl ?_
  refine k_aload dX5_init_30 rfl ?_
  refine k_iconst (-1) dX5_init_31 rfl (by decide +kernel) ?_
  refine k_puti (fs' := [.ref q5, .ref q6, .ref q7, .int 0, .int (-1)]) dX5_init_32 rfl pe_X5_25 (Nat.le_of_ble_eq_true rfl) rfl ?_
  exact k_ret dX5_init_35 rfl rfl ⟨q5, q6, q7, rfl⟩
def kq_X1 (cI : ClassId) (q : Nat) (w : va_W) : Prop := ∃ q9 q10 : Nat, w = [(q, .inr (1, [.ref q9, .ref q10])), (q9, .inl (cI, 96, .inl (fun _ => 0))), (q10, .inl (cI, 12, .inl (fun _ => 0)))]
set_option maxHeartbeats 2000000 in
theorem n_X1 {D : va_G} {cI cZ : ClassId} {h0 : Nat} : k_J D cI cZ mX1_init 0 2 108 h0 0 0 0 [] [(h0, .inr (1, [.null, .null]))] (kq_X1 cI h0) := by
  refine k_aload dX1_init_0 rfl ?_
  refine k_obj dX1_init_1 rfl kb_X1 ?_
  refine k_aload dX1_init_4 rfl ?_
  refine k_bipush (nI 96) dX1_init_5 rfl (by decide +kernel) ?_
  refine k_newI (f := fun q9 => [(h0, .inr (1, [.null, .null])), (q9, .inl (cI, 96, .inl (fun _ => 0)))]) dX1_init_7 rfl rfl (by decide) (fun _ => rfl) (Nat.le_of_ble_eq_true rfl) (Nat.le_of_ble_eq_true rfl) (fun q9 => ?_)
  refine k_putF (fs' := [.ref q9, .null]) dX1_init_9 rfl kf_X1_9 rfl rfl (Nat.le_of_ble_eq_true rfl) rfl ?_
  refine k_aload dX1_init_12 rfl ?_
  refine k_bipush (nI 12) dX1_init_13 rfl (by decide +kernel) ?_
  refine k_newI (f := fun q10 => [(h0, .inr (1, [.ref q9, .null])), (q9, .inl (cI, 96, .inl (fun _ => 0))), (q10, .inl (cI, 12, .inl (fun _ => 0)))]) dX1_init_15 rfl rfl (by decide) (fun _ => rfl) (Nat.le_of_ble_eq_true rfl) (Nat.le_of_ble_eq_true rfl) (fun q10 => ?_)
  refine k_putF (fs' := [.ref q9, .ref q10]) dX1_init_17 rfl kf_X1_15 rfl rfl (Nat.le_of_ble_eq_true rfl) rfl ?_
  exact k_ret dX1_init_20 rfl rfl ⟨q9, q10, rfl⟩
def kq_X3 (cI : ClassId) (q : Nat) (w : va_W) : Prop := ∃ (q12 q13 : Nat) (f : Nat → Int32), (∀ k, k < 48 → f k = nI k) ∧ w = [(q, .inr (3, [.ref q12, .ref q13])), (q12, .inl (cI, 48, .inl (f))), (q13, .inl (cI, 48, .inl (fun _ => 0)))]
theorem l_X3_init {d : Nat} {Q : Option Value → jm_Mem → Prop} (h : ∀ μ : jm_Mem, (∀ k, k < 48 → μ 12 k = nI k) → μ 13 = (fun _ => 0) → Q none μ) : ∀ i, i ≤ 48 → ∀ μ : jm_Mem, (∀ k, k < i → μ 12 k = nI k) → μ 13 = (fun _ => 0) → jm_J [11, 12, 13] [] d mX3_init 22 [some (.ref 11), some (.int (nI i))] [] μ Q := by
  refine jm_for 48 ?_ ?_
  · intro μ h1 h2
    refine jm_iload_n dX3_init_22 rfl rfl rfl ?_
    refine jm_bipush (nI 48) dX3_init_23 rfl (by decide) ?_
    refine jm_icmp_ge (tgt := 41) dX3_init_25 (by decide) rfl (fun c5 => ?_) (fun c5 => absurd ((nI_leI (by omega) (by omega)).mpr (Nat.le_refl _)) c5)
    refine jm_vret dX3_init_41 rfl ?_
    exact h μ h1 h2
  · intro i hi ih μ h1 h2
    refine jm_iload_n dX3_init_22 rfl rfl rfl ?_
    refine jm_bipush (nI 48) dX3_init_23 rfl (by decide) ?_
    refine jm_icmp_ge (tgt := 41) dX3_init_25 (by decide) rfl (fun c5 => absurd ((nI_leI (by omega) (by omega)).mp c5) (by omega)) (fun c5 => ?_)
    refine jm_aload_n dX3_init_28 rfl rfl rfl ?_
    refine jm_getr dX3_init_29 rfl fe_X3_9 rfl rfl rfl ?_
    refine jm_iload_n dX3_init_32 rfl rfl rfl ?_
    refine jm_iload_n dX3_init_33 rfl rfl rfl ?_
    refine jm_iast dX3_init_34 rfl rfl rfl (by decide) rfl hi ?_
    refine jm_iinc (nI 1) dX3_init_35 rfl rfl (by decide) rfl rfl ?_
    dsimp only [List.set]
    refine jm_goto (n := 22) dX3_init_38 (by decide) ?_
    rw [nI_add]
    refine ih _ (fun k hk => ?_) ?_
    · rw [jm_set_eq]
      unfold upd
      by_cases e : k = i
      · rw [if_pos e, e]
      · rw [if_neg e]
        exact h1 k (by omega)
    · rw [jm_set_ne 13 (by decide)]
      exact h2
set_option maxHeartbeats 2000000 in
theorem n_X3 {D : va_G} {cI cZ : ClassId} {h0 : Nat} : k_J D cI cZ mX3_init 0 2 96 h0 0 0 0 [] [(h0, .inr (3, [.null, .null]))] (kq_X3 cI h0) := by
  refine k_aload dX3_init_0 rfl ?_
  refine k_obj dX3_init_1 rfl kb_X3 ?_
  refine k_aload dX3_init_4 rfl ?_
  refine k_bipush (nI 48) dX3_init_5 rfl (by decide +kernel) ?_
  refine k_newI (f := fun q12 => [(h0, .inr (3, [.null, .null])), (q12, .inl (cI, 48, .inl (fun _ => 0)))]) dX3_init_7 rfl rfl (by decide) (fun _ => rfl) (Nat.le_of_ble_eq_true rfl) (Nat.le_of_ble_eq_true rfl) (fun q12 => ?_)
  refine k_putF (fs' := [.ref q12, .null]) dX3_init_9 rfl kf_X3_9 rfl rfl (Nat.le_of_ble_eq_true rfl) rfl ?_
  refine k_aload dX3_init_12 rfl ?_
  refine k_bipush (nI 48) dX3_init_13 rfl (by decide +kernel) ?_
  refine k_newI (f := fun q13 => [(h0, .inr (3, [.ref q12, .null])), (q12, .inl (cI, 48, .inl (fun _ => 0))), (q13, .inl (cI, 48, .inl (fun _ => 0)))]) dX3_init_15 rfl rfl (by decide) (fun _ => rfl) (Nat.le_of_ble_eq_true rfl) (Nat.le_of_ble_eq_true rfl) (fun q13 => ?_)
  refine k_putF (fs' := [.ref q12, .ref q13]) dX3_init_17 rfl kf_X3_15 rfl rfl (Nat.le_of_ble_eq_true rfl) rfl ?_
  refine k_jm (I := [11, 12, 13]) (ad := fun k => [h0, q12, q13].getD (k - 11) 0) (μ := fun _ _ => 0) (a0 := 11) (r := 1) (Qj := fun v μ => v = none ∧ (∀ k, k < 48 → μ 12 k = nI k) ∧ μ 13 = (fun _ => 0)) rfl rfl rfl rfl rfl ?_ ?_
  · show jm_J [11, 12, 13] [] 0 mX3_init 20 [some (.ref 11), none] [] _ _
    refine jm_iconst (nI 0) dX3_init_20 rfl (by decide) ?_
    refine jm_istore_n dX3_init_21 rfl rfl rfl rfl ?_
    dsimp only [List.set]
    exact l_X3_init (fun μ h1 h2 => ⟨rfl, h1, h2⟩) 0 (by omega) _ (fun k hk => by omega) rfl
  · intro v μ' hv
    refine ⟨hv.1, q12, q13, μ' 12, hv.2.1, ?_⟩
    show [(h0, _), (q12, _), (q13, Sum.inl (cI, 48, Sum.inl (μ' 13)))] = _
    rw [hv.2.2]
    rfl
def kq_X2 (cI : ClassId) (q : Nat) (w : va_W) : Prop := ∃ q15 q16 q17 q18 q19 q20 q21 : Nat, w = [(q, .inr (2, [.ref q15, .ref q16, .ref q17, .ref q18, .int 0, .ref q19, .ref q20, .ref q21])), (q15, .inl (cI, 8, .inl (fun _ => 0))), (q16, .inl (cI, 8, .inl (fun _ => 0))), (q17, .inl (cI, 8, .inl (fun _ => 0))), (q18, .inl (cI, 64, .inl (fun _ => 0))), (q19, .inl (cI, 8, .inl (fun _ => 0))), (q20, .inl (cI, 8, .inl (fun _ => 0))), (q21, .inl (cI, 8, .inl (fun _ => 0)))]
set_option maxHeartbeats 2000000 in
theorem n_X2 {D : va_G} {cI cZ : ClassId} {h0 : Nat} : k_J D cI cZ mX2_init 0 7 112 h0 0 0 0 [] [(h0, .inr (2, [.null, .null, .null, .null, .int 0, .null, .null, .null]))] (kq_X2 cI h0) := by
  refine k_aload dX2_init_0 rfl ?_
  refine k_obj dX2_init_1 rfl kb_X2 ?_
  refine k_aload dX2_init_4 rfl ?_
  refine k_bipush (nI 8) dX2_init_5 rfl (by decide +kernel) ?_
  refine k_newI (f := fun q15 => [(h0, .inr (2, [.null, .null, .null, .null, .int 0, .null, .null, .null])), (q15, .inl (cI, 8, .inl (fun _ => 0)))]) dX2_init_7 rfl rfl (by decide) (fun _ => rfl) (Nat.le_of_ble_eq_true rfl) (Nat.le_of_ble_eq_true rfl) (fun q15 => ?_)
  refine k_putF (fs' := [.ref q15, .null, .null, .null, .int 0, .null, .null, .null]) dX2_init_9 rfl kf_X2_9 rfl rfl (Nat.le_of_ble_eq_true rfl) rfl ?_
  refine k_aload dX2_init_12 rfl ?_
  refine k_bipush (nI 8) dX2_init_13 rfl (by decide +kernel) ?_
  refine k_newI (f := fun q16 => [(h0, .inr (2, [.ref q15, .null, .null, .null, .int 0, .null, .null, .null])), (q15, .inl (cI, 8, .inl (fun _ => 0))), (q16, .inl (cI, 8, .inl (fun _ => 0)))]) dX2_init_15 rfl rfl (by decide) (fun _ => rfl) (Nat.le_of_ble_eq_true rfl) (Nat.le_of_ble_eq_true rfl) (fun q16 => ?_)
  refine k_putF (fs' := [.ref q15, .ref q16, .null, .null, .int 0, .null, .null, .null]) dX2_init_17 rfl kf_X2_15 rfl rfl (Nat.le_of_ble_eq_true rfl) rfl ?_
  refine k_aload dX2_init_20 rfl ?_
  refine k_bipush (nI 8) dX2_init_21 rfl (by decide +kernel) ?_
  refine k_newI (f := fun q17 => [(h0, .inr (2, [.ref q15, .ref q16, .null, .null, .int 0, .null, .null, .null])), (q15, .inl (cI, 8, .inl (fun _ => 0))), (q16, .inl (cI, 8, .inl (fun _ => 0))), (q17, .inl (cI, 8, .inl (fun _ => 0)))]) dX2_init_23 rfl rfl (by decide) (fun _ => rfl) (Nat.le_of_ble_eq_true rfl) (Nat.le_of_ble_eq_true rfl) (fun q17 => ?_)
  refine k_putF (fs' := [.ref q15, .ref q16, .ref q17, .null, .int 0, .null, .null, .null]) dX2_init_25 rfl kf_X2_18 rfl rfl (Nat.le_of_ble_eq_true rfl) rfl ?_
  refine k_aload dX2_init_28 rfl ?_
  refine k_bipush (nI 64) dX2_init_29 rfl (by decide +kernel) ?_
  refine k_newI (f := fun q18 => [(h0, .inr (2, [.ref q15, .ref q16, .ref q17, .null, .int 0, .null, .null, .null])), (q15, .inl (cI, 8, .inl (fun _ => 0))), (q16, .inl (cI, 8, .inl (fun _ => 0))), (q17, .inl (cI, 8, .inl (fun _ => 0))), (q18, .inl (cI, 64, .inl (fun _ => 0)))]) dX2_init_31 rfl rfl (by decide) (fun _ => rfl) (Nat.le_of_ble_eq_true rfl) (Nat.le_of_ble_eq_true rfl) (fun q18 => ?_)
  refine k_putF (fs' := [.ref q15, .ref q16, .ref q17, .ref q18, .int 0, .null, .null, .null]) dX2_init_33 rfl kf_X2_21 rfl rfl (Nat.le_of_ble_eq_true rfl) rfl ?_
  refine k_aload dX2_init_36 rfl ?_
  refine k_iconst 0 dX2_init_37 rfl (by decide +kernel) ?_
  refine k_puti (fs' := [.ref q15, .ref q16, .ref q17, .ref q18, .int 0, .null, .null, .null]) dX2_init_38 rfl pe_X2_24 (Nat.le_of_ble_eq_true rfl) rfl ?_
  refine k_aload dX2_init_41 rfl ?_
  refine k_bipush (nI 8) dX2_init_42 rfl (by decide +kernel) ?_
  refine k_newI (f := fun q19 => [(h0, .inr (2, [.ref q15, .ref q16, .ref q17, .ref q18, .int 0, .null, .null, .null])), (q15, .inl (cI, 8, .inl (fun _ => 0))), (q16, .inl (cI, 8, .inl (fun _ => 0))), (q17, .inl (cI, 8, .inl (fun _ => 0))), (q18, .inl (cI, 64, .inl (fun _ => 0))), (q19, .inl (cI, 8, .inl (fun _ => 0)))]) dX2_init_44 rfl rfl (by decide) (fun _ => rfl) (Nat.le_of_ble_eq_true rfl) (Nat.le_of_ble_eq_true rfl) (fun q19 => ?_)
  refine k_putF (fs' := [.ref q15, .ref q16, .ref q17, .ref q18, .int 0, .ref q19, .null, .null]) dX2_init_46 rfl kf_X2_28 rfl rfl (Nat.le_of_ble_eq_true rfl) rfl ?_
  refine k_aload dX2_init_49 rfl ?_
  refine k_bipush (nI 8) dX2_init_50 rfl (by decide +kernel) ?_
  refine k_newI (f := fun q20 => [(h0, .inr (2, [.ref q15, .ref q16, .ref q17, .ref q18, .int 0, .ref q19, .null, .null])), (q15, .inl (cI, 8, .inl (fun _ => 0))), (q16, .inl (cI, 8, .inl (fun _ => 0))), (q17, .inl (cI, 8, .inl (fun _ => 0))), (q18, .inl (cI, 64, .inl (fun _ => 0))), (q19, .inl (cI, 8, .inl (fun _ => 0))), (q20, .inl (cI, 8, .inl (fun _ => 0)))]) dX2_init_52 rfl rfl (by decide) (fun _ => rfl) (Nat.le_of_ble_eq_true rfl) (Nat.le_of_ble_eq_true rfl) (fun q20 => ?_)
  refine k_putF (fs' := [.ref q15, .ref q16, .ref q17, .ref q18, .int 0, .ref q19, .ref q20, .null]) dX2_init_54 rfl kf_X2_31 rfl rfl (Nat.le_of_ble_eq_true rfl) rfl ?_
  refine k_aload dX2_init_57 rfl ?_
  refine k_bipush (nI 8) dX2_init_58 rfl (by decide +kernel) ?_
  refine k_newI (f := fun q21 => [(h0, .inr (2, [.ref q15, .ref q16, .ref q17, .ref q18, .int 0, .ref q19, .ref q20, .null])), (q15, .inl (cI, 8, .inl (fun _ => 0))), (q16, .inl (cI, 8, .inl (fun _ => 0))), (q17, .inl (cI, 8, .inl (fun _ => 0))), (q18, .inl (cI, 64, .inl (fun _ => 0))), (q19, .inl (cI, 8, .inl (fun _ => 0))), (q20, .inl (cI, 8, .inl (fun _ => 0))), (q21, .inl (cI, 8, .inl (fun _ => 0)))]) dX2_init_60 rfl rfl (by decide) (fun _ => rfl) (Nat.le_of_ble_eq_true rfl) (Nat.le_of_ble_eq_true rfl) (fun q21 => ?_)
  refine k_putF (fs' := [.ref q15, .ref q16, .ref q17, .ref q18, .int 0, .ref q19, .ref q20, .ref q21]) dX2_init_62 rfl kf_X2_34 rfl rfl (Nat.le_of_ble_eq_true rfl) rfl ?_
  exact k_ret dX2_init_65 rfl rfl ⟨q15, q16, q17, q18, q19, q20, q21, rfl⟩
def kq_X0 (cI : ClassId) (q : Nat) (w : va_W) : Prop := ∃ q23 : Nat, w = [(q, .inr (0, [.ref q23, .int 0])), (q23, .inl (cI, 100, .inl (fun _ => 0)))]
set_option maxHeartbeats 2000000 in
theorem n_X0 {D : va_G} {cI cZ : ClassId} {h0 : Nat} : k_J D cI cZ mX0_init 0 1 100 h0 0 0 0 [] [(h0, .inr (0, [.null, .int 0]))] (kq_X0 cI h0) := by
  refine k_aload dX0_init_0 rfl ?_
  refine k_obj dX0_init_1 rfl kb_X0 ?_
  refine k_aload dX0_init_4 rfl ?_
  refine k_bipush (nI 100) dX0_init_5 rfl (by decide +kernel) ?_
  refine k_newI (f := fun q23 => [(h0, .inr (0, [.null, .int 0])), (q23, .inl (cI, 100, .inl (fun _ => 0)))]) dX0_init_7 rfl rfl (by decide) (fun _ => rfl) (Nat.le_of_ble_eq_true rfl) (Nat.le_of_ble_eq_true rfl) (fun q23 => ?_)
  refine k_putF (fs' := [.ref q23, .int 0]) dX0_init_9 rfl kf_X0_9 rfl rfl (Nat.le_of_ble_eq_true rfl) rfl ?_
  refine k_aload dX0_init_12 rfl ?_
  refine k_iconst 0 dX0_init_13 rfl (by decide +kernel) ?_
  refine k_puti (fs' := [.ref q23, .int 0]) dX0_init_14 rfl pe_X0_15 (Nat.le_of_ble_eq_true rfl) rfl ?_
  exact k_ret dX0_init_17 rfl rfl ⟨q23, rfl⟩
def k_mu (f : Nat → Int32) : jm_Mem := fun i => match i with
  | 0 => upd (fun _ => 0) 7 (nI 100)
  | 1 => upd (upd (fun _ => 0) 2 (nI 3000)) 3 (nI 5000)
  | 4 => upd (fun _ => 0) 4 (-1)
  | 12 => f
  | _ => fun _ => 0
def kq_X6 (cI cZ : ClassId) (q : Nat) (w : va_W) : Prop := ∃ (ad : Nat → Nat) (f : Nat → Int32), ad 0 = q ∧ (∀ k, k < 48 → f k = nI k) ∧ w = jm_ws [0, 1, 2, 3, 4, 5, 6, 7, 8, 9, 10, 11, 12, 13, 14, 15, 16, 17, 18, 19, 20, 21, 22, 23] ad cI cZ (k_mu f)
set_option maxHeartbeats 4000000 in
theorem n_X6 {D : va_G} {cI cZ : ClassId} {h0 : Nat} : k_J D cI cZ mX6_init 1 23 476 h0 0 0 0 [] [(h0, .inr (6, [.null, .null, .null, .null, .null, .null, .int 0, .int 0, .int 0, .int 0]))] (kq_X6 cI cZ h0) := by
  refine k_aload dX6_init_0 rfl ?_
  refine k_obj dX6_init_1 rfl kb_X6 ?_
  refine k_aload dX6_init_4 rfl ?_
  refine k_ctor (n0 := 1) dX6_init_5 dX6_init_8 dX6_init_9 rfl (Nat.le_of_ble_eq_true rfl) (Nat.le_of_ble_eq_true rfl) kn_X4 ki_X4 kj_X4 rfl rfl (Nat.le_of_ble_eq_true rfl) (by decide) (Nat.le_of_ble_eq_true rfl) [0] rfl (fun _ => rfl) rfl (by decide) (fun q => n_X4) (fun q1 w hw => ?_)
  obtain ⟨q2, q3, rfl⟩ := hw
  show k_J D cI cZ mX6_init 1 23 476 h0 _ _ 12 [.ref q1, .ref h0] ([(h0, .inr (6, [.null, .null, .null, .null, .null, .null, .int 0, .int 0, .int 0, .int 0])), (q1, .inr (4, [.ref q2, .ref q3, .int (nI 3000), .int (nI 5000), .int 0, .int 0, .int 0, .int 0])), (q2, .inl (cI, 12, .inl (fun _ => 0))), (q3, .inl (cI, 12, .inl (fun _ => 0)))]) _
  refine k_putF (fs' := [.ref q1, .null, .null, .null, .null, .null, .int 0, .int 0, .int 0, .int 0]) dX6_init_12 rfl kf_X6_12 rfl rfl (Nat.le_of_ble_eq_true rfl) rfl ?_
  refine k_aload dX6_init_15 rfl ?_
  refine k_ctor (n0 := 4) dX6_init_16 dX6_init_19 dX6_init_20 rfl (Nat.le_of_ble_eq_true rfl) (Nat.le_of_ble_eq_true rfl) kn_X5 ki_X5 kj_X5 rfl rfl (Nat.le_of_ble_eq_true rfl) (by decide) (Nat.le_of_ble_eq_true rfl) [0, 1, 2, 3] rfl (fun _ => rfl) rfl (by decide) (fun q => n_X5) (fun q4 w hw => ?_)
  obtain ⟨q5, q6, q7, rfl⟩ := hw
  show k_J D cI cZ mX6_init 1 23 476 h0 _ _ 23 [.ref q4, .ref h0] ([(h0, .inr (6, [.ref q1, .null, .null, .null, .null, .null, .int 0, .int 0, .int 0, .int 0])), (q1, .inr (4, [.ref q2, .ref q3, .int (nI 3000), .int (nI 5000), .int 0, .int 0, .int 0, .int 0])), (q2, .inl (cI, 12, .inl (fun _ => 0))), (q3, .inl (cI, 12, .inl (fun _ => 0))), (q4, .inr (5, [.ref q5, .ref q6, .ref q7, .int 0, .int (-1)])), (q5, .inl (cI, 3, .inl (fun _ => 0))), (q6, .inl (cI, 3, .inl (fun _ => 0))), (q7, .inl (cI, 3, .inl (fun _ => 0)))]) _
  refine k_putF (fs' := [.ref q1, .ref q4, .null, .null, .null, .null, .int 0, .int 0, .int 0, .int 0]) dX6_init_23 rfl kf_X6_19 rfl rfl (Nat.le_of_ble_eq_true rfl) rfl ?_
  refine k_aload dX6_init_26 rfl ?_
  refine k_ctor (n0 := 8) dX6_init_27 dX6_init_30 dX6_init_31 rfl (Nat.le_of_ble_eq_true rfl) (Nat.le_of_ble_eq_true rfl) kn_X1 ki_X1 kj_X1 rfl rfl (Nat.le_of_ble_eq_true rfl) (by decide) (Nat.le_of_ble_eq_true rfl) [0, 1, 2, 3, 4, 5, 6, 7] rfl (fun _ => rfl) rfl (by decide) (fun q => n_X1) (fun q8 w hw => ?_)
  obtain ⟨q9, q10, rfl⟩ := hw
  show k_J D cI cZ mX6_init 1 23 476 h0 _ _ 34 [.ref q8, .ref h0] ([(h0, .inr (6, [.ref q1, .ref q4, .null, .null, .null, .null, .int 0, .int 0, .int 0, .int 0])), (q1, .inr (4, [.ref q2, .ref q3, .int (nI 3000), .int (nI 5000), .int 0, .int 0, .int 0, .int 0])), (q2, .inl (cI, 12, .inl (fun _ => 0))), (q3, .inl (cI, 12, .inl (fun _ => 0))), (q4, .inr (5, [.ref q5, .ref q6, .ref q7, .int 0, .int (-1)])), (q5, .inl (cI, 3, .inl (fun _ => 0))), (q6, .inl (cI, 3, .inl (fun _ => 0))), (q7, .inl (cI, 3, .inl (fun _ => 0))), (q8, .inr (1, [.ref q9, .ref q10])), (q9, .inl (cI, 96, .inl (fun _ => 0))), (q10, .inl (cI, 12, .inl (fun _ => 0)))]) _
  refine k_putF (fs' := [.ref q1, .ref q4, .ref q8, .null, .null, .null, .int 0, .int 0, .int 0, .int 0]) dX6_init_34 rfl kf_X6_26 rfl rfl (Nat.le_of_ble_eq_true rfl) rfl ?_
  refine k_aload dX6_init_37 rfl ?_
  refine k_ctor (n0 := 11) dX6_init_38 dX6_init_41 dX6_init_42 rfl (Nat.le_of_ble_eq_true rfl) (Nat.le_of_ble_eq_true rfl) kn_X3 ki_X3 kj_X3 rfl rfl (Nat.le_of_ble_eq_true rfl) (by decide) (Nat.le_of_ble_eq_true rfl) [0, 1, 2, 3, 4, 5, 6, 7, 8, 9, 10] rfl (fun _ => rfl) rfl (by decide) (fun q => n_X3) (fun q11 w hw => ?_)
  obtain ⟨q12, q13, f, hf, rfl⟩ := hw
  show k_J D cI cZ mX6_init 1 23 476 h0 _ _ 45 [.ref q11, .ref h0] ([(h0, .inr (6, [.ref q1, .ref q4, .ref q8, .null, .null, .null, .int 0, .int 0, .int 0, .int 0])), (q1, .inr (4, [.ref q2, .ref q3, .int (nI 3000), .int (nI 5000), .int 0, .int 0, .int 0, .int 0])), (q2, .inl (cI, 12, .inl (fun _ => 0))), (q3, .inl (cI, 12, .inl (fun _ => 0))), (q4, .inr (5, [.ref q5, .ref q6, .ref q7, .int 0, .int (-1)])), (q5, .inl (cI, 3, .inl (fun _ => 0))), (q6, .inl (cI, 3, .inl (fun _ => 0))), (q7, .inl (cI, 3, .inl (fun _ => 0))), (q8, .inr (1, [.ref q9, .ref q10])), (q9, .inl (cI, 96, .inl (fun _ => 0))), (q10, .inl (cI, 12, .inl (fun _ => 0))), (q11, .inr (3, [.ref q12, .ref q13])), (q12, .inl (cI, 48, .inl (f))), (q13, .inl (cI, 48, .inl (fun _ => 0)))]) _
  refine k_putF (fs' := [.ref q1, .ref q4, .ref q8, .ref q11, .null, .null, .int 0, .int 0, .int 0, .int 0]) dX6_init_45 rfl kf_X6_33 rfl rfl (Nat.le_of_ble_eq_true rfl) rfl ?_
  refine k_aload dX6_init_48 rfl ?_
  refine k_ctor (n0 := 14) dX6_init_49 dX6_init_52 dX6_init_53 rfl (Nat.le_of_ble_eq_true rfl) (Nat.le_of_ble_eq_true rfl) kn_X2 ki_X2 kj_X2 rfl rfl (Nat.le_of_ble_eq_true rfl) (by decide) (Nat.le_of_ble_eq_true rfl) [0, 1, 2, 3, 4, 5, 6, 7, 8, 9, 10, 11, 12, 13] rfl (fun _ => rfl) rfl (by decide) (fun q => n_X2) (fun q14 w hw => ?_)
  obtain ⟨q15, q16, q17, q18, q19, q20, q21, rfl⟩ := hw
  show k_J D cI cZ mX6_init 1 23 476 h0 _ _ 56 [.ref q14, .ref h0] ([(h0, .inr (6, [.ref q1, .ref q4, .ref q8, .ref q11, .null, .null, .int 0, .int 0, .int 0, .int 0])), (q1, .inr (4, [.ref q2, .ref q3, .int (nI 3000), .int (nI 5000), .int 0, .int 0, .int 0, .int 0])), (q2, .inl (cI, 12, .inl (fun _ => 0))), (q3, .inl (cI, 12, .inl (fun _ => 0))), (q4, .inr (5, [.ref q5, .ref q6, .ref q7, .int 0, .int (-1)])), (q5, .inl (cI, 3, .inl (fun _ => 0))), (q6, .inl (cI, 3, .inl (fun _ => 0))), (q7, .inl (cI, 3, .inl (fun _ => 0))), (q8, .inr (1, [.ref q9, .ref q10])), (q9, .inl (cI, 96, .inl (fun _ => 0))), (q10, .inl (cI, 12, .inl (fun _ => 0))), (q11, .inr (3, [.ref q12, .ref q13])), (q12, .inl (cI, 48, .inl (f))), (q13, .inl (cI, 48, .inl (fun _ => 0))), (q14, .inr (2, [.ref q15, .ref q16, .ref q17, .ref q18, .int 0, .ref q19, .ref q20, .ref q21])), (q15, .inl (cI, 8, .inl (fun _ => 0))), (q16, .inl (cI, 8, .inl (fun _ => 0))), (q17, .inl (cI, 8, .inl (fun _ => 0))), (q18, .inl (cI, 64, .inl (fun _ => 0))), (q19, .inl (cI, 8, .inl (fun _ => 0))), (q20, .inl (cI, 8, .inl (fun _ => 0))), (q21, .inl (cI, 8, .inl (fun _ => 0)))]) _
  refine k_putF (fs' := [.ref q1, .ref q4, .ref q8, .ref q11, .ref q14, .null, .int 0, .int 0, .int 0, .int 0]) dX6_init_56 rfl kf_X6_40 rfl rfl (Nat.le_of_ble_eq_true rfl) rfl ?_
  refine k_aload dX6_init_59 rfl ?_
  refine k_ctor (n0 := 22) dX6_init_60 dX6_init_63 dX6_init_64 rfl (Nat.le_of_ble_eq_true rfl) (Nat.le_of_ble_eq_true rfl) kn_X0 ki_X0 kj_X0 rfl rfl (Nat.le_of_ble_eq_true rfl) (by decide) (Nat.le_of_ble_eq_true rfl) [0, 1, 2, 3, 4, 5, 6, 7, 8, 9, 10, 11, 12, 13, 14, 15, 16, 17, 18, 19, 20, 21] rfl (fun _ => rfl) rfl (by decide) (fun q => n_X0) (fun q22 w hw => ?_)
  obtain ⟨q23, rfl⟩ := hw
  show k_J D cI cZ mX6_init 1 23 476 h0 _ _ 67 [.ref q22, .ref h0] ([(h0, .inr (6, [.ref q1, .ref q4, .ref q8, .ref q11, .ref q14, .null, .int 0, .int 0, .int 0, .int 0])), (q1, .inr (4, [.ref q2, .ref q3, .int (nI 3000), .int (nI 5000), .int 0, .int 0, .int 0, .int 0])), (q2, .inl (cI, 12, .inl (fun _ => 0))), (q3, .inl (cI, 12, .inl (fun _ => 0))), (q4, .inr (5, [.ref q5, .ref q6, .ref q7, .int 0, .int (-1)])), (q5, .inl (cI, 3, .inl (fun _ => 0))), (q6, .inl (cI, 3, .inl (fun _ => 0))), (q7, .inl (cI, 3, .inl (fun _ => 0))), (q8, .inr (1, [.ref q9, .ref q10])), (q9, .inl (cI, 96, .inl (fun _ => 0))), (q10, .inl (cI, 12, .inl (fun _ => 0))), (q11, .inr (3, [.ref q12, .ref q13])), (q12, .inl (cI, 48, .inl (f))), (q13, .inl (cI, 48, .inl (fun _ => 0))), (q14, .inr (2, [.ref q15, .ref q16, .ref q17, .ref q18, .int 0, .ref q19, .ref q20, .ref q21])), (q15, .inl (cI, 8, .inl (fun _ => 0))), (q16, .inl (cI, 8, .inl (fun _ => 0))), (q17, .inl (cI, 8, .inl (fun _ => 0))), (q18, .inl (cI, 64, .inl (fun _ => 0))), (q19, .inl (cI, 8, .inl (fun _ => 0))), (q20, .inl (cI, 8, .inl (fun _ => 0))), (q21, .inl (cI, 8, .inl (fun _ => 0))), (q22, .inr (0, [.ref q23, .int 0])), (q23, .inl (cI, 100, .inl (fun _ => 0)))]) _
  refine k_putF (fs' := [.ref q1, .ref q4, .ref q8, .ref q11, .ref q14, .ref q22, .int 0, .int 0, .int 0, .int 0]) dX6_init_67 rfl kf_X6_47 rfl rfl (Nat.le_of_ble_eq_true rfl) rfl ?_
  refine k_aload dX6_init_70 rfl ?_
  refine k_iconst 0 dX6_init_71 rfl (by decide +kernel) ?_
  refine k_puti (fs' := [.ref q1, .ref q4, .ref q8, .ref q11, .ref q14, .ref q22, .int 0, .int 0, .int 0, .int 0]) dX6_init_72 rfl pe_X6_51 (Nat.le_of_ble_eq_true rfl) rfl ?_
  refine k_aload dX6_init_75 rfl ?_
  refine k_bipush (nI 100) dX6_init_76 rfl (by decide +kernel) ?_
  refine k_puti (fs' := [.ref q1, .ref q4, .ref q8, .ref q11, .ref q14, .ref q22, .int 0, .int (nI 100), .int 0, .int 0]) dX6_init_78 rfl pe_X6_55 (Nat.le_of_ble_eq_true rfl) rfl ?_
  refine k_aload dX6_init_81 rfl ?_
  refine k_iconst 0 dX6_init_82 rfl (by decide +kernel) ?_
  refine k_puti (fs' := [.ref q1, .ref q4, .ref q8, .ref q11, .ref q14, .ref q22, .int 0, .int (nI 100), .int 0, .int 0]) dX6_init_83 rfl pe_X6_58 (Nat.le_of_ble_eq_true rfl) rfl ?_
  refine k_aload dX6_init_86 rfl ?_
  refine k_iconst 0 dX6_init_87 rfl (by decide +kernel) ?_
  refine k_puti (fs' := [.ref q1, .ref q4, .ref q8, .ref q11, .ref q14, .ref q22, .int 0, .int (nI 100), .int 0, .int 0]) dX6_init_88 rfl pe_X6_61 (Nat.le_of_ble_eq_true rfl) rfl ?_
  exact k_ret dX6_init_91 rfl rfl ⟨fun k => [h0, q1, q2, q3, q4, q5, q6, q7, q8, q9, q10, q11, q12, q13, q14, q15, q16, q17, q18, q19, q20, q21, q22, q23].getD k 0, f, rfl, hf, rfl⟩
abbrev k_I7 : List Nat := [24, 25, 26, 27, 28, 29, 30, 31, 32, 33, 34, 35, 36, 37, 38, 39, 40]
def k_pt (μ : jm_Mem) (i : Nat) (x y : Int32) : jm_Mem := jm_set (jm_set μ 25 i x) 26 i y
def k_p4 (μ : jm_Mem) (i : Nat) (x y : Int32) : jm_Mem := k_pt (k_pt (k_pt (k_pt μ i x y) (i + 3) (0 - y) x) (i + 3 + 3) (0 - x) (0 - y)) (i + 3 + 3 + 3) (0 - (0 - y)) (0 - x)
theorem l_X7_put {d : Nat} {Q : Option Value → jm_Mem → Prop} {μ : jm_Mem} {v1 v2 v3 : Int32} {l7 : Option Value} {x y : Int32} {i : Nat} (hi : i < 12) (k : jm_J k_I7 [] d mX7_put 9 [some (.ref 24), some (.int v1), some (.int v2), some (.int v3), some (.int (0 - y)), some (.int x), some (.int (nI (i + 3))), some (.int x)] [] (k_pt μ i x y) Q) : jm_J k_I7 [] d mX7_put 9 [some (.ref 24), some (.int v1), some (.int v2), some (.int v3), some (.int x), some (.int y), some (.int (nI i)), l7] [] μ Q := by
  refine jm_iload dX7_put_9 rfl rfl ?_
  refine jm_bipush (nI 12) dX7_put_11 rfl (by decide) ?_
  refine jm_icmp_ge (tgt := 53) dX7_put_13 (by decide) rfl (fun c5 => absurd ((nI_leI (by omega) (by omega)).mp c5) (by omega)) (fun c5 => ?_)
  refine jm_aload_n dX7_put_16 rfl rfl rfl ?_
  refine jm_getr dX7_put_17 rfl fe_X7_7 rfl rfl rfl ?_
  refine jm_iload dX7_put_20 rfl rfl ?_
  refine jm_iload dX7_put_22 rfl rfl ?_
  refine jm_iast dX7_put_24 rfl rfl rfl (by decide) rfl hi ?_
  refine jm_aload_n dX7_put_25 rfl rfl rfl ?_
  refine jm_getr dX7_put_26 rfl fe_X7_13 rfl rfl rfl ?_
  refine jm_iload dX7_put_29 rfl rfl ?_
  refine jm_iload dX7_put_31 rfl rfl ?_
  refine jm_iast dX7_put_33 rfl rfl rfl (by decide) rfl hi ?_
  refine jm_iload dX7_put_34 rfl rfl ?_
  refine jm_istore dX7_put_36 rfl rfl rfl ?_
  dsimp only [List.set]
  refine jm_iload dX7_put_38 rfl rfl ?_
  refine jm_ineg dX7_put_40 rfl ?_
  refine jm_istore dX7_put_41 rfl rfl rfl ?_
  dsimp only [List.set]
  refine jm_iload dX7_put_43 rfl rfl ?_
  refine jm_istore dX7_put_45 rfl rfl rfl ?_
  dsimp only [List.set]
  refine jm_iinc (nI 3) dX7_put_47 rfl rfl (by decide) rfl rfl ?_
  dsimp only [List.set]
  refine jm_goto (n := 9) dX7_put_50 (by decide) ?_
  rw [nI_add]
  exact k
theorem s_X7_put {d : Nat} {Q : Option Value → jm_Mem → Prop} {μ : jm_Mem} {x y : Int32} {i : Nat} (hi : i < 3) (h : Q none (k_p4 μ i x y)) : jm_J k_I7 [] d mX7_put 0 (jm_en 8 [.ref 24, .int (nI i), .int x, .int y]) [] μ Q := by
  show jm_J k_I7 [] d mX7_put 0 [some (.ref 24), some (.int (nI i)), some (.int x), some (.int y), none, none, none, none] [] μ Q
  refine jm_iload_n dX7_put_0 rfl rfl rfl ?_
  refine jm_istore dX7_put_1 rfl rfl rfl ?_
  dsimp only [List.set]
  refine jm_iload_n dX7_put_3 rfl rfl rfl ?_
  refine jm_istore dX7_put_4 rfl rfl rfl ?_
  dsimp only [List.set]
  refine jm_iload_n dX7_put_6 rfl rfl rfl ?_
  refine jm_istore dX7_put_7 rfl rfl rfl ?_
  dsimp only [List.set]
  refine l_X7_put (by omega) ?_
  refine l_X7_put (by omega) ?_
  refine l_X7_put (by omega) ?_
  refine l_X7_put (by omega) ?_
  refine jm_iload dX7_put_9 rfl rfl ?_
  refine jm_bipush (nI 12) dX7_put_11 rfl (by decide) ?_
  refine jm_icmp_ge (tgt := 53) dX7_put_13 (by decide) rfl (fun c5 => ?_) (fun c5 => absurd ((nI_leI (by omega) (by omega)).mpr (by omega)) c5)
  exact jm_vret dX7_put_53 rfl h
def k_P7 (μ : jm_Mem) : Prop := (∀ j, j < 12 → μ 25 j = rg_ac j ∧ μ 26 j = rg_al j) ∧ (μ 24 7 = nI 3000 ∧ μ 24 8 = nI 5000 ∧ μ 24 21 = nI 100 ∧ μ 24 9 = 0 ∧ μ 24 12 = 0 ∧ μ 24 22 = 0 ∧ μ 24 23 = 0 ∧ μ 24 24 = 0) ∧ ∀ i, 27 ≤ i → i ≤ 40 → ∀ k, μ i k = 0
def kq_X7 (cI cZ : ClassId) (q : Nat) (w : va_W) : Prop := ∃ (ad : Nat → Nat) (μ : jm_Mem), ad 24 = q ∧ k_P7 μ ∧ w = jm_ws k_I7 ad cI cZ μ
def k_m7 : jm_Mem := k_p4 (k_p4 (k_p4 (jm_set (jm_set (jm_set (fun _ _ => 0) 24 7 (nI 3000)) 24 8 (nI 5000)) 24 21 (nI 100)) 0 (nI 10) (nI 0)) 1 (nI 9) (nI 5)) 2 (nI 5) (nI 9)
theorem k_m7_ok : k_P7 k_m7 := by
  refine ⟨by decide +kernel, by decide +kernel, fun i h1 h2 k => ?_⟩
  unfold k_m7 k_p4 k_pt
  repeat rw [jm_set_ne i (by omega)]
set_option maxHeartbeats 4000000 in
theorem n_X7 {D : va_G} {cI cZ : ClassId} {h0 : Nat} : k_J D cI cZ mX7_init 1 16 459 h0 0 0 0 [] [(h0, .inr (7, [.null, .null, .null, .null, .null, .null, .null, .int 0, .int 0, .int 0, .null, .null, .int 0, .null, .null, .null, .null, .null, .int 0, .null, .int 0, .int 0, .int 0, .int 0, .int 0, .null]))] (kq_X7 cI cZ h0) := by
  refine k_aload dX7_init_0 rfl ?_
  refine k_obj dX7_init_1 rfl kb_X7 ?_
  refine k_aload dX7_init_4 rfl ?_
  refine k_bipush (nI 12) dX7_init_5 rfl (by decide +kernel) ?_
  refine k_newI (f := fun q25 => [(h0, .inr (7, [.null, .null, .null, .null, .null, .null, .null, .int 0, .int 0, .int 0, .null, .null, .int 0, .null, .null, .null, .null, .null, .int 0, .null, .int 0, .int 0, .int 0, .int 0, .int 0, .null])), (q25, .inl (cI, 12, .inl (fun _ => 0)))]) dX7_init_7 rfl rfl (by decide) (fun _ => rfl) (Nat.le_of_ble_eq_true rfl) (Nat.le_of_ble_eq_true rfl) (fun q25 => ?_)
  refine k_putF (fs' := [.ref q25, .null, .null, .null, .null, .null, .null, .int 0, .int 0, .int 0, .null, .null, .int 0, .null, .null, .null, .null, .null, .int 0, .null, .int 0, .int 0, .int 0, .int 0, .int 0, .null]) dX7_init_9 rfl kf_X7_7 rfl rfl (Nat.le_of_ble_eq_true rfl) rfl ?_
  refine k_aload dX7_init_12 rfl ?_
  refine k_bipush (nI 12) dX7_init_13 rfl (by decide +kernel) ?_
  refine k_newI (f := fun q26 => [(h0, .inr (7, [.ref q25, .null, .null, .null, .null, .null, .null, .int 0, .int 0, .int 0, .null, .null, .int 0, .null, .null, .null, .null, .null, .int 0, .null, .int 0, .int 0, .int 0, .int 0, .int 0, .null])), (q25, .inl (cI, 12, .inl (fun _ => 0))), (q26, .inl (cI, 12, .inl (fun _ => 0)))]) dX7_init_15 rfl rfl (by decide) (fun _ => rfl) (Nat.le_of_ble_eq_true rfl) (Nat.le_of_ble_eq_true rfl) (fun q26 => ?_)
  refine k_putF (fs' := [.ref q25, .ref q26, .null, .null, .null, .null, .null, .int 0, .int 0, .int 0, .null, .null, .int 0, .null, .null, .null, .null, .null, .int 0, .null, .int 0, .int 0, .int 0, .int 0, .int 0, .null]) dX7_init_17 rfl kf_X7_13 rfl rfl (Nat.le_of_ble_eq_true rfl) rfl ?_
  refine k_aload dX7_init_20 rfl ?_
  refine k_bipush (nI 12) dX7_init_21 rfl (by decide +kernel) ?_
  refine k_newI (f := fun q27 => [(h0, .inr (7, [.ref q25, .ref q26, .null, .null, .null, .null, .null, .int 0, .int 0, .int 0, .null, .null, .int 0, .null, .null, .null, .null, .null, .int 0, .null, .int 0, .int 0, .int 0, .int 0, .int 0, .null])), (q25, .inl (cI, 12, .inl (fun _ => 0))), (q26, .inl (cI, 12, .inl (fun _ => 0))), (q27, .inl (cI, 12, .inl (fun _ => 0)))]) dX7_init_23 rfl rfl (by decide) (fun _ => rfl) (Nat.le_of_ble_eq_true rfl) (Nat.le_of_ble_eq_true rfl) (fun q27 => ?_)
  refine k_putF (fs' := [.ref q25, .ref q26, .ref q27, .null, .null, .null, .null, .int 0, .int 0, .int 0, .null, .null, .int 0, .null, .null, .null, .null, .null, .int 0, .null, .int 0, .int 0, .int 0, .int 0, .int 0, .null]) dX7_init_25 rfl kf_X7_16 rfl rfl (Nat.le_of_ble_eq_true rfl) rfl ?_
  refine k_aload dX7_init_28 rfl ?_
  refine k_bipush (nI 12) dX7_init_29 rfl (by decide +kernel) ?_
  refine k_newI (f := fun q28 => [(h0, .inr (7, [.ref q25, .ref q26, .ref q27, .null, .null, .null, .null, .int 0, .int 0, .int 0, .null, .null, .int 0, .null, .null, .null, .null, .null, .int 0, .null, .int 0, .int 0, .int 0, .int 0, .int 0, .null])), (q25, .inl (cI, 12, .inl (fun _ => 0))), (q26, .inl (cI, 12, .inl (fun _ => 0))), (q27, .inl (cI, 12, .inl (fun _ => 0))), (q28, .inl (cI, 12, .inl (fun _ => 0)))]) dX7_init_31 rfl rfl (by decide) (fun _ => rfl) (Nat.le_of_ble_eq_true rfl) (Nat.le_of_ble_eq_true rfl) (fun q28 => ?_)
  refine k_putF (fs' := [.ref q25, .ref q26, .ref q27, .ref q28, .null, .null, .null, .int 0, .int 0, .int 0, .null, .null, .int 0, .null, .null, .null, .null, .null, .int 0, .null, .int 0, .int 0, .int 0, .int 0, .int 0, .null]) dX7_init_33 rfl kf_X7_19 rfl rfl (Nat.le_of_ble_eq_true rfl) rfl ?_
  refine k_aload dX7_init_36 rfl ?_
  refine k_bipush (nI 12) dX7_init_37 rfl (by decide +kernel) ?_
  refine k_newI (f := fun q29 => [(h0, .inr (7, [.ref q25, .ref q26, .ref q27, .ref q28, .null, .null, .null, .int 0, .int 0, .int 0, .null, .null, .int 0, .null, .null, .null, .null, .null, .int 0, .null, .int 0, .int 0, .int 0, .int 0, .int 0, .null])), (q25, .inl (cI, 12, .inl (fun _ => 0))), (q26, .inl (cI, 12, .inl (fun _ => 0))), (q27, .inl (cI, 12, .inl (fun _ => 0))), (q28, .inl (cI, 12, .inl (fun _ => 0))), (q29, .inl (cI, 12, .inl (fun _ => 0)))]) dX7_init_39 rfl rfl (by decide) (fun _ => rfl) (Nat.le_of_ble_eq_true rfl) (Nat.le_of_ble_eq_true rfl) (fun q29 => ?_)
  refine k_putF (fs' := [.ref q25, .ref q26, .ref q27, .ref q28, .ref q29, .null, .null, .int 0, .int 0, .int 0, .null, .null, .int 0, .null, .null, .null, .null, .null, .int 0, .null, .int 0, .int 0, .int 0, .int 0, .int 0, .null]) dX7_init_41 rfl kf_X7_22 rfl rfl (Nat.le_of_ble_eq_true rfl) rfl ?_
  refine k_aload dX7_init_44 rfl ?_
  refine k_bipush (nI 96) dX7_init_45 rfl (by decide +kernel) ?_
  refine k_newI (f := fun q30 => [(h0, .inr (7, [.ref q25, .ref q26, .ref q27, .ref q28, .ref q29, .null, .null, .int 0, .int 0, .int 0, .null, .null, .int 0, .null, .null, .null, .null, .null, .int 0, .null, .int 0, .int 0, .int 0, .int 0, .int 0, .null])), (q25, .inl (cI, 12, .inl (fun _ => 0))), (q26, .inl (cI, 12, .inl (fun _ => 0))), (q27, .inl (cI, 12, .inl (fun _ => 0))), (q28, .inl (cI, 12, .inl (fun _ => 0))), (q29, .inl (cI, 12, .inl (fun _ => 0))), (q30, .inl (cI, 96, .inl (fun _ => 0)))]) dX7_init_47 rfl rfl (by decide) (fun _ => rfl) (Nat.le_of_ble_eq_true rfl) (Nat.le_of_ble_eq_true rfl) (fun q30 => ?_)
  refine k_putF (fs' := [.ref q25, .ref q26, .ref q27, .ref q28, .ref q29, .ref q30, .null, .int 0, .int 0, .int 0, .null, .null, .int 0, .null, .null, .null, .null, .null, .int 0, .null, .int 0, .int 0, .int 0, .int 0, .int 0, .null]) dX7_init_49 rfl kf_X7_25 rfl rfl (Nat.le_of_ble_eq_true rfl) rfl ?_
  refine k_aload dX7_init_52 rfl ?_
  refine k_bipush (nI 48) dX7_init_53 rfl (by decide +kernel) ?_
  refine k_newI (f := fun q31 => [(h0, .inr (7, [.ref q25, .ref q26, .ref q27, .ref q28, .ref q29, .ref q30, .null, .int 0, .int 0, .int 0, .null, .null, .int 0, .null, .null, .null, .null, .null, .int 0, .null, .int 0, .int 0, .int 0, .int 0, .int 0, .null])), (q25, .inl (cI, 12, .inl (fun _ => 0))), (q26, .inl (cI, 12, .inl (fun _ => 0))), (q27, .inl (cI, 12, .inl (fun _ => 0))), (q28, .inl (cI, 12, .inl (fun _ => 0))), (q29, .inl (cI, 12, .inl (fun _ => 0))), (q30, .inl (cI, 96, .inl (fun _ => 0))), (q31, .inl (cI, 48, .inl (fun _ => 0)))]) dX7_init_55 rfl rfl (by decide) (fun _ => rfl) (Nat.le_of_ble_eq_true rfl) (Nat.le_of_ble_eq_true rfl) (fun q31 => ?_)
  refine k_putF (fs' := [.ref q25, .ref q26, .ref q27, .ref q28, .ref q29, .ref q30, .ref q31, .int 0, .int 0, .int 0, .null, .null, .int 0, .null, .null, .null, .null, .null, .int 0, .null, .int 0, .int 0, .int 0, .int 0, .int 0, .null]) dX7_init_57 rfl kf_X7_28 rfl rfl (Nat.le_of_ble_eq_true rfl) rfl ?_
  refine k_aload dX7_init_60 rfl ?_
  refine k_iconst (nI 3) dX7_init_61 rfl (by decide +kernel) ?_
  refine k_newI (f := fun q32 => [(h0, .inr (7, [.ref q25, .ref q26, .ref q27, .ref q28, .ref q29, .ref q30, .ref q31, .int 0, .int 0, .int 0, .null, .null, .int 0, .null, .null, .null, .null, .null, .int 0, .null, .int 0, .int 0, .int 0, .int 0, .int 0, .null])), (q25, .inl (cI, 12, .inl (fun _ => 0))), (q26, .inl (cI, 12, .inl (fun _ => 0))), (q27, .inl (cI, 12, .inl (fun _ => 0))), (q28, .inl (cI, 12, .inl (fun _ => 0))), (q29, .inl (cI, 12, .inl (fun _ => 0))), (q30, .inl (cI, 96, .inl (fun _ => 0))), (q31, .inl (cI, 48, .inl (fun _ => 0))), (q32, .inl (cI, 3, .inl (fun _ => 0)))]) dX7_init_62 rfl rfl (by decide) (fun _ => rfl) (Nat.le_of_ble_eq_true rfl) (Nat.le_of_ble_eq_true rfl) (fun q32 => ?_)
  refine k_putF (fs' := [.ref q25, .ref q26, .ref q27, .ref q28, .ref q29, .ref q30, .ref q31, .int 0, .int 0, .int 0, .ref q32, .null, .int 0, .null, .null, .null, .null, .null, .int 0, .null, .int 0, .int 0, .int 0, .int 0, .int 0, .null]) dX7_init_64 rfl kf_X7_31 rfl rfl (Nat.le_of_ble_eq_true rfl) rfl ?_
  refine k_aload dX7_init_67 rfl ?_
  refine k_bipush (nI 48) dX7_init_68 rfl (by decide +kernel) ?_
  refine k_newZ (f := fun q33 => [(h0, .inr (7, [.ref q25, .ref q26, .ref q27, .ref q28, .ref q29, .ref q30, .ref q31, .int 0, .int 0, .int 0, .ref q32, .null, .int 0, .null, .null, .null, .null, .null, .int 0, .null, .int 0, .int 0, .int 0, .int 0, .int 0, .null])), (q25, .inl (cI, 12, .inl (fun _ => 0))), (q26, .inl (cI, 12, .inl (fun _ => 0))), (q27, .inl (cI, 12, .inl (fun _ => 0))), (q28, .inl (cI, 12, .inl (fun _ => 0))), (q29, .inl (cI, 12, .inl (fun _ => 0))), (q30, .inl (cI, 96, .inl (fun _ => 0))), (q31, .inl (cI, 48, .inl (fun _ => 0))), (q32, .inl (cI, 3, .inl (fun _ => 0))), (q33, .inl (cZ, 48, .inl (fun _ => 0)))]) dX7_init_70 rfl rfl (by decide) (fun _ => rfl) (Nat.le_of_ble_eq_true rfl) (Nat.le_of_ble_eq_true rfl) (fun q33 => ?_)
  refine k_putF (fs' := [.ref q25, .ref q26, .ref q27, .ref q28, .ref q29, .ref q30, .ref q31, .int 0, .int 0, .int 0, .ref q32, .ref q33, .int 0, .null, .null, .null, .null, .null, .int 0, .null, .int 0, .int 0, .int 0, .int 0, .int 0, .null]) dX7_init_72 rfl kf_X7_34 rfl rfl (Nat.le_of_ble_eq_true rfl) rfl ?_
  refine k_aload dX7_init_75 rfl ?_
  refine k_bipush (nI 8) dX7_init_76 rfl (by decide +kernel) ?_
  refine k_newI (f := fun q34 => [(h0, .inr (7, [.ref q25, .ref q26, .ref q27, .ref q28, .ref q29, .ref q30, .ref q31, .int 0, .int 0, .int 0, .ref q32, .ref q33, .int 0, .null, .null, .null, .null, .null, .int 0, .null, .int 0, .int 0, .int 0, .int 0, .int 0, .null])), (q25, .inl (cI, 12, .inl (fun _ => 0))), (q26, .inl (cI, 12, .inl (fun _ => 0))), (q27, .inl (cI, 12, .inl (fun _ => 0))), (q28, .inl (cI, 12, .inl (fun _ => 0))), (q29, .inl (cI, 12, .inl (fun _ => 0))), (q30, .inl (cI, 96, .inl (fun _ => 0))), (q31, .inl (cI, 48, .inl (fun _ => 0))), (q32, .inl (cI, 3, .inl (fun _ => 0))), (q33, .inl (cZ, 48, .inl (fun _ => 0))), (q34, .inl (cI, 8, .inl (fun _ => 0)))]) dX7_init_78 rfl rfl (by decide) (fun _ => rfl) (Nat.le_of_ble_eq_true rfl) (Nat.le_of_ble_eq_true rfl) (fun q34 => ?_)
  refine k_putF (fs' := [.ref q25, .ref q26, .ref q27, .ref q28, .ref q29, .ref q30, .ref q31, .int 0, .int 0, .int 0, .ref q32, .ref q33, .int 0, .ref q34, .null, .null, .null, .null, .int 0, .null, .int 0, .int 0, .int 0, .int 0, .int 0, .null]) dX7_init_80 rfl kf_X7_38 rfl rfl (Nat.le_of_ble_eq_true rfl) rfl ?_
  refine k_aload dX7_init_83 rfl ?_
  refine k_bipush (nI 8) dX7_init_84 rfl (by decide +kernel) ?_
  refine k_newI (f := fun q35 => [(h0, .inr (7, [.ref q25, .ref q26, .ref q27, .ref q28, .ref q29, .ref q30, .ref q31, .int 0, .int 0, .int 0, .ref q32, .ref q33, .int 0, .ref q34, .null, .null, .null, .null, .int 0, .null, .int 0, .int 0, .int 0, .int 0, .int 0, .null])), (q25, .inl (cI, 12, .inl (fun _ => 0))), (q26, .inl (cI, 12, .inl (fun _ => 0))), (q27, .inl (cI, 12, .inl (fun _ => 0))), (q28, .inl (cI, 12, .inl (fun _ => 0))), (q29, .inl (cI, 12, .inl (fun _ => 0))), (q30, .inl (cI, 96, .inl (fun _ => 0))), (q31, .inl (cI, 48, .inl (fun _ => 0))), (q32, .inl (cI, 3, .inl (fun _ => 0))), (q33, .inl (cZ, 48, .inl (fun _ => 0))), (q34, .inl (cI, 8, .inl (fun _ => 0))), (q35, .inl (cI, 8, .inl (fun _ => 0)))]) dX7_init_86 rfl rfl (by decide) (fun _ => rfl) (Nat.le_of_ble_eq_true rfl) (Nat.le_of_ble_eq_true rfl) (fun q35 => ?_)
  refine k_putF (fs' := [.ref q25, .ref q26, .ref q27, .ref q28, .ref q29, .ref q30, .ref q31, .int 0, .int 0, .int 0, .ref q32, .ref q33, .int 0, .ref q34, .ref q35, .null, .null, .null, .int 0, .null, .int 0, .int 0, .int 0, .int 0, .int 0, .null]) dX7_init_88 rfl kf_X7_41 rfl rfl (Nat.le_of_ble_eq_true rfl) rfl ?_
  refine k_aload dX7_init_91 rfl ?_
  refine k_bipush (nI 8) dX7_init_92 rfl (by decide +kernel) ?_
  refine k_newI (f := fun q36 => [(h0, .inr (7, [.ref q25, .ref q26, .ref q27, .ref q28, .ref q29, .ref q30, .ref q31, .int 0, .int 0, .int 0, .ref q32, .ref q33, .int 0, .ref q34, .ref q35, .null, .null, .null, .int 0, .null, .int 0, .int 0, .int 0, .int 0, .int 0, .null])), (q25, .inl (cI, 12, .inl (fun _ => 0))), (q26, .inl (cI, 12, .inl (fun _ => 0))), (q27, .inl (cI, 12, .inl (fun _ => 0))), (q28, .inl (cI, 12, .inl (fun _ => 0))), (q29, .inl (cI, 12, .inl (fun _ => 0))), (q30, .inl (cI, 96, .inl (fun _ => 0))), (q31, .inl (cI, 48, .inl (fun _ => 0))), (q32, .inl (cI, 3, .inl (fun _ => 0))), (q33, .inl (cZ, 48, .inl (fun _ => 0))), (q34, .inl (cI, 8, .inl (fun _ => 0))), (q35, .inl (cI, 8, .inl (fun _ => 0))), (q36, .inl (cI, 8, .inl (fun _ => 0)))]) dX7_init_94 rfl rfl (by decide) (fun _ => rfl) (Nat.le_of_ble_eq_true rfl) (Nat.le_of_ble_eq_true rfl) (fun q36 => ?_)
  refine k_putF (fs' := [.ref q25, .ref q26, .ref q27, .ref q28, .ref q29, .ref q30, .ref q31, .int 0, .int 0, .int 0, .ref q32, .ref q33, .int 0, .ref q34, .ref q35, .ref q36, .null, .null, .int 0, .null, .int 0, .int 0, .int 0, .int 0, .int 0, .null]) dX7_init_96 rfl kf_X7_44 rfl rfl (Nat.le_of_ble_eq_true rfl) rfl ?_
  refine k_aload dX7_init_99 rfl ?_
  refine k_bipush (nI 64) dX7_init_100 rfl (by decide +kernel) ?_
  refine k_newI (f := fun q37 => [(h0, .inr (7, [.ref q25, .ref q26, .ref q27, .ref q28, .ref q29, .ref q30, .ref q31, .int 0, .int 0, .int 0, .ref q32, .ref q33, .int 0, .ref q34, .ref q35, .ref q36, .null, .null, .int 0, .null, .int 0, .int 0, .int 0, .int 0, .int 0, .null])), (q25, .inl (cI, 12, .inl (fun _ => 0))), (q26, .inl (cI, 12, .inl (fun _ => 0))), (q27, .inl (cI, 12, .inl (fun _ => 0))), (q28, .inl (cI, 12, .inl (fun _ => 0))), (q29, .inl (cI, 12, .inl (fun _ => 0))), (q30, .inl (cI, 96, .inl (fun _ => 0))), (q31, .inl (cI, 48, .inl (fun _ => 0))), (q32, .inl (cI, 3, .inl (fun _ => 0))), (q33, .inl (cZ, 48, .inl (fun _ => 0))), (q34, .inl (cI, 8, .inl (fun _ => 0))), (q35, .inl (cI, 8, .inl (fun _ => 0))), (q36, .inl (cI, 8, .inl (fun _ => 0))), (q37, .inl (cI, 64, .inl (fun _ => 0)))]) dX7_init_102 rfl rfl (by decide) (fun _ => rfl) (Nat.le_of_ble_eq_true rfl) (Nat.le_of_ble_eq_true rfl) (fun q37 => ?_)
  refine k_putF (fs' := [.ref q25, .ref q26, .ref q27, .ref q28, .ref q29, .ref q30, .ref q31, .int 0, .int 0, .int 0, .ref q32, .ref q33, .int 0, .ref q34, .ref q35, .ref q36, .ref q37, .null, .int 0, .null, .int 0, .int 0, .int 0, .int 0, .int 0, .null]) dX7_init_104 rfl kf_X7_47 rfl rfl (Nat.le_of_ble_eq_true rfl) rfl ?_
  refine k_aload dX7_init_107 rfl ?_
  refine k_bipush (nI 8) dX7_init_108 rfl (by decide +kernel) ?_
  refine k_newI (f := fun q38 => [(h0, .inr (7, [.ref q25, .ref q26, .ref q27, .ref q28, .ref q29, .ref q30, .ref q31, .int 0, .int 0, .int 0, .ref q32, .ref q33, .int 0, .ref q34, .ref q35, .ref q36, .ref q37, .null, .int 0, .null, .int 0, .int 0, .int 0, .int 0, .int 0, .null])), (q25, .inl (cI, 12, .inl (fun _ => 0))), (q26, .inl (cI, 12, .inl (fun _ => 0))), (q27, .inl (cI, 12, .inl (fun _ => 0))), (q28, .inl (cI, 12, .inl (fun _ => 0))), (q29, .inl (cI, 12, .inl (fun _ => 0))), (q30, .inl (cI, 96, .inl (fun _ => 0))), (q31, .inl (cI, 48, .inl (fun _ => 0))), (q32, .inl (cI, 3, .inl (fun _ => 0))), (q33, .inl (cZ, 48, .inl (fun _ => 0))), (q34, .inl (cI, 8, .inl (fun _ => 0))), (q35, .inl (cI, 8, .inl (fun _ => 0))), (q36, .inl (cI, 8, .inl (fun _ => 0))), (q37, .inl (cI, 64, .inl (fun _ => 0))), (q38, .inl (cI, 8, .inl (fun _ => 0)))]) dX7_init_110 rfl rfl (by decide) (fun _ => rfl) (Nat.le_of_ble_eq_true rfl) (Nat.le_of_ble_eq_true rfl) (fun q38 => ?_)
  refine k_putF (fs' := [.ref q25, .ref q26, .ref q27, .ref q28, .ref q29, .ref q30, .ref q31, .int 0, .int 0, .int 0, .ref q32, .ref q33, .int 0, .ref q34, .ref q35, .ref q36, .ref q37, .ref q38, .int 0, .null, .int 0, .int 0, .int 0, .int 0, .int 0, .null]) dX7_init_112 rfl kf_X7_50 rfl rfl (Nat.le_of_ble_eq_true rfl) rfl ?_
  refine k_aload dX7_init_115 rfl ?_
  refine k_bipush (nI 8) dX7_init_116 rfl (by decide +kernel) ?_
  refine k_newI (f := fun q39 => [(h0, .inr (7, [.ref q25, .ref q26, .ref q27, .ref q28, .ref q29, .ref q30, .ref q31, .int 0, .int 0, .int 0, .ref q32, .ref q33, .int 0, .ref q34, .ref q35, .ref q36, .ref q37, .ref q38, .int 0, .null, .int 0, .int 0, .int 0, .int 0, .int 0, .null])), (q25, .inl (cI, 12, .inl (fun _ => 0))), (q26, .inl (cI, 12, .inl (fun _ => 0))), (q27, .inl (cI, 12, .inl (fun _ => 0))), (q28, .inl (cI, 12, .inl (fun _ => 0))), (q29, .inl (cI, 12, .inl (fun _ => 0))), (q30, .inl (cI, 96, .inl (fun _ => 0))), (q31, .inl (cI, 48, .inl (fun _ => 0))), (q32, .inl (cI, 3, .inl (fun _ => 0))), (q33, .inl (cZ, 48, .inl (fun _ => 0))), (q34, .inl (cI, 8, .inl (fun _ => 0))), (q35, .inl (cI, 8, .inl (fun _ => 0))), (q36, .inl (cI, 8, .inl (fun _ => 0))), (q37, .inl (cI, 64, .inl (fun _ => 0))), (q38, .inl (cI, 8, .inl (fun _ => 0))), (q39, .inl (cI, 8, .inl (fun _ => 0)))]) dX7_init_118 rfl rfl (by decide) (fun _ => rfl) (Nat.le_of_ble_eq_true rfl) (Nat.le_of_ble_eq_true rfl) (fun q39 => ?_)
  refine k_putF (fs' := [.ref q25, .ref q26, .ref q27, .ref q28, .ref q29, .ref q30, .ref q31, .int 0, .int 0, .int 0, .ref q32, .ref q33, .int 0, .ref q34, .ref q35, .ref q36, .ref q37, .ref q38, .int 0, .ref q39, .int 0, .int 0, .int 0, .int 0, .int 0, .null]) dX7_init_120 rfl kf_X7_53 rfl rfl (Nat.le_of_ble_eq_true rfl) rfl ?_
  refine k_aload dX7_init_123 rfl ?_
  refine k_bipush (nI 100) dX7_init_124 rfl (by decide +kernel) ?_
  refine k_newI (f := fun q40 => [(h0, .inr (7, [.ref q25, .ref q26, .ref q27, .ref q28, .ref q29, .ref q30, .ref q31, .int 0, .int 0, .int 0, .ref q32, .ref q33, .int 0, .ref q34, .ref q35, .ref q36, .ref q37, .ref q38, .int 0, .ref q39, .int 0, .int 0, .int 0, .int 0, .int 0, .null])), (q25, .inl (cI, 12, .inl (fun _ => 0))), (q26, .inl (cI, 12, .inl (fun _ => 0))), (q27, .inl (cI, 12, .inl (fun _ => 0))), (q28, .inl (cI, 12, .inl (fun _ => 0))), (q29, .inl (cI, 12, .inl (fun _ => 0))), (q30, .inl (cI, 96, .inl (fun _ => 0))), (q31, .inl (cI, 48, .inl (fun _ => 0))), (q32, .inl (cI, 3, .inl (fun _ => 0))), (q33, .inl (cZ, 48, .inl (fun _ => 0))), (q34, .inl (cI, 8, .inl (fun _ => 0))), (q35, .inl (cI, 8, .inl (fun _ => 0))), (q36, .inl (cI, 8, .inl (fun _ => 0))), (q37, .inl (cI, 64, .inl (fun _ => 0))), (q38, .inl (cI, 8, .inl (fun _ => 0))), (q39, .inl (cI, 8, .inl (fun _ => 0))), (q40, .inl (cI, 100, .inl (fun _ => 0)))]) dX7_init_126 rfl rfl (by decide) (fun _ => rfl) (Nat.le_of_ble_eq_true rfl) (Nat.le_of_ble_eq_true rfl) (fun q40 => ?_)
  refine k_putF (fs' := [.ref q25, .ref q26, .ref q27, .ref q28, .ref q29, .ref q30, .ref q31, .int 0, .int 0, .int 0, .ref q32, .ref q33, .int 0, .ref q34, .ref q35, .ref q36, .ref q37, .ref q38, .int 0, .ref q39, .int 0, .int 0, .int 0, .int 0, .int 0, .ref q40]) dX7_init_128 rfl kf_X7_56 rfl rfl (Nat.le_of_ble_eq_true rfl) rfl ?_
  refine k_jm (I := k_I7) (ad := fun k => [h0, q25, q26, q27, q28, q29, q30, q31, q32, q33, q34, q35, q36, q37, q38, q39, q40].getD (k - 24) 0) (μ := fun _ _ => 0) (a0 := 24) (r := 0) (Qj := fun v μ => v = none ∧ k_P7 μ) rfl rfl rfl rfl rfl ?_ (fun v μ hv => ⟨hv.1, _, μ, rfl, hv.2, rfl⟩)
  show jm_J k_I7 [] 1 mX7_init 131 [some (.ref 24)] [] _ _
  refine jm_aload_n dX7_init_131 rfl rfl rfl ?_
  refine jm_sipush (nI 3000) dX7_init_132 rfl (by decide +kernel) ?_
  refine jm_puti dX7_init_135 rfl pe_X7_59 rfl rfl rfl ?_
  refine jm_aload_n dX7_init_138 rfl rfl rfl ?_
  refine jm_sipush (nI 5000) dX7_init_139 rfl (by decide +kernel) ?_
  refine jm_puti dX7_init_142 rfl pe_X7_63 rfl rfl rfl ?_
  refine jm_aload_n dX7_init_145 rfl rfl rfl ?_
  refine jm_bipush (nI 100) dX7_init_146 rfl (by decide +kernel) ?_
  refine jm_puti dX7_init_148 rfl pe_X7_66 rfl rfl rfl ?_
  refine jm_aload_n dX7_init_151 rfl rfl rfl ?_
  refine jm_iconst (nI 0) dX7_init_152 rfl (by decide +kernel) ?_
  refine jm_bipush (nI 10) dX7_init_153 rfl (by decide +kernel) ?_
  refine jm_iconst (nI 0) dX7_init_155 rfl (by decide +kernel) ?_
  refine jm_cV3 (d' := 0) dX7_init_156 rfl cb_X7_69 ci_X7_put cv_X7_put rfl rfl rfl (Nat.le_of_ble_eq_true rfl) (Nat.le_of_ble_eq_true rfl) (by decide) (s_X7_put (by decide) ?_)
  refine jm_aload_n dX7_init_159 rfl rfl rfl ?_
  refine jm_iconst (nI 1) dX7_init_160 rfl (by decide +kernel) ?_
  refine jm_bipush (nI 9) dX7_init_161 rfl (by decide +kernel) ?_
  refine jm_iconst (nI 5) dX7_init_163 rfl (by decide +kernel) ?_
  refine jm_cV3 (d' := 0) dX7_init_164 rfl cb_X7_69 ci_X7_put cv_X7_put rfl rfl rfl (Nat.le_of_ble_eq_true rfl) (Nat.le_of_ble_eq_true rfl) (by decide) (s_X7_put (by decide) ?_)
  refine jm_aload_n dX7_init_167 rfl rfl rfl ?_
  refine jm_iconst (nI 2) dX7_init_168 rfl (by decide +kernel) ?_
  refine jm_iconst (nI 5) dX7_init_169 rfl (by decide +kernel) ?_
  refine jm_bipush (nI 9) dX7_init_170 rfl (by decide +kernel) ?_
  refine jm_cV3 (d' := 0) dX7_init_172 rfl cb_X7_69 ci_X7_put cv_X7_put rfl rfl rfl (Nat.le_of_ble_eq_true rfl) (Nat.le_of_ble_eq_true rfl) (by decide) (s_X7_put (by decide) ?_)
  exact jm_vret dX7_init_175 rfl ⟨rfl, k_m7_ok⟩
