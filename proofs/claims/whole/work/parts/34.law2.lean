set_option maxHeartbeats 2000000 in
theorem l_law {Ln : Nat} {xs : Nat → Int32} {Q : Option Value → jm_Mem → Prop} (hL : Ln ≤ 2560) (hq : ∀ μ, Q (some (.int 1)) μ) : ∀ (t i : Nat) (μ : jm_Mem), Ln + 5 ≤ i + 5 * t → i ≤ Ln + 4 → Rel μ → jm_J rg_I (rg_X Ln xs) 12 mL_law 18 [some (.ref 100), some (.ref 0), some (.ref 24), some (.int (nI i))] [] μ Q := by
  intro t
  induction t with
  | zero => intro i μ h1 h2; omega
  | succ t ih =>
    intro i μ h1 h2 R
    have hLn : Ln < 2 ^ 31 := by omega
    refine jm_iload_n dL_law_18 rfl rfl rfl ?_
    refine jm_aload_n dL_law_19 rfl rfl rfl ?_
    refine jm_xlen dL_law_20 rfl (rg_x0 Ln xs) ?_
    refine jm_iconst (nI 5) dL_law_21 rfl (by decide) ?_
    refine jm_isub dL_law_22 rfl ?_
    refine jm_icmp_gt (tgt := 965) dL_law_23 (by decide) rfl (fun c23 => ?_) (fun c23 => ?_)
    · refine jm_iconst (nI 1) dL_law_965 rfl (by decide) ?_
      refine jm_iret dL_law_966 rfl rfl ?_
      exact hq _
    · have hi : i + 5 ≤ Ln := Nat.le_of_not_lt (fun h => c23 ((lw_gt (by omega) (by omega)).mpr h))
      have ih2 : ∀ μ2, Rel μ2 → jm_J rg_I (rg_X Ln xs) 12 mL_law 959 [some (.ref 100), some (.ref 0), some (.ref 24), some (.int (nI i))] [] μ2 Q := by
        intro μ2 R2
        refine jm_iinc (nI 5) dL_law_959 rfl rfl (by decide) rfl rfl ?_
        dsimp only [List.set]
        refine jm_goto (n := 18) dL_law_962 (by decide) ?_
        rw [nI_add]
        exact ih (i + 5) μ2 (by omega) (by omega) R2
      refine jm_aload_n dL_law_26 rfl rfl rfl ?_
      refine jm_iload_n dL_law_27 rfl rfl rfl ?_
      refine jm_xld dL_law_28 rfl (rg_x0 Ln xs) hLn rfl (by omega) ?_
      refine jm_bipush (nI 31) dL_law_29 rfl (by decide) ?_
      refine jm_iand dL_law_31 rfl ?_
      obtain ⟨j, hj, ej⟩ := lw_31 (xs i)
      rw [ej]
      have hj2 : j = 0 ∨ j = 1 ∨ j = 2 ∨ j = 3 ∨ j = 4 ∨ j = 5 ∨ j = 6 ∨ j = 7 ∨ j = 8 ∨ j = 9 ∨ j = 10 ∨ j = 11 ∨ j = 12 ∨ j = 13 ∨ j = 14 ∨ j = 15 ∨ j = 16 ∨ j = 17 ∨ j = 18 ∨ j = 19 ∨ j = 20 ∨ j = 21 ∨ j = 22 ∨ j = 23 ∨ j = 24 ∨ j = 25 ∨ j = 26 ∨ j = 27 ∨ j = 28 ∨ j = 29 ∨ j = 30 ∨ j = 31 := by omega
      rcases hj2 with rfl | rfl | rfl | rfl | rfl | rfl | rfl | rfl | rfl | rfl | rfl | rfl | rfl | rfl | rfl | rfl | rfl | rfl | rfl | rfl | rfl | rfl | rfl | rfl | rfl | rfl | rfl | rfl | rfl | rfl | rfl | rfl
      · exact jm_tabIn (n := 168) (off := 136) dL_law_32 (by decide) (by decide) rfl (by decide) (w_horse hLn hi R ih2)
      · exact jm_tabIn (n := 211) (off := 179) dL_law_32 (by decide) (by decide) rfl (by decide) (w_leave hLn hi R ih2)
      · exact jm_tabIn (n := 234) (off := 202) dL_law_32 (by decide) (by decide) rfl (by decide) (w_sit hLn hi R ih2)
      · exact jm_tabIn (n := 267) (off := 235) dL_law_32 (by decide) (by decide) rfl (by decide) (w_rise hLn hi R ih2)
      · exact jm_tabIn (n := 290) (off := 258) dL_law_32 (by decide) (by decide) rfl (by decide) (w_shake hLn hi R ih2)
      · exact jm_tabIn (n := 303) (off := 271) dL_law_32 (by decide) (by decide) rfl (by decide) (w_rising hLn hi R ih2)
      · exact jm_tabIn (n := 316) (off := 284) dL_law_32 (by decide) (by decide) rfl (by decide) (w_may hLn hi R ih2)
      · exact jm_tabIn (n := 329) (off := 297) dL_law_32 (by decide) (by decide) rfl (by decide) (w_law hLn hi R ih2)
      · exact jm_tabIn (n := 362) (off := 330) dL_law_32 (by decide) (by decide) rfl (by decide) (w_best hLn hi R ih2)
      · exact jm_tabIn (n := 385) (off := 353) dL_law_32 (by decide) (by decide) rfl (by decide) (w_group hLn hi R ih2)
      · exact jm_tabIn (n := 438) (off := 406) dL_law_32 (by decide) (by decide) rfl (by decide) (w_rider hLn hi R ih2)
      · exact jm_tabIn (n := 461) (off := 429) dL_law_32 (by decide) (by decide) rfl (by decide) (w_coat hLn hi R ih2)
      · exact jm_tabIn (n := 494) (off := 462) dL_law_32 (by decide) (by decide) rfl (by decide) (w_sample hLn hi R ih2)
      · exact jm_tabIn (n := 527) (off := 495) dL_law_32 (by decide) (by decide) rfl (by decide) (w_strip hLn hi R ih2)
      · exact jm_tabIn (n := 560) (off := 528) dL_law_32 (by decide) (by decide) rfl (by decide) (w_swap hLn hi R ih2)
      · exact jm_tabIn (n := 613) (off := 581) dL_law_32 (by decide) (by decide) rfl (by decide) (w_mark hLn hi R ih2)
      · exact jm_tabIn (n := 646) (off := 614) dL_law_32 (by decide) (by decide) rfl (by decide) (w_swaps hLn hi R ih2)
      · exact jm_tabIn (n := 659) (off := 627) dL_law_32 (by decide) (by decide) rfl (by decide) (w_find hLn hi R ih2)
      · exact jm_tabIn (n := 692) (off := 660) dL_law_32 (by decide) (by decide) rfl (by decide) (w_fair hLn hi R ih2)
      · exact jm_tabIn (n := 735) (off := 703) dL_law_32 (by decide) (by decide) rfl (by decide) (w_road hLn hi R ih2)
      · exact jm_tabIn (n := 778) (off := 746) dL_law_32 (by decide) (by decide) rfl (by decide) (w_earns hLn hi R ih2)
      · exact jm_tabIn (n := 791) (off := 759) dL_law_32 (by decide) (by decide) rfl (by decide) (w_round hLn hi R ih2)
      · exact jm_tabIn (n := 814) (off := 782) dL_law_32 (by decide) (by decide) rfl (by decide) (w_turn hLn hi R ih2)
      · exact jm_tabIn (n := 827) (off := 795) dL_law_32 (by decide) (by decide) rfl (by decide) (w_look hLn hi R ih2)
      · exact jm_tabIn (n := 840) (off := 808) dL_law_32 (by decide) (by decide) rfl (by decide) (w_hours hLn hi R ih2)
      · exact jm_tabIn (n := 863) (off := 831) dL_law_32 (by decide) (by decide) rfl (by decide) (w_come hLn hi R ih2)
      · exact jm_tabIn (n := 886) (off := 854) dL_law_32 (by decide) (by decide) rfl (by decide) (w_next hLn hi R ih2)
      · exact jm_tabIn (n := 899) (off := 867) dL_law_32 (by decide) (by decide) rfl (by decide) (w_book hLn hi R ih2)
      · exact jm_tabIn (n := 922) (off := 890) dL_law_32 (by decide) (by decide) rfl (by decide) (w_count hLn hi R ih2)
      · exact jm_tabIn (n := 945) (off := 913) dL_law_32 (by decide) (by decide) rfl (by decide) (w_digest hLn hi R ih2)
      · exact jm_tabOut (n := 959) dL_law_32 (by decide) (by decide) (ih2 μ R)
      · exact jm_tabOut (n := 959) dL_law_32 (by decide) (by decide) (ih2 μ R)
