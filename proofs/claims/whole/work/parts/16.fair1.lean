def rf_v (o : Option Nat) : Int32 := match o with
  | none => -1
  | some i => nI i
def rf_o (v : Int32) : Option Nat := if v < 0 then none else some v.toNatClampNeg
abbrev rf_ok (nf : Nat) (o : Option Nat) : Prop := ∀ i, o = some i → i < nf
def rf_g (μ : jm_Mem) (o : Option Nat) : Int32 := match o with
  | none => 0
  | some i => μ 19 i
def rf_l (μ : jm_Mem) (o : Option Nat) : Int32 := match o with
  | none => 0
  | some i => μ 20 i
def rf_mf (μ : jm_Mem) (o : Option Nat) (i : Nat) : Bool := match o with
  | none => true
  | some h => decide (μ 16 h + μ 18 (8 * h + i) < μ 15 i)
def rf_bt (μ : jm_Mem) (i : Nat) (o : Option Nat) : Bool := decide (rf_g μ o < μ 19 i ∨ (μ 19 i = rf_g μ o ∧ μ 20 i < rf_l μ o))
def rf_bb (μ : jm_Mem) (o : Option Nat) : Nat → Option Nat
  | 0 => none
  | n + 1 => if rf_mf μ o n = true ∧ rf_bt μ n (rf_bb μ o n) = true then some n else rf_bb μ o n
theorem rf_bb_yes {μ : jm_Mem} {o : Option Nat} {n : Nat} (h : rf_mf μ o n = true) (h2 : rf_bt μ n (rf_bb μ o n) = true) : rf_bb μ o (n + 1) = some n := if_pos ⟨h, h2⟩
theorem rf_bb_no1 {μ : jm_Mem} {o : Option Nat} {n : Nat} (h : rf_mf μ o n = false) : rf_bb μ o (n + 1) = rf_bb μ o n := if_neg (fun q => by rw [h] at q; exact absurd q.1 (by decide))
theorem rf_bb_no2 {μ : jm_Mem} {o : Option Nat} {n : Nat} (h : rf_bt μ n (rf_bb μ o n) = false) : rf_bb μ o (n + 1) = rf_bb μ o n := if_neg (fun q => by rw [h] at q; exact absurd q.2 (by decide))
theorem rf_bb_ok {μ : jm_Mem} {o : Option Nat} : ∀ (n : Nat), rf_ok n (rf_bb μ o n)
  | 0, i, h => by cases h
  | n + 1, i, h => by
    simp only [rf_bb] at h
    split at h
    · cases h; omega
    · have := rf_bb_ok n i h; omega
def rf_pf (μ : jm_Mem) (nf i : Nat) : jm_Mem := jm_set (jm_set (jm_set μ 21 i (rf_v (rf_bb μ (some i) nf))) 19 i (μ 17 i + rf_g μ (rf_bb μ (some i) nf))) 20 i (nI 1 + rf_l μ (rf_bb μ (some i) nf))
def rf_pass (μ : jm_Mem) (nf : Nat) : Nat → jm_Mem
  | 0 => μ
  | f + 1 => rf_pf (rf_pass μ nf f) nf f
def rf_plan (μ : jm_Mem) (nf : Nat) : Nat → jm_Mem
  | 0 => μ
  | p + 1 => rf_pass (rf_plan μ nf p) nf nf
theorem rf_pf_na {μ : jm_Mem} {nf i b : Nat} (h1 : b ≠ 19) (h2 : b ≠ 20) (h3 : b ≠ 21) : rf_pf μ nf i b = μ b := by
  simp only [rf_pf, jm_set_ne b h1, jm_set_ne b h2, jm_set_ne b h3]
theorem rf_pass_na {μ : jm_Mem} {nf b : Nat} (h1 : b ≠ 19) (h2 : b ≠ 20) (h3 : b ≠ 21) : ∀ f, rf_pass μ nf f b = μ b
  | 0 => rfl
  | f + 1 => by simp only [rf_pass]; rw [rf_pf_na h1 h2 h3, rf_pass_na h1 h2 h3 f]
theorem rf_plan_na {μ : jm_Mem} {nf b : Nat} (h1 : b ≠ 19) (h2 : b ≠ 20) (h3 : b ≠ 21) : ∀ p, rf_plan μ nf p b = μ b
  | 0 => rfl
  | p + 1 => by simp only [rf_plan]; rw [rf_pass_na h1 h2 h3, rf_plan_na h1 h2 h3 p]
theorem rf_g_c {u μ : jm_Mem} (h : u 19 = μ 19) (o : Option Nat) : rf_g u o = rf_g μ o := by cases o <;> simp only [rf_g, h]
theorem rf_l_c {u μ : jm_Mem} (h : u 20 = μ 20) (o : Option Nat) : rf_l u o = rf_l μ o := by cases o <;> simp only [rf_l, h]
def rf_it (fol : Nat → Option Nat) : Nat → Option Nat → Option Nat
  | 0, o => o
  | _ + 1, none => none
  | k + 1, some i => rf_it fol k (fol i)
theorem s_X2_isFair_o {Ln : Nat} {xs : Nat → Int32} {μ : jm_Mem} {Q : Option Value → jm_Mem → Prop} {nf : Nat} (hn : μ 14 4 = nI nf) (h8 : nf ≤ 8) {o : Option Nat} (ho : rf_ok nf o) (h1 : ∀ i, o = some i → Q (some (.int 1)) μ) (h0 : o = none → Q (some (.int 0)) μ) : gJ Ln xs 0 mX2_isFair 0 (jm_en 2 [.ref 14, .int (rf_v o)]) [] μ Q := by
  cases o with
  | none => exact s_X2_isFair hn h8 (fun i hi e => absurd e.symm (rg_nm1 (by omega))) (fun _ => h0 rfl)
  | some j =>
    have hj := ho j rfl
    refine s_X2_isFair hn h8 (fun i hi e => h1 j rfl) (fun c => ?_)
    rcases c with c | c
    · exact absurd c (nI_pos (by omega))
    · exact absurd ((nI_leI (a := nf) (b := j) (by omega) (by omega)).mp c) (by omega)
set_option maxHeartbeats 400000 in
theorem s_X2_gainFrom {Ln : Nat} {xs : Nat → Int32} {μ : jm_Mem} {Q : Option Value → jm_Mem → Prop} {nf : Nat} (hn : μ 14 4 = nI nf) (h8 : nf ≤ 8) {o : Option Nat} (ho : rf_ok nf o) (h : Q (some (.int (rf_g μ o))) μ) : gJ Ln xs 1 mX2_gainFrom 0 (jm_en 2 [.ref 14, .int (rf_v o)]) [] μ Q := by
  show jm_J rg_I (rg_X Ln xs) 1 mX2_gainFrom 0 [some (.ref 14), some (.int (rf_v o))] [] μ Q
  refine jm_aload_n dX2_gainFrom_0 rfl rfl rfl ?_
  refine jm_iload_n dX2_gainFrom_1 rfl rfl rfl ?_
  refine jm_cV1 dX2_gainFrom_2 rfl cb_X2_58 ci_X2_isFair cv_X2_isFair rfl rfl rfl (Nat.le_of_ble_eq_true rfl) (Nat.le_of_ble_eq_true rfl) (by decide) (s_X2_isFair_o hn h8 ho (fun i e => ?_) (fun e => ?_))
  · subst e
    have hi := ho i rfl
    refine jm_if_eq (tgt := 17) dX2_gainFrom_5 (by decide) rfl (fun c5 => absurd c5 (by decide)) (fun c5 => ?_)
    refine jm_aload_n dX2_gainFrom_8 rfl rfl rfl ?_
    refine jm_getr dX2_gainFrom_9 rfl fe_X2_28 rfl rfl rfl ?_
    refine jm_iload_n dX2_gainFrom_12 rfl rfl rfl ?_
    refine jm_iald dX2_gainFrom_13 rfl rfl rfl (by decide) rfl (by omega) ?_
    refine jm_goto (n := 18) dX2_gainFrom_14 (by decide) ?_
    refine jm_iret dX2_gainFrom_18 rfl rfl ?_
    exact h
  · subst e
    refine jm_if_eq (tgt := 17) dX2_gainFrom_5 (by decide) rfl (fun c5 => ?_) (fun c5 => absurd c5 (by decide))
    refine jm_iconst (nI 0) dX2_gainFrom_17 rfl (by decide) ?_
    refine jm_iret dX2_gainFrom_18 rfl rfl ?_
    exact h
set_option maxHeartbeats 400000 in
theorem s_X2_lengthFrom {Ln : Nat} {xs : Nat → Int32} {μ : jm_Mem} {Q : Option Value → jm_Mem → Prop} {nf : Nat} (hn : μ 14 4 = nI nf) (h8 : nf ≤ 8) {o : Option Nat} (ho : rf_ok nf o) (h : Q (some (.int (rf_l μ o))) μ) : gJ Ln xs 1 mX2_lengthFrom 0 (jm_en 2 [.ref 14, .int (rf_v o)]) [] μ Q := by
  show jm_J rg_I (rg_X Ln xs) 1 mX2_lengthFrom 0 [some (.ref 14), some (.int (rf_v o))] [] μ Q
  refine jm_aload_n dX2_lengthFrom_0 rfl rfl rfl ?_
  refine jm_iload_n dX2_lengthFrom_1 rfl rfl rfl ?_
  refine jm_cV1 dX2_lengthFrom_2 rfl cb_X2_58 ci_X2_isFair cv_X2_isFair rfl rfl rfl (Nat.le_of_ble_eq_true rfl) (Nat.le_of_ble_eq_true rfl) (by decide) (s_X2_isFair_o hn h8 ho (fun i e => ?_) (fun e => ?_))
  · subst e
    have hi := ho i rfl
    refine jm_if_eq (tgt := 17) dX2_lengthFrom_5 (by decide) rfl (fun c5 => absurd c5 (by decide)) (fun c5 => ?_)
    refine jm_aload_n dX2_lengthFrom_8 rfl rfl rfl ?_
    refine jm_getr dX2_lengthFrom_9 rfl fe_X2_31 rfl rfl rfl ?_
    refine jm_iload_n dX2_lengthFrom_12 rfl rfl rfl ?_
    refine jm_iald dX2_lengthFrom_13 rfl rfl rfl (by decide) rfl (by omega) ?_
    refine jm_goto (n := 18) dX2_lengthFrom_14 (by decide) ?_
    refine jm_iret dX2_lengthFrom_18 rfl rfl ?_
    exact h
  · subst e
    refine jm_if_eq (tgt := 17) dX2_lengthFrom_5 (by decide) rfl (fun c5 => ?_) (fun c5 => absurd c5 (by decide))
    refine jm_iconst (nI 0) dX2_lengthFrom_17 rfl (by decide) ?_
    refine jm_iret dX2_lengthFrom_18 rfl rfl ?_
    exact h
set_option maxHeartbeats 400000 in
theorem s_X2_isBetter {Ln : Nat} {xs : Nat → Int32} {μ : jm_Mem} {Q : Option Value → jm_Mem → Prop} {nf : Nat} (hn : μ 14 4 = nI nf) (h8 : nf ≤ 8) {o : Option Nat} (ho : rf_ok nf o) {f : Nat} (hf : f < nf) (h1 : rf_bt μ f o = true → Q (some (.int 1)) μ) (h0 : rf_bt μ f o = false → Q (some (.int 0)) μ) : gJ Ln xs 2 mX2_isBetter 0 (jm_en 4 [.ref 14, .int (nI f), .int (rf_v o)]) [] μ Q := by
  show jm_J rg_I (rg_X Ln xs) 2 mX2_isBetter 0 [some (.ref 14), some (.int (nI f)), some (.int (rf_v o)), none] [] μ Q
  refine jm_aload_n dX2_isBetter_0 rfl rfl rfl ?_
  refine jm_iload_n dX2_isBetter_1 rfl rfl rfl ?_
  refine jm_cV1 dX2_isBetter_2 rfl cb_X2_45 ci_X2_gainFrom cv_X2_gainFrom rfl rfl rfl (Nat.le_of_ble_eq_true rfl) (Nat.le_of_ble_eq_true rfl) (by decide) (s_X2_gainFrom hn h8 ho ?_)
  refine jm_istore_n dX2_isBetter_5 rfl rfl rfl rfl ?_
  dsimp only [List.set]
  refine jm_aload_n dX2_isBetter_6 rfl rfl rfl ?_
  refine jm_getr dX2_isBetter_7 rfl fe_X2_28 rfl rfl rfl ?_
  refine jm_iload_n dX2_isBetter_10 rfl rfl rfl ?_
  refine jm_iald dX2_isBetter_11 rfl rfl rfl (by decide) rfl (by first | assumption | omega) ?_
  refine jm_iload_n dX2_isBetter_12 rfl rfl rfl ?_
  refine jm_icmp_gt (tgt := 40) dX2_isBetter_13 (by decide) rfl (fun c13 => ?_) (fun c13 => ?_)
  · refine jm_iconst (nI 1) dX2_isBetter_40 rfl (by decide) ?_
    refine jm_goto (n := 45) dX2_isBetter_41 (by decide) ?_
    refine jm_iret dX2_isBetter_45 rfl rfl ?_
    first | exact h1 (decide_eq_true (Or.inl c13)) | exact h1 (decide_eq_true (Or.inr ⟨c23, Int32.not_le.mp c37⟩)) | exact h0 (decide_eq_false (fun q => q.elim c13 (fun q => c23 q.1))) | exact h0 (decide_eq_false (fun q => q.elim c13 (fun q => absurd c37 (Int32.not_le.mpr q.2)))) | fail "leaf"
  · refine jm_aload_n dX2_isBetter_16 rfl rfl rfl ?_
    refine jm_getr dX2_isBetter_17 rfl fe_X2_28 rfl rfl rfl ?_
    refine jm_iload_n dX2_isBetter_20 rfl rfl rfl ?_
    refine jm_iald dX2_isBetter_21 rfl rfl rfl (by decide) rfl (by first | assumption | omega) ?_
    refine jm_iload_n dX2_isBetter_22 rfl rfl rfl ?_
    refine jm_icmp_ne (tgt := 44) dX2_isBetter_23 (by decide) rfl (fun c23 => ?_) (fun c23 => ?_)
    · refine jm_iconst (nI 0) dX2_isBetter_44 rfl (by decide) ?_
      refine jm_iret dX2_isBetter_45 rfl rfl ?_
      first | exact h1 (decide_eq_true (Or.inl c13)) | exact h1 (decide_eq_true (Or.inr ⟨c23, Int32.not_le.mp c37⟩)) | exact h0 (decide_eq_false (fun q => q.elim c13 (fun q => c23 q.1))) | exact h0 (decide_eq_false (fun q => q.elim c13 (fun q => absurd c37 (Int32.not_le.mpr q.2)))) | fail "leaf"
    · refine jm_aload_n dX2_isBetter_26 rfl rfl rfl ?_
      refine jm_getr dX2_isBetter_27 rfl fe_X2_31 rfl rfl rfl ?_
      refine jm_iload_n dX2_isBetter_30 rfl rfl rfl ?_
      refine jm_iald dX2_isBetter_31 rfl rfl rfl (by decide) rfl (by first | assumption | omega) ?_
      refine jm_aload_n dX2_isBetter_32 rfl rfl rfl ?_
      refine jm_iload_n dX2_isBetter_33 rfl rfl rfl ?_
      refine jm_cV1 dX2_isBetter_34 rfl cb_X2_48 ci_X2_lengthFrom cv_X2_lengthFrom rfl rfl rfl (Nat.le_of_ble_eq_true rfl) (Nat.le_of_ble_eq_true rfl) (by decide) (s_X2_lengthFrom hn h8 ho ?_)
      refine jm_icmp_ge (tgt := 44) dX2_isBetter_37 (by decide) rfl (fun c37 => ?_) (fun c37 => ?_)
      · refine jm_iconst (nI 0) dX2_isBetter_44 rfl (by decide) ?_
        refine jm_iret dX2_isBetter_45 rfl rfl ?_
        first | exact h1 (decide_eq_true (Or.inl c13)) | exact h1 (decide_eq_true (Or.inr ⟨c23, Int32.not_le.mp c37⟩)) | exact h0 (decide_eq_false (fun q => q.elim c13 (fun q => c23 q.1))) | exact h0 (decide_eq_false (fun q => q.elim c13 (fun q => absurd c37 (Int32.not_le.mpr q.2)))) | fail "leaf"
      · refine jm_iconst (nI 1) dX2_isBetter_40 rfl (by decide) ?_
        refine jm_goto (n := 45) dX2_isBetter_41 (by decide) ?_
        refine jm_iret dX2_isBetter_45 rfl rfl ?_
        first | exact h1 (decide_eq_true (Or.inl c13)) | exact h1 (decide_eq_true (Or.inr ⟨c23, Int32.not_le.mp c37⟩)) | exact h0 (decide_eq_false (fun q => q.elim c13 (fun q => c23 q.1))) | exact h0 (decide_eq_false (fun q => q.elim c13 (fun q => absurd c37 (Int32.not_le.mpr q.2)))) | fail "leaf"
set_option maxHeartbeats 400000 in
theorem s_X2_mayFollow {Ln : Nat} {xs : Nat → Int32} {μ : jm_Mem} {Q : Option Value → jm_Mem → Prop} {nf : Nat} (hn : μ 14 4 = nI nf) (h8 : nf ≤ 8) {o : Option Nat} (ho : rf_ok nf o) {f : Nat} (hf : f < nf) (h1 : rf_mf μ o f = true → Q (some (.int 1)) μ) (h0 : rf_mf μ o f = false → Q (some (.int 0)) μ) : gJ Ln xs 1 mX2_mayFollow 0 (jm_en 3 [.ref 14, .int (rf_v o), .int (nI f)]) [] μ Q := by
  show jm_J rg_I (rg_X Ln xs) 1 mX2_mayFollow 0 [some (.ref 14), some (.int (rf_v o)), some (.int (nI f))] [] μ Q
  refine jm_aload_n dX2_mayFollow_0 rfl rfl rfl ?_
  refine jm_iload_n dX2_mayFollow_1 rfl rfl rfl ?_
  refine jm_cV1 dX2_mayFollow_2 rfl cb_X2_58 ci_X2_isFair cv_X2_isFair rfl rfl rfl (Nat.le_of_ble_eq_true rfl) (Nat.le_of_ble_eq_true rfl) (by decide) (s_X2_isFair_o hn h8 ho (fun i e => ?_) (fun e => ?_))
  · subst e
    have hi := ho i rfl
    refine jm_if_eq (tgt := 30) dX2_mayFollow_5 (by decide) rfl (fun c5 => absurd c5 (by decide)) (fun c5 => ?_)
    refine jm_aload_n dX2_mayFollow_8 rfl rfl rfl ?_
    refine jm_getr dX2_mayFollow_9 rfl fe_X2_9 rfl rfl rfl ?_
    refine jm_iload_n dX2_mayFollow_12 rfl rfl rfl ?_
    refine jm_iald dX2_mayFollow_13 rfl rfl rfl (by decide) rfl (by first | assumption | omega) ?_
    refine jm_aload_n dX2_mayFollow_14 rfl rfl rfl ?_
    refine jm_getr dX2_mayFollow_15 rfl fe_X2_15 rfl rfl rfl ?_
    refine jm_iload_n dX2_mayFollow_18 rfl rfl rfl ?_
    refine jm_iald dX2_mayFollow_19 rfl rfl rfl (by decide) rfl (by omega) ?_
    refine jm_aload_n dX2_mayFollow_20 rfl rfl rfl ?_
    refine jm_iload_n dX2_mayFollow_21 rfl rfl rfl ?_
    refine jm_iload_n dX2_mayFollow_22 rfl rfl rfl ?_
    refine jm_cV2 dX2_mayFollow_23 rfl cb_X2_62 ci_X2_daysBetween cv_X2_daysBetween rfl rfl rfl (Nat.le_of_ble_eq_true rfl) (Nat.le_of_ble_eq_true rfl) (by decide) (s_X2_daysBetween (a := i) (b := f) (by omega) (by omega) ?_)
    refine jm_iadd dX2_mayFollow_26 rfl ?_
    refine jm_icmp_le (tgt := 34) dX2_mayFollow_27 (by decide) rfl (fun c27 => ?_) (fun c27 => ?_)
    · refine jm_iconst (nI 0) dX2_mayFollow_34 rfl (by decide) ?_
      refine jm_iret dX2_mayFollow_35 rfl rfl ?_
      first | exact h1 rfl | exact h1 (decide_eq_true (Int32.not_le.mp c27)) | exact h0 (decide_eq_false (fun q => absurd c27 (Int32.not_le.mpr q))) | fail "leaf"
    · refine jm_iconst (nI 1) dX2_mayFollow_30 rfl (by decide) ?_
      refine jm_goto (n := 35) dX2_mayFollow_31 (by decide) ?_
      refine jm_iret dX2_mayFollow_35 rfl rfl ?_
      first | exact h1 rfl | exact h1 (decide_eq_true (Int32.not_le.mp c27)) | exact h0 (decide_eq_false (fun q => absurd c27 (Int32.not_le.mpr q))) | fail "leaf"
  · subst e
    refine jm_if_eq (tgt := 30) dX2_mayFollow_5 (by decide) rfl (fun c5 => ?_) (fun c5 => absurd c5 (by decide))
    refine jm_iconst (nI 1) dX2_mayFollow_30 rfl (by decide) ?_
    refine jm_goto (n := 35) dX2_mayFollow_31 (by decide) ?_
    refine jm_iret dX2_mayFollow_35 rfl rfl ?_
    first | exact h1 rfl | exact h1 (decide_eq_true (Int32.not_le.mp c27)) | exact h0 (decide_eq_false (fun q => absurd c27 (Int32.not_le.mpr q))) | fail "leaf"
set_option maxHeartbeats 1000000 in
theorem l_X2_bestBehind {Ln : Nat} {xs : Nat → Int32} {μ : jm_Mem} {Q : Option Value → jm_Mem → Prop} {nf : Nat} (hn : μ 14 4 = nI nf) (h8 : nf ≤ 8) {o : Option Nat} (ho : rf_ok nf o) (h : Q (some (.int (rf_v (rf_bb μ o nf)))) μ) : ∀ i, i ≤ nf → jm_J rg_I (rg_X Ln xs) 3 mX2_bestBehind 4 [some (.ref 14), some (.int (rf_v o)), some (.int (rf_v (rf_bb μ o i))), some (.int (nI i))] [] μ Q := by
  refine jm_for nf ?_ ?_
  · skip
    refine jm_iload_n dX2_bestBehind_4 rfl rfl rfl ?_
    refine jm_aload_n dX2_bestBehind_5 rfl rfl rfl ?_
    refine jm_geti dX2_bestBehind_6 rfl fe_X2_24 rfl rfl rfl ?_
    refine jm_icmp_ge (tgt := 38) dX2_bestBehind_9 (by decide) rfl (fun c9 => ?_) (fun c9 => absurd (by rw [hn]; exact (nI_leI (by omega) (by omega)).mpr (by omega)) c9)
    refine jm_iload_n dX2_bestBehind_38 rfl rfl rfl ?_
    refine jm_iret dX2_bestBehind_39 rfl rfl ?_
    exact h
  · intro i hi ih 
    refine jm_iload_n dX2_bestBehind_4 rfl rfl rfl ?_
    refine jm_aload_n dX2_bestBehind_5 rfl rfl rfl ?_
    refine jm_geti dX2_bestBehind_6 rfl fe_X2_24 rfl rfl rfl ?_
    refine jm_icmp_ge (tgt := 38) dX2_bestBehind_9 (by decide) rfl (fun c9 => absurd ((nI_leI (a := nf) (b := i) (by omega) (by omega)).mp (hn ▸ c9)) (by omega)) (fun c9 => ?_)
    refine jm_aload_n dX2_bestBehind_12 rfl rfl rfl ?_
    refine jm_iload_n dX2_bestBehind_13 rfl rfl rfl ?_
    refine jm_iload_n dX2_bestBehind_14 rfl rfl rfl ?_
    refine jm_cV2 dX2_bestBehind_15 rfl cb_X2_51 ci_X2_mayFollow cv_X2_mayFollow rfl rfl rfl (Nat.le_of_ble_eq_true rfl) (Nat.le_of_ble_eq_true rfl) (by decide) (s_X2_mayFollow hn h8 ho hi (fun cm => ?_) (fun cm => ?_))
    · refine jm_if_eq (tgt := 32) dX2_bestBehind_18 (by decide) rfl (fun c18 => absurd c18 (by decide)) (fun c18 => ?_)
      refine jm_aload_n dX2_bestBehind_21 rfl rfl rfl ?_
      refine jm_iload_n dX2_bestBehind_22 rfl rfl rfl ?_
      refine jm_iload_n dX2_bestBehind_23 rfl rfl rfl ?_
      refine jm_cV2 dX2_bestBehind_24 rfl cb_X2_55 ci_X2_isBetter cv_X2_isBetter rfl rfl rfl (Nat.le_of_ble_eq_true rfl) (Nat.le_of_ble_eq_true rfl) (by decide) (s_X2_isBetter hn h8 (o := rf_bb μ o i) (fun q hq => Nat.lt_trans (rf_bb_ok i q hq) hi) hi (fun cb => ?_) (fun cb => ?_))
      · refine jm_if_eq (tgt := 32) dX2_bestBehind_27 (by decide) rfl (fun c27 => absurd c27 (by decide)) (fun c27 => ?_)
        refine jm_iload_n dX2_bestBehind_30 rfl rfl rfl ?_
        refine jm_istore_n dX2_bestBehind_31 rfl rfl rfl rfl ?_
        dsimp only [List.set]
        refine jm_iinc (nI 1) dX2_bestBehind_32 rfl rfl (by decide) rfl rfl ?_
        dsimp only [List.set]
        refine jm_goto (n := 4) dX2_bestBehind_35 (by decide) ?_
        rw [nI_add]
        have e := ih
        rw [rf_bb_yes cm cb] at e
        exact e
      · refine jm_if_eq (tgt := 32) dX2_bestBehind_27 (by decide) rfl (fun c27 => ?_) (fun c27 => absurd c27 (by decide))
        refine jm_iinc (nI 1) dX2_bestBehind_32 rfl rfl (by decide) rfl rfl ?_
        dsimp only [List.set]
        refine jm_goto (n := 4) dX2_bestBehind_35 (by decide) ?_
        rw [nI_add]
        have e := ih
        rw [rf_bb_no2 cb] at e
        exact e
    · refine jm_if_eq (tgt := 32) dX2_bestBehind_18 (by decide) rfl (fun c18 => ?_) (fun c18 => absurd c18 (by decide))
      refine jm_iinc (nI 1) dX2_bestBehind_32 rfl rfl (by decide) rfl rfl ?_
      dsimp only [List.set]
      refine jm_goto (n := 4) dX2_bestBehind_35 (by decide) ?_
      rw [nI_add]
      have e := ih
      rw [rf_bb_no1 cm] at e
      exact e
set_option maxHeartbeats 400000 in
theorem s_X2_bestBehind {Ln : Nat} {xs : Nat → Int32} {μ : jm_Mem} {Q : Option Value → jm_Mem → Prop} {nf : Nat} (hn : μ 14 4 = nI nf) (h8 : nf ≤ 8) {o : Option Nat} (ho : rf_ok nf o) (h : Q (some (.int (rf_v (rf_bb μ o nf)))) μ) : gJ Ln xs 3 mX2_bestBehind 0 (jm_en 4 [.ref 14, .int (rf_v o)]) [] μ Q := by
  show jm_J rg_I (rg_X Ln xs) 3 mX2_bestBehind 0 [some (.ref 14), some (.int (rf_v o)), none, none] [] μ Q
  refine jm_iconst (-1) dX2_bestBehind_0 rfl (by decide) ?_
  refine jm_istore_n dX2_bestBehind_1 rfl rfl rfl rfl ?_
  dsimp only [List.set]
  refine jm_iconst (nI 0) dX2_bestBehind_2 rfl (by decide) ?_
  refine jm_istore_n dX2_bestBehind_3 rfl rfl rfl rfl ?_
  dsimp only [List.set]
  exact l_X2_bestBehind hn h8 ho h 0 (by omega)
set_option maxHeartbeats 400000 in
theorem s_X2_planFrom {Ln : Nat} {xs : Nat → Int32} {μ : jm_Mem} {Q : Option Value → jm_Mem → Prop} {nf : Nat} (hn : μ 14 4 = nI nf) (h8 : nf ≤ 8) {f : Nat} (hf : f < nf) (h : Q none (rf_pf μ nf f)) : gJ Ln xs 4 mX2_planFrom 0 (jm_en 3 [.ref 14, .int (nI f)]) [] μ Q := by
  show jm_J rg_I (rg_X Ln xs) 4 mX2_planFrom 0 [some (.ref 14), some (.int (nI f)), none] [] μ Q
  refine jm_aload_n dX2_planFrom_0 rfl rfl rfl ?_
  refine jm_iload_n dX2_planFrom_1 rfl rfl rfl ?_
  refine jm_cV1 dX2_planFrom_2 rfl cb_X2_41 ci_X2_bestBehind cv_X2_bestBehind rfl rfl rfl (Nat.le_of_ble_eq_true rfl) (Nat.le_of_ble_eq_true rfl) (by decide) (s_X2_bestBehind (o := some f) hn h8 (fun i e => by cases e; exact hf) ?_)
  refine jm_istore_n dX2_planFrom_5 rfl rfl rfl rfl ?_
  dsimp only [List.set]
  refine jm_aload_n dX2_planFrom_6 rfl rfl rfl ?_
  refine jm_getr dX2_planFrom_7 rfl fe_X2_34 rfl rfl rfl ?_
  refine jm_iload_n dX2_planFrom_10 rfl rfl rfl ?_
  refine jm_iload_n dX2_planFrom_11 rfl rfl rfl ?_
  refine jm_iast dX2_planFrom_12 rfl rfl rfl (by decide) rfl (by first | assumption | omega) ?_
  refine jm_aload_n dX2_planFrom_13 rfl rfl rfl ?_
  refine jm_getr dX2_planFrom_14 rfl fe_X2_28 rfl rfl rfl ?_
  refine jm_iload_n dX2_planFrom_17 rfl rfl rfl ?_
  refine jm_aload_n dX2_planFrom_18 rfl rfl rfl ?_
  refine jm_getr dX2_planFrom_19 rfl fe_X2_18 rfl rfl rfl ?_
  refine jm_iload_n dX2_planFrom_22 rfl rfl rfl ?_
  refine jm_iald dX2_planFrom_23 rfl rfl rfl (by decide) rfl (by first | assumption | omega) ?_
  refine jm_aload_n dX2_planFrom_24 rfl rfl rfl ?_
  refine jm_iload_n dX2_planFrom_25 rfl rfl rfl ?_
  refine jm_cV1 dX2_planFrom_26 rfl cb_X2_45 ci_X2_gainFrom cv_X2_gainFrom rfl rfl rfl (Nat.le_of_ble_eq_true rfl) (Nat.le_of_ble_eq_true rfl) (by decide) (s_X2_gainFrom (o := rf_bb μ (some f) nf) (nf := nf) (by rw [rd_na (by decide)]; exact hn) h8 (rf_bb_ok nf) ?_)
  refine jm_iadd dX2_planFrom_29 rfl ?_
  refine jm_iast dX2_planFrom_30 rfl rfl rfl (by decide) rfl (by first | assumption | omega) ?_
  refine jm_aload_n dX2_planFrom_31 rfl rfl rfl ?_
  refine jm_getr dX2_planFrom_32 rfl fe_X2_31 rfl rfl rfl ?_
  refine jm_iload_n dX2_planFrom_35 rfl rfl rfl ?_
  refine jm_iconst (nI 1) dX2_planFrom_36 rfl (by decide) ?_
  refine jm_aload_n dX2_planFrom_37 rfl rfl rfl ?_
  refine jm_iload_n dX2_planFrom_38 rfl rfl rfl ?_
  refine jm_cV1 dX2_planFrom_39 rfl cb_X2_48 ci_X2_lengthFrom cv_X2_lengthFrom rfl rfl rfl (Nat.le_of_ble_eq_true rfl) (Nat.le_of_ble_eq_true rfl) (by decide) (s_X2_lengthFrom (o := rf_bb μ (some f) nf) (nf := nf) (by rw [rd_na (by decide), rd_na (by decide)]; exact hn) h8 (rf_bb_ok nf) ?_)
  refine jm_iadd dX2_planFrom_42 rfl ?_
  refine jm_iast dX2_planFrom_43 rfl rfl rfl (by decide) rfl (by first | assumption | omega) ?_
  refine jm_vret dX2_planFrom_44 rfl ?_
  refine rd_q h ?_
  rw [rf_l_c (μ := μ) (by rw [jm_set_ne 20 (by decide), jm_set_ne 20 (by decide)]), rf_g_c (μ := μ) (jm_set_ne 19 (by decide)), rd_na (by decide)]; rfl
set_option maxHeartbeats 1000000 in
theorem l_X2_pass {Ln : Nat} {xs : Nat → Int32} {μ : jm_Mem} {Q : Option Value → jm_Mem → Prop} {nf : Nat} (hn : μ 14 4 = nI nf) (h8 : nf ≤ 8) {p : Nat} (hk : ∀ v2 : Option Value, jm_J rg_I (rg_X Ln xs) 5 mX2_planRounds 31 [some (.ref 14), some (.int (nI p)), v2] [] (rf_pass μ nf nf) Q) : ∀ i, i ≤ nf → jm_J rg_I (rg_X Ln xs) 5 mX2_planRounds 12 [some (.ref 14), some (.int (nI p)), some (.int (nI i))] [] (rf_pass μ nf i) Q := by
  refine jm_for nf ?_ ?_
  · skip
    refine jm_iload_n dX2_planRounds_12 rfl rfl rfl ?_
    refine jm_aload_n dX2_planRounds_13 rfl rfl rfl ?_
    refine jm_geti dX2_planRounds_14 rfl fe_X2_24 rfl rfl rfl ?_
    refine jm_icmp_ge (tgt := 31) dX2_planRounds_17 (by decide) rfl (fun c17 => ?_) (fun c17 => absurd (by rw [rf_pass_na (by decide) (by decide) (by decide), hn]; exact (nI_leI (by omega) (by omega)).mpr (by omega)) c17)
    exact hk _
  · intro i hi ih 
    refine jm_iload_n dX2_planRounds_12 rfl rfl rfl ?_
    refine jm_aload_n dX2_planRounds_13 rfl rfl rfl ?_
    refine jm_geti dX2_planRounds_14 rfl fe_X2_24 rfl rfl rfl ?_
    refine jm_icmp_ge (tgt := 31) dX2_planRounds_17 (by decide) rfl (fun c17 => absurd ((nI_leI (a := nf) (b := i) (by omega) (by omega)).mp (by rw [rf_pass_na (by decide) (by decide) (by decide), hn] at c17; exact c17)) (by omega)) (fun c17 => ?_)
    refine jm_aload_n dX2_planRounds_20 rfl rfl rfl ?_
    refine jm_iload_n dX2_planRounds_21 rfl rfl rfl ?_
    refine jm_cV1 dX2_planRounds_22 rfl cb_X2_37 ci_X2_planFrom cv_X2_planFrom rfl rfl rfl (Nat.le_of_ble_eq_true rfl) (Nat.le_of_ble_eq_true rfl) (by decide) (s_X2_planFrom (nf := nf) (by rw [rf_pass_na (by decide) (by decide) (by decide)]; exact hn) h8 hi ?_)
    refine jm_iinc (nI 1) dX2_planRounds_25 rfl rfl (by decide) rfl rfl ?_
    dsimp only [List.set]
    refine jm_goto (n := 12) dX2_planRounds_28 (by decide) ?_
    rw [nI_add]; exact ih
set_option maxHeartbeats 1000000 in
theorem l_X2_plan {Ln : Nat} {xs : Nat → Int32} {μ : jm_Mem} {Q : Option Value → jm_Mem → Prop} {nf : Nat} (hn : μ 14 4 = nI nf) (h8 : nf ≤ 8) (h : Q none (rf_plan μ nf nf)) : ∀ i, i ≤ nf → ∀ (v2 : Option Value), jm_J rg_I (rg_X Ln xs) 5 mX2_planRounds 2 [some (.ref 14), some (.int (nI i)), v2] [] (rf_plan μ nf i) Q := by
  refine jm_for nf ?_ ?_
  · intro v2
    refine jm_iload_n dX2_planRounds_2 rfl rfl rfl ?_
    refine jm_aload_n dX2_planRounds_3 rfl rfl rfl ?_
    refine jm_geti dX2_planRounds_4 rfl fe_X2_24 rfl rfl rfl ?_
    refine jm_icmp_ge (tgt := 37) dX2_planRounds_7 (by decide) rfl (fun c7 => ?_) (fun c7 => absurd (by rw [rf_plan_na (by decide) (by decide) (by decide), hn]; exact (nI_leI (by omega) (by omega)).mpr (by omega)) c7)
    refine jm_vret dX2_planRounds_37 rfl ?_
    exact h
  · intro i hi ih v2
    refine jm_iload_n dX2_planRounds_2 rfl rfl rfl ?_
    refine jm_aload_n dX2_planRounds_3 rfl rfl rfl ?_
    refine jm_geti dX2_planRounds_4 rfl fe_X2_24 rfl rfl rfl ?_
    refine jm_icmp_ge (tgt := 37) dX2_planRounds_7 (by decide) rfl (fun c7 => absurd ((nI_leI (a := nf) (b := i) (by omega) (by omega)).mp (by rw [rf_plan_na (by decide) (by decide) (by decide), hn] at c7; exact c7)) (by omega)) (fun c7 => ?_)
    refine jm_iconst (nI 0) dX2_planRounds_10 rfl (by decide) ?_
    refine jm_istore_n dX2_planRounds_11 rfl rfl rfl rfl ?_
    dsimp only [List.set]
    refine l_X2_pass (μ := rf_plan μ nf i) (by rw [rf_plan_na (by decide) (by decide) (by decide)]; exact hn) h8 (fun v3 => ?_) 0 (by omega)
    refine jm_iinc (nI 1) dX2_planRounds_31 rfl rfl (by decide) rfl rfl ?_
    dsimp only [List.set]
    refine jm_goto (n := 2) dX2_planRounds_34 (by decide) ?_
    rw [nI_add]; exact ih _
set_option maxHeartbeats 400000 in
theorem s_X2_planRounds {Ln : Nat} {xs : Nat → Int32} {μ : jm_Mem} {Q : Option Value → jm_Mem → Prop} {nf : Nat} (hn : μ 14 4 = nI nf) (h8 : nf ≤ 8) (h : Q none (rf_plan μ nf nf)) : gJ Ln xs 5 mX2_planRounds 0 (jm_en 3 [.ref 14]) [] μ Q := by
  show jm_J rg_I (rg_X Ln xs) 5 mX2_planRounds 0 [some (.ref 14), none, none] [] μ Q
  refine jm_iconst (nI 0) dX2_planRounds_0 rfl (by decide) ?_
  refine jm_istore_n dX2_planRounds_1 rfl rfl rfl rfl ?_
  dsimp only [List.set]
  exact l_X2_plan hn h8 h 0 (by omega) none
set_option maxHeartbeats 1000000 in
theorem l_X2_fair {Ln : Nat} {xs : Nat → Int32} {μ : jm_Mem} {Q : Option Value → jm_Mem → Prop} {nf : Nat} (hn : μ 14 4 = nI nf) (h8 : nf ≤ 8) {fol : Nat → Option Nat} (hfo : ∀ i, i < nf → μ 21 i = rf_v (fol i) ∧ rf_ok nf (fol i)) {k : Nat} (hk : k < 8) : ∀ (t i : Nat) (o : Option Nat), i + t = k → rf_ok nf o → Q (some (.int (rf_v (rf_it fol t o)))) μ → jm_J rg_I (rg_X Ln xs) 4 mX2_fairOfBestRound 8 [some (.ref 14), some (.int (nI k)), some (.int (rf_v o)), some (.int (nI i))] [] μ Q := by
  intro t
  induction t with
  | zero =>
    intro i o hi ho h
    refine jm_iload_n dX2_fairOfBestRound_8 rfl rfl rfl ?_
    refine jm_iload_n dX2_fairOfBestRound_9 rfl rfl rfl ?_
    refine jm_icmp_ge (tgt := 34) dX2_fairOfBestRound_10 (by decide) rfl (fun c10 => ?_) (fun c10 => absurd ((nI_leI (by omega) (by omega)).mpr (by omega)) c10)
    refine jm_iload_n dX2_fairOfBestRound_34 rfl rfl rfl ?_
    refine jm_iret dX2_fairOfBestRound_35 rfl rfl ?_
    exact h
  | succ t ih =>
    intro i o hi ho h
    refine jm_iload_n dX2_fairOfBestRound_8 rfl rfl rfl ?_
    refine jm_iload_n dX2_fairOfBestRound_9 rfl rfl rfl ?_
    refine jm_icmp_ge (tgt := 34) dX2_fairOfBestRound_10 (by decide) rfl (fun c10 => absurd ((nI_leI (by omega) (by omega)).mp c10) (by omega)) (fun c10 => ?_)
    refine jm_aload_n dX2_fairOfBestRound_13 rfl rfl rfl ?_
    refine jm_iload_n dX2_fairOfBestRound_14 rfl rfl rfl ?_
    refine jm_cV1 dX2_fairOfBestRound_15 rfl cb_X2_58 ci_X2_isFair cv_X2_isFair rfl rfl rfl (Nat.le_of_ble_eq_true rfl) (Nat.le_of_ble_eq_true rfl) (by decide) (s_X2_isFair_o hn h8 ho (fun j e => ?_) (fun e => ?_))
    · subst e
      have hj := ho j rfl
      refine jm_if_eq (tgt := 34) dX2_fairOfBestRound_18 (by decide) rfl (fun c18 => absurd c18 (by decide)) (fun c18 => ?_)
      refine jm_aload_n dX2_fairOfBestRound_21 rfl rfl rfl ?_
      refine jm_getr dX2_fairOfBestRound_22 rfl fe_X2_34 rfl rfl rfl ?_
      refine jm_iload_n dX2_fairOfBestRound_25 rfl rfl rfl ?_
      refine jm_iald dX2_fairOfBestRound_26 rfl rfl rfl (by decide) rfl (by omega) ?_
      refine jm_istore_n dX2_fairOfBestRound_27 rfl rfl rfl rfl ?_
      dsimp only [List.set]
      refine jm_iinc (nI 1) dX2_fairOfBestRound_28 rfl rfl (by decide) rfl rfl ?_
      dsimp only [List.set]
      refine jm_goto (n := 8) dX2_fairOfBestRound_31 (by decide) ?_
      rw [nI_add, (hfo j hj).1]
      exact ih (i + 1) (fol j) (by omega) (hfo j hj).2 h
    · subst e
      refine jm_if_eq (tgt := 34) dX2_fairOfBestRound_18 (by decide) rfl (fun c18 => ?_) (fun c18 => absurd c18 (by decide))
      refine jm_iload_n dX2_fairOfBestRound_34 rfl rfl rfl ?_
      refine jm_iret dX2_fairOfBestRound_35 rfl rfl ?_
      exact h
set_option maxHeartbeats 400000 in
theorem s_X2_fairOfBestRound {Ln : Nat} {xs : Nat → Int32} {μ : jm_Mem} {Q : Option Value → jm_Mem → Prop} {nf : Nat} (hn : μ 14 4 = nI nf) (h8 : nf ≤ 8) {fol : Nat → Option Nat} (hfo : ∀ i, i < nf → μ 21 i = rf_v (fol i) ∧ rf_ok nf (fol i)) {k : Nat} (hk : k < 8) (h : Q (some (.int (rf_v (rf_it fol k (rf_bb μ none nf))))) μ) : gJ Ln xs 4 mX2_fairOfBestRound 0 (jm_en 4 [.ref 14, .int (nI k)]) [] μ Q := by
  show jm_J rg_I (rg_X Ln xs) 4 mX2_fairOfBestRound 0 [some (.ref 14), some (.int (nI k)), none, none] [] μ Q
  refine jm_aload_n dX2_fairOfBestRound_0 rfl rfl rfl ?_
  refine jm_iconst (-1) dX2_fairOfBestRound_1 rfl (by decide) ?_
  refine jm_cV1 dX2_fairOfBestRound_2 rfl cb_X2_41 ci_X2_bestBehind cv_X2_bestBehind rfl rfl rfl (Nat.le_of_ble_eq_true rfl) (Nat.le_of_ble_eq_true rfl) (by decide) (s_X2_bestBehind (o := none) hn h8 (fun i e => by cases e) ?_)
  refine jm_istore_n dX2_fairOfBestRound_5 rfl rfl rfl rfl ?_
  dsimp only [List.set]
  refine jm_iconst (nI 0) dX2_fairOfBestRound_6 rfl (by decide) ?_
  refine jm_istore_n dX2_fairOfBestRound_7 rfl rfl rfl rfl ?_
  dsimp only [List.set]
  exact l_X2_fair hn h8 hfo hk k 0 _ (by omega) (rf_bb_ok nf) h
set_option maxHeartbeats 400000 in
theorem s_X6_earns {Ln : Nat} {xs : Nat → Int32} {μ : jm_Mem} {Q : Option Value → jm_Mem → Prop} {nf : Nat} (hn : μ 14 4 = nI nf) (h8 : nf ≤ 8) (h : Q (some (.int (rf_g (rf_plan μ nf nf) (rf_bb (rf_plan μ nf nf) none nf)))) (rf_plan μ nf nf)) : gJ Ln xs 6 mX6_earns 0 (jm_en 1 [.ref 0]) [] μ Q := by
  show jm_J rg_I (rg_X Ln xs) 6 mX6_earns 0 [some (.ref 0)] [] μ Q
  refine jm_aload_n dX6_earns_0 rfl rfl rfl ?_
  refine jm_getr dX6_earns_1 rfl fe_X6_40 rfl rfl rfl ?_
  refine jm_cV0 dX6_earns_4 rfl cb_X6_202 ci_X2_planRounds cv_X2_planRounds rfl rfl rfl (Nat.le_of_ble_eq_true rfl) (Nat.le_of_ble_eq_true rfl) (by decide) (s_X2_planRounds hn h8 ?_)
  refine jm_aload_n dX6_earns_7 rfl rfl rfl ?_
  refine jm_getr dX6_earns_8 rfl fe_X6_40 rfl rfl rfl ?_
  refine jm_aload_n dX6_earns_11 rfl rfl rfl ?_
  refine jm_getr dX6_earns_12 rfl fe_X6_40 rfl rfl rfl ?_
  refine jm_iconst (-1) dX6_earns_15 rfl (by decide) ?_
  refine jm_cV1 dX6_earns_16 rfl cb_X6_205 ci_X2_bestBehind cv_X2_bestBehind rfl rfl rfl (Nat.le_of_ble_eq_true rfl) (Nat.le_of_ble_eq_true rfl) (by decide) (s_X2_bestBehind (μ := (rf_plan μ nf nf)) (nf := nf) (o := none) (by rw [rf_plan_na (by decide) (by decide) (by decide)]; exact hn) h8 (fun i e => by cases e) ?_)
  refine jm_cV1 dX6_earns_19 rfl cb_X6_208 ci_X2_gainFrom cv_X2_gainFrom rfl rfl rfl (Nat.le_of_ble_eq_true rfl) (Nat.le_of_ble_eq_true rfl) (by decide) (s_X2_gainFrom (μ := (rf_plan μ nf nf)) (nf := nf) (by rw [rf_plan_na (by decide) (by decide) (by decide)]; exact hn) h8 (rf_bb_ok nf) ?_)
  refine jm_iret dX6_earns_22 rfl rfl ?_
  exact h
set_option maxHeartbeats 400000 in
theorem s_X6_round {Ln : Nat} {xs : Nat → Int32} {μ : jm_Mem} {Q : Option Value → jm_Mem → Prop} {nf : Nat} (hn : μ 14 4 = nI nf) (h8 : nf ≤ 8) {k : Int32} (hfo : ∀ i, i < nf → (rf_plan μ nf nf) 21 i = rf_v (rf_o ((rf_plan μ nf nf) 21 i)) ∧ rf_ok nf (rf_o ((rf_plan μ nf nf) 21 i))) (h0 : (k < 0 ∨ nI nf ≤ k) → Q (some (.int (-1))) μ) (h1 : ∀ i, i < nf → k = nI i → Q (some (.int (rf_v (rf_it (fun i => rf_o ((rf_plan μ nf nf) 21 i)) i (rf_bb (rf_plan μ nf nf) none nf))))) (rf_plan μ nf nf)) : gJ Ln xs 6 mX6_round 0 (jm_en 2 [.ref 0, .int k]) [] μ Q := by
  show jm_J rg_I (rg_X Ln xs) 6 mX6_round 0 [some (.ref 0), some (.int k)] [] μ Q
  refine jm_aload_n dX6_round_0 rfl rfl rfl ?_
  refine jm_getr dX6_round_1 rfl fe_X6_40 rfl rfl rfl ?_
  refine jm_iload_n dX6_round_4 rfl rfl rfl ?_
  refine jm_cV1 dX6_round_5 rfl cb_X6_192 ci_X2_isFair cv_X2_isFair rfl rfl rfl (Nat.le_of_ble_eq_true rfl) (Nat.le_of_ble_eq_true rfl) (by decide) (s_X2_isFair hn h8 (fun i hi e => ?_) (fun c0 => ?_))
  · subst e
    refine jm_if_ne (tgt := 13) dX6_round_8 (by decide) rfl (fun c8 => ?_) (fun c8 => absurd c8 (by decide))
    refine jm_aload_n dX6_round_13 rfl rfl rfl ?_
    refine jm_getr dX6_round_14 rfl fe_X6_40 rfl rfl rfl ?_
    refine jm_cV0 dX6_round_17 rfl cb_X6_202 ci_X2_planRounds cv_X2_planRounds rfl rfl rfl (Nat.le_of_ble_eq_true rfl) (Nat.le_of_ble_eq_true rfl) (by decide) (s_X2_planRounds hn h8 ?_)
    refine jm_aload_n dX6_round_20 rfl rfl rfl ?_
    refine jm_getr dX6_round_21 rfl fe_X6_40 rfl rfl rfl ?_
    refine jm_iload_n dX6_round_24 rfl rfl rfl ?_
    refine jm_cV1 dX6_round_25 rfl cb_X6_211 ci_X2_fairOfBestRound cv_X2_fairOfBestRound rfl rfl rfl (Nat.le_of_ble_eq_true rfl) (Nat.le_of_ble_eq_true rfl) (by decide) (s_X2_fairOfBestRound (μ := (rf_plan μ nf nf)) (nf := nf) (by rw [rf_plan_na (by decide) (by decide) (by decide)]; exact hn) h8 hfo (by omega) ?_)
    refine jm_iret dX6_round_28 rfl rfl ?_
    first | exact h0 c0 | exact h1 i hi rfl | fail "leaf"
  · refine jm_if_ne (tgt := 13) dX6_round_8 (by decide) rfl (fun c8 => absurd c8 (by decide)) (fun c8 => ?_)
    refine jm_iconst (-1) dX6_round_11 rfl (by decide) ?_
    refine jm_iret dX6_round_12 rfl rfl ?_
    first | exact h0 c0 | exact h1 i hi rfl | fail "leaf"
