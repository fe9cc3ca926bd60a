theorem rd_vl {Q : Option Value → jm_Mem → Prop} {μ : jm_Mem} {x y : Int64} (h : Q (some (.long x)) μ) (e : y = x) : Q (some (.long y)) μ := by rw [e]; exact h
def rg_plh (hv rv nv : Int32) (cf mf : Nat → Int32) (h : Int64) : Int64 := rg_mx mf 4 (rg_mx cf nv.toNatClampNeg (31 * (31 * (31 * h + hv.toInt64) + rv.toInt64) + nv.toInt64))
def cd_pl (μ : jm_Mem) (j : Nat) (h : Int64) : Int64 := if μ 2 j ≤ 0 then 31 * h + (nI 0).toInt64 else rg_plh (μ 2 j) (μ 3 j) (μ 10 j) (fun i => μ 9 (8 * j + i)) (fun i => μ 12 (4 * j + i)) h
def md_pl (μ : jm_Mem) (j : Nat) (h : Int64) : Int64 := if μ 27 j ≤ 0 then 31 * h + (μ 27 j).toInt64 else rg_plh (μ 27 j) (μ 28 j) (μ 29 j) (fun i => μ 30 (8 * j + i)) (fun i => μ 31 (4 * j + i)) h
def rg_fd (F : Nat → Int64 → Int64) : Nat → Int64 → Int64
  | 0, h => h
  | n + 1, h => F n (rg_fd F n h)
def rg_fa (b e g dd : Nat → Int32) (n f : Nat) (h : Int64) : Int64 := rg_mx (fun t => dd (8 * f + (f + 1 + t))) (n - (f + 1)) (31 * (31 * (31 * h + (b f).toInt64) + (e f).toInt64) + (g f).toInt64)
def rg_dig (pl : Nat → Int64 → Int64) (sk lf : Int32) (b e g dd : Nat → Int32) (nf : Nat) (ho te tk gr : Int32) (q : Nat → Int32) (nw : Nat) : Int64 := rg_mx q nw (31 * (31 * (31 * (31 * (rg_fd (rg_fa b e g dd nf) nf (31 * (31 * rg_fd pl 12 193 + sk.toInt64) + lf.toInt64)) + ho.toInt64) + te.toInt64) + tk.toInt64) + gr.toInt64)
set_option maxHeartbeats 400000 in
theorem s_X6_mixPlace {Ln : Nat} {xs : Nat → Int32} {μ : jm_Mem} {Q : Option Value → jm_Mem → Prop} {j : Nat} {g : Int64} (hj : j < 12) (hm : ∀ j, j < 12 → ¬ μ 2 j ≤ 0 → ∃ m, m ≤ 8 ∧ μ 10 j = nI m) (hq : Q (some (.long (cd_pl μ j g))) μ) : gJ Ln xs 2 mX6_mixPlace 0 (jm_en 6 [.ref 0, .long g, .int (nI j)]) [] μ Q := by
  show jm_J rg_I (rg_X Ln xs) 2 mX6_mixPlace 0 [some (.ref 0), some (.long g), none, some (.int (nI j)), none, none] [] μ Q
  refine jm_aload_n dX6_mixPlace_0 rfl rfl rfl ?_
  refine jm_getr dX6_mixPlace_1 rfl fe_X6_12 rfl rfl rfl ?_
  refine jm_iload_n dX6_mixPlace_4 rfl rfl rfl ?_
  refine jm_cV1 dX6_mixPlace_5 rfl cb_X6_72 ci_X4_hasHorse cv_X4_hasHorse rfl rfl rfl (Nat.le_of_ble_eq_true rfl) (Nat.le_of_ble_eq_true rfl) (by decide) (s_X4_hasHorse_at hj (fun ch => ?_) (fun ch => ?_))
  · obtain ⟨m, h8, em⟩ := hm j hj ch
    refine jm_if_ne (tgt := 17) dX6_mixPlace_8 (by decide) rfl (fun c8 => ?_) (fun c8 => absurd c8 (by decide))
    refine jm_lload_n dX6_mixPlace_17 rfl rfl rfl ?_
    refine jm_aload_n dX6_mixPlace_18 rfl rfl rfl ?_
    refine jm_getr dX6_mixPlace_19 rfl fe_X6_12 rfl rfl rfl ?_
    refine jm_getr dX6_mixPlace_22 rfl fe_X6_256 rfl rfl rfl ?_
    refine jm_iload_n dX6_mixPlace_25 rfl rfl rfl ?_
    refine jm_iald dX6_mixPlace_26 rfl rfl rfl (by decide) rfl (by first | assumption | omega) ?_
    refine jm_cS2 dX6_mixPlace_27 rfl cb_X6_245 cs_X6_mix (Nat.le_of_ble_eq_true rfl) (Nat.le_of_ble_eq_true rfl) (by decide) (s_X6_mix ?_)
    refine jm_aload_n dX6_mixPlace_30 rfl rfl rfl ?_
    refine jm_getr dX6_mixPlace_31 rfl fe_X6_12 rfl rfl rfl ?_
    refine jm_getr dX6_mixPlace_34 rfl fe_X6_147 rfl rfl rfl ?_
    refine jm_iload_n dX6_mixPlace_37 rfl rfl rfl ?_
    refine jm_iald dX6_mixPlace_38 rfl rfl rfl (by decide) rfl (by first | assumption | omega) ?_
    refine jm_cS2 dX6_mixPlace_39 rfl cb_X6_245 cs_X6_mix (Nat.le_of_ble_eq_true rfl) (Nat.le_of_ble_eq_true rfl) (by decide) (s_X6_mix ?_)
    refine jm_lstore dX6_mixPlace_42 rfl rfl rfl ?_
    dsimp only [List.set]
    refine jm_aload_n dX6_mixPlace_44 rfl rfl rfl ?_
    refine jm_getr dX6_mixPlace_45 rfl fe_X6_33 rfl rfl rfl ?_
    refine jm_aload_n dX6_mixPlace_48 rfl rfl rfl ?_
    refine jm_getr dX6_mixPlace_49 rfl fe_X6_26 rfl rfl rfl ?_
    refine jm_lload dX6_mixPlace_52 rfl rfl ?_
    refine jm_iload_n dX6_mixPlace_54 rfl rfl rfl ?_
    refine jm_cV2 dX6_mixPlace_55 rfl cb_X6_259 ci_X1_mixCoats cv_X1_mixCoats rfl rfl rfl (Nat.le_of_ble_eq_true rfl) (Nat.le_of_ble_eq_true rfl) (by decide) (s_X1_mixCoats hj em h8 ?_)
    refine jm_iload_n dX6_mixPlace_58 rfl rfl rfl ?_
    refine jm_cV2 dX6_mixPlace_59 rfl cb_X6_262 ci_X3_mixLegs cv_X3_mixLegs rfl rfl rfl (Nat.le_of_ble_eq_true rfl) (Nat.le_of_ble_eq_true rfl) (by decide) (s_X3_mixLegs hj ?_)
    refine jm_lret dX6_mixPlace_62 rfl ?_
    first | (refine rd_vl hq ?_; simp only [cd_pl, if_neg ch, rg_plh, em, nI_clamp (show m < 2 ^ 31 by omega)]; done) | (refine rd_vl hq ?_; simp only [cd_pl, if_pos ch]; done) | fail "leaf"
  · refine jm_if_ne (tgt := 17) dX6_mixPlace_8 (by decide) rfl (fun c8 => absurd c8 (by decide)) (fun c8 => ?_)
    refine jm_lload_n dX6_mixPlace_11 rfl rfl rfl ?_
    refine jm_iconst (nI 0) dX6_mixPlace_12 rfl (by decide) ?_
    refine jm_cS2 dX6_mixPlace_13 rfl cb_X6_245 cs_X6_mix (Nat.le_of_ble_eq_true rfl) (Nat.le_of_ble_eq_true rfl) (by decide) (s_X6_mix ?_)
    refine jm_lret dX6_mixPlace_16 rfl ?_
    first | (refine rd_vl hq ?_; simp only [cd_pl, if_neg ch, rg_plh, em, nI_clamp (show m < 2 ^ 31 by omega)]; done) | (refine rd_vl hq ?_; simp only [cd_pl, if_pos ch]; done) | fail "leaf"
set_option maxHeartbeats 1000000 in
theorem l_X2_mixIn {Ln : Nat} {xs : Nat → Int32} {μ : jm_Mem} {Q : Option Value → jm_Mem → Prop} {f : Nat} {g h : Int64} {nf : Nat} (hn : μ 14 4 = nI nf) (h8 : nf ≤ 8) (hf : f < nf) (hk : jm_J rg_I (rg_X Ln xs) 1 mX2_mixAll 80 [some (.ref 14), some (.long g), none, some (.long (rg_mx (fun t => μ 18 (8 * f + (f + 1 + t))) (nf - (f + 1)) h)), none, some (.int (nI f)), some (.int (nI (f + 1 + (nf - (f + 1)))))] [] μ Q) : ∀ i, i ≤ (nf - (f + 1)) → jm_J rg_I (rg_X Ln xs) 1 mX2_mixAll 52 [some (.ref 14), some (.long g), none, some (.long (rg_mx (fun t => μ 18 (8 * f + (f + 1 + t))) i h)), none, some (.int (nI f)), some (.int (nI (f + 1 + i)))] [] μ Q := by
  refine jm_for (nf - (f + 1)) ?_ ?_
  · skip
    refine jm_iload dX2_mixAll_52 rfl rfl ?_
    refine jm_aload_n dX2_mixAll_54 rfl rfl rfl ?_
    refine jm_geti dX2_mixAll_55 rfl fe_X2_24 rfl rfl rfl ?_
    refine jm_icmp_ge (tgt := 80) dX2_mixAll_58 (by decide) rfl (fun c58 => ?_) (fun c58 => absurd (by rw [hn]; exact (nI_leI (by omega) (by omega)).mpr (by omega)) c58)
    exact hk
  · intro i hi ih 
    refine jm_iload dX2_mixAll_52 rfl rfl ?_
    refine jm_aload_n dX2_mixAll_54 rfl rfl rfl ?_
    refine jm_geti dX2_mixAll_55 rfl fe_X2_24 rfl rfl rfl ?_
    refine jm_icmp_ge (tgt := 80) dX2_mixAll_58 (by decide) rfl (fun c58 => absurd ((nI_leI (a := nf) (b := f + 1 + i) (by omega) (by omega)).mp (hn ▸ c58)) (by omega)) (fun c58 => ?_)
    refine jm_lload_n dX2_mixAll_61 rfl rfl rfl ?_
    refine jm_aload_n dX2_mixAll_62 rfl rfl rfl ?_
    refine jm_iload dX2_mixAll_63 rfl rfl ?_
    refine jm_iload dX2_mixAll_65 rfl rfl ?_
    refine jm_cV2 dX2_mixAll_67 rfl cb_X2_62 ci_X2_daysBetween cv_X2_daysBetween rfl rfl rfl (Nat.le_of_ble_eq_true rfl) (Nat.le_of_ble_eq_true rfl) (by decide) (s_X2_daysBetween (a := f) (b := f + 1 + i) (by omega) (by omega) ?_)
    refine jm_cS2 dX2_mixAll_70 rfl cb_X2_66 cs_X6_mix (Nat.le_of_ble_eq_true rfl) (Nat.le_of_ble_eq_true rfl) (by decide) (s_X6_mix ?_)
    refine jm_lstore_n dX2_mixAll_73 rfl rfl rfl rfl ?_
    dsimp only [List.set]
    refine jm_iinc (nI 1) dX2_mixAll_74 rfl rfl (by decide) rfl rfl ?_
    dsimp only [List.set]
    refine jm_goto (n := 52) dX2_mixAll_77 (by decide) ?_
    rw [nI_add]; exact ih
set_option maxHeartbeats 1000000 in
theorem l_X2_mixAll {Ln : Nat} {xs : Nat → Int32} {μ : jm_Mem} {Q : Option Value → jm_Mem → Prop} {g h : Int64} {nf : Nat} (hn : μ 14 4 = nI nf) (h8 : nf ≤ 8) (hq : Q (some (.long (rg_fd (rg_fa (μ 15) (μ 16) (μ 17) (μ 18) nf) nf h))) μ) : ∀ i, i ≤ nf → ∀ (v6 : Option Value), jm_J rg_I (rg_X Ln xs) 1 mX2_mixAll 5 [some (.ref 14), some (.long g), none, some (.long (rg_fd (rg_fa (μ 15) (μ 16) (μ 17) (μ 18) nf) i h)), none, some (.int (nI i)), v6] [] μ Q := by
  refine jm_for nf ?_ ?_
  · intro v6
    refine jm_iload dX2_mixAll_5 rfl rfl ?_
    refine jm_aload_n dX2_mixAll_7 rfl rfl rfl ?_
    refine jm_geti dX2_mixAll_8 rfl fe_X2_24 rfl rfl rfl ?_
    refine jm_icmp_ge (tgt := 86) dX2_mixAll_11 (by decide) rfl (fun c11 => ?_) (fun c11 => absurd (by rw [hn]; exact (nI_leI (by omega) (by omega)).mpr (by omega)) c11)
    refine jm_lload_n dX2_mixAll_86 rfl rfl rfl ?_
    refine jm_lret dX2_mixAll_87 rfl ?_
    exact hq
  · intro i hi ih v6
    refine jm_iload dX2_mixAll_5 rfl rfl ?_
    refine jm_aload_n dX2_mixAll_7 rfl rfl rfl ?_
    refine jm_geti dX2_mixAll_8 rfl fe_X2_24 rfl rfl rfl ?_
    refine jm_icmp_ge (tgt := 86) dX2_mixAll_11 (by decide) rfl (fun c11 => absurd ((nI_leI (a := nf) (b := i) (by omega) (by omega)).mp (hn ▸ c11)) (by omega)) (fun c11 => ?_)
    refine jm_lload_n dX2_mixAll_14 rfl rfl rfl ?_
    refine jm_aload_n dX2_mixAll_15 rfl rfl rfl ?_
    refine jm_getr dX2_mixAll_16 rfl fe_X2_9 rfl rfl rfl ?_
    refine jm_iload dX2_mixAll_19 rfl rfl ?_
    refine jm_iald dX2_mixAll_21 rfl rfl rfl (by decide) rfl (by first | assumption | omega) ?_
    refine jm_cS2 dX2_mixAll_22 rfl cb_X2_66 cs_X6_mix (Nat.le_of_ble_eq_true rfl) (Nat.le_of_ble_eq_true rfl) (by decide) (s_X6_mix ?_)
    refine jm_aload_n dX2_mixAll_25 rfl rfl rfl ?_
    refine jm_getr dX2_mixAll_26 rfl fe_X2_15 rfl rfl rfl ?_
    refine jm_iload dX2_mixAll_29 rfl rfl ?_
    refine jm_iald dX2_mixAll_31 rfl rfl rfl (by decide) rfl (by first | assumption | omega) ?_
    refine jm_cS2 dX2_mixAll_32 rfl cb_X2_66 cs_X6_mix (Nat.le_of_ble_eq_true rfl) (Nat.le_of_ble_eq_true rfl) (by decide) (s_X6_mix ?_)
    refine jm_aload_n dX2_mixAll_35 rfl rfl rfl ?_
    refine jm_getr dX2_mixAll_36 rfl fe_X2_18 rfl rfl rfl ?_
    refine jm_iload dX2_mixAll_39 rfl rfl ?_
    refine jm_iald dX2_mixAll_41 rfl rfl rfl (by decide) rfl (by first | assumption | omega) ?_
    refine jm_cS2 dX2_mixAll_42 rfl cb_X2_66 cs_X6_mix (Nat.le_of_ble_eq_true rfl) (Nat.le_of_ble_eq_true rfl) (by decide) (s_X6_mix ?_)
    refine jm_lstore_n dX2_mixAll_45 rfl rfl rfl rfl ?_
    dsimp only [List.set]
    refine jm_iload dX2_mixAll_46 rfl rfl ?_
    refine jm_iconst (nI 1) dX2_mixAll_48 rfl (by decide) ?_
    refine jm_iadd dX2_mixAll_49 rfl ?_
    refine jm_istore dX2_mixAll_50 rfl rfl rfl ?_
    dsimp only [List.set]
    rw [nI_add]
    refine l_X2_mixIn hn h8 hi ?_ 0 (by omega)
    refine jm_iinc (nI 1) dX2_mixAll_80 rfl rfl (by decide) rfl rfl ?_
    dsimp only [List.set]
    refine jm_goto (n := 5) dX2_mixAll_83 (by decide) ?_
    rw [nI_add]; exact ih _
set_option maxHeartbeats 400000 in
theorem s_X2_mixAll {Ln : Nat} {xs : Nat → Int32} {μ : jm_Mem} {Q : Option Value → jm_Mem → Prop} {g : Int64} {nf : Nat} (hn : μ 14 4 = nI nf) (h8 : nf ≤ 8) (hq : Q (some (.long (rg_fd (rg_fa (μ 15) (μ 16) (μ 17) (μ 18) nf) nf g))) μ) : gJ Ln xs 1 mX2_mixAll 0 (jm_en 7 [.ref 14, .long g]) [] μ Q := by
  show jm_J rg_I (rg_X Ln xs) 1 mX2_mixAll 0 [some (.ref 14), some (.long g), none, none, none, none, none] [] μ Q
  refine jm_lload_n dX2_mixAll_0 rfl rfl rfl ?_
  refine jm_lstore_n dX2_mixAll_1 rfl rfl rfl rfl ?_
  dsimp only [List.set]
  refine jm_iconst (nI 0) dX2_mixAll_2 rfl (by decide) ?_
  refine jm_istore dX2_mixAll_3 rfl rfl rfl ?_
  dsimp only [List.set]
  exact l_X2_mixAll hn h8 hq 0 (by omega) none
set_option maxHeartbeats 1000000 in
theorem l_X6_digest {Ln : Nat} {xs : Nat → Int32} {μ : jm_Mem} {Q : Option Value → jm_Mem → Prop} (hm : ∀ j, j < 12 → ¬ μ 2 j ≤ 0 → ∃ m, m ≤ 8 ∧ μ 10 j = nI m) {nf : Nat} (hn : μ 14 4 = nI nf) (h8 : nf ≤ 8) {nw : Nat} (hw : μ 22 1 = nI nw) (hl : nw ≤ 100) (hq : Q (some (.long (rg_dig (cd_pl μ) (μ 1 2) (μ 1 3) (μ 15) (μ 16) (μ 17) (μ 18) nf (μ 0 7) (μ 0 8) (μ 0 9) (μ 0 6) (μ 23) nw))) μ) : ∀ i, i ≤ 12 → jm_J rg_I (rg_X Ln xs) 3 mX6_digest 6 [some (.ref 0), some (.long (rg_fd (cd_pl μ) i 193)), none, some (.int (nI i))] [] μ Q := by
  refine jm_for 12 ?_ ?_
  · skip
    refine jm_iload_n dX6_digest_6 rfl rfl rfl ?_
    refine jm_bipush (nI 12) dX6_digest_7 rfl (by decide) ?_
    refine jm_icmp_ge (tgt := 25) dX6_digest_9 (by decide) rfl (fun c9 => ?_) (fun c9 => absurd ((nI_leI (by omega) (by omega)).mpr (Nat.le_refl _)) c9)
    refine jm_lload_n dX6_digest_25 rfl rfl rfl ?_
    refine jm_aload_n dX6_digest_26 rfl rfl rfl ?_
    refine jm_getr dX6_digest_27 rfl fe_X6_12 rfl rfl rfl ?_
    refine jm_geti dX6_digest_30 rfl fe_X6_242 rfl rfl rfl ?_
    refine jm_cS2 dX6_digest_33 rfl cb_X6_245 cs_X6_mix (Nat.le_of_ble_eq_true rfl) (Nat.le_of_ble_eq_true rfl) (by decide) (s_X6_mix ?_)
    refine jm_lstore_n dX6_digest_36 rfl rfl rfl rfl ?_
    dsimp only [List.set]
    refine jm_lload_n dX6_digest_37 rfl rfl rfl ?_
    refine jm_aload_n dX6_digest_38 rfl rfl rfl ?_
    refine jm_getr dX6_digest_39 rfl fe_X6_12 rfl rfl rfl ?_
    refine jm_geti dX6_digest_42 rfl fe_X6_248 rfl rfl rfl ?_
    refine jm_cS2 dX6_digest_45 rfl cb_X6_245 cs_X6_mix (Nat.le_of_ble_eq_true rfl) (Nat.le_of_ble_eq_true rfl) (by decide) (s_X6_mix ?_)
    refine jm_lstore_n dX6_digest_48 rfl rfl rfl rfl ?_
    dsimp only [List.set]
    refine jm_aload_n dX6_digest_49 rfl rfl rfl ?_
    refine jm_getr dX6_digest_50 rfl fe_X6_40 rfl rfl rfl ?_
    refine jm_lload_n dX6_digest_53 rfl rfl rfl ?_
    refine jm_cV1 dX6_digest_54 rfl cb_X6_251 ci_X2_mixAll cv_X2_mixAll rfl rfl rfl (Nat.le_of_ble_eq_true rfl) (Nat.le_of_ble_eq_true rfl) (by decide) (s_X2_mixAll hn h8 ?_)
    refine jm_lstore_n dX6_digest_57 rfl rfl rfl rfl ?_
    dsimp only [List.set]
    refine jm_lload_n dX6_digest_58 rfl rfl rfl ?_
    refine jm_aload_n dX6_digest_59 rfl rfl rfl ?_
    refine jm_geti dX6_digest_60 rfl fe_X6_55 rfl rfl rfl ?_
    refine jm_cS2 dX6_digest_63 rfl cb_X6_245 cs_X6_mix (Nat.le_of_ble_eq_true rfl) (Nat.le_of_ble_eq_true rfl) (by decide) (s_X6_mix ?_)
    refine jm_lstore_n dX6_digest_66 rfl rfl rfl rfl ?_
    dsimp only [List.set]
    refine jm_lload_n dX6_digest_67 rfl rfl rfl ?_
    refine jm_aload_n dX6_digest_68 rfl rfl rfl ?_
    refine jm_geti dX6_digest_69 rfl fe_X6_58 rfl rfl rfl ?_
    refine jm_cS2 dX6_digest_72 rfl cb_X6_245 cs_X6_mix (Nat.le_of_ble_eq_true rfl) (Nat.le_of_ble_eq_true rfl) (by decide) (s_X6_mix ?_)
    refine jm_lstore_n dX6_digest_75 rfl rfl rfl rfl ?_
    dsimp only [List.set]
    refine jm_lload_n dX6_digest_76 rfl rfl rfl ?_
    refine jm_aload_n dX6_digest_77 rfl rfl rfl ?_
    refine jm_geti dX6_digest_78 rfl fe_X6_61 rfl rfl rfl ?_
    refine jm_cS2 dX6_digest_81 rfl cb_X6_245 cs_X6_mix (Nat.le_of_ble_eq_true rfl) (Nat.le_of_ble_eq_true rfl) (by decide) (s_X6_mix ?_)
    refine jm_lstore_n dX6_digest_84 rfl rfl rfl rfl ?_
    dsimp only [List.set]
    refine jm_lload_n dX6_digest_85 rfl rfl rfl ?_
    refine jm_aload_n dX6_digest_86 rfl rfl rfl ?_
    refine jm_geti dX6_digest_87 rfl fe_X6_51 rfl rfl rfl ?_
    refine jm_cS2 dX6_digest_90 rfl cb_X6_245 cs_X6_mix (Nat.le_of_ble_eq_true rfl) (Nat.le_of_ble_eq_true rfl) (by decide) (s_X6_mix ?_)
    refine jm_lstore_n dX6_digest_93 rfl rfl rfl rfl ?_
    dsimp only [List.set]
    refine jm_aload_n dX6_digest_94 rfl rfl rfl ?_
    refine jm_getr dX6_digest_95 rfl fe_X6_47 rfl rfl rfl ?_
    refine jm_lload_n dX6_digest_98 rfl rfl rfl ?_
    refine jm_cV1 dX6_digest_99 rfl cb_X6_255 ci_X0_mixAll cv_X0_mixAll rfl rfl rfl (Nat.le_of_ble_eq_true rfl) (Nat.le_of_ble_eq_true rfl) (by decide) (s_X0_mixAll hw hl ?_)
    refine jm_lret dX6_digest_102 rfl ?_
    exact hq
  · intro i hi ih 
    refine jm_iload_n dX6_digest_6 rfl rfl rfl ?_
    refine jm_bipush (nI 12) dX6_digest_7 rfl (by decide) ?_
    refine jm_icmp_ge (tgt := 25) dX6_digest_9 (by decide) rfl (fun c9 => absurd ((nI_leI (by omega) (by omega)).mp c9) (by omega)) (fun c9 => ?_)
    refine jm_aload_n dX6_digest_12 rfl rfl rfl ?_
    refine jm_lload_n dX6_digest_13 rfl rfl rfl ?_
    refine jm_iload_n dX6_digest_14 rfl rfl rfl ?_
    refine jm_cV2 dX6_digest_15 rfl cb_X6_238 ci_X6_mixPlace cv_X6_mixPlace rfl rfl rfl (Nat.le_of_ble_eq_true rfl) (Nat.le_of_ble_eq_true rfl) (by decide) (s_X6_mixPlace hi hm ?_)
    refine jm_lstore_n dX6_digest_18 rfl rfl rfl rfl ?_
    dsimp only [List.set]
    refine jm_iinc (nI 1) dX6_digest_19 rfl rfl (by decide) rfl rfl ?_
    dsimp only [List.set]
    refine jm_goto (n := 6) dX6_digest_22 (by decide) ?_
    rw [nI_add]; exact ih
set_option maxHeartbeats 400000 in
theorem s_X6_digest {Ln : Nat} {xs : Nat → Int32} {μ : jm_Mem} {Q : Option Value → jm_Mem → Prop} (hm : ∀ j, j < 12 → ¬ μ 2 j ≤ 0 → ∃ m, m ≤ 8 ∧ μ 10 j = nI m) {nf : Nat} (hn : μ 14 4 = nI nf) (h8 : nf ≤ 8) {nw : Nat} (hw : μ 22 1 = nI nw) (hl : nw ≤ 100) (hq : Q (some (.long (rg_dig (cd_pl μ) (μ 1 2) (μ 1 3) (μ 15) (μ 16) (μ 17) (μ 18) nf (μ 0 7) (μ 0 8) (μ 0 9) (μ 0 6) (μ 23) nw))) μ) : gJ Ln xs 3 mX6_digest 0 (jm_en 4 [.ref 0]) [] μ Q := by
  show jm_J rg_I (rg_X Ln xs) 3 mX6_digest 0 [some (.ref 0), none, none, none] [] μ Q
  refine jm_ldc2 193 dX6_digest_0 rfl kc_X6_236 ?_
  refine jm_lstore_n dX6_digest_3 rfl rfl rfl rfl ?_
  dsimp only [List.set]
  refine jm_iconst (nI 0) dX6_digest_4 rfl (by decide) ?_
  refine jm_istore_n dX6_digest_5 rfl rfl rfl rfl ?_
  dsimp only [List.set]
  exact l_X6_digest hm hn h8 hw hl hq 0 (by omega)
set_option maxHeartbeats 1000000 in
theorem l_X7_dlegs {Ln : Nat} {xs : Nat → Int32} {μ : jm_Mem} {Q : Option Value → jm_Mem → Prop} {j : Nat} {h : Int64} (hj : j < 12) (hk : jm_J rg_I (rg_X Ln xs) 0 mX7_digest 137 [some (.ref 24), some (.long (rg_mx (fun i => μ 31 (4 * j + i)) 4 h)), none, some (.int (nI j)), some (.int (nI 4))] [] μ Q) : ∀ i, i ≤ 4 → jm_J rg_I (rg_X Ln xs) 0 mX7_digest 106 [some (.ref 24), some (.long (rg_mx (fun i => μ 31 (4 * j + i)) i h)), none, some (.int (nI j)), some (.int (nI i))] [] μ Q := by
  refine jm_for 4 ?_ ?_
  · skip
    refine jm_iload dX7_digest_106 rfl rfl ?_
    refine jm_iconst (nI 4) dX7_digest_108 rfl (by decide) ?_
    refine jm_icmp_ge (tgt := 137) dX7_digest_109 (by decide) rfl (fun c109 => ?_) (fun c109 => absurd ((nI_leI (by omega) (by omega)).mpr (Nat.le_refl _)) c109)
    exact hk
  · intro i hi ih 
    refine jm_iload dX7_digest_106 rfl rfl ?_
    refine jm_iconst (nI 4) dX7_digest_108 rfl (by decide) ?_
    refine jm_icmp_ge (tgt := 137) dX7_digest_109 (by decide) rfl (fun c109 => absurd ((nI_leI (by omega) (by omega)).mp c109) (by omega)) (fun c109 => ?_)
    refine jm_ldc2 31 dX7_digest_112 rfl kc_X7_184 ?_
    refine jm_lload_n dX7_digest_115 rfl rfl rfl ?_
    refine jm_lmul dX7_digest_116 rfl ?_
    refine jm_aload_n dX7_digest_117 rfl rfl rfl ?_
    refine jm_getr dX7_digest_118 rfl fe_X7_28 rfl rfl rfl ?_
    refine jm_iconst (nI 4) dX7_digest_121 rfl (by decide) ?_
    refine jm_iload_n dX7_digest_122 rfl rfl rfl ?_
    refine jm_imul dX7_digest_123 rfl ?_
    refine jm_iload dX7_digest_124 rfl rfl ?_
    refine jm_iadd dX7_digest_126 rfl ?_
    refine jm_iald dX7_digest_127 rfl rfl rfl (by decide) (by rw [pk_mul, nI_add]) (by omega) ?_
    refine jm_i2l dX7_digest_128 rfl ?_
    refine jm_ladd dX7_digest_129 rfl ?_
    refine jm_lstore_n dX7_digest_130 rfl rfl rfl rfl ?_
    dsimp only [List.set]
    refine jm_iinc (nI 1) dX7_digest_131 rfl rfl (by decide) rfl rfl ?_
    dsimp only [List.set]
    refine jm_goto (n := 106) dX7_digest_134 (by decide) ?_
    rw [nI_add]; exact ih
set_option maxHeartbeats 1000000 in
theorem l_X7_dcoat {Ln : Nat} {xs : Nat → Int32} {μ : jm_Mem} {Q : Option Value → jm_Mem → Prop} {j m : Nat} {h : Int64} (hj : j < 12) (em : μ 29 j = nI m) (h8 : m ≤ 8) (hk : jm_J rg_I (rg_X Ln xs) 0 mX7_digest 103 [some (.ref 24), some (.long (rg_mx (fun i => μ 30 (8 * j + i)) m h)), none, some (.int (nI j)), some (.int (nI m))] [] μ Q) : ∀ i, i ≤ m → jm_J rg_I (rg_X Ln xs) 0 mX7_digest 66 [some (.ref 24), some (.long (rg_mx (fun i => μ 30 (8 * j + i)) i h)), none, some (.int (nI j)), some (.int (nI i))] [] μ Q := by
  refine jm_for m ?_ ?_
  · skip
    refine jm_iload dX7_digest_66 rfl rfl ?_
    refine jm_aload_n dX7_digest_68 rfl rfl rfl ?_
    refine jm_getr dX7_digest_69 rfl fe_X7_22 rfl rfl rfl ?_
    refine jm_iload_n dX7_digest_72 rfl rfl rfl ?_
    refine jm_iald dX7_digest_73 rfl rfl rfl (by decide) rfl (by first | assumption | omega) ?_
    refine jm_icmp_ge (tgt := 103) dX7_digest_74 (by decide) rfl (fun c74 => ?_) (fun c74 => absurd (by rw [em]; exact (nI_leI (by omega) (by omega)).mpr (by omega)) c74)
    exact hk
  · intro i hi ih 
    refine jm_iload dX7_digest_66 rfl rfl ?_
    refine jm_aload_n dX7_digest_68 rfl rfl rfl ?_
    refine jm_getr dX7_digest_69 rfl fe_X7_22 rfl rfl rfl ?_
    refine jm_iload_n dX7_digest_72 rfl rfl rfl ?_
    refine jm_iald dX7_digest_73 rfl rfl rfl (by decide) rfl (by first | assumption | omega) ?_
    refine jm_icmp_ge (tgt := 103) dX7_digest_74 (by decide) rfl (fun c74 => absurd ((nI_leI (a := m) (b := i) (by omega) (by omega)).mp (em ▸ c74)) (by omega)) (fun c74 => ?_)
    refine jm_ldc2 31 dX7_digest_77 rfl kc_X7_184 ?_
    refine jm_lload_n dX7_digest_80 rfl rfl rfl ?_
    refine jm_lmul dX7_digest_81 rfl ?_
    refine jm_aload_n dX7_digest_82 rfl rfl rfl ?_
    refine jm_getr dX7_digest_83 rfl fe_X7_25 rfl rfl rfl ?_
    refine jm_bipush (nI 8) dX7_digest_86 rfl (by decide) ?_
    refine jm_iload_n dX7_digest_88 rfl rfl rfl ?_
    refine jm_imul dX7_digest_89 rfl ?_
    refine jm_iload dX7_digest_90 rfl rfl ?_
    refine jm_iadd dX7_digest_92 rfl ?_
    refine jm_iald dX7_digest_93 rfl rfl rfl (by decide) (by rw [pk_mul, nI_add]) (by omega) ?_
    refine jm_i2l dX7_digest_94 rfl ?_
    refine jm_ladd dX7_digest_95 rfl ?_
    refine jm_lstore_n dX7_digest_96 rfl rfl rfl rfl ?_
    dsimp only [List.set]
    refine jm_iinc (nI 1) dX7_digest_97 rfl rfl (by decide) rfl rfl ?_
    dsimp only [List.set]
    refine jm_goto (n := 66) dX7_digest_100 (by decide) ?_
    rw [nI_add]; exact ih
set_option maxHeartbeats 1000000 in
theorem l_X7_dplace {Ln : Nat} {xs : Nat → Int32} {μ : jm_Mem} {Q : Option Value → jm_Mem → Prop} (hm : ∀ j, j < 12 → ¬ μ 27 j ≤ 0 → ∃ m, m ≤ 8 ∧ μ 29 j = nI m) (hk : ∀ v4 : Option Value, jm_J rg_I (rg_X Ln xs) 0 mX7_digest 143 [some (.ref 24), some (.long (rg_fd (md_pl μ) 12 193)), none, some (.int (nI 12)), v4] [] μ Q) : ∀ i, i ≤ 12 → ∀ (v4 : Option Value), jm_J rg_I (rg_X Ln xs) 0 mX7_digest 6 [some (.ref 24), some (.long (rg_fd (md_pl μ) i 193)), none, some (.int (nI i)), v4] [] μ Q := by
  refine jm_for 12 ?_ ?_
  · intro v4
    refine jm_iload_n dX7_digest_6 rfl rfl rfl ?_
    refine jm_bipush (nI 12) dX7_digest_7 rfl (by decide) ?_
    refine jm_icmp_ge (tgt := 143) dX7_digest_9 (by decide) rfl (fun c9 => ?_) (fun c9 => absurd ((nI_leI (by omega) (by omega)).mpr (Nat.le_refl _)) c9)
    exact hk v4
  · intro i hi ih v4
    refine jm_iload_n dX7_digest_6 rfl rfl rfl ?_
    refine jm_bipush (nI 12) dX7_digest_7 rfl (by decide) ?_
    refine jm_icmp_ge (tgt := 143) dX7_digest_9 (by decide) rfl (fun c9 => absurd ((nI_leI (by omega) (by omega)).mp c9) (by omega)) (fun c9 => ?_)
    refine jm_ldc2 31 dX7_digest_12 rfl kc_X7_184 ?_
    refine jm_lload_n dX7_digest_15 rfl rfl rfl ?_
    refine jm_lmul dX7_digest_16 rfl ?_
    refine jm_aload_n dX7_digest_17 rfl rfl rfl ?_
    refine jm_getr dX7_digest_18 rfl fe_X7_16 rfl rfl rfl ?_
    refine jm_iload_n dX7_digest_21 rfl rfl rfl ?_
    refine jm_iald dX7_digest_22 rfl rfl rfl (by decide) rfl (by first | assumption | omega) ?_
    refine jm_i2l dX7_digest_23 rfl ?_
    refine jm_ladd dX7_digest_24 rfl ?_
    refine jm_lstore_n dX7_digest_25 rfl rfl rfl rfl ?_
    dsimp only [List.set]
    refine jm_aload_n dX7_digest_26 rfl rfl rfl ?_
    refine jm_getr dX7_digest_27 rfl fe_X7_16 rfl rfl rfl ?_
    refine jm_iload_n dX7_digest_30 rfl rfl rfl ?_
    refine jm_iald dX7_digest_31 rfl rfl rfl (by decide) rfl (by first | assumption | omega) ?_
    refine jm_if_le (tgt := 137) dX7_digest_32 (by decide) rfl (fun c32 => ?_) (fun c32 => ?_)
    · refine jm_iinc (nI 1) dX7_digest_137 rfl rfl (by decide) rfl rfl ?_
      dsimp only [List.set]
      refine jm_goto (n := 6) dX7_digest_140 (by decide) ?_
      rw [nI_add]
      have e := ih v4
      simp only [rg_fd, md_pl, if_pos c32] at e
      exact e
    · obtain ⟨m, h8, em⟩ := hm i hi c32
      refine jm_ldc2 31 dX7_digest_35 rfl kc_X7_184 ?_
      refine jm_lload_n dX7_digest_38 rfl rfl rfl ?_
      refine jm_lmul dX7_digest_39 rfl ?_
      refine jm_aload_n dX7_digest_40 rfl rfl rfl ?_
      refine jm_getr dX7_digest_41 rfl fe_X7_19 rfl rfl rfl ?_
      refine jm_iload_n dX7_digest_44 rfl rfl rfl ?_
      refine jm_iald dX7_digest_45 rfl rfl rfl (by decide) rfl (by first | assumption | omega) ?_
      refine jm_i2l dX7_digest_46 rfl ?_
      refine jm_ladd dX7_digest_47 rfl ?_
      refine jm_lstore_n dX7_digest_48 rfl rfl rfl rfl ?_
      dsimp only [List.set]
      refine jm_ldc2 31 dX7_digest_49 rfl kc_X7_184 ?_
      refine jm_lload_n dX7_digest_52 rfl rfl rfl ?_
      refine jm_lmul dX7_digest_53 rfl ?_
      refine jm_aload_n dX7_digest_54 rfl rfl rfl ?_
      refine jm_getr dX7_digest_55 rfl fe_X7_22 rfl rfl rfl ?_
      refine jm_iload_n dX7_digest_58 rfl rfl rfl ?_
      refine jm_iald dX7_digest_59 rfl rfl rfl (by decide) rfl (by first | assumption | omega) ?_
      refine jm_i2l dX7_digest_60 rfl ?_
      refine jm_ladd dX7_digest_61 rfl ?_
      refine jm_lstore_n dX7_digest_62 rfl rfl rfl rfl ?_
      dsimp only [List.set]
      refine jm_iconst (nI 0) dX7_digest_63 rfl (by decide) ?_
      refine jm_istore dX7_digest_64 rfl rfl rfl ?_
      dsimp only [List.set]
      refine l_X7_dcoat hi em h8 ?_ 0 (by omega)
      refine jm_iconst (nI 0) dX7_digest_103 rfl (by decide) ?_
      refine jm_istore dX7_digest_104 rfl rfl rfl ?_
      dsimp only [List.set]
      refine l_X7_dlegs hi ?_ 0 (by omega)
      refine jm_iinc (nI 1) dX7_digest_137 rfl rfl (by decide) rfl rfl ?_
      dsimp only [List.set]
      refine jm_goto (n := 6) dX7_digest_140 (by decide) ?_
      rw [nI_add]
      have e := ih (some (.int (nI 4)))
      simp only [rg_fd, md_pl, if_neg c32, rg_plh, em, nI_clamp (show m < 2 ^ 31 by omega)] at e
      rw [em]
      exact e
set_option maxHeartbeats 1000000 in
theorem l_X7_dfin {Ln : Nat} {xs : Nat → Int32} {μ : jm_Mem} {Q : Option Value → jm_Mem → Prop} {f : Nat} {h : Int64} {nf : Nat} (hn : μ 24 12 = nI nf) (h8 : nf ≤ 8) (hf : f < nf) (hk : jm_J rg_I (rg_X Ln xs) 0 mX7_digest 259 [some (.ref 24), some (.long (rg_mx (fun t => μ 37 (8 * f + (f + 1 + t))) (nf - (f + 1)) h)), none, some (.int (nI f)), some (.int (nI (f + 1 + (nf - (f + 1)))))] [] μ Q) : ∀ i, i ≤ (nf - (f + 1)) → jm_J rg_I (rg_X Ln xs) 0 mX7_digest 224 [some (.ref 24), some (.long (rg_mx (fun t => μ 37 (8 * f + (f + 1 + t))) i h)), none, some (.int (nI f)), some (.int (nI (f + 1 + i)))] [] μ Q := by
  refine jm_for (nf - (f + 1)) ?_ ?_
  · skip
    refine jm_iload dX7_digest_224 rfl rfl ?_
    refine jm_aload_n dX7_digest_226 rfl rfl rfl ?_
    refine jm_geti dX7_digest_227 rfl fe_X7_143 rfl rfl rfl ?_
    refine jm_icmp_ge (tgt := 259) dX7_digest_230 (by decide) rfl (fun c230 => ?_) (fun c230 => absurd (by rw [hn]; exact (nI_leI (by omega) (by omega)).mpr (by omega)) c230)
    exact hk
  · intro i hi ih 
    refine jm_iload dX7_digest_224 rfl rfl ?_
    refine jm_aload_n dX7_digest_226 rfl rfl rfl ?_
    refine jm_geti dX7_digest_227 rfl fe_X7_143 rfl rfl rfl ?_
    refine jm_icmp_ge (tgt := 259) dX7_digest_230 (by decide) rfl (fun c230 => absurd ((nI_leI (a := nf) (b := f + 1 + i) (by omega) (by omega)).mp (hn ▸ c230)) (by omega)) (fun c230 => ?_)
    refine jm_ldc2 31 dX7_digest_233 rfl kc_X7_184 ?_
    refine jm_lload_n dX7_digest_236 rfl rfl rfl ?_
    refine jm_lmul dX7_digest_237 rfl ?_
    refine jm_aload_n dX7_digest_238 rfl rfl rfl ?_
    refine jm_getr dX7_digest_239 rfl fe_X7_47 rfl rfl rfl ?_
    refine jm_bipush (nI 8) dX7_digest_242 rfl (by decide) ?_
    refine jm_iload_n dX7_digest_244 rfl rfl rfl ?_
    refine jm_imul dX7_digest_245 rfl ?_
    refine jm_iload dX7_digest_246 rfl rfl ?_
    refine jm_iadd dX7_digest_248 rfl ?_
    refine jm_iald dX7_digest_249 rfl rfl rfl (by decide) (by rw [pk_mul, nI_add]) (by omega) ?_
    refine jm_i2l dX7_digest_250 rfl ?_
    refine jm_ladd dX7_digest_251 rfl ?_
    refine jm_lstore_n dX7_digest_252 rfl rfl rfl rfl ?_
    dsimp only [List.set]
    refine jm_iinc (nI 1) dX7_digest_253 rfl rfl (by decide) rfl rfl ?_
    dsimp only [List.set]
    refine jm_goto (n := 224) dX7_digest_256 (by decide) ?_
    rw [nI_add]; exact ih
set_option maxHeartbeats 1000000 in
theorem l_X7_dfair {Ln : Nat} {xs : Nat → Int32} {μ : jm_Mem} {Q : Option Value → jm_Mem → Prop} {h : Int64} {nf : Nat} (hn : μ 24 12 = nI nf) (h8 : nf ≤ 8) (hk : ∀ v4 : Option Value, jm_J rg_I (rg_X Ln xs) 0 mX7_digest 265 [some (.ref 24), some (.long (rg_fd (rg_fa (μ 34) (μ 35) (μ 36) (μ 37) nf) nf h)), none, some (.int (nI nf)), v4] [] μ Q) : ∀ i, i ≤ nf → ∀ (v4 : Option Value), jm_J rg_I (rg_X Ln xs) 0 mX7_digest 169 [some (.ref 24), some (.long (rg_fd (rg_fa (μ 34) (μ 35) (μ 36) (μ 37) nf) i h)), none, some (.int (nI i)), v4] [] μ Q := by
  refine jm_for nf ?_ ?_
  · intro v4
    refine jm_iload_n dX7_digest_169 rfl rfl rfl ?_
    refine jm_aload_n dX7_digest_170 rfl rfl rfl ?_
    refine jm_geti dX7_digest_171 rfl fe_X7_143 rfl rfl rfl ?_
    refine jm_icmp_ge (tgt := 265) dX7_digest_174 (by decide) rfl (fun c174 => ?_) (fun c174 => absurd (by rw [hn]; exact (nI_leI (by omega) (by omega)).mpr (by omega)) c174)
    exact hk v4
  · intro i hi ih v4
    refine jm_iload_n dX7_digest_169 rfl rfl rfl ?_
    refine jm_aload_n dX7_digest_170 rfl rfl rfl ?_
    refine jm_geti dX7_digest_171 rfl fe_X7_143 rfl rfl rfl ?_
    refine jm_icmp_ge (tgt := 265) dX7_digest_174 (by decide) rfl (fun c174 => absurd ((nI_leI (a := nf) (b := i) (by omega) (by omega)).mp (hn ▸ c174)) (by omega)) (fun c174 => ?_)
    refine jm_ldc2 31 dX7_digest_177 rfl kc_X7_184 ?_
    refine jm_lload_n dX7_digest_180 rfl rfl rfl ?_
    refine jm_lmul dX7_digest_181 rfl ?_
    refine jm_aload_n dX7_digest_182 rfl rfl rfl ?_
    refine jm_getr dX7_digest_183 rfl fe_X7_38 rfl rfl rfl ?_
    refine jm_iload_n dX7_digest_186 rfl rfl rfl ?_
    refine jm_iald dX7_digest_187 rfl rfl rfl (by decide) rfl (by first | assumption | omega) ?_
    refine jm_i2l dX7_digest_188 rfl ?_
    refine jm_ladd dX7_digest_189 rfl ?_
    refine jm_lstore_n dX7_digest_190 rfl rfl rfl rfl ?_
    dsimp only [List.set]
    refine jm_ldc2 31 dX7_digest_191 rfl kc_X7_184 ?_
    refine jm_lload_n dX7_digest_194 rfl rfl rfl ?_
    refine jm_lmul dX7_digest_195 rfl ?_
    refine jm_aload_n dX7_digest_196 rfl rfl rfl ?_
    refine jm_getr dX7_digest_197 rfl fe_X7_41 rfl rfl rfl ?_
    refine jm_iload_n dX7_digest_200 rfl rfl rfl ?_
    refine jm_iald dX7_digest_201 rfl rfl rfl (by decide) rfl (by first | assumption | omega) ?_
    refine jm_i2l dX7_digest_202 rfl ?_
    refine jm_ladd dX7_digest_203 rfl ?_
    refine jm_lstore_n dX7_digest_204 rfl rfl rfl rfl ?_
    dsimp only [List.set]
    refine jm_ldc2 31 dX7_digest_205 rfl kc_X7_184 ?_
    refine jm_lload_n dX7_digest_208 rfl rfl rfl ?_
    refine jm_lmul dX7_digest_209 rfl ?_
    refine jm_aload_n dX7_digest_210 rfl rfl rfl ?_
    refine jm_getr dX7_digest_211 rfl fe_X7_44 rfl rfl rfl ?_
    refine jm_iload_n dX7_digest_214 rfl rfl rfl ?_
    refine jm_iald dX7_digest_215 rfl rfl rfl (by decide) rfl (by first | assumption | omega) ?_
    refine jm_i2l dX7_digest_216 rfl ?_
    refine jm_ladd dX7_digest_217 rfl ?_
    refine jm_lstore_n dX7_digest_218 rfl rfl rfl rfl ?_
    dsimp only [List.set]
    refine jm_iload_n dX7_digest_219 rfl rfl rfl ?_
    refine jm_iconst (nI 1) dX7_digest_220 rfl (by decide) ?_
    refine jm_iadd dX7_digest_221 rfl ?_
    refine jm_istore dX7_digest_222 rfl rfl rfl ?_
    dsimp only [List.set]
    rw [nI_add]
    refine l_X7_dfin hn h8 hi ?_ 0 (by omega)
    refine jm_iinc (nI 1) dX7_digest_259 rfl rfl (by decide) rfl rfl ?_
    dsimp only [List.set]
    refine jm_goto (n := 169) dX7_digest_262 (by decide) ?_
    rw [nI_add]; exact ih _
set_option maxHeartbeats 1000000 in
theorem l_X7_dqueue {Ln : Nat} {xs : Nat → Int32} {μ : jm_Mem} {Q : Option Value → jm_Mem → Prop} {h : Int64} {nw : Nat} (hw : μ 24 24 = nI nw) (hl : nw ≤ 100) (hq : Q (some (.long (rg_mx (μ 40) nw h))) μ) : ∀ i, i ≤ nw → ∀ (v4 : Option Value), jm_J rg_I (rg_X Ln xs) 0 mX7_digest 315 [some (.ref 24), some (.long (rg_mx (μ 40) i h)), none, some (.int (nI i)), v4] [] μ Q := by
  refine jm_for nw ?_ ?_
  · intro v4
    refine jm_iload_n dX7_digest_315 rfl rfl rfl ?_
    refine jm_aload_n dX7_digest_316 rfl rfl rfl ?_
    refine jm_geti dX7_digest_317 rfl fe_X7_177 rfl rfl rfl ?_
    refine jm_icmp_ge (tgt := 343) dX7_digest_320 (by decide) rfl (fun c320 => ?_) (fun c320 => absurd (by rw [hw]; exact (nI_leI (by omega) (by omega)).mpr (by omega)) c320)
    refine jm_lload_n dX7_digest_343 rfl rfl rfl ?_
    refine jm_lret dX7_digest_344 rfl ?_
    exact hq
  · intro i hi ih v4
    refine jm_iload_n dX7_digest_315 rfl rfl rfl ?_
    refine jm_aload_n dX7_digest_316 rfl rfl rfl ?_
    refine jm_geti dX7_digest_317 rfl fe_X7_177 rfl rfl rfl ?_
    refine jm_icmp_ge (tgt := 343) dX7_digest_320 (by decide) rfl (fun c320 => absurd ((nI_leI (a := nw) (b := i) (by omega) (by omega)).mp (hw ▸ c320)) (by omega)) (fun c320 => ?_)
    refine jm_ldc2 31 dX7_digest_323 rfl kc_X7_184 ?_
    refine jm_lload_n dX7_digest_326 rfl rfl rfl ?_
    refine jm_lmul dX7_digest_327 rfl ?_
    refine jm_aload_n dX7_digest_328 rfl rfl rfl ?_
    refine jm_getr dX7_digest_329 rfl fe_X7_56 rfl rfl rfl ?_
    refine jm_iload_n dX7_digest_332 rfl rfl rfl ?_
    refine jm_iald dX7_digest_333 rfl rfl rfl (by decide) rfl (by first | assumption | omega) ?_
    refine jm_i2l dX7_digest_334 rfl ?_
    refine jm_ladd dX7_digest_335 rfl ?_
    refine jm_lstore_n dX7_digest_336 rfl rfl rfl rfl ?_
    dsimp only [List.set]
    refine jm_iinc (nI 1) dX7_digest_337 rfl rfl (by decide) rfl rfl ?_
    dsimp only [List.set]
    refine jm_goto (n := 315) dX7_digest_340 (by decide) ?_
    rw [nI_add]; exact ih v4
set_option maxHeartbeats 1000000 in
theorem s_X7_digest {Ln : Nat} {xs : Nat → Int32} {μ : jm_Mem} {Q : Option Value → jm_Mem → Prop} (hm : ∀ j, j < 12 → ¬ μ 27 j ≤ 0 → ∃ m, m ≤ 8 ∧ μ 29 j = nI m) {nf : Nat} (hn : μ 24 12 = nI nf) (h8 : nf ≤ 8) {nw : Nat} (hw : μ 24 24 = nI nw) (hl : nw ≤ 100) (hq : Q (some (.long (rg_dig (md_pl μ) (μ 24 7) (μ 24 8) (μ 34) (μ 35) (μ 36) (μ 37) nf (μ 24 21) (μ 24 22) (μ 24 23) (μ 24 9) (μ 40) nw))) μ) : gJ Ln xs 0 mX7_digest 0 (jm_en 5 [.ref 24]) [] μ Q := by
  show jm_J rg_I (rg_X Ln xs) 0 mX7_digest 0 [some (.ref 24), none, none, none, none] [] μ Q
  refine jm_ldc2 193 dX7_digest_0 rfl kc_X7_182 ?_
  refine jm_lstore_n dX7_digest_3 rfl rfl rfl rfl ?_
  dsimp only [List.set]
  refine jm_iconst (nI 0) dX7_digest_4 rfl (by decide) ?_
  refine jm_istore_n dX7_digest_5 rfl rfl rfl rfl ?_
  dsimp only [List.set]
  refine l_X7_dplace hm (fun v4 => ?_) 0 (by omega) none
  refine jm_ldc2 31 dX7_digest_143 rfl kc_X7_184 ?_
  refine jm_lload_n dX7_digest_146 rfl rfl rfl ?_
  refine jm_lmul dX7_digest_147 rfl ?_
  refine jm_aload_n dX7_digest_148 rfl rfl rfl ?_
  refine jm_geti dX7_digest_149 rfl fe_X7_59 rfl rfl rfl ?_
  refine jm_i2l dX7_digest_152 rfl ?_
  refine jm_ladd dX7_digest_153 rfl ?_
  refine jm_lstore_n dX7_digest_154 rfl rfl rfl rfl ?_
  dsimp only [List.set]
  refine jm_ldc2 31 dX7_digest_155 rfl kc_X7_184 ?_
  refine jm_lload_n dX7_digest_158 rfl rfl rfl ?_
  refine jm_lmul dX7_digest_159 rfl ?_
  refine jm_aload_n dX7_digest_160 rfl rfl rfl ?_
  refine jm_geti dX7_digest_161 rfl fe_X7_63 rfl rfl rfl ?_
  refine jm_i2l dX7_digest_164 rfl ?_
  refine jm_ladd dX7_digest_165 rfl ?_
  refine jm_lstore_n dX7_digest_166 rfl rfl rfl rfl ?_
  dsimp only [List.set]
  refine jm_iconst (nI 0) dX7_digest_167 rfl (by decide) ?_
  refine jm_istore_n dX7_digest_168 rfl rfl rfl rfl ?_
  dsimp only [List.set]
  refine l_X7_dfair hn h8 (fun v5 => ?_) 0 (by omega) _
  refine jm_ldc2 31 dX7_digest_265 rfl kc_X7_184 ?_
  refine jm_lload_n dX7_digest_268 rfl rfl rfl ?_
  refine jm_lmul dX7_digest_269 rfl ?_
  refine jm_aload_n dX7_digest_270 rfl rfl rfl ?_
  refine jm_geti dX7_digest_271 rfl fe_X7_66 rfl rfl rfl ?_
  refine jm_i2l dX7_digest_274 rfl ?_
  refine jm_ladd dX7_digest_275 rfl ?_
  refine jm_lstore_n dX7_digest_276 rfl rfl rfl rfl ?_
  dsimp only [List.set]
  refine jm_ldc2 31 dX7_digest_277 rfl kc_X7_184 ?_
  refine jm_lload_n dX7_digest_280 rfl rfl rfl ?_
  refine jm_lmul dX7_digest_281 rfl ?_
  refine jm_aload_n dX7_digest_282 rfl rfl rfl ?_
  refine jm_geti dX7_digest_283 rfl fe_X7_166 rfl rfl rfl ?_
  refine jm_i2l dX7_digest_286 rfl ?_
  refine jm_ladd dX7_digest_287 rfl ?_
  refine jm_lstore_n dX7_digest_288 rfl rfl rfl rfl ?_
  dsimp only [List.set]
  refine jm_ldc2 31 dX7_digest_289 rfl kc_X7_184 ?_
  refine jm_lload_n dX7_digest_292 rfl rfl rfl ?_
  refine jm_lmul dX7_digest_293 rfl ?_
  refine jm_aload_n dX7_digest_294 rfl rfl rfl ?_
  refine jm_geti dX7_digest_295 rfl fe_X7_172 rfl rfl rfl ?_
  refine jm_i2l dX7_digest_298 rfl ?_
  refine jm_ladd dX7_digest_299 rfl ?_
  refine jm_lstore_n dX7_digest_300 rfl rfl rfl rfl ?_
  dsimp only [List.set]
  refine jm_ldc2 31 dX7_digest_301 rfl kc_X7_184 ?_
  refine jm_lload_n dX7_digest_304 rfl rfl rfl ?_
  refine jm_lmul dX7_digest_305 rfl ?_
  refine jm_aload_n dX7_digest_306 rfl rfl rfl ?_
  refine jm_geti dX7_digest_307 rfl fe_X7_129 rfl rfl rfl ?_
  refine jm_i2l dX7_digest_310 rfl ?_
  refine jm_ladd dX7_digest_311 rfl ?_
  refine jm_lstore_n dX7_digest_312 rfl rfl rfl rfl ?_
  dsimp only [List.set]
  refine jm_iconst (nI 0) dX7_digest_313 rfl (by decide) ?_
  refine jm_istore_n dX7_digest_314 rfl rfl rfl rfl ?_
  dsimp only [List.set]
  exact l_X7_dqueue hw hl hq 0 (by omega) _
