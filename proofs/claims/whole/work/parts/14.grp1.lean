abbrev gc_St : Type := Int32 × (Nat → Int32) × (Nat → Int32)
def gc_tk (f : Nat → Int32) (p : Nat) : Nat → Bool
  | 0 => false
  | n + 1 => gc_tk f p n || decide (f n = nI p)
def gc_lp (body : Nat → gc_St → gc_St) : Nat → gc_St → gc_St
  | 0, st => st
  | n + 1, st => body n (gc_lp body n st)
def gc_keep (z : Int32) (st : gc_St) : gc_St := if st.1 = -1 ∨ z < st.1 then (z, va_cpy st.2.2 st.2.1 0 0 3, st.2.2) else st
def gc_try (fr : Nat → Bool) (ws : Nat → Int32) : Nat → Nat → Int32 → Int32 → gc_St → gc_St
  | 0, _, x, y, st => gc_keep (rg_sh x y) st
  | k + 1, sd, x, y, st => gc_lp (fun p st => if fr p = true ∧ gc_tk st.2.2 p sd = false then gc_try fr ws k (sd + 1) (x + ws sd * rg_ac p) (y + ws sd * rg_al p) (st.1, st.2.1, upd st.2.2 sd (nI p)) else st) 12 st
def gc_fr (μ : jm_Mem) (p : Nat) : Bool := decide (¬ μ 2 p ≤ 0 ∧ μ 3 p ≤ 0)
abbrev gc_M (μ u : jm_Mem) (st : gc_St) : Prop := (∀ b, b ≠ 4 → b ≠ 6 → b ≠ 7 → u b = μ b) ∧ (∀ k, k ≠ 4 → u 4 k = μ 4 k) ∧ u 4 4 = st.1 ∧ u 7 = st.2.1 ∧ u 6 = st.2.2
def gc_seat (μ : jm_Mem) (c : Nat → Nat) : Nat → jm_Mem
  | 0 => μ
  | n + 1 => rg_add (jm_set (gc_seat μ c n) 3 (c n) (μ 5 n)) (c n) (μ 5 n)
theorem gc_tk_up {f : Nat → Int32} {p i : Nat} : ∀ {n : Nat}, i < n → gc_tk f p (i + 1) = true → gc_tk f p n = true
  | 0, h, _ => by omega
  | n + 1, h, e => by
    by_cases c : i = n
    · subst c; exact e
    · simp only [gc_tk, gc_tk_up (n := n) (by omega) e, Bool.true_or]
abbrev rg_ng (n a b c : Int32) : Prop := rg_nw n (nI 1) (nI 3) ∨ rg_nw a 1 (nI 150) ∨ (¬ n < nI 2 ∧ rg_nw b 1 (nI 150)) ∨ (¬ n < nI 3 ∧ rg_nw c 1 (nI 150))
theorem rg_k13 {n : Int32} (h1 : ¬ n < nI 1) (h2 : ¬ nI 3 < n) : ∃ k, 1 ≤ k ∧ k ≤ 3 ∧ n = nI k := by
  have h0 : ¬ n < nI 0 := fun h => h1 (by
    rw [Int32.lt_iff_toInt_lt] at h ⊢
    have e0 : (nI 0).toInt = 0 := by decide
    have e1 : (nI 1).toInt = 1 := by decide
    omega)
  obtain ⟨k, hk, rfl⟩ := rg_in (n := 3) (by decide) h0 h2
  refine ⟨k, Nat.le_of_not_lt (fun h => h1 ((nI_ltI (by omega) (by omega)).mpr h)), by omega, rfl⟩
theorem gc_lp_congr {f g : Nat → gc_St → gc_St} (h : ∀ p st, f p st = g p st) : ∀ n st, gc_lp f n st = gc_lp g n st
  | 0, _ => rfl
  | n + 1, st => by simp only [gc_lp, gc_lp_congr h n st, h]
theorem gc_ext (fr : Nat → Bool) {ws ws2 : Nat → Int32} : ∀ (k sd : Nat) (x y : Int32) (st : gc_St), sd + k ≤ 3 → (∀ i, i < 3 → ws i = ws2 i) → gc_try fr ws k sd x y st = gc_try fr ws2 k sd x y st
  | 0, _, _, _, _, _, _ => rfl
  | k + 1, sd, x, y, st, hk, h => by
    simp only [gc_try]
    refine gc_lp_congr (fun p s => ?_) 12 st
    rw [h sd (by omega), gc_ext fr k (sd + 1) _ _ _ (by omega) h]
theorem gc_fr_c {μ u : jm_Mem} (h2 : u 2 = μ 2) (h3 : u 3 = μ 3) : gc_fr u = gc_fr μ := by
  funext p
  simp only [gc_fr, h2, h3]
theorem gc_fr_0 {μ : jm_Mem} {v : Int32} : gc_fr (jm_set μ 0 6 v) = gc_fr μ := by
  funext p
  simp only [gc_fr, rd_na (show (2 : Nat) ≠ 0 by decide), rd_na (show (3 : Nat) ≠ 0 by decide)]
theorem gc_w3 {a b c : Int32} {μ : jm_Mem} (i : Nat) (h : i < 3) : jm_set (jm_set (jm_set μ 5 0 a) 5 1 b) 5 2 c 5 i = if i = 0 then a else if i = 1 then b else c := by
  obtain rfl | rfl | rfl : i = 0 ∨ i = 1 ∨ i = 2 := by omega
  · rw [rd_ni (by decide), rd_ni (by decide), rd_eq]; rfl
  · rw [rd_ni (by decide), rd_eq]; rfl
  · rw [rd_eq]; rfl
theorem gc_seat_na {μ : jm_Mem} {c : Nat → Nat} {b : Nat} (h1 : b ≠ 1) (h3 : b ≠ 3) : ∀ n, gc_seat μ c n b = μ b
  | 0 => rfl
  | n + 1 => by simp only [gc_seat]; rw [rg_add_na h1, jm_set_ne b h3, gc_seat_na h1 h3 n]
set_option maxHeartbeats 1000000 in
theorem l_X5_isTaken {Ln : Nat} {xs : Nat → Int32} {μ : jm_Mem} {Q : Option Value → jm_Mem → Prop} {p sd : Nat} (hsd : sd ≤ 3) (h1 : gc_tk (μ 6) p sd = true → Q (some (.int 1)) μ) (h0 : gc_tk (μ 6) p sd = false → Q (some (.int 0)) μ) : ∀ i, i ≤ sd → ∀ (hb : gc_tk (μ 6) p i = false), jm_J rg_I (rg_X Ln xs) 0 mX5_isTaken 2 [some (.ref 4), some (.int (nI p)), some (.int (nI sd)), some (.int (nI i))] [] μ Q := by
  refine jm_for sd ?_ ?_
  · intro hb
    refine jm_iload_n dX5_isTaken_2 rfl rfl rfl ?_
    refine jm_iload_n dX5_isTaken_3 rfl rfl rfl ?_
    refine jm_icmp_ge (tgt := 25) dX5_isTaken_4 (by decide) rfl (fun c4 => ?_) (fun c4 => absurd ((nI_leI (by omega) (by omega)).mpr (Nat.le_refl _)) c4)
    refine jm_iconst (nI 0) dX5_isTaken_25 rfl (by decide) ?_
    refine jm_iret dX5_isTaken_26 rfl rfl ?_
    exact h0 hb
  · intro i hi ih hb
    refine jm_iload_n dX5_isTaken_2 rfl rfl rfl ?_
    refine jm_iload_n dX5_isTaken_3 rfl rfl rfl ?_
    refine jm_icmp_ge (tgt := 25) dX5_isTaken_4 (by decide) rfl (fun c4 => absurd ((nI_leI (by omega) (by omega)).mp c4) (by omega)) (fun c4 => ?_)
    refine jm_aload_n dX5_isTaken_7 rfl rfl rfl ?_
    refine jm_getr dX5_isTaken_8 rfl fe_X5_15 rfl rfl rfl ?_
    refine jm_iload_n dX5_isTaken_11 rfl rfl rfl ?_
    refine jm_iald dX5_isTaken_12 rfl rfl rfl (by decide) rfl (by first | assumption | omega) ?_
    refine jm_iload_n dX5_isTaken_13 rfl rfl rfl ?_
    refine jm_icmp_ne (tgt := 19) dX5_isTaken_14 (by decide) rfl (fun c14 => ?_) (fun c14 => ?_)
    · refine jm_iinc (nI 1) dX5_isTaken_19 rfl rfl (by decide) rfl rfl ?_
      dsimp only [List.set]
      refine jm_goto (n := 2) dX5_isTaken_22 (by decide) ?_
      rw [nI_add]
      exact ih (by simp [gc_tk, hb, c14])
    · refine jm_iconst (nI 1) dX5_isTaken_17 rfl (by decide) ?_
      refine jm_iret dX5_isTaken_18 rfl rfl ?_
      exact h1 (gc_tk_up (i := i) (by omega) (by simp [gc_tk, c14]))
set_option maxHeartbeats 400000 in
theorem s_X5_isTaken {Ln : Nat} {xs : Nat → Int32} {μ : jm_Mem} {Q : Option Value → jm_Mem → Prop} {p sd : Nat} (hsd : sd ≤ 3) (h1 : gc_tk (μ 6) p sd = true → Q (some (.int 1)) μ) (h0 : gc_tk (μ 6) p sd = false → Q (some (.int 0)) μ) : gJ Ln xs 0 mX5_isTaken 0 (jm_en 4 [.ref 4, .int (nI p), .int (nI sd)]) [] μ Q := by
  show jm_J rg_I (rg_X Ln xs) 0 mX5_isTaken 0 [some (.ref 4), some (.int (nI p)), some (.int (nI sd)), none] [] μ Q
  refine jm_iconst (nI 0) dX5_isTaken_0 rfl (by decide) ?_
  refine jm_istore_n dX5_isTaken_1 rfl rfl rfl rfl ?_
  dsimp only [List.set]
  exact l_X5_isTaken hsd h1 h0 0 (by omega) rfl
set_option maxHeartbeats 400000 in
theorem s_X5_keepIfLess {Ln : Nat} {xs : Nat → Int32} {μ : jm_Mem} {Q : Option Value → jm_Mem → Prop} {z : Int32} (h1 : (μ 4 4 = -1 ∨ z < μ 4 4) → Q none (jm_arr (jm_set μ 4 4 z) 7 (va_cpy (μ 6) (μ 7) 0 0 3))) (h0 : ¬ (μ 4 4 = -1 ∨ z < μ 4 4) → Q none μ) : gJ Ln xs 0 mX5_keepIfLess 0 (jm_en 2 [.ref 4, .int z]) [] μ Q := by
  show jm_J rg_I (rg_X Ln xs) 0 mX5_keepIfLess 0 [some (.ref 4), some (.int z)] [] μ Q
  refine jm_aload_n dX5_keepIfLess_0 rfl rfl rfl ?_
  refine jm_geti dX5_keepIfLess_1 rfl fe_X5_25 rfl rfl rfl ?_
  refine jm_iconst (-1) dX5_keepIfLess_4 rfl (by decide) ?_
  refine jm_icmp_eq (tgt := 16) dX5_keepIfLess_5 (by decide) rfl (fun c5 => ?_) (fun c5 => ?_)
  · refine jm_aload_n dX5_keepIfLess_16 rfl rfl rfl ?_
    refine jm_iload_n dX5_keepIfLess_17 rfl rfl rfl ?_
    refine jm_puti dX5_keepIfLess_18 rfl pe_X5_25 rfl rfl rfl ?_
    refine jm_aload_n dX5_keepIfLess_21 rfl rfl rfl ?_
    refine jm_getr dX5_keepIfLess_22 rfl fe_X5_15 rfl rfl rfl ?_
    refine jm_iconst (nI 0) dX5_keepIfLess_25 rfl (by decide) ?_
    refine jm_aload_n dX5_keepIfLess_26 rfl rfl rfl ?_
    refine jm_getr dX5_keepIfLess_27 rfl fe_X5_18 rfl rfl rfl ?_
    refine jm_iconst (nI 0) dX5_keepIfLess_30 rfl (by decide) ?_
    refine jm_iconst (nI 3) dX5_keepIfLess_31 rfl (by decide) ?_
    refine jm_copy dX5_keepIfLess_32 rfl nl_X5_62 nc_nat nc_st nc_in (Nat.le_of_ble_eq_true rfl) rfl rfl rfl rfl (by decide) (by decide) (m0 := 3) rfl rfl rfl (by omega) (by omega) ?_
    refine jm_vret dX5_keepIfLess_35 rfl ?_
    first | exact h1 (Or.inl c5) | exact h1 (Or.inr (Int32.not_le.mp c13)) | exact h0 (fun h => h.elim c5 (fun h => absurd c13 (Int32.not_le.mpr h))) | fail "leaf"
  · refine jm_iload_n dX5_keepIfLess_8 rfl rfl rfl ?_
    refine jm_aload_n dX5_keepIfLess_9 rfl rfl rfl ?_
    refine jm_geti dX5_keepIfLess_10 rfl fe_X5_25 rfl rfl rfl ?_
    refine jm_icmp_ge (tgt := 35) dX5_keepIfLess_13 (by decide) rfl (fun c13 => ?_) (fun c13 => ?_)
    · refine jm_vret dX5_keepIfLess_35 rfl ?_
      first | exact h1 (Or.inl c5) | exact h1 (Or.inr (Int32.not_le.mp c13)) | exact h0 (fun h => h.elim c5 (fun h => absurd c13 (Int32.not_le.mpr h))) | fail "leaf"
    · refine jm_aload_n dX5_keepIfLess_16 rfl rfl rfl ?_
      refine jm_iload_n dX5_keepIfLess_17 rfl rfl rfl ?_
      refine jm_puti dX5_keepIfLess_18 rfl pe_X5_25 rfl rfl rfl ?_
      refine jm_aload_n dX5_keepIfLess_21 rfl rfl rfl ?_
      refine jm_getr dX5_keepIfLess_22 rfl fe_X5_15 rfl rfl rfl ?_
      refine jm_iconst (nI 0) dX5_keepIfLess_25 rfl (by decide) ?_
      refine jm_aload_n dX5_keepIfLess_26 rfl rfl rfl ?_
      refine jm_getr dX5_keepIfLess_27 rfl fe_X5_18 rfl rfl rfl ?_
      refine jm_iconst (nI 0) dX5_keepIfLess_30 rfl (by decide) ?_
      refine jm_iconst (nI 3) dX5_keepIfLess_31 rfl (by decide) ?_
      refine jm_copy dX5_keepIfLess_32 rfl nl_X5_62 nc_nat nc_st nc_in (Nat.le_of_ble_eq_true rfl) rfl rfl rfl rfl (by decide) (by decide) (m0 := 3) rfl rfl rfl (by omega) (by omega) ?_
      refine jm_vret dX5_keepIfLess_35 rfl ?_
      first | exact h1 (Or.inl c5) | exact h1 (Or.inr (Int32.not_le.mp c13)) | exact h0 (fun h => h.elim c5 (fun h => absurd c13 (Int32.not_le.mpr h))) | fail "leaf"
set_option maxHeartbeats 2000000 in
theorem s_X5_tryRiders {Ln : Nat} {xs : Nat → Int32} {μ : jm_Mem} {Q : Option Value → jm_Mem → Prop} {n : Nat} (hn3 : n ≤ 3) (hsz : μ 4 3 = nI n) : ∀ (k sd : Nat) (x y : Int32) (st : gc_St) (u : jm_Mem), sd + k = n → gc_M μ u st → (∀ u', gc_M μ u' (gc_try (gc_fr μ) (μ 5) k sd x y st) → Q none u') → gJ Ln xs (3 + k) mX5_tryRiders 0 (jm_en 7 [.ref 4, .ref 1, .int (nI sd), .int x, .int y]) [] u Q := by
  intro k
  induction k generalizing Q with
  | zero =>
    intro sd x y st u hk hM h
    show jm_J rg_I (rg_X Ln xs) (3 + 0) mX5_tryRiders 0 [some (.ref 4), some (.ref 1), some (.int (nI sd)), some (.int x), some (.int y), none, none] [] u Q
    have hsz' : u 4 3 = nI n := by rw [hM.2.1 3 (by decide)]; exact hsz
    refine jm_iload_n dX5_tryRiders_0 rfl rfl rfl ?_
    refine jm_aload_n dX5_tryRiders_1 rfl rfl rfl ?_
    refine jm_geti dX5_tryRiders_2 rfl fe_X5_21 rfl rfl rfl ?_
    refine jm_icmp_ge (tgt := 13) dX5_tryRiders_5 (by decide) rfl (fun c5 => ?_) (fun c5 => absurd (by rw [hsz']; exact (nI_leI (by omega) (by omega)).mpr (by omega)) c5)
    refine jm_aload_n dX5_tryRiders_13 rfl rfl rfl ?_
    refine jm_iload_n dX5_tryRiders_14 rfl rfl rfl ?_
    refine jm_iload dX5_tryRiders_15 rfl rfl ?_
    refine jm_cS2 dX5_tryRiders_17 rfl cb_X5_40 cs_X6_shakeOf (Nat.le_of_ble_eq_true rfl) (Nat.le_of_ble_eq_true rfl) (by decide) (s_X6_shakeOf ?_)
    refine jm_cV1 dX5_tryRiders_20 rfl cb_X5_44 ci_X5_keepIfLess cv_X5_keepIfLess rfl rfl rfl (Nat.le_of_ble_eq_true rfl) (Nat.le_of_ble_eq_true rfl) (by decide) (s_X5_keepIfLess (fun ck => ?_) (fun ck => ?_))
    · rw [hM.2.2.1] at ck
      refine jm_vret dX5_tryRiders_23 rfl ?_
      first | (refine h _ ?_; have e : gc_try (gc_fr μ) (μ 5) 0 sd x y st = (rg_sh x y, va_cpy st.2.2 st.2.1 0 0 3, st.2.2) := if_pos ck; rw [e]; exact ⟨fun b h4 h6 h7 => by rw [jm_arr_ne b h7, jm_set_ne b h4]; exact hM.1 b h4 h6 h7, fun q hq => by rw [jm_arr_ne 4 (by decide), rd_ni hq]; exact hM.2.1 q hq, by rw [jm_arr_ne 4 (by decide), rd_eq], by rw [jm_arr_eq, hM.2.2.2.1, hM.2.2.2.2], by rw [jm_arr_ne 6 (by decide), jm_set_ne 6 (by decide)]; exact hM.2.2.2.2⟩) | (refine h _ ?_; have e : gc_try (gc_fr μ) (μ 5) 0 sd x y st = st := if_neg ck; rw [e]; exact hM) | fail "leaf"
    · rw [hM.2.2.1] at ck
      refine jm_vret dX5_tryRiders_23 rfl ?_
      first | (refine h _ ?_; have e : gc_try (gc_fr μ) (μ 5) 0 sd x y st = (rg_sh x y, va_cpy st.2.2 st.2.1 0 0 3, st.2.2) := if_pos ck; rw [e]; exact ⟨fun b h4 h6 h7 => by rw [jm_arr_ne b h7, jm_set_ne b h4]; exact hM.1 b h4 h6 h7, fun q hq => by rw [jm_arr_ne 4 (by decide), rd_ni hq]; exact hM.2.1 q hq, by rw [jm_arr_ne 4 (by decide), rd_eq], by rw [jm_arr_eq, hM.2.2.2.1, hM.2.2.2.2], by rw [jm_arr_ne 6 (by decide), jm_set_ne 6 (by decide)]; exact hM.2.2.2.2⟩) | (refine h _ ?_; have e : gc_try (gc_fr μ) (μ 5) 0 sd x y st = st := if_neg ck; rw [e]; exact hM) | fail "leaf"
  | succ k ih =>
    intro sd x y st u hk hM h
    show jm_J rg_I (rg_X Ln xs) (3 + (k + 1)) mX5_tryRiders 0 [some (.ref 4), some (.ref 1), some (.int (nI sd)), some (.int x), some (.int y), none, none] [] u Q
    have hsz' : u 4 3 = nI n := by rw [hM.2.1 3 (by decide)]; exact hsz
    have hsd : sd < 3 := by omega
    have loop : ∀ i, i ≤ 12 → ∀ u, gc_M μ u (gc_lp (fun p (st : gc_St) => if gc_fr μ p = true ∧ gc_tk st.2.2 p sd = false then gc_try (gc_fr μ) (μ 5) k (sd + 1) (x + μ 5 sd * rg_ac p) (y + μ 5 sd * rg_al p) (st.1, st.2.1, upd st.2.2 sd (nI p)) else st) i st) → jm_J rg_I (rg_X Ln xs) (3 + (k + 1)) mX5_tryRiders 35 [some (.ref 4), some (.ref 1), some (.int (nI sd)), some (.int x), some (.int y), some (.int (μ 5 sd)), some (.int (nI i))] [] u Q := by
      refine jm_for 12 ?_ ?_
      · intro u hM
        refine jm_iload dX5_tryRiders_35 rfl rfl ?_
        refine jm_bipush (nI 12) dX5_tryRiders_37 rfl (by decide) ?_
        refine jm_icmp_ge (tgt := 106) dX5_tryRiders_39 (by decide) rfl (fun c39 => ?_) (fun c39 => absurd ((nI_leI (by omega) (by omega)).mpr (Nat.le_refl _)) c39)
        refine jm_vret dX5_tryRiders_106 rfl ?_
        exact h u hM
      · intro i hi ih2 u hM
        have h2 : u 2 = μ 2 := hM.1 2 (by decide) (by decide) (by decide)
        have h3 : u 3 = μ 3 := hM.1 3 (by decide) (by decide) (by decide)
        refine jm_iload dX5_tryRiders_35 rfl rfl ?_
        refine jm_bipush (nI 12) dX5_tryRiders_37 rfl (by decide) ?_
        refine jm_icmp_ge (tgt := 106) dX5_tryRiders_39 (by decide) rfl (fun c39 => absurd ((nI_leI (by omega) (by omega)).mp c39) (by omega)) (fun c39 => ?_)
        refine jm_aload_n dX5_tryRiders_42 rfl rfl rfl ?_
        refine jm_iload dX5_tryRiders_43 rfl rfl ?_
        refine jm_cV1 dX5_tryRiders_45 rfl cb_X5_48 ci_X4_isFree cv_X4_isFree rfl rfl rfl (Nat.le_of_ble_eq_true rfl) (Nat.le_of_ble_eq_true rfl) (by omega) (s_X4_isFree hi (fun ch cr => ?_) (fun cf => ?_))
        · rw [h2] at ch
          rw [h3] at cr
          refine jm_if_eq (tgt := 100) dX5_tryRiders_48 (by decide) rfl (fun c48 => absurd c48 (by decide)) (fun c48 => ?_)
          refine jm_aload_n dX5_tryRiders_51 rfl rfl rfl ?_
          refine jm_iload dX5_tryRiders_52 rfl rfl ?_
          refine jm_iload_n dX5_tryRiders_54 rfl rfl rfl ?_
          refine jm_cV2 dX5_tryRiders_55 rfl cb_X5_52 ci_X5_isTaken cv_X5_isTaken rfl rfl rfl (Nat.le_of_ble_eq_true rfl) (Nat.le_of_ble_eq_true rfl) (by omega) (s_X5_isTaken (by omega) (fun ct => ?_) (fun ct => ?_))
          · rw [hM.2.2.2.2] at ct
            refine jm_if_ne (tgt := 100) dX5_tryRiders_58 (by decide) rfl (fun c58 => ?_) (fun c58 => absurd c58 (by decide))
            refine jm_iinc (nI 1) dX5_tryRiders_100 rfl rfl (by decide) rfl rfl ?_
            dsimp only [List.set]
            refine jm_goto (n := 35) dX5_tryRiders_103 (by decide) ?_
            rw [nI_add]
            first | exact ih2 u (by simp only [gc_lp]; rw [if_neg (fun q => by have q1 := of_decide_eq_true q.1; exact cf.elim (fun c => q1.1 c) (fun c => c q1.2))]; exact hM) | exact ih2 u (by simp only [gc_lp]; rw [if_neg (fun q => by have q2 := q.2; rw [ct] at q2; exact absurd q2 (by decide))]; exact hM) | exact ih2 u2 (by simp only [gc_lp]; rw [if_pos ⟨decide_eq_true ⟨ch, cr⟩, ct⟩]; exact hM2) | fail "stop"
          · rw [hM.2.2.2.2] at ct
            refine jm_if_ne (tgt := 100) dX5_tryRiders_58 (by decide) rfl (fun c58 => absurd c58 (by decide)) (fun c58 => ?_)
            refine jm_aload_n dX5_tryRiders_61 rfl rfl rfl ?_
            refine jm_getr dX5_tryRiders_62 rfl fe_X5_15 rfl rfl rfl ?_
            refine jm_iload_n dX5_tryRiders_65 rfl rfl rfl ?_
            refine jm_iload dX5_tryRiders_66 rfl rfl ?_
            refine jm_iast dX5_tryRiders_68 rfl rfl rfl (by decide) rfl (by first | assumption | omega) ?_
            refine jm_aload_n dX5_tryRiders_69 rfl rfl rfl ?_
            refine jm_aload_n dX5_tryRiders_70 rfl rfl rfl ?_
            refine jm_iload_n dX5_tryRiders_71 rfl rfl rfl ?_
            refine jm_iconst (nI 1) dX5_tryRiders_72 rfl (by decide) ?_
            refine jm_iadd dX5_tryRiders_73 rfl ?_
            refine jm_iload_n dX5_tryRiders_74 rfl rfl rfl ?_
            refine jm_iload dX5_tryRiders_75 rfl rfl ?_
            refine jm_gets dX5_tryRiders_77 rfl (rg_x1 Ln xs) xe_X5_56 ?_
            refine jm_iload dX5_tryRiders_80 rfl rfl ?_
            refine jm_xld dX5_tryRiders_82 rfl (rg_x1 Ln xs) (by decide) rfl (by first | assumption | omega) ?_
            refine jm_imul dX5_tryRiders_83 rfl ?_
            refine jm_iadd dX5_tryRiders_84 rfl ?_
            refine jm_iload dX5_tryRiders_85 rfl rfl ?_
            refine jm_iload dX5_tryRiders_87 rfl rfl ?_
            refine jm_gets dX5_tryRiders_89 rfl (rg_x2 Ln xs) xe_X5_59 ?_
            refine jm_iload dX5_tryRiders_92 rfl rfl ?_
            refine jm_xld dX5_tryRiders_94 rfl (rg_x2 Ln xs) (by decide) rfl (by first | assumption | omega) ?_
            refine jm_imul dX5_tryRiders_95 rfl ?_
            refine jm_iadd dX5_tryRiders_96 rfl ?_
            rw [nI_add]
            refine jm_cS5 dX5_tryRiders_97 rfl cb_X5_36 cs_X5_tryRiders (Nat.le_of_ble_eq_true rfl) (Nat.le_of_ble_eq_true rfl) (by omega) (ih (sd + 1) (x + μ 5 sd * rg_ac i) (y + μ 5 sd * rg_al i) ((gc_lp (fun p (st : gc_St) => if gc_fr μ p = true ∧ gc_tk st.2.2 p sd = false then gc_try (gc_fr μ) (μ 5) k (sd + 1) (x + μ 5 sd * rg_ac p) (y + μ 5 sd * rg_al p) (st.1, st.2.1, upd st.2.2 sd (nI p)) else st) i st).1, (gc_lp (fun p (st : gc_St) => if gc_fr μ p = true ∧ gc_tk st.2.2 p sd = false then gc_try (gc_fr μ) (μ 5) k (sd + 1) (x + μ 5 sd * rg_ac p) (y + μ 5 sd * rg_al p) (st.1, st.2.1, upd st.2.2 sd (nI p)) else st) i st).2.1, upd (gc_lp (fun p (st : gc_St) => if gc_fr μ p = true ∧ gc_tk st.2.2 p sd = false then gc_try (gc_fr μ) (μ 5) k (sd + 1) (x + μ 5 sd * rg_ac p) (y + μ 5 sd * rg_al p) (st.1, st.2.1, upd st.2.2 sd (nI p)) else st) i st).2.2 sd (nI i)) (jm_set u 6 sd (nI i)) (by omega) ⟨fun b q4 q6 q7 => by rw [jm_set_ne b q6]; exact hM.1 b q4 q6 q7, fun q hq => by rw [rd_na (by decide)]; exact hM.2.1 q hq, by rw [rd_na (by decide)]; exact hM.2.2.1, by rw [jm_set_ne 7 (by decide)]; exact hM.2.2.2.1, by rw [jm_set_eq, hM.2.2.2.2]⟩ (fun u2 hM2 => ?_))
            refine jm_iinc (nI 1) dX5_tryRiders_100 rfl rfl (by decide) rfl rfl ?_
            dsimp only [List.set]
            refine jm_goto (n := 35) dX5_tryRiders_103 (by decide) ?_
            rw [nI_add]
            first | exact ih2 u (by simp only [gc_lp]; rw [if_neg (fun q => by have q1 := of_decide_eq_true q.1; exact cf.elim (fun c => q1.1 c) (fun c => c q1.2))]; exact hM) | exact ih2 u (by simp only [gc_lp]; rw [if_neg (fun q => by have q2 := q.2; rw [ct] at q2; exact absurd q2 (by decide))]; exact hM) | exact ih2 u2 (by simp only [gc_lp]; rw [if_pos ⟨decide_eq_true ⟨ch, cr⟩, ct⟩]; exact hM2) | fail "stop"
        · rw [h2, h3] at cf
          refine jm_if_eq (tgt := 100) dX5_tryRiders_48 (by decide) rfl (fun c48 => ?_) (fun c48 => absurd c48 (by decide))
          refine jm_iinc (nI 1) dX5_tryRiders_100 rfl rfl (by decide) rfl rfl ?_
          dsimp only [List.set]
          refine jm_goto (n := 35) dX5_tryRiders_103 (by decide) ?_
          rw [nI_add]
          first | exact ih2 u (by simp only [gc_lp]; rw [if_neg (fun q => by have q1 := of_decide_eq_true q.1; exact cf.elim (fun c => q1.1 c) (fun c => c q1.2))]; exact hM) | exact ih2 u (by simp only [gc_lp]; rw [if_neg (fun q => by have q2 := q.2; rw [ct] at q2; exact absurd q2 (by decide))]; exact hM) | exact ih2 u2 (by simp only [gc_lp]; rw [if_pos ⟨decide_eq_true ⟨ch, cr⟩, ct⟩]; exact hM2) | fail "stop"
    refine jm_iload_n dX5_tryRiders_0 rfl rfl rfl ?_
    refine jm_aload_n dX5_tryRiders_1 rfl rfl rfl ?_
    refine jm_geti dX5_tryRiders_2 rfl fe_X5_21 rfl rfl rfl ?_
    refine jm_icmp_ge (tgt := 13) dX5_tryRiders_5 (by decide) rfl (fun c5 => absurd ((nI_leI (a := n) (b := sd) (by omega) (by omega)).mp (hsz' ▸ c5)) (by omega)) (fun c5 => ?_)
    refine jm_iload_n dX5_tryRiders_8 rfl rfl rfl ?_
    refine jm_iconst (nI 3) dX5_tryRiders_9 rfl (by decide) ?_
    refine jm_icmp_lt (tgt := 24) dX5_tryRiders_10 (by decide) rfl (fun c10 => ?_) (fun c10 => absurd ((nI_ltI (by omega) (by omega)).mpr (by omega)) c10)
    refine jm_aload_n dX5_tryRiders_24 rfl rfl rfl ?_
    refine jm_getr dX5_tryRiders_25 rfl fe_X5_9 rfl rfl rfl ?_
    refine jm_iload_n dX5_tryRiders_28 rfl rfl rfl ?_
    refine jm_iald dX5_tryRiders_29 rfl rfl rfl (by decide) rfl hsd ?_
    refine jm_istore dX5_tryRiders_30 rfl rfl rfl ?_
    dsimp only [List.set]
    refine jm_iconst (nI 0) dX5_tryRiders_32 rfl (by decide) ?_
    refine jm_istore dX5_tryRiders_33 rfl rfl rfl ?_
    dsimp only [List.set]
    rw [show u 5 sd = μ 5 sd by rw [hM.1 5 (by decide) (by decide) (by decide)]]
    exact loop 0 (by omega) u hM
set_option maxHeartbeats 400000 in
theorem s_X5_choose {Ln : Nat} {xs : Nat → Int32} {μ : jm_Mem} {Q : Option Value → jm_Mem → Prop} {n : Nat} {a b c : Int32} (hn3 : n ≤ 3) (h : ∀ u', gc_M (jm_set (jm_set (jm_set (jm_set μ 5 0 a) 5 1 b) 5 2 c) 4 3 (nI n)) u' (gc_try (gc_fr μ) ((jm_set (jm_set (jm_set (jm_set μ 5 0 a) 5 1 b) 5 2 c) 4 3 (nI n)) 5) n 0 (μ 1 4) (μ 1 5) (-1, μ 7, μ 6)) → Q none u') : gJ Ln xs 9 mX5_choose 0 (jm_en 6 [.ref 4, .ref 1, .int (nI n), .int a, .int b, .int c]) [] μ Q := by
  show jm_J rg_I (rg_X Ln xs) 9 mX5_choose 0 [some (.ref 4), some (.ref 1), some (.int (nI n)), some (.int a), some (.int b), some (.int c)] [] μ Q
  refine jm_aload_n dX5_choose_0 rfl rfl rfl ?_
  refine jm_getr dX5_choose_1 rfl fe_X5_9 rfl rfl rfl ?_
  refine jm_iconst (nI 0) dX5_choose_4 rfl (by decide) ?_
  refine jm_iload_n dX5_choose_5 rfl rfl rfl ?_
  refine jm_iast dX5_choose_6 rfl rfl rfl (by decide) rfl (by decide) ?_
  refine jm_aload_n dX5_choose_7 rfl rfl rfl ?_
  refine jm_getr dX5_choose_8 rfl fe_X5_9 rfl rfl rfl ?_
  refine jm_iconst (nI 1) dX5_choose_11 rfl (by decide) ?_
  refine jm_iload dX5_choose_12 rfl rfl ?_
  refine jm_iast dX5_choose_14 rfl rfl rfl (by decide) rfl (by decide) ?_
  refine jm_aload_n dX5_choose_15 rfl rfl rfl ?_
  refine jm_getr dX5_choose_16 rfl fe_X5_9 rfl rfl rfl ?_
  refine jm_iconst (nI 2) dX5_choose_19 rfl (by decide) ?_
  refine jm_iload dX5_choose_20 rfl rfl ?_
  refine jm_iast dX5_choose_22 rfl rfl rfl (by decide) rfl (by decide) ?_
  refine jm_aload_n dX5_choose_23 rfl rfl rfl ?_
  refine jm_iload_n dX5_choose_24 rfl rfl rfl ?_
  refine jm_puti dX5_choose_25 rfl pe_X5_21 rfl rfl rfl ?_
  refine jm_aload_n dX5_choose_28 rfl rfl rfl ?_
  refine jm_iconst (-1) dX5_choose_29 rfl (by decide) ?_
  refine jm_puti dX5_choose_30 rfl pe_X5_25 rfl rfl rfl ?_
  refine jm_aload_n dX5_choose_33 rfl rfl rfl ?_
  refine jm_aload_n dX5_choose_34 rfl rfl rfl ?_
  refine jm_iconst (nI 0) dX5_choose_35 rfl (by decide) ?_
  refine jm_aload_n dX5_choose_36 rfl rfl rfl ?_
  refine jm_geti dX5_choose_37 rfl fe_X5_28 rfl rfl rfl ?_
  refine jm_aload_n dX5_choose_40 rfl rfl rfl ?_
  refine jm_geti dX5_choose_41 rfl fe_X5_33 rfl rfl rfl ?_
  refine jm_cS5 dX5_choose_44 rfl cb_X5_36 cs_X5_tryRiders (Nat.le_of_ble_eq_true rfl) (Nat.le_of_ble_eq_true rfl) (by decide) (jm_up (d := 3 + n) (d' := 8) (h := s_X5_tryRiders (μ := (jm_set (jm_set (jm_set (jm_set μ 5 0 a) 5 1 b) 5 2 c) 4 3 (nI n))) hn3 rd_eq n 0 (μ 1 4) (μ 1 5) (-1, μ 7, μ 6) _ (by omega) ⟨fun b q4 q6 q7 => by rw [jm_set_ne b q4], fun q hq => rd_ni hq, rd_eq, by simp only [jm_set_ne 7 (show (7 : Nat) ≠ 4 by decide), jm_set_ne 7 (show (7 : Nat) ≠ 5 by decide)], by simp only [jm_set_ne 6 (show (6 : Nat) ≠ 4 by decide), jm_set_ne 6 (show (6 : Nat) ≠ 5 by decide)]⟩ (fun u2 hM2 => ?_)) (hd := by omega))
  refine jm_vret dX5_choose_47 rfl ?_
  rw [gc_fr_c (u := (jm_set (jm_set (jm_set (jm_set μ 5 0 a) 5 1 b) 5 2 c) 4 3 (nI n))) (μ := μ) (by rw [jm_set_ne 2 (by decide), jm_set_ne 2 (by decide), jm_set_ne 2 (by decide), jm_set_ne 2 (by decide)]) (by rw [jm_set_ne 3 (by decide), jm_set_ne 3 (by decide), jm_set_ne 3 (by decide), jm_set_ne 3 (by decide)])] at hM2
  exact h u2 hM2
set_option maxHeartbeats 1000000 in
theorem l_X5_seatAll {Ln : Nat} {xs : Nat → Int32} {μ : jm_Mem} {Q : Option Value → jm_Mem → Prop} {n : Nat} {c : Nat → Nat} (hn3 : n ≤ 3) (hsz : μ 4 3 = nI n) (hc : ∀ i, i < n → c i < 12) (hch : ∀ i, i < n → μ 7 i = nI (c i)) (h : Q none (gc_seat μ c n)) : ∀ i, i ≤ n → jm_J rg_I (rg_X Ln xs) 3 mX5_seatAll 2 [some (.ref 4), some (.ref 1), some (.int (nI i))] [] (gc_seat μ c i) Q := by
  refine jm_for n ?_ ?_
  · skip
    refine jm_iload_n dX5_seatAll_2 rfl rfl rfl ?_
    refine jm_aload_n dX5_seatAll_3 rfl rfl rfl ?_
    refine jm_geti dX5_seatAll_4 rfl fe_X5_21 rfl rfl rfl ?_
    refine jm_icmp_ge (tgt := 32) dX5_seatAll_7 (by decide) rfl (fun c7 => ?_) (fun c7 => absurd (by rw [gc_seat_na (by decide) (by decide), hsz]; exact (nI_leI (by omega) (by omega)).mpr (by omega)) c7)
    refine jm_vret dX5_seatAll_32 rfl ?_
    exact h
  · intro i hi ih 
    refine jm_iload_n dX5_seatAll_2 rfl rfl rfl ?_
    refine jm_aload_n dX5_seatAll_3 rfl rfl rfl ?_
    refine jm_geti dX5_seatAll_4 rfl fe_X5_21 rfl rfl rfl ?_
    refine jm_icmp_ge (tgt := 32) dX5_seatAll_7 (by decide) rfl (fun c7 => absurd ((nI_leI (a := n) (b := i) (by omega) (by omega)).mp (by rw [gc_seat_na (by decide) (by decide), hsz] at c7; exact c7)) (by omega)) (fun c7 => ?_)
    refine jm_aload_n dX5_seatAll_10 rfl rfl rfl ?_
    refine jm_aload_n dX5_seatAll_11 rfl rfl rfl ?_
    refine jm_getr dX5_seatAll_12 rfl fe_X5_18 rfl rfl rfl ?_
    refine jm_iload_n dX5_seatAll_15 rfl rfl rfl ?_
    refine jm_iald dX5_seatAll_16 rfl rfl rfl (by decide) rfl (by first | assumption | omega) ?_
    refine jm_aload_n dX5_seatAll_17 rfl rfl rfl ?_
    refine jm_getr dX5_seatAll_18 rfl fe_X5_9 rfl rfl rfl ?_
    refine jm_iload_n dX5_seatAll_21 rfl rfl rfl ?_
    refine jm_iald dX5_seatAll_22 rfl rfl rfl (by decide) rfl (by first | assumption | omega) ?_
    rw [show gc_seat μ c i 7 i = nI (c i) by rw [gc_seat_na (by decide) (by decide)]; exact hch i hi, show gc_seat μ c i 5 i = μ 5 i by rw [gc_seat_na (by decide) (by decide)]]
    refine jm_cV2 dX5_seatAll_23 rfl cb_X5_68 ci_X4_putRider cv_X4_putRider rfl rfl rfl (Nat.le_of_ble_eq_true rfl) (Nat.le_of_ble_eq_true rfl) (by decide) (s_X4_putRider (hc i hi) ?_)
    refine jm_iinc (nI 1) dX5_seatAll_26 rfl rfl (by decide) rfl rfl ?_
    dsimp only [List.set]
    refine jm_goto (n := 2) dX5_seatAll_29 (by decide) ?_
    rw [nI_add]; exact ih
set_option maxHeartbeats 400000 in
theorem s_X5_seatAll {Ln : Nat} {xs : Nat → Int32} {μ : jm_Mem} {Q : Option Value → jm_Mem → Prop} {n : Nat} {c : Nat → Nat} (hn3 : n ≤ 3) (hsz : μ 4 3 = nI n) (hc : ∀ i, i < n → c i < 12) (hch : ∀ i, i < n → μ 7 i = nI (c i)) (h : Q none (gc_seat μ c n)) : gJ Ln xs 3 mX5_seatAll 0 (jm_en 3 [.ref 4, .ref 1]) [] μ Q := by
  show jm_J rg_I (rg_X Ln xs) 3 mX5_seatAll 0 [some (.ref 4), some (.ref 1), none] [] μ Q
  refine jm_iconst (nI 0) dX5_seatAll_0 rfl (by decide) ?_
  refine jm_istore_n dX5_seatAll_1 rfl rfl rfl rfl ?_
  dsimp only [List.set]
  exact l_X5_seatAll hn3 hsz hc hch h 0 (by omega)
set_option maxHeartbeats 400000 in
theorem s_X6_isGroup {Ln : Nat} {xs : Nat → Int32} {μ : jm_Mem} {Q : Option Value → jm_Mem → Prop} {n a b c : Int32} (h1 : ∀ k, 1 ≤ k → k ≤ 3 → n = nI k → rg_wi a 1 (nI 150) → (2 ≤ k → rg_wi b 1 (nI 150)) → (3 ≤ k → rg_wi c 1 (nI 150)) → Q (some (.int 1)) μ) (h0 : rg_ng n a b c → Q (some (.int 0)) μ) : gJ Ln xs 2 mX6_isGroup 0 (jm_en 4 [.int n, .int a, .int b, .int c]) [] μ Q := by
  show jm_J rg_I (rg_X Ln xs) 2 mX6_isGroup 0 [some (.int n), some (.int a), some (.int b), some (.int c)] [] μ Q
  refine jm_iload_n dX6_isGroup_0 rfl rfl rfl ?_
  refine jm_iconst (nI 1) dX6_isGroup_1 rfl (by decide) ?_
  refine jm_iconst (nI 3) dX6_isGroup_2 rfl (by decide) ?_
  refine jm_cS3 dX6_isGroup_3 rfl cb_X6_68 cs_X6_isWithin (Nat.le_of_ble_eq_true rfl) (Nat.le_of_ble_eq_true rfl) (by decide) (s_X6_isWithin (fun a3 b3 => ?_) (fun c3 => ?_))
  · obtain ⟨k, hk1, hk3, rfl⟩ := rg_k13 a3 b3
    refine jm_if_eq (tgt := 44) dX6_isGroup_6 (by decide) rfl (fun c6 => absurd c6 (by decide)) (fun c6 => ?_)
    refine jm_iload_n dX6_isGroup_9 rfl rfl rfl ?_
    refine jm_cS1 dX6_isGroup_10 rfl cb_X6_100 cs_X6_isRiderWeight (Nat.le_of_ble_eq_true rfl) (Nat.le_of_ble_eq_true rfl) (by decide) (s_X6_isRiderWeight (fun a10 b10 => ?_) (fun c10 => ?_))
    · refine jm_if_eq (tgt := 44) dX6_isGroup_13 (by decide) rfl (fun c13 => absurd c13 (by decide)) (fun c13 => ?_)
      refine jm_iload_n dX6_isGroup_16 rfl rfl rfl ?_
      refine jm_iconst (nI 2) dX6_isGroup_17 rfl (by decide) ?_
      refine jm_icmp_lt (tgt := 28) dX6_isGroup_18 (by decide) rfl (fun c18 => ?_) (fun c18 => ?_)
      · refine jm_iload_n dX6_isGroup_28 rfl rfl rfl ?_
        refine jm_iconst (nI 3) dX6_isGroup_29 rfl (by decide) ?_
        refine jm_icmp_lt (tgt := 40) dX6_isGroup_30 (by decide) rfl (fun c30 => ?_) (fun c30 => ?_)
        · refine jm_iconst (nI 1) dX6_isGroup_40 rfl (by decide) ?_
          refine jm_goto (n := 45) dX6_isGroup_41 (by decide) ?_
          refine jm_iret dX6_isGroup_45 rfl rfl ?_
          first | exact h0 (Or.inl c3) | exact h0 (Or.inr (Or.inl c10)) | exact h0 (Or.inr (Or.inr (Or.inl ⟨c18, c22⟩))) | exact h0 (Or.inr (Or.inr (Or.inr ⟨c30, c34⟩))) | exact h1 k hk1 hk3 rfl ⟨a10, b10⟩ (fun h9 => absurd ((nI_ltI (by omega) (by omega)).mp c18) (by omega)) (fun h9 => absurd ((nI_ltI (by omega) (by omega)).mp c30) (by omega)) | exact h1 k hk1 hk3 rfl ⟨a10, b10⟩ (fun _ => ⟨a22, b22⟩) (fun h9 => absurd ((nI_ltI (by omega) (by omega)).mp c30) (by omega)) | exact h1 k hk1 hk3 rfl ⟨a10, b10⟩ (fun h9 => absurd ((nI_ltI (by omega) (by omega)).mp c18) (by omega)) (fun _ => ⟨a34, b34⟩) | exact h1 k hk1 hk3 rfl ⟨a10, b10⟩ (fun _ => ⟨a22, b22⟩) (fun _ => ⟨a34, b34⟩) | fail "leaf"
        · refine jm_iload_n dX6_isGroup_33 rfl rfl rfl ?_
          refine jm_cS1 dX6_isGroup_34 rfl cb_X6_100 cs_X6_isRiderWeight (Nat.le_of_ble_eq_true rfl) (Nat.le_of_ble_eq_true rfl) (by decide) (s_X6_isRiderWeight (fun a34 b34 => ?_) (fun c34 => ?_))
          · refine jm_if_eq (tgt := 44) dX6_isGroup_37 (by decide) rfl (fun c37 => absurd c37 (by decide)) (fun c37 => ?_)
            refine jm_iconst (nI 1) dX6_isGroup_40 rfl (by decide) ?_
            refine jm_goto (n := 45) dX6_isGroup_41 (by decide) ?_
            refine jm_iret dX6_isGroup_45 rfl rfl ?_
            first | exact h0 (Or.inl c3) | exact h0 (Or.inr (Or.inl c10)) | exact h0 (Or.inr (Or.inr (Or.inl ⟨c18, c22⟩))) | exact h0 (Or.inr (Or.inr (Or.inr ⟨c30, c34⟩))) | exact h1 k hk1 hk3 rfl ⟨a10, b10⟩ (fun h9 => absurd ((nI_ltI (by omega) (by omega)).mp c18) (by omega)) (fun h9 => absurd ((nI_ltI (by omega) (by omega)).mp c30) (by omega)) | exact h1 k hk1 hk3 rfl ⟨a10, b10⟩ (fun _ => ⟨a22, b22⟩) (fun h9 => absurd ((nI_ltI (by omega) (by omega)).mp c30) (by omega)) | exact h1 k hk1 hk3 rfl ⟨a10, b10⟩ (fun h9 => absurd ((nI_ltI (by omega) (by omega)).mp c18) (by omega)) (fun _ => ⟨a34, b34⟩) | exact h1 k hk1 hk3 rfl ⟨a10, b10⟩ (fun _ => ⟨a22, b22⟩) (fun _ => ⟨a34, b34⟩) | fail "leaf"
          · refine jm_if_eq (tgt := 44) dX6_isGroup_37 (by decide) rfl (fun c37 => ?_) (fun c37 => absurd c37 (by decide))
            refine jm_iconst (nI 0) dX6_isGroup_44 rfl (by decide) ?_
            refine jm_iret dX6_isGroup_45 rfl rfl ?_
            first | exact h0 (Or.inl c3) | exact h0 (Or.inr (Or.inl c10)) | exact h0 (Or.inr (Or.inr (Or.inl ⟨c18, c22⟩))) | exact h0 (Or.inr (Or.inr (Or.inr ⟨c30, c34⟩))) | exact h1 k hk1 hk3 rfl ⟨a10, b10⟩ (fun h9 => absurd ((nI_ltI (by omega) (by omega)).mp c18) (by omega)) (fun h9 => absurd ((nI_ltI (by omega) (by omega)).mp c30) (by omega)) | exact h1 k hk1 hk3 rfl ⟨a10, b10⟩ (fun _ => ⟨a22, b22⟩) (fun h9 => absurd ((nI_ltI (by omega) (by omega)).mp c30) (by omega)) | exact h1 k hk1 hk3 rfl ⟨a10, b10⟩ (fun h9 => absurd ((nI_ltI (by omega) (by omega)).mp c18) (by omega)) (fun _ => ⟨a34, b34⟩) | exact h1 k hk1 hk3 rfl ⟨a10, b10⟩ (fun _ => ⟨a22, b22⟩) (fun _ => ⟨a34, b34⟩) | fail "leaf"
      · refine jm_iload_n dX6_isGroup_21 rfl rfl rfl ?_
        refine jm_cS1 dX6_isGroup_22 rfl cb_X6_100 cs_X6_isRiderWeight (Nat.le_of_ble_eq_true rfl) (Nat.le_of_ble_eq_true rfl) (by decide) (s_X6_isRiderWeight (fun a22 b22 => ?_) (fun c22 => ?_))
        · refine jm_if_eq (tgt := 44) dX6_isGroup_25 (by decide) rfl (fun c25 => absurd c25 (by decide)) (fun c25 => ?_)
          refine jm_iload_n dX6_isGroup_28 rfl rfl rfl ?_
          refine jm_iconst (nI 3) dX6_isGroup_29 rfl (by decide) ?_
          refine jm_icmp_lt (tgt := 40) dX6_isGroup_30 (by decide) rfl (fun c30 => ?_) (fun c30 => ?_)
          · refine jm_iconst (nI 1) dX6_isGroup_40 rfl (by decide) ?_
            refine jm_goto (n := 45) dX6_isGroup_41 (by decide) ?_
            refine jm_iret dX6_isGroup_45 rfl rfl ?_
            first | exact h0 (Or.inl c3) | exact h0 (Or.inr (Or.inl c10)) | exact h0 (Or.inr (Or.inr (Or.inl ⟨c18, c22⟩))) | exact h0 (Or.inr (Or.inr (Or.inr ⟨c30, c34⟩))) | exact h1 k hk1 hk3 rfl ⟨a10, b10⟩ (fun h9 => absurd ((nI_ltI (by omega) (by omega)).mp c18) (by omega)) (fun h9 => absurd ((nI_ltI (by omega) (by omega)).mp c30) (by omega)) | exact h1 k hk1 hk3 rfl ⟨a10, b10⟩ (fun _ => ⟨a22, b22⟩) (fun h9 => absurd ((nI_ltI (by omega) (by omega)).mp c30) (by omega)) | exact h1 k hk1 hk3 rfl ⟨a10, b10⟩ (fun h9 => absurd ((nI_ltI (by omega) (by omega)).mp c18) (by omega)) (fun _ => ⟨a34, b34⟩) | exact h1 k hk1 hk3 rfl ⟨a10, b10⟩ (fun _ => ⟨a22, b22⟩) (fun _ => ⟨a34, b34⟩) | fail "leaf"
          · refine jm_iload_n dX6_isGroup_33 rfl rfl rfl ?_
            refine jm_cS1 dX6_isGroup_34 rfl cb_X6_100 cs_X6_isRiderWeight (Nat.le_of_ble_eq_true rfl) (Nat.le_of_ble_eq_true rfl) (by decide) (s_X6_isRiderWeight (fun a34 b34 => ?_) (fun c34 => ?_))
            · refine jm_if_eq (tgt := 44) dX6_isGroup_37 (by decide) rfl (fun c37 => absurd c37 (by decide)) (fun c37 => ?_)
              refine jm_iconst (nI 1) dX6_isGroup_40 rfl (by decide) ?_
              refine jm_goto (n := 45) dX6_isGroup_41 (by decide) ?_
              refine jm_iret dX6_isGroup_45 rfl rfl ?_
              first | exact h0 (Or.inl c3) | exact h0 (Or.inr (Or.inl c10)) | exact h0 (Or.inr (Or.inr (Or.inl ⟨c18, c22⟩))) | exact h0 (Or.inr (Or.inr (Or.inr ⟨c30, c34⟩))) | exact h1 k hk1 hk3 rfl ⟨a10, b10⟩ (fun h9 => absurd ((nI_ltI (by omega) (by omega)).mp c18) (by omega)) (fun h9 => absurd ((nI_ltI (by omega) (by omega)).mp c30) (by omega)) | exact h1 k hk1 hk3 rfl ⟨a10, b10⟩ (fun _ => ⟨a22, b22⟩) (fun h9 => absurd ((nI_ltI (by omega) (by omega)).mp c30) (by omega)) | exact h1 k hk1 hk3 rfl ⟨a10, b10⟩ (fun h9 => absurd ((nI_ltI (by omega) (by omega)).mp c18) (by omega)) (fun _ => ⟨a34, b34⟩) | exact h1 k hk1 hk3 rfl ⟨a10, b10⟩ (fun _ => ⟨a22, b22⟩) (fun _ => ⟨a34, b34⟩) | fail "leaf"
            · refine jm_if_eq (tgt := 44) dX6_isGroup_37 (by decide) rfl (fun c37 => ?_) (fun c37 => absurd c37 (by decide))
              refine jm_iconst (nI 0) dX6_isGroup_44 rfl (by decide) ?_
              refine jm_iret dX6_isGroup_45 rfl rfl ?_
              first | exact h0 (Or.inl c3) | exact h0 (Or.inr (Or.inl c10)) | exact h0 (Or.inr (Or.inr (Or.inl ⟨c18, c22⟩))) | exact h0 (Or.inr (Or.inr (Or.inr ⟨c30, c34⟩))) | exact h1 k hk1 hk3 rfl ⟨a10, b10⟩ (fun h9 => absurd ((nI_ltI (by omega) (by omega)).mp c18) (by omega)) (fun h9 => absurd ((nI_ltI (by omega) (by omega)).mp c30) (by omega)) | exact h1 k hk1 hk3 rfl ⟨a10, b10⟩ (fun _ => ⟨a22, b22⟩) (fun h9 => absurd ((nI_ltI (by omega) (by omega)).mp c30) (by omega)) | exact h1 k hk1 hk3 rfl ⟨a10, b10⟩ (fun h9 => absurd ((nI_ltI (by omega) (by omega)).mp c18) (by omega)) (fun _ => ⟨a34, b34⟩) | exact h1 k hk1 hk3 rfl ⟨a10, b10⟩ (fun _ => ⟨a22, b22⟩) (fun _ => ⟨a34, b34⟩) | fail "leaf"
        · refine jm_if_eq (tgt := 44) dX6_isGroup_25 (by decide) rfl (fun c25 => ?_) (fun c25 => absurd c25 (by decide))
          refine jm_iconst (nI 0) dX6_isGroup_44 rfl (by decide) ?_
          refine jm_iret dX6_isGroup_45 rfl rfl ?_
          first | exact h0 (Or.inl c3) | exact h0 (Or.inr (Or.inl c10)) | exact h0 (Or.inr (Or.inr (Or.inl ⟨c18, c22⟩))) | exact h0 (Or.inr (Or.inr (Or.inr ⟨c30, c34⟩))) | exact h1 k hk1 hk3 rfl ⟨a10, b10⟩ (fun h9 => absurd ((nI_ltI (by omega) (by omega)).mp c18) (by omega)) (fun h9 => absurd ((nI_ltI (by omega) (by omega)).mp c30) (by omega)) | exact h1 k hk1 hk3 rfl ⟨a10, b10⟩ (fun _ => ⟨a22, b22⟩) (fun h9 => absurd ((nI_ltI (by omega) (by omega)).mp c30) (by omega)) | exact h1 k hk1 hk3 rfl ⟨a10, b10⟩ (fun h9 => absurd ((nI_ltI (by omega) (by omega)).mp c18) (by omega)) (fun _ => ⟨a34, b34⟩) | exact h1 k hk1 hk3 rfl ⟨a10, b10⟩ (fun _ => ⟨a22, b22⟩) (fun _ => ⟨a34, b34⟩) | fail "leaf"
    · refine jm_if_eq (tgt := 44) dX6_isGroup_13 (by decide) rfl (fun c13 => ?_) (fun c13 => absurd c13 (by decide))
      refine jm_iconst (nI 0) dX6_isGroup_44 rfl (by decide) ?_
      refine jm_iret dX6_isGroup_45 rfl rfl ?_
      first | exact h0 (Or.inl c3) | exact h0 (Or.inr (Or.inl c10)) | exact h0 (Or.inr (Or.inr (Or.inl ⟨c18, c22⟩))) | exact h0 (Or.inr (Or.inr (Or.inr ⟨c30, c34⟩))) | exact h1 k hk1 hk3 rfl ⟨a10, b10⟩ (fun h9 => absurd ((nI_ltI (by omega) (by omega)).mp c18) (by omega)) (fun h9 => absurd ((nI_ltI (by omega) (by omega)).mp c30) (by omega)) | exact h1 k hk1 hk3 rfl ⟨a10, b10⟩ (fun _ => ⟨a22, b22⟩) (fun h9 => absurd ((nI_ltI (by omega) (by omega)).mp c30) (by omega)) | exact h1 k hk1 hk3 rfl ⟨a10, b10⟩ (fun h9 => absurd ((nI_ltI (by omega) (by omega)).mp c18) (by omega)) (fun _ => ⟨a34, b34⟩) | exact h1 k hk1 hk3 rfl ⟨a10, b10⟩ (fun _ => ⟨a22, b22⟩) (fun _ => ⟨a34, b34⟩) | fail "leaf"
  · refine jm_if_eq (tgt := 44) dX6_isGroup_6 (by decide) rfl (fun c6 => ?_) (fun c6 => absurd c6 (by decide))
    refine jm_iconst (nI 0) dX6_isGroup_44 rfl (by decide) ?_
    refine jm_iret dX6_isGroup_45 rfl rfl ?_
    first | exact h0 (Or.inl c3) | exact h0 (Or.inr (Or.inl c10)) | exact h0 (Or.inr (Or.inr (Or.inl ⟨c18, c22⟩))) | exact h0 (Or.inr (Or.inr (Or.inr ⟨c30, c34⟩))) | exact h1 k hk1 hk3 rfl ⟨a10, b10⟩ (fun h9 => absurd ((nI_ltI (by omega) (by omega)).mp c18) (by omega)) (fun h9 => absurd ((nI_ltI (by omega) (by omega)).mp c30) (by omega)) | exact h1 k hk1 hk3 rfl ⟨a10, b10⟩ (fun _ => ⟨a22, b22⟩) (fun h9 => absurd ((nI_ltI (by omega) (by omega)).mp c30) (by omega)) | exact h1 k hk1 hk3 rfl ⟨a10, b10⟩ (fun h9 => absurd ((nI_ltI (by omega) (by omega)).mp c18) (by omega)) (fun _ => ⟨a34, b34⟩) | exact h1 k hk1 hk3 rfl ⟨a10, b10⟩ (fun _ => ⟨a22, b22⟩) (fun _ => ⟨a34, b34⟩) | fail "leaf"
def oc_group (μ : jm_Mem) (n a b c r : Int32) (μ1 : jm_Mem) : Prop := (rg_ng n a b c ∧ r = -102 ∧ μ1 = μ) ∨ ∃ k, 1 ≤ k ∧ k ≤ 3 ∧ n = nI k ∧ rg_wi a 1 (nI 150) ∧ (2 ≤ k → rg_wi b 1 (nI 150)) ∧ (3 ≤ k → rg_wi c 1 (nI 150)) ∧ ((¬ μ 0 6 < nI 60 ∧ r = -103 ∧ μ1 = μ) ∨ (μ 0 6 < nI 60 ∧ ((nI (rg_cnt (μ 2) 12) - nI (rg_cnt (μ 3) 12) < nI k ∧ r = -1 ∧ μ1 = jm_set μ 0 6 (μ 0 6 + 1)) ∨ (¬ nI (rg_cnt (μ 2) 12) - nI (rg_cnt (μ 3) 12) < nI k ∧ ∃ (u : jm_Mem) (cc : Nat → Nat), (∀ i, i < k → cc i < 12) ∧ (∀ i, i < k → (gc_try (gc_fr μ) (fun i => if i = 0 then a else if i = 1 then b else c) k 0 (μ 1 4) (μ 1 5) (-1, μ 7, μ 6)).2.1 i = nI (cc i)) ∧ (∀ q, q ≠ 4 → q ≠ 5 → q ≠ 6 → q ≠ 7 → u q = jm_set μ 0 6 (μ 0 6 + 1) q) ∧ (∀ i, i < 3 → u 5 i = if i = 0 then a else if i = 1 then b else c) ∧ μ1 = gc_seat u cc k ∧ r = rg_sh (μ1 1 4) (μ1 1 5)))))
set_option maxHeartbeats 400000 in
theorem s_X6_group {Ln : Nat} {xs : Nat → Int32} {μ : jm_Mem} {Q : Option Value → jm_Mem → Prop} {n a b c : Int32} (hch : ∀ k, 1 ≤ k → k ≤ 3 → ¬ nI (rg_cnt (μ 2) 12) - nI (rg_cnt (μ 3) 12) < nI k → ∃ cc : Nat → Nat, (∀ i, i < k → cc i < 12) ∧ ∀ i, i < k → (gc_try (gc_fr μ) (fun i => if i = 0 then a else if i = 1 then b else c) k 0 (μ 1 4) (μ 1 5) (-1, μ 7, μ 6)).2.1 i = nI (cc i)) (h : ∀ r μ1, oc_group μ n a b c r μ1 → Q (some (.int r)) μ1) : gJ Ln xs 10 mX6_group 0 (jm_en 5 [.ref 0, .int n, .int a, .int b, .int c]) [] μ Q := by
  show jm_J rg_I (rg_X Ln xs) 10 mX6_group 0 [some (.ref 0), some (.int n), some (.int a), some (.int b), some (.int c)] [] μ Q
  refine jm_iload_n dX6_group_0 rfl rfl rfl ?_
  refine jm_iload_n dX6_group_1 rfl rfl rfl ?_
  refine jm_iload_n dX6_group_2 rfl rfl rfl ?_
  refine jm_iload dX6_group_3 rfl rfl ?_
  refine jm_cS4 dX6_group_5 rfl cb_X6_132 cs_X6_isGroup (Nat.le_of_ble_eq_true rfl) (Nat.le_of_ble_eq_true rfl) (by decide) (s_X6_isGroup (fun k hk1 hk3 e wa wb wc => ?_) (fun cg => ?_))
  · subst e
    refine jm_if_ne (tgt := 14) dX6_group_8 (by decide) rfl (fun c8 => ?_) (fun c8 => absurd c8 (by decide))
    refine jm_aload_n dX6_group_14 rfl rfl rfl ?_
    refine jm_geti dX6_group_15 rfl fe_X6_51 rfl rfl rfl ?_
    refine jm_bipush (nI 60) dX6_group_18 rfl (by decide) ?_
    refine jm_icmp_lt (tgt := 26) dX6_group_20 (by decide) rfl (fun c20 => ?_) (fun c20 => ?_)
    · refine jm_aload_n dX6_group_26 rfl rfl rfl ?_
      refine jm_dup dX6_group_27 rfl rfl ?_
      refine jm_geti dX6_group_28 rfl fe_X6_51 rfl rfl rfl ?_
      refine jm_iconst (nI 1) dX6_group_31 rfl (by decide) ?_
      refine jm_iadd dX6_group_32 rfl ?_
      refine jm_puti dX6_group_33 rfl pe_X6_51 rfl rfl rfl ?_
      refine jm_aload_n dX6_group_36 rfl rfl rfl ?_
      refine jm_getr dX6_group_37 rfl fe_X6_12 rfl rfl rfl ?_
      refine jm_cV0 dX6_group_40 rfl cb_X6_136 ci_X4_freeHorses cv_X4_freeHorses rfl rfl rfl (Nat.le_of_ble_eq_true rfl) (Nat.le_of_ble_eq_true rfl) (by decide) (s_X4_freeHorses ?_)
      refine jm_iload_n dX6_group_43 rfl rfl rfl ?_
      simp only [jm_set_ne 2 (show (2 : Nat) ≠ 0 by decide), jm_set_ne 3 (show (3 : Nat) ≠ 0 by decide)]
      refine jm_icmp_ge (tgt := 49) dX6_group_44 (by decide) rfl (fun c44 => ?_) (fun c44 => ?_)
      · obtain ⟨cc, hcc, hcv⟩ := hch k hk1 hk3 (Int32.not_lt.mpr c44)
        refine jm_aload_n dX6_group_49 rfl rfl rfl ?_
        refine jm_getr dX6_group_50 rfl fe_X6_19 rfl rfl rfl ?_
        refine jm_aload_n dX6_group_53 rfl rfl rfl ?_
        refine jm_getr dX6_group_54 rfl fe_X6_12 rfl rfl rfl ?_
        refine jm_iload_n dX6_group_57 rfl rfl rfl ?_
        refine jm_iload_n dX6_group_58 rfl rfl rfl ?_
        refine jm_iload_n dX6_group_59 rfl rfl rfl ?_
        refine jm_iload dX6_group_60 rfl rfl ?_
        refine jm_cV5 dX6_group_62 rfl cb_X6_139 ci_X5_choose cv_X5_choose rfl rfl rfl (Nat.le_of_ble_eq_true rfl) (Nat.le_of_ble_eq_true rfl) (by decide) (s_X5_choose hk3 (fun u2 hM2 => ?_))
        have hv : gc_try (gc_fr (jm_set μ 0 6 (μ 0 6 + nI 1))) (jm_set (jm_set (jm_set (jm_set (jm_set μ 0 6 (μ 0 6 + nI 1)) 5 0 a) 5 1 b) 5 2 c) 4 3 (nI k) 5) k 0 (jm_set μ 0 6 (μ 0 6 + nI 1) 1 4) (jm_set μ 0 6 (μ 0 6 + nI 1) 1 5) (-1, jm_set μ 0 6 (μ 0 6 + nI 1) 7, jm_set μ 0 6 (μ 0 6 + nI 1) 6) = (gc_try (gc_fr μ) (fun i => if i = 0 then a else if i = 1 then b else c) k 0 (μ 1 4) (μ 1 5) (-1, μ 7, μ 6)) := by
          rw [gc_fr_0, rd_na (by decide), rd_na (by decide), jm_set_ne 7 (by decide), jm_set_ne 6 (by decide)]
          exact gc_ext (gc_fr μ) k 0 _ _ _ (by omega) (fun i h9 => by rw [jm_set_ne 5 (by decide)]; exact gc_w3 i h9)
        rw [hv] at hM2
        refine jm_aload_n dX6_group_65 rfl rfl rfl ?_
        refine jm_getr dX6_group_66 rfl fe_X6_19 rfl rfl rfl ?_
        refine jm_aload_n dX6_group_69 rfl rfl rfl ?_
        refine jm_getr dX6_group_70 rfl fe_X6_12 rfl rfl rfl ?_
        refine jm_cV1 dX6_group_73 rfl cb_X6_143 ci_X5_seatAll cv_X5_seatAll rfl rfl rfl (Nat.le_of_ble_eq_true rfl) (Nat.le_of_ble_eq_true rfl) (by decide) (s_X5_seatAll hk3 (by rw [hM2.2.1 3 (by decide)]; exact rd_eq) hcc (fun i h9 => by rw [hM2.2.2.2.1]; exact hcv i h9) ?_)
        refine jm_aload_n dX6_group_76 rfl rfl rfl ?_
        refine jm_getr dX6_group_77 rfl fe_X6_12 rfl rfl rfl ?_
        refine jm_cV0 dX6_group_80 rfl cb_X6_110 ci_X4_shakeNow cv_X4_shakeNow rfl rfl rfl (Nat.le_of_ble_eq_true rfl) (Nat.le_of_ble_eq_true rfl) (by decide) (s_X4_shakeNow ?_)
        refine jm_iret dX6_group_83 rfl rfl ?_
        refine h _ _ ?_
        first | exact Or.inl ⟨cg, rfl, rfl⟩ | exact Or.inr ⟨k, hk1, hk3, rfl, wa, wb, wc, Or.inl ⟨c20, rfl, rfl⟩⟩ | exact Or.inr ⟨k, hk1, hk3, rfl, wa, wb, wc, Or.inr ⟨c20, Or.inl ⟨Int32.not_le.mp c44, rfl, rfl⟩⟩⟩ | exact Or.inr ⟨k, hk1, hk3, rfl, wa, wb, wc, Or.inr ⟨c20, Or.inr ⟨Int32.not_lt.mpr c44, u2, cc, hcc, hcv, fun q q4 q5 q6 q7 => by rw [hM2.1 q q4 q6 q7, jm_set_ne q q4, jm_set_ne q q5, jm_set_ne q q5, jm_set_ne q q5]; rfl, fun i h9 => by rw [hM2.1 5 (by decide) (by decide) (by decide), jm_set_ne 5 (by decide)]; exact gc_w3 i h9, rfl, rfl⟩⟩⟩ | fail "leaf"
      · refine jm_iconst (-1) dX6_group_47 rfl (by decide) ?_
        refine jm_iret dX6_group_48 rfl rfl ?_
        refine h _ _ ?_
        first | exact Or.inl ⟨cg, rfl, rfl⟩ | exact Or.inr ⟨k, hk1, hk3, rfl, wa, wb, wc, Or.inl ⟨c20, rfl, rfl⟩⟩ | exact Or.inr ⟨k, hk1, hk3, rfl, wa, wb, wc, Or.inr ⟨c20, Or.inl ⟨Int32.not_le.mp c44, rfl, rfl⟩⟩⟩ | exact Or.inr ⟨k, hk1, hk3, rfl, wa, wb, wc, Or.inr ⟨c20, Or.inr ⟨Int32.not_lt.mpr c44, u2, cc, hcc, hcv, fun q q4 q5 q6 q7 => by rw [hM2.1 q q4 q6 q7, jm_set_ne q q4, jm_set_ne q q5, jm_set_ne q q5, jm_set_ne q q5]; rfl, fun i h9 => by rw [hM2.1 5 (by decide) (by decide) (by decide), jm_set_ne 5 (by decide)]; exact gc_w3 i h9, rfl, rfl⟩⟩⟩ | fail "leaf"
    · refine jm_bipush (-103) dX6_group_23 rfl (by decide) ?_
      refine jm_iret dX6_group_25 rfl rfl ?_
      refine h _ _ ?_
      first | exact Or.inl ⟨cg, rfl, rfl⟩ | exact Or.inr ⟨k, hk1, hk3, rfl, wa, wb, wc, Or.inl ⟨c20, rfl, rfl⟩⟩ | exact Or.inr ⟨k, hk1, hk3, rfl, wa, wb, wc, Or.inr ⟨c20, Or.inl ⟨Int32.not_le.mp c44, rfl, rfl⟩⟩⟩ | exact Or.inr ⟨k, hk1, hk3, rfl, wa, wb, wc, Or.inr ⟨c20, Or.inr ⟨Int32.not_lt.mpr c44, u2, cc, hcc, hcv, fun q q4 q5 q6 q7 => by rw [hM2.1 q q4 q6 q7, jm_set_ne q q4, jm_set_ne q q5, jm_set_ne q q5, jm_set_ne q q5]; rfl, fun i h9 => by rw [hM2.1 5 (by decide) (by decide) (by decide), jm_set_ne 5 (by decide)]; exact gc_w3 i h9, rfl, rfl⟩⟩⟩ | fail "leaf"
  · refine jm_if_ne (tgt := 14) dX6_group_8 (by decide) rfl (fun c8 => absurd c8 (by decide)) (fun c8 => ?_)
    refine jm_bipush (-102) dX6_group_11 rfl (by decide) ?_
    refine jm_iret dX6_group_13 rfl rfl ?_
    refine h _ _ ?_
    first | exact Or.inl ⟨cg, rfl, rfl⟩ | exact Or.inr ⟨k, hk1, hk3, rfl, wa, wb, wc, Or.inl ⟨c20, rfl, rfl⟩⟩ | exact Or.inr ⟨k, hk1, hk3, rfl, wa, wb, wc, Or.inr ⟨c20, Or.inl ⟨Int32.not_le.mp c44, rfl, rfl⟩⟩⟩ | exact Or.inr ⟨k, hk1, hk3, rfl, wa, wb, wc, Or.inr ⟨c20, Or.inr ⟨Int32.not_lt.mpr c44, u2, cc, hcc, hcv, fun q q4 q5 q6 q7 => by rw [hM2.1 q q4 q6 q7, jm_set_ne q q4, jm_set_ne q q5, jm_set_ne q q5, jm_set_ne q q5]; rfl, fun i h9 => by rw [hM2.1 5 (by decide) (by decide) (by decide), jm_set_ne 5 (by decide)]; exact gc_w3 i h9, rfl, rfl⟩⟩⟩ | fail "leaf"
