theorem jm_for {P : Nat → Prop} (N : Nat) (hN : P N) (hs : ∀ i, i < N → P (i + 1) → P i) : ∀ i, i ≤ N → P i := by
  intro i hi
  obtain ⟨k, hk⟩ : ∃ k, N - i = k := ⟨_, rfl⟩
  induction k generalizing i with
  | zero => rw [show i = N by omega]; exact hN
  | succ k ih => exact hs i (by omega) (ih (i + 1) (by omega) (by omega))
def rg_mx (f : Nat → Int32) : Nat → Int64 → Int64
  | 0, h => h
  | n + 1, h => 31 * rg_mx f n h + (f n).toInt64
def rg_bst (ok : Nat → Bool) (sv : Nat → Int32) : Nat → Int32 × Int32
  | 0 => (-1, 0)
  | n + 1 => if ok n = true ∧ ((rg_bst ok sv n).1 = -1 ∨ sv n < (rg_bst ok sv n).2) then (nI n, sv n) else rg_bst ok sv n
theorem rg_bst_no {ok : Nat → Bool} {sv : Nat → Int32} {n : Nat} (h : ok n = false) : rg_bst ok sv (n + 1) = rg_bst ok sv n := by
  simp [rg_bst, h]
theorem rg_bst_ge {ok : Nat → Bool} {sv : Nat → Int32} {n : Nat} (h1 : ¬ (rg_bst ok sv n).1 = -1) (h2 : (rg_bst ok sv n).2 ≤ sv n) : rg_bst ok sv (n + 1) = rg_bst ok sv n := by
  simp only [rg_bst]
  rw [if_neg]
  rintro ⟨-, h | h⟩
  · exact h1 h
  · exact absurd h2 (Int32.not_le.mpr h)
theorem rg_bst_yes {ok : Nat → Bool} {sv : Nat → Int32} {n : Nat} (h : ok n = true) (h2 : (rg_bst ok sv n).1 = -1 ∨ sv n < (rg_bst ok sv n).2) : rg_bst ok sv (n + 1) = (nI n, sv n) := by
  simp only [rg_bst]
  rw [if_pos ⟨h, h2⟩]
def rg_okw (μ : jm_Mem) (w : Int32) (j : Nat) : Bool := decide (¬ μ 2 j ≤ 0 ∧ μ 3 j ≤ 0 ∧ rg_law μ (rg_shw μ j w) (μ 1 6 + rg_lift j w))
def rg_tar (μ : jm_Mem) : Nat → jm_Mem
  | 0 => μ
  | n + 1 => rg_add (jm_set (rg_tar μ n) 3 n 0) n (0 - rg_tar μ n 3 n)
theorem rg_dep {k : Int32} {m : Nat} (hm : m ≤ 8) (h1 : ¬ k < nI 0) (h2 : ¬ nI m - nI 1 < k) : ∃ i, i < m ∧ k = nI i := by
  rcases pk_ix k (n := m) (by omega) with h | h | h
  · exact absurd h h1
  · exfalso
    obtain ⟨j, hj, rfl⟩ := nI_of h1
    have h3 := (nI_leI (a := m) (b := j) (by omega) (by omega)).mp h
    apply h2
    by_cases hm0 : m = 0
    · subst hm0
      rw [Int32.lt_iff_toInt_lt, nI_toInt hj]
      have : (nI 0 - nI 1).toInt = -1 := by decide
      omega
    · rw [pk_sub (by omega)]
      exact nI_lt (by omega) (by omega)
  · exact h
theorem rg_depn {m i : Nat} (hm : m ≤ 8) (hi : i < m) (c : nI i < nI 0 ∨ nI m - nI 1 < nI i) : False := by
  rcases c with c | c
  · exact nI_pos (by omega) c
  · rw [pk_sub (by omega)] at c
    exact absurd ((nI_ltI (by omega) (by omega)).mp c) (by omega)
set_option maxHeartbeats 1000000 in
theorem l_X4_numh {Ln : Nat} {xs : Nat → Int32} {μ : jm_Mem} {Q : Option Value → jm_Mem → Prop}  (h : Q (some (.int (nI (rg_cnt (μ 2) 12)))) μ) : ∀ i, i ≤ 12 → ∀ (v5 : Option Value), jm_J rg_I (rg_X Ln xs) 0 mX4_numberAboveZero 10 [some (.ref 2), some (.int (nI (rg_cnt (μ 2) i))), some (.ref 2), some (.int (nI 12)), some (.int (nI i)), v5] [] μ Q := by
  refine jm_for 12 ?_ ?_
  · intro v5
    refine jm_iload dX4_numberAboveZero_10 rfl rfl ?_
    refine jm_iload_n dX4_numberAboveZero_12 rfl rfl rfl ?_
    refine jm_icmp_ge (tgt := 36) dX4_numberAboveZero_13 (by decide) rfl (fun c13 => ?_) (fun c13 => absurd ((nI_leI (by omega) (by omega)).mpr (Nat.le_refl _)) c13)
    refine jm_iload_n dX4_numberAboveZero_36 rfl rfl rfl ?_
    refine jm_iret dX4_numberAboveZero_37 rfl rfl ?_
    exact h
  · intro i hi ih v5
    refine jm_iload dX4_numberAboveZero_10 rfl rfl ?_
    refine jm_iload_n dX4_numberAboveZero_12 rfl rfl rfl ?_
    refine jm_icmp_ge (tgt := 36) dX4_numberAboveZero_13 (by decide) rfl (fun c13 => absurd ((nI_leI (by omega) (by omega)).mp c13) (by omega)) (fun c13 => ?_)
    refine jm_aload_n dX4_numberAboveZero_16 rfl rfl rfl ?_
    refine jm_iload dX4_numberAboveZero_17 rfl rfl ?_
    refine jm_iald dX4_numberAboveZero_19 rfl rfl rfl (by decide) rfl (by first | assumption | omega) ?_
    refine jm_istore dX4_numberAboveZero_20 rfl rfl rfl ?_
    dsimp only [List.set]
    refine jm_iload dX4_numberAboveZero_22 rfl rfl ?_
    refine jm_if_le (tgt := 30) dX4_numberAboveZero_24 (by decide) rfl (fun c24 => ?_) (fun c24 => ?_)
    · refine jm_iinc (nI 1) dX4_numberAboveZero_30 rfl rfl (by decide) rfl rfl ?_
      dsimp only [List.set]
      refine jm_goto (n := 10) dX4_numberAboveZero_33 (by decide) ?_
      first | (rw [nI_add, nI_add]; have e := ih (some (.int (μ 2 i))); simp only [rg_cnt, if_neg c24] at e; exact e) | (rw [nI_add]; have e := ih (some (.int (μ 2 i))); simp only [rg_cnt, if_pos c24] at e; exact e) | fail "stop"
    · refine jm_iinc (nI 1) dX4_numberAboveZero_27 rfl rfl (by decide) rfl rfl ?_
      dsimp only [List.set]
      refine jm_iinc (nI 1) dX4_numberAboveZero_30 rfl rfl (by decide) rfl rfl ?_
      dsimp only [List.set]
      refine jm_goto (n := 10) dX4_numberAboveZero_33 (by decide) ?_
      first | (rw [nI_add, nI_add]; have e := ih (some (.int (μ 2 i))); simp only [rg_cnt, if_neg c24] at e; exact e) | (rw [nI_add]; have e := ih (some (.int (μ 2 i))); simp only [rg_cnt, if_pos c24] at e; exact e) | fail "stop"
set_option maxHeartbeats 400000 in
theorem s_X4_numh {Ln : Nat} {xs : Nat → Int32} {μ : jm_Mem} {Q : Option Value → jm_Mem → Prop}  (h : Q (some (.int (nI (rg_cnt (μ 2) 12)))) μ) : gJ Ln xs 0 mX4_numberAboveZero 0 (jm_en 6 [.ref 2]) [] μ Q := by
  show jm_J rg_I (rg_X Ln xs) 0 mX4_numberAboveZero 0 [some (.ref 2), none, none, none, none, none] [] μ Q
  refine jm_iconst (nI 0) dX4_numberAboveZero_0 rfl (by decide) ?_
  refine jm_istore_n dX4_numberAboveZero_1 rfl rfl rfl rfl ?_
  dsimp only [List.set]
  refine jm_aload_n dX4_numberAboveZero_2 rfl rfl rfl ?_
  refine jm_astore_n dX4_numberAboveZero_3 rfl rfl rfl rfl ?_
  dsimp only [List.set]
  refine jm_aload_n dX4_numberAboveZero_4 rfl rfl rfl ?_
  refine jm_alen dX4_numberAboveZero_5 rfl rfl rfl ?_
  refine jm_istore_n dX4_numberAboveZero_6 rfl rfl rfl rfl ?_
  dsimp only [List.set]
  refine jm_iconst (nI 0) dX4_numberAboveZero_7 rfl (by decide) ?_
  refine jm_istore dX4_numberAboveZero_8 rfl rfl rfl ?_
  dsimp only [List.set]
  exact l_X4_numh h 0 (by omega) none
set_option maxHeartbeats 1000000 in
theorem l_X4_numr {Ln : Nat} {xs : Nat → Int32} {μ : jm_Mem} {Q : Option Value → jm_Mem → Prop}  (h : Q (some (.int (nI (rg_cnt (μ 3) 12)))) μ) : ∀ i, i ≤ 12 → ∀ (v5 : Option Value), jm_J rg_I (rg_X Ln xs) 0 mX4_numberAboveZero 10 [some (.ref 3), some (.int (nI (rg_cnt (μ 3) i))), some (.ref 3), some (.int (nI 12)), some (.int (nI i)), v5] [] μ Q := by
  refine jm_for 12 ?_ ?_
  · intro v5
    refine jm_iload dX4_numberAboveZero_10 rfl rfl ?_
    refine jm_iload_n dX4_numberAboveZero_12 rfl rfl rfl ?_
    refine jm_icmp_ge (tgt := 36) dX4_numberAboveZero_13 (by decide) rfl (fun c13 => ?_) (fun c13 => absurd ((nI_leI (by omega) (by omega)).mpr (Nat.le_refl _)) c13)
    refine jm_iload_n dX4_numberAboveZero_36 rfl rfl rfl ?_
    refine jm_iret dX4_numberAboveZero_37 rfl rfl ?_
    exact h
  · intro i hi ih v5
    refine jm_iload dX4_numberAboveZero_10 rfl rfl ?_
    refine jm_iload_n dX4_numberAboveZero_12 rfl rfl rfl ?_
    refine jm_icmp_ge (tgt := 36) dX4_numberAboveZero_13 (by decide) rfl (fun c13 => absurd ((nI_leI (by omega) (by omega)).mp c13) (by omega)) (fun c13 => ?_)
    refine jm_aload_n dX4_numberAboveZero_16 rfl rfl rfl ?_
    refine jm_iload dX4_numberAboveZero_17 rfl rfl ?_
    refine jm_iald dX4_numberAboveZero_19 rfl rfl rfl (by decide) rfl (by first | assumption | omega) ?_
    refine jm_istore dX4_numberAboveZero_20 rfl rfl rfl ?_
    dsimp only [List.set]
    refine jm_iload dX4_numberAboveZero_22 rfl rfl ?_
    refine jm_if_le (tgt := 30) dX4_numberAboveZero_24 (by decide) rfl (fun c24 => ?_) (fun c24 => ?_)
    · refine jm_iinc (nI 1) dX4_numberAboveZero_30 rfl rfl (by decide) rfl rfl ?_
      dsimp only [List.set]
      refine jm_goto (n := 10) dX4_numberAboveZero_33 (by decide) ?_
      first | (rw [nI_add, nI_add]; have e := ih (some (.int (μ 3 i))); simp only [rg_cnt, if_neg c24] at e; exact e) | (rw [nI_add]; have e := ih (some (.int (μ 3 i))); simp only [rg_cnt, if_pos c24] at e; exact e) | fail "stop"
    · refine jm_iinc (nI 1) dX4_numberAboveZero_27 rfl rfl (by decide) rfl rfl ?_
      dsimp only [List.set]
      refine jm_iinc (nI 1) dX4_numberAboveZero_30 rfl rfl (by decide) rfl rfl ?_
      dsimp only [List.set]
      refine jm_goto (n := 10) dX4_numberAboveZero_33 (by decide) ?_
      first | (rw [nI_add, nI_add]; have e := ih (some (.int (μ 3 i))); simp only [rg_cnt, if_neg c24] at e; exact e) | (rw [nI_add]; have e := ih (some (.int (μ 3 i))); simp only [rg_cnt, if_pos c24] at e; exact e) | fail "stop"
set_option maxHeartbeats 400000 in
theorem s_X4_numr {Ln : Nat} {xs : Nat → Int32} {μ : jm_Mem} {Q : Option Value → jm_Mem → Prop}  (h : Q (some (.int (nI (rg_cnt (μ 3) 12)))) μ) : gJ Ln xs 0 mX4_numberAboveZero 0 (jm_en 6 [.ref 3]) [] μ Q := by
  show jm_J rg_I (rg_X Ln xs) 0 mX4_numberAboveZero 0 [some (.ref 3), none, none, none, none, none] [] μ Q
  refine jm_iconst (nI 0) dX4_numberAboveZero_0 rfl (by decide) ?_
  refine jm_istore_n dX4_numberAboveZero_1 rfl rfl rfl rfl ?_
  dsimp only [List.set]
  refine jm_aload_n dX4_numberAboveZero_2 rfl rfl rfl ?_
  refine jm_astore_n dX4_numberAboveZero_3 rfl rfl rfl rfl ?_
  dsimp only [List.set]
  refine jm_aload_n dX4_numberAboveZero_4 rfl rfl rfl ?_
  refine jm_alen dX4_numberAboveZero_5 rfl rfl rfl ?_
  refine jm_istore_n dX4_numberAboveZero_6 rfl rfl rfl rfl ?_
  dsimp only [List.set]
  refine jm_iconst (nI 0) dX4_numberAboveZero_7 rfl (by decide) ?_
  refine jm_istore dX4_numberAboveZero_8 rfl rfl rfl ?_
  dsimp only [List.set]
  exact l_X4_numr h 0 (by omega) none
set_option maxHeartbeats 400000 in
theorem s_X4_horsesStanding {Ln : Nat} {xs : Nat → Int32} {μ : jm_Mem} {Q : Option Value → jm_Mem → Prop}  (h : Q (some (.int (nI (rg_cnt (μ 2) 12)))) μ) : gJ Ln xs 1 mX4_horsesStanding 0 (jm_en 1 [.ref 1]) [] μ Q := by
  show jm_J rg_I (rg_X Ln xs) 1 mX4_horsesStanding 0 [some (.ref 1)] [] μ Q
  refine jm_aload_n dX4_horsesStanding_0 rfl rfl rfl ?_
  refine jm_getr dX4_horsesStanding_1 rfl fe_X4_9 rfl rfl rfl ?_
  refine jm_cS1 dX4_horsesStanding_4 rfl cb_X4_90 cs_X4_numberAboveZero (Nat.le_of_ble_eq_true rfl) (Nat.le_of_ble_eq_true rfl) (by decide) (s_X4_numh ?_)
  refine jm_iret dX4_horsesStanding_7 rfl rfl ?_
  exact h
set_option maxHeartbeats 400000 in
theorem s_X4_ridersSitting {Ln : Nat} {xs : Nat → Int32} {μ : jm_Mem} {Q : Option Value → jm_Mem → Prop}  (h : Q (some (.int (nI (rg_cnt (μ 3) 12)))) μ) : gJ Ln xs 1 mX4_ridersSitting 0 (jm_en 1 [.ref 1]) [] μ Q := by
  show jm_J rg_I (rg_X Ln xs) 1 mX4_ridersSitting 0 [some (.ref 1)] [] μ Q
  refine jm_aload_n dX4_ridersSitting_0 rfl rfl rfl ?_
  refine jm_getr dX4_ridersSitting_1 rfl fe_X4_15 rfl rfl rfl ?_
  refine jm_cS1 dX4_ridersSitting_4 rfl cb_X4_90 cs_X4_numberAboveZero (Nat.le_of_ble_eq_true rfl) (Nat.le_of_ble_eq_true rfl) (by decide) (s_X4_numr ?_)
  refine jm_iret dX4_ridersSitting_7 rfl rfl ?_
  exact h
set_option maxHeartbeats 400000 in
theorem s_X4_freeHorses {Ln : Nat} {xs : Nat → Int32} {μ : jm_Mem} {Q : Option Value → jm_Mem → Prop}  (h : Q (some (.int (nI (rg_cnt (μ 2) 12) - nI (rg_cnt (μ 3) 12)))) μ) : gJ Ln xs 2 mX4_freeHorses 0 (jm_en 1 [.ref 1]) [] μ Q := by
  show jm_J rg_I (rg_X Ln xs) 2 mX4_freeHorses 0 [some (.ref 1)] [] μ Q
  refine jm_aload_n dX4_freeHorses_0 rfl rfl rfl ?_
  refine jm_cV0 dX4_freeHorses_1 rfl cb_X4_94 ci_X4_horsesStanding cv_X4_horsesStanding rfl rfl rfl (Nat.le_of_ble_eq_true rfl) (Nat.le_of_ble_eq_true rfl) (by decide) (s_X4_horsesStanding ?_)
  refine jm_aload_n dX4_freeHorses_4 rfl rfl rfl ?_
  refine jm_cV0 dX4_freeHorses_5 rfl cb_X4_97 ci_X4_ridersSitting cv_X4_ridersSitting rfl rfl rfl (Nat.le_of_ble_eq_true rfl) (Nat.le_of_ble_eq_true rfl) (by decide) (s_X4_ridersSitting ?_)
  refine jm_isub dX4_freeHorses_8 rfl ?_
  refine jm_iret dX4_freeHorses_9 rfl rfl ?_
  exact h
set_option maxHeartbeats 1000000 in
theorem l_X4_tar {Ln : Nat} {xs : Nat → Int32} {μ : jm_Mem} {Q : Option Value → jm_Mem → Prop}  (h : Q none (rg_tar μ 12)) : ∀ i, i ≤ 12 → jm_J rg_I (rg_X Ln xs) 3 mX4_takeAllRiders 2 [some (.ref 1), some (.int (nI i))] [] (rg_tar μ i) Q := by
  refine jm_for 12 ?_ ?_
  · skip
    refine jm_iload_n dX4_takeAllRiders_2 rfl rfl rfl ?_
    refine jm_bipush (nI 12) dX4_takeAllRiders_3 rfl (by decide) ?_
    refine jm_icmp_ge (tgt := 20) dX4_takeAllRiders_5 (by decide) rfl (fun c5 => ?_) (fun c5 => absurd ((nI_leI (by omega) (by omega)).mpr (Nat.le_refl _)) c5)
    refine jm_vret dX4_takeAllRiders_20 rfl ?_
    exact h
  · intro i hi ih 
    refine jm_iload_n dX4_takeAllRiders_2 rfl rfl rfl ?_
    refine jm_bipush (nI 12) dX4_takeAllRiders_3 rfl (by decide) ?_
    refine jm_icmp_ge (tgt := 20) dX4_takeAllRiders_5 (by decide) rfl (fun c5 => absurd ((nI_leI (by omega) (by omega)).mp c5) (by omega)) (fun c5 => ?_)
    refine jm_aload_n dX4_takeAllRiders_8 rfl rfl rfl ?_
    refine jm_iload_n dX4_takeAllRiders_9 rfl rfl rfl ?_
    refine jm_cV1 dX4_takeAllRiders_10 rfl cb_X4_51 ci_X4_takeRider cv_X4_takeRider rfl rfl rfl (Nat.le_of_ble_eq_true rfl) (Nat.le_of_ble_eq_true rfl) (by decide) (s_X4_takeRider hi ?_)
    refine jm_pop dX4_takeAllRiders_13 rfl rfl ?_
    refine jm_iinc (nI 1) dX4_takeAllRiders_14 rfl rfl (by decide) rfl rfl ?_
    dsimp only [List.set]
    refine jm_goto (n := 2) dX4_takeAllRiders_17 (by decide) ?_
    rw [nI_add]; exact ih
set_option maxHeartbeats 400000 in
theorem s_X4_takeAllRiders {Ln : Nat} {xs : Nat → Int32} {μ : jm_Mem} {Q : Option Value → jm_Mem → Prop}  (h : Q none (rg_tar μ 12)) : gJ Ln xs 3 mX4_takeAllRiders 0 (jm_en 2 [.ref 1]) [] μ Q := by
  show jm_J rg_I (rg_X Ln xs) 3 mX4_takeAllRiders 0 [some (.ref 1), none] [] μ Q
  refine jm_iconst (nI 0) dX4_takeAllRiders_0 rfl (by decide) ?_
  refine jm_istore_n dX4_takeAllRiders_1 rfl rfl rfl rfl ?_
  dsimp only [List.set]
  exact l_X4_tar h 0 (by omega)
set_option maxHeartbeats 1000000 in
theorem l_X4_bestHorse {Ln : Nat} {xs : Nat → Int32} {μ : jm_Mem} {Q : Option Value → jm_Mem → Prop} {w : Int32} (h : Q (some (.int (rg_bst (rg_okw μ w) (fun j => rg_shw μ j w) 12).1)) μ) : ∀ i, i ≤ 12 → ∀ (v5 : Option Value), jm_J rg_I (rg_X Ln xs) 3 mX4_bestHorse 7 [some (.ref 1), some (.int w), some (.int (rg_bst (rg_okw μ w) (fun j => rg_shw μ j w) i).1), some (.int (rg_bst (rg_okw μ w) (fun j => rg_shw μ j w) i).2), some (.int (nI i)), v5] [] μ Q := by
  refine jm_for 12 ?_ ?_
  · intro v5
    refine jm_iload dX4_bestHorse_7 rfl rfl ?_
    refine jm_bipush (nI 12) dX4_bestHorse_9 rfl (by decide) ?_
    refine jm_icmp_ge (tgt := 65) dX4_bestHorse_11 (by decide) rfl (fun c11 => ?_) (fun c11 => absurd ((nI_leI (by omega) (by omega)).mpr (Nat.le_refl _)) c11)
    refine jm_iload_n dX4_bestHorse_65 rfl rfl rfl ?_
    refine jm_iret dX4_bestHorse_66 rfl rfl ?_
    exact h
  · intro i hi ih v5
    refine jm_iload dX4_bestHorse_7 rfl rfl ?_
    refine jm_bipush (nI 12) dX4_bestHorse_9 rfl (by decide) ?_
    refine jm_icmp_ge (tgt := 65) dX4_bestHorse_11 (by decide) rfl (fun c11 => absurd ((nI_leI (by omega) (by omega)).mp c11) (by omega)) (fun c11 => ?_)
    refine jm_aload_n dX4_bestHorse_14 rfl rfl rfl ?_
    refine jm_iload dX4_bestHorse_15 rfl rfl ?_
    refine jm_cV1 dX4_bestHorse_17 rfl cb_X4_84 ci_X4_isFree cv_X4_isFree rfl rfl rfl (Nat.le_of_ble_eq_true rfl) (Nat.le_of_ble_eq_true rfl) (by decide) (s_X4_isFree hi (fun ch cr => ?_) (fun cf => ?_))
    · refine jm_if_eq (tgt := 59) dX4_bestHorse_20 (by decide) rfl (fun c20 => absurd c20 (by decide)) (fun c20 => ?_)
      refine jm_aload_n dX4_bestHorse_23 rfl rfl rfl ?_
      refine jm_iload dX4_bestHorse_24 rfl rfl ?_
      refine jm_iload_n dX4_bestHorse_26 rfl rfl rfl ?_
      refine jm_cV2 dX4_bestHorse_27 rfl cb_X4_87 ci_X4_mayTurnWith cv_X4_mayTurnWith rfl rfl rfl (Nat.le_of_ble_eq_true rfl) (Nat.le_of_ble_eq_true rfl) (by decide) (s_X4_mayTurnWith hi (fun cl => ?_) (fun cl => ?_))
      · have ho : rg_okw μ w i = true := decide_eq_true ⟨ch, cr, cl⟩
        refine jm_if_eq (tgt := 59) dX4_bestHorse_30 (by decide) rfl (fun c30 => absurd c30 (by decide)) (fun c30 => ?_)
        refine jm_aload_n dX4_bestHorse_33 rfl rfl rfl ?_
        refine jm_iload dX4_bestHorse_34 rfl rfl ?_
        refine jm_iload_n dX4_bestHorse_36 rfl rfl rfl ?_
        refine jm_cV2 dX4_bestHorse_37 rfl cb_X4_76 ci_X4_shakeWith cv_X4_shakeWith rfl rfl rfl (Nat.le_of_ble_eq_true rfl) (Nat.le_of_ble_eq_true rfl) (by decide) (s_X4_shakeWith hi ?_)
        refine jm_istore dX4_bestHorse_40 rfl rfl rfl ?_
        dsimp only [List.set]
        refine jm_iload_n dX4_bestHorse_42 rfl rfl rfl ?_
        refine jm_iconst (-1) dX4_bestHorse_43 rfl (by decide) ?_
        refine jm_icmp_eq (tgt := 53) dX4_bestHorse_44 (by decide) rfl (fun c44 => ?_) (fun c44 => ?_)
        · refine jm_iload dX4_bestHorse_53 rfl rfl ?_
          refine jm_istore_n dX4_bestHorse_55 rfl rfl rfl rfl ?_
          dsimp only [List.set]
          refine jm_iload dX4_bestHorse_56 rfl rfl ?_
          refine jm_istore_n dX4_bestHorse_58 rfl rfl rfl rfl ?_
          dsimp only [List.set]
          refine jm_iinc (nI 1) dX4_bestHorse_59 rfl rfl (by decide) rfl rfl ?_
          dsimp only [List.set]
          refine jm_goto (n := 7) dX4_bestHorse_62 (by decide) ?_
          rw [nI_add]
          first | (have e := ih v5; rw [rg_bst_no ho] at e; exact e) | (have e := ih (some (.int (rg_shw μ i w))); rw [rg_bst_yes ho (Or.inl c44)] at e; exact e) | (have e := ih (some (.int (rg_shw μ i w))); rw [rg_bst_yes ho (Or.inr (Int32.not_le.mp c50))] at e; exact e) | (have e := ih (some (.int (rg_shw μ i w))); rw [rg_bst_ge c44 c50] at e; exact e) | fail "stop"
        · refine jm_iload dX4_bestHorse_47 rfl rfl ?_
          refine jm_iload_n dX4_bestHorse_49 rfl rfl rfl ?_
          refine jm_icmp_ge (tgt := 59) dX4_bestHorse_50 (by decide) rfl (fun c50 => ?_) (fun c50 => ?_)
          · refine jm_iinc (nI 1) dX4_bestHorse_59 rfl rfl (by decide) rfl rfl ?_
            dsimp only [List.set]
            refine jm_goto (n := 7) dX4_bestHorse_62 (by decide) ?_
            rw [nI_add]
            first | (have e := ih v5; rw [rg_bst_no ho] at e; exact e) | (have e := ih (some (.int (rg_shw μ i w))); rw [rg_bst_yes ho (Or.inl c44)] at e; exact e) | (have e := ih (some (.int (rg_shw μ i w))); rw [rg_bst_yes ho (Or.inr (Int32.not_le.mp c50))] at e; exact e) | (have e := ih (some (.int (rg_shw μ i w))); rw [rg_bst_ge c44 c50] at e; exact e) | fail "stop"
          · refine jm_iload dX4_bestHorse_53 rfl rfl ?_
            refine jm_istore_n dX4_bestHorse_55 rfl rfl rfl rfl ?_
            dsimp only [List.set]
            refine jm_iload dX4_bestHorse_56 rfl rfl ?_
            refine jm_istore_n dX4_bestHorse_58 rfl rfl rfl rfl ?_
            dsimp only [List.set]
            refine jm_iinc (nI 1) dX4_bestHorse_59 rfl rfl (by decide) rfl rfl ?_
            dsimp only [List.set]
            refine jm_goto (n := 7) dX4_bestHorse_62 (by decide) ?_
            rw [nI_add]
            first | (have e := ih v5; rw [rg_bst_no ho] at e; exact e) | (have e := ih (some (.int (rg_shw μ i w))); rw [rg_bst_yes ho (Or.inl c44)] at e; exact e) | (have e := ih (some (.int (rg_shw μ i w))); rw [rg_bst_yes ho (Or.inr (Int32.not_le.mp c50))] at e; exact e) | (have e := ih (some (.int (rg_shw μ i w))); rw [rg_bst_ge c44 c50] at e; exact e) | fail "stop"
      · have ho : rg_okw μ w i = false := decide_eq_false (fun h => cl h.2.2)
        refine jm_if_eq (tgt := 59) dX4_bestHorse_30 (by decide) rfl (fun c30 => ?_) (fun c30 => absurd c30 (by decide))
        refine jm_iinc (nI 1) dX4_bestHorse_59 rfl rfl (by decide) rfl rfl ?_
        dsimp only [List.set]
        refine jm_goto (n := 7) dX4_bestHorse_62 (by decide) ?_
        rw [nI_add]
        first | (have e := ih v5; rw [rg_bst_no ho] at e; exact e) | (have e := ih (some (.int (rg_shw μ i w))); rw [rg_bst_yes ho (Or.inl c44)] at e; exact e) | (have e := ih (some (.int (rg_shw μ i w))); rw [rg_bst_yes ho (Or.inr (Int32.not_le.mp c50))] at e; exact e) | (have e := ih (some (.int (rg_shw μ i w))); rw [rg_bst_ge c44 c50] at e; exact e) | fail "stop"
    · have ho : rg_okw μ w i = false := decide_eq_false (fun h => cf.elim (fun c => h.1 c) (fun c => c h.2.1))
      refine jm_if_eq (tgt := 59) dX4_bestHorse_20 (by decide) rfl (fun c20 => ?_) (fun c20 => absurd c20 (by decide))
      refine jm_iinc (nI 1) dX4_bestHorse_59 rfl rfl (by decide) rfl rfl ?_
      dsimp only [List.set]
      refine jm_goto (n := 7) dX4_bestHorse_62 (by decide) ?_
      rw [nI_add]
      first | (have e := ih v5; rw [rg_bst_no ho] at e; exact e) | (have e := ih (some (.int (rg_shw μ i w))); rw [rg_bst_yes ho (Or.inl c44)] at e; exact e) | (have e := ih (some (.int (rg_shw μ i w))); rw [rg_bst_yes ho (Or.inr (Int32.not_le.mp c50))] at e; exact e) | (have e := ih (some (.int (rg_shw μ i w))); rw [rg_bst_ge c44 c50] at e; exact e) | fail "stop"
set_option maxHeartbeats 400000 in
theorem s_X4_bestHorse {Ln : Nat} {xs : Nat → Int32} {μ : jm_Mem} {Q : Option Value → jm_Mem → Prop} {w : Int32} (h : Q (some (.int (rg_bst (rg_okw μ w) (fun j => rg_shw μ j w) 12).1)) μ) : gJ Ln xs 3 mX4_bestHorse 0 (jm_en 6 [.ref 1, .int w]) [] μ Q := by
  show jm_J rg_I (rg_X Ln xs) 3 mX4_bestHorse 0 [some (.ref 1), some (.int w), none, none, none, none] [] μ Q
  refine jm_iconst (-1) dX4_bestHorse_0 rfl (by decide) ?_
  refine jm_istore_n dX4_bestHorse_1 rfl rfl rfl rfl ?_
  dsimp only [List.set]
  refine jm_iconst (nI 0) dX4_bestHorse_2 rfl (by decide) ?_
  refine jm_istore_n dX4_bestHorse_3 rfl rfl rfl rfl ?_
  dsimp only [List.set]
  refine jm_iconst (nI 0) dX4_bestHorse_4 rfl (by decide) ?_
  refine jm_istore dX4_bestHorse_5 rfl rfl rfl ?_
  dsimp only [List.set]
  exact l_X4_bestHorse h 0 (by omega) none
set_option maxHeartbeats 400000 in
theorem s_X1_paintOver {Ln : Nat} {xs : Nat → Int32} {μ : jm_Mem} {Q : Option Value → jm_Mem → Prop} {j m : Nat} {c : Int32} (hj : j < 12) (hm : μ 10 j = nI m) (h8 : m < 8) (h : Q none (jm_set (jm_set μ 9 (8 * j + m) c) 10 j (nI (m + 1)))) : gJ Ln xs 0 mX1_paintOver 0 (jm_en 3 [.ref 8, .int (nI j), .int c]) [] μ Q := by
  show jm_J rg_I (rg_X Ln xs) 0 mX1_paintOver 0 [some (.ref 8), some (.int (nI j)), some (.int c)] [] μ Q
  refine jm_aload_n dX1_paintOver_0 rfl rfl rfl ?_
  refine jm_getr dX1_paintOver_1 rfl fe_X1_9 rfl rfl rfl ?_
  refine jm_bipush (nI 8) dX1_paintOver_4 rfl (by decide) ?_
  refine jm_iload_n dX1_paintOver_6 rfl rfl rfl ?_
  refine jm_imul dX1_paintOver_7 rfl ?_
  refine jm_aload_n dX1_paintOver_8 rfl rfl rfl ?_
  refine jm_getr dX1_paintOver_9 rfl fe_X1_15 rfl rfl rfl ?_
  refine jm_iload_n dX1_paintOver_12 rfl rfl rfl ?_
  refine jm_iald dX1_paintOver_13 rfl rfl rfl (by decide) rfl (by first | assumption | omega) ?_
  refine jm_iadd dX1_paintOver_14 rfl ?_
  refine jm_iload_n dX1_paintOver_15 rfl rfl rfl ?_
  refine jm_iast dX1_paintOver_16 rfl rfl rfl (by decide) (by rw [hm, pk_mul, nI_add]) (by omega) ?_
  refine jm_aload_n dX1_paintOver_17 rfl rfl rfl ?_
  refine jm_getr dX1_paintOver_18 rfl fe_X1_15 rfl rfl rfl ?_
  refine jm_iload_n dX1_paintOver_21 rfl rfl rfl ?_
  refine jm_dup2 dX1_paintOver_22 rfl rfl rfl ?_
  refine jm_iald dX1_paintOver_23 rfl rfl rfl (by decide) rfl (by first | assumption | omega) ?_
  refine jm_iconst (nI 1) dX1_paintOver_24 rfl (by decide) ?_
  refine jm_iadd dX1_paintOver_25 rfl ?_
  refine jm_iast dX1_paintOver_26 rfl rfl rfl (by decide) rfl (by first | assumption | omega) ?_
  refine jm_vret dX1_paintOver_27 rfl ?_
  refine rd_q h ?_
  rw [rd_na (by decide), hm, nI_add]
set_option maxHeartbeats 400000 in
theorem s_X1_clear {Ln : Nat} {xs : Nat → Int32} {μ : jm_Mem} {Q : Option Value → jm_Mem → Prop} {j : Nat} (hj : j < 12) (h : Q none (jm_set μ 10 j 0)) : gJ Ln xs 0 mX1_clear 0 (jm_en 2 [.ref 8, .int (nI j)]) [] μ Q := by
  show jm_J rg_I (rg_X Ln xs) 0 mX1_clear 0 [some (.ref 8), some (.int (nI j))] [] μ Q
  refine jm_aload_n dX1_clear_0 rfl rfl rfl ?_
  refine jm_getr dX1_clear_1 rfl fe_X1_15 rfl rfl rfl ?_
  refine jm_iload_n dX1_clear_4 rfl rfl rfl ?_
  refine jm_iconst (nI 0) dX1_clear_5 rfl (by decide) ?_
  refine jm_iast dX1_clear_6 rfl rfl rfl (by decide) rfl (by first | assumption | omega) ?_
  refine jm_vret dX1_clear_7 rfl ?_
  exact h
set_option maxHeartbeats 400000 in
theorem s_X1_takeOff {Ln : Nat} {xs : Nat → Int32} {μ : jm_Mem} {Q : Option Value → jm_Mem → Prop} {j : Nat} {v : Int32} (hj : j < 12) (h : Q none (jm_set μ 10 j (μ 10 j - v))) : gJ Ln xs 0 mX1_takeOff 0 (jm_en 3 [.ref 8, .int (nI j), .int v]) [] μ Q := by
  show jm_J rg_I (rg_X Ln xs) 0 mX1_takeOff 0 [some (.ref 8), some (.int (nI j)), some (.int v)] [] μ Q
  refine jm_aload_n dX1_takeOff_0 rfl rfl rfl ?_
  refine jm_getr dX1_takeOff_1 rfl fe_X1_15 rfl rfl rfl ?_
  refine jm_iload_n dX1_takeOff_4 rfl rfl rfl ?_
  refine jm_dup2 dX1_takeOff_5 rfl rfl rfl ?_
  refine jm_iald dX1_takeOff_6 rfl rfl rfl (by decide) rfl (by first | assumption | omega) ?_
  refine jm_iload_n dX1_takeOff_7 rfl rfl rfl ?_
  refine jm_isub dX1_takeOff_8 rfl ?_
  refine jm_iast dX1_takeOff_9 rfl rfl rfl (by decide) rfl (by first | assumption | omega) ?_
  refine jm_vret dX1_takeOff_10 rfl ?_
  exact h
set_option maxHeartbeats 400000 in
theorem s_X1_colourAtDepth {Ln : Nat} {xs : Nat → Int32} {μ : jm_Mem} {Q : Option Value → jm_Mem → Prop} {j m : Nat} {k : Int32} (hj : j < 12) (hm : μ 10 j = nI m) (h8 : m ≤ 8) (h1 : ∀ i, i < m → k = nI i → Q (some (.int (μ 9 (8 * j + m - 1 - i)))) μ) (h0 : k < nI 0 ∨ nI m - nI 1 < k → Q (some (.int (-1))) μ) : gJ Ln xs 1 mX1_colourAtDepth 0 (jm_en 3 [.ref 8, .int (nI j), .int k]) [] μ Q := by
  show jm_J rg_I (rg_X Ln xs) 1 mX1_colourAtDepth 0 [some (.ref 8), some (.int (nI j)), some (.int k)] [] μ Q
  refine jm_iload_n dX1_colourAtDepth_0 rfl rfl rfl ?_
  refine jm_iconst (nI 0) dX1_colourAtDepth_1 rfl (by decide) ?_
  refine jm_aload_n dX1_colourAtDepth_2 rfl rfl rfl ?_
  refine jm_getr dX1_colourAtDepth_3 rfl fe_X1_15 rfl rfl rfl ?_
  refine jm_iload_n dX1_colourAtDepth_6 rfl rfl rfl ?_
  refine jm_iald dX1_colourAtDepth_7 rfl rfl rfl (by decide) rfl (by first | assumption | omega) ?_
  refine jm_iconst (nI 1) dX1_colourAtDepth_8 rfl (by decide) ?_
  refine jm_isub dX1_colourAtDepth_9 rfl ?_
  refine jm_cS3 dX1_colourAtDepth_10 rfl cb_X1_18 cs_X6_isWithin (Nat.le_of_ble_eq_true rfl) (Nat.le_of_ble_eq_true rfl) (by decide) (s_X6_isWithin (fun c1 c2 => ?_) (fun c1 => ?_))
  · rw [hm] at c2
    obtain ⟨i, hi, rfl⟩ := rg_dep h8 c1 c2
    refine jm_if_ne (tgt := 18) dX1_colourAtDepth_13 (by decide) rfl (fun c13 => ?_) (fun c13 => absurd c13 (by decide))
    refine jm_aload_n dX1_colourAtDepth_18 rfl rfl rfl ?_
    refine jm_getr dX1_colourAtDepth_19 rfl fe_X1_9 rfl rfl rfl ?_
    refine jm_bipush (nI 8) dX1_colourAtDepth_22 rfl (by decide) ?_
    refine jm_iload_n dX1_colourAtDepth_24 rfl rfl rfl ?_
    refine jm_imul dX1_colourAtDepth_25 rfl ?_
    refine jm_aload_n dX1_colourAtDepth_26 rfl rfl rfl ?_
    refine jm_getr dX1_colourAtDepth_27 rfl fe_X1_15 rfl rfl rfl ?_
    refine jm_iload_n dX1_colourAtDepth_30 rfl rfl rfl ?_
    refine jm_iald dX1_colourAtDepth_31 rfl rfl rfl (by decide) rfl (by first | assumption | omega) ?_
    refine jm_iadd dX1_colourAtDepth_32 rfl ?_
    refine jm_iconst (nI 1) dX1_colourAtDepth_33 rfl (by decide) ?_
    refine jm_isub dX1_colourAtDepth_34 rfl ?_
    refine jm_iload_n dX1_colourAtDepth_35 rfl rfl rfl ?_
    refine jm_isub dX1_colourAtDepth_36 rfl ?_
    refine jm_iald dX1_colourAtDepth_37 rfl rfl rfl (by decide) (by rw [hm, pk_mul, nI_add, pk_sub (by omega), pk_sub (by omega)]) (by omega) ?_
    refine jm_iret dX1_colourAtDepth_38 rfl rfl ?_
    first | exact h0 c1 | exact h1 i hi rfl | fail "leaf"
  · rw [hm] at c1
    refine jm_if_ne (tgt := 18) dX1_colourAtDepth_13 (by decide) rfl (fun c13 => absurd c13 (by decide)) (fun c13 => ?_)
    refine jm_iconst (-1) dX1_colourAtDepth_16 rfl (by decide) ?_
    refine jm_iret dX1_colourAtDepth_17 rfl rfl ?_
    first | exact h0 c1 | exact h1 i hi rfl | fail "leaf"
set_option maxHeartbeats 1000000 in
theorem l_X1_depthOf {Ln : Nat} {xs : Nat → Int32} {μ : jm_Mem} {Q : Option Value → jm_Mem → Prop} {j m : Nat} {c : Int32} (hj : j < 12) (hm : μ 10 j = nI m) (h8 : m ≤ 8) (h1 : ∀ k, k < m → μ 9 (8 * j + m - 1 - k) = c → (∀ i, i < k → ¬ μ 9 (8 * j + m - 1 - i) = c) → Q (some (.int (nI k))) μ) (h0 : (∀ i, i < m → ¬ μ 9 (8 * j + m - 1 - i) = c) → Q (some (.int (-1))) μ) : ∀ i, i ≤ m → ∀ (hb : ∀ i2, i2 < i → ¬ μ 9 (8 * j + m - 1 - i2) = c), jm_J rg_I (rg_X Ln xs) 2 mX1_depthOf 2 [some (.ref 8), some (.int (nI j)), some (.int c), some (.int (nI i))] [] μ Q := by
  refine jm_for m ?_ ?_
  · intro hb
    refine jm_iload_n dX1_depthOf_2 rfl rfl rfl ?_
    refine jm_aload_n dX1_depthOf_3 rfl rfl rfl ?_
    refine jm_getr dX1_depthOf_4 rfl fe_X1_15 rfl rfl rfl ?_
    refine jm_iload_n dX1_depthOf_7 rfl rfl rfl ?_
    refine jm_iald dX1_depthOf_8 rfl rfl rfl (by decide) rfl (by first | assumption | omega) ?_
    refine jm_icmp_ge (tgt := 30) dX1_depthOf_9 (by decide) rfl (fun c9 => ?_) (fun c9 => absurd (by rw [hm]; exact (nI_leI (by omega) (by omega)).mpr (Nat.le_refl _)) c9)
    refine jm_iconst (-1) dX1_depthOf_30 rfl (by decide) ?_
    refine jm_iret dX1_depthOf_31 rfl rfl ?_
    exact h0 hb
  · intro i hi ih hb
    refine jm_iload_n dX1_depthOf_2 rfl rfl rfl ?_
    refine jm_aload_n dX1_depthOf_3 rfl rfl rfl ?_
    refine jm_getr dX1_depthOf_4 rfl fe_X1_15 rfl rfl rfl ?_
    refine jm_iload_n dX1_depthOf_7 rfl rfl rfl ?_
    refine jm_iald dX1_depthOf_8 rfl rfl rfl (by decide) rfl (by first | assumption | omega) ?_
    refine jm_icmp_ge (tgt := 30) dX1_depthOf_9 (by decide) rfl (fun c9 => absurd ((nI_leI (by omega) (by omega)).mp (hm ▸ c9)) (by omega)) (fun c9 => ?_)
    refine jm_aload_n dX1_depthOf_12 rfl rfl rfl ?_
    refine jm_iload_n dX1_depthOf_13 rfl rfl rfl ?_
    refine jm_iload_n dX1_depthOf_14 rfl rfl rfl ?_
    refine jm_cV2 dX1_depthOf_15 rfl cb_X1_22 ci_X1_colourAtDepth cv_X1_colourAtDepth rfl rfl rfl (Nat.le_of_ble_eq_true rfl) (Nat.le_of_ble_eq_true rfl) (by decide) (s_X1_colourAtDepth hj hm h8 (fun i2 hi2 e => ?_) (fun c0 => ?_))
    · have e := (nI_eq (by omega) (by omega)).mp e
      subst e
      refine jm_iload_n dX1_depthOf_18 rfl rfl rfl ?_
      refine jm_icmp_ne (tgt := 24) dX1_depthOf_19 (by decide) rfl (fun c19 => ?_) (fun c19 => ?_)
      · refine jm_iinc (nI 1) dX1_depthOf_24 rfl rfl (by decide) rfl rfl ?_
        dsimp only [List.set]
        refine jm_goto (n := 2) dX1_depthOf_27 (by decide) ?_
        rw [nI_add]
        exact ih (fun i2 h2 => if e : i2 = i then by rw [e]; exact c19 else hb i2 (by omega))
      · refine jm_iload_n dX1_depthOf_22 rfl rfl rfl ?_
        refine jm_iret dX1_depthOf_23 rfl rfl ?_
        exact h1 i hi c19 hb
    · exact absurd (rg_depn h8 hi c0) id
set_option maxHeartbeats 400000 in
theorem s_X1_depthOf {Ln : Nat} {xs : Nat → Int32} {μ : jm_Mem} {Q : Option Value → jm_Mem → Prop} {j m : Nat} {c : Int32} (hj : j < 12) (hm : μ 10 j = nI m) (h8 : m ≤ 8) (h1 : ∀ k, k < m → μ 9 (8 * j + m - 1 - k) = c → (∀ i, i < k → ¬ μ 9 (8 * j + m - 1 - i) = c) → Q (some (.int (nI k))) μ) (h0 : (∀ i, i < m → ¬ μ 9 (8 * j + m - 1 - i) = c) → Q (some (.int (-1))) μ) : gJ Ln xs 2 mX1_depthOf 0 (jm_en 4 [.ref 8, .int (nI j), .int c]) [] μ Q := by
  show jm_J rg_I (rg_X Ln xs) 2 mX1_depthOf 0 [some (.ref 8), some (.int (nI j)), some (.int c), none] [] μ Q
  refine jm_iconst (nI 0) dX1_depthOf_0 rfl (by decide) ?_
  refine jm_istore_n dX1_depthOf_1 rfl rfl rfl rfl ?_
  dsimp only [List.set]
  exact l_X1_depthOf hj hm h8 h1 h0 0 (by omega) (fun _ h => absurd h (by omega))
set_option maxHeartbeats 1000000 in
theorem l_X1_mixCoats {Ln : Nat} {xs : Nat → Int32} {μ : jm_Mem} {Q : Option Value → jm_Mem → Prop} {j m : Nat} {g h : Int64} (hj : j < 12) (hm : μ 10 j = nI m) (h8 : m ≤ 8) (hq : Q (some (.long (rg_mx (fun i => μ 9 (8 * j + i)) m h))) μ) : ∀ i, i ≤ m → jm_J rg_I (rg_X Ln xs) 1 mX1_mixCoats 15 [some (.ref 8), some (.long g), none, some (.int (nI j)), some (.long (rg_mx (fun i => μ 9 (8 * j + i)) i h)), none, some (.int (nI i))] [] μ Q := by
  refine jm_for m ?_ ?_
  · skip
    refine jm_iload dX1_mixCoats_15 rfl rfl ?_
    refine jm_aload_n dX1_mixCoats_17 rfl rfl rfl ?_
    refine jm_getr dX1_mixCoats_18 rfl fe_X1_15 rfl rfl rfl ?_
    refine jm_iload_n dX1_mixCoats_21 rfl rfl rfl ?_
    refine jm_iald dX1_mixCoats_22 rfl rfl rfl (by decide) rfl (by first | assumption | omega) ?_
    refine jm_icmp_ge (tgt := 51) dX1_mixCoats_23 (by decide) rfl (fun c23 => ?_) (fun c23 => absurd (by rw [hm]; exact (nI_leI (by omega) (by omega)).mpr (Nat.le_refl _)) c23)
    refine jm_lload dX1_mixCoats_51 rfl rfl ?_
    refine jm_lret dX1_mixCoats_53 rfl ?_
    exact hq
  · intro i hi ih 
    refine jm_iload dX1_mixCoats_15 rfl rfl ?_
    refine jm_aload_n dX1_mixCoats_17 rfl rfl rfl ?_
    refine jm_getr dX1_mixCoats_18 rfl fe_X1_15 rfl rfl rfl ?_
    refine jm_iload_n dX1_mixCoats_21 rfl rfl rfl ?_
    refine jm_iald dX1_mixCoats_22 rfl rfl rfl (by decide) rfl (by first | assumption | omega) ?_
    refine jm_icmp_ge (tgt := 51) dX1_mixCoats_23 (by decide) rfl (fun c23 => absurd ((nI_leI (by omega) (by omega)).mp (hm ▸ c23)) (by omega)) (fun c23 => ?_)
    refine jm_lload dX1_mixCoats_26 rfl rfl ?_
    refine jm_aload_n dX1_mixCoats_28 rfl rfl rfl ?_
    refine jm_getr dX1_mixCoats_29 rfl fe_X1_9 rfl rfl rfl ?_
    refine jm_bipush (nI 8) dX1_mixCoats_32 rfl (by decide) ?_
    refine jm_iload_n dX1_mixCoats_34 rfl rfl rfl ?_
    refine jm_imul dX1_mixCoats_35 rfl ?_
    refine jm_iload dX1_mixCoats_36 rfl rfl ?_
    refine jm_iadd dX1_mixCoats_38 rfl ?_
    refine jm_iald dX1_mixCoats_39 rfl rfl rfl (by decide) (by rw [pk_mul, nI_add]) (by omega) ?_
    refine jm_cS2 dX1_mixCoats_40 rfl cb_X1_26 cs_X6_mix (Nat.le_of_ble_eq_true rfl) (Nat.le_of_ble_eq_true rfl) (by decide) (s_X6_mix ?_)
    refine jm_lstore dX1_mixCoats_43 rfl rfl rfl ?_
    dsimp only [List.set]
    refine jm_iinc (nI 1) dX1_mixCoats_45 rfl rfl (by decide) rfl rfl ?_
    dsimp only [List.set]
    refine jm_goto (n := 15) dX1_mixCoats_48 (by decide) ?_
    rw [nI_add]; exact ih
set_option maxHeartbeats 400000 in
theorem s_X1_mixCoats {Ln : Nat} {xs : Nat → Int32} {μ : jm_Mem} {Q : Option Value → jm_Mem → Prop} {j m : Nat} {g : Int64} (hj : j < 12) (hm : μ 10 j = nI m) (h8 : m ≤ 8) (hq : Q (some (.long (rg_mx (fun i => μ 9 (8 * j + i)) m (31 * g + (nI m).toInt64)))) μ) : gJ Ln xs 1 mX1_mixCoats 0 (jm_en 7 [.ref 8, .long g, .int (nI j)]) [] μ Q := by
  show jm_J rg_I (rg_X Ln xs) 1 mX1_mixCoats 0 [some (.ref 8), some (.long g), none, some (.int (nI j)), none, none, none] [] μ Q
  refine jm_lload_n dX1_mixCoats_0 rfl rfl rfl ?_
  refine jm_aload_n dX1_mixCoats_1 rfl rfl rfl ?_
  refine jm_getr dX1_mixCoats_2 rfl fe_X1_15 rfl rfl rfl ?_
  refine jm_iload_n dX1_mixCoats_5 rfl rfl rfl ?_
  refine jm_iald dX1_mixCoats_6 rfl rfl rfl (by decide) rfl (by first | assumption | omega) ?_
  refine jm_cS2 dX1_mixCoats_7 rfl cb_X1_26 cs_X6_mix (Nat.le_of_ble_eq_true rfl) (Nat.le_of_ble_eq_true rfl) (by decide) (s_X6_mix ?_)
  refine jm_lstore dX1_mixCoats_10 rfl rfl rfl ?_
  dsimp only [List.set]
  refine jm_iconst (nI 0) dX1_mixCoats_12 rfl (by decide) ?_
  refine jm_istore dX1_mixCoats_13 rfl rfl rfl ?_
  dsimp only [List.set]
  rw [hm]; exact l_X1_mixCoats hj hm h8 hq 0 (by omega)
set_option maxHeartbeats 1000000 in
theorem l_X3_areOwn {Ln : Nat} {xs : Nat → Int32} {μ : jm_Mem} {Q : Option Value → jm_Mem → Prop} {j : Nat} (hj : j < 12) (h1 : (∀ i, i < 4 → μ 12 (4 * j + i) = nI (4 * j + i)) → Q (some (.int 1)) μ) (h0 : ∀ i, i < 4 → ¬ μ 12 (4 * j + i) = nI (4 * j + i) → Q (some (.int 0)) μ) : ∀ i, i ≤ 4 → ∀ (hb : ∀ i2, i2 < i → μ 12 (4 * j + i2) = nI (4 * j + i2)), jm_J rg_I (rg_X Ln xs) 1 mX3_areOwn 2 [some (.ref 11), some (.int (nI j)), some (.int (nI i))] [] μ Q := by
  refine jm_for 4 ?_ ?_
  · intro hb
    refine jm_iload_n dX3_areOwn_2 rfl rfl rfl ?_
    refine jm_iconst (nI 4) dX3_areOwn_3 rfl (by decide) ?_
    refine jm_icmp_ge (tgt := 33) dX3_areOwn_4 (by decide) rfl (fun c4 => ?_) (fun c4 => absurd ((nI_leI (by omega) (by omega)).mpr (Nat.le_refl _)) c4)
    refine jm_iconst (nI 1) dX3_areOwn_33 rfl (by decide) ?_
    refine jm_iret dX3_areOwn_34 rfl rfl ?_
    exact h1 hb
  · intro i hi ih hb
    refine jm_iload_n dX3_areOwn_2 rfl rfl rfl ?_
    refine jm_iconst (nI 4) dX3_areOwn_3 rfl (by decide) ?_
    refine jm_icmp_ge (tgt := 33) dX3_areOwn_4 (by decide) rfl (fun c4 => absurd ((nI_leI (by omega) (by omega)).mp c4) (by omega)) (fun c4 => ?_)
    refine jm_aload_n dX3_areOwn_7 rfl rfl rfl ?_
    refine jm_getr dX3_areOwn_8 rfl fe_X3_9 rfl rfl rfl ?_
    refine jm_iload_n dX3_areOwn_11 rfl rfl rfl ?_
    refine jm_iload_n dX3_areOwn_12 rfl rfl rfl ?_
    refine jm_cS2 dX3_areOwn_13 rfl cb_X3_18 cs_X6_legNumber (Nat.le_of_ble_eq_true rfl) (Nat.le_of_ble_eq_true rfl) (by decide) (s_X6_legNumber ?_)
    refine jm_iald dX3_areOwn_16 rfl rfl rfl (by decide) rfl (by omega) ?_
    refine jm_iload_n dX3_areOwn_17 rfl rfl rfl ?_
    refine jm_iload_n dX3_areOwn_18 rfl rfl rfl ?_
    refine jm_cS2 dX3_areOwn_19 rfl cb_X3_18 cs_X6_legNumber (Nat.le_of_ble_eq_true rfl) (Nat.le_of_ble_eq_true rfl) (by decide) (s_X6_legNumber ?_)
    refine jm_icmp_eq (tgt := 27) dX3_areOwn_22 (by decide) rfl (fun c22 => ?_) (fun c22 => ?_)
    · refine jm_iinc (nI 1) dX3_areOwn_27 rfl rfl (by decide) rfl rfl ?_
      dsimp only [List.set]
      refine jm_goto (n := 2) dX3_areOwn_30 (by decide) ?_
      rw [nI_add]
      exact ih (fun i2 h2 => if e : i2 = i then by rw [e]; exact c22 else hb i2 (by omega))
    · refine jm_iconst (nI 0) dX3_areOwn_25 rfl (by decide) ?_
      refine jm_iret dX3_areOwn_26 rfl rfl ?_
      exact h0 i hi c22
set_option maxHeartbeats 400000 in
theorem s_X3_areOwn {Ln : Nat} {xs : Nat → Int32} {μ : jm_Mem} {Q : Option Value → jm_Mem → Prop} {j : Nat} (hj : j < 12) (h1 : (∀ i, i < 4 → μ 12 (4 * j + i) = nI (4 * j + i)) → Q (some (.int 1)) μ) (h0 : ∀ i, i < 4 → ¬ μ 12 (4 * j + i) = nI (4 * j + i) → Q (some (.int 0)) μ) : gJ Ln xs 1 mX3_areOwn 0 (jm_en 3 [.ref 11, .int (nI j)]) [] μ Q := by
  show jm_J rg_I (rg_X Ln xs) 1 mX3_areOwn 0 [some (.ref 11), some (.int (nI j)), none] [] μ Q
  refine jm_iconst (nI 0) dX3_areOwn_0 rfl (by decide) ?_
  refine jm_istore_n dX3_areOwn_1 rfl rfl rfl rfl ?_
  dsimp only [List.set]
  exact l_X3_areOwn hj h1 h0 0 (by omega) (fun _ h => absurd h (by omega))
set_option maxHeartbeats 400000 in
theorem s_X3_exchange {Ln : Nat} {xs : Nat → Int32} {μ : jm_Mem} {Q : Option Value → jm_Mem → Prop} {a b : Nat} (ha : a < 48) (hb : b < 48) (h : Q none (jm_set (jm_set μ 12 a (μ 12 b)) 12 b (μ 12 a))) : gJ Ln xs 0 mX3_exchange 0 (jm_en 4 [.ref 11, .int (nI a), .int (nI b)]) [] μ Q := by
  show jm_J rg_I (rg_X Ln xs) 0 mX3_exchange 0 [some (.ref 11), some (.int (nI a)), some (.int (nI b)), none] [] μ Q
  refine jm_aload_n dX3_exchange_0 rfl rfl rfl ?_
  refine jm_getr dX3_exchange_1 rfl fe_X3_9 rfl rfl rfl ?_
  refine jm_iload_n dX3_exchange_4 rfl rfl rfl ?_
  refine jm_iald dX3_exchange_5 rfl rfl rfl (by decide) rfl (by first | assumption | omega) ?_
  refine jm_istore_n dX3_exchange_6 rfl rfl rfl rfl ?_
  dsimp only [List.set]
  refine jm_aload_n dX3_exchange_7 rfl rfl rfl ?_
  refine jm_getr dX3_exchange_8 rfl fe_X3_9 rfl rfl rfl ?_
  refine jm_iload_n dX3_exchange_11 rfl rfl rfl ?_
  refine jm_aload_n dX3_exchange_12 rfl rfl rfl ?_
  refine jm_getr dX3_exchange_13 rfl fe_X3_9 rfl rfl rfl ?_
  refine jm_iload_n dX3_exchange_16 rfl rfl rfl ?_
  refine jm_iald dX3_exchange_17 rfl rfl rfl (by decide) rfl (by first | assumption | omega) ?_
  refine jm_iast dX3_exchange_18 rfl rfl rfl (by decide) rfl (by first | assumption | omega) ?_
  refine jm_aload_n dX3_exchange_19 rfl rfl rfl ?_
  refine jm_getr dX3_exchange_20 rfl fe_X3_9 rfl rfl rfl ?_
  refine jm_iload_n dX3_exchange_23 rfl rfl rfl ?_
  refine jm_iload_n dX3_exchange_24 rfl rfl rfl ?_
  refine jm_iast dX3_exchange_25 rfl rfl rfl (by decide) rfl (by first | assumption | omega) ?_
  refine jm_vret dX3_exchange_26 rfl ?_
  exact h
set_option maxHeartbeats 1000000 in
theorem l_X3_whereIs {Ln : Nat} {xs : Nat → Int32} {μ : jm_Mem} {Q : Option Value → jm_Mem → Prop} {v : Int32} (h1 : ∀ k, k < 48 → μ 12 k = v → (∀ i, i < k → ¬ μ 12 i = v) → Q (some (.int (nI k))) μ) (h0 : (∀ i, i < 48 → ¬ μ 12 i = v) → Q (some (.int (-1))) μ) : ∀ i, i ≤ 48 → ∀ (hb : ∀ i2, i2 < i → ¬ μ 12 i2 = v), jm_J rg_I (rg_X Ln xs) 0 mX3_whereIs 2 [some (.ref 11), some (.int v), some (.int (nI i))] [] μ Q := by
  refine jm_for 48 ?_ ?_
  · intro hb
    refine jm_iload_n dX3_whereIs_2 rfl rfl rfl ?_
    refine jm_bipush (nI 48) dX3_whereIs_3 rfl (by decide) ?_
    refine jm_icmp_ge (tgt := 26) dX3_whereIs_5 (by decide) rfl (fun c5 => ?_) (fun c5 => absurd ((nI_leI (by omega) (by omega)).mpr (Nat.le_refl _)) c5)
    refine jm_iconst (-1) dX3_whereIs_26 rfl (by decide) ?_
    refine jm_iret dX3_whereIs_27 rfl rfl ?_
    exact h0 hb
  · intro i hi ih hb
    refine jm_iload_n dX3_whereIs_2 rfl rfl rfl ?_
    refine jm_bipush (nI 48) dX3_whereIs_3 rfl (by decide) ?_
    refine jm_icmp_ge (tgt := 26) dX3_whereIs_5 (by decide) rfl (fun c5 => absurd ((nI_leI (by omega) (by omega)).mp c5) (by omega)) (fun c5 => ?_)
    refine jm_aload_n dX3_whereIs_8 rfl rfl rfl ?_
    refine jm_getr dX3_whereIs_9 rfl fe_X3_9 rfl rfl rfl ?_
    refine jm_iload_n dX3_whereIs_12 rfl rfl rfl ?_
    refine jm_iald dX3_whereIs_13 rfl rfl rfl (by decide) rfl (by first | assumption | omega) ?_
    refine jm_iload_n dX3_whereIs_14 rfl rfl rfl ?_
    refine jm_icmp_ne (tgt := 20) dX3_whereIs_15 (by decide) rfl (fun c15 => ?_) (fun c15 => ?_)
    · refine jm_iinc (nI 1) dX3_whereIs_20 rfl rfl (by decide) rfl rfl ?_
      dsimp only [List.set]
      refine jm_goto (n := 2) dX3_whereIs_23 (by decide) ?_
      rw [nI_add]
      exact ih (fun i2 h2 => if e : i2 = i then by rw [e]; exact c15 else hb i2 (by omega))
    · refine jm_iload_n dX3_whereIs_18 rfl rfl rfl ?_
      refine jm_iret dX3_whereIs_19 rfl rfl ?_
      exact h1 i hi c15 hb
set_option maxHeartbeats 400000 in
theorem s_X3_whereIs {Ln : Nat} {xs : Nat → Int32} {μ : jm_Mem} {Q : Option Value → jm_Mem → Prop} {v : Int32} (h1 : ∀ k, k < 48 → μ 12 k = v → (∀ i, i < k → ¬ μ 12 i = v) → Q (some (.int (nI k))) μ) (h0 : (∀ i, i < 48 → ¬ μ 12 i = v) → Q (some (.int (-1))) μ) : gJ Ln xs 0 mX3_whereIs 0 (jm_en 3 [.ref 11, .int v]) [] μ Q := by
  show jm_J rg_I (rg_X Ln xs) 0 mX3_whereIs 0 [some (.ref 11), some (.int v), none] [] μ Q
  refine jm_iconst (nI 0) dX3_whereIs_0 rfl (by decide) ?_
  refine jm_istore_n dX3_whereIs_1 rfl rfl rfl rfl ?_
  dsimp only [List.set]
  exact l_X3_whereIs h1 h0 0 (by omega) (fun _ h => absurd h (by omega))
set_option maxHeartbeats 1000000 in
theorem l_X3_mixLegs {Ln : Nat} {xs : Nat → Int32} {μ : jm_Mem} {Q : Option Value → jm_Mem → Prop} {j : Nat} {g h : Int64} (hj : j < 12) (hq : Q (some (.long (rg_mx (fun i => μ 12 (4 * j + i)) 4 h))) μ) : ∀ i, i ≤ 4 → jm_J rg_I (rg_X Ln xs) 1 mX3_mixLegs 6 [some (.ref 11), some (.long g), none, some (.int (nI j)), some (.long (rg_mx (fun i => μ 12 (4 * j + i)) i h)), none, some (.int (nI i))] [] μ Q := by
  refine jm_for 4 ?_ ?_
  · skip
    refine jm_iload dX3_mixLegs_6 rfl rfl ?_
    refine jm_iconst (nI 4) dX3_mixLegs_8 rfl (by decide) ?_
    refine jm_icmp_ge (tgt := 36) dX3_mixLegs_9 (by decide) rfl (fun c9 => ?_) (fun c9 => absurd ((nI_leI (by omega) (by omega)).mpr (Nat.le_refl _)) c9)
    refine jm_lload dX3_mixLegs_36 rfl rfl ?_
    refine jm_lret dX3_mixLegs_38 rfl ?_
    exact hq
  · intro i hi ih 
    refine jm_iload dX3_mixLegs_6 rfl rfl ?_
    refine jm_iconst (nI 4) dX3_mixLegs_8 rfl (by decide) ?_
    refine jm_icmp_ge (tgt := 36) dX3_mixLegs_9 (by decide) rfl (fun c9 => absurd ((nI_leI (by omega) (by omega)).mp c9) (by omega)) (fun c9 => ?_)
    refine jm_lload dX3_mixLegs_12 rfl rfl ?_
    refine jm_aload_n dX3_mixLegs_14 rfl rfl rfl ?_
    refine jm_getr dX3_mixLegs_15 rfl fe_X3_9 rfl rfl rfl ?_
    refine jm_iload_n dX3_mixLegs_18 rfl rfl rfl ?_
    refine jm_iload dX3_mixLegs_19 rfl rfl ?_
    refine jm_cS2 dX3_mixLegs_21 rfl cb_X3_18 cs_X6_legNumber (Nat.le_of_ble_eq_true rfl) (Nat.le_of_ble_eq_true rfl) (by decide) (s_X6_legNumber ?_)
    refine jm_iald dX3_mixLegs_24 rfl rfl rfl (by decide) rfl (by omega) ?_
    refine jm_cS2 dX3_mixLegs_25 rfl cb_X3_36 cs_X6_mix (Nat.le_of_ble_eq_true rfl) (Nat.le_of_ble_eq_true rfl) (by decide) (s_X6_mix ?_)
    refine jm_lstore dX3_mixLegs_28 rfl rfl rfl ?_
    dsimp only [List.set]
    refine jm_iinc (nI 1) dX3_mixLegs_30 rfl rfl (by decide) rfl rfl ?_
    dsimp only [List.set]
    refine jm_goto (n := 6) dX3_mixLegs_33 (by decide) ?_
    rw [nI_add]; exact ih
set_option maxHeartbeats 400000 in
theorem s_X3_mixLegs {Ln : Nat} {xs : Nat → Int32} {μ : jm_Mem} {Q : Option Value → jm_Mem → Prop} {j : Nat} {g : Int64} (hj : j < 12) (hq : Q (some (.long (rg_mx (fun i => μ 12 (4 * j + i)) 4 g))) μ) : gJ Ln xs 1 mX3_mixLegs 0 (jm_en 7 [.ref 11, .long g, .int (nI j)]) [] μ Q := by
  show jm_J rg_I (rg_X Ln xs) 1 mX3_mixLegs 0 [some (.ref 11), some (.long g), none, some (.int (nI j)), none, none, none] [] μ Q
  refine jm_lload_n dX3_mixLegs_0 rfl rfl rfl ?_
  refine jm_lstore dX3_mixLegs_1 rfl rfl rfl ?_
  dsimp only [List.set]
  refine jm_iconst (nI 0) dX3_mixLegs_3 rfl (by decide) ?_
  refine jm_istore dX3_mixLegs_4 rfl rfl rfl ?_
  dsimp only [List.set]
  exact l_X3_mixLegs hj hq 0 (by omega)
set_option maxHeartbeats 400000 in
theorem s_X2_isFair {Ln : Nat} {xs : Nat → Int32} {μ : jm_Mem} {Q : Option Value → jm_Mem → Prop} {f : Int32} {nf : Nat} (hn : μ 14 4 = nI nf) (h8 : nf ≤ 8) (h1 : ∀ i, i < nf → f = nI i → Q (some (.int 1)) μ) (h0 : f < 0 ∨ nI nf ≤ f → Q (some (.int 0)) μ) : gJ Ln xs 0 mX2_isFair 0 (jm_en 2 [.ref 14, .int f]) [] μ Q := by
  show jm_J rg_I (rg_X Ln xs) 0 mX2_isFair 0 [some (.ref 14), some (.int f)] [] μ Q
  refine jm_iload_n dX2_isFair_0 rfl rfl rfl ?_
  refine jm_if_lt (tgt := 16) dX2_isFair_1 (by decide) rfl (fun c1 => ?_) (fun c1 => ?_)
  · refine jm_iconst (nI 0) dX2_isFair_16 rfl (by decide) ?_
    refine jm_iret dX2_isFair_17 rfl rfl ?_
    first | exact h0 (Or.inl c1) | exact h0 (Or.inr (hn ▸ c9)) | (rcases pk_ix f (n := nf) (by omega) with h | h | ⟨j, hj, e⟩; exact absurd h c1; exact absurd (hn.symm ▸ h) c9; exact h1 j hj e) | fail "leaf"
  · refine jm_iload_n dX2_isFair_4 rfl rfl rfl ?_
    refine jm_aload_n dX2_isFair_5 rfl rfl rfl ?_
    refine jm_geti dX2_isFair_6 rfl fe_X2_24 rfl rfl rfl ?_
    refine jm_icmp_ge (tgt := 16) dX2_isFair_9 (by decide) rfl (fun c9 => ?_) (fun c9 => ?_)
    · refine jm_iconst (nI 0) dX2_isFair_16 rfl (by decide) ?_
      refine jm_iret dX2_isFair_17 rfl rfl ?_
      first | exact h0 (Or.inl c1) | exact h0 (Or.inr (hn ▸ c9)) | (rcases pk_ix f (n := nf) (by omega) with h | h | ⟨j, hj, e⟩; exact absurd h c1; exact absurd (hn.symm ▸ h) c9; exact h1 j hj e) | fail "leaf"
    · refine jm_iconst (nI 1) dX2_isFair_12 rfl (by decide) ?_
      refine jm_goto (n := 17) dX2_isFair_13 (by decide) ?_
      refine jm_iret dX2_isFair_17 rfl rfl ?_
      first | exact h0 (Or.inl c1) | exact h0 (Or.inr (hn ▸ c9)) | (rcases pk_ix f (n := nf) (by omega) with h | h | ⟨j, hj, e⟩; exact absurd h c1; exact absurd (hn.symm ▸ h) c9; exact h1 j hj e) | fail "leaf"
set_option maxHeartbeats 400000 in
theorem s_X2_announce {Ln : Nat} {xs : Nat → Int32} {μ : jm_Mem} {Q : Option Value → jm_Mem → Prop} {a b c : Int32} {nf : Nat} (hn : μ 14 4 = nI nf) (h8 : nf < 8) (h : Q (some (.int (nI nf))) (jm_set (jm_set (jm_set (jm_set μ 15 nf a) 16 nf b) 17 nf c) 14 4 (nI (nf + 1)))) : gJ Ln xs 0 mX2_announce 0 (jm_en 5 [.ref 14, .int a, .int b, .int c]) [] μ Q := by
  show jm_J rg_I (rg_X Ln xs) 0 mX2_announce 0 [some (.ref 14), some (.int a), some (.int b), some (.int c), none] [] μ Q
  refine jm_aload_n dX2_announce_0 rfl rfl rfl ?_
  refine jm_geti dX2_announce_1 rfl fe_X2_24 rfl rfl rfl ?_
  refine jm_istore dX2_announce_4 rfl rfl rfl ?_
  dsimp only [List.set]
  refine jm_aload_n dX2_announce_6 rfl rfl rfl ?_
  refine jm_getr dX2_announce_7 rfl fe_X2_9 rfl rfl rfl ?_
  refine jm_iload dX2_announce_10 rfl rfl ?_
  refine jm_iload_n dX2_announce_12 rfl rfl rfl ?_
  refine jm_iast dX2_announce_13 rfl rfl rfl (by decide) hn h8 ?_
  refine jm_aload_n dX2_announce_14 rfl rfl rfl ?_
  refine jm_getr dX2_announce_15 rfl fe_X2_15 rfl rfl rfl ?_
  refine jm_iload dX2_announce_18 rfl rfl ?_
  refine jm_iload_n dX2_announce_20 rfl rfl rfl ?_
  refine jm_iast dX2_announce_21 rfl rfl rfl (by decide) hn h8 ?_
  refine jm_aload_n dX2_announce_22 rfl rfl rfl ?_
  refine jm_getr dX2_announce_23 rfl fe_X2_18 rfl rfl rfl ?_
  refine jm_iload dX2_announce_26 rfl rfl ?_
  refine jm_iload_n dX2_announce_28 rfl rfl rfl ?_
  refine jm_iast dX2_announce_29 rfl rfl rfl (by decide) hn h8 ?_
  refine jm_aload_n dX2_announce_30 rfl rfl rfl ?_
  refine jm_dup dX2_announce_31 rfl rfl ?_
  refine jm_geti dX2_announce_32 rfl fe_X2_24 rfl rfl rfl ?_
  refine jm_iconst (nI 1) dX2_announce_35 rfl (by decide) ?_
  refine jm_iadd dX2_announce_36 rfl ?_
  refine jm_puti dX2_announce_37 rfl pe_X2_24 rfl rfl rfl ?_
  refine jm_iload dX2_announce_40 rfl rfl ?_
  refine jm_iret dX2_announce_42 rfl rfl ?_
  rw [hn]
  refine rd_q h ?_
  rw [rd_na (by decide), rd_na (by decide), rd_na (by decide), hn, nI_add]
set_option maxHeartbeats 400000 in
theorem s_X2_daysBetween {Ln : Nat} {xs : Nat → Int32} {μ : jm_Mem} {Q : Option Value → jm_Mem → Prop} {a b : Nat} (ha : a < 8) (hb : b < 8) (h : Q (some (.int (μ 18 (8 * a + b)))) μ) : gJ Ln xs 0 mX2_daysBetween 0 (jm_en 3 [.ref 14, .int (nI a), .int (nI b)]) [] μ Q := by
  show jm_J rg_I (rg_X Ln xs) 0 mX2_daysBetween 0 [some (.ref 14), some (.int (nI a)), some (.int (nI b))] [] μ Q
  refine jm_aload_n dX2_daysBetween_0 rfl rfl rfl ?_
  refine jm_getr dX2_daysBetween_1 rfl fe_X2_21 rfl rfl rfl ?_
  refine jm_bipush (nI 8) dX2_daysBetween_4 rfl (by decide) ?_
  refine jm_iload_n dX2_daysBetween_6 rfl rfl rfl ?_
  refine jm_imul dX2_daysBetween_7 rfl ?_
  refine jm_iload_n dX2_daysBetween_8 rfl rfl rfl ?_
  refine jm_iadd dX2_daysBetween_9 rfl ?_
  refine jm_iald dX2_daysBetween_10 rfl rfl rfl (by decide) (by rw [pk_mul, nI_add]) (by omega) ?_
  refine jm_iret dX2_daysBetween_11 rfl rfl ?_
  exact h
set_option maxHeartbeats 400000 in
theorem s_X2_layRoad {Ln : Nat} {xs : Nat → Int32} {μ : jm_Mem} {Q : Option Value → jm_Mem → Prop} {a b : Nat} {v : Int32} (ha : a < 8) (hb : b < 8) (h : Q none (jm_set (jm_set μ 18 (8 * a + b) v) 18 (8 * b + a) v)) : gJ Ln xs 0 mX2_layRoad 0 (jm_en 4 [.ref 14, .int (nI a), .int (nI b), .int v]) [] μ Q := by
  show jm_J rg_I (rg_X Ln xs) 0 mX2_layRoad 0 [some (.ref 14), some (.int (nI a)), some (.int (nI b)), some (.int v)] [] μ Q
  refine jm_aload_n dX2_layRoad_0 rfl rfl rfl ?_
  refine jm_getr dX2_layRoad_1 rfl fe_X2_21 rfl rfl rfl ?_
  refine jm_bipush (nI 8) dX2_layRoad_4 rfl (by decide) ?_
  refine jm_iload_n dX2_layRoad_6 rfl rfl rfl ?_
  refine jm_imul dX2_layRoad_7 rfl ?_
  refine jm_iload_n dX2_layRoad_8 rfl rfl rfl ?_
  refine jm_iadd dX2_layRoad_9 rfl ?_
  refine jm_iload_n dX2_layRoad_10 rfl rfl rfl ?_
  refine jm_iast dX2_layRoad_11 rfl rfl rfl (by decide) (by rw [pk_mul, nI_add]) (by omega) ?_
  refine jm_aload_n dX2_layRoad_12 rfl rfl rfl ?_
  refine jm_getr dX2_layRoad_13 rfl fe_X2_21 rfl rfl rfl ?_
  refine jm_bipush (nI 8) dX2_layRoad_16 rfl (by decide) ?_
  refine jm_iload_n dX2_layRoad_18 rfl rfl rfl ?_
  refine jm_imul dX2_layRoad_19 rfl ?_
  refine jm_iload_n dX2_layRoad_20 rfl rfl rfl ?_
  refine jm_iadd dX2_layRoad_21 rfl ?_
  refine jm_iload_n dX2_layRoad_22 rfl rfl rfl ?_
  refine jm_iast dX2_layRoad_23 rfl rfl rfl (by decide) (by rw [pk_mul, nI_add]) (by omega) ?_
  refine jm_vret dX2_layRoad_24 rfl ?_
  exact h
set_option maxHeartbeats 400000 in
theorem s_X0_join {Ln : Nat} {xs : Nat → Int32} {μ : jm_Mem} {Q : Option Value → jm_Mem → Prop} {v : Int32} {nw : Nat} (hw : μ 22 1 = nI nw) (hl : nw < 100) (h : Q none (jm_set (jm_set μ 23 nw v) 22 1 (nI (nw + 1)))) : gJ Ln xs 0 mX0_join 0 (jm_en 2 [.ref 22, .int v]) [] μ Q := by
  show jm_J rg_I (rg_X Ln xs) 0 mX0_join 0 [some (.ref 22), some (.int v)] [] μ Q
  refine jm_aload_n dX0_join_0 rfl rfl rfl ?_
  refine jm_getr dX0_join_1 rfl fe_X0_9 rfl rfl rfl ?_
  refine jm_aload_n dX0_join_4 rfl rfl rfl ?_
  refine jm_geti dX0_join_5 rfl fe_X0_15 rfl rfl rfl ?_
  refine jm_iload_n dX0_join_8 rfl rfl rfl ?_
  refine jm_iast dX0_join_9 rfl rfl rfl (by decide) hw hl ?_
  refine jm_aload_n dX0_join_10 rfl rfl rfl ?_
  refine jm_dup dX0_join_11 rfl rfl ?_
  refine jm_geti dX0_join_12 rfl fe_X0_15 rfl rfl rfl ?_
  refine jm_iconst (nI 1) dX0_join_15 rfl (by decide) ?_
  refine jm_iadd dX0_join_16 rfl ?_
  refine jm_puti dX0_join_17 rfl pe_X0_15 rfl rfl rfl ?_
  refine jm_vret dX0_join_20 rfl ?_
  refine rd_q h ?_
  rw [rd_na (by decide), hw, nI_add]
set_option maxHeartbeats 400000 in
theorem s_X0_dropFirst {Ln : Nat} {xs : Nat → Int32} {μ : jm_Mem} {Q : Option Value → jm_Mem → Prop} {nw : Nat} (hw : μ 22 1 = nI (nw + 1)) (hl : nw < 100) (h : Q none (jm_arr (jm_set μ 22 1 (nI nw)) 23 (va_cpy (μ 23) (μ 23) 1 0 nw))) : gJ Ln xs 0 mX0_dropFirst 0 (jm_en 1 [.ref 22]) [] μ Q := by
  show jm_J rg_I (rg_X Ln xs) 0 mX0_dropFirst 0 [some (.ref 22)] [] μ Q
  refine jm_aload_n dX0_dropFirst_0 rfl rfl rfl ?_
  refine jm_dup dX0_dropFirst_1 rfl rfl ?_
  refine jm_geti dX0_dropFirst_2 rfl fe_X0_15 rfl rfl rfl ?_
  refine jm_iconst (nI 1) dX0_dropFirst_5 rfl (by decide) ?_
  refine jm_isub dX0_dropFirst_6 rfl ?_
  refine jm_puti dX0_dropFirst_7 rfl pe_X0_15 rfl rfl rfl ?_
  refine jm_aload_n dX0_dropFirst_10 rfl rfl rfl ?_
  refine jm_getr dX0_dropFirst_11 rfl fe_X0_9 rfl rfl rfl ?_
  refine jm_iconst (nI 1) dX0_dropFirst_14 rfl (by decide) ?_
  refine jm_aload_n dX0_dropFirst_15 rfl rfl rfl ?_
  refine jm_getr dX0_dropFirst_16 rfl fe_X0_9 rfl rfl rfl ?_
  refine jm_iconst (nI 0) dX0_dropFirst_19 rfl (by decide) ?_
  refine jm_aload_n dX0_dropFirst_20 rfl rfl rfl ?_
  refine jm_geti dX0_dropFirst_21 rfl fe_X0_15 rfl rfl rfl ?_
  refine jm_copy dX0_dropFirst_24 rfl nl_X0_19 nc_nat nc_st nc_in (Nat.le_of_ble_eq_true rfl) rfl rfl rfl rfl (by decide) (by decide) (m0 := nw) rfl rfl (by rw [rd_eq, hw, pk_sub (by omega)]; rfl) (by omega) (by omega) ?_
  refine jm_vret dX0_dropFirst_27 rfl ?_
  refine rd_q h ?_
  rw [hw, pk_sub (by omega)]
  rfl
set_option maxHeartbeats 1000000 in
theorem l_X0_mixAll {Ln : Nat} {xs : Nat → Int32} {μ : jm_Mem} {Q : Option Value → jm_Mem → Prop} {g h : Int64} {nw : Nat} (hw : μ 22 1 = nI nw) (hl : nw ≤ 100) (hq : Q (some (.long (rg_mx (μ 23) nw h))) μ) : ∀ i, i ≤ nw → jm_J rg_I (rg_X Ln xs) 1 mX0_mixAll 5 [some (.ref 22), some (.long g), none, some (.long (rg_mx (μ 23) i h)), none, some (.int (nI i))] [] μ Q := by
  refine jm_for nw ?_ ?_
  · skip
    refine jm_iload dX0_mixAll_5 rfl rfl ?_
    refine jm_aload_n dX0_mixAll_7 rfl rfl rfl ?_
    refine jm_geti dX0_mixAll_8 rfl fe_X0_15 rfl rfl rfl ?_
    refine jm_icmp_ge (tgt := 32) dX0_mixAll_11 (by decide) rfl (fun c11 => ?_) (fun c11 => absurd (by rw [hw]; exact (nI_leI (by omega) (by omega)).mpr (Nat.le_refl _)) c11)
    refine jm_lload_n dX0_mixAll_32 rfl rfl rfl ?_
    refine jm_lret dX0_mixAll_33 rfl ?_
    exact hq
  · intro i hi ih 
    refine jm_iload dX0_mixAll_5 rfl rfl ?_
    refine jm_aload_n dX0_mixAll_7 rfl rfl rfl ?_
    refine jm_geti dX0_mixAll_8 rfl fe_X0_15 rfl rfl rfl ?_
    refine jm_icmp_ge (tgt := 32) dX0_mixAll_11 (by decide) rfl (fun c11 => absurd ((nI_leI (by omega) (by omega)).mp (hw ▸ c11)) (by omega)) (fun c11 => ?_)
    refine jm_lload_n dX0_mixAll_14 rfl rfl rfl ?_
    refine jm_aload_n dX0_mixAll_15 rfl rfl rfl ?_
    refine jm_getr dX0_mixAll_16 rfl fe_X0_9 rfl rfl rfl ?_
    refine jm_iload dX0_mixAll_19 rfl rfl ?_
    refine jm_iald dX0_mixAll_21 rfl rfl rfl (by decide) rfl (by first | assumption | omega) ?_
    refine jm_cS2 dX0_mixAll_22 rfl cb_X0_25 cs_X6_mix (Nat.le_of_ble_eq_true rfl) (Nat.le_of_ble_eq_true rfl) (by decide) (s_X6_mix ?_)
    refine jm_lstore_n dX0_mixAll_25 rfl rfl rfl rfl ?_
    dsimp only [List.set]
    refine jm_iinc (nI 1) dX0_mixAll_26 rfl rfl (by decide) rfl rfl ?_
    dsimp only [List.set]
    refine jm_goto (n := 5) dX0_mixAll_29 (by decide) ?_
    rw [nI_add]; exact ih
set_option maxHeartbeats 400000 in
theorem s_X0_mixAll {Ln : Nat} {xs : Nat → Int32} {μ : jm_Mem} {Q : Option Value → jm_Mem → Prop} {g : Int64} {nw : Nat} (hw : μ 22 1 = nI nw) (hl : nw ≤ 100) (hq : Q (some (.long (rg_mx (μ 23) nw g))) μ) : gJ Ln xs 1 mX0_mixAll 0 (jm_en 6 [.ref 22, .long g]) [] μ Q := by
  show jm_J rg_I (rg_X Ln xs) 1 mX0_mixAll 0 [some (.ref 22), some (.long g), none, none, none, none] [] μ Q
  refine jm_lload_n dX0_mixAll_0 rfl rfl rfl ?_
  refine jm_lstore_n dX0_mixAll_1 rfl rfl rfl rfl ?_
  dsimp only [List.set]
  refine jm_iconst (nI 0) dX0_mixAll_2 rfl (by decide) ?_
  refine jm_istore dX0_mixAll_3 rfl rfl rfl ?_
  dsimp only [List.set]
  exact l_X0_mixAll hw hl hq 0 (by omega)
