/-! pure words -/
theorem rg_x0 (Ln : Nat) (xs : Nat → Int32) : (100, none, Ln, xs) ∈ rg_X Ln xs := List.mem_cons_self
theorem rg_x1 (Ln : Nat) (xs : Nat → Int32) : (101, some "ACROSS", 12, rg_ac) ∈ rg_X Ln xs := List.mem_cons_of_mem _ List.mem_cons_self
theorem rg_x2 (Ln : Nat) (xs : Nat → Int32) : (102, some "ALONG", 12, rg_al) ∈ rg_X Ln xs := List.mem_cons_of_mem _ (List.mem_cons_of_mem _ List.mem_cons_self)
theorem rd_eq {μ : jm_Mem} {a i : Nat} {v : Int32} : jm_set μ a i v a i = v := by simp [jm_set, jm_arr, upd]
theorem rd_na {μ : jm_Mem} {a b i k : Nat} {v : Int32} (h : b ≠ a) : jm_set μ a i v b k = μ b k := by simp [jm_set, jm_arr, h]
theorem rd_ni {μ : jm_Mem} {a i k : Nat} {v : Int32} (h : k ≠ i) : jm_set μ a i v a k = μ a k := by simp [jm_set, jm_arr, upd, h]
theorem rd_if {μ : jm_Mem} {a i k : Nat} {v : Int32} : jm_set μ a i v a k = if k = i then v else μ a k := by simp [jm_set, jm_arr, upd]
theorem rd_q {Q : Option Value → jm_Mem → Prop} {v : Option Value} {a b : jm_Mem} (h : Q v b) (e : a = b) : Q v a := by rw [e]; exact h
theorem rd_v {Q : Option Value → jm_Mem → Prop} {μ : jm_Mem} {x y : Int32} (h : Q (some (.int x)) μ) (e : y = x) : Q (some (.int y)) μ := by rw [e]; exact h
def rg_lift (j : Nat) (w : Int32) : Int32 := if j % 2 = 0 then w else 0 - w
def rg_add (μ : jm_Mem) (j : Nat) (w : Int32) : jm_Mem := jm_set (jm_set (jm_set (jm_set μ 1 4 (μ 1 4 + w * rg_ac j)) 1 5 (μ 1 5 + w * rg_al j)) 1 6 (μ 1 6 + rg_lift j w)) 1 7 (μ 1 7 + w)
def rg_cnt (f : Nat → Int32) : Nat → Nat
  | 0 => 0
  | n + 1 => rg_cnt f n + (if f n ≤ 0 then 0 else 1)
theorem rg_cnt_le (f : Nat → Int32) : ∀ n, rg_cnt f n ≤ n
  | 0 => Nat.le_refl 0
  | n + 1 => by
    have := rg_cnt_le f n
    simp only [rg_cnt]
    split <;> omega
def rg_sh (x y : Int32) : Int32 := x * x + y * y
def rg_shw (μ : jm_Mem) (j : Nat) (w : Int32) : Int32 := rg_sh (μ 1 4 + w * rg_ac j) (μ 1 5 + w * rg_al j)
def rg_abs (x : Int32) : Int32 := if 0 ≤ x then x else 0 - x
abbrev rg_law (μ : jm_Mem) (s r : Int32) : Prop := s ≤ μ 1 2 * μ 1 2 ∧ rg_abs r ≤ μ 1 3
set_option maxHeartbeats 400000 in
theorem s_X6_isWithin {Ln : Nat} {xs : Nat → Int32} {μ : jm_Mem} {Q : Option Value → jm_Mem → Prop} {v lo hi : Int32} (h1 : ¬ v < lo → ¬ hi < v → Q (some (.int 1)) μ) (h0 : v < lo ∨ hi < v → Q (some (.int 0)) μ) : gJ Ln xs 0 mX6_isWithin 0 (jm_en 3 [.int v, .int lo, .int hi]) [] μ Q := by
  show jm_J rg_I (rg_X Ln xs) 0 mX6_isWithin 0 [some (.int v), some (.int lo), some (.int hi)] [] μ Q
  refine jm_iload_n dX6_isWithin_0 rfl rfl rfl ?_
  refine jm_iload_n dX6_isWithin_1 rfl rfl rfl ?_
  refine jm_icmp_lt (tgt := 14) dX6_isWithin_2 (by decide) rfl (fun c2 => ?_) (fun c2 => ?_)
  · refine jm_iconst (nI 0) dX6_isWithin_14 rfl (by decide) ?_
    refine jm_iret dX6_isWithin_15 rfl rfl ?_
    first | exact h1 c2 c7 | exact h0 (Or.inl c2) | exact h0 (Or.inr c7)
  · refine jm_iload_n dX6_isWithin_5 rfl rfl rfl ?_
    refine jm_iload_n dX6_isWithin_6 rfl rfl rfl ?_
    refine jm_icmp_gt (tgt := 14) dX6_isWithin_7 (by decide) rfl (fun c7 => ?_) (fun c7 => ?_)
    · refine jm_iconst (nI 0) dX6_isWithin_14 rfl (by decide) ?_
      refine jm_iret dX6_isWithin_15 rfl rfl ?_
      first | exact h1 c2 c7 | exact h0 (Or.inl c2) | exact h0 (Or.inr c7)
    · refine jm_iconst (nI 1) dX6_isWithin_10 rfl (by decide) ?_
      refine jm_goto (n := 15) dX6_isWithin_11 (by decide) ?_
      refine jm_iret dX6_isWithin_15 rfl rfl ?_
      first | exact h1 c2 c7 | exact h0 (Or.inl c2) | exact h0 (Or.inr c7)
set_option maxHeartbeats 400000 in
theorem s_X6_isPlace {Ln : Nat} {xs : Nat → Int32} {μ : jm_Mem} {Q : Option Value → jm_Mem → Prop} {p : Int32} (h1 : ∀ j : Nat, j < 12 → p = nI j → Q (some (.int 1)) μ) (h0 : p < 0 ∨ nI 12 ≤ p → Q (some (.int 0)) μ) : gJ Ln xs 0 mX6_isPlace 0 (jm_en 1 [.int p]) [] μ Q := by
  show jm_J rg_I (rg_X Ln xs) 0 mX6_isPlace 0 [some (.int p)] [] μ Q
  refine jm_iload_n dX6_isPlace_0 rfl rfl rfl ?_
  refine jm_if_lt (tgt := 14) dX6_isPlace_1 (by decide) rfl (fun c1 => ?_) (fun c1 => ?_)
  · refine jm_iconst (nI 0) dX6_isPlace_14 rfl (by decide) ?_
    refine jm_iret dX6_isPlace_15 rfl rfl ?_
    first | exact h0 (Or.inl c1) | exact h0 (Or.inr c7) | (rcases pk_ix p (n := 12) (by decide) with h | h | ⟨j, hj, e⟩; exact absurd h c1; exact absurd h c7; exact h1 j hj e) | fail "leaf"
  · refine jm_iload_n dX6_isPlace_4 rfl rfl rfl ?_
    refine jm_bipush (nI 12) dX6_isPlace_5 rfl (by decide) ?_
    refine jm_icmp_ge (tgt := 14) dX6_isPlace_7 (by decide) rfl (fun c7 => ?_) (fun c7 => ?_)
    · refine jm_iconst (nI 0) dX6_isPlace_14 rfl (by decide) ?_
      refine jm_iret dX6_isPlace_15 rfl rfl ?_
      first | exact h0 (Or.inl c1) | exact h0 (Or.inr c7) | (rcases pk_ix p (n := 12) (by decide) with h | h | ⟨j, hj, e⟩; exact absurd h c1; exact absurd h c7; exact h1 j hj e) | fail "leaf"
    · refine jm_iconst (nI 1) dX6_isPlace_10 rfl (by decide) ?_
      refine jm_goto (n := 15) dX6_isPlace_11 (by decide) ?_
      refine jm_iret dX6_isPlace_15 rfl rfl ?_
      first | exact h0 (Or.inl c1) | exact h0 (Or.inr c7) | (rcases pk_ix p (n := 12) (by decide) with h | h | ⟨j, hj, e⟩; exact absurd h c1; exact absurd h c7; exact h1 j hj e) | fail "leaf"
set_option maxHeartbeats 400000 in
theorem s_X6_isLeg {Ln : Nat} {xs : Nat → Int32} {μ : jm_Mem} {Q : Option Value → jm_Mem → Prop} {p : Int32} (h1 : ∀ j : Nat, j < 4 → p = nI j → Q (some (.int 1)) μ) (h0 : p < 0 ∨ nI 4 ≤ p → Q (some (.int 0)) μ) : gJ Ln xs 0 mX6_isLeg 0 (jm_en 1 [.int p]) [] μ Q := by
  show jm_J rg_I (rg_X Ln xs) 0 mX6_isLeg 0 [some (.int p)] [] μ Q
  refine jm_iload_n dX6_isLeg_0 rfl rfl rfl ?_
  refine jm_if_lt (tgt := 13) dX6_isLeg_1 (by decide) rfl (fun c1 => ?_) (fun c1 => ?_)
  · refine jm_iconst (nI 0) dX6_isLeg_13 rfl (by decide) ?_
    refine jm_iret dX6_isLeg_14 rfl rfl ?_
    first | exact h0 (Or.inl c1) | exact h0 (Or.inr c6) | (rcases pk_ix p (n := 4) (by decide) with h | h | ⟨j, hj, e⟩; exact absurd h c1; exact absurd h c6; exact h1 j hj e) | fail "leaf"
  · refine jm_iload_n dX6_isLeg_4 rfl rfl rfl ?_
    refine jm_iconst (nI 4) dX6_isLeg_5 rfl (by decide) ?_
    refine jm_icmp_ge (tgt := 13) dX6_isLeg_6 (by decide) rfl (fun c6 => ?_) (fun c6 => ?_)
    · refine jm_iconst (nI 0) dX6_isLeg_13 rfl (by decide) ?_
      refine jm_iret dX6_isLeg_14 rfl rfl ?_
      first | exact h0 (Or.inl c1) | exact h0 (Or.inr c6) | (rcases pk_ix p (n := 4) (by decide) with h | h | ⟨j, hj, e⟩; exact absurd h c1; exact absurd h c6; exact h1 j hj e) | fail "leaf"
    · refine jm_iconst (nI 1) dX6_isLeg_9 rfl (by decide) ?_
      refine jm_goto (n := 14) dX6_isLeg_10 (by decide) ?_
      refine jm_iret dX6_isLeg_14 rfl rfl ?_
      first | exact h0 (Or.inl c1) | exact h0 (Or.inr c6) | (rcases pk_ix p (n := 4) (by decide) with h | h | ⟨j, hj, e⟩; exact absurd h c1; exact absurd h c6; exact h1 j hj e) | fail "leaf"
set_option maxHeartbeats 400000 in
theorem s_X6_isRiderWeight {Ln : Nat} {xs : Nat → Int32} {μ : jm_Mem} {Q : Option Value → jm_Mem → Prop} {v : Int32} (h1 : ¬ v < 1 → ¬ nI 150 < v → Q (some (.int 1)) μ) (h0 : v < 1 ∨ nI 150 < v → Q (some (.int 0)) μ) : gJ Ln xs 1 mX6_isRiderWeight 0 (jm_en 1 [.int v]) [] μ Q := by
  show jm_J rg_I (rg_X Ln xs) 1 mX6_isRiderWeight 0 [some (.int v)] [] μ Q
  refine jm_iload_n dX6_isRiderWeight_0 rfl rfl rfl ?_
  refine jm_iconst (nI 1) dX6_isRiderWeight_1 rfl (by decide) ?_
  refine jm_sipush (nI 150) dX6_isRiderWeight_2 rfl (by decide) ?_
  refine jm_cS3 dX6_isRiderWeight_5 rfl cb_X6_68 cs_X6_isWithin (Nat.le_of_ble_eq_true rfl) (Nat.le_of_ble_eq_true rfl) (by decide) (s_X6_isWithin (fun a5 b5 => ?_) (fun c5 => ?_))
  · refine jm_iret dX6_isRiderWeight_8 rfl rfl ?_
    first | exact h1 a5 b5 | exact h0 c5 | fail "leaf"
  · refine jm_iret dX6_isRiderWeight_8 rfl rfl ?_
    first | exact h1 a5 b5 | exact h0 c5 | fail "leaf"
set_option maxHeartbeats 400000 in
theorem s_X6_legNumber {Ln : Nat} {xs : Nat → Int32} {μ : jm_Mem} {Q : Option Value → jm_Mem → Prop} {j i : Nat} (h : Q (some (.int (nI (4 * j + i)))) μ) : gJ Ln xs 0 mX6_legNumber 0 (jm_en 2 [.int (nI j), .int (nI i)]) [] μ Q := by
  show jm_J rg_I (rg_X Ln xs) 0 mX6_legNumber 0 [some (.int (nI j)), some (.int (nI i))] [] μ Q
  refine jm_iconst (nI 4) dX6_legNumber_0 rfl (by decide) ?_
  refine jm_iload_n dX6_legNumber_1 rfl rfl rfl ?_
  refine jm_imul dX6_legNumber_2 rfl ?_
  refine jm_iload_n dX6_legNumber_3 rfl rfl rfl ?_
  refine jm_iadd dX6_legNumber_4 rfl ?_
  refine jm_iret dX6_legNumber_5 rfl rfl ?_
  exact rd_v h (by rw [pk_mul, nI_add])
set_option maxHeartbeats 400000 in
theorem s_X6_shakeOf {Ln : Nat} {xs : Nat → Int32} {μ : jm_Mem} {Q : Option Value → jm_Mem → Prop} {x y : Int32} (h : Q (some (.int (rg_sh x y))) μ) : gJ Ln xs 0 mX6_shakeOf 0 (jm_en 2 [.int x, .int y]) [] μ Q := by
  show jm_J rg_I (rg_X Ln xs) 0 mX6_shakeOf 0 [some (.int x), some (.int y)] [] μ Q
  refine jm_iload_n dX6_shakeOf_0 rfl rfl rfl ?_
  refine jm_iload_n dX6_shakeOf_1 rfl rfl rfl ?_
  refine jm_imul dX6_shakeOf_2 rfl ?_
  refine jm_iload_n dX6_shakeOf_3 rfl rfl rfl ?_
  refine jm_iload_n dX6_shakeOf_4 rfl rfl rfl ?_
  refine jm_imul dX6_shakeOf_5 rfl ?_
  refine jm_iadd dX6_shakeOf_6 rfl ?_
  refine jm_iret dX6_shakeOf_7 rfl rfl ?_
  exact h
set_option maxHeartbeats 400000 in
theorem s_X6_mix {Ln : Nat} {xs : Nat → Int32} {μ : jm_Mem} {Q : Option Value → jm_Mem → Prop} {h : Int64} {v : Int32} (hq : Q (some (.long (31 * h + v.toInt64))) μ) : gJ Ln xs 0 mX6_mix 0 (jm_en 3 [.long h, .int v]) [] μ Q := by
  show jm_J rg_I (rg_X Ln xs) 0 mX6_mix 0 [some (.long h), none, some (.int v)] [] μ Q
  refine jm_ldc2 31 dX6_mix_0 rfl kc_X6_265 ?_
  refine jm_lload_n dX6_mix_3 rfl rfl rfl ?_
  refine jm_lmul dX6_mix_4 rfl ?_
  refine jm_iload_n dX6_mix_5 rfl rfl rfl ?_
  refine jm_i2l dX6_mix_6 rfl ?_
  refine jm_ladd dX6_mix_7 rfl ?_
  refine jm_lret dX6_mix_8 rfl ?_
  exact hq

set_option maxHeartbeats 400000 in
theorem s_X4_hasHorse {Ln : Nat} {xs : Nat → Int32} {μ : jm_Mem} {Q : Option Value → jm_Mem → Prop} {p : Int32} (h1 : ∀ j : Nat, j < 12 → p = nI j → ¬ μ 2 j ≤ 0 → Q (some (.int 1)) μ) (hU : p < 0 ∨ nI 12 ≤ p → Q (some (.int 0)) μ) (h0 : ∀ j : Nat, j < 12 → p = nI j → μ 2 j ≤ 0 → Q (some (.int 0)) μ) : gJ Ln xs 1 mX4_hasHorse 0 (jm_en 2 [.ref 1, .int p]) [] μ Q := by
  show jm_J rg_I (rg_X Ln xs) 1 mX4_hasHorse 0 [some (.ref 1), some (.int p)] [] μ Q
  refine jm_iload_n dX4_hasHorse_0 rfl rfl rfl ?_
  refine jm_cS1 dX4_hasHorse_1 rfl cb_X4_37 cs_X6_isPlace (Nat.le_of_ble_eq_true rfl) (Nat.le_of_ble_eq_true rfl) (by decide) (s_X6_isPlace (fun j hj e => ?_) (fun c0 => ?_))
  · subst e
    refine jm_if_eq (tgt := 20) dX4_hasHorse_4 (by decide) rfl (fun c4 => absurd c4 (by decide)) (fun c4 => ?_)
    refine jm_aload_n dX4_hasHorse_7 rfl rfl rfl ?_
    refine jm_getr dX4_hasHorse_8 rfl fe_X4_9 rfl rfl rfl ?_
    refine jm_iload_n dX4_hasHorse_11 rfl rfl rfl ?_
    refine jm_iald dX4_hasHorse_12 rfl rfl rfl (by decide) rfl (by first | assumption | omega) ?_
    refine jm_if_le (tgt := 20) dX4_hasHorse_13 (by decide) rfl (fun c13 => ?_) (fun c13 => ?_)
    · refine jm_iconst (nI 0) dX4_hasHorse_20 rfl (by decide) ?_
      refine jm_iret dX4_hasHorse_21 rfl rfl ?_
      first | exact h1 j hj rfl c13 | exact h0 j hj rfl c13 | exact hU c0 | fail "leaf"
    · refine jm_iconst (nI 1) dX4_hasHorse_16 rfl (by decide) ?_
      refine jm_goto (n := 21) dX4_hasHorse_17 (by decide) ?_
      refine jm_iret dX4_hasHorse_21 rfl rfl ?_
      first | exact h1 j hj rfl c13 | exact h0 j hj rfl c13 | exact hU c0 | fail "leaf"
  · refine jm_if_eq (tgt := 20) dX4_hasHorse_4 (by decide) rfl (fun c4 => ?_) (fun c4 => absurd c4 (by decide))
    refine jm_iconst (nI 0) dX4_hasHorse_20 rfl (by decide) ?_
    refine jm_iret dX4_hasHorse_21 rfl rfl ?_
    first | exact h1 j hj rfl c13 | exact h0 j hj rfl c13 | exact hU c0 | fail "leaf"
set_option maxHeartbeats 400000 in
theorem s_X4_hasRider {Ln : Nat} {xs : Nat → Int32} {μ : jm_Mem} {Q : Option Value → jm_Mem → Prop} {p : Int32} (h1 : ∀ j : Nat, j < 12 → p = nI j → ¬ μ 3 j ≤ 0 → Q (some (.int 1)) μ) (hU : p < 0 ∨ nI 12 ≤ p → Q (some (.int 0)) μ) (h0 : ∀ j : Nat, j < 12 → p = nI j → μ 3 j ≤ 0 → Q (some (.int 0)) μ) : gJ Ln xs 1 mX4_hasRider 0 (jm_en 2 [.ref 1, .int p]) [] μ Q := by
  show jm_J rg_I (rg_X Ln xs) 1 mX4_hasRider 0 [some (.ref 1), some (.int p)] [] μ Q
  refine jm_iload_n dX4_hasRider_0 rfl rfl rfl ?_
  refine jm_cS1 dX4_hasRider_1 rfl cb_X4_37 cs_X6_isPlace (Nat.le_of_ble_eq_true rfl) (Nat.le_of_ble_eq_true rfl) (by decide) (s_X6_isPlace (fun j hj e => ?_) (fun c0 => ?_))
  · subst e
    refine jm_if_eq (tgt := 20) dX4_hasRider_4 (by decide) rfl (fun c4 => absurd c4 (by decide)) (fun c4 => ?_)
    refine jm_aload_n dX4_hasRider_7 rfl rfl rfl ?_
    refine jm_getr dX4_hasRider_8 rfl fe_X4_15 rfl rfl rfl ?_
    refine jm_iload_n dX4_hasRider_11 rfl rfl rfl ?_
    refine jm_iald dX4_hasRider_12 rfl rfl rfl (by decide) rfl (by first | assumption | omega) ?_
    refine jm_if_le (tgt := 20) dX4_hasRider_13 (by decide) rfl (fun c13 => ?_) (fun c13 => ?_)
    · refine jm_iconst (nI 0) dX4_hasRider_20 rfl (by decide) ?_
      refine jm_iret dX4_hasRider_21 rfl rfl ?_
      first | exact h1 j hj rfl c13 | exact h0 j hj rfl c13 | exact hU c0 | fail "leaf"
    · refine jm_iconst (nI 1) dX4_hasRider_16 rfl (by decide) ?_
      refine jm_goto (n := 21) dX4_hasRider_17 (by decide) ?_
      refine jm_iret dX4_hasRider_21 rfl rfl ?_
      first | exact h1 j hj rfl c13 | exact h0 j hj rfl c13 | exact hU c0 | fail "leaf"
  · refine jm_if_eq (tgt := 20) dX4_hasRider_4 (by decide) rfl (fun c4 => ?_) (fun c4 => absurd c4 (by decide))
    refine jm_iconst (nI 0) dX4_hasRider_20 rfl (by decide) ?_
    refine jm_iret dX4_hasRider_21 rfl rfl ?_
    first | exact h1 j hj rfl c13 | exact h0 j hj rfl c13 | exact hU c0 | fail "leaf"
theorem s_X4_hasHorse_at {Ln : Nat} {xs : Nat → Int32} {μ : jm_Mem} {Q : Option Value → jm_Mem → Prop} {j : Nat} (hj : j < 12) (h1 : ¬ μ 2 j ≤ 0 → Q (some (.int 1)) μ) (h0 : μ 2 j ≤ 0 → Q (some (.int 0)) μ) : gJ Ln xs 1 mX4_hasHorse 0 (jm_en 2 [.ref 1, .int (nI j)]) [] μ Q := by
  refine s_X4_hasHorse (fun i hi e c => h1 ?_) (fun c => ?_) (fun i hi e c => h0 ?_)
  · rw [(nI_eq (by omega) (by omega)).mp e]; exact c
  · rcases c with c | c; exact absurd c (nI_pos (by omega)); exact absurd ((nI_leI (by omega) (by omega)).mp c) (by omega)
  · rw [(nI_eq (by omega) (by omega)).mp e]; exact c
theorem s_X4_hasRider_at {Ln : Nat} {xs : Nat → Int32} {μ : jm_Mem} {Q : Option Value → jm_Mem → Prop} {j : Nat} (hj : j < 12) (h1 : ¬ μ 3 j ≤ 0 → Q (some (.int 1)) μ) (h0 : μ 3 j ≤ 0 → Q (some (.int 0)) μ) : gJ Ln xs 1 mX4_hasRider 0 (jm_en 2 [.ref 1, .int (nI j)]) [] μ Q := by
  refine s_X4_hasRider (fun i hi e c => h1 ?_) (fun c => ?_) (fun i hi e c => h0 ?_)
  · rw [(nI_eq (by omega) (by omega)).mp e]; exact c
  · rcases c with c | c; exact absurd c (nI_pos (by omega)); exact absurd ((nI_leI (by omega) (by omega)).mp c) (by omega)
  · rw [(nI_eq (by omega) (by omega)).mp e]; exact c
set_option maxHeartbeats 400000 in
theorem s_X4_isFree {Ln : Nat} {xs : Nat → Int32} {μ : jm_Mem} {Q : Option Value → jm_Mem → Prop} {j : Nat} (hj : j < 12) (h1 : ¬ μ 2 j ≤ 0 → μ 3 j ≤ 0 → Q (some (.int 1)) μ) (h0 : (μ 2 j ≤ 0 ∨ ¬ μ 3 j ≤ 0) → Q (some (.int 0)) μ) : gJ Ln xs 2 mX4_isFree 0 (jm_en 2 [.ref 1, .int (nI j)]) [] μ Q := by
  show jm_J rg_I (rg_X Ln xs) 2 mX4_isFree 0 [some (.ref 1), some (.int (nI j))] [] μ Q
  refine jm_aload_n dX4_isFree_0 rfl rfl rfl ?_
  refine jm_iload_n dX4_isFree_1 rfl rfl rfl ?_
  refine jm_cV1 dX4_isFree_2 rfl cb_X4_41 ci_X4_hasHorse cv_X4_hasHorse rfl rfl rfl (Nat.le_of_ble_eq_true rfl) (Nat.le_of_ble_eq_true rfl) (by decide) (s_X4_hasHorse_at hj (fun ch => ?_) (fun ch => ?_))
  · refine jm_if_eq (tgt := 20) dX4_isFree_5 (by decide) rfl (fun c5 => absurd c5 (by decide)) (fun c5 => ?_)
    refine jm_aload_n dX4_isFree_8 rfl rfl rfl ?_
    refine jm_iload_n dX4_isFree_9 rfl rfl rfl ?_
    refine jm_cV1 dX4_isFree_10 rfl cb_X4_44 ci_X4_hasRider cv_X4_hasRider rfl rfl rfl (Nat.le_of_ble_eq_true rfl) (Nat.le_of_ble_eq_true rfl) (by decide) (s_X4_hasRider_at hj (fun cr => ?_) (fun cr => ?_))
    · refine jm_if_ne (tgt := 20) dX4_isFree_13 (by decide) rfl (fun c13 => ?_) (fun c13 => absurd c13 (by decide))
      refine jm_iconst (nI 0) dX4_isFree_20 rfl (by decide) ?_
      refine jm_iret dX4_isFree_21 rfl rfl ?_
      first | exact h1 ch cr | exact h0 (Or.inl ch) | exact h0 (Or.inr cr) | fail "leaf"
    · refine jm_if_ne (tgt := 20) dX4_isFree_13 (by decide) rfl (fun c13 => absurd c13 (by decide)) (fun c13 => ?_)
      refine jm_iconst (nI 1) dX4_isFree_16 rfl (by decide) ?_
      refine jm_goto (n := 21) dX4_isFree_17 (by decide) ?_
      refine jm_iret dX4_isFree_21 rfl rfl ?_
      first | exact h1 ch cr | exact h0 (Or.inl ch) | exact h0 (Or.inr cr) | fail "leaf"
  · refine jm_if_eq (tgt := 20) dX4_isFree_5 (by decide) rfl (fun c5 => ?_) (fun c5 => absurd c5 (by decide))
    refine jm_iconst (nI 0) dX4_isFree_20 rfl (by decide) ?_
    refine jm_iret dX4_isFree_21 rfl rfl ?_
    first | exact h1 ch cr | exact h0 (Or.inl ch) | exact h0 (Or.inr cr) | fail "leaf"
set_option maxHeartbeats 400000 in
theorem s_X4_liftOf {Ln : Nat} {xs : Nat → Int32} {μ : jm_Mem} {Q : Option Value → jm_Mem → Prop} {j : Nat} (hj : j < 12) {w : Int32} (h : Q (some (.int (rg_lift j w))) μ) : gJ Ln xs 0 mX4_liftOf 0 (jm_en 2 [.int (nI j), .int w]) [] μ Q := by
  show jm_J rg_I (rg_X Ln xs) 0 mX4_liftOf 0 [some (.int (nI j)), some (.int w)] [] μ Q
  refine jm_iload_n dX4_liftOf_0 rfl rfl rfl ?_
  refine jm_iconst (nI 2) dX4_liftOf_1 rfl (by decide) ?_
  refine jm_irem dX4_liftOf_2 rfl (by decide) ?_
  rw [pk_rem (by omega) (by decide) (by decide)]
  refine jm_if_ne (tgt := 10) dX4_liftOf_3 (by decide) rfl (fun c3 => ?_) (fun c3 => ?_)
  · refine jm_iload_n dX4_liftOf_10 rfl rfl rfl ?_
    refine jm_ineg dX4_liftOf_11 rfl ?_
    refine jm_iret dX4_liftOf_12 rfl rfl ?_
    first | exact rd_v h (if_pos ((nI_eq (a := j % 2) (b := 0) (by omega) (by omega)).mp c3)).symm | exact rd_v h (if_neg (fun e => c3 (by rw [e]; rfl))).symm | fail "leaf"
  · refine jm_iload_n dX4_liftOf_6 rfl rfl rfl ?_
    refine jm_goto (n := 12) dX4_liftOf_7 (by decide) ?_
    refine jm_iret dX4_liftOf_12 rfl rfl ?_
    first | exact rd_v h (if_pos ((nI_eq (a := j % 2) (b := 0) (by omega) (by omega)).mp c3)).symm | exact rd_v h (if_neg (fun e => c3 (by rw [e]; rfl))).symm | fail "leaf"
set_option maxHeartbeats 400000 in
theorem s_X4_addLoad {Ln : Nat} {xs : Nat → Int32} {μ : jm_Mem} {Q : Option Value → jm_Mem → Prop} {j : Nat} (hj : j < 12) {w : Int32} (h : Q none (rg_add μ j w)) : gJ Ln xs 1 mX4_addLoad 0 (jm_en 3 [.ref 1, .int (nI j), .int w]) [] μ Q := by
  show jm_J rg_I (rg_X Ln xs) 1 mX4_addLoad 0 [some (.ref 1), some (.int (nI j)), some (.int w)] [] μ Q
  refine jm_aload_n dX4_addLoad_0 rfl rfl rfl ?_
  refine jm_dup dX4_addLoad_1 rfl rfl ?_
  refine jm_geti dX4_addLoad_2 rfl fe_X4_25 rfl rfl rfl ?_
  refine jm_iload_n dX4_addLoad_5 rfl rfl rfl ?_
  refine jm_gets dX4_addLoad_6 rfl (rg_x1 Ln xs) xe_X4_55 ?_
  refine jm_iload_n dX4_addLoad_9 rfl rfl rfl ?_
  refine jm_xld dX4_addLoad_10 rfl (rg_x1 Ln xs) (by decide) rfl (by first | assumption | omega) ?_
  refine jm_imul dX4_addLoad_11 rfl ?_
  refine jm_iadd dX4_addLoad_12 rfl ?_
  refine jm_puti dX4_addLoad_13 rfl pe_X4_25 rfl rfl rfl ?_
  refine jm_aload_n dX4_addLoad_16 rfl rfl rfl ?_
  refine jm_dup dX4_addLoad_17 rfl rfl ?_
  refine jm_geti dX4_addLoad_18 rfl fe_X4_28 rfl rfl rfl ?_
  refine jm_iload_n dX4_addLoad_21 rfl rfl rfl ?_
  refine jm_gets dX4_addLoad_22 rfl (rg_x2 Ln xs) xe_X4_58 ?_
  refine jm_iload_n dX4_addLoad_25 rfl rfl rfl ?_
  refine jm_xld dX4_addLoad_26 rfl (rg_x2 Ln xs) (by decide) rfl (by first | assumption | omega) ?_
  refine jm_imul dX4_addLoad_27 rfl ?_
  refine jm_iadd dX4_addLoad_28 rfl ?_
  refine jm_puti dX4_addLoad_29 rfl pe_X4_28 rfl rfl rfl ?_
  refine jm_aload_n dX4_addLoad_32 rfl rfl rfl ?_
  refine jm_dup dX4_addLoad_33 rfl rfl ?_
  refine jm_geti dX4_addLoad_34 rfl fe_X4_31 rfl rfl rfl ?_
  refine jm_iload_n dX4_addLoad_37 rfl rfl rfl ?_
  refine jm_iload_n dX4_addLoad_38 rfl rfl rfl ?_
  refine jm_cS2 dX4_addLoad_39 rfl cb_X4_61 cs_X4_liftOf (Nat.le_of_ble_eq_true rfl) (Nat.le_of_ble_eq_true rfl) (by decide) (s_X4_liftOf hj ?_)
  refine jm_iadd dX4_addLoad_42 rfl ?_
  refine jm_puti dX4_addLoad_43 rfl pe_X4_31 rfl rfl rfl ?_
  refine jm_aload_n dX4_addLoad_46 rfl rfl rfl ?_
  refine jm_dup dX4_addLoad_47 rfl rfl ?_
  refine jm_geti dX4_addLoad_48 rfl fe_X4_34 rfl rfl rfl ?_
  refine jm_iload_n dX4_addLoad_51 rfl rfl rfl ?_
  refine jm_iadd dX4_addLoad_52 rfl ?_
  refine jm_puti dX4_addLoad_53 rfl pe_X4_34 rfl rfl rfl ?_
  refine jm_vret dX4_addLoad_56 rfl ?_
  refine rd_q h ?_
  simp only [rg_add, rd_eq, rd_ni, rd_na, ne_eq, Nat.reduceEqDiff, not_false_eq_true]
set_option maxHeartbeats 400000 in
theorem s_X4_putHorse {Ln : Nat} {xs : Nat → Int32} {μ : jm_Mem} {Q : Option Value → jm_Mem → Prop} {j : Nat} (hj : j < 12) {w : Int32} (h : Q none (rg_add (jm_set μ 2 j w) j w)) : gJ Ln xs 2 mX4_putHorse 0 (jm_en 3 [.ref 1, .int (nI j), .int w]) [] μ Q := by
  show jm_J rg_I (rg_X Ln xs) 2 mX4_putHorse 0 [some (.ref 1), some (.int (nI j)), some (.int w)] [] μ Q
  refine jm_aload_n dX4_putHorse_0 rfl rfl rfl ?_
  refine jm_getr dX4_putHorse_1 rfl fe_X4_9 rfl rfl rfl ?_
  refine jm_iload_n dX4_putHorse_4 rfl rfl rfl ?_
  refine jm_iload_n dX4_putHorse_5 rfl rfl rfl ?_
  refine jm_iast dX4_putHorse_6 rfl rfl rfl (by decide) rfl (by first | assumption | omega) ?_
  refine jm_aload_n dX4_putHorse_7 rfl rfl rfl ?_
  refine jm_iload_n dX4_putHorse_8 rfl rfl rfl ?_
  refine jm_iload_n dX4_putHorse_9 rfl rfl rfl ?_
  refine jm_cV2 dX4_putHorse_10 rfl cb_X4_47 ci_X4_addLoad cv_X4_addLoad rfl rfl rfl (Nat.le_of_ble_eq_true rfl) (Nat.le_of_ble_eq_true rfl) (by decide) (s_X4_addLoad hj ?_)
  refine jm_vret dX4_putHorse_13 rfl ?_
  exact h
set_option maxHeartbeats 400000 in
theorem s_X4_putRider {Ln : Nat} {xs : Nat → Int32} {μ : jm_Mem} {Q : Option Value → jm_Mem → Prop} {j : Nat} (hj : j < 12) {w : Int32} (h : Q none (rg_add (jm_set μ 3 j w) j w)) : gJ Ln xs 2 mX4_putRider 0 (jm_en 3 [.ref 1, .int (nI j), .int w]) [] μ Q := by
  show jm_J rg_I (rg_X Ln xs) 2 mX4_putRider 0 [some (.ref 1), some (.int (nI j)), some (.int w)] [] μ Q
  refine jm_aload_n dX4_putRider_0 rfl rfl rfl ?_
  refine jm_getr dX4_putRider_1 rfl fe_X4_15 rfl rfl rfl ?_
  refine jm_iload_n dX4_putRider_4 rfl rfl rfl ?_
  refine jm_iload_n dX4_putRider_5 rfl rfl rfl ?_
  refine jm_iast dX4_putRider_6 rfl rfl rfl (by decide) rfl (by first | assumption | omega) ?_
  refine jm_aload_n dX4_putRider_7 rfl rfl rfl ?_
  refine jm_iload_n dX4_putRider_8 rfl rfl rfl ?_
  refine jm_iload_n dX4_putRider_9 rfl rfl rfl ?_
  refine jm_cV2 dX4_putRider_10 rfl cb_X4_47 ci_X4_addLoad cv_X4_addLoad rfl rfl rfl (Nat.le_of_ble_eq_true rfl) (Nat.le_of_ble_eq_true rfl) (by decide) (s_X4_addLoad hj ?_)
  refine jm_vret dX4_putRider_13 rfl ?_
  exact h
set_option maxHeartbeats 400000 in
theorem s_X4_takeHorse {Ln : Nat} {xs : Nat → Int32} {μ : jm_Mem} {Q : Option Value → jm_Mem → Prop} {j : Nat} (hj : j < 12) (h : Q (some (.int (μ 2 j))) (rg_add (jm_set μ 2 j 0) j (0 - μ 2 j))) : gJ Ln xs 2 mX4_takeHorse 0 (jm_en 3 [.ref 1, .int (nI j)]) [] μ Q := by
  show jm_J rg_I (rg_X Ln xs) 2 mX4_takeHorse 0 [some (.ref 1), some (.int (nI j)), none] [] μ Q
  refine jm_aload_n dX4_takeHorse_0 rfl rfl rfl ?_
  refine jm_getr dX4_takeHorse_1 rfl fe_X4_9 rfl rfl rfl ?_
  refine jm_iload_n dX4_takeHorse_4 rfl rfl rfl ?_
  refine jm_iald dX4_takeHorse_5 rfl rfl rfl (by decide) rfl (by first | assumption | omega) ?_
  refine jm_istore_n dX4_takeHorse_6 rfl rfl rfl rfl ?_
  dsimp only [List.set]
  refine jm_aload_n dX4_takeHorse_7 rfl rfl rfl ?_
  refine jm_getr dX4_takeHorse_8 rfl fe_X4_9 rfl rfl rfl ?_
  refine jm_iload_n dX4_takeHorse_11 rfl rfl rfl ?_
  refine jm_iconst (nI 0) dX4_takeHorse_12 rfl (by decide) ?_
  refine jm_iast dX4_takeHorse_13 rfl rfl rfl (by decide) rfl (by first | assumption | omega) ?_
  refine jm_aload_n dX4_takeHorse_14 rfl rfl rfl ?_
  refine jm_iload_n dX4_takeHorse_15 rfl rfl rfl ?_
  refine jm_iload_n dX4_takeHorse_16 rfl rfl rfl ?_
  refine jm_ineg dX4_takeHorse_17 rfl ?_
  refine jm_cV2 dX4_takeHorse_18 rfl cb_X4_47 ci_X4_addLoad cv_X4_addLoad rfl rfl rfl (Nat.le_of_ble_eq_true rfl) (Nat.le_of_ble_eq_true rfl) (by decide) (s_X4_addLoad hj ?_)
  refine jm_iload_n dX4_takeHorse_21 rfl rfl rfl ?_
  refine jm_iret dX4_takeHorse_22 rfl rfl ?_
  exact h
set_option maxHeartbeats 400000 in
theorem s_X4_takeRider {Ln : Nat} {xs : Nat → Int32} {μ : jm_Mem} {Q : Option Value → jm_Mem → Prop} {j : Nat} (hj : j < 12) (h : Q (some (.int (μ 3 j))) (rg_add (jm_set μ 3 j 0) j (0 - μ 3 j))) : gJ Ln xs 2 mX4_takeRider 0 (jm_en 3 [.ref 1, .int (nI j)]) [] μ Q := by
  show jm_J rg_I (rg_X Ln xs) 2 mX4_takeRider 0 [some (.ref 1), some (.int (nI j)), none] [] μ Q
  refine jm_aload_n dX4_takeRider_0 rfl rfl rfl ?_
  refine jm_getr dX4_takeRider_1 rfl fe_X4_15 rfl rfl rfl ?_
  refine jm_iload_n dX4_takeRider_4 rfl rfl rfl ?_
  refine jm_iald dX4_takeRider_5 rfl rfl rfl (by decide) rfl (by first | assumption | omega) ?_
  refine jm_istore_n dX4_takeRider_6 rfl rfl rfl rfl ?_
  dsimp only [List.set]
  refine jm_aload_n dX4_takeRider_7 rfl rfl rfl ?_
  refine jm_getr dX4_takeRider_8 rfl fe_X4_15 rfl rfl rfl ?_
  refine jm_iload_n dX4_takeRider_11 rfl rfl rfl ?_
  refine jm_iconst (nI 0) dX4_takeRider_12 rfl (by decide) ?_
  refine jm_iast dX4_takeRider_13 rfl rfl rfl (by decide) rfl (by first | assumption | omega) ?_
  refine jm_aload_n dX4_takeRider_14 rfl rfl rfl ?_
  refine jm_iload_n dX4_takeRider_15 rfl rfl rfl ?_
  refine jm_iload_n dX4_takeRider_16 rfl rfl rfl ?_
  refine jm_ineg dX4_takeRider_17 rfl ?_
  refine jm_cV2 dX4_takeRider_18 rfl cb_X4_47 ci_X4_addLoad cv_X4_addLoad rfl rfl rfl (Nat.le_of_ble_eq_true rfl) (Nat.le_of_ble_eq_true rfl) (by decide) (s_X4_addLoad hj ?_)
  refine jm_iload_n dX4_takeRider_21 rfl rfl rfl ?_
  refine jm_iret dX4_takeRider_22 rfl rfl ?_
  exact h
set_option maxHeartbeats 400000 in
theorem s_X4_shakeNow {Ln : Nat} {xs : Nat → Int32} {μ : jm_Mem} {Q : Option Value → jm_Mem → Prop}  (h : Q (some (.int (rg_sh (μ 1 4) (μ 1 5)))) μ) : gJ Ln xs 1 mX4_shakeNow 0 (jm_en 1 [.ref 1]) [] μ Q := by
  show jm_J rg_I (rg_X Ln xs) 1 mX4_shakeNow 0 [some (.ref 1)] [] μ Q
  refine jm_aload_n dX4_shakeNow_0 rfl rfl rfl ?_
  refine jm_geti dX4_shakeNow_1 rfl fe_X4_25 rfl rfl rfl ?_
  refine jm_aload_n dX4_shakeNow_4 rfl rfl rfl ?_
  refine jm_geti dX4_shakeNow_5 rfl fe_X4_28 rfl rfl rfl ?_
  refine jm_cS2 dX4_shakeNow_8 rfl cb_X4_65 cs_X6_shakeOf (Nat.le_of_ble_eq_true rfl) (Nat.le_of_ble_eq_true rfl) (by decide) (s_X6_shakeOf ?_)
  refine jm_iret dX4_shakeNow_11 rfl rfl ?_
  exact h
set_option maxHeartbeats 400000 in
theorem s_X4_shakeWith {Ln : Nat} {xs : Nat → Int32} {μ : jm_Mem} {Q : Option Value → jm_Mem → Prop} {j : Nat} (hj : j < 12) {w : Int32} (h : Q (some (.int (rg_shw μ j w))) μ) : gJ Ln xs 1 mX4_shakeWith 0 (jm_en 3 [.ref 1, .int (nI j), .int w]) [] μ Q := by
  show jm_J rg_I (rg_X Ln xs) 1 mX4_shakeWith 0 [some (.ref 1), some (.int (nI j)), some (.int w)] [] μ Q
  refine jm_aload_n dX4_shakeWith_0 rfl rfl rfl ?_
  refine jm_geti dX4_shakeWith_1 rfl fe_X4_25 rfl rfl rfl ?_
  refine jm_iload_n dX4_shakeWith_4 rfl rfl rfl ?_
  refine jm_gets dX4_shakeWith_5 rfl (rg_x1 Ln xs) xe_X4_55 ?_
  refine jm_iload_n dX4_shakeWith_8 rfl rfl rfl ?_
  refine jm_xld dX4_shakeWith_9 rfl (rg_x1 Ln xs) (by decide) rfl (by first | assumption | omega) ?_
  refine jm_imul dX4_shakeWith_10 rfl ?_
  refine jm_iadd dX4_shakeWith_11 rfl ?_
  refine jm_aload_n dX4_shakeWith_12 rfl rfl rfl ?_
  refine jm_geti dX4_shakeWith_13 rfl fe_X4_28 rfl rfl rfl ?_
  refine jm_iload_n dX4_shakeWith_16 rfl rfl rfl ?_
  refine jm_gets dX4_shakeWith_17 rfl (rg_x2 Ln xs) xe_X4_58 ?_
  refine jm_iload_n dX4_shakeWith_20 rfl rfl rfl ?_
  refine jm_xld dX4_shakeWith_21 rfl (rg_x2 Ln xs) (by decide) rfl (by first | assumption | omega) ?_
  refine jm_imul dX4_shakeWith_22 rfl ?_
  refine jm_iadd dX4_shakeWith_23 rfl ?_
  refine jm_cS2 dX4_shakeWith_24 rfl cb_X4_65 cs_X6_shakeOf (Nat.le_of_ble_eq_true rfl) (Nat.le_of_ble_eq_true rfl) (by decide) (s_X6_shakeOf ?_)
  refine jm_iret dX4_shakeWith_27 rfl rfl ?_
  exact h
set_option maxHeartbeats 400000 in
theorem s_X4_isLawful {Ln : Nat} {xs : Nat → Int32} {μ : jm_Mem} {Q : Option Value → jm_Mem → Prop} {s r : Int32} (h1 : rg_law μ s r → Q (some (.int 1)) μ) (h0 : ¬ rg_law μ s r → Q (some (.int 0)) μ) : gJ Ln xs 0 mX4_isLawful 0 (jm_en 3 [.ref 1, .int s, .int r]) [] μ Q := by
  show jm_J rg_I (rg_X Ln xs) 0 mX4_isLawful 0 [some (.ref 1), some (.int s), some (.int r)] [] μ Q
  refine jm_iload_n dX4_isLawful_0 rfl rfl rfl ?_
  refine jm_aload_n dX4_isLawful_1 rfl rfl rfl ?_
  refine jm_geti dX4_isLawful_2 rfl fe_X4_18 rfl rfl rfl ?_
  refine jm_aload_n dX4_isLawful_5 rfl rfl rfl ?_
  refine jm_geti dX4_isLawful_6 rfl fe_X4_18 rfl rfl rfl ?_
  refine jm_imul dX4_isLawful_9 rfl ?_
  refine jm_icmp_gt (tgt := 28) dX4_isLawful_10 (by decide) rfl (fun c10 => ?_) (fun c10 => ?_)
  · refine jm_iconst (nI 0) dX4_isLawful_28 rfl (by decide) ?_
    refine jm_iret dX4_isLawful_29 rfl rfl ?_
    first | exact h1 ⟨Int32.not_lt.mp c10, Int32.not_lt.mp c21⟩ | exact h0 (fun h => absurd h.1 (Int32.not_le.mpr c10)) | exact h0 (fun h => absurd h.2 (Int32.not_le.mpr c21)) | fail "leaf"
  · refine jm_iload_n dX4_isLawful_13 rfl rfl rfl ?_
    refine jm_abs dX4_isLawful_14 rfl nl_X4_79 na_st na_in na_cd (Nat.le_of_ble_eq_true rfl) ?_
    refine jm_aload_n dX4_isLawful_17 rfl rfl rfl ?_
    refine jm_geti dX4_isLawful_18 rfl fe_X4_22 rfl rfl rfl ?_
    refine jm_icmp_gt (tgt := 28) dX4_isLawful_21 (by decide) rfl (fun c21 => ?_) (fun c21 => ?_)
    · refine jm_iconst (nI 0) dX4_isLawful_28 rfl (by decide) ?_
      refine jm_iret dX4_isLawful_29 rfl rfl ?_
      first | exact h1 ⟨Int32.not_lt.mp c10, Int32.not_lt.mp c21⟩ | exact h0 (fun h => absurd h.1 (Int32.not_le.mpr c10)) | exact h0 (fun h => absurd h.2 (Int32.not_le.mpr c21)) | fail "leaf"
    · refine jm_iconst (nI 1) dX4_isLawful_24 rfl (by decide) ?_
      refine jm_goto (n := 29) dX4_isLawful_25 (by decide) ?_
      refine jm_iret dX4_isLawful_29 rfl rfl ?_
      first | exact h1 ⟨Int32.not_lt.mp c10, Int32.not_lt.mp c21⟩ | exact h0 (fun h => absurd h.1 (Int32.not_le.mpr c10)) | exact h0 (fun h => absurd h.2 (Int32.not_le.mpr c21)) | fail "leaf"
set_option maxHeartbeats 400000 in
theorem s_X4_mayTurn {Ln : Nat} {xs : Nat → Int32} {μ : jm_Mem} {Q : Option Value → jm_Mem → Prop}  (h1 : rg_law μ (rg_sh (μ 1 4) (μ 1 5)) (μ 1 6) → Q (some (.int 1)) μ) (h0 : ¬ rg_law μ (rg_sh (μ 1 4) (μ 1 5)) (μ 1 6) → Q (some (.int 0)) μ) : gJ Ln xs 2 mX4_mayTurn 0 (jm_en 1 [.ref 1]) [] μ Q := by
  show jm_J rg_I (rg_X Ln xs) 2 mX4_mayTurn 0 [some (.ref 1)] [] μ Q
  refine jm_aload_n dX4_mayTurn_0 rfl rfl rfl ?_
  refine jm_aload_n dX4_mayTurn_1 rfl rfl rfl ?_
  refine jm_cV0 dX4_mayTurn_2 rfl cb_X4_68 ci_X4_shakeNow cv_X4_shakeNow rfl rfl rfl (Nat.le_of_ble_eq_true rfl) (Nat.le_of_ble_eq_true rfl) (by decide) (s_X4_shakeNow ?_)
  refine jm_aload_n dX4_mayTurn_5 rfl rfl rfl ?_
  refine jm_geti dX4_mayTurn_6 rfl fe_X4_31 rfl rfl rfl ?_
  refine jm_cV2 dX4_mayTurn_9 rfl cb_X4_72 ci_X4_isLawful cv_X4_isLawful rfl rfl rfl (Nat.le_of_ble_eq_true rfl) (Nat.le_of_ble_eq_true rfl) (by decide) (s_X4_isLawful (fun cl => ?_) (fun cl => ?_))
  · refine jm_iret dX4_mayTurn_12 rfl rfl ?_
    first | exact h1 cl | exact h0 cl | fail "leaf"
  · refine jm_iret dX4_mayTurn_12 rfl rfl ?_
    first | exact h1 cl | exact h0 cl | fail "leaf"
set_option maxHeartbeats 400000 in
theorem s_X4_mayTurnWith {Ln : Nat} {xs : Nat → Int32} {μ : jm_Mem} {Q : Option Value → jm_Mem → Prop} {j : Nat} (hj : j < 12) {w : Int32} (h1 : rg_law μ (rg_shw μ j w) (μ 1 6 + rg_lift j w) → Q (some (.int 1)) μ) (h0 : ¬ rg_law μ (rg_shw μ j w) (μ 1 6 + rg_lift j w) → Q (some (.int 0)) μ) : gJ Ln xs 2 mX4_mayTurnWith 0 (jm_en 3 [.ref 1, .int (nI j), .int w]) [] μ Q := by
  show jm_J rg_I (rg_X Ln xs) 2 mX4_mayTurnWith 0 [some (.ref 1), some (.int (nI j)), some (.int w)] [] μ Q
  refine jm_aload_n dX4_mayTurnWith_0 rfl rfl rfl ?_
  refine jm_aload_n dX4_mayTurnWith_1 rfl rfl rfl ?_
  refine jm_iload_n dX4_mayTurnWith_2 rfl rfl rfl ?_
  refine jm_iload_n dX4_mayTurnWith_3 rfl rfl rfl ?_
  refine jm_cV2 dX4_mayTurnWith_4 rfl cb_X4_76 ci_X4_shakeWith cv_X4_shakeWith rfl rfl rfl (Nat.le_of_ble_eq_true rfl) (Nat.le_of_ble_eq_true rfl) (by decide) (s_X4_shakeWith hj ?_)
  refine jm_aload_n dX4_mayTurnWith_7 rfl rfl rfl ?_
  refine jm_geti dX4_mayTurnWith_8 rfl fe_X4_31 rfl rfl rfl ?_
  refine jm_iload_n dX4_mayTurnWith_11 rfl rfl rfl ?_
  refine jm_iload_n dX4_mayTurnWith_12 rfl rfl rfl ?_
  refine jm_cS2 dX4_mayTurnWith_13 rfl cb_X4_61 cs_X4_liftOf (Nat.le_of_ble_eq_true rfl) (Nat.le_of_ble_eq_true rfl) (by decide) (s_X4_liftOf hj ?_)
  refine jm_iadd dX4_mayTurnWith_16 rfl ?_
  refine jm_cV2 dX4_mayTurnWith_17 rfl cb_X4_72 ci_X4_isLawful cv_X4_isLawful rfl rfl rfl (Nat.le_of_ble_eq_true rfl) (Nat.le_of_ble_eq_true rfl) (by decide) (s_X4_isLawful (fun cl => ?_) (fun cl => ?_))
  · refine jm_iret dX4_mayTurnWith_20 rfl rfl ?_
    first | exact h1 cl | exact h0 cl | fail "leaf"
  · refine jm_iret dX4_mayTurnWith_20 rfl rfl ?_
    first | exact h1 cl | exact h0 cl | fail "leaf"
