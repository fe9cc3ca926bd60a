theorem rg_add_na {μ : jm_Mem} {j b : Nat} {w : Int32} (h : b ≠ 1) : rg_add μ j w b = μ b := by
  funext k
  simp only [rg_add, rd_na h]
theorem rg_nm1 {k : Nat} (h : k < 2 ^ 31) : ¬ nI k = -1 := fun e => by
  have := congrArg Int32.toInt e
  rw [nI_toInt h] at this
  have h2 : (-1 : Int32).toInt = -1 := by decide
  omega
theorem rg_bst_ix {ok : Nat → Bool} {sv : Nat → Int32} : ∀ n, (rg_bst ok sv n).1 = -1 ∨ ∃ j, j < n ∧ ok j = true ∧ (rg_bst ok sv n).1 = nI j
  | 0 => Or.inl rfl
  | n + 1 => by
    simp only [rg_bst]
    split
    · next h => exact Or.inr ⟨n, by omega, h.1, rfl⟩
    · rcases rg_bst_ix n with h | ⟨j, h1, h2, h3⟩
      · exact Or.inl h
      · exact Or.inr ⟨j, by omega, h2, h3⟩
theorem rg_tar_na {μ : jm_Mem} {b k : Nat} : ∀ n, b ≠ 1 → b ≠ 3 → rg_tar μ n b k = μ b k
  | 0, _, _ => rfl
  | n + 1, h1, h3 => by simp only [rg_tar]; rw [rg_add_na h1, rd_na h3, rg_tar_na n h1 h3]
abbrev rg_np (p : Int32) : Prop := p < 0 ∨ nI 12 ≤ p
abbrev rg_nw (v lo hi : Int32) : Prop := v < lo ∨ hi < v
abbrev rg_wi (v lo hi : Int32) : Prop := ¬ v < lo ∧ ¬ hi < v
abbrev rg_nh (μ : jm_Mem) (p : Int32) : Prop := rg_np p ∨ ∃ j, j < 12 ∧ p = nI j ∧ μ 2 j ≤ 0
def oc_horse (μ : jm_Mem) (p w c r : Int32) (μ1 : jm_Mem) : Prop := (rg_np p ∧ r = -101 ∧ μ1 = μ) ∨ ∃ j, j < 12 ∧ p = nI j ∧ (((rg_nw w (nI 1) (nI 200) ∨ rg_nw c (nI 0) (nI 99)) ∧ r = -102 ∧ μ1 = μ) ∨ (rg_wi w (nI 1) (nI 200) ∧ rg_wi c (nI 0) (nI 99) ∧ ((¬ μ 2 j ≤ 0 ∧ r = -103 ∧ μ1 = μ) ∨ (μ 2 j ≤ 0 ∧ r = nI (rg_cnt (jm_set μ 2 j w 2) 12) ∧ μ1 = jm_set (jm_set (rg_add (jm_set μ 2 j w) j w) 9 (8 * j + 0) c) 10 j (nI (0 + 1))))))
def oc_leave (μ : jm_Mem) (p r : Int32) (μ1 : jm_Mem) : Prop := (rg_nh μ p ∧ r = -101 ∧ μ1 = μ) ∨ ∃ j, j < 12 ∧ p = nI j ∧ ¬ μ 2 j ≤ 0 ∧ (((¬ μ 3 j ≤ 0 ∨ ∃ i, i < 4 ∧ ¬ μ 12 (4 * j + i) = nI (4 * j + i)) ∧ r = -103 ∧ μ1 = μ) ∨ (μ 3 j ≤ 0 ∧ (∀ i, i < 4 → μ 12 (4 * j + i) = nI (4 * j + i)) ∧ r = μ 2 j ∧ μ1 = rg_add (jm_set (jm_set μ 10 j 0) 2 j 0) j (0 - μ 2 j)))
def oc_sit (μ : jm_Mem) (p w r : Int32) (μ1 : jm_Mem) : Prop := (rg_nh μ p ∧ r = -101 ∧ μ1 = μ) ∨ ∃ j, j < 12 ∧ p = nI j ∧ ¬ μ 2 j ≤ 0 ∧ ((rg_nw w 1 (nI 150) ∧ r = -102 ∧ μ1 = μ) ∨ (rg_wi w 1 (nI 150) ∧ (((¬ μ 3 j ≤ 0 ∨ ¬ rg_law μ (rg_shw μ j w) (μ 1 6 + rg_lift j w)) ∧ r = -103 ∧ μ1 = μ) ∨ (μ 3 j ≤ 0 ∧ rg_law μ (rg_shw μ j w) (μ 1 6 + rg_lift j w) ∧ μ1 = rg_add (jm_set μ 3 j w) j w ∧ r = rg_sh (μ1 1 4) (μ1 1 5)))))
def oc_rise (μ : jm_Mem) (p r : Int32) (μ1 : jm_Mem) : Prop := (rg_nh μ p ∧ r = -101 ∧ μ1 = μ) ∨ ∃ j, j < 12 ∧ p = nI j ∧ ¬ μ 2 j ≤ 0 ∧ ((μ 3 j ≤ 0 ∧ r = -103 ∧ μ1 = μ) ∨ (¬ μ 3 j ≤ 0 ∧ r = μ 3 j ∧ μ1 = rg_add (jm_set μ 3 j 0) j (0 - μ 3 j)))
def oc_may (μ : jm_Mem) (r : Int32) : Prop := (rg_law μ (rg_sh (μ 1 4) (μ 1 5)) (μ 1 6) ∧ r = 1) ∨ (¬ rg_law μ (rg_sh (μ 1 4) (μ 1 5)) (μ 1 6) ∧ r = 0)
def oc_law (μ : jm_Mem) (x v r : Int32) (μ1 : jm_Mem) : Prop := (x = 0 ∧ ((rg_nw v (nI 0) (nI 30000) ∧ r = -102 ∧ μ1 = μ) ∨ (rg_wi v (nI 0) (nI 30000) ∧ r = μ 1 2 ∧ μ1 = jm_set μ 1 2 v))) ∨ (x = 1 ∧ ((rg_nw v (nI 0) (nI 5000) ∧ r = -102 ∧ μ1 = μ) ∨ (rg_wi v (nI 0) (nI 5000) ∧ r = μ 1 3 ∧ μ1 = jm_set μ 1 3 v))) ∨ (¬ x = 0 ∧ ¬ x = 1 ∧ r = -101 ∧ μ1 = μ)
def oc_best (μ : jm_Mem) (w r : Int32) : Prop := (rg_nw w 1 (nI 150) ∧ r = -102) ∨ (rg_wi w 1 (nI 150) ∧ r = (rg_bst (rg_okw μ w) (fun j => rg_shw μ j w) 12).1)
def oc_rider (μ : jm_Mem) (p r : Int32) : Prop := (rg_np p ∧ r = -101) ∨ ∃ j, j < 12 ∧ p = nI j ∧ r = μ 3 j
def oc_coat (μ : jm_Mem) (p c r : Int32) (μ1 : jm_Mem) : Prop := (rg_nh μ p ∧ r = -101 ∧ μ1 = μ) ∨ ∃ j m, j < 12 ∧ p = nI j ∧ ¬ μ 2 j ≤ 0 ∧ μ 10 j = nI m ∧ ((rg_nw c (nI 0) (nI 99) ∧ r = -102 ∧ μ1 = μ) ∨ (rg_wi c (nI 0) (nI 99) ∧ ((m = 8 ∧ r = -104 ∧ μ1 = μ) ∨ (m < 8 ∧ r = nI (m + 1) ∧ μ1 = jm_set (jm_set μ 9 (8 * j + m) c) 10 j (nI (m + 1))))))
def oc_sample (μ : jm_Mem) (p k r : Int32) : Prop := (rg_nh μ p ∧ r = -101) ∨ ∃ j m, j < 12 ∧ p = nI j ∧ ¬ μ 2 j ≤ 0 ∧ μ 10 j = nI m ∧ m ≤ 8 ∧ ((∃ i, i < m ∧ k = nI i ∧ r = μ 9 (8 * j + m - 1 - i)) ∨ ((k < nI 0 ∨ nI m - nI 1 < k) ∧ r = -1))
def oc_strip (μ : jm_Mem) (p c r : Int32) (μ1 : jm_Mem) : Prop := (rg_nh μ p ∧ r = -101 ∧ μ1 = μ) ∨ ∃ j m, j < 12 ∧ p = nI j ∧ ¬ μ 2 j ≤ 0 ∧ μ 10 j = nI m ∧ m ≤ 8 ∧ (((∀ i, i < m → ¬ μ 9 (8 * j + m - 1 - i) = c) ∧ r = -102 ∧ μ1 = μ) ∨ ∃ k, k < m ∧ μ 9 (8 * j + m - 1 - k) = c ∧ (∀ i, i < k → ¬ μ 9 (8 * j + m - 1 - i) = c) ∧ r = nI k ∧ μ1 = jm_set μ 10 j (μ 10 j - nI k))
abbrev rg_nl (μ : jm_Mem) (p g : Int32) : Prop := rg_nh μ p ∨ g < 0 ∨ nI 4 ≤ g
def oc_swap (μ : jm_Mem) (p g q o r : Int32) (μ1 : jm_Mem) : Prop := ((rg_nl μ p g ∨ rg_nl μ q o) ∧ r = -101 ∧ μ1 = μ) ∨ ∃ j i j2 i2, j < 12 ∧ i < 4 ∧ j2 < 12 ∧ i2 < 4 ∧ p = nI j ∧ g = nI i ∧ q = nI j2 ∧ o = nI i2 ∧ ¬ μ 2 j ≤ 0 ∧ ¬ μ 2 j2 ≤ 0 ∧ ((j = j2 ∧ i = i2 ∧ r = -102 ∧ μ1 = μ) ∨ (¬ (j = j2 ∧ i = i2) ∧ r = 1 ∧ μ1 = jm_set (jm_set μ 12 (4 * j + i) (μ 12 (4 * j2 + i2))) 12 (4 * j2 + i2) (μ 12 (4 * j + i))))
def oc_mark (μ : jm_Mem) (p g r : Int32) : Prop := (rg_nl μ p g ∧ r = -101) ∨ ∃ j i, j < 12 ∧ i < 4 ∧ p = nI j ∧ g = nI i ∧ ¬ μ 2 j ≤ 0 ∧ r = μ 12 (4 * j + i)
def oc_find (μ : jm_Mem) (p g r : Int32) : Prop := ((rg_np p ∨ g < 0 ∨ nI 4 ≤ g) ∧ r = -101) ∨ ∃ j i, j < 12 ∧ i < 4 ∧ p = nI j ∧ g = nI i ∧ ((μ 2 j ≤ 0 ∧ r = -1) ∨ (¬ μ 2 j ≤ 0 ∧ (((∀ k, k < 48 → ¬ μ 12 k = nI (4 * j + i)) ∧ r = -1) ∨ ∃ k, k < 48 ∧ μ 12 k = nI (4 * j + i) ∧ (∀ k2, k2 < k → ¬ μ 12 k2 = nI (4 * j + i)) ∧ r = nI k)))
def oc_fair (μ : jm_Mem) (a b e r : Int32) (μ1 : jm_Mem) : Prop := ((rg_nw a (nI 0) (nI 400) ∨ rg_nw b a (nI 400) ∨ rg_nw e (nI 0) (nI 10000)) ∧ r = -102 ∧ μ1 = μ) ∨ (rg_wi a (nI 0) (nI 400) ∧ rg_wi b a (nI 400) ∧ rg_wi e (nI 0) (nI 10000) ∧ ∃ nf, μ 14 4 = nI nf ∧ ((nf = 8 ∧ r = -104 ∧ μ1 = μ) ∨ (nf < 8 ∧ r = nI nf ∧ μ1 = jm_set (jm_set (jm_set (jm_set μ 15 nf a) 16 nf b) 17 nf e) 14 4 (nI (nf + 1)))))
def oc_road (μ : jm_Mem) (a b d r : Int32) (μ1 : jm_Mem) : Prop := ∃ nf, μ 14 4 = nI nf ∧ nf ≤ 8 ∧ (((a < 0 ∨ nI nf ≤ a ∨ b < 0 ∨ nI nf ≤ b) ∧ r = -101 ∧ μ1 = μ) ∨ ∃ i k, i < nf ∧ k < nf ∧ a = nI i ∧ b = nI k ∧ (((rg_nw d (nI 0) (nI 50) ∨ i = k) ∧ r = -102 ∧ μ1 = μ) ∨ (rg_wi d (nI 0) (nI 50) ∧ ¬ i = k ∧ r = μ 18 (8 * i + k) ∧ μ1 = jm_set (jm_set μ 18 (8 * i + k) d) 18 (8 * k + i) d)))
def oc_turn (μ : jm_Mem) (r : Int32) (μ1 : jm_Mem) : Prop := ((¬ rg_law μ (rg_sh (μ 1 4) (μ 1 5)) (μ 1 6) ∨ μ 0 7 * nI 10 ≤ μ 0 8) ∧ r = -103 ∧ μ1 = μ) ∨ (rg_law μ (rg_sh (μ 1 4) (μ 1 5)) (μ 1 6) ∧ μ 0 8 < μ 0 7 * nI 10 ∧ r = nI (rg_cnt (μ 3) 12) ∧ μ1 = jm_set (jm_set (rg_tar μ 12) 0 8 (μ 0 8 + 1)) 0 9 (μ 0 9 + nI (rg_cnt (μ 3) 12)))
def oc_hours (μ : jm_Mem) (v r : Int32) (μ1 : jm_Mem) : Prop := (rg_nw v (nI 1) (nI 1000) ∧ r = -102 ∧ μ1 = μ) ∨ (rg_wi v (nI 1) (nI 1000) ∧ r = μ 0 7 ∧ μ1 = jm_set μ 0 7 v)
def oc_come (μ : jm_Mem) (v r : Int32) (μ1 : jm_Mem) : Prop := (rg_nw v 1 (nI 150) ∧ r = -102 ∧ μ1 = μ) ∨ (rg_wi v 1 (nI 150) ∧ ∃ nw, μ 22 1 = nI nw ∧ ((nw = 100 ∧ r = -104 ∧ μ1 = μ) ∨ (nw < 100 ∧ r = nI (nw + 1) ∧ μ1 = jm_set (jm_set μ 23 nw v) 22 1 (nI (nw + 1)))))
def oc_next (μ : jm_Mem) (r : Int32) (μ1 : jm_Mem) : Prop := (μ 22 1 = nI 0 ∧ r = -1 ∧ μ1 = μ) ∨ ∃ nw, nw < 100 ∧ μ 22 1 = nI (nw + 1) ∧ (((rg_bst (rg_okw μ (μ 23 0)) (fun j => rg_shw μ j (μ 23 0)) 12).1 = -1 ∧ r = -1 ∧ μ1 = μ) ∨ ∃ j, j < 12 ∧ rg_okw μ (μ 23 0) j = true ∧ (rg_bst (rg_okw μ (μ 23 0)) (fun j => rg_shw μ j (μ 23 0)) 12).1 = nI j ∧ r = nI j ∧ μ1 = jm_arr (jm_set (rg_add (jm_set μ 3 j (μ 23 0)) j (μ 23 0)) 22 1 (nI nw)) 23 (va_cpy (μ 23) (μ 23) 1 0 nw))
def oc_book (μ : jm_Mem) (v r : Int32) (μ1 : jm_Mem) : Prop := (rg_nw v (nI 0) 100000 ∧ r = -102 ∧ μ1 = μ) ∨ (rg_wi v (nI 0) 100000 ∧ r = μ 0 9 - v ∧ μ1 = jm_set μ 0 9 0)
def oc_count (μ : jm_Mem) (x r : Int32) : Prop := (x = nI 0 ∧ r = nI (rg_cnt (μ 2) 12)) ∨ (x = nI 1 ∧ r = nI (rg_cnt (μ 3) 12)) ∨ (x = nI 2 ∧ r = μ 22 1) ∨ (x = nI 3 ∧ r = μ 14 4) ∨ (x = nI 4 ∧ r = μ 0 8) ∨ (x = nI 5 ∧ r = μ 0 9) ∨ (x = nI 6 ∧ r = μ 1 7) ∨ (x = nI 7 ∧ r = μ 0 6) ∨ ((x < 0 ∨ nI 8 ≤ x) ∧ r = -102)
set_option maxHeartbeats 400000 in
theorem s_X6_horse {Ln : Nat} {xs : Nat → Int32} {μ : jm_Mem} {Q : Option Value → jm_Mem → Prop} {p w c : Int32} (hz : ∀ j, j < 12 → μ 2 j ≤ 0 → μ 10 j = nI 0) (h : ∀ r μ1, oc_horse μ p w c r μ1 → Q (some (.int r)) μ1) : gJ Ln xs 3 mX6_horse 0 (jm_en 4 [.ref 0, .int p, .int w, .int c]) [] μ Q := by
  show jm_J rg_I (rg_X Ln xs) 3 mX6_horse 0 [some (.ref 0), some (.int p), some (.int w), some (.int c)] [] μ Q
  refine jm_iload_n dX6_horse_0 rfl rfl rfl ?_
  refine jm_cS1 dX6_horse_1 rfl cb_X6_64 cs_X6_isPlace (Nat.le_of_ble_eq_true rfl) (Nat.le_of_ble_eq_true rfl) (by decide) (s_X6_isPlace (fun j hj e => ?_) (fun c0 => ?_))
  · subst e
    refine jm_if_ne (tgt := 10) dX6_horse_4 (by decide) rfl (fun c4 => ?_) (fun c4 => absurd c4 (by decide))
    refine jm_iload_n dX6_horse_10 rfl rfl rfl ?_
    refine jm_iconst (nI 1) dX6_horse_11 rfl (by decide) ?_
    refine jm_sipush (nI 200) dX6_horse_12 rfl (by decide) ?_
    refine jm_cS3 dX6_horse_15 rfl cb_X6_68 cs_X6_isWithin (Nat.le_of_ble_eq_true rfl) (Nat.le_of_ble_eq_true rfl) (by decide) (s_X6_isWithin (fun a15 b15 => ?_) (fun c15 => ?_))
    · refine jm_if_eq (tgt := 31) dX6_horse_18 (by decide) rfl (fun c18 => absurd c18 (by decide)) (fun c18 => ?_)
      refine jm_iload_n dX6_horse_21 rfl rfl rfl ?_
      refine jm_iconst (nI 0) dX6_horse_22 rfl (by decide) ?_
      refine jm_bipush (nI 99) dX6_horse_23 rfl (by decide) ?_
      refine jm_cS3 dX6_horse_25 rfl cb_X6_68 cs_X6_isWithin (Nat.le_of_ble_eq_true rfl) (Nat.le_of_ble_eq_true rfl) (by decide) (s_X6_isWithin (fun a25 b25 => ?_) (fun c25 => ?_))
      · refine jm_if_ne (tgt := 34) dX6_horse_28 (by decide) rfl (fun c28 => ?_) (fun c28 => absurd c28 (by decide))
        refine jm_aload_n dX6_horse_34 rfl rfl rfl ?_
        refine jm_getr dX6_horse_35 rfl fe_X6_12 rfl rfl rfl ?_
        refine jm_iload_n dX6_horse_38 rfl rfl rfl ?_
        refine jm_cV1 dX6_horse_39 rfl cb_X6_72 ci_X4_hasHorse cv_X4_hasHorse rfl rfl rfl (Nat.le_of_ble_eq_true rfl) (Nat.le_of_ble_eq_true rfl) (by decide) (s_X4_hasHorse_at hj (fun ch => ?_) (fun ch => ?_))
        · refine jm_if_eq (tgt := 48) dX6_horse_42 (by decide) rfl (fun c42 => absurd c42 (by decide)) (fun c42 => ?_)
          refine jm_bipush (-103) dX6_horse_45 rfl (by decide) ?_
          refine jm_iret dX6_horse_47 rfl rfl ?_
          refine h _ _ ?_
          first | exact Or.inl ⟨c0, rfl, rfl⟩ | exact Or.inr ⟨j, hj, rfl, Or.inl ⟨Or.inl c15, rfl, rfl⟩⟩ | exact Or.inr ⟨j, hj, rfl, Or.inl ⟨Or.inr c25, rfl, rfl⟩⟩ | exact Or.inr ⟨j, hj, rfl, Or.inr ⟨⟨a15, b15⟩, ⟨a25, b25⟩, Or.inl ⟨ch, rfl, rfl⟩⟩⟩ | exact Or.inr ⟨j, hj, rfl, Or.inr ⟨⟨a15, b15⟩, ⟨a25, b25⟩, Or.inr ⟨ch, by rw [jm_set_ne 2 (by decide), jm_set_ne 2 (by decide), rg_add_na (by decide)], rfl⟩⟩⟩ | fail "leaf"
        · refine jm_if_eq (tgt := 48) dX6_horse_42 (by decide) rfl (fun c42 => ?_) (fun c42 => absurd c42 (by decide))
          refine jm_aload_n dX6_horse_48 rfl rfl rfl ?_
          refine jm_getr dX6_horse_49 rfl fe_X6_12 rfl rfl rfl ?_
          refine jm_iload_n dX6_horse_52 rfl rfl rfl ?_
          refine jm_iload_n dX6_horse_53 rfl rfl rfl ?_
          refine jm_cV2 dX6_horse_54 rfl cb_X6_75 ci_X4_putHorse cv_X4_putHorse rfl rfl rfl (Nat.le_of_ble_eq_true rfl) (Nat.le_of_ble_eq_true rfl) (by decide) (s_X4_putHorse hj ?_)
          refine jm_aload_n dX6_horse_57 rfl rfl rfl ?_
          refine jm_getr dX6_horse_58 rfl fe_X6_26 rfl rfl rfl ?_
          refine jm_iload_n dX6_horse_61 rfl rfl rfl ?_
          refine jm_iload_n dX6_horse_62 rfl rfl rfl ?_
          refine jm_cV2 dX6_horse_63 rfl cb_X6_79 ci_X1_paintOver cv_X1_paintOver rfl rfl rfl (Nat.le_of_ble_eq_true rfl) (Nat.le_of_ble_eq_true rfl) (by decide) (s_X1_paintOver hj (m := 0) (by rw [rg_add_na (by decide), rd_na (by decide)]; exact hz j hj ch) (by decide) ?_)
          refine jm_aload_n dX6_horse_66 rfl rfl rfl ?_
          refine jm_getr dX6_horse_67 rfl fe_X6_12 rfl rfl rfl ?_
          refine jm_cV0 dX6_horse_70 rfl cb_X6_82 ci_X4_horsesStanding cv_X4_horsesStanding rfl rfl rfl (Nat.le_of_ble_eq_true rfl) (Nat.le_of_ble_eq_true rfl) (by decide) (s_X4_horsesStanding ?_)
          refine jm_iret dX6_horse_73 rfl rfl ?_
          refine h _ _ ?_
          first | exact Or.inl ⟨c0, rfl, rfl⟩ | exact Or.inr ⟨j, hj, rfl, Or.inl ⟨Or.inl c15, rfl, rfl⟩⟩ | exact Or.inr ⟨j, hj, rfl, Or.inl ⟨Or.inr c25, rfl, rfl⟩⟩ | exact Or.inr ⟨j, hj, rfl, Or.inr ⟨⟨a15, b15⟩, ⟨a25, b25⟩, Or.inl ⟨ch, rfl, rfl⟩⟩⟩ | exact Or.inr ⟨j, hj, rfl, Or.inr ⟨⟨a15, b15⟩, ⟨a25, b25⟩, Or.inr ⟨ch, by rw [jm_set_ne 2 (by decide), jm_set_ne 2 (by decide), rg_add_na (by decide)], rfl⟩⟩⟩ | fail "leaf"
      · refine jm_if_ne (tgt := 34) dX6_horse_28 (by decide) rfl (fun c28 => absurd c28 (by decide)) (fun c28 => ?_)
        refine jm_bipush (-102) dX6_horse_31 rfl (by decide) ?_
        refine jm_iret dX6_horse_33 rfl rfl ?_
        refine h _ _ ?_
        first | exact Or.inl ⟨c0, rfl, rfl⟩ | exact Or.inr ⟨j, hj, rfl, Or.inl ⟨Or.inl c15, rfl, rfl⟩⟩ | exact Or.inr ⟨j, hj, rfl, Or.inl ⟨Or.inr c25, rfl, rfl⟩⟩ | exact Or.inr ⟨j, hj, rfl, Or.inr ⟨⟨a15, b15⟩, ⟨a25, b25⟩, Or.inl ⟨ch, rfl, rfl⟩⟩⟩ | exact Or.inr ⟨j, hj, rfl, Or.inr ⟨⟨a15, b15⟩, ⟨a25, b25⟩, Or.inr ⟨ch, by rw [jm_set_ne 2 (by decide), jm_set_ne 2 (by decide), rg_add_na (by decide)], rfl⟩⟩⟩ | fail "leaf"
    · refine jm_if_eq (tgt := 31) dX6_horse_18 (by decide) rfl (fun c18 => ?_) (fun c18 => absurd c18 (by decide))
      refine jm_bipush (-102) dX6_horse_31 rfl (by decide) ?_
      refine jm_iret dX6_horse_33 rfl rfl ?_
      refine h _ _ ?_
      first | exact Or.inl ⟨c0, rfl, rfl⟩ | exact Or.inr ⟨j, hj, rfl, Or.inl ⟨Or.inl c15, rfl, rfl⟩⟩ | exact Or.inr ⟨j, hj, rfl, Or.inl ⟨Or.inr c25, rfl, rfl⟩⟩ | exact Or.inr ⟨j, hj, rfl, Or.inr ⟨⟨a15, b15⟩, ⟨a25, b25⟩, Or.inl ⟨ch, rfl, rfl⟩⟩⟩ | exact Or.inr ⟨j, hj, rfl, Or.inr ⟨⟨a15, b15⟩, ⟨a25, b25⟩, Or.inr ⟨ch, by rw [jm_set_ne 2 (by decide), jm_set_ne 2 (by decide), rg_add_na (by decide)], rfl⟩⟩⟩ | fail "leaf"
  · refine jm_if_ne (tgt := 10) dX6_horse_4 (by decide) rfl (fun c4 => absurd c4 (by decide)) (fun c4 => ?_)
    refine jm_bipush (-101) dX6_horse_7 rfl (by decide) ?_
    refine jm_iret dX6_horse_9 rfl rfl ?_
    refine h _ _ ?_
    first | exact Or.inl ⟨c0, rfl, rfl⟩ | exact Or.inr ⟨j, hj, rfl, Or.inl ⟨Or.inl c15, rfl, rfl⟩⟩ | exact Or.inr ⟨j, hj, rfl, Or.inl ⟨Or.inr c25, rfl, rfl⟩⟩ | exact Or.inr ⟨j, hj, rfl, Or.inr ⟨⟨a15, b15⟩, ⟨a25, b25⟩, Or.inl ⟨ch, rfl, rfl⟩⟩⟩ | exact Or.inr ⟨j, hj, rfl, Or.inr ⟨⟨a15, b15⟩, ⟨a25, b25⟩, Or.inr ⟨ch, by rw [jm_set_ne 2 (by decide), jm_set_ne 2 (by decide), rg_add_na (by decide)], rfl⟩⟩⟩ | fail "leaf"
set_option maxHeartbeats 400000 in
theorem s_X6_leave {Ln : Nat} {xs : Nat → Int32} {μ : jm_Mem} {Q : Option Value → jm_Mem → Prop} {p : Int32} (h : ∀ r μ1, oc_leave μ p r μ1 → Q (some (.int r)) μ1) : gJ Ln xs 3 mX6_leave 0 (jm_en 2 [.ref 0, .int p]) [] μ Q := by
  show jm_J rg_I (rg_X Ln xs) 3 mX6_leave 0 [some (.ref 0), some (.int p)] [] μ Q
  refine jm_aload_n dX6_leave_0 rfl rfl rfl ?_
  refine jm_getr dX6_leave_1 rfl fe_X6_12 rfl rfl rfl ?_
  refine jm_iload_n dX6_leave_4 rfl rfl rfl ?_
  refine jm_cV1 dX6_leave_5 rfl cb_X6_72 ci_X4_hasHorse cv_X4_hasHorse rfl rfl rfl (Nat.le_of_ble_eq_true rfl) (Nat.le_of_ble_eq_true rfl) (by decide) (s_X4_hasHorse (fun j hj e ch => ?_) (fun c0 => ?_) (fun j hj e ch => ?_))
  · subst e
    refine jm_if_ne (tgt := 14) dX6_leave_8 (by decide) rfl (fun c8 => ?_) (fun c8 => absurd c8 (by decide))
    refine jm_aload_n dX6_leave_14 rfl rfl rfl ?_
    refine jm_getr dX6_leave_15 rfl fe_X6_12 rfl rfl rfl ?_
    refine jm_iload_n dX6_leave_18 rfl rfl rfl ?_
    refine jm_cV1 dX6_leave_19 rfl cb_X6_86 ci_X4_hasRider cv_X4_hasRider rfl rfl rfl (Nat.le_of_ble_eq_true rfl) (Nat.le_of_ble_eq_true rfl) (by decide) (s_X4_hasRider_at hj (fun cr => ?_) (fun cr => ?_))
    · refine jm_if_ne (tgt := 36) dX6_leave_22 (by decide) rfl (fun c22 => ?_) (fun c22 => absurd c22 (by decide))
      refine jm_bipush (-103) dX6_leave_36 rfl (by decide) ?_
      refine jm_iret dX6_leave_38 rfl rfl ?_
      refine h _ _ ?_
      first | exact Or.inl ⟨Or.inl c0, rfl, rfl⟩ | exact Or.inl ⟨Or.inr ⟨j, hj, rfl, ch⟩, rfl, rfl⟩ | exact Or.inr ⟨j, hj, rfl, ch, Or.inl ⟨Or.inl cr, rfl, rfl⟩⟩ | exact Or.inr ⟨j, hj, rfl, ch, Or.inl ⟨Or.inr ⟨i, hi, ho⟩, rfl, rfl⟩⟩ | exact Or.inr ⟨j, hj, rfl, ch, Or.inr ⟨cr, ho, rfl, rfl⟩⟩ | fail "leaf"
    · refine jm_if_ne (tgt := 36) dX6_leave_22 (by decide) rfl (fun c22 => absurd c22 (by decide)) (fun c22 => ?_)
      refine jm_aload_n dX6_leave_25 rfl rfl rfl ?_
      refine jm_getr dX6_leave_26 rfl fe_X6_33 rfl rfl rfl ?_
      refine jm_iload_n dX6_leave_29 rfl rfl rfl ?_
      refine jm_cV1 dX6_leave_30 rfl cb_X6_89 ci_X3_areOwn cv_X3_areOwn rfl rfl rfl (Nat.le_of_ble_eq_true rfl) (Nat.le_of_ble_eq_true rfl) (by decide) (s_X3_areOwn hj (fun ho => ?_) (fun i hi ho => ?_))
      · refine jm_if_ne (tgt := 39) dX6_leave_33 (by decide) rfl (fun c33 => ?_) (fun c33 => absurd c33 (by decide))
        refine jm_aload_n dX6_leave_39 rfl rfl rfl ?_
        refine jm_getr dX6_leave_40 rfl fe_X6_26 rfl rfl rfl ?_
        refine jm_iload_n dX6_leave_43 rfl rfl rfl ?_
        refine jm_cV1 dX6_leave_44 rfl cb_X6_92 ci_X1_clear cv_X1_clear rfl rfl rfl (Nat.le_of_ble_eq_true rfl) (Nat.le_of_ble_eq_true rfl) (by decide) (s_X1_clear hj ?_)
        refine jm_aload_n dX6_leave_47 rfl rfl rfl ?_
        refine jm_getr dX6_leave_48 rfl fe_X6_12 rfl rfl rfl ?_
        refine jm_iload_n dX6_leave_51 rfl rfl rfl ?_
        refine jm_cV1 dX6_leave_52 rfl cb_X6_96 ci_X4_takeHorse cv_X4_takeHorse rfl rfl rfl (Nat.le_of_ble_eq_true rfl) (Nat.le_of_ble_eq_true rfl) (by decide) (s_X4_takeHorse hj ?_)
        refine jm_iret dX6_leave_55 rfl rfl ?_
        refine h _ _ ?_
        first | exact Or.inl ⟨Or.inl c0, rfl, rfl⟩ | exact Or.inl ⟨Or.inr ⟨j, hj, rfl, ch⟩, rfl, rfl⟩ | exact Or.inr ⟨j, hj, rfl, ch, Or.inl ⟨Or.inl cr, rfl, rfl⟩⟩ | exact Or.inr ⟨j, hj, rfl, ch, Or.inl ⟨Or.inr ⟨i, hi, ho⟩, rfl, rfl⟩⟩ | exact Or.inr ⟨j, hj, rfl, ch, Or.inr ⟨cr, ho, rfl, rfl⟩⟩ | fail "leaf"
      · refine jm_if_ne (tgt := 39) dX6_leave_33 (by decide) rfl (fun c33 => absurd c33 (by decide)) (fun c33 => ?_)
        refine jm_bipush (-103) dX6_leave_36 rfl (by decide) ?_
        refine jm_iret dX6_leave_38 rfl rfl ?_
        refine h _ _ ?_
        first | exact Or.inl ⟨Or.inl c0, rfl, rfl⟩ | exact Or.inl ⟨Or.inr ⟨j, hj, rfl, ch⟩, rfl, rfl⟩ | exact Or.inr ⟨j, hj, rfl, ch, Or.inl ⟨Or.inl cr, rfl, rfl⟩⟩ | exact Or.inr ⟨j, hj, rfl, ch, Or.inl ⟨Or.inr ⟨i, hi, ho⟩, rfl, rfl⟩⟩ | exact Or.inr ⟨j, hj, rfl, ch, Or.inr ⟨cr, ho, rfl, rfl⟩⟩ | fail "leaf"
  · refine jm_if_ne (tgt := 14) dX6_leave_8 (by decide) rfl (fun c8 => absurd c8 (by decide)) (fun c8 => ?_)
    refine jm_bipush (-101) dX6_leave_11 rfl (by decide) ?_
    refine jm_iret dX6_leave_13 rfl rfl ?_
    refine h _ _ ?_
    first | exact Or.inl ⟨Or.inl c0, rfl, rfl⟩ | exact Or.inl ⟨Or.inr ⟨j, hj, rfl, ch⟩, rfl, rfl⟩ | exact Or.inr ⟨j, hj, rfl, ch, Or.inl ⟨Or.inl cr, rfl, rfl⟩⟩ | exact Or.inr ⟨j, hj, rfl, ch, Or.inl ⟨Or.inr ⟨i, hi, ho⟩, rfl, rfl⟩⟩ | exact Or.inr ⟨j, hj, rfl, ch, Or.inr ⟨cr, ho, rfl, rfl⟩⟩ | fail "leaf"
  · subst e
    refine jm_if_ne (tgt := 14) dX6_leave_8 (by decide) rfl (fun c8 => absurd c8 (by decide)) (fun c8 => ?_)
    refine jm_bipush (-101) dX6_leave_11 rfl (by decide) ?_
    refine jm_iret dX6_leave_13 rfl rfl ?_
    refine h _ _ ?_
    first | exact Or.inl ⟨Or.inl c0, rfl, rfl⟩ | exact Or.inl ⟨Or.inr ⟨j, hj, rfl, ch⟩, rfl, rfl⟩ | exact Or.inr ⟨j, hj, rfl, ch, Or.inl ⟨Or.inl cr, rfl, rfl⟩⟩ | exact Or.inr ⟨j, hj, rfl, ch, Or.inl ⟨Or.inr ⟨i, hi, ho⟩, rfl, rfl⟩⟩ | exact Or.inr ⟨j, hj, rfl, ch, Or.inr ⟨cr, ho, rfl, rfl⟩⟩ | fail "leaf"
set_option maxHeartbeats 400000 in
theorem s_X6_sit {Ln : Nat} {xs : Nat → Int32} {μ : jm_Mem} {Q : Option Value → jm_Mem → Prop} {p w : Int32} (h : ∀ r μ1, oc_sit μ p w r μ1 → Q (some (.int r)) μ1) : gJ Ln xs 3 mX6_sit 0 (jm_en 3 [.ref 0, .int p, .int w]) [] μ Q := by
  show jm_J rg_I (rg_X Ln xs) 3 mX6_sit 0 [some (.ref 0), some (.int p), some (.int w)] [] μ Q
  refine jm_aload_n dX6_sit_0 rfl rfl rfl ?_
  refine jm_getr dX6_sit_1 rfl fe_X6_12 rfl rfl rfl ?_
  refine jm_iload_n dX6_sit_4 rfl rfl rfl ?_
  refine jm_cV1 dX6_sit_5 rfl cb_X6_72 ci_X4_hasHorse cv_X4_hasHorse rfl rfl rfl (Nat.le_of_ble_eq_true rfl) (Nat.le_of_ble_eq_true rfl) (by decide) (s_X4_hasHorse (fun j hj e ch => ?_) (fun c0 => ?_) (fun j hj e ch => ?_))
  · subst e
    refine jm_if_ne (tgt := 14) dX6_sit_8 (by decide) rfl (fun c8 => ?_) (fun c8 => absurd c8 (by decide))
    refine jm_iload_n dX6_sit_14 rfl rfl rfl ?_
    refine jm_cS1 dX6_sit_15 rfl cb_X6_100 cs_X6_isRiderWeight (Nat.le_of_ble_eq_true rfl) (Nat.le_of_ble_eq_true rfl) (by decide) (s_X6_isRiderWeight (fun a15 b15 => ?_) (fun c15 => ?_))
    · refine jm_if_ne (tgt := 24) dX6_sit_18 (by decide) rfl (fun c18 => ?_) (fun c18 => absurd c18 (by decide))
      refine jm_aload_n dX6_sit_24 rfl rfl rfl ?_
      refine jm_getr dX6_sit_25 rfl fe_X6_12 rfl rfl rfl ?_
      refine jm_iload_n dX6_sit_28 rfl rfl rfl ?_
      refine jm_cV1 dX6_sit_29 rfl cb_X6_86 ci_X4_hasRider cv_X4_hasRider rfl rfl rfl (Nat.le_of_ble_eq_true rfl) (Nat.le_of_ble_eq_true rfl) (by decide) (s_X4_hasRider_at hj (fun cr => ?_) (fun cr => ?_))
      · refine jm_if_ne (tgt := 47) dX6_sit_32 (by decide) rfl (fun c32 => ?_) (fun c32 => absurd c32 (by decide))
        refine jm_bipush (-103) dX6_sit_47 rfl (by decide) ?_
        refine jm_iret dX6_sit_49 rfl rfl ?_
        refine h _ _ ?_
        first | exact Or.inl ⟨Or.inl c0, rfl, rfl⟩ | exact Or.inl ⟨Or.inr ⟨j, hj, rfl, ch⟩, rfl, rfl⟩ | exact Or.inr ⟨j, hj, rfl, ch, Or.inl ⟨c15, rfl, rfl⟩⟩ | exact Or.inr ⟨j, hj, rfl, ch, Or.inr ⟨⟨a15, b15⟩, Or.inl ⟨Or.inl cr, rfl, rfl⟩⟩⟩ | exact Or.inr ⟨j, hj, rfl, ch, Or.inr ⟨⟨a15, b15⟩, Or.inl ⟨Or.inr cl, rfl, rfl⟩⟩⟩ | exact Or.inr ⟨j, hj, rfl, ch, Or.inr ⟨⟨a15, b15⟩, Or.inr ⟨cr, cl, rfl, rfl⟩⟩⟩ | fail "leaf"
      · refine jm_if_ne (tgt := 47) dX6_sit_32 (by decide) rfl (fun c32 => absurd c32 (by decide)) (fun c32 => ?_)
        refine jm_aload_n dX6_sit_35 rfl rfl rfl ?_
        refine jm_getr dX6_sit_36 rfl fe_X6_12 rfl rfl rfl ?_
        refine jm_iload_n dX6_sit_39 rfl rfl rfl ?_
        refine jm_iload_n dX6_sit_40 rfl rfl rfl ?_
        refine jm_cV2 dX6_sit_41 rfl cb_X6_103 ci_X4_mayTurnWith cv_X4_mayTurnWith rfl rfl rfl (Nat.le_of_ble_eq_true rfl) (Nat.le_of_ble_eq_true rfl) (by decide) (s_X4_mayTurnWith hj (fun cl => ?_) (fun cl => ?_))
        · refine jm_if_ne (tgt := 50) dX6_sit_44 (by decide) rfl (fun c44 => ?_) (fun c44 => absurd c44 (by decide))
          refine jm_aload_n dX6_sit_50 rfl rfl rfl ?_
          refine jm_getr dX6_sit_51 rfl fe_X6_12 rfl rfl rfl ?_
          refine jm_iload_n dX6_sit_54 rfl rfl rfl ?_
          refine jm_iload_n dX6_sit_55 rfl rfl rfl ?_
          refine jm_cV2 dX6_sit_56 rfl cb_X6_107 ci_X4_putRider cv_X4_putRider rfl rfl rfl (Nat.le_of_ble_eq_true rfl) (Nat.le_of_ble_eq_true rfl) (by decide) (s_X4_putRider hj ?_)
          refine jm_aload_n dX6_sit_59 rfl rfl rfl ?_
          refine jm_getr dX6_sit_60 rfl fe_X6_12 rfl rfl rfl ?_
          refine jm_cV0 dX6_sit_63 rfl cb_X6_110 ci_X4_shakeNow cv_X4_shakeNow rfl rfl rfl (Nat.le_of_ble_eq_true rfl) (Nat.le_of_ble_eq_true rfl) (by decide) (s_X4_shakeNow ?_)
          refine jm_iret dX6_sit_66 rfl rfl ?_
          refine h _ _ ?_
          first | exact Or.inl ⟨Or.inl c0, rfl, rfl⟩ | exact Or.inl ⟨Or.inr ⟨j, hj, rfl, ch⟩, rfl, rfl⟩ | exact Or.inr ⟨j, hj, rfl, ch, Or.inl ⟨c15, rfl, rfl⟩⟩ | exact Or.inr ⟨j, hj, rfl, ch, Or.inr ⟨⟨a15, b15⟩, Or.inl ⟨Or.inl cr, rfl, rfl⟩⟩⟩ | exact Or.inr ⟨j, hj, rfl, ch, Or.inr ⟨⟨a15, b15⟩, Or.inl ⟨Or.inr cl, rfl, rfl⟩⟩⟩ | exact Or.inr ⟨j, hj, rfl, ch, Or.inr ⟨⟨a15, b15⟩, Or.inr ⟨cr, cl, rfl, rfl⟩⟩⟩ | fail "leaf"
        · refine jm_if_ne (tgt := 50) dX6_sit_44 (by decide) rfl (fun c44 => absurd c44 (by decide)) (fun c44 => ?_)
          refine jm_bipush (-103) dX6_sit_47 rfl (by decide) ?_
          refine jm_iret dX6_sit_49 rfl rfl ?_
          refine h _ _ ?_
          first | exact Or.inl ⟨Or.inl c0, rfl, rfl⟩ | exact Or.inl ⟨Or.inr ⟨j, hj, rfl, ch⟩, rfl, rfl⟩ | exact Or.inr ⟨j, hj, rfl, ch, Or.inl ⟨c15, rfl, rfl⟩⟩ | exact Or.inr ⟨j, hj, rfl, ch, Or.inr ⟨⟨a15, b15⟩, Or.inl ⟨Or.inl cr, rfl, rfl⟩⟩⟩ | exact Or.inr ⟨j, hj, rfl, ch, Or.inr ⟨⟨a15, b15⟩, Or.inl ⟨Or.inr cl, rfl, rfl⟩⟩⟩ | exact Or.inr ⟨j, hj, rfl, ch, Or.inr ⟨⟨a15, b15⟩, Or.inr ⟨cr, cl, rfl, rfl⟩⟩⟩ | fail "leaf"
    · refine jm_if_ne (tgt := 24) dX6_sit_18 (by decide) rfl (fun c18 => absurd c18 (by decide)) (fun c18 => ?_)
      refine jm_bipush (-102) dX6_sit_21 rfl (by decide) ?_
      refine jm_iret dX6_sit_23 rfl rfl ?_
      refine h _ _ ?_
      first | exact Or.inl ⟨Or.inl c0, rfl, rfl⟩ | exact Or.inl ⟨Or.inr ⟨j, hj, rfl, ch⟩, rfl, rfl⟩ | exact Or.inr ⟨j, hj, rfl, ch, Or.inl ⟨c15, rfl, rfl⟩⟩ | exact Or.inr ⟨j, hj, rfl, ch, Or.inr ⟨⟨a15, b15⟩, Or.inl ⟨Or.inl cr, rfl, rfl⟩⟩⟩ | exact Or.inr ⟨j, hj, rfl, ch, Or.inr ⟨⟨a15, b15⟩, Or.inl ⟨Or.inr cl, rfl, rfl⟩⟩⟩ | exact Or.inr ⟨j, hj, rfl, ch, Or.inr ⟨⟨a15, b15⟩, Or.inr ⟨cr, cl, rfl, rfl⟩⟩⟩ | fail "leaf"
  · refine jm_if_ne (tgt := 14) dX6_sit_8 (by decide) rfl (fun c8 => absurd c8 (by decide)) (fun c8 => ?_)
    refine jm_bipush (-101) dX6_sit_11 rfl (by decide) ?_
    refine jm_iret dX6_sit_13 rfl rfl ?_
    refine h _ _ ?_
    first | exact Or.inl ⟨Or.inl c0, rfl, rfl⟩ | exact Or.inl ⟨Or.inr ⟨j, hj, rfl, ch⟩, rfl, rfl⟩ | exact Or.inr ⟨j, hj, rfl, ch, Or.inl ⟨c15, rfl, rfl⟩⟩ | exact Or.inr ⟨j, hj, rfl, ch, Or.inr ⟨⟨a15, b15⟩, Or.inl ⟨Or.inl cr, rfl, rfl⟩⟩⟩ | exact Or.inr ⟨j, hj, rfl, ch, Or.inr ⟨⟨a15, b15⟩, Or.inl ⟨Or.inr cl, rfl, rfl⟩⟩⟩ | exact Or.inr ⟨j, hj, rfl, ch, Or.inr ⟨⟨a15, b15⟩, Or.inr ⟨cr, cl, rfl, rfl⟩⟩⟩ | fail "leaf"
  · subst e
    refine jm_if_ne (tgt := 14) dX6_sit_8 (by decide) rfl (fun c8 => absurd c8 (by decide)) (fun c8 => ?_)
    refine jm_bipush (-101) dX6_sit_11 rfl (by decide) ?_
    refine jm_iret dX6_sit_13 rfl rfl ?_
    refine h _ _ ?_
    first | exact Or.inl ⟨Or.inl c0, rfl, rfl⟩ | exact Or.inl ⟨Or.inr ⟨j, hj, rfl, ch⟩, rfl, rfl⟩ | exact Or.inr ⟨j, hj, rfl, ch, Or.inl ⟨c15, rfl, rfl⟩⟩ | exact Or.inr ⟨j, hj, rfl, ch, Or.inr ⟨⟨a15, b15⟩, Or.inl ⟨Or.inl cr, rfl, rfl⟩⟩⟩ | exact Or.inr ⟨j, hj, rfl, ch, Or.inr ⟨⟨a15, b15⟩, Or.inl ⟨Or.inr cl, rfl, rfl⟩⟩⟩ | exact Or.inr ⟨j, hj, rfl, ch, Or.inr ⟨⟨a15, b15⟩, Or.inr ⟨cr, cl, rfl, rfl⟩⟩⟩ | fail "leaf"
set_option maxHeartbeats 400000 in
theorem s_X6_rise {Ln : Nat} {xs : Nat → Int32} {μ : jm_Mem} {Q : Option Value → jm_Mem → Prop} {p : Int32} (h : ∀ r μ1, oc_rise μ p r μ1 → Q (some (.int r)) μ1) : gJ Ln xs 3 mX6_rise 0 (jm_en 2 [.ref 0, .int p]) [] μ Q := by
  show jm_J rg_I (rg_X Ln xs) 3 mX6_rise 0 [some (.ref 0), some (.int p)] [] μ Q
  refine jm_aload_n dX6_rise_0 rfl rfl rfl ?_
  refine jm_getr dX6_rise_1 rfl fe_X6_12 rfl rfl rfl ?_
  refine jm_iload_n dX6_rise_4 rfl rfl rfl ?_
  refine jm_cV1 dX6_rise_5 rfl cb_X6_72 ci_X4_hasHorse cv_X4_hasHorse rfl rfl rfl (Nat.le_of_ble_eq_true rfl) (Nat.le_of_ble_eq_true rfl) (by decide) (s_X4_hasHorse (fun j hj e ch => ?_) (fun c0 => ?_) (fun j hj e ch => ?_))
  · subst e
    refine jm_if_ne (tgt := 14) dX6_rise_8 (by decide) rfl (fun c8 => ?_) (fun c8 => absurd c8 (by decide))
    refine jm_aload_n dX6_rise_14 rfl rfl rfl ?_
    refine jm_getr dX6_rise_15 rfl fe_X6_12 rfl rfl rfl ?_
    refine jm_iload_n dX6_rise_18 rfl rfl rfl ?_
    refine jm_cV1 dX6_rise_19 rfl cb_X6_86 ci_X4_hasRider cv_X4_hasRider rfl rfl rfl (Nat.le_of_ble_eq_true rfl) (Nat.le_of_ble_eq_true rfl) (by decide) (s_X4_hasRider_at hj (fun cr => ?_) (fun cr => ?_))
    · refine jm_if_ne (tgt := 28) dX6_rise_22 (by decide) rfl (fun c22 => ?_) (fun c22 => absurd c22 (by decide))
      refine jm_aload_n dX6_rise_28 rfl rfl rfl ?_
      refine jm_getr dX6_rise_29 rfl fe_X6_12 rfl rfl rfl ?_
      refine jm_iload_n dX6_rise_32 rfl rfl rfl ?_
      refine jm_cV1 dX6_rise_33 rfl cb_X6_113 ci_X4_takeRider cv_X4_takeRider rfl rfl rfl (Nat.le_of_ble_eq_true rfl) (Nat.le_of_ble_eq_true rfl) (by decide) (s_X4_takeRider hj ?_)
      refine jm_iret dX6_rise_36 rfl rfl ?_
      refine h _ _ ?_
      first | exact Or.inl ⟨Or.inl c0, rfl, rfl⟩ | exact Or.inl ⟨Or.inr ⟨j, hj, rfl, ch⟩, rfl, rfl⟩ | exact Or.inr ⟨j, hj, rfl, ch, Or.inl ⟨cr, rfl, rfl⟩⟩ | exact Or.inr ⟨j, hj, rfl, ch, Or.inr ⟨cr, rfl, rfl⟩⟩ | fail "leaf"
    · refine jm_if_ne (tgt := 28) dX6_rise_22 (by decide) rfl (fun c22 => absurd c22 (by decide)) (fun c22 => ?_)
      refine jm_bipush (-103) dX6_rise_25 rfl (by decide) ?_
      refine jm_iret dX6_rise_27 rfl rfl ?_
      refine h _ _ ?_
      first | exact Or.inl ⟨Or.inl c0, rfl, rfl⟩ | exact Or.inl ⟨Or.inr ⟨j, hj, rfl, ch⟩, rfl, rfl⟩ | exact Or.inr ⟨j, hj, rfl, ch, Or.inl ⟨cr, rfl, rfl⟩⟩ | exact Or.inr ⟨j, hj, rfl, ch, Or.inr ⟨cr, rfl, rfl⟩⟩ | fail "leaf"
  · refine jm_if_ne (tgt := 14) dX6_rise_8 (by decide) rfl (fun c8 => absurd c8 (by decide)) (fun c8 => ?_)
    refine jm_bipush (-101) dX6_rise_11 rfl (by decide) ?_
    refine jm_iret dX6_rise_13 rfl rfl ?_
    refine h _ _ ?_
    first | exact Or.inl ⟨Or.inl c0, rfl, rfl⟩ | exact Or.inl ⟨Or.inr ⟨j, hj, rfl, ch⟩, rfl, rfl⟩ | exact Or.inr ⟨j, hj, rfl, ch, Or.inl ⟨cr, rfl, rfl⟩⟩ | exact Or.inr ⟨j, hj, rfl, ch, Or.inr ⟨cr, rfl, rfl⟩⟩ | fail "leaf"
  · subst e
    refine jm_if_ne (tgt := 14) dX6_rise_8 (by decide) rfl (fun c8 => absurd c8 (by decide)) (fun c8 => ?_)
    refine jm_bipush (-101) dX6_rise_11 rfl (by decide) ?_
    refine jm_iret dX6_rise_13 rfl rfl ?_
    refine h _ _ ?_
    first | exact Or.inl ⟨Or.inl c0, rfl, rfl⟩ | exact Or.inl ⟨Or.inr ⟨j, hj, rfl, ch⟩, rfl, rfl⟩ | exact Or.inr ⟨j, hj, rfl, ch, Or.inl ⟨cr, rfl, rfl⟩⟩ | exact Or.inr ⟨j, hj, rfl, ch, Or.inr ⟨cr, rfl, rfl⟩⟩ | fail "leaf"
set_option maxHeartbeats 400000 in
theorem s_X6_shake {Ln : Nat} {xs : Nat → Int32} {μ : jm_Mem} {Q : Option Value → jm_Mem → Prop}  (h : Q (some (.int (rg_sh (μ 1 4) (μ 1 5)))) μ) : gJ Ln xs 2 mX6_shake 0 (jm_en 1 [.ref 0]) [] μ Q := by
  show jm_J rg_I (rg_X Ln xs) 2 mX6_shake 0 [some (.ref 0)] [] μ Q
  refine jm_aload_n dX6_shake_0 rfl rfl rfl ?_
  refine jm_getr dX6_shake_1 rfl fe_X6_12 rfl rfl rfl ?_
  refine jm_cV0 dX6_shake_4 rfl cb_X6_110 ci_X4_shakeNow cv_X4_shakeNow rfl rfl rfl (Nat.le_of_ble_eq_true rfl) (Nat.le_of_ble_eq_true rfl) (by decide) (s_X4_shakeNow ?_)
  refine jm_iret dX6_shake_7 rfl rfl ?_
  exact h
set_option maxHeartbeats 400000 in
theorem s_X6_rising {Ln : Nat} {xs : Nat → Int32} {μ : jm_Mem} {Q : Option Value → jm_Mem → Prop}  (h : Q (some (.int (μ 1 6))) μ) : gJ Ln xs 0 mX6_rising 0 (jm_en 1 [.ref 0]) [] μ Q := by
  show jm_J rg_I (rg_X Ln xs) 0 mX6_rising 0 [some (.ref 0)] [] μ Q
  refine jm_aload_n dX6_rising_0 rfl rfl rfl ?_
  refine jm_getr dX6_rising_1 rfl fe_X6_12 rfl rfl rfl ?_
  refine jm_geti dX6_rising_4 rfl fe_X6_116 rfl rfl rfl ?_
  refine jm_iret dX6_rising_7 rfl rfl ?_
  exact h
set_option maxHeartbeats 400000 in
theorem s_X6_may {Ln : Nat} {xs : Nat → Int32} {μ : jm_Mem} {Q : Option Value → jm_Mem → Prop}  (h : ∀ r, oc_may μ  r → Q (some (.int r)) μ) : gJ Ln xs 3 mX6_may 0 (jm_en 1 [.ref 0]) [] μ Q := by
  show jm_J rg_I (rg_X Ln xs) 3 mX6_may 0 [some (.ref 0)] [] μ Q
  refine jm_aload_n dX6_may_0 rfl rfl rfl ?_
  refine jm_getr dX6_may_1 rfl fe_X6_12 rfl rfl rfl ?_
  refine jm_cV0 dX6_may_4 rfl cb_X6_119 ci_X4_mayTurn cv_X4_mayTurn rfl rfl rfl (Nat.le_of_ble_eq_true rfl) (Nat.le_of_ble_eq_true rfl) (by decide) (s_X4_mayTurn (fun cl => ?_) (fun cl => ?_))
  · refine jm_if_eq (tgt := 14) dX6_may_7 (by decide) rfl (fun c7 => absurd c7 (by decide)) (fun c7 => ?_)
    refine jm_iconst (nI 1) dX6_may_10 rfl (by decide) ?_
    refine jm_goto (n := 15) dX6_may_11 (by decide) ?_
    refine jm_iret dX6_may_15 rfl rfl ?_
    refine h _ ?_
    first | exact Or.inl ⟨cl, rfl⟩ | exact Or.inr ⟨cl, rfl⟩ | fail "leaf"
  · refine jm_if_eq (tgt := 14) dX6_may_7 (by decide) rfl (fun c7 => ?_) (fun c7 => absurd c7 (by decide))
    refine jm_iconst (nI 0) dX6_may_14 rfl (by decide) ?_
    refine jm_iret dX6_may_15 rfl rfl ?_
    refine h _ ?_
    first | exact Or.inl ⟨cl, rfl⟩ | exact Or.inr ⟨cl, rfl⟩ | fail "leaf"
set_option maxHeartbeats 400000 in
theorem s_X6_lawOfShaking {Ln : Nat} {xs : Nat → Int32} {μ : jm_Mem} {Q : Option Value → jm_Mem → Prop} {v : Int32} (h1 : rg_wi v (nI 0) (nI 30000) → Q (some (.int (μ 1 2))) (jm_set μ 1 2 v)) (h0 : rg_nw v (nI 0) (nI 30000) → Q (some (.int (-102))) μ) : gJ Ln xs 1 mX6_lawOfShaking 0 (jm_en 3 [.ref 0, .int v]) [] μ Q := by
  show jm_J rg_I (rg_X Ln xs) 1 mX6_lawOfShaking 0 [some (.ref 0), some (.int v), none] [] μ Q
  refine jm_iload_n dX6_lawOfShaking_0 rfl rfl rfl ?_
  refine jm_iconst (nI 0) dX6_lawOfShaking_1 rfl (by decide) ?_
  refine jm_sipush (nI 30000) dX6_lawOfShaking_2 rfl (by decide) ?_
  refine jm_cS3 dX6_lawOfShaking_5 rfl cb_X6_68 cs_X6_isWithin (Nat.le_of_ble_eq_true rfl) (Nat.le_of_ble_eq_true rfl) (by decide) (s_X6_isWithin (fun a5 b5 => ?_) (fun c5 => ?_))
  · refine jm_if_ne (tgt := 14) dX6_lawOfShaking_8 (by decide) rfl (fun c8 => ?_) (fun c8 => absurd c8 (by decide))
    refine jm_aload_n dX6_lawOfShaking_14 rfl rfl rfl ?_
    refine jm_getr dX6_lawOfShaking_15 rfl fe_X6_12 rfl rfl rfl ?_
    refine jm_geti dX6_lawOfShaking_18 rfl fe_X6_242 rfl rfl rfl ?_
    refine jm_istore_n dX6_lawOfShaking_21 rfl rfl rfl rfl ?_
    dsimp only [List.set]
    refine jm_aload_n dX6_lawOfShaking_22 rfl rfl rfl ?_
    refine jm_getr dX6_lawOfShaking_23 rfl fe_X6_12 rfl rfl rfl ?_
    refine jm_iload_n dX6_lawOfShaking_26 rfl rfl rfl ?_
    refine jm_puti dX6_lawOfShaking_27 rfl pe_X6_242 rfl rfl rfl ?_
    refine jm_iload_n dX6_lawOfShaking_30 rfl rfl rfl ?_
    refine jm_iret dX6_lawOfShaking_31 rfl rfl ?_
    first | exact h0 c5 | exact h1 ⟨a5, b5⟩ | fail "leaf"
  · refine jm_if_ne (tgt := 14) dX6_lawOfShaking_8 (by decide) rfl (fun c8 => absurd c8 (by decide)) (fun c8 => ?_)
    refine jm_bipush (-102) dX6_lawOfShaking_11 rfl (by decide) ?_
    refine jm_iret dX6_lawOfShaking_13 rfl rfl ?_
    first | exact h0 c5 | exact h1 ⟨a5, b5⟩ | fail "leaf"
set_option maxHeartbeats 400000 in
theorem s_X6_lawOfLift {Ln : Nat} {xs : Nat → Int32} {μ : jm_Mem} {Q : Option Value → jm_Mem → Prop} {v : Int32} (h1 : rg_wi v (nI 0) (nI 5000) → Q (some (.int (μ 1 3))) (jm_set μ 1 3 v)) (h0 : rg_nw v (nI 0) (nI 5000) → Q (some (.int (-102))) μ) : gJ Ln xs 1 mX6_lawOfLift 0 (jm_en 3 [.ref 0, .int v]) [] μ Q := by
  show jm_J rg_I (rg_X Ln xs) 1 mX6_lawOfLift 0 [some (.ref 0), some (.int v), none] [] μ Q
  refine jm_iload_n dX6_lawOfLift_0 rfl rfl rfl ?_
  refine jm_iconst (nI 0) dX6_lawOfLift_1 rfl (by decide) ?_
  refine jm_sipush (nI 5000) dX6_lawOfLift_2 rfl (by decide) ?_
  refine jm_cS3 dX6_lawOfLift_5 rfl cb_X6_68 cs_X6_isWithin (Nat.le_of_ble_eq_true rfl) (Nat.le_of_ble_eq_true rfl) (by decide) (s_X6_isWithin (fun a5 b5 => ?_) (fun c5 => ?_))
  · refine jm_if_ne (tgt := 14) dX6_lawOfLift_8 (by decide) rfl (fun c8 => ?_) (fun c8 => absurd c8 (by decide))
    refine jm_aload_n dX6_lawOfLift_14 rfl rfl rfl ?_
    refine jm_getr dX6_lawOfLift_15 rfl fe_X6_12 rfl rfl rfl ?_
    refine jm_geti dX6_lawOfLift_18 rfl fe_X6_248 rfl rfl rfl ?_
    refine jm_istore_n dX6_lawOfLift_21 rfl rfl rfl rfl ?_
    dsimp only [List.set]
    refine jm_aload_n dX6_lawOfLift_22 rfl rfl rfl ?_
    refine jm_getr dX6_lawOfLift_23 rfl fe_X6_12 rfl rfl rfl ?_
    refine jm_iload_n dX6_lawOfLift_26 rfl rfl rfl ?_
    refine jm_puti dX6_lawOfLift_27 rfl pe_X6_248 rfl rfl rfl ?_
    refine jm_iload_n dX6_lawOfLift_30 rfl rfl rfl ?_
    refine jm_iret dX6_lawOfLift_31 rfl rfl ?_
    first | exact h0 c5 | exact h1 ⟨a5, b5⟩ | fail "leaf"
  · refine jm_if_ne (tgt := 14) dX6_lawOfLift_8 (by decide) rfl (fun c8 => absurd c8 (by decide)) (fun c8 => ?_)
    refine jm_bipush (-102) dX6_lawOfLift_11 rfl (by decide) ?_
    refine jm_iret dX6_lawOfLift_13 rfl rfl ?_
    first | exact h0 c5 | exact h1 ⟨a5, b5⟩ | fail "leaf"
set_option maxHeartbeats 400000 in
theorem s_X6_law {Ln : Nat} {xs : Nat → Int32} {μ : jm_Mem} {Q : Option Value → jm_Mem → Prop} {x v : Int32} (h : ∀ r μ1, oc_law μ x v r μ1 → Q (some (.int r)) μ1) : gJ Ln xs 2 mX6_law 0 (jm_en 3 [.ref 0, .int x, .int v]) [] μ Q := by
  show jm_J rg_I (rg_X Ln xs) 2 mX6_law 0 [some (.ref 0), some (.int x), some (.int v)] [] μ Q
  refine jm_iload_n dX6_law_0 rfl rfl rfl ?_
  refine jm_if_ne (tgt := 10) dX6_law_1 (by decide) rfl (fun c1 => ?_) (fun c1 => ?_)
  · refine jm_iload_n dX6_law_10 rfl rfl rfl ?_
    refine jm_iconst (nI 1) dX6_law_11 rfl (by decide) ?_
    refine jm_icmp_ne (tgt := 21) dX6_law_12 (by decide) rfl (fun c12 => ?_) (fun c12 => ?_)
    · refine jm_bipush (-101) dX6_law_21 rfl (by decide) ?_
      refine jm_iret dX6_law_23 rfl rfl ?_
      refine h _ _ ?_
      first | exact Or.inl ⟨c1, Or.inl ⟨cw, rfl, rfl⟩⟩ | exact Or.inl ⟨c1, Or.inr ⟨cw, rfl, rfl⟩⟩ | exact Or.inr (Or.inl ⟨c12, Or.inl ⟨cw, rfl, rfl⟩⟩) | exact Or.inr (Or.inl ⟨c12, Or.inr ⟨cw, rfl, rfl⟩⟩) | exact Or.inr (Or.inr ⟨c1, c12, rfl, rfl⟩) | fail "leaf"
    · refine jm_aload_n dX6_law_15 rfl rfl rfl ?_
      refine jm_iload_n dX6_law_16 rfl rfl rfl ?_
      refine jm_cV1 dX6_law_17 rfl cb_X6_126 ci_X6_lawOfLift cv_X6_lawOfLift rfl rfl rfl (Nat.le_of_ble_eq_true rfl) (Nat.le_of_ble_eq_true rfl) (by decide) (s_X6_lawOfLift (fun cw => ?_) (fun cw => ?_))
      · refine jm_iret dX6_law_20 rfl rfl ?_
        refine h _ _ ?_
        first | exact Or.inl ⟨c1, Or.inl ⟨cw, rfl, rfl⟩⟩ | exact Or.inl ⟨c1, Or.inr ⟨cw, rfl, rfl⟩⟩ | exact Or.inr (Or.inl ⟨c12, Or.inl ⟨cw, rfl, rfl⟩⟩) | exact Or.inr (Or.inl ⟨c12, Or.inr ⟨cw, rfl, rfl⟩⟩) | exact Or.inr (Or.inr ⟨c1, c12, rfl, rfl⟩) | fail "leaf"
      · refine jm_iret dX6_law_20 rfl rfl ?_
        refine h _ _ ?_
        first | exact Or.inl ⟨c1, Or.inl ⟨cw, rfl, rfl⟩⟩ | exact Or.inl ⟨c1, Or.inr ⟨cw, rfl, rfl⟩⟩ | exact Or.inr (Or.inl ⟨c12, Or.inl ⟨cw, rfl, rfl⟩⟩) | exact Or.inr (Or.inl ⟨c12, Or.inr ⟨cw, rfl, rfl⟩⟩) | exact Or.inr (Or.inr ⟨c1, c12, rfl, rfl⟩) | fail "leaf"
  · refine jm_aload_n dX6_law_4 rfl rfl rfl ?_
    refine jm_iload_n dX6_law_5 rfl rfl rfl ?_
    refine jm_cV1 dX6_law_6 rfl cb_X6_123 ci_X6_lawOfShaking cv_X6_lawOfShaking rfl rfl rfl (Nat.le_of_ble_eq_true rfl) (Nat.le_of_ble_eq_true rfl) (by decide) (s_X6_lawOfShaking (fun cw => ?_) (fun cw => ?_))
    · refine jm_iret dX6_law_9 rfl rfl ?_
      refine h _ _ ?_
      first | exact Or.inl ⟨c1, Or.inl ⟨cw, rfl, rfl⟩⟩ | exact Or.inl ⟨c1, Or.inr ⟨cw, rfl, rfl⟩⟩ | exact Or.inr (Or.inl ⟨c12, Or.inl ⟨cw, rfl, rfl⟩⟩) | exact Or.inr (Or.inl ⟨c12, Or.inr ⟨cw, rfl, rfl⟩⟩) | exact Or.inr (Or.inr ⟨c1, c12, rfl, rfl⟩) | fail "leaf"
    · refine jm_iret dX6_law_9 rfl rfl ?_
      refine h _ _ ?_
      first | exact Or.inl ⟨c1, Or.inl ⟨cw, rfl, rfl⟩⟩ | exact Or.inl ⟨c1, Or.inr ⟨cw, rfl, rfl⟩⟩ | exact Or.inr (Or.inl ⟨c12, Or.inl ⟨cw, rfl, rfl⟩⟩) | exact Or.inr (Or.inl ⟨c12, Or.inr ⟨cw, rfl, rfl⟩⟩) | exact Or.inr (Or.inr ⟨c1, c12, rfl, rfl⟩) | fail "leaf"
set_option maxHeartbeats 400000 in
theorem s_X6_best {Ln : Nat} {xs : Nat → Int32} {μ : jm_Mem} {Q : Option Value → jm_Mem → Prop} {w : Int32} (h : ∀ r, oc_best μ w r → Q (some (.int r)) μ) : gJ Ln xs 4 mX6_best 0 (jm_en 2 [.ref 0, .int w]) [] μ Q := by
  show jm_J rg_I (rg_X Ln xs) 4 mX6_best 0 [some (.ref 0), some (.int w)] [] μ Q
  refine jm_iload_n dX6_best_0 rfl rfl rfl ?_
  refine jm_cS1 dX6_best_1 rfl cb_X6_100 cs_X6_isRiderWeight (Nat.le_of_ble_eq_true rfl) (Nat.le_of_ble_eq_true rfl) (by decide) (s_X6_isRiderWeight (fun a1 b1 => ?_) (fun c1 => ?_))
  · refine jm_if_eq (tgt := 18) dX6_best_4 (by decide) rfl (fun c4 => absurd c4 (by decide)) (fun c4 => ?_)
    refine jm_aload_n dX6_best_7 rfl rfl rfl ?_
    refine jm_getr dX6_best_8 rfl fe_X6_12 rfl rfl rfl ?_
    refine jm_iload_n dX6_best_11 rfl rfl rfl ?_
    refine jm_cV1 dX6_best_12 rfl cb_X6_129 ci_X4_bestHorse cv_X4_bestHorse rfl rfl rfl (Nat.le_of_ble_eq_true rfl) (Nat.le_of_ble_eq_true rfl) (by decide) (s_X4_bestHorse ?_)
    refine jm_goto (n := 20) dX6_best_15 (by decide) ?_
    refine jm_iret dX6_best_20 rfl rfl ?_
    refine h _ ?_
    first | exact Or.inl ⟨c1, rfl⟩ | exact Or.inr ⟨⟨a1, b1⟩, rfl⟩ | fail "leaf"
  · refine jm_if_eq (tgt := 18) dX6_best_4 (by decide) rfl (fun c4 => ?_) (fun c4 => absurd c4 (by decide))
    refine jm_bipush (-102) dX6_best_18 rfl (by decide) ?_
    refine jm_iret dX6_best_20 rfl rfl ?_
    refine h _ ?_
    first | exact Or.inl ⟨c1, rfl⟩ | exact Or.inr ⟨⟨a1, b1⟩, rfl⟩ | fail "leaf"
set_option maxHeartbeats 400000 in
theorem s_X6_rider {Ln : Nat} {xs : Nat → Int32} {μ : jm_Mem} {Q : Option Value → jm_Mem → Prop} {p : Int32} (h : ∀ r, oc_rider μ p r → Q (some (.int r)) μ) : gJ Ln xs 1 mX6_rider 0 (jm_en 2 [.ref 0, .int p]) [] μ Q := by
  show jm_J rg_I (rg_X Ln xs) 1 mX6_rider 0 [some (.ref 0), some (.int p)] [] μ Q
  refine jm_iload_n dX6_rider_0 rfl rfl rfl ?_
  refine jm_cS1 dX6_rider_1 rfl cb_X6_64 cs_X6_isPlace (Nat.le_of_ble_eq_true rfl) (Nat.le_of_ble_eq_true rfl) (by decide) (s_X6_isPlace (fun j hj e => ?_) (fun c0 => ?_))
  · subst e
    refine jm_if_eq (tgt := 19) dX6_rider_4 (by decide) rfl (fun c4 => absurd c4 (by decide)) (fun c4 => ?_)
    refine jm_aload_n dX6_rider_7 rfl rfl rfl ?_
    refine jm_getr dX6_rider_8 rfl fe_X6_12 rfl rfl rfl ?_
    refine jm_getr dX6_rider_11 rfl fe_X6_147 rfl rfl rfl ?_
    refine jm_iload_n dX6_rider_14 rfl rfl rfl ?_
    refine jm_iald dX6_rider_15 rfl rfl rfl (by decide) rfl (by first | assumption | omega) ?_
    refine jm_goto (n := 21) dX6_rider_16 (by decide) ?_
    refine jm_iret dX6_rider_21 rfl rfl ?_
    refine h _ ?_
    first | exact Or.inl ⟨c0, rfl⟩ | exact Or.inr ⟨j, hj, rfl, rfl⟩ | fail "leaf"
  · refine jm_if_eq (tgt := 19) dX6_rider_4 (by decide) rfl (fun c4 => ?_) (fun c4 => absurd c4 (by decide))
    refine jm_bipush (-101) dX6_rider_19 rfl (by decide) ?_
    refine jm_iret dX6_rider_21 rfl rfl ?_
    refine h _ ?_
    first | exact Or.inl ⟨c0, rfl⟩ | exact Or.inr ⟨j, hj, rfl, rfl⟩ | fail "leaf"
set_option maxHeartbeats 400000 in
theorem s_X6_coat {Ln : Nat} {xs : Nat → Int32} {μ : jm_Mem} {Q : Option Value → jm_Mem → Prop} {p c : Int32} (hm : ∀ j, j < 12 → ¬ μ 2 j ≤ 0 → ∃ m, m ≤ 8 ∧ μ 10 j = nI m) (h : ∀ r μ1, oc_coat μ p c r μ1 → Q (some (.int r)) μ1) : gJ Ln xs 2 mX6_coat 0 (jm_en 3 [.ref 0, .int p, .int c]) [] μ Q := by
  show jm_J rg_I (rg_X Ln xs) 2 mX6_coat 0 [some (.ref 0), some (.int p), some (.int c)] [] μ Q
  refine jm_aload_n dX6_coat_0 rfl rfl rfl ?_
  refine jm_getr dX6_coat_1 rfl fe_X6_12 rfl rfl rfl ?_
  refine jm_iload_n dX6_coat_4 rfl rfl rfl ?_
  refine jm_cV1 dX6_coat_5 rfl cb_X6_72 ci_X4_hasHorse cv_X4_hasHorse rfl rfl rfl (Nat.le_of_ble_eq_true rfl) (Nat.le_of_ble_eq_true rfl) (by decide) (s_X4_hasHorse (fun j hj e ch => ?_) (fun c0 => ?_) (fun j hj e ch => ?_))
  · subst e
    obtain ⟨m, h8, em⟩ := hm j hj ch
    refine jm_if_ne (tgt := 14) dX6_coat_8 (by decide) rfl (fun c8 => ?_) (fun c8 => absurd c8 (by decide))
    refine jm_iload_n dX6_coat_14 rfl rfl rfl ?_
    refine jm_iconst (nI 0) dX6_coat_15 rfl (by decide) ?_
    refine jm_bipush (nI 99) dX6_coat_16 rfl (by decide) ?_
    refine jm_cS3 dX6_coat_18 rfl cb_X6_68 cs_X6_isWithin (Nat.le_of_ble_eq_true rfl) (Nat.le_of_ble_eq_true rfl) (by decide) (s_X6_isWithin (fun a18 b18 => ?_) (fun c18 => ?_))
    · refine jm_if_ne (tgt := 27) dX6_coat_21 (by decide) rfl (fun c21 => ?_) (fun c21 => absurd c21 (by decide))
      refine jm_aload_n dX6_coat_27 rfl rfl rfl ?_
      refine jm_getr dX6_coat_28 rfl fe_X6_26 rfl rfl rfl ?_
      refine jm_getr dX6_coat_31 rfl fe_X6_151 rfl rfl rfl ?_
      refine jm_iload_n dX6_coat_34 rfl rfl rfl ?_
      refine jm_iald dX6_coat_35 rfl rfl rfl (by decide) rfl (by first | assumption | omega) ?_
      refine jm_bipush (nI 8) dX6_coat_36 rfl (by decide) ?_
      refine jm_icmp_lt (tgt := 44) dX6_coat_38 (by decide) rfl (fun c38 => ?_) (fun c38 => ?_)
      · have hl8 : m < 8 := (nI_ltI (by omega) (by omega)).mp (em ▸ c38)
        refine jm_aload_n dX6_coat_44 rfl rfl rfl ?_
        refine jm_getr dX6_coat_45 rfl fe_X6_26 rfl rfl rfl ?_
        refine jm_iload_n dX6_coat_48 rfl rfl rfl ?_
        refine jm_iload_n dX6_coat_49 rfl rfl rfl ?_
        refine jm_cV2 dX6_coat_50 rfl cb_X6_79 ci_X1_paintOver cv_X1_paintOver rfl rfl rfl (Nat.le_of_ble_eq_true rfl) (Nat.le_of_ble_eq_true rfl) (by decide) (s_X1_paintOver hj em hl8 ?_)
        refine jm_aload_n dX6_coat_53 rfl rfl rfl ?_
        refine jm_getr dX6_coat_54 rfl fe_X6_26 rfl rfl rfl ?_
        refine jm_getr dX6_coat_57 rfl fe_X6_151 rfl rfl rfl ?_
        refine jm_iload_n dX6_coat_60 rfl rfl rfl ?_
        refine jm_iald dX6_coat_61 rfl rfl rfl (by decide) rfl (by first | assumption | omega) ?_
        refine jm_iret dX6_coat_62 rfl rfl ?_
        refine h _ _ ?_
        first | exact Or.inl ⟨Or.inl c0, rfl, rfl⟩ | exact Or.inl ⟨Or.inr ⟨j, hj, rfl, ch⟩, rfl, rfl⟩ | exact Or.inr ⟨j, m, hj, rfl, ch, em, Or.inl ⟨c18, rfl, rfl⟩⟩ | exact Or.inr ⟨j, m, hj, rfl, ch, em, Or.inr ⟨⟨a18, b18⟩, Or.inl ⟨by have h9 := Nat.not_lt.mp (fun h => c38 (by rw [em]; exact (nI_ltI (by omega) (by omega)).mpr h)); omega, rfl, rfl⟩⟩⟩ | exact Or.inr ⟨j, m, hj, rfl, ch, em, Or.inr ⟨⟨a18, b18⟩, Or.inr ⟨hl8, rd_eq, rfl⟩⟩⟩ | fail "leaf"
      · refine jm_bipush (-104) dX6_coat_41 rfl (by decide) ?_
        refine jm_iret dX6_coat_43 rfl rfl ?_
        refine h _ _ ?_
        first | exact Or.inl ⟨Or.inl c0, rfl, rfl⟩ | exact Or.inl ⟨Or.inr ⟨j, hj, rfl, ch⟩, rfl, rfl⟩ | exact Or.inr ⟨j, m, hj, rfl, ch, em, Or.inl ⟨c18, rfl, rfl⟩⟩ | exact Or.inr ⟨j, m, hj, rfl, ch, em, Or.inr ⟨⟨a18, b18⟩, Or.inl ⟨by have h9 := Nat.not_lt.mp (fun h => c38 (by rw [em]; exact (nI_ltI (by omega) (by omega)).mpr h)); omega, rfl, rfl⟩⟩⟩ | exact Or.inr ⟨j, m, hj, rfl, ch, em, Or.inr ⟨⟨a18, b18⟩, Or.inr ⟨hl8, rd_eq, rfl⟩⟩⟩ | fail "leaf"
    · refine jm_if_ne (tgt := 27) dX6_coat_21 (by decide) rfl (fun c21 => absurd c21 (by decide)) (fun c21 => ?_)
      refine jm_bipush (-102) dX6_coat_24 rfl (by decide) ?_
      refine jm_iret dX6_coat_26 rfl rfl ?_
      refine h _ _ ?_
      first | exact Or.inl ⟨Or.inl c0, rfl, rfl⟩ | exact Or.inl ⟨Or.inr ⟨j, hj, rfl, ch⟩, rfl, rfl⟩ | exact Or.inr ⟨j, m, hj, rfl, ch, em, Or.inl ⟨c18, rfl, rfl⟩⟩ | exact Or.inr ⟨j, m, hj, rfl, ch, em, Or.inr ⟨⟨a18, b18⟩, Or.inl ⟨by have h9 := Nat.not_lt.mp (fun h => c38 (by rw [em]; exact (nI_ltI (by omega) (by omega)).mpr h)); omega, rfl, rfl⟩⟩⟩ | exact Or.inr ⟨j, m, hj, rfl, ch, em, Or.inr ⟨⟨a18, b18⟩, Or.inr ⟨hl8, rd_eq, rfl⟩⟩⟩ | fail "leaf"
  · refine jm_if_ne (tgt := 14) dX6_coat_8 (by decide) rfl (fun c8 => absurd c8 (by decide)) (fun c8 => ?_)
    refine jm_bipush (-101) dX6_coat_11 rfl (by decide) ?_
    refine jm_iret dX6_coat_13 rfl rfl ?_
    refine h _ _ ?_
    first | exact Or.inl ⟨Or.inl c0, rfl, rfl⟩ | exact Or.inl ⟨Or.inr ⟨j, hj, rfl, ch⟩, rfl, rfl⟩ | exact Or.inr ⟨j, m, hj, rfl, ch, em, Or.inl ⟨c18, rfl, rfl⟩⟩ | exact Or.inr ⟨j, m, hj, rfl, ch, em, Or.inr ⟨⟨a18, b18⟩, Or.inl ⟨by have h9 := Nat.not_lt.mp (fun h => c38 (by rw [em]; exact (nI_ltI (by omega) (by omega)).mpr h)); omega, rfl, rfl⟩⟩⟩ | exact Or.inr ⟨j, m, hj, rfl, ch, em, Or.inr ⟨⟨a18, b18⟩, Or.inr ⟨hl8, rd_eq, rfl⟩⟩⟩ | fail "leaf"
  · subst e
    refine jm_if_ne (tgt := 14) dX6_coat_8 (by decide) rfl (fun c8 => absurd c8 (by decide)) (fun c8 => ?_)
    refine jm_bipush (-101) dX6_coat_11 rfl (by decide) ?_
    refine jm_iret dX6_coat_13 rfl rfl ?_
    refine h _ _ ?_
    first | exact Or.inl ⟨Or.inl c0, rfl, rfl⟩ | exact Or.inl ⟨Or.inr ⟨j, hj, rfl, ch⟩, rfl, rfl⟩ | exact Or.inr ⟨j, m, hj, rfl, ch, em, Or.inl ⟨c18, rfl, rfl⟩⟩ | exact Or.inr ⟨j, m, hj, rfl, ch, em, Or.inr ⟨⟨a18, b18⟩, Or.inl ⟨by have h9 := Nat.not_lt.mp (fun h => c38 (by rw [em]; exact (nI_ltI (by omega) (by omega)).mpr h)); omega, rfl, rfl⟩⟩⟩ | exact Or.inr ⟨j, m, hj, rfl, ch, em, Or.inr ⟨⟨a18, b18⟩, Or.inr ⟨hl8, rd_eq, rfl⟩⟩⟩ | fail "leaf"
set_option maxHeartbeats 400000 in
theorem s_X6_sample {Ln : Nat} {xs : Nat → Int32} {μ : jm_Mem} {Q : Option Value → jm_Mem → Prop} {p k : Int32} (hm : ∀ j, j < 12 → ¬ μ 2 j ≤ 0 → ∃ m, m ≤ 8 ∧ μ 10 j = nI m) (h : ∀ r, oc_sample μ p k r → Q (some (.int r)) μ) : gJ Ln xs 2 mX6_sample 0 (jm_en 3 [.ref 0, .int p, .int k]) [] μ Q := by
  show jm_J rg_I (rg_X Ln xs) 2 mX6_sample 0 [some (.ref 0), some (.int p), some (.int k)] [] μ Q
  refine jm_aload_n dX6_sample_0 rfl rfl rfl ?_
  refine jm_getr dX6_sample_1 rfl fe_X6_12 rfl rfl rfl ?_
  refine jm_iload_n dX6_sample_4 rfl rfl rfl ?_
  refine jm_cV1 dX6_sample_5 rfl cb_X6_72 ci_X4_hasHorse cv_X4_hasHorse rfl rfl rfl (Nat.le_of_ble_eq_true rfl) (Nat.le_of_ble_eq_true rfl) (by decide) (s_X4_hasHorse (fun j hj e ch => ?_) (fun c0 => ?_) (fun j hj e ch => ?_))
  · subst e
    obtain ⟨m, h8, em⟩ := hm j hj ch
    refine jm_if_eq (tgt := 23) dX6_sample_8 (by decide) rfl (fun c8 => absurd c8 (by decide)) (fun c8 => ?_)
    refine jm_aload_n dX6_sample_11 rfl rfl rfl ?_
    refine jm_getr dX6_sample_12 rfl fe_X6_26 rfl rfl rfl ?_
    refine jm_iload_n dX6_sample_15 rfl rfl rfl ?_
    refine jm_iload_n dX6_sample_16 rfl rfl rfl ?_
    refine jm_cV2 dX6_sample_17 rfl cb_X6_154 ci_X1_colourAtDepth cv_X1_colourAtDepth rfl rfl rfl (Nat.le_of_ble_eq_true rfl) (Nat.le_of_ble_eq_true rfl) (by decide) (s_X1_colourAtDepth hj em h8 (fun i hi e => ?_) (fun c9 => ?_))
    · subst e
      refine jm_goto (n := 25) dX6_sample_20 (by decide) ?_
      refine jm_iret dX6_sample_25 rfl rfl ?_
      refine h _ ?_
      first | exact Or.inl ⟨Or.inl c0, rfl⟩ | exact Or.inl ⟨Or.inr ⟨j, hj, rfl, ch⟩, rfl⟩ | exact Or.inr ⟨j, m, hj, rfl, ch, em, h8, Or.inl ⟨i, hi, rfl, rfl⟩⟩ | exact Or.inr ⟨j, m, hj, rfl, ch, em, h8, Or.inr ⟨c9, rfl⟩⟩ | fail "leaf"
    · refine jm_goto (n := 25) dX6_sample_20 (by decide) ?_
      refine jm_iret dX6_sample_25 rfl rfl ?_
      refine h _ ?_
      first | exact Or.inl ⟨Or.inl c0, rfl⟩ | exact Or.inl ⟨Or.inr ⟨j, hj, rfl, ch⟩, rfl⟩ | exact Or.inr ⟨j, m, hj, rfl, ch, em, h8, Or.inl ⟨i, hi, rfl, rfl⟩⟩ | exact Or.inr ⟨j, m, hj, rfl, ch, em, h8, Or.inr ⟨c9, rfl⟩⟩ | fail "leaf"
  · refine jm_if_eq (tgt := 23) dX6_sample_8 (by decide) rfl (fun c8 => ?_) (fun c8 => absurd c8 (by decide))
    refine jm_bipush (-101) dX6_sample_23 rfl (by decide) ?_
    refine jm_iret dX6_sample_25 rfl rfl ?_
    refine h _ ?_
    first | exact Or.inl ⟨Or.inl c0, rfl⟩ | exact Or.inl ⟨Or.inr ⟨j, hj, rfl, ch⟩, rfl⟩ | exact Or.inr ⟨j, m, hj, rfl, ch, em, h8, Or.inl ⟨i, hi, rfl, rfl⟩⟩ | exact Or.inr ⟨j, m, hj, rfl, ch, em, h8, Or.inr ⟨c9, rfl⟩⟩ | fail "leaf"
  · subst e
    refine jm_if_eq (tgt := 23) dX6_sample_8 (by decide) rfl (fun c8 => ?_) (fun c8 => absurd c8 (by decide))
    refine jm_bipush (-101) dX6_sample_23 rfl (by decide) ?_
    refine jm_iret dX6_sample_25 rfl rfl ?_
    refine h _ ?_
    first | exact Or.inl ⟨Or.inl c0, rfl⟩ | exact Or.inl ⟨Or.inr ⟨j, hj, rfl, ch⟩, rfl⟩ | exact Or.inr ⟨j, m, hj, rfl, ch, em, h8, Or.inl ⟨i, hi, rfl, rfl⟩⟩ | exact Or.inr ⟨j, m, hj, rfl, ch, em, h8, Or.inr ⟨c9, rfl⟩⟩ | fail "leaf"
set_option maxHeartbeats 400000 in
theorem s_X6_strip {Ln : Nat} {xs : Nat → Int32} {μ : jm_Mem} {Q : Option Value → jm_Mem → Prop} {p c : Int32} (hm : ∀ j, j < 12 → ¬ μ 2 j ≤ 0 → ∃ m, m ≤ 8 ∧ μ 10 j = nI m) (h : ∀ r μ1, oc_strip μ p c r μ1 → Q (some (.int r)) μ1) : gJ Ln xs 3 mX6_strip 0 (jm_en 4 [.ref 0, .int p, .int c]) [] μ Q := by
  show jm_J rg_I (rg_X Ln xs) 3 mX6_strip 0 [some (.ref 0), some (.int p), some (.int c), none] [] μ Q
  refine jm_aload_n dX6_strip_0 rfl rfl rfl ?_
  refine jm_getr dX6_strip_1 rfl fe_X6_12 rfl rfl rfl ?_
  refine jm_iload_n dX6_strip_4 rfl rfl rfl ?_
  refine jm_cV1 dX6_strip_5 rfl cb_X6_72 ci_X4_hasHorse cv_X4_hasHorse rfl rfl rfl (Nat.le_of_ble_eq_true rfl) (Nat.le_of_ble_eq_true rfl) (by decide) (s_X4_hasHorse (fun j hj e ch => ?_) (fun c0 => ?_) (fun j hj e ch => ?_))
  · subst e
    obtain ⟨m, h8, em⟩ := hm j hj ch
    refine jm_if_ne (tgt := 14) dX6_strip_8 (by decide) rfl (fun c8 => ?_) (fun c8 => absurd c8 (by decide))
    refine jm_aload_n dX6_strip_14 rfl rfl rfl ?_
    refine jm_getr dX6_strip_15 rfl fe_X6_26 rfl rfl rfl ?_
    refine jm_iload_n dX6_strip_18 rfl rfl rfl ?_
    refine jm_iload_n dX6_strip_19 rfl rfl rfl ?_
    refine jm_cV2 dX6_strip_20 rfl cb_X6_158 ci_X1_depthOf cv_X1_depthOf rfl rfl rfl (Nat.le_of_ble_eq_true rfl) (Nat.le_of_ble_eq_true rfl) (by decide) (s_X1_depthOf hj em h8 (fun k hk ek hb => ?_) (fun hb => ?_))
    · refine jm_istore_n dX6_strip_23 rfl rfl rfl rfl ?_
      dsimp only [List.set]
      refine jm_iload_n dX6_strip_24 rfl rfl rfl ?_
      refine jm_iconst (-1) dX6_strip_25 rfl (by decide) ?_
      refine jm_icmp_ne (tgt := 32) dX6_strip_26 (by decide) rfl (fun c26 => ?_) (fun c26 => absurd c26 (rg_nm1 (by omega)))
      refine jm_aload_n dX6_strip_32 rfl rfl rfl ?_
      refine jm_getr dX6_strip_33 rfl fe_X6_26 rfl rfl rfl ?_
      refine jm_iload_n dX6_strip_36 rfl rfl rfl ?_
      refine jm_iload_n dX6_strip_37 rfl rfl rfl ?_
      refine jm_cV2 dX6_strip_38 rfl cb_X6_161 ci_X1_takeOff cv_X1_takeOff rfl rfl rfl (Nat.le_of_ble_eq_true rfl) (Nat.le_of_ble_eq_true rfl) (by decide) (s_X1_takeOff hj ?_)
      refine jm_iload_n dX6_strip_41 rfl rfl rfl ?_
      refine jm_iret dX6_strip_42 rfl rfl ?_
      refine h _ _ ?_
      first | exact Or.inl ⟨Or.inl c0, rfl, rfl⟩ | exact Or.inl ⟨Or.inr ⟨j, hj, rfl, ch⟩, rfl, rfl⟩ | exact Or.inr ⟨j, m, hj, rfl, ch, em, h8, Or.inl ⟨hb, rfl, rfl⟩⟩ | exact Or.inr ⟨j, m, hj, rfl, ch, em, h8, Or.inr ⟨k, hk, ek, hb, rfl, rfl⟩⟩ | fail "leaf"
    · refine jm_istore_n dX6_strip_23 rfl rfl rfl rfl ?_
      dsimp only [List.set]
      refine jm_iload_n dX6_strip_24 rfl rfl rfl ?_
      refine jm_iconst (-1) dX6_strip_25 rfl (by decide) ?_
      refine jm_icmp_ne (tgt := 32) dX6_strip_26 (by decide) rfl (fun c26 => absurd c26 (by decide)) (fun c26 => ?_)
      refine jm_bipush (-102) dX6_strip_29 rfl (by decide) ?_
      refine jm_iret dX6_strip_31 rfl rfl ?_
      refine h _ _ ?_
      first | exact Or.inl ⟨Or.inl c0, rfl, rfl⟩ | exact Or.inl ⟨Or.inr ⟨j, hj, rfl, ch⟩, rfl, rfl⟩ | exact Or.inr ⟨j, m, hj, rfl, ch, em, h8, Or.inl ⟨hb, rfl, rfl⟩⟩ | exact Or.inr ⟨j, m, hj, rfl, ch, em, h8, Or.inr ⟨k, hk, ek, hb, rfl, rfl⟩⟩ | fail "leaf"
  · refine jm_if_ne (tgt := 14) dX6_strip_8 (by decide) rfl (fun c8 => absurd c8 (by decide)) (fun c8 => ?_)
    refine jm_bipush (-101) dX6_strip_11 rfl (by decide) ?_
    refine jm_iret dX6_strip_13 rfl rfl ?_
    refine h _ _ ?_
    first | exact Or.inl ⟨Or.inl c0, rfl, rfl⟩ | exact Or.inl ⟨Or.inr ⟨j, hj, rfl, ch⟩, rfl, rfl⟩ | exact Or.inr ⟨j, m, hj, rfl, ch, em, h8, Or.inl ⟨hb, rfl, rfl⟩⟩ | exact Or.inr ⟨j, m, hj, rfl, ch, em, h8, Or.inr ⟨k, hk, ek, hb, rfl, rfl⟩⟩ | fail "leaf"
  · subst e
    refine jm_if_ne (tgt := 14) dX6_strip_8 (by decide) rfl (fun c8 => absurd c8 (by decide)) (fun c8 => ?_)
    refine jm_bipush (-101) dX6_strip_11 rfl (by decide) ?_
    refine jm_iret dX6_strip_13 rfl rfl ?_
    refine h _ _ ?_
    first | exact Or.inl ⟨Or.inl c0, rfl, rfl⟩ | exact Or.inl ⟨Or.inr ⟨j, hj, rfl, ch⟩, rfl, rfl⟩ | exact Or.inr ⟨j, m, hj, rfl, ch, em, h8, Or.inl ⟨hb, rfl, rfl⟩⟩ | exact Or.inr ⟨j, m, hj, rfl, ch, em, h8, Or.inr ⟨k, hk, ek, hb, rfl, rfl⟩⟩ | fail "leaf"
set_option maxHeartbeats 400000 in
theorem s_X6_isLegOfHorse {Ln : Nat} {xs : Nat → Int32} {μ : jm_Mem} {Q : Option Value → jm_Mem → Prop} {p g : Int32} (h1 : ∀ j i, j < 12 → i < 4 → p = nI j → g = nI i → ¬ μ 2 j ≤ 0 → Q (some (.int 1)) μ) (h0 : rg_nl μ p g → Q (some (.int 0)) μ) : gJ Ln xs 2 mX6_isLegOfHorse 0 (jm_en 3 [.ref 0, .int p, .int g]) [] μ Q := by
  show jm_J rg_I (rg_X Ln xs) 2 mX6_isLegOfHorse 0 [some (.ref 0), some (.int p), some (.int g)] [] μ Q
  refine jm_aload_n dX6_isLegOfHorse_0 rfl rfl rfl ?_
  refine jm_getr dX6_isLegOfHorse_1 rfl fe_X6_12 rfl rfl rfl ?_
  refine jm_iload_n dX6_isLegOfHorse_4 rfl rfl rfl ?_
  refine jm_cV1 dX6_isLegOfHorse_5 rfl cb_X6_72 ci_X4_hasHorse cv_X4_hasHorse rfl rfl rfl (Nat.le_of_ble_eq_true rfl) (Nat.le_of_ble_eq_true rfl) (by decide) (s_X4_hasHorse (fun j hj e ch => ?_) (fun c0 => ?_) (fun j hj e ch => ?_))
  · subst e
    refine jm_if_eq (tgt := 22) dX6_isLegOfHorse_8 (by decide) rfl (fun c8 => absurd c8 (by decide)) (fun c8 => ?_)
    refine jm_iload_n dX6_isLegOfHorse_11 rfl rfl rfl ?_
    refine jm_cS1 dX6_isLegOfHorse_12 rfl cb_X6_179 cs_X6_isLeg (Nat.le_of_ble_eq_true rfl) (Nat.le_of_ble_eq_true rfl) (by decide) (s_X6_isLeg (fun i hi e => ?_) (fun c9 => ?_))
    · subst e
      refine jm_if_eq (tgt := 22) dX6_isLegOfHorse_15 (by decide) rfl (fun c15 => absurd c15 (by decide)) (fun c15 => ?_)
      refine jm_iconst (nI 1) dX6_isLegOfHorse_18 rfl (by decide) ?_
      refine jm_goto (n := 23) dX6_isLegOfHorse_19 (by decide) ?_
      refine jm_iret dX6_isLegOfHorse_23 rfl rfl ?_
      first | exact h1 j i hj hi rfl rfl ch | exact h0 (Or.inr c9) | exact h0 (Or.inl (Or.inl c0)) | exact h0 (Or.inl (Or.inr ⟨j, hj, rfl, ch⟩)) | fail "leaf"
    · refine jm_if_eq (tgt := 22) dX6_isLegOfHorse_15 (by decide) rfl (fun c15 => ?_) (fun c15 => absurd c15 (by decide))
      refine jm_iconst (nI 0) dX6_isLegOfHorse_22 rfl (by decide) ?_
      refine jm_iret dX6_isLegOfHorse_23 rfl rfl ?_
      first | exact h1 j i hj hi rfl rfl ch | exact h0 (Or.inr c9) | exact h0 (Or.inl (Or.inl c0)) | exact h0 (Or.inl (Or.inr ⟨j, hj, rfl, ch⟩)) | fail "leaf"
  · refine jm_if_eq (tgt := 22) dX6_isLegOfHorse_8 (by decide) rfl (fun c8 => ?_) (fun c8 => absurd c8 (by decide))
    refine jm_iconst (nI 0) dX6_isLegOfHorse_22 rfl (by decide) ?_
    refine jm_iret dX6_isLegOfHorse_23 rfl rfl ?_
    first | exact h1 j i hj hi rfl rfl ch | exact h0 (Or.inr c9) | exact h0 (Or.inl (Or.inl c0)) | exact h0 (Or.inl (Or.inr ⟨j, hj, rfl, ch⟩)) | fail "leaf"
  · subst e
    refine jm_if_eq (tgt := 22) dX6_isLegOfHorse_8 (by decide) rfl (fun c8 => ?_) (fun c8 => absurd c8 (by decide))
    refine jm_iconst (nI 0) dX6_isLegOfHorse_22 rfl (by decide) ?_
    refine jm_iret dX6_isLegOfHorse_23 rfl rfl ?_
    first | exact h1 j i hj hi rfl rfl ch | exact h0 (Or.inr c9) | exact h0 (Or.inl (Or.inl c0)) | exact h0 (Or.inl (Or.inr ⟨j, hj, rfl, ch⟩)) | fail "leaf"
set_option maxHeartbeats 400000 in
theorem s_X6_swap {Ln : Nat} {xs : Nat → Int32} {μ : jm_Mem} {Q : Option Value → jm_Mem → Prop} {p g q o : Int32} (h : ∀ r μ1, oc_swap μ p g q o r μ1 → Q (some (.int r)) μ1) : gJ Ln xs 3 mX6_swap 0 (jm_en 5 [.ref 0, .int p, .int g, .int q, .int o]) [] μ Q := by
  show jm_J rg_I (rg_X Ln xs) 3 mX6_swap 0 [some (.ref 0), some (.int p), some (.int g), some (.int q), some (.int o)] [] μ Q
  refine jm_aload_n dX6_swap_0 rfl rfl rfl ?_
  refine jm_iload_n dX6_swap_1 rfl rfl rfl ?_
  refine jm_iload_n dX6_swap_2 rfl rfl rfl ?_
  refine jm_cV2 dX6_swap_3 rfl cb_X6_164 ci_X6_isLegOfHorse cv_X6_isLegOfHorse rfl rfl rfl (Nat.le_of_ble_eq_true rfl) (Nat.le_of_ble_eq_true rfl) (by decide) (s_X6_isLegOfHorse (fun j i hj hi e e2 ch => ?_) (fun cn => ?_))
  · subst e
    subst e2
    refine jm_if_eq (tgt := 19) dX6_swap_6 (by decide) rfl (fun c6 => absurd c6 (by decide)) (fun c6 => ?_)
    refine jm_aload_n dX6_swap_9 rfl rfl rfl ?_
    refine jm_iload_n dX6_swap_10 rfl rfl rfl ?_
    refine jm_iload dX6_swap_11 rfl rfl ?_
    refine jm_cV2 dX6_swap_13 rfl cb_X6_164 ci_X6_isLegOfHorse cv_X6_isLegOfHorse rfl rfl rfl (Nat.le_of_ble_eq_true rfl) (Nat.le_of_ble_eq_true rfl) (by decide) (s_X6_isLegOfHorse (fun j2 i2 hj2 hi2 e3 e4 ch2 => ?_) (fun cn2 => ?_))
    · subst e3
      subst e4
      refine jm_if_ne (tgt := 22) dX6_swap_16 (by decide) rfl (fun c16 => ?_) (fun c16 => absurd c16 (by decide))
      refine jm_iload_n dX6_swap_22 rfl rfl rfl ?_
      refine jm_iload_n dX6_swap_23 rfl rfl rfl ?_
      refine jm_icmp_ne (tgt := 36) dX6_swap_24 (by decide) rfl (fun c24 => ?_) (fun c24 => ?_)
      · refine jm_aload_n dX6_swap_36 rfl rfl rfl ?_
        refine jm_getr dX6_swap_37 rfl fe_X6_33 rfl rfl rfl ?_
        refine jm_iload_n dX6_swap_40 rfl rfl rfl ?_
        refine jm_iload_n dX6_swap_41 rfl rfl rfl ?_
        refine jm_cS2 dX6_swap_42 rfl cb_X6_167 cs_X6_legNumber (Nat.le_of_ble_eq_true rfl) (Nat.le_of_ble_eq_true rfl) (by decide) (s_X6_legNumber ?_)
        refine jm_iload_n dX6_swap_45 rfl rfl rfl ?_
        refine jm_iload dX6_swap_46 rfl rfl ?_
        refine jm_cS2 dX6_swap_48 rfl cb_X6_167 cs_X6_legNumber (Nat.le_of_ble_eq_true rfl) (Nat.le_of_ble_eq_true rfl) (by decide) (s_X6_legNumber ?_)
        refine jm_cV2 dX6_swap_51 rfl cb_X6_170 ci_X3_exchange cv_X3_exchange rfl rfl rfl (Nat.le_of_ble_eq_true rfl) (Nat.le_of_ble_eq_true rfl) (by decide) (s_X3_exchange (a := 4 * j + i) (b := 4 * j2 + i2) (by omega) (by omega) ?_)
        refine jm_iconst (nI 1) dX6_swap_54 rfl (by decide) ?_
        refine jm_iret dX6_swap_55 rfl rfl ?_
        refine h _ _ ?_
        first | exact Or.inl ⟨Or.inl cn, rfl, rfl⟩ | exact Or.inl ⟨Or.inr cn2, rfl, rfl⟩ | exact Or.inr ⟨j, i, j2, i2, hj, hi, hj2, hi2, rfl, rfl, rfl, rfl, ch, ch2, Or.inl ⟨(nI_eq (by omega) (by omega)).mp c24, (nI_eq (by omega) (by omega)).mp c30, rfl, rfl⟩⟩ | exact Or.inr ⟨j, i, j2, i2, hj, hi, hj2, hi2, rfl, rfl, rfl, rfl, ch, ch2, Or.inr ⟨fun h => c24 (by rw [h.1]), rfl, rfl⟩⟩ | exact Or.inr ⟨j, i, j2, i2, hj, hi, hj2, hi2, rfl, rfl, rfl, rfl, ch, ch2, Or.inr ⟨fun h => c30 (by rw [h.2]), rfl, rfl⟩⟩ | fail "leaf"
      · refine jm_iload_n dX6_swap_27 rfl rfl rfl ?_
        refine jm_iload dX6_swap_28 rfl rfl ?_
        refine jm_icmp_ne (tgt := 36) dX6_swap_30 (by decide) rfl (fun c30 => ?_) (fun c30 => ?_)
        · refine jm_aload_n dX6_swap_36 rfl rfl rfl ?_
          refine jm_getr dX6_swap_37 rfl fe_X6_33 rfl rfl rfl ?_
          refine jm_iload_n dX6_swap_40 rfl rfl rfl ?_
          refine jm_iload_n dX6_swap_41 rfl rfl rfl ?_
          refine jm_cS2 dX6_swap_42 rfl cb_X6_167 cs_X6_legNumber (Nat.le_of_ble_eq_true rfl) (Nat.le_of_ble_eq_true rfl) (by decide) (s_X6_legNumber ?_)
          refine jm_iload_n dX6_swap_45 rfl rfl rfl ?_
          refine jm_iload dX6_swap_46 rfl rfl ?_
          refine jm_cS2 dX6_swap_48 rfl cb_X6_167 cs_X6_legNumber (Nat.le_of_ble_eq_true rfl) (Nat.le_of_ble_eq_true rfl) (by decide) (s_X6_legNumber ?_)
          refine jm_cV2 dX6_swap_51 rfl cb_X6_170 ci_X3_exchange cv_X3_exchange rfl rfl rfl (Nat.le_of_ble_eq_true rfl) (Nat.le_of_ble_eq_true rfl) (by decide) (s_X3_exchange (a := 4 * j + i) (b := 4 * j2 + i2) (by omega) (by omega) ?_)
          refine jm_iconst (nI 1) dX6_swap_54 rfl (by decide) ?_
          refine jm_iret dX6_swap_55 rfl rfl ?_
          refine h _ _ ?_
          first | exact Or.inl ⟨Or.inl cn, rfl, rfl⟩ | exact Or.inl ⟨Or.inr cn2, rfl, rfl⟩ | exact Or.inr ⟨j, i, j2, i2, hj, hi, hj2, hi2, rfl, rfl, rfl, rfl, ch, ch2, Or.inl ⟨(nI_eq (by omega) (by omega)).mp c24, (nI_eq (by omega) (by omega)).mp c30, rfl, rfl⟩⟩ | exact Or.inr ⟨j, i, j2, i2, hj, hi, hj2, hi2, rfl, rfl, rfl, rfl, ch, ch2, Or.inr ⟨fun h => c24 (by rw [h.1]), rfl, rfl⟩⟩ | exact Or.inr ⟨j, i, j2, i2, hj, hi, hj2, hi2, rfl, rfl, rfl, rfl, ch, ch2, Or.inr ⟨fun h => c30 (by rw [h.2]), rfl, rfl⟩⟩ | fail "leaf"
        · refine jm_bipush (-102) dX6_swap_33 rfl (by decide) ?_
          refine jm_iret dX6_swap_35 rfl rfl ?_
          refine h _ _ ?_
          first | exact Or.inl ⟨Or.inl cn, rfl, rfl⟩ | exact Or.inl ⟨Or.inr cn2, rfl, rfl⟩ | exact Or.inr ⟨j, i, j2, i2, hj, hi, hj2, hi2, rfl, rfl, rfl, rfl, ch, ch2, Or.inl ⟨(nI_eq (by omega) (by omega)).mp c24, (nI_eq (by omega) (by omega)).mp c30, rfl, rfl⟩⟩ | exact Or.inr ⟨j, i, j2, i2, hj, hi, hj2, hi2, rfl, rfl, rfl, rfl, ch, ch2, Or.inr ⟨fun h => c24 (by rw [h.1]), rfl, rfl⟩⟩ | exact Or.inr ⟨j, i, j2, i2, hj, hi, hj2, hi2, rfl, rfl, rfl, rfl, ch, ch2, Or.inr ⟨fun h => c30 (by rw [h.2]), rfl, rfl⟩⟩ | fail "leaf"
    · refine jm_if_ne (tgt := 22) dX6_swap_16 (by decide) rfl (fun c16 => absurd c16 (by decide)) (fun c16 => ?_)
      refine jm_bipush (-101) dX6_swap_19 rfl (by decide) ?_
      refine jm_iret dX6_swap_21 rfl rfl ?_
      refine h _ _ ?_
      first | exact Or.inl ⟨Or.inl cn, rfl, rfl⟩ | exact Or.inl ⟨Or.inr cn2, rfl, rfl⟩ | exact Or.inr ⟨j, i, j2, i2, hj, hi, hj2, hi2, rfl, rfl, rfl, rfl, ch, ch2, Or.inl ⟨(nI_eq (by omega) (by omega)).mp c24, (nI_eq (by omega) (by omega)).mp c30, rfl, rfl⟩⟩ | exact Or.inr ⟨j, i, j2, i2, hj, hi, hj2, hi2, rfl, rfl, rfl, rfl, ch, ch2, Or.inr ⟨fun h => c24 (by rw [h.1]), rfl, rfl⟩⟩ | exact Or.inr ⟨j, i, j2, i2, hj, hi, hj2, hi2, rfl, rfl, rfl, rfl, ch, ch2, Or.inr ⟨fun h => c30 (by rw [h.2]), rfl, rfl⟩⟩ | fail "leaf"
  · refine jm_if_eq (tgt := 19) dX6_swap_6 (by decide) rfl (fun c6 => ?_) (fun c6 => absurd c6 (by decide))
    refine jm_bipush (-101) dX6_swap_19 rfl (by decide) ?_
    refine jm_iret dX6_swap_21 rfl rfl ?_
    refine h _ _ ?_
    first | exact Or.inl ⟨Or.inl cn, rfl, rfl⟩ | exact Or.inl ⟨Or.inr cn2, rfl, rfl⟩ | exact Or.inr ⟨j, i, j2, i2, hj, hi, hj2, hi2, rfl, rfl, rfl, rfl, ch, ch2, Or.inl ⟨(nI_eq (by omega) (by omega)).mp c24, (nI_eq (by omega) (by omega)).mp c30, rfl, rfl⟩⟩ | exact Or.inr ⟨j, i, j2, i2, hj, hi, hj2, hi2, rfl, rfl, rfl, rfl, ch, ch2, Or.inr ⟨fun h => c24 (by rw [h.1]), rfl, rfl⟩⟩ | exact Or.inr ⟨j, i, j2, i2, hj, hi, hj2, hi2, rfl, rfl, rfl, rfl, ch, ch2, Or.inr ⟨fun h => c30 (by rw [h.2]), rfl, rfl⟩⟩ | fail "leaf"
set_option maxHeartbeats 400000 in
theorem s_X6_mark {Ln : Nat} {xs : Nat → Int32} {μ : jm_Mem} {Q : Option Value → jm_Mem → Prop} {p g : Int32} (h : ∀ r, oc_mark μ p g r → Q (some (.int r)) μ) : gJ Ln xs 3 mX6_mark 0 (jm_en 3 [.ref 0, .int p, .int g]) [] μ Q := by
  show jm_J rg_I (rg_X Ln xs) 3 mX6_mark 0 [some (.ref 0), some (.int p), some (.int g)] [] μ Q
  refine jm_aload_n dX6_mark_0 rfl rfl rfl ?_
  refine jm_iload_n dX6_mark_1 rfl rfl rfl ?_
  refine jm_iload_n dX6_mark_2 rfl rfl rfl ?_
  refine jm_cV2 dX6_mark_3 rfl cb_X6_164 ci_X6_isLegOfHorse cv_X6_isLegOfHorse rfl rfl rfl (Nat.le_of_ble_eq_true rfl) (Nat.le_of_ble_eq_true rfl) (by decide) (s_X6_isLegOfHorse (fun j i hj hi e e2 ch => ?_) (fun cn => ?_))
  · subst e
    subst e2
    refine jm_if_eq (tgt := 25) dX6_mark_6 (by decide) rfl (fun c6 => absurd c6 (by decide)) (fun c6 => ?_)
    refine jm_aload_n dX6_mark_9 rfl rfl rfl ?_
    refine jm_getr dX6_mark_10 rfl fe_X6_33 rfl rfl rfl ?_
    refine jm_getr dX6_mark_13 rfl fe_X6_173 rfl rfl rfl ?_
    refine jm_iload_n dX6_mark_16 rfl rfl rfl ?_
    refine jm_iload_n dX6_mark_17 rfl rfl rfl ?_
    refine jm_cS2 dX6_mark_18 rfl cb_X6_167 cs_X6_legNumber (Nat.le_of_ble_eq_true rfl) (Nat.le_of_ble_eq_true rfl) (by decide) (s_X6_legNumber ?_)
    refine jm_iald dX6_mark_21 rfl rfl rfl (by decide) rfl (by omega) ?_
    refine jm_goto (n := 27) dX6_mark_22 (by decide) ?_
    refine jm_iret dX6_mark_27 rfl rfl ?_
    refine h _ ?_
    first | exact Or.inl ⟨cn, rfl⟩ | exact Or.inr ⟨j, i, hj, hi, rfl, rfl, ch, rfl⟩ | fail "leaf"
  · refine jm_if_eq (tgt := 25) dX6_mark_6 (by decide) rfl (fun c6 => ?_) (fun c6 => absurd c6 (by decide))
    refine jm_bipush (-101) dX6_mark_25 rfl (by decide) ?_
    refine jm_iret dX6_mark_27 rfl rfl ?_
    refine h _ ?_
    first | exact Or.inl ⟨cn, rfl⟩ | exact Or.inr ⟨j, i, hj, hi, rfl, rfl, ch, rfl⟩ | fail "leaf"
set_option maxHeartbeats 400000 in
theorem s_X6_find {Ln : Nat} {xs : Nat → Int32} {μ : jm_Mem} {Q : Option Value → jm_Mem → Prop} {p g : Int32} (h : ∀ r, oc_find μ p g r → Q (some (.int r)) μ) : gJ Ln xs 2 mX6_find 0 (jm_en 3 [.ref 0, .int p, .int g]) [] μ Q := by
  show jm_J rg_I (rg_X Ln xs) 2 mX6_find 0 [some (.ref 0), some (.int p), some (.int g)] [] μ Q
  refine jm_iload_n dX6_find_0 rfl rfl rfl ?_
  refine jm_cS1 dX6_find_1 rfl cb_X6_64 cs_X6_isPlace (Nat.le_of_ble_eq_true rfl) (Nat.le_of_ble_eq_true rfl) (by decide) (s_X6_isPlace (fun j hj e => ?_) (fun c0 => ?_))
  · subst e
    refine jm_if_eq (tgt := 14) dX6_find_4 (by decide) rfl (fun c4 => absurd c4 (by decide)) (fun c4 => ?_)
    refine jm_iload_n dX6_find_7 rfl rfl rfl ?_
    refine jm_cS1 dX6_find_8 rfl cb_X6_179 cs_X6_isLeg (Nat.le_of_ble_eq_true rfl) (Nat.le_of_ble_eq_true rfl) (by decide) (s_X6_isLeg (fun i hi e => ?_) (fun c9 => ?_))
    · subst e
      refine jm_if_ne (tgt := 17) dX6_find_11 (by decide) rfl (fun c11 => ?_) (fun c11 => absurd c11 (by decide))
      refine jm_aload_n dX6_find_17 rfl rfl rfl ?_
      refine jm_getr dX6_find_18 rfl fe_X6_12 rfl rfl rfl ?_
      refine jm_iload_n dX6_find_21 rfl rfl rfl ?_
      refine jm_cV1 dX6_find_22 rfl cb_X6_72 ci_X4_hasHorse cv_X4_hasHorse rfl rfl rfl (Nat.le_of_ble_eq_true rfl) (Nat.le_of_ble_eq_true rfl) (by decide) (s_X4_hasHorse_at hj (fun ch => ?_) (fun ch => ?_))
      · refine jm_if_eq (tgt := 43) dX6_find_25 (by decide) rfl (fun c25 => absurd c25 (by decide)) (fun c25 => ?_)
        refine jm_aload_n dX6_find_28 rfl rfl rfl ?_
        refine jm_getr dX6_find_29 rfl fe_X6_33 rfl rfl rfl ?_
        refine jm_iload_n dX6_find_32 rfl rfl rfl ?_
        refine jm_iload_n dX6_find_33 rfl rfl rfl ?_
        refine jm_cS2 dX6_find_34 rfl cb_X6_167 cs_X6_legNumber (Nat.le_of_ble_eq_true rfl) (Nat.le_of_ble_eq_true rfl) (by decide) (s_X6_legNumber ?_)
        refine jm_cV1 dX6_find_37 rfl cb_X6_182 ci_X3_whereIs cv_X3_whereIs rfl rfl rfl (Nat.le_of_ble_eq_true rfl) (Nat.le_of_ble_eq_true rfl) (by decide) (s_X3_whereIs (fun k hk e hb => ?_) (fun hb => ?_))
        · refine jm_goto (n := 44) dX6_find_40 (by decide) ?_
          refine jm_iret dX6_find_44 rfl rfl ?_
          refine h _ ?_
          first | exact Or.inl ⟨Or.inl c0, rfl⟩ | exact Or.inl ⟨Or.inr c9, rfl⟩ | exact Or.inr ⟨j, i, hj, hi, rfl, rfl, Or.inl ⟨ch, rfl⟩⟩ | exact Or.inr ⟨j, i, hj, hi, rfl, rfl, Or.inr ⟨ch, Or.inl ⟨hb, rfl⟩⟩⟩ | exact Or.inr ⟨j, i, hj, hi, rfl, rfl, Or.inr ⟨ch, Or.inr ⟨k, hk, e, hb, rfl⟩⟩⟩ | fail "leaf"
        · refine jm_goto (n := 44) dX6_find_40 (by decide) ?_
          refine jm_iret dX6_find_44 rfl rfl ?_
          refine h _ ?_
          first | exact Or.inl ⟨Or.inl c0, rfl⟩ | exact Or.inl ⟨Or.inr c9, rfl⟩ | exact Or.inr ⟨j, i, hj, hi, rfl, rfl, Or.inl ⟨ch, rfl⟩⟩ | exact Or.inr ⟨j, i, hj, hi, rfl, rfl, Or.inr ⟨ch, Or.inl ⟨hb, rfl⟩⟩⟩ | exact Or.inr ⟨j, i, hj, hi, rfl, rfl, Or.inr ⟨ch, Or.inr ⟨k, hk, e, hb, rfl⟩⟩⟩ | fail "leaf"
      · refine jm_if_eq (tgt := 43) dX6_find_25 (by decide) rfl (fun c25 => ?_) (fun c25 => absurd c25 (by decide))
        refine jm_iconst (-1) dX6_find_43 rfl (by decide) ?_
        refine jm_iret dX6_find_44 rfl rfl ?_
        refine h _ ?_
        first | exact Or.inl ⟨Or.inl c0, rfl⟩ | exact Or.inl ⟨Or.inr c9, rfl⟩ | exact Or.inr ⟨j, i, hj, hi, rfl, rfl, Or.inl ⟨ch, rfl⟩⟩ | exact Or.inr ⟨j, i, hj, hi, rfl, rfl, Or.inr ⟨ch, Or.inl ⟨hb, rfl⟩⟩⟩ | exact Or.inr ⟨j, i, hj, hi, rfl, rfl, Or.inr ⟨ch, Or.inr ⟨k, hk, e, hb, rfl⟩⟩⟩ | fail "leaf"
    · refine jm_if_ne (tgt := 17) dX6_find_11 (by decide) rfl (fun c11 => absurd c11 (by decide)) (fun c11 => ?_)
      refine jm_bipush (-101) dX6_find_14 rfl (by decide) ?_
      refine jm_iret dX6_find_16 rfl rfl ?_
      refine h _ ?_
      first | exact Or.inl ⟨Or.inl c0, rfl⟩ | exact Or.inl ⟨Or.inr c9, rfl⟩ | exact Or.inr ⟨j, i, hj, hi, rfl, rfl, Or.inl ⟨ch, rfl⟩⟩ | exact Or.inr ⟨j, i, hj, hi, rfl, rfl, Or.inr ⟨ch, Or.inl ⟨hb, rfl⟩⟩⟩ | exact Or.inr ⟨j, i, hj, hi, rfl, rfl, Or.inr ⟨ch, Or.inr ⟨k, hk, e, hb, rfl⟩⟩⟩ | fail "leaf"
  · refine jm_if_eq (tgt := 14) dX6_find_4 (by decide) rfl (fun c4 => ?_) (fun c4 => absurd c4 (by decide))
    refine jm_bipush (-101) dX6_find_14 rfl (by decide) ?_
    refine jm_iret dX6_find_16 rfl rfl ?_
    refine h _ ?_
    first | exact Or.inl ⟨Or.inl c0, rfl⟩ | exact Or.inl ⟨Or.inr c9, rfl⟩ | exact Or.inr ⟨j, i, hj, hi, rfl, rfl, Or.inl ⟨ch, rfl⟩⟩ | exact Or.inr ⟨j, i, hj, hi, rfl, rfl, Or.inr ⟨ch, Or.inl ⟨hb, rfl⟩⟩⟩ | exact Or.inr ⟨j, i, hj, hi, rfl, rfl, Or.inr ⟨ch, Or.inr ⟨k, hk, e, hb, rfl⟩⟩⟩ | fail "leaf"
set_option maxHeartbeats 400000 in
theorem s_X6_fair {Ln : Nat} {xs : Nat → Int32} {μ : jm_Mem} {Q : Option Value → jm_Mem → Prop} {a b e : Int32} {nf : Nat} (hn : μ 14 4 = nI nf) (h8 : nf ≤ 8) (h : ∀ r μ1, oc_fair μ a b e r μ1 → Q (some (.int r)) μ1) : gJ Ln xs 1 mX6_fair 0 (jm_en 4 [.ref 0, .int a, .int b, .int e]) [] μ Q := by
  show jm_J rg_I (rg_X Ln xs) 1 mX6_fair 0 [some (.ref 0), some (.int a), some (.int b), some (.int e)] [] μ Q
  refine jm_iload_n dX6_fair_0 rfl rfl rfl ?_
  refine jm_iconst (nI 0) dX6_fair_1 rfl (by decide) ?_
  refine jm_sipush (nI 400) dX6_fair_2 rfl (by decide) ?_
  refine jm_cS3 dX6_fair_5 rfl cb_X6_68 cs_X6_isWithin (Nat.le_of_ble_eq_true rfl) (Nat.le_of_ble_eq_true rfl) (by decide) (s_X6_isWithin (fun a5 b5 => ?_) (fun c5 => ?_))
  · refine jm_if_eq (tgt := 33) dX6_fair_8 (by decide) rfl (fun c8 => absurd c8 (by decide)) (fun c8 => ?_)
    refine jm_iload_n dX6_fair_11 rfl rfl rfl ?_
    refine jm_iload_n dX6_fair_12 rfl rfl rfl ?_
    refine jm_sipush (nI 400) dX6_fair_13 rfl (by decide) ?_
    refine jm_cS3 dX6_fair_16 rfl cb_X6_68 cs_X6_isWithin (Nat.le_of_ble_eq_true rfl) (Nat.le_of_ble_eq_true rfl) (by decide) (s_X6_isWithin (fun a16 b16 => ?_) (fun c16 => ?_))
    · refine jm_if_eq (tgt := 33) dX6_fair_19 (by decide) rfl (fun c19 => absurd c19 (by decide)) (fun c19 => ?_)
      refine jm_iload_n dX6_fair_22 rfl rfl rfl ?_
      refine jm_iconst (nI 0) dX6_fair_23 rfl (by decide) ?_
      refine jm_sipush (nI 10000) dX6_fair_24 rfl (by decide) ?_
      refine jm_cS3 dX6_fair_27 rfl cb_X6_68 cs_X6_isWithin (Nat.le_of_ble_eq_true rfl) (Nat.le_of_ble_eq_true rfl) (by decide) (s_X6_isWithin (fun a27 b27 => ?_) (fun c27 => ?_))
      · refine jm_if_ne (tgt := 36) dX6_fair_30 (by decide) rfl (fun c30 => ?_) (fun c30 => absurd c30 (by decide))
        refine jm_aload_n dX6_fair_36 rfl rfl rfl ?_
        refine jm_getr dX6_fair_37 rfl fe_X6_40 rfl rfl rfl ?_
        refine jm_geti dX6_fair_40 rfl fe_X6_185 rfl rfl rfl ?_
        refine jm_bipush (nI 8) dX6_fair_43 rfl (by decide) ?_
        refine jm_icmp_lt (tgt := 51) dX6_fair_45 (by decide) rfl (fun c45 => ?_) (fun c45 => ?_)
        · have hl8 : nf < 8 := (nI_ltI (by omega) (by omega)).mp (hn ▸ c45)
          refine jm_aload_n dX6_fair_51 rfl rfl rfl ?_
          refine jm_getr dX6_fair_52 rfl fe_X6_40 rfl rfl rfl ?_
          refine jm_iload_n dX6_fair_55 rfl rfl rfl ?_
          refine jm_iload_n dX6_fair_56 rfl rfl rfl ?_
          refine jm_iload_n dX6_fair_57 rfl rfl rfl ?_
          refine jm_cV3 dX6_fair_58 rfl cb_X6_188 ci_X2_announce cv_X2_announce rfl rfl rfl (Nat.le_of_ble_eq_true rfl) (Nat.le_of_ble_eq_true rfl) (by decide) (s_X2_announce hn hl8 ?_)
          refine jm_iret dX6_fair_61 rfl rfl ?_
          refine h _ _ ?_
          first | exact Or.inl ⟨Or.inl c5, rfl, rfl⟩ | exact Or.inl ⟨Or.inr (Or.inl c16), rfl, rfl⟩ | exact Or.inl ⟨Or.inr (Or.inr c27), rfl, rfl⟩ | exact Or.inr ⟨⟨a5, b5⟩, ⟨a16, b16⟩, ⟨a27, b27⟩, nf, hn, Or.inr ⟨hl8, rfl, rfl⟩⟩ | exact Or.inr ⟨⟨a5, b5⟩, ⟨a16, b16⟩, ⟨a27, b27⟩, nf, hn, Or.inl ⟨by have h9 := Nat.not_lt.mp (fun h => c45 (by rw [hn]; exact (nI_ltI (by omega) (by omega)).mpr h)); omega, rfl, rfl⟩⟩ | fail "leaf"
        · refine jm_bipush (-104) dX6_fair_48 rfl (by decide) ?_
          refine jm_iret dX6_fair_50 rfl rfl ?_
          refine h _ _ ?_
          first | exact Or.inl ⟨Or.inl c5, rfl, rfl⟩ | exact Or.inl ⟨Or.inr (Or.inl c16), rfl, rfl⟩ | exact Or.inl ⟨Or.inr (Or.inr c27), rfl, rfl⟩ | exact Or.inr ⟨⟨a5, b5⟩, ⟨a16, b16⟩, ⟨a27, b27⟩, nf, hn, Or.inr ⟨hl8, rfl, rfl⟩⟩ | exact Or.inr ⟨⟨a5, b5⟩, ⟨a16, b16⟩, ⟨a27, b27⟩, nf, hn, Or.inl ⟨by have h9 := Nat.not_lt.mp (fun h => c45 (by rw [hn]; exact (nI_ltI (by omega) (by omega)).mpr h)); omega, rfl, rfl⟩⟩ | fail "leaf"
      · refine jm_if_ne (tgt := 36) dX6_fair_30 (by decide) rfl (fun c30 => absurd c30 (by decide)) (fun c30 => ?_)
        refine jm_bipush (-102) dX6_fair_33 rfl (by decide) ?_
        refine jm_iret dX6_fair_35 rfl rfl ?_
        refine h _ _ ?_
        first | exact Or.inl ⟨Or.inl c5, rfl, rfl⟩ | exact Or.inl ⟨Or.inr (Or.inl c16), rfl, rfl⟩ | exact Or.inl ⟨Or.inr (Or.inr c27), rfl, rfl⟩ | exact Or.inr ⟨⟨a5, b5⟩, ⟨a16, b16⟩, ⟨a27, b27⟩, nf, hn, Or.inr ⟨hl8, rfl, rfl⟩⟩ | exact Or.inr ⟨⟨a5, b5⟩, ⟨a16, b16⟩, ⟨a27, b27⟩, nf, hn, Or.inl ⟨by have h9 := Nat.not_lt.mp (fun h => c45 (by rw [hn]; exact (nI_ltI (by omega) (by omega)).mpr h)); omega, rfl, rfl⟩⟩ | fail "leaf"
    · refine jm_if_eq (tgt := 33) dX6_fair_19 (by decide) rfl (fun c19 => ?_) (fun c19 => absurd c19 (by decide))
      refine jm_bipush (-102) dX6_fair_33 rfl (by decide) ?_
      refine jm_iret dX6_fair_35 rfl rfl ?_
      refine h _ _ ?_
      first | exact Or.inl ⟨Or.inl c5, rfl, rfl⟩ | exact Or.inl ⟨Or.inr (Or.inl c16), rfl, rfl⟩ | exact Or.inl ⟨Or.inr (Or.inr c27), rfl, rfl⟩ | exact Or.inr ⟨⟨a5, b5⟩, ⟨a16, b16⟩, ⟨a27, b27⟩, nf, hn, Or.inr ⟨hl8, rfl, rfl⟩⟩ | exact Or.inr ⟨⟨a5, b5⟩, ⟨a16, b16⟩, ⟨a27, b27⟩, nf, hn, Or.inl ⟨by have h9 := Nat.not_lt.mp (fun h => c45 (by rw [hn]; exact (nI_ltI (by omega) (by omega)).mpr h)); omega, rfl, rfl⟩⟩ | fail "leaf"
  · refine jm_if_eq (tgt := 33) dX6_fair_8 (by decide) rfl (fun c8 => ?_) (fun c8 => absurd c8 (by decide))
    refine jm_bipush (-102) dX6_fair_33 rfl (by decide) ?_
    refine jm_iret dX6_fair_35 rfl rfl ?_
    refine h _ _ ?_
    first | exact Or.inl ⟨Or.inl c5, rfl, rfl⟩ | exact Or.inl ⟨Or.inr (Or.inl c16), rfl, rfl⟩ | exact Or.inl ⟨Or.inr (Or.inr c27), rfl, rfl⟩ | exact Or.inr ⟨⟨a5, b5⟩, ⟨a16, b16⟩, ⟨a27, b27⟩, nf, hn, Or.inr ⟨hl8, rfl, rfl⟩⟩ | exact Or.inr ⟨⟨a5, b5⟩, ⟨a16, b16⟩, ⟨a27, b27⟩, nf, hn, Or.inl ⟨by have h9 := Nat.not_lt.mp (fun h => c45 (by rw [hn]; exact (nI_ltI (by omega) (by omega)).mpr h)); omega, rfl, rfl⟩⟩ | fail "leaf"
set_option maxHeartbeats 400000 in
theorem s_X6_road {Ln : Nat} {xs : Nat → Int32} {μ : jm_Mem} {Q : Option Value → jm_Mem → Prop} {a b d : Int32} {nf : Nat} (hn : μ 14 4 = nI nf) (h8 : nf ≤ 8) (h : ∀ r μ1, oc_road μ a b d r μ1 → Q (some (.int r)) μ1) : gJ Ln xs 1 mX6_road 0 (jm_en 5 [.ref 0, .int a, .int b, .int d]) [] μ Q := by
  show jm_J rg_I (rg_X Ln xs) 1 mX6_road 0 [some (.ref 0), some (.int a), some (.int b), some (.int d), none] [] μ Q
  refine jm_aload_n dX6_road_0 rfl rfl rfl ?_
  refine jm_getr dX6_road_1 rfl fe_X6_40 rfl rfl rfl ?_
  refine jm_iload_n dX6_road_4 rfl rfl rfl ?_
  refine jm_cV1 dX6_road_5 rfl cb_X6_192 ci_X2_isFair cv_X2_isFair rfl rfl rfl (Nat.le_of_ble_eq_true rfl) (Nat.le_of_ble_eq_true rfl) (by decide) (s_X2_isFair hn h8 (fun i hi e => ?_) (fun c0 => ?_))
  · subst e
    refine jm_if_eq (tgt := 22) dX6_road_8 (by decide) rfl (fun c8 => absurd c8 (by decide)) (fun c8 => ?_)
    refine jm_aload_n dX6_road_11 rfl rfl rfl ?_
    refine jm_getr dX6_road_12 rfl fe_X6_40 rfl rfl rfl ?_
    refine jm_iload_n dX6_road_15 rfl rfl rfl ?_
    refine jm_cV1 dX6_road_16 rfl cb_X6_192 ci_X2_isFair cv_X2_isFair rfl rfl rfl (Nat.le_of_ble_eq_true rfl) (Nat.le_of_ble_eq_true rfl) (by decide) (s_X2_isFair hn h8 (fun k hk e2 => ?_) (fun c9 => ?_))
    · subst e2
      refine jm_if_ne (tgt := 25) dX6_road_19 (by decide) rfl (fun c19 => ?_) (fun c19 => absurd c19 (by decide))
      refine jm_iload_n dX6_road_25 rfl rfl rfl ?_
      refine jm_iconst (nI 0) dX6_road_26 rfl (by decide) ?_
      refine jm_bipush (nI 50) dX6_road_27 rfl (by decide) ?_
      refine jm_cS3 dX6_road_29 rfl cb_X6_68 cs_X6_isWithin (Nat.le_of_ble_eq_true rfl) (Nat.le_of_ble_eq_true rfl) (by decide) (s_X6_isWithin (fun a29 b29 => ?_) (fun c29 => ?_))
      · refine jm_if_eq (tgt := 40) dX6_road_32 (by decide) rfl (fun c32 => absurd c32 (by decide)) (fun c32 => ?_)
        refine jm_iload_n dX6_road_35 rfl rfl rfl ?_
        refine jm_iload_n dX6_road_36 rfl rfl rfl ?_
        refine jm_icmp_ne (tgt := 43) dX6_road_37 (by decide) rfl (fun c37 => ?_) (fun c37 => ?_)
        · refine jm_aload_n dX6_road_43 rfl rfl rfl ?_
          refine jm_getr dX6_road_44 rfl fe_X6_40 rfl rfl rfl ?_
          refine jm_iload_n dX6_road_47 rfl rfl rfl ?_
          refine jm_iload_n dX6_road_48 rfl rfl rfl ?_
          refine jm_cV2 dX6_road_49 rfl cb_X6_195 ci_X2_daysBetween cv_X2_daysBetween rfl rfl rfl (Nat.le_of_ble_eq_true rfl) (Nat.le_of_ble_eq_true rfl) (by decide) (s_X2_daysBetween (by omega) (by omega) ?_)
          refine jm_istore dX6_road_52 rfl rfl rfl ?_
          dsimp only [List.set]
          refine jm_aload_n dX6_road_54 rfl rfl rfl ?_
          refine jm_getr dX6_road_55 rfl fe_X6_40 rfl rfl rfl ?_
          refine jm_iload_n dX6_road_58 rfl rfl rfl ?_
          refine jm_iload_n dX6_road_59 rfl rfl rfl ?_
          refine jm_iload_n dX6_road_60 rfl rfl rfl ?_
          refine jm_cV3 dX6_road_61 rfl cb_X6_198 ci_X2_layRoad cv_X2_layRoad rfl rfl rfl (Nat.le_of_ble_eq_true rfl) (Nat.le_of_ble_eq_true rfl) (by decide) (s_X2_layRoad (by omega) (by omega) ?_)
          refine jm_iload dX6_road_64 rfl rfl ?_
          refine jm_iret dX6_road_66 rfl rfl ?_
          refine h _ _ ?_
          first | exact ⟨nf, hn, h8, Or.inl ⟨c0.elim (fun h => Or.inl h) (fun h => Or.inr (Or.inl h)), rfl, rfl⟩⟩ | exact ⟨nf, hn, h8, Or.inl ⟨Or.inr (Or.inr c9), rfl, rfl⟩⟩ | exact ⟨nf, hn, h8, Or.inr ⟨i, k, hi, hk, rfl, rfl, Or.inl ⟨Or.inl c29, rfl, rfl⟩⟩⟩ | exact ⟨nf, hn, h8, Or.inr ⟨i, k, hi, hk, rfl, rfl, Or.inl ⟨Or.inr ((nI_eq (by omega) (by omega)).mp c37), rfl, rfl⟩⟩⟩ | exact ⟨nf, hn, h8, Or.inr ⟨i, k, hi, hk, rfl, rfl, Or.inr ⟨⟨a29, b29⟩, fun h => c37 (by rw [h]), rfl, rfl⟩⟩⟩ | fail "leaf"
        · refine jm_bipush (-102) dX6_road_40 rfl (by decide) ?_
          refine jm_iret dX6_road_42 rfl rfl ?_
          refine h _ _ ?_
          first | exact ⟨nf, hn, h8, Or.inl ⟨c0.elim (fun h => Or.inl h) (fun h => Or.inr (Or.inl h)), rfl, rfl⟩⟩ | exact ⟨nf, hn, h8, Or.inl ⟨Or.inr (Or.inr c9), rfl, rfl⟩⟩ | exact ⟨nf, hn, h8, Or.inr ⟨i, k, hi, hk, rfl, rfl, Or.inl ⟨Or.inl c29, rfl, rfl⟩⟩⟩ | exact ⟨nf, hn, h8, Or.inr ⟨i, k, hi, hk, rfl, rfl, Or.inl ⟨Or.inr ((nI_eq (by omega) (by omega)).mp c37), rfl, rfl⟩⟩⟩ | exact ⟨nf, hn, h8, Or.inr ⟨i, k, hi, hk, rfl, rfl, Or.inr ⟨⟨a29, b29⟩, fun h => c37 (by rw [h]), rfl, rfl⟩⟩⟩ | fail "leaf"
      · refine jm_if_eq (tgt := 40) dX6_road_32 (by decide) rfl (fun c32 => ?_) (fun c32 => absurd c32 (by decide))
        refine jm_bipush (-102) dX6_road_40 rfl (by decide) ?_
        refine jm_iret dX6_road_42 rfl rfl ?_
        refine h _ _ ?_
        first | exact ⟨nf, hn, h8, Or.inl ⟨c0.elim (fun h => Or.inl h) (fun h => Or.inr (Or.inl h)), rfl, rfl⟩⟩ | exact ⟨nf, hn, h8, Or.inl ⟨Or.inr (Or.inr c9), rfl, rfl⟩⟩ | exact ⟨nf, hn, h8, Or.inr ⟨i, k, hi, hk, rfl, rfl, Or.inl ⟨Or.inl c29, rfl, rfl⟩⟩⟩ | exact ⟨nf, hn, h8, Or.inr ⟨i, k, hi, hk, rfl, rfl, Or.inl ⟨Or.inr ((nI_eq (by omega) (by omega)).mp c37), rfl, rfl⟩⟩⟩ | exact ⟨nf, hn, h8, Or.inr ⟨i, k, hi, hk, rfl, rfl, Or.inr ⟨⟨a29, b29⟩, fun h => c37 (by rw [h]), rfl, rfl⟩⟩⟩ | fail "leaf"
    · refine jm_if_ne (tgt := 25) dX6_road_19 (by decide) rfl (fun c19 => absurd c19 (by decide)) (fun c19 => ?_)
      refine jm_bipush (-101) dX6_road_22 rfl (by decide) ?_
      refine jm_iret dX6_road_24 rfl rfl ?_
      refine h _ _ ?_
      first | exact ⟨nf, hn, h8, Or.inl ⟨c0.elim (fun h => Or.inl h) (fun h => Or.inr (Or.inl h)), rfl, rfl⟩⟩ | exact ⟨nf, hn, h8, Or.inl ⟨Or.inr (Or.inr c9), rfl, rfl⟩⟩ | exact ⟨nf, hn, h8, Or.inr ⟨i, k, hi, hk, rfl, rfl, Or.inl ⟨Or.inl c29, rfl, rfl⟩⟩⟩ | exact ⟨nf, hn, h8, Or.inr ⟨i, k, hi, hk, rfl, rfl, Or.inl ⟨Or.inr ((nI_eq (by omega) (by omega)).mp c37), rfl, rfl⟩⟩⟩ | exact ⟨nf, hn, h8, Or.inr ⟨i, k, hi, hk, rfl, rfl, Or.inr ⟨⟨a29, b29⟩, fun h => c37 (by rw [h]), rfl, rfl⟩⟩⟩ | fail "leaf"
  · refine jm_if_eq (tgt := 22) dX6_road_8 (by decide) rfl (fun c8 => ?_) (fun c8 => absurd c8 (by decide))
    refine jm_bipush (-101) dX6_road_22 rfl (by decide) ?_
    refine jm_iret dX6_road_24 rfl rfl ?_
    refine h _ _ ?_
    first | exact ⟨nf, hn, h8, Or.inl ⟨c0.elim (fun h => Or.inl h) (fun h => Or.inr (Or.inl h)), rfl, rfl⟩⟩ | exact ⟨nf, hn, h8, Or.inl ⟨Or.inr (Or.inr c9), rfl, rfl⟩⟩ | exact ⟨nf, hn, h8, Or.inr ⟨i, k, hi, hk, rfl, rfl, Or.inl ⟨Or.inl c29, rfl, rfl⟩⟩⟩ | exact ⟨nf, hn, h8, Or.inr ⟨i, k, hi, hk, rfl, rfl, Or.inl ⟨Or.inr ((nI_eq (by omega) (by omega)).mp c37), rfl, rfl⟩⟩⟩ | exact ⟨nf, hn, h8, Or.inr ⟨i, k, hi, hk, rfl, rfl, Or.inr ⟨⟨a29, b29⟩, fun h => c37 (by rw [h]), rfl, rfl⟩⟩⟩ | fail "leaf"
set_option maxHeartbeats 400000 in
theorem s_X6_turn {Ln : Nat} {xs : Nat → Int32} {μ : jm_Mem} {Q : Option Value → jm_Mem → Prop}  (h : ∀ r μ1, oc_turn μ  r μ1 → Q (some (.int r)) μ1) : gJ Ln xs 4 mX6_turn 0 (jm_en 2 [.ref 0]) [] μ Q := by
  show jm_J rg_I (rg_X Ln xs) 4 mX6_turn 0 [some (.ref 0), none] [] μ Q
  refine jm_aload_n dX6_turn_0 rfl rfl rfl ?_
  refine jm_getr dX6_turn_1 rfl fe_X6_12 rfl rfl rfl ?_
  refine jm_cV0 dX6_turn_4 rfl cb_X6_119 ci_X4_mayTurn cv_X4_mayTurn rfl rfl rfl (Nat.le_of_ble_eq_true rfl) (Nat.le_of_ble_eq_true rfl) (by decide) (s_X4_mayTurn (fun cl => ?_) (fun cl => ?_))
  · refine jm_if_eq (tgt := 24) dX6_turn_7 (by decide) rfl (fun c7 => absurd c7 (by decide)) (fun c7 => ?_)
    refine jm_aload_n dX6_turn_10 rfl rfl rfl ?_
    refine jm_geti dX6_turn_11 rfl fe_X6_58 rfl rfl rfl ?_
    refine jm_aload_n dX6_turn_14 rfl rfl rfl ?_
    refine jm_geti dX6_turn_15 rfl fe_X6_55 rfl rfl rfl ?_
    refine jm_bipush (nI 10) dX6_turn_18 rfl (by decide) ?_
    refine jm_imul dX6_turn_20 rfl ?_
    refine jm_icmp_lt (tgt := 27) dX6_turn_21 (by decide) rfl (fun c21 => ?_) (fun c21 => ?_)
    · refine jm_aload_n dX6_turn_27 rfl rfl rfl ?_
      refine jm_getr dX6_turn_28 rfl fe_X6_12 rfl rfl rfl ?_
      refine jm_cV0 dX6_turn_31 rfl cb_X6_214 ci_X4_ridersSitting cv_X4_ridersSitting rfl rfl rfl (Nat.le_of_ble_eq_true rfl) (Nat.le_of_ble_eq_true rfl) (by decide) (s_X4_ridersSitting ?_)
      refine jm_istore_n dX6_turn_34 rfl rfl rfl rfl ?_
      dsimp only [List.set]
      refine jm_aload_n dX6_turn_35 rfl rfl rfl ?_
      refine jm_getr dX6_turn_36 rfl fe_X6_12 rfl rfl rfl ?_
      refine jm_cV0 dX6_turn_39 rfl cb_X6_217 ci_X4_takeAllRiders cv_X4_takeAllRiders rfl rfl rfl (Nat.le_of_ble_eq_true rfl) (Nat.le_of_ble_eq_true rfl) (by decide) (s_X4_takeAllRiders ?_)
      refine jm_aload_n dX6_turn_42 rfl rfl rfl ?_
      refine jm_dup dX6_turn_43 rfl rfl ?_
      refine jm_geti dX6_turn_44 rfl fe_X6_58 rfl rfl rfl ?_
      refine jm_iconst (nI 1) dX6_turn_47 rfl (by decide) ?_
      refine jm_iadd dX6_turn_48 rfl ?_
      refine jm_puti dX6_turn_49 rfl pe_X6_58 rfl rfl rfl ?_
      refine jm_aload_n dX6_turn_52 rfl rfl rfl ?_
      refine jm_dup dX6_turn_53 rfl rfl ?_
      refine jm_geti dX6_turn_54 rfl fe_X6_61 rfl rfl rfl ?_
      refine jm_iload_n dX6_turn_57 rfl rfl rfl ?_
      refine jm_iadd dX6_turn_58 rfl ?_
      refine jm_puti dX6_turn_59 rfl pe_X6_61 rfl rfl rfl ?_
      refine jm_iload_n dX6_turn_62 rfl rfl rfl ?_
      refine jm_iret dX6_turn_63 rfl rfl ?_
      refine h _ _ ?_
      first | exact Or.inl ⟨Or.inl cl, rfl, rfl⟩ | exact Or.inl ⟨Or.inr (Int32.not_lt.mp c21), rfl, rfl⟩ | exact Or.inr ⟨cl, c21, rfl, by rw [rd_ni (by decide), rg_tar_na (b := 0) (k := 8) 12 (by decide) (by decide), rg_tar_na (b := 0) (k := 9) 12 (by decide) (by decide)]; rfl⟩ | fail "leaf"
    · refine jm_bipush (-103) dX6_turn_24 rfl (by decide) ?_
      refine jm_iret dX6_turn_26 rfl rfl ?_
      refine h _ _ ?_
      first | exact Or.inl ⟨Or.inl cl, rfl, rfl⟩ | exact Or.inl ⟨Or.inr (Int32.not_lt.mp c21), rfl, rfl⟩ | exact Or.inr ⟨cl, c21, rfl, by rw [rd_ni (by decide), rg_tar_na (b := 0) (k := 8) 12 (by decide) (by decide), rg_tar_na (b := 0) (k := 9) 12 (by decide) (by decide)]; rfl⟩ | fail "leaf"
  · refine jm_if_eq (tgt := 24) dX6_turn_7 (by decide) rfl (fun c7 => ?_) (fun c7 => absurd c7 (by decide))
    refine jm_bipush (-103) dX6_turn_24 rfl (by decide) ?_
    refine jm_iret dX6_turn_26 rfl rfl ?_
    refine h _ _ ?_
    first | exact Or.inl ⟨Or.inl cl, rfl, rfl⟩ | exact Or.inl ⟨Or.inr (Int32.not_lt.mp c21), rfl, rfl⟩ | exact Or.inr ⟨cl, c21, rfl, by rw [rd_ni (by decide), rg_tar_na (b := 0) (k := 8) 12 (by decide) (by decide), rg_tar_na (b := 0) (k := 9) 12 (by decide) (by decide)]; rfl⟩ | fail "leaf"
set_option maxHeartbeats 400000 in
theorem s_X6_look {Ln : Nat} {xs : Nat → Int32} {μ : jm_Mem} {Q : Option Value → jm_Mem → Prop}  (h : Q (some (.int (μ 0 8))) (jm_set μ 0 8 0)) : gJ Ln xs 0 mX6_look 0 (jm_en 2 [.ref 0]) [] μ Q := by
  show jm_J rg_I (rg_X Ln xs) 0 mX6_look 0 [some (.ref 0), none] [] μ Q
  refine jm_aload_n dX6_look_0 rfl rfl rfl ?_
  refine jm_geti dX6_look_1 rfl fe_X6_58 rfl rfl rfl ?_
  refine jm_istore_n dX6_look_4 rfl rfl rfl rfl ?_
  dsimp only [List.set]
  refine jm_aload_n dX6_look_5 rfl rfl rfl ?_
  refine jm_iconst (nI 0) dX6_look_6 rfl (by decide) ?_
  refine jm_puti dX6_look_7 rfl pe_X6_58 rfl rfl rfl ?_
  refine jm_iload_n dX6_look_10 rfl rfl rfl ?_
  refine jm_iret dX6_look_11 rfl rfl ?_
  exact h
set_option maxHeartbeats 400000 in
theorem s_X6_hours {Ln : Nat} {xs : Nat → Int32} {μ : jm_Mem} {Q : Option Value → jm_Mem → Prop} {v : Int32} (h : ∀ r μ1, oc_hours μ v r μ1 → Q (some (.int r)) μ1) : gJ Ln xs 1 mX6_hours 0 (jm_en 3 [.ref 0, .int v]) [] μ Q := by
  show jm_J rg_I (rg_X Ln xs) 1 mX6_hours 0 [some (.ref 0), some (.int v), none] [] μ Q
  refine jm_iload_n dX6_hours_0 rfl rfl rfl ?_
  refine jm_iconst (nI 1) dX6_hours_1 rfl (by decide) ?_
  refine jm_sipush (nI 1000) dX6_hours_2 rfl (by decide) ?_
  refine jm_cS3 dX6_hours_5 rfl cb_X6_68 cs_X6_isWithin (Nat.le_of_ble_eq_true rfl) (Nat.le_of_ble_eq_true rfl) (by decide) (s_X6_isWithin (fun a5 b5 => ?_) (fun c5 => ?_))
  · refine jm_if_ne (tgt := 14) dX6_hours_8 (by decide) rfl (fun c8 => ?_) (fun c8 => absurd c8 (by decide))
    refine jm_aload_n dX6_hours_14 rfl rfl rfl ?_
    refine jm_geti dX6_hours_15 rfl fe_X6_55 rfl rfl rfl ?_
    refine jm_istore_n dX6_hours_18 rfl rfl rfl rfl ?_
    dsimp only [List.set]
    refine jm_aload_n dX6_hours_19 rfl rfl rfl ?_
    refine jm_iload_n dX6_hours_20 rfl rfl rfl ?_
    refine jm_puti dX6_hours_21 rfl pe_X6_55 rfl rfl rfl ?_
    refine jm_iload_n dX6_hours_24 rfl rfl rfl ?_
    refine jm_iret dX6_hours_25 rfl rfl ?_
    refine h _ _ ?_
    first | exact Or.inl ⟨c5, rfl, rfl⟩ | exact Or.inr ⟨⟨a5, b5⟩, rfl, rfl⟩ | fail "leaf"
  · refine jm_if_ne (tgt := 14) dX6_hours_8 (by decide) rfl (fun c8 => absurd c8 (by decide)) (fun c8 => ?_)
    refine jm_bipush (-102) dX6_hours_11 rfl (by decide) ?_
    refine jm_iret dX6_hours_13 rfl rfl ?_
    refine h _ _ ?_
    first | exact Or.inl ⟨c5, rfl, rfl⟩ | exact Or.inr ⟨⟨a5, b5⟩, rfl, rfl⟩ | fail "leaf"
set_option maxHeartbeats 400000 in
theorem s_X6_come {Ln : Nat} {xs : Nat → Int32} {μ : jm_Mem} {Q : Option Value → jm_Mem → Prop} {v : Int32} {nw : Nat} (hw : μ 22 1 = nI nw) (hl : nw ≤ 100) (h : ∀ r μ1, oc_come μ v r μ1 → Q (some (.int r)) μ1) : gJ Ln xs 2 mX6_come 0 (jm_en 2 [.ref 0, .int v]) [] μ Q := by
  show jm_J rg_I (rg_X Ln xs) 2 mX6_come 0 [some (.ref 0), some (.int v)] [] μ Q
  refine jm_iload_n dX6_come_0 rfl rfl rfl ?_
  refine jm_cS1 dX6_come_1 rfl cb_X6_100 cs_X6_isRiderWeight (Nat.le_of_ble_eq_true rfl) (Nat.le_of_ble_eq_true rfl) (by decide) (s_X6_isRiderWeight (fun a1 b1 => ?_) (fun c1 => ?_))
  · refine jm_if_ne (tgt := 10) dX6_come_4 (by decide) rfl (fun c4 => ?_) (fun c4 => absurd c4 (by decide))
    refine jm_aload_n dX6_come_10 rfl rfl rfl ?_
    refine jm_getr dX6_come_11 rfl fe_X6_47 rfl rfl rfl ?_
    refine jm_geti dX6_come_14 rfl fe_X6_220 rfl rfl rfl ?_
    refine jm_bipush (nI 100) dX6_come_17 rfl (by decide) ?_
    refine jm_icmp_lt (tgt := 25) dX6_come_19 (by decide) rfl (fun c19 => ?_) (fun c19 => ?_)
    · have hl1 : nw < 100 := (nI_ltI (by omega) (by omega)).mp (hw ▸ c19)
      refine jm_aload_n dX6_come_25 rfl rfl rfl ?_
      refine jm_getr dX6_come_26 rfl fe_X6_47 rfl rfl rfl ?_
      refine jm_iload_n dX6_come_29 rfl rfl rfl ?_
      refine jm_cV1 dX6_come_30 rfl cb_X6_223 ci_X0_join cv_X0_join rfl rfl rfl (Nat.le_of_ble_eq_true rfl) (Nat.le_of_ble_eq_true rfl) (by decide) (s_X0_join hw hl1 ?_)
      refine jm_aload_n dX6_come_33 rfl rfl rfl ?_
      refine jm_getr dX6_come_34 rfl fe_X6_47 rfl rfl rfl ?_
      refine jm_geti dX6_come_37 rfl fe_X6_220 rfl rfl rfl ?_
      refine jm_iret dX6_come_40 rfl rfl ?_
      refine h _ _ ?_
      first | exact Or.inl ⟨c1, rfl, rfl⟩ | exact Or.inr ⟨⟨a1, b1⟩, nw, hw, Or.inr ⟨hl1, rd_eq, rfl⟩⟩ | exact Or.inr ⟨⟨a1, b1⟩, nw, hw, Or.inl ⟨by have h9 := Nat.not_lt.mp (fun h => c19 (by rw [hw]; exact (nI_ltI (by omega) (by omega)).mpr h)); omega, rfl, rfl⟩⟩ | fail "leaf"
    · refine jm_bipush (-104) dX6_come_22 rfl (by decide) ?_
      refine jm_iret dX6_come_24 rfl rfl ?_
      refine h _ _ ?_
      first | exact Or.inl ⟨c1, rfl, rfl⟩ | exact Or.inr ⟨⟨a1, b1⟩, nw, hw, Or.inr ⟨hl1, rd_eq, rfl⟩⟩ | exact Or.inr ⟨⟨a1, b1⟩, nw, hw, Or.inl ⟨by have h9 := Nat.not_lt.mp (fun h => c19 (by rw [hw]; exact (nI_ltI (by omega) (by omega)).mpr h)); omega, rfl, rfl⟩⟩ | fail "leaf"
  · refine jm_if_ne (tgt := 10) dX6_come_4 (by decide) rfl (fun c4 => absurd c4 (by decide)) (fun c4 => ?_)
    refine jm_bipush (-102) dX6_come_7 rfl (by decide) ?_
    refine jm_iret dX6_come_9 rfl rfl ?_
    refine h _ _ ?_
    first | exact Or.inl ⟨c1, rfl, rfl⟩ | exact Or.inr ⟨⟨a1, b1⟩, nw, hw, Or.inr ⟨hl1, rd_eq, rfl⟩⟩ | exact Or.inr ⟨⟨a1, b1⟩, nw, hw, Or.inl ⟨by have h9 := Nat.not_lt.mp (fun h => c19 (by rw [hw]; exact (nI_ltI (by omega) (by omega)).mpr h)); omega, rfl, rfl⟩⟩ | fail "leaf"
set_option maxHeartbeats 400000 in
theorem s_X6_next {Ln : Nat} {xs : Nat → Int32} {μ : jm_Mem} {Q : Option Value → jm_Mem → Prop} {nw : Nat} (hw : μ 22 1 = nI nw) (hl : nw ≤ 100) (h : ∀ r μ1, oc_next μ  r μ1 → Q (some (.int r)) μ1) : gJ Ln xs 4 mX6_next 0 (jm_en 2 [.ref 0]) [] μ Q := by
  show jm_J rg_I (rg_X Ln xs) 4 mX6_next 0 [some (.ref 0), none] [] μ Q
  refine jm_aload_n dX6_next_0 rfl rfl rfl ?_
  refine jm_getr dX6_next_1 rfl fe_X6_47 rfl rfl rfl ?_
  refine jm_geti dX6_next_4 rfl fe_X6_220 rfl rfl rfl ?_
  refine jm_if_ne (tgt := 12) dX6_next_7 (by decide) rfl (fun c7 => ?_) (fun c7 => ?_)
  · obtain ⟨n, rfl⟩ : ∃ n, nw = n + 1 := ⟨nw - 1, by have : nw ≠ 0 := (fun e => c7 (by rw [hw, e]; rfl)); omega⟩
    refine jm_aload_n dX6_next_12 rfl rfl rfl ?_
    refine jm_getr dX6_next_13 rfl fe_X6_12 rfl rfl rfl ?_
    refine jm_aload_n dX6_next_16 rfl rfl rfl ?_
    refine jm_getr dX6_next_17 rfl fe_X6_47 rfl rfl rfl ?_
    refine jm_getr dX6_next_20 rfl fe_X6_226 rfl rfl rfl ?_
    refine jm_iconst (nI 0) dX6_next_23 rfl (by decide) ?_
    refine jm_iald dX6_next_24 rfl rfl rfl (by decide) rfl (by first | assumption | omega) ?_
    refine jm_cV1 dX6_next_25 rfl cb_X6_129 ci_X4_bestHorse cv_X4_bestHorse rfl rfl rfl (Nat.le_of_ble_eq_true rfl) (Nat.le_of_ble_eq_true rfl) (by decide) (s_X4_bestHorse ?_)
    refine jm_istore_n dX6_next_28 rfl rfl rfl rfl ?_
    dsimp only [List.set]
    refine jm_iload_n dX6_next_29 rfl rfl rfl ?_
    refine jm_iconst (-1) dX6_next_30 rfl (by decide) ?_
    refine jm_icmp_eq (tgt := 58) dX6_next_31 (by decide) rfl (fun c31 => ?_) (fun c31 => ?_)
    · refine jm_iload_n dX6_next_58 rfl rfl rfl ?_
      refine jm_iret dX6_next_59 rfl rfl ?_
      refine h _ _ ?_
      first | exact Or.inl ⟨c7, rfl, rfl⟩ | exact Or.inr ⟨n, by omega, hw, Or.inl ⟨c31, c31, rfl⟩⟩ | exact Or.inr ⟨n, by omega, hw, Or.inr ⟨j, hj, hok, ej, rfl, by rw [rg_add_na (by decide), jm_set_ne 23 (by decide)]⟩⟩ | fail "leaf"
    · obtain ⟨j, hj, hok, ej⟩ := (rg_bst_ix 12).resolve_left c31
      rw [ej]
      refine jm_aload_n dX6_next_34 rfl rfl rfl ?_
      refine jm_getr dX6_next_35 rfl fe_X6_12 rfl rfl rfl ?_
      refine jm_iload_n dX6_next_38 rfl rfl rfl ?_
      refine jm_aload_n dX6_next_39 rfl rfl rfl ?_
      refine jm_getr dX6_next_40 rfl fe_X6_47 rfl rfl rfl ?_
      refine jm_getr dX6_next_43 rfl fe_X6_226 rfl rfl rfl ?_
      refine jm_iconst (nI 0) dX6_next_46 rfl (by decide) ?_
      refine jm_iald dX6_next_47 rfl rfl rfl (by decide) rfl (by first | assumption | omega) ?_
      refine jm_cV2 dX6_next_48 rfl cb_X6_107 ci_X4_putRider cv_X4_putRider rfl rfl rfl (Nat.le_of_ble_eq_true rfl) (Nat.le_of_ble_eq_true rfl) (by decide) (s_X4_putRider hj ?_)
      refine jm_aload_n dX6_next_51 rfl rfl rfl ?_
      refine jm_getr dX6_next_52 rfl fe_X6_47 rfl rfl rfl ?_
      refine jm_cV0 dX6_next_55 rfl cb_X6_229 ci_X0_dropFirst cv_X0_dropFirst rfl rfl rfl (Nat.le_of_ble_eq_true rfl) (Nat.le_of_ble_eq_true rfl) (by decide) (s_X0_dropFirst (by rw [rg_add_na (by decide), rd_na (by decide)]; exact hw) (by omega) ?_)
      refine jm_iload_n dX6_next_58 rfl rfl rfl ?_
      refine jm_iret dX6_next_59 rfl rfl ?_
      refine h _ _ ?_
      first | exact Or.inl ⟨c7, rfl, rfl⟩ | exact Or.inr ⟨n, by omega, hw, Or.inl ⟨c31, c31, rfl⟩⟩ | exact Or.inr ⟨n, by omega, hw, Or.inr ⟨j, hj, hok, ej, rfl, by rw [rg_add_na (by decide), jm_set_ne 23 (by decide)]⟩⟩ | fail "leaf"
  · refine jm_iconst (-1) dX6_next_10 rfl (by decide) ?_
    refine jm_iret dX6_next_11 rfl rfl ?_
    refine h _ _ ?_
    first | exact Or.inl ⟨c7, rfl, rfl⟩ | exact Or.inr ⟨n, by omega, hw, Or.inl ⟨c31, c31, rfl⟩⟩ | exact Or.inr ⟨n, by omega, hw, Or.inr ⟨j, hj, hok, ej, rfl, by rw [rg_add_na (by decide), jm_set_ne 23 (by decide)]⟩⟩ | fail "leaf"
set_option maxHeartbeats 400000 in
theorem s_X6_book {Ln : Nat} {xs : Nat → Int32} {μ : jm_Mem} {Q : Option Value → jm_Mem → Prop} {v : Int32} (h : ∀ r μ1, oc_book μ v r μ1 → Q (some (.int r)) μ1) : gJ Ln xs 1 mX6_book 0 (jm_en 3 [.ref 0, .int v]) [] μ Q := by
  show jm_J rg_I (rg_X Ln xs) 1 mX6_book 0 [some (.ref 0), some (.int v), none] [] μ Q
  refine jm_iload_n dX6_book_0 rfl rfl rfl ?_
  refine jm_iconst (nI 0) dX6_book_1 rfl (by decide) ?_
  refine jm_ldc 100000 dX6_book_2 rfl kc_X6_232 ?_
  refine jm_cS3 dX6_book_4 rfl cb_X6_68 cs_X6_isWithin (Nat.le_of_ble_eq_true rfl) (Nat.le_of_ble_eq_true rfl) (by decide) (s_X6_isWithin (fun a4 b4 => ?_) (fun c4 => ?_))
  · refine jm_if_ne (tgt := 13) dX6_book_7 (by decide) rfl (fun c7 => ?_) (fun c7 => absurd c7 (by decide))
    refine jm_aload_n dX6_book_13 rfl rfl rfl ?_
    refine jm_geti dX6_book_14 rfl fe_X6_61 rfl rfl rfl ?_
    refine jm_istore_n dX6_book_17 rfl rfl rfl rfl ?_
    dsimp only [List.set]
    refine jm_aload_n dX6_book_18 rfl rfl rfl ?_
    refine jm_iconst (nI 0) dX6_book_19 rfl (by decide) ?_
    refine jm_puti dX6_book_20 rfl pe_X6_61 rfl rfl rfl ?_
    refine jm_iload_n dX6_book_23 rfl rfl rfl ?_
    refine jm_iload_n dX6_book_24 rfl rfl rfl ?_
    refine jm_isub dX6_book_25 rfl ?_
    refine jm_iret dX6_book_26 rfl rfl ?_
    refine h _ _ ?_
    first | exact Or.inl ⟨c4, rfl, rfl⟩ | exact Or.inr ⟨⟨a4, b4⟩, rfl, rfl⟩ | fail "leaf"
  · refine jm_if_ne (tgt := 13) dX6_book_7 (by decide) rfl (fun c7 => absurd c7 (by decide)) (fun c7 => ?_)
    refine jm_bipush (-102) dX6_book_10 rfl (by decide) ?_
    refine jm_iret dX6_book_12 rfl rfl ?_
    refine h _ _ ?_
    first | exact Or.inl ⟨c4, rfl, rfl⟩ | exact Or.inr ⟨⟨a4, b4⟩, rfl, rfl⟩ | fail "leaf"
set_option maxHeartbeats 400000 in
theorem s_X6_count {Ln : Nat} {xs : Nat → Int32} {μ : jm_Mem} {Q : Option Value → jm_Mem → Prop} {x : Int32} (h : ∀ r, oc_count μ x r → Q (some (.int r)) μ) : gJ Ln xs 2 mX6_count 0 (jm_en 2 [.ref 0, .int x]) [] μ Q := by
  show jm_J rg_I (rg_X Ln xs) 2 mX6_count 0 [some (.ref 0), some (.int x)] [] μ Q
  rcases pk_ix x (n := 8) (by decide) with hx | hx | ⟨k, hk, rfl⟩
  · refine jm_iload_n dX6_count_0 rfl rfl rfl ?_
    refine jm_tabOut (n := 103) dX6_count_1 (Or.inl (by have := Int32.lt_iff_toInt_lt.mp hx; simpa using this)) (by decide) ?_
    refine jm_bipush (-102) dX6_count_103 rfl (by decide) ?_
    refine jm_iret dX6_count_105 rfl rfl ?_
    refine h _ (Or.inr (Or.inr (Or.inr (Or.inr (Or.inr (Or.inr (Or.inr (Or.inr ⟨Or.inl hx, rfl⟩))))))))
  · refine jm_iload_n dX6_count_0 rfl rfl rfl ?_
    refine jm_tabOut (n := 103) dX6_count_1 (Or.inr (by have := Int32.le_iff_toInt_le.mp hx; rw [nI_toInt (by decide)] at this; omega)) (by decide) ?_
    refine jm_bipush (-102) dX6_count_103 rfl (by decide) ?_
    refine jm_iret dX6_count_105 rfl rfl ?_
    refine h _ (Or.inr (Or.inr (Or.inr (Or.inr (Or.inr (Or.inr (Or.inr (Or.inr ⟨Or.inr hx, rfl⟩))))))))
  · obtain rfl | rfl | rfl | rfl | rfl | rfl | rfl | rfl : k = 0 ∨ k = 1 ∨ k = 2 ∨ k = 3 ∨ k = 4 ∨ k = 5 ∨ k = 6 ∨ k = 7 := by omega
    · refine jm_iload_n dX6_count_0 rfl rfl rfl ?_
      refine jm_tabIn (n := 48) (off := 47) dX6_count_1 (by decide) (by decide) (by decide) (by decide) ?_
      refine jm_aload_n dX6_count_48 rfl rfl rfl ?_
      refine jm_getr dX6_count_49 rfl fe_X6_12 rfl rfl rfl ?_
      refine jm_cV0 dX6_count_52 rfl cb_X6_82 ci_X4_horsesStanding cv_X4_horsesStanding rfl rfl rfl (Nat.le_of_ble_eq_true rfl) (Nat.le_of_ble_eq_true rfl) (by decide) (s_X4_horsesStanding ?_)
      refine jm_iret dX6_count_55 rfl rfl ?_
      exact h _ (Or.inl ⟨rfl, rfl⟩)
    · refine jm_iload_n dX6_count_0 rfl rfl rfl ?_
      refine jm_tabIn (n := 56) (off := 55) dX6_count_1 (by decide) (by decide) (by decide) (by decide) ?_
      refine jm_aload_n dX6_count_56 rfl rfl rfl ?_
      refine jm_getr dX6_count_57 rfl fe_X6_12 rfl rfl rfl ?_
      refine jm_cV0 dX6_count_60 rfl cb_X6_214 ci_X4_ridersSitting cv_X4_ridersSitting rfl rfl rfl (Nat.le_of_ble_eq_true rfl) (Nat.le_of_ble_eq_true rfl) (by decide) (s_X4_ridersSitting ?_)
      refine jm_iret dX6_count_63 rfl rfl ?_
      exact h _ (Or.inr (Or.inl ⟨rfl, rfl⟩))
    · refine jm_iload_n dX6_count_0 rfl rfl rfl ?_
      refine jm_tabIn (n := 64) (off := 63) dX6_count_1 (by decide) (by decide) (by decide) (by decide) ?_
      refine jm_aload_n dX6_count_64 rfl rfl rfl ?_
      refine jm_getr dX6_count_65 rfl fe_X6_47 rfl rfl rfl ?_
      refine jm_geti dX6_count_68 rfl fe_X6_220 rfl rfl rfl ?_
      refine jm_iret dX6_count_71 rfl rfl ?_
      exact h _ (Or.inr (Or.inr (Or.inl ⟨rfl, rfl⟩)))
    · refine jm_iload_n dX6_count_0 rfl rfl rfl ?_
      refine jm_tabIn (n := 72) (off := 71) dX6_count_1 (by decide) (by decide) (by decide) (by decide) ?_
      refine jm_aload_n dX6_count_72 rfl rfl rfl ?_
      refine jm_getr dX6_count_73 rfl fe_X6_40 rfl rfl rfl ?_
      refine jm_geti dX6_count_76 rfl fe_X6_185 rfl rfl rfl ?_
      refine jm_iret dX6_count_79 rfl rfl ?_
      exact h _ (Or.inr (Or.inr (Or.inr (Or.inl ⟨rfl, rfl⟩))))
    · refine jm_iload_n dX6_count_0 rfl rfl rfl ?_
      refine jm_tabIn (n := 80) (off := 79) dX6_count_1 (by decide) (by decide) (by decide) (by decide) ?_
      refine jm_aload_n dX6_count_80 rfl rfl rfl ?_
      refine jm_geti dX6_count_81 rfl fe_X6_58 rfl rfl rfl ?_
      refine jm_iret dX6_count_84 rfl rfl ?_
      exact h _ (Or.inr (Or.inr (Or.inr (Or.inr (Or.inl ⟨rfl, rfl⟩)))))
    · refine jm_iload_n dX6_count_0 rfl rfl rfl ?_
      refine jm_tabIn (n := 85) (off := 84) dX6_count_1 (by decide) (by decide) (by decide) (by decide) ?_
      refine jm_aload_n dX6_count_85 rfl rfl rfl ?_
      refine jm_geti dX6_count_86 rfl fe_X6_61 rfl rfl rfl ?_
      refine jm_iret dX6_count_89 rfl rfl ?_
      exact h _ (Or.inr (Or.inr (Or.inr (Or.inr (Or.inr (Or.inl ⟨rfl, rfl⟩))))))
    · refine jm_iload_n dX6_count_0 rfl rfl rfl ?_
      refine jm_tabIn (n := 90) (off := 89) dX6_count_1 (by decide) (by decide) (by decide) (by decide) ?_
      refine jm_aload_n dX6_count_90 rfl rfl rfl ?_
      refine jm_getr dX6_count_91 rfl fe_X6_12 rfl rfl rfl ?_
      refine jm_geti dX6_count_94 rfl fe_X6_233 rfl rfl rfl ?_
      refine jm_iret dX6_count_97 rfl rfl ?_
      exact h _ (Or.inr (Or.inr (Or.inr (Or.inr (Or.inr (Or.inr (Or.inl ⟨rfl, rfl⟩)))))))
    · refine jm_iload_n dX6_count_0 rfl rfl rfl ?_
      refine jm_tabIn (n := 98) (off := 97) dX6_count_1 (by decide) (by decide) (by decide) (by decide) ?_
      refine jm_aload_n dX6_count_98 rfl rfl rfl ?_
      refine jm_geti dX6_count_99 rfl fe_X6_51 rfl rfl rfl ?_
      refine jm_iret dX6_count_102 rfl rfl ?_
      exact h _ (Or.inr (Or.inr (Or.inr (Or.inr (Or.inr (Or.inr (Or.inr (Or.inl ⟨rfl, rfl⟩))))))))
