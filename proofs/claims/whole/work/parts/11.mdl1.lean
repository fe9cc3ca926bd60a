theorem rg_clt (x y : Int64) : lg_cmp x y < 0 ↔ x < y := by rw [← Int32.not_le, lg_cmp_ge, Int64.not_le]
theorem rg_cgt (x y : Int64) : 0 < lg_cmp x y ↔ y < x := by
  unfold lg_cmp
  by_cases h1 : x > y
  · rw [if_pos h1]
    exact ⟨fun _ => h1, fun _ => by decide⟩
  · rw [if_neg h1]
    constructor
    · intro h
      split at h <;> exact absurd h (by decide)
    · exact fun h => absurd h h1
theorem rg_in {p : Int32} {n : Nat} (hn : n < 2 ^ 30) (h1 : ¬ p < nI 0) (h2 : ¬ nI n < p) : ∃ j, j < n + 1 ∧ p = nI j := by
  obtain ⟨j, hj, rfl⟩ := nI_of h1
  exact ⟨j, Nat.lt_of_not_le (fun h => h2 ((nI_ltI (a := n) (b := j) (by omega) (by omega)).mpr (by omega))), rfl⟩
theorem rg_m1 (x : Int32) : x + (-1) = x - nI 1 := by rw [Int32.sub_eq_add_neg]; rfl
theorem rg_nin {p : Int32} {n : Nat} (hn : n < 2 ^ 30) (h : p < nI 0 ∨ nI n < p) : p < 0 ∨ nI (n + 1) ≤ p := by
  rcases pk_ix p (n := n + 1) (by omega) with c | c | ⟨j, hj, rfl⟩
  · exact Or.inl c
  · exact Or.inr c
  · rcases h with h | h
    · exact absurd h (nI_pos (by omega))
    · exact absurd ((nI_ltI (by omega) (by omega)).mp h) (by omega)
theorem rg_depo {k : Int32} {m : Nat} (hm : m ≤ 8) (h : k < nI 0 ∨ nI m - nI 1 < k) : k < 0 ∨ nI m ≤ k := by
  rcases pk_ix k (n := m) (by omega) with c | c | ⟨j, hj, rfl⟩
  · exact Or.inl c
  · exact Or.inr c
  · exact (rg_depn hm hj h).elim
theorem rd_back {μ : jm_Mem} {a i : Nat} {w v : Int32} (h : μ a i = v) : jm_set (jm_set μ a i w) a i v = μ := by
  funext b k
  by_cases hb : b = a
  · subst hb
    by_cases hk : k = i
    · subst hk; rw [rd_eq, h]
    · rw [rd_ni hk, rd_ni hk]
  · rw [rd_na hb, rd_na hb]
def rg_S (f c : Nat → Int32) : Nat → Int32
  | 0 => 0
  | n + 1 => rg_S f c n + f n * c n
def md_ld (μ : jm_Mem) (j : Nat) : Int32 := if μ 27 j ≤ 0 then 0 else μ 27 j + μ 28 j
def md_sh (μ : jm_Mem) : Int32 := rg_sh (rg_S (md_ld μ) (μ 25) 12) (rg_S (md_ld μ) (μ 26) 12)
def md_rs (μ : jm_Mem) : Nat → Int32
  | 0 => 0
  | n + 1 => md_rs μ n + rg_lift n (md_ld μ n)
abbrev md_law (μ : jm_Mem) : Prop := md_sh μ ≤ μ 24 7 * μ 24 7 ∧ md_rs μ 12 ≤ μ 24 8 ∧ 0 - md_rs μ 12 ≤ μ 24 8
def md_okw (μ : jm_Mem) (w : Int32) (j : Nat) : Bool := decide (¬ μ 27 j ≤ 0 ∧ μ 28 j = 0 ∧ md_law (jm_set μ 28 j w))
def md_own (μ : jm_Mem) (j : Nat) : Nat → jm_Mem
  | 0 => μ
  | n + 1 => jm_set (md_own μ j n) 31 (4 * j + n) (nI (4 * j + n))
def md_clr (μ : jm_Mem) : Nat → jm_Mem
  | 0 => μ
  | n + 1 => jm_set (md_clr μ n) 28 n 0
def md_shf (μ : jm_Mem) : Nat → jm_Mem
  | 0 => μ
  | n + 1 => jm_set (md_shf μ n) 40 n (md_shf μ n 40 (n + 1))
def md_rc (μ : jm_Mem) : Nat → Nat
  | 0 => 0
  | n + 1 => md_rc μ n + (if μ 27 n ≤ 0 then 0 else if μ 28 n ≤ 0 then 0 else 1)
def md_sum (μ : jm_Mem) : Nat → Int32
  | 0 => 0
  | n + 1 => md_sum μ n + md_ld μ n
theorem md_own_na {μ : jm_Mem} {j b : Nat} (h : b ≠ 31) : ∀ n, md_own μ j n b = μ b
  | 0 => rfl
  | n + 1 => by simp only [md_own]; rw [jm_set_ne b h, md_own_na h n]
theorem md_clr_na {μ : jm_Mem} {b : Nat} (h : b ≠ 28) : ∀ n, md_clr μ n b = μ b
  | 0 => rfl
  | n + 1 => by simp only [md_clr]; rw [jm_set_ne b h, md_clr_na h n]
theorem md_shf_na {μ : jm_Mem} {b : Nat} (h : b ≠ 40) : ∀ n, md_shf μ n b = μ b
  | 0 => rfl
  | n + 1 => by simp only [md_shf]; rw [jm_set_ne b h, md_shf_na h n]
abbrev md_nh (μ : jm_Mem) (p : Int32) : Prop := rg_np p ∨ ∃ j, j < 12 ∧ p = nI j ∧ μ 27 j ≤ 0
abbrev md_nl (μ : jm_Mem) (p g : Int32) : Prop := md_nh μ p ∨ g < 0 ∨ nI 4 ≤ g
def om_horse (μ : jm_Mem) (p w c r : Int32) (μ1 : jm_Mem) : Prop := (rg_np p ∧ r = -101 ∧ μ1 = μ) ∨ ∃ j, j < 12 ∧ p = nI j ∧ (((rg_nw w (nI 1) (nI 200) ∨ rg_nw c (nI 0) (nI 99)) ∧ r = -102 ∧ μ1 = μ) ∨ (rg_wi w (nI 1) (nI 200) ∧ rg_wi c (nI 0) (nI 99) ∧ ((¬ μ 27 j ≤ 0 ∧ r = -103 ∧ μ1 = μ) ∨ (μ 27 j ≤ 0 ∧ r = nI (rg_cnt (jm_set μ 27 j w 27) 12) ∧ μ1 = md_own (jm_set (jm_set (jm_set (jm_set μ 27 j w) 28 j 0) 29 j 1) 30 (8 * j) c) j 4))))
def om_leave (μ : jm_Mem) (p r : Int32) (μ1 : jm_Mem) : Prop := (md_nh μ p ∧ r = -101 ∧ μ1 = μ) ∨ ∃ j, j < 12 ∧ p = nI j ∧ ¬ μ 27 j ≤ 0 ∧ (((¬ μ 28 j = 0 ∨ ∃ i, i < 4 ∧ ¬ μ 31 (4 * j + i) = nI (4 * j + i)) ∧ r = -103 ∧ μ1 = μ) ∨ (μ 28 j = 0 ∧ (∀ i, i < 4 → μ 31 (4 * j + i) = nI (4 * j + i)) ∧ r = μ 27 j ∧ μ1 = jm_set μ 27 j 0))
def om_sit (μ : jm_Mem) (p w r : Int32) (μ1 : jm_Mem) : Prop := (md_nh μ p ∧ r = -101 ∧ μ1 = μ) ∨ ∃ j, j < 12 ∧ p = nI j ∧ ¬ μ 27 j ≤ 0 ∧ ((rg_nw w 1 (nI 150) ∧ r = -102 ∧ μ1 = μ) ∨ (rg_wi w 1 (nI 150) ∧ (((¬ μ 28 j ≤ 0 ∨ ¬ md_law (jm_set μ 28 j w)) ∧ r = -103 ∧ μ1 = μ) ∨ (μ 28 j ≤ 0 ∧ md_law (jm_set μ 28 j w) ∧ μ1 = jm_set μ 28 j w ∧ r = md_sh μ1))))
def om_rise (μ : jm_Mem) (p r : Int32) (μ1 : jm_Mem) : Prop := (md_nh μ p ∧ r = -101 ∧ μ1 = μ) ∨ ∃ j, j < 12 ∧ p = nI j ∧ ¬ μ 27 j ≤ 0 ∧ ((μ 28 j = 0 ∧ r = -103 ∧ μ1 = μ) ∨ (¬ μ 28 j = 0 ∧ r = μ 28 j ∧ μ1 = jm_set μ 28 j 0))
def om_may (μ : jm_Mem) (r : Int32) : Prop := (md_law μ ∧ r = 1) ∨ (¬ md_law μ ∧ r = 0)
def om_law (μ : jm_Mem) (x v r : Int32) (μ1 : jm_Mem) : Prop := (x = 0 ∧ ((rg_nw v (nI 0) (nI 30000) ∧ r = -102 ∧ μ1 = μ) ∨ (rg_wi v (nI 0) (nI 30000) ∧ r = μ 24 7 ∧ μ1 = jm_set μ 24 7 v))) ∨ (x = 1 ∧ ((rg_nw v (nI 0) (nI 5000) ∧ r = -102 ∧ μ1 = μ) ∨ (rg_wi v (nI 0) (nI 5000) ∧ r = μ 24 8 ∧ μ1 = jm_set μ 24 8 v))) ∨ (¬ x = 0 ∧ ¬ x = 1 ∧ r = -101 ∧ μ1 = μ)
def om_best (μ : jm_Mem) (w r : Int32) : Prop := (rg_nw w 1 (nI 150) ∧ r = -102) ∨ (rg_wi w 1 (nI 150) ∧ r = (rg_bst (md_okw μ w) (fun j => md_sh (jm_set μ 28 j w)) 12).1)
def om_rider (μ : jm_Mem) (p r : Int32) : Prop := (rg_np p ∧ r = -101) ∨ ∃ j, j < 12 ∧ p = nI j ∧ r = if μ 27 j ≤ 0 then 0 else μ 28 j
def om_coat (μ : jm_Mem) (p c r : Int32) (μ1 : jm_Mem) : Prop := (md_nh μ p ∧ r = -101 ∧ μ1 = μ) ∨ ∃ j m, j < 12 ∧ p = nI j ∧ ¬ μ 27 j ≤ 0 ∧ μ 29 j = nI m ∧ ((rg_nw c (nI 0) (nI 99) ∧ r = -102 ∧ μ1 = μ) ∨ (rg_wi c (nI 0) (nI 99) ∧ ((m = 8 ∧ r = -104 ∧ μ1 = μ) ∨ (m < 8 ∧ r = nI (m + 1) ∧ μ1 = jm_set (jm_set μ 30 (8 * j + m) c) 29 j (nI (m + 1))))))
def om_sample (μ : jm_Mem) (p k r : Int32) : Prop := (md_nh μ p ∧ r = -101) ∨ ∃ j m, j < 12 ∧ p = nI j ∧ ¬ μ 27 j ≤ 0 ∧ μ 29 j = nI m ∧ m ≤ 8 ∧ ((∃ i, i < m ∧ k = nI i ∧ r = μ 30 (8 * j + m - 1 - i)) ∨ ((k < nI 0 ∨ nI m - nI 1 < k) ∧ r = -1))
def om_strip (μ : jm_Mem) (p c r : Int32) (μ1 : jm_Mem) : Prop := (md_nh μ p ∧ r = -101 ∧ μ1 = μ) ∨ ∃ j m, j < 12 ∧ p = nI j ∧ ¬ μ 27 j ≤ 0 ∧ μ 29 j = nI m ∧ m ≤ 8 ∧ (((∀ i, i < m → ¬ μ 30 (8 * j + i) = c) ∧ r = -102 ∧ μ1 = μ) ∨ ∃ i, i < m ∧ μ 30 (8 * j + i) = c ∧ (∀ t, i < t → t < m → ¬ μ 30 (8 * j + t) = c) ∧ r = nI (m - 1 - i) ∧ μ1 = jm_set μ 29 j (nI (i + 1)))
def om_swap (μ : jm_Mem) (p g q o r : Int32) (μ1 : jm_Mem) : Prop := ((md_nl μ p g ∨ md_nl μ q o) ∧ r = -101 ∧ μ1 = μ) ∨ ∃ j i j2 i2, j < 12 ∧ i < 4 ∧ j2 < 12 ∧ i2 < 4 ∧ p = nI j ∧ g = nI i ∧ q = nI j2 ∧ o = nI i2 ∧ ¬ μ 27 j ≤ 0 ∧ ¬ μ 27 j2 ≤ 0 ∧ ((j = j2 ∧ i = i2 ∧ r = -102 ∧ μ1 = μ) ∨ (¬ (j = j2 ∧ i = i2) ∧ r = 1 ∧ μ1 = jm_set (jm_set μ 31 (4 * j + i) (μ 31 (4 * j2 + i2))) 31 (4 * j2 + i2) (μ 31 (4 * j + i))))
def om_mark (μ : jm_Mem) (p g r : Int32) : Prop := (md_nl μ p g ∧ r = -101) ∨ ∃ j i, j < 12 ∧ i < 4 ∧ p = nI j ∧ g = nI i ∧ ¬ μ 27 j ≤ 0 ∧ r = μ 31 (4 * j + i)
def om_find (μ : jm_Mem) (p g r : Int32) : Prop := ((rg_np p ∨ g < 0 ∨ nI 4 ≤ g) ∧ r = -101) ∨ ∃ j i, j < 12 ∧ i < 4 ∧ p = nI j ∧ g = nI i ∧ (((∀ k, k < 48 → ¬ (¬ μ 27 (k / 4) ≤ 0 ∧ μ 31 k = nI (4 * j + i))) ∧ r = -1) ∨ ∃ k, k < 48 ∧ (¬ μ 27 (k / 4) ≤ 0 ∧ μ 31 k = nI (4 * j + i)) ∧ (∀ k2, k2 < k → ¬ (¬ μ 27 (k2 / 4) ≤ 0 ∧ μ 31 k2 = nI (4 * j + i))) ∧ r = nI k)
def om_fair (μ : jm_Mem) (a b e r : Int32) (μ1 : jm_Mem) : Prop := ((rg_nw a (nI 0) (nI 400) ∨ rg_nw b a (nI 400) ∨ rg_nw e (nI 0) (nI 10000)) ∧ r = -102 ∧ μ1 = μ) ∨ (rg_wi a (nI 0) (nI 400) ∧ rg_wi b a (nI 400) ∧ rg_wi e (nI 0) (nI 10000) ∧ ∃ nf, μ 24 12 = nI nf ∧ ((nf = 8 ∧ r = -104 ∧ μ1 = μ) ∨ (nf < 8 ∧ r = nI nf ∧ μ1 = jm_set (jm_set (jm_set (jm_set μ 34 nf a) 35 nf b) 36 nf e) 24 12 (nI (nf + 1)))))
def om_road (μ : jm_Mem) (a b d r : Int32) (μ1 : jm_Mem) : Prop := ∃ nf, μ 24 12 = nI nf ∧ nf ≤ 8 ∧ (((a < 0 ∨ nI nf ≤ a ∨ b < 0 ∨ nI nf ≤ b) ∧ r = -101 ∧ μ1 = μ) ∨ ∃ i k, i < nf ∧ k < nf ∧ a = nI i ∧ b = nI k ∧ (((rg_nw d (nI 0) (nI 50) ∨ i = k) ∧ r = -102 ∧ μ1 = μ) ∨ (rg_wi d (nI 0) (nI 50) ∧ ¬ i = k ∧ r = μ 37 (8 * i + k) ∧ μ1 = jm_set (jm_set μ 37 (8 * i + k) d) 37 (8 * k + i) d)))
def om_turn (μ : jm_Mem) (r : Int32) (μ1 : jm_Mem) : Prop := ((¬ md_law μ ∨ ¬ μ 24 22 + nI 1 ≤ nI 10 * μ 24 21) ∧ r = -103 ∧ μ1 = μ) ∨ (md_law μ ∧ μ 24 22 + nI 1 ≤ nI 10 * μ 24 21 ∧ r = nI (md_rc μ 12) ∧ μ1 = jm_set (jm_set (md_clr μ 12) 24 22 (μ 24 22 + 1)) 24 23 (μ 24 23 + nI (md_rc μ 12)))
def om_hours (μ : jm_Mem) (v r : Int32) (μ1 : jm_Mem) : Prop := (rg_nw v (nI 1) (nI 1000) ∧ r = -102 ∧ μ1 = μ) ∨ (rg_wi v (nI 1) (nI 1000) ∧ r = μ 24 21 ∧ μ1 = jm_set μ 24 21 v)
def om_come (μ : jm_Mem) (v r : Int32) (μ1 : jm_Mem) : Prop := (rg_nw v 1 (nI 150) ∧ r = -102 ∧ μ1 = μ) ∨ (rg_wi v 1 (nI 150) ∧ ∃ nw, μ 24 24 = nI nw ∧ ((nw = 100 ∧ r = -104 ∧ μ1 = μ) ∨ (nw < 100 ∧ r = nI (nw + 1) ∧ μ1 = jm_set (jm_set μ 40 nw v) 24 24 (nI (nw + 1)))))
def om_next (μ : jm_Mem) (r : Int32) (μ1 : jm_Mem) : Prop := (μ 24 24 = nI 0 ∧ r = -1 ∧ μ1 = μ) ∨ ∃ nw, nw < 100 ∧ μ 24 24 = nI (nw + 1) ∧ (((rg_bst (md_okw μ (μ 40 0)) (fun j => md_sh (jm_set μ 28 j (μ 40 0))) 12).1 = -1 ∧ r = -1 ∧ μ1 = μ) ∨ ∃ j, j < 12 ∧ (rg_bst (md_okw μ (μ 40 0)) (fun j => md_sh (jm_set μ 28 j (μ 40 0))) 12).1 = nI j ∧ r = nI j ∧ μ1 = md_shf (jm_set (jm_set μ 28 j (μ 40 0)) 24 24 (nI nw)) nw)
def om_book (μ : jm_Mem) (v r : Int32) (μ1 : jm_Mem) : Prop := (rg_nw v (nI 0) 100000 ∧ r = -102 ∧ μ1 = μ) ∨ (rg_wi v (nI 0) 100000 ∧ r = μ 24 23 - v ∧ μ1 = jm_set μ 24 23 0)
def om_count (μ : jm_Mem) (x r : Int32) : Prop := (x = nI 0 ∧ r = nI (rg_cnt (μ 27) 12)) ∨ (x = nI 1 ∧ r = nI (md_rc μ 12)) ∨ (x = nI 2 ∧ r = μ 24 24) ∨ (x = nI 3 ∧ r = μ 24 12) ∨ (x = nI 4 ∧ r = μ 24 22) ∨ (x = nI 5 ∧ r = μ 24 23) ∨ (x = nI 6 ∧ r = md_sum μ 12) ∨ (x = nI 7 ∧ r = μ 24 9) ∨ ((x < 0 ∨ nI 8 ≤ x) ∧ r = -102)
set_option maxHeartbeats 400000 in
theorem s_X7_in {Ln : Nat} {xs : Nat → Int32} {μ : jm_Mem} {Q : Option Value → jm_Mem → Prop} {v lo hi : Int64} (a b c : Int32) (ha : v = a.toInt64) (hb : lo = b.toInt64) (hc : hi = c.toInt64) (h1 : ¬ a < b → ¬ c < a → Q (some (.int 1)) μ) (h0 : a < b ∨ c < a → Q (some (.int 0)) μ) : gJ Ln xs 0 mX7_in 0 (jm_en 6 [.long v, .long lo, .long hi]) [] μ Q := by
  show jm_J rg_I (rg_X Ln xs) 0 mX7_in 0 [some (.long v), none, some (.long lo), none, some (.long hi), none] [] μ Q
  subst ha hb hc
  refine jm_lload_n dX7_in_0 rfl rfl rfl ?_
  refine jm_lload_n dX7_in_1 rfl rfl rfl ?_
  refine jm_lcmp dX7_in_2 rfl ?_
  refine jm_if_lt (tgt := 17) dX7_in_3 (by decide) rfl (fun c3 => ?_) (fun c3 => ?_)
  · refine jm_iconst (nI 0) dX7_in_17 rfl (by decide) ?_
    refine jm_iret dX7_in_18 rfl rfl ?_
    first | exact h1 (fun h => c3 ((rg_clt _ _).mpr (Int32.toInt64_lt.mpr h))) (fun h => c10 ((rg_cgt _ _).mpr (Int32.toInt64_lt.mpr h))) | exact h0 (Or.inl (Int32.toInt64_lt.mp ((rg_clt _ _).mp c3))) | exact h0 (Or.inr (Int32.toInt64_lt.mp ((rg_cgt _ _).mp c10))) | fail "leaf"
  · refine jm_lload_n dX7_in_6 rfl rfl rfl ?_
    refine jm_lload dX7_in_7 rfl rfl ?_
    refine jm_lcmp dX7_in_9 rfl ?_
    refine jm_if_gt (tgt := 17) dX7_in_10 (by decide) rfl (fun c10 => ?_) (fun c10 => ?_)
    · refine jm_iconst (nI 0) dX7_in_17 rfl (by decide) ?_
      refine jm_iret dX7_in_18 rfl rfl ?_
      first | exact h1 (fun h => c3 ((rg_clt _ _).mpr (Int32.toInt64_lt.mpr h))) (fun h => c10 ((rg_cgt _ _).mpr (Int32.toInt64_lt.mpr h))) | exact h0 (Or.inl (Int32.toInt64_lt.mp ((rg_clt _ _).mp c3))) | exact h0 (Or.inr (Int32.toInt64_lt.mp ((rg_cgt _ _).mp c10))) | fail "leaf"
    · refine jm_iconst (nI 1) dX7_in_13 rfl (by decide) ?_
      refine jm_goto (n := 18) dX7_in_14 (by decide) ?_
      refine jm_iret dX7_in_18 rfl rfl ?_
      first | exact h1 (fun h => c3 ((rg_clt _ _).mpr (Int32.toInt64_lt.mpr h))) (fun h => c10 ((rg_cgt _ _).mpr (Int32.toInt64_lt.mpr h))) | exact h0 (Or.inl (Int32.toInt64_lt.mp ((rg_clt _ _).mp c3))) | exact h0 (Or.inr (Int32.toInt64_lt.mp ((rg_cgt _ _).mp c10))) | fail "leaf"
set_option maxHeartbeats 400000 in
theorem s_X7_isPlace {Ln : Nat} {xs : Nat → Int32} {μ : jm_Mem} {Q : Option Value → jm_Mem → Prop} {p : Int32} (h1 : ∀ j : Nat, j < 12 → p = nI j → Q (some (.int 1)) μ) (h0 : p < 0 ∨ nI 12 ≤ p → Q (some (.int 0)) μ) : gJ Ln xs 1 mX7_isPlace 0 (jm_en 1 [.int p]) [] μ Q := by
  show jm_J rg_I (rg_X Ln xs) 1 mX7_isPlace 0 [some (.int p)] [] μ Q
  refine jm_iload_n dX7_isPlace_0 rfl rfl rfl ?_
  refine jm_i2l dX7_isPlace_1 rfl ?_
  refine jm_lconst 0 dX7_isPlace_2 rfl (by decide) ?_
  refine jm_ldc2 11 dX7_isPlace_3 rfl kc_X7_73 ?_
  refine jm_cS3 dX7_isPlace_6 rfl cb_X7_75 cs_X7_in (Nat.le_of_ble_eq_true rfl) (Nat.le_of_ble_eq_true rfl) (by decide) (s_X7_in p (nI 0) (nI 11) rfl (by decide) (by decide) (fun a6 b6 => ?_) (fun c6 => ?_))
  · refine jm_iret dX7_isPlace_9 rfl rfl ?_
    first | (obtain ⟨j, hj, e⟩ := rg_in (n := 11) (by decide) a6 b6; exact h1 j hj e) | exact h0 (rg_nin (n := 11) (by decide) c6) | fail "leaf"
  · refine jm_iret dX7_isPlace_9 rfl rfl ?_
    first | (obtain ⟨j, hj, e⟩ := rg_in (n := 11) (by decide) a6 b6; exact h1 j hj e) | exact h0 (rg_nin (n := 11) (by decide) c6) | fail "leaf"
set_option maxHeartbeats 400000 in
theorem s_X7_isHorse {Ln : Nat} {xs : Nat → Int32} {μ : jm_Mem} {Q : Option Value → jm_Mem → Prop} {p : Int32} (h1 : ∀ j : Nat, j < 12 → p = nI j → ¬ μ 27 j ≤ 0 → Q (some (.int 1)) μ) (h0 : md_nh μ p → Q (some (.int 0)) μ) : gJ Ln xs 2 mX7_isHorse 0 (jm_en 2 [.ref 24, .int p]) [] μ Q := by
  show jm_J rg_I (rg_X Ln xs) 2 mX7_isHorse 0 [some (.ref 24), some (.int p)] [] μ Q
  refine jm_iload_n dX7_isHorse_0 rfl rfl rfl ?_
  refine jm_cS1 dX7_isHorse_1 rfl cb_X7_79 cs_X7_isPlace (Nat.le_of_ble_eq_true rfl) (Nat.le_of_ble_eq_true rfl) (by decide) (s_X7_isPlace (fun j hj e => ?_) (fun c0 => ?_))
  · subst e
    refine jm_if_eq (tgt := 20) dX7_isHorse_4 (by decide) rfl (fun c4 => absurd c4 (by decide)) (fun c4 => ?_)
    refine jm_aload_n dX7_isHorse_7 rfl rfl rfl ?_
    refine jm_getr dX7_isHorse_8 rfl fe_X7_16 rfl rfl rfl ?_
    refine jm_iload_n dX7_isHorse_11 rfl rfl rfl ?_
    refine jm_iald dX7_isHorse_12 rfl rfl rfl (by decide) rfl (by first | assumption | omega) ?_
    refine jm_if_le (tgt := 20) dX7_isHorse_13 (by decide) rfl (fun c13 => ?_) (fun c13 => ?_)
    · refine jm_iconst (nI 0) dX7_isHorse_20 rfl (by decide) ?_
      refine jm_iret dX7_isHorse_21 rfl rfl ?_
      first | exact h1 j hj rfl c13 | exact h0 (Or.inl c0) | exact h0 (Or.inr ⟨j, hj, rfl, c13⟩) | fail "leaf"
    · refine jm_iconst (nI 1) dX7_isHorse_16 rfl (by decide) ?_
      refine jm_goto (n := 21) dX7_isHorse_17 (by decide) ?_
      refine jm_iret dX7_isHorse_21 rfl rfl ?_
      first | exact h1 j hj rfl c13 | exact h0 (Or.inl c0) | exact h0 (Or.inr ⟨j, hj, rfl, c13⟩) | fail "leaf"
  · refine jm_if_eq (tgt := 20) dX7_isHorse_4 (by decide) rfl (fun c4 => ?_) (fun c4 => absurd c4 (by decide))
    refine jm_iconst (nI 0) dX7_isHorse_20 rfl (by decide) ?_
    refine jm_iret dX7_isHorse_21 rfl rfl ?_
    first | exact h1 j hj rfl c13 | exact h0 (Or.inl c0) | exact h0 (Or.inr ⟨j, hj, rfl, c13⟩) | fail "leaf"
set_option maxHeartbeats 400000 in
theorem s_X7_isRider {Ln : Nat} {xs : Nat → Int32} {μ : jm_Mem} {Q : Option Value → jm_Mem → Prop} {v : Int32} (h1 : ¬ v < 1 → ¬ nI 150 < v → Q (some (.int 1)) μ) (h0 : v < 1 ∨ nI 150 < v → Q (some (.int 0)) μ) : gJ Ln xs 1 mX7_isRider 0 (jm_en 1 [.int v]) [] μ Q := by
  show jm_J rg_I (rg_X Ln xs) 1 mX7_isRider 0 [some (.int v)] [] μ Q
  refine jm_iload_n dX7_isRider_0 rfl rfl rfl ?_
  refine jm_i2l dX7_isRider_1 rfl ?_
  refine jm_lconst 1 dX7_isRider_2 rfl (by decide) ?_
  refine jm_ldc2 150 dX7_isRider_3 rfl kc_X7_108 ?_
  refine jm_cS3 dX7_isRider_6 rfl cb_X7_75 cs_X7_in (Nat.le_of_ble_eq_true rfl) (Nat.le_of_ble_eq_true rfl) (by decide) (s_X7_in v 1 (nI 150) rfl (by decide) (by decide) (fun a6 b6 => ?_) (fun c6 => ?_))
  · refine jm_iret dX7_isRider_9 rfl rfl ?_
    first | exact h1 a6 b6 | exact h0 c6 | fail "leaf"
  · refine jm_iret dX7_isRider_9 rfl rfl ?_
    first | exact h1 a6 b6 | exact h0 c6 | fail "leaf"
set_option maxHeartbeats 1000000 in
theorem l_X7_horses {Ln : Nat} {xs : Nat → Int32} {μ : jm_Mem} {Q : Option Value → jm_Mem → Prop}  (h : Q (some (.int (nI (rg_cnt (μ 27) 12)))) μ) : ∀ i, i ≤ 12 → jm_J rg_I (rg_X Ln xs) 0 mX7_horses 4 [some (.ref 24), some (.int (nI (rg_cnt (μ 27) i))), some (.int (nI i))] [] μ Q := by
  refine jm_for 12 ?_ ?_
  · skip
    refine jm_iload_n dX7_horses_4 rfl rfl rfl ?_
    refine jm_bipush (nI 12) dX7_horses_5 rfl (by decide) ?_
    refine jm_icmp_ge (tgt := 33) dX7_horses_7 (by decide) rfl (fun c7 => ?_) (fun c7 => absurd ((nI_leI (by omega) (by omega)).mpr (Nat.le_refl _)) c7)
    refine jm_iload_n dX7_horses_33 rfl rfl rfl ?_
    refine jm_iret dX7_horses_34 rfl rfl ?_
    exact h
  · intro i hi ih 
    refine jm_iload_n dX7_horses_4 rfl rfl rfl ?_
    refine jm_bipush (nI 12) dX7_horses_5 rfl (by decide) ?_
    refine jm_icmp_ge (tgt := 33) dX7_horses_7 (by decide) rfl (fun c7 => absurd ((nI_leI (by omega) (by omega)).mp c7) (by omega)) (fun c7 => ?_)
    refine jm_iload_n dX7_horses_10 rfl rfl rfl ?_
    refine jm_aload_n dX7_horses_11 rfl rfl rfl ?_
    refine jm_getr dX7_horses_12 rfl fe_X7_16 rfl rfl rfl ?_
    refine jm_iload_n dX7_horses_15 rfl rfl rfl ?_
    refine jm_iald dX7_horses_16 rfl rfl rfl (by decide) rfl (by first | assumption | omega) ?_
    refine jm_if_le (tgt := 24) dX7_horses_17 (by decide) rfl (fun c17 => ?_) (fun c17 => ?_)
    · refine jm_iconst (nI 0) dX7_horses_24 rfl (by decide) ?_
      refine jm_iadd dX7_horses_25 rfl ?_
      refine jm_istore_n dX7_horses_26 rfl rfl rfl rfl ?_
      dsimp only [List.set]
      refine jm_iinc (nI 1) dX7_horses_27 rfl rfl (by decide) rfl rfl ?_
      dsimp only [List.set]
      refine jm_goto (n := 4) dX7_horses_30 (by decide) ?_
      rw [nI_add, nI_add]
      first | (have e := ih; simp only [rg_cnt, if_pos c17] at e; exact e) | (have e := ih; simp only [rg_cnt, if_neg c17] at e; exact e) | fail "stop"
    · refine jm_iconst (nI 1) dX7_horses_20 rfl (by decide) ?_
      refine jm_goto (n := 25) dX7_horses_21 (by decide) ?_
      refine jm_iadd dX7_horses_25 rfl ?_
      refine jm_istore_n dX7_horses_26 rfl rfl rfl rfl ?_
      dsimp only [List.set]
      refine jm_iinc (nI 1) dX7_horses_27 rfl rfl (by decide) rfl rfl ?_
      dsimp only [List.set]
      refine jm_goto (n := 4) dX7_horses_30 (by decide) ?_
      rw [nI_add, nI_add]
      first | (have e := ih; simp only [rg_cnt, if_pos c17] at e; exact e) | (have e := ih; simp only [rg_cnt, if_neg c17] at e; exact e) | fail "stop"
set_option maxHeartbeats 400000 in
theorem s_X7_horses {Ln : Nat} {xs : Nat → Int32} {μ : jm_Mem} {Q : Option Value → jm_Mem → Prop}  (h : Q (some (.int (nI (rg_cnt (μ 27) 12)))) μ) : gJ Ln xs 0 mX7_horses 0 (jm_en 3 [.ref 24]) [] μ Q := by
  show jm_J rg_I (rg_X Ln xs) 0 mX7_horses 0 [some (.ref 24), none, none] [] μ Q
  refine jm_iconst (nI 0) dX7_horses_0 rfl (by decide) ?_
  refine jm_istore_n dX7_horses_1 rfl rfl rfl rfl ?_
  dsimp only [List.set]
  refine jm_iconst (nI 0) dX7_horses_2 rfl (by decide) ?_
  refine jm_istore_n dX7_horses_3 rfl rfl rfl rfl ?_
  dsimp only [List.set]
  exact l_X7_horses h 0 (by omega)
set_option maxHeartbeats 1000000 in
theorem l_X7_riders {Ln : Nat} {xs : Nat → Int32} {μ : jm_Mem} {Q : Option Value → jm_Mem → Prop}  (h : Q (some (.int (nI (md_rc μ 12)))) μ) : ∀ i, i ≤ 12 → jm_J rg_I (rg_X Ln xs) 0 mX7_riders 4 [some (.ref 24), some (.int (nI (md_rc μ i))), some (.int (nI i))] [] μ Q := by
  refine jm_for 12 ?_ ?_
  · skip
    refine jm_iload_n dX7_riders_4 rfl rfl rfl ?_
    refine jm_bipush (nI 12) dX7_riders_5 rfl (by decide) ?_
    refine jm_icmp_ge (tgt := 42) dX7_riders_7 (by decide) rfl (fun c7 => ?_) (fun c7 => absurd ((nI_leI (by omega) (by omega)).mpr (Nat.le_refl _)) c7)
    refine jm_iload_n dX7_riders_42 rfl rfl rfl ?_
    refine jm_iret dX7_riders_43 rfl rfl ?_
    exact h
  · intro i hi ih 
    refine jm_iload_n dX7_riders_4 rfl rfl rfl ?_
    refine jm_bipush (nI 12) dX7_riders_5 rfl (by decide) ?_
    refine jm_icmp_ge (tgt := 42) dX7_riders_7 (by decide) rfl (fun c7 => absurd ((nI_leI (by omega) (by omega)).mp c7) (by omega)) (fun c7 => ?_)
    refine jm_iload_n dX7_riders_10 rfl rfl rfl ?_
    refine jm_aload_n dX7_riders_11 rfl rfl rfl ?_
    refine jm_getr dX7_riders_12 rfl fe_X7_16 rfl rfl rfl ?_
    refine jm_iload_n dX7_riders_15 rfl rfl rfl ?_
    refine jm_iald dX7_riders_16 rfl rfl rfl (by decide) rfl (by first | assumption | omega) ?_
    refine jm_if_le (tgt := 33) dX7_riders_17 (by decide) rfl (fun c17 => ?_) (fun c17 => ?_)
    · refine jm_iconst (nI 0) dX7_riders_33 rfl (by decide) ?_
      refine jm_iadd dX7_riders_34 rfl ?_
      refine jm_istore_n dX7_riders_35 rfl rfl rfl rfl ?_
      dsimp only [List.set]
      refine jm_iinc (nI 1) dX7_riders_36 rfl rfl (by decide) rfl rfl ?_
      dsimp only [List.set]
      refine jm_goto (n := 4) dX7_riders_39 (by decide) ?_
      rw [nI_add, nI_add]
      first | (have e := ih; simp only [md_rc, if_pos c17] at e; exact e) | (have e := ih; simp only [md_rc, if_neg c17, if_neg c26] at e; exact e) | (have e := ih; simp only [md_rc, if_neg c17, if_pos c26] at e; exact e) | fail "stop"
    · refine jm_aload_n dX7_riders_20 rfl rfl rfl ?_
      refine jm_getr dX7_riders_21 rfl fe_X7_19 rfl rfl rfl ?_
      refine jm_iload_n dX7_riders_24 rfl rfl rfl ?_
      refine jm_iald dX7_riders_25 rfl rfl rfl (by decide) rfl (by first | assumption | omega) ?_
      refine jm_if_le (tgt := 33) dX7_riders_26 (by decide) rfl (fun c26 => ?_) (fun c26 => ?_)
      · refine jm_iconst (nI 0) dX7_riders_33 rfl (by decide) ?_
        refine jm_iadd dX7_riders_34 rfl ?_
        refine jm_istore_n dX7_riders_35 rfl rfl rfl rfl ?_
        dsimp only [List.set]
        refine jm_iinc (nI 1) dX7_riders_36 rfl rfl (by decide) rfl rfl ?_
        dsimp only [List.set]
        refine jm_goto (n := 4) dX7_riders_39 (by decide) ?_
        rw [nI_add, nI_add]
        first | (have e := ih; simp only [md_rc, if_pos c17] at e; exact e) | (have e := ih; simp only [md_rc, if_neg c17, if_neg c26] at e; exact e) | (have e := ih; simp only [md_rc, if_neg c17, if_pos c26] at e; exact e) | fail "stop"
      · refine jm_iconst (nI 1) dX7_riders_29 rfl (by decide) ?_
        refine jm_goto (n := 34) dX7_riders_30 (by decide) ?_
        refine jm_iadd dX7_riders_34 rfl ?_
        refine jm_istore_n dX7_riders_35 rfl rfl rfl rfl ?_
        dsimp only [List.set]
        refine jm_iinc (nI 1) dX7_riders_36 rfl rfl (by decide) rfl rfl ?_
        dsimp only [List.set]
        refine jm_goto (n := 4) dX7_riders_39 (by decide) ?_
        rw [nI_add, nI_add]
        first | (have e := ih; simp only [md_rc, if_pos c17] at e; exact e) | (have e := ih; simp only [md_rc, if_neg c17, if_neg c26] at e; exact e) | (have e := ih; simp only [md_rc, if_neg c17, if_pos c26] at e; exact e) | fail "stop"
set_option maxHeartbeats 400000 in
theorem s_X7_riders {Ln : Nat} {xs : Nat → Int32} {μ : jm_Mem} {Q : Option Value → jm_Mem → Prop}  (h : Q (some (.int (nI (md_rc μ 12)))) μ) : gJ Ln xs 0 mX7_riders 0 (jm_en 3 [.ref 24]) [] μ Q := by
  show jm_J rg_I (rg_X Ln xs) 0 mX7_riders 0 [some (.ref 24), none, none] [] μ Q
  refine jm_iconst (nI 0) dX7_riders_0 rfl (by decide) ?_
  refine jm_istore_n dX7_riders_1 rfl rfl rfl rfl ?_
  dsimp only [List.set]
  refine jm_iconst (nI 0) dX7_riders_2 rfl (by decide) ?_
  refine jm_istore_n dX7_riders_3 rfl rfl rfl rfl ?_
  dsimp only [List.set]
  exact l_X7_riders h 0 (by omega)
set_option maxHeartbeats 400000 in
theorem s_X7_load {Ln : Nat} {xs : Nat → Int32} {μ : jm_Mem} {Q : Option Value → jm_Mem → Prop} {j : Nat} (hj : j < 12) (h : Q (some (.int (md_ld μ j))) μ) : gJ Ln xs 0 mX7_load 0 (jm_en 2 [.ref 24, .int (nI j)]) [] μ Q := by
  show jm_J rg_I (rg_X Ln xs) 0 mX7_load 0 [some (.ref 24), some (.int (nI j))] [] μ Q
  refine jm_aload_n dX7_load_0 rfl rfl rfl ?_
  refine jm_getr dX7_load_1 rfl fe_X7_16 rfl rfl rfl ?_
  refine jm_iload_n dX7_load_4 rfl rfl rfl ?_
  refine jm_iald dX7_load_5 rfl rfl rfl (by decide) rfl (by first | assumption | omega) ?_
  refine jm_if_le (tgt := 25) dX7_load_6 (by decide) rfl (fun c6 => ?_) (fun c6 => ?_)
  · refine jm_iconst (nI 0) dX7_load_25 rfl (by decide) ?_
    refine jm_iret dX7_load_26 rfl rfl ?_
    first | exact rd_v h (if_neg c6).symm | exact rd_v h (if_pos c6).symm | fail "leaf"
  · refine jm_aload_n dX7_load_9 rfl rfl rfl ?_
    refine jm_getr dX7_load_10 rfl fe_X7_16 rfl rfl rfl ?_
    refine jm_iload_n dX7_load_13 rfl rfl rfl ?_
    refine jm_iald dX7_load_14 rfl rfl rfl (by decide) rfl (by first | assumption | omega) ?_
    refine jm_aload_n dX7_load_15 rfl rfl rfl ?_
    refine jm_getr dX7_load_16 rfl fe_X7_19 rfl rfl rfl ?_
    refine jm_iload_n dX7_load_19 rfl rfl rfl ?_
    refine jm_iald dX7_load_20 rfl rfl rfl (by decide) rfl (by first | assumption | omega) ?_
    refine jm_iadd dX7_load_21 rfl ?_
    refine jm_goto (n := 26) dX7_load_22 (by decide) ?_
    refine jm_iret dX7_load_26 rfl rfl ?_
    first | exact rd_v h (if_neg c6).symm | exact rd_v h (if_pos c6).symm | fail "leaf"
set_option maxHeartbeats 1000000 in
theorem l_X7_shakeOf {Ln : Nat} {xs : Nat → Int32} {μ : jm_Mem} {Q : Option Value → jm_Mem → Prop}  (h : Q (some (.int (md_sh μ))) μ) : ∀ i, i ≤ 12 → jm_J rg_I (rg_X Ln xs) 1 mX7_shakeOf 6 [some (.ref 24), some (.int (rg_S (md_ld μ) (μ 25) i)), some (.int (rg_S (md_ld μ) (μ 26) i)), some (.int (nI i))] [] μ Q := by
  refine jm_for 12 ?_ ?_
  · skip
    refine jm_iload_n dX7_shakeOf_6 rfl rfl rfl ?_
    refine jm_bipush (nI 12) dX7_shakeOf_7 rfl (by decide) ?_
    refine jm_icmp_ge (tgt := 48) dX7_shakeOf_9 (by decide) rfl (fun c9 => ?_) (fun c9 => absurd ((nI_leI (by omega) (by omega)).mpr (Nat.le_refl _)) c9)
    refine jm_iload_n dX7_shakeOf_48 rfl rfl rfl ?_
    refine jm_iload_n dX7_shakeOf_49 rfl rfl rfl ?_
    refine jm_imul dX7_shakeOf_50 rfl ?_
    refine jm_iload_n dX7_shakeOf_51 rfl rfl rfl ?_
    refine jm_iload_n dX7_shakeOf_52 rfl rfl rfl ?_
    refine jm_imul dX7_shakeOf_53 rfl ?_
    refine jm_iadd dX7_shakeOf_54 rfl ?_
    refine jm_iret dX7_shakeOf_55 rfl rfl ?_
    exact h
  · intro i hi ih 
    refine jm_iload_n dX7_shakeOf_6 rfl rfl rfl ?_
    refine jm_bipush (nI 12) dX7_shakeOf_7 rfl (by decide) ?_
    refine jm_icmp_ge (tgt := 48) dX7_shakeOf_9 (by decide) rfl (fun c9 => absurd ((nI_leI (by omega) (by omega)).mp c9) (by omega)) (fun c9 => ?_)
    refine jm_iload_n dX7_shakeOf_12 rfl rfl rfl ?_
    refine jm_aload_n dX7_shakeOf_13 rfl rfl rfl ?_
    refine jm_iload_n dX7_shakeOf_14 rfl rfl rfl ?_
    refine jm_cV1 dX7_shakeOf_15 rfl cb_X7_94 ci_X7_load cv_X7_load rfl rfl rfl (Nat.le_of_ble_eq_true rfl) (Nat.le_of_ble_eq_true rfl) (by decide) (s_X7_load hi ?_)
    refine jm_aload_n dX7_shakeOf_18 rfl rfl rfl ?_
    refine jm_getr dX7_shakeOf_19 rfl fe_X7_7 rfl rfl rfl ?_
    refine jm_iload_n dX7_shakeOf_22 rfl rfl rfl ?_
    refine jm_iald dX7_shakeOf_23 rfl rfl rfl (by decide) rfl (by first | assumption | omega) ?_
    refine jm_imul dX7_shakeOf_24 rfl ?_
    refine jm_iadd dX7_shakeOf_25 rfl ?_
    refine jm_istore_n dX7_shakeOf_26 rfl rfl rfl rfl ?_
    dsimp only [List.set]
    refine jm_iload_n dX7_shakeOf_27 rfl rfl rfl ?_
    refine jm_aload_n dX7_shakeOf_28 rfl rfl rfl ?_
    refine jm_iload_n dX7_shakeOf_29 rfl rfl rfl ?_
    refine jm_cV1 dX7_shakeOf_30 rfl cb_X7_94 ci_X7_load cv_X7_load rfl rfl rfl (Nat.le_of_ble_eq_true rfl) (Nat.le_of_ble_eq_true rfl) (by decide) (s_X7_load hi ?_)
    refine jm_aload_n dX7_shakeOf_33 rfl rfl rfl ?_
    refine jm_getr dX7_shakeOf_34 rfl fe_X7_13 rfl rfl rfl ?_
    refine jm_iload_n dX7_shakeOf_37 rfl rfl rfl ?_
    refine jm_iald dX7_shakeOf_38 rfl rfl rfl (by decide) rfl (by first | assumption | omega) ?_
    refine jm_imul dX7_shakeOf_39 rfl ?_
    refine jm_iadd dX7_shakeOf_40 rfl ?_
    refine jm_istore_n dX7_shakeOf_41 rfl rfl rfl rfl ?_
    dsimp only [List.set]
    refine jm_iinc (nI 1) dX7_shakeOf_42 rfl rfl (by decide) rfl rfl ?_
    dsimp only [List.set]
    refine jm_goto (n := 6) dX7_shakeOf_45 (by decide) ?_
    rw [nI_add]; exact ih
set_option maxHeartbeats 400000 in
theorem s_X7_shakeOf {Ln : Nat} {xs : Nat → Int32} {μ : jm_Mem} {Q : Option Value → jm_Mem → Prop}  (h : Q (some (.int (md_sh μ))) μ) : gJ Ln xs 1 mX7_shakeOf 0 (jm_en 4 [.ref 24]) [] μ Q := by
  show jm_J rg_I (rg_X Ln xs) 1 mX7_shakeOf 0 [some (.ref 24), none, none, none] [] μ Q
  refine jm_iconst (nI 0) dX7_shakeOf_0 rfl (by decide) ?_
  refine jm_istore_n dX7_shakeOf_1 rfl rfl rfl rfl ?_
  dsimp only [List.set]
  refine jm_iconst (nI 0) dX7_shakeOf_2 rfl (by decide) ?_
  refine jm_istore_n dX7_shakeOf_3 rfl rfl rfl rfl ?_
  dsimp only [List.set]
  refine jm_iconst (nI 0) dX7_shakeOf_4 rfl (by decide) ?_
  refine jm_istore_n dX7_shakeOf_5 rfl rfl rfl rfl ?_
  dsimp only [List.set]
  exact l_X7_shakeOf h 0 (by omega)
set_option maxHeartbeats 1000000 in
theorem l_X7_risingOf {Ln : Nat} {xs : Nat → Int32} {μ : jm_Mem} {Q : Option Value → jm_Mem → Prop}  (h : Q (some (.int (md_rs μ 12))) μ) : ∀ i, i ≤ 12 → jm_J rg_I (rg_X Ln xs) 1 mX7_risingOf 4 [some (.ref 24), some (.int (md_rs μ i)), some (.int (nI i))] [] μ Q := by
  refine jm_for 12 ?_ ?_
  · skip
    refine jm_iload_n dX7_risingOf_4 rfl rfl rfl ?_
    refine jm_bipush (nI 12) dX7_risingOf_5 rfl (by decide) ?_
    refine jm_icmp_ge (tgt := 39) dX7_risingOf_7 (by decide) rfl (fun c7 => ?_) (fun c7 => absurd ((nI_leI (by omega) (by omega)).mpr (Nat.le_refl _)) c7)
    refine jm_iload_n dX7_risingOf_39 rfl rfl rfl ?_
    refine jm_iret dX7_risingOf_40 rfl rfl ?_
    exact h
  · intro i hi ih 
    refine jm_iload_n dX7_risingOf_4 rfl rfl rfl ?_
    refine jm_bipush (nI 12) dX7_risingOf_5 rfl (by decide) ?_
    refine jm_icmp_ge (tgt := 39) dX7_risingOf_7 (by decide) rfl (fun c7 => absurd ((nI_leI (by omega) (by omega)).mp c7) (by omega)) (fun c7 => ?_)
    refine jm_iload_n dX7_risingOf_10 rfl rfl rfl ?_
    refine jm_iload_n dX7_risingOf_11 rfl rfl rfl ?_
    refine jm_iconst (nI 2) dX7_risingOf_12 rfl (by decide) ?_
    refine jm_irem dX7_risingOf_13 rfl (by decide) ?_
    rw [pk_rem (by omega) (by decide) (by decide)]
    refine jm_if_ne (tgt := 25) dX7_risingOf_14 (by decide) rfl (fun c14 => ?_) (fun c14 => ?_)
    · refine jm_aload_n dX7_risingOf_25 rfl rfl rfl ?_
      refine jm_iload_n dX7_risingOf_26 rfl rfl rfl ?_
      refine jm_cV1 dX7_risingOf_27 rfl cb_X7_94 ci_X7_load cv_X7_load rfl rfl rfl (Nat.le_of_ble_eq_true rfl) (Nat.le_of_ble_eq_true rfl) (by decide) (s_X7_load hi ?_)
      refine jm_ineg dX7_risingOf_30 rfl ?_
      refine jm_iadd dX7_risingOf_31 rfl ?_
      refine jm_istore_n dX7_risingOf_32 rfl rfl rfl rfl ?_
      dsimp only [List.set]
      refine jm_iinc (nI 1) dX7_risingOf_33 rfl rfl (by decide) rfl rfl ?_
      dsimp only [List.set]
      refine jm_goto (n := 4) dX7_risingOf_36 (by decide) ?_
      rw [nI_add]
      first | (have e := ih; simp only [md_rs, rg_lift, if_pos ((nI_eq (a := i % 2) (b := 0) (by omega) (by omega)).mp c14)] at e; exact e) | (have e := ih; simp only [md_rs, rg_lift, if_neg (fun h => c14 (congrArg nI h))] at e; exact e) | fail "stop"
    · refine jm_aload_n dX7_risingOf_17 rfl rfl rfl ?_
      refine jm_iload_n dX7_risingOf_18 rfl rfl rfl ?_
      refine jm_cV1 dX7_risingOf_19 rfl cb_X7_94 ci_X7_load cv_X7_load rfl rfl rfl (Nat.le_of_ble_eq_true rfl) (Nat.le_of_ble_eq_true rfl) (by decide) (s_X7_load hi ?_)
      refine jm_goto (n := 31) dX7_risingOf_22 (by decide) ?_
      refine jm_iadd dX7_risingOf_31 rfl ?_
      refine jm_istore_n dX7_risingOf_32 rfl rfl rfl rfl ?_
      dsimp only [List.set]
      refine jm_iinc (nI 1) dX7_risingOf_33 rfl rfl (by decide) rfl rfl ?_
      dsimp only [List.set]
      refine jm_goto (n := 4) dX7_risingOf_36 (by decide) ?_
      rw [nI_add]
      first | (have e := ih; simp only [md_rs, rg_lift, if_pos ((nI_eq (a := i % 2) (b := 0) (by omega) (by omega)).mp c14)] at e; exact e) | (have e := ih; simp only [md_rs, rg_lift, if_neg (fun h => c14 (congrArg nI h))] at e; exact e) | fail "stop"
set_option maxHeartbeats 400000 in
theorem s_X7_risingOf {Ln : Nat} {xs : Nat → Int32} {μ : jm_Mem} {Q : Option Value → jm_Mem → Prop}  (h : Q (some (.int (md_rs μ 12))) μ) : gJ Ln xs 1 mX7_risingOf 0 (jm_en 3 [.ref 24]) [] μ Q := by
  show jm_J rg_I (rg_X Ln xs) 1 mX7_risingOf 0 [some (.ref 24), none, none] [] μ Q
  refine jm_iconst (nI 0) dX7_risingOf_0 rfl (by decide) ?_
  refine jm_istore_n dX7_risingOf_1 rfl rfl rfl rfl ?_
  dsimp only [List.set]
  refine jm_iconst (nI 0) dX7_risingOf_2 rfl (by decide) ?_
  refine jm_istore_n dX7_risingOf_3 rfl rfl rfl rfl ?_
  dsimp only [List.set]
  exact l_X7_risingOf h 0 (by omega)
set_option maxHeartbeats 400000 in
theorem s_X7_mayTurn {Ln : Nat} {xs : Nat → Int32} {μ : jm_Mem} {Q : Option Value → jm_Mem → Prop}  (h1 : md_law μ → Q (some (.int 1)) μ) (h0 : ¬ md_law μ → Q (some (.int 0)) μ) : gJ Ln xs 2 mX7_mayTurn 0 (jm_en 2 [.ref 24]) [] μ Q := by
  show jm_J rg_I (rg_X Ln xs) 2 mX7_mayTurn 0 [some (.ref 24), none] [] μ Q
  refine jm_aload_n dX7_mayTurn_0 rfl rfl rfl ?_
  refine jm_cV0 dX7_mayTurn_1 rfl cb_X7_98 ci_X7_risingOf cv_X7_risingOf rfl rfl rfl (Nat.le_of_ble_eq_true rfl) (Nat.le_of_ble_eq_true rfl) (by decide) (s_X7_risingOf ?_)
  refine jm_istore_n dX7_mayTurn_4 rfl rfl rfl rfl ?_
  dsimp only [List.set]
  refine jm_aload_n dX7_mayTurn_5 rfl rfl rfl ?_
  refine jm_cV0 dX7_mayTurn_6 rfl cb_X7_101 ci_X7_shakeOf cv_X7_shakeOf rfl rfl rfl (Nat.le_of_ble_eq_true rfl) (Nat.le_of_ble_eq_true rfl) (by decide) (s_X7_shakeOf ?_)
  refine jm_aload_n dX7_mayTurn_9 rfl rfl rfl ?_
  refine jm_geti dX7_mayTurn_10 rfl fe_X7_59 rfl rfl rfl ?_
  refine jm_aload_n dX7_mayTurn_13 rfl rfl rfl ?_
  refine jm_geti dX7_mayTurn_14 rfl fe_X7_59 rfl rfl rfl ?_
  refine jm_imul dX7_mayTurn_17 rfl ?_
  refine jm_icmp_gt (tgt := 42) dX7_mayTurn_18 (by decide) rfl (fun c18 => ?_) (fun c18 => ?_)
  · refine jm_iconst (nI 0) dX7_mayTurn_42 rfl (by decide) ?_
    refine jm_iret dX7_mayTurn_43 rfl rfl ?_
    first | exact h1 ⟨Int32.not_lt.mp c18, Int32.not_lt.mp c26, Int32.not_lt.mp c35⟩ | exact h0 (fun h => absurd h.1 (Int32.not_le.mpr c18)) | exact h0 (fun h => absurd h.2.1 (Int32.not_le.mpr c26)) | exact h0 (fun h => absurd h.2.2 (Int32.not_le.mpr c35)) | fail "leaf"
  · refine jm_iload_n dX7_mayTurn_21 rfl rfl rfl ?_
    refine jm_aload_n dX7_mayTurn_22 rfl rfl rfl ?_
    refine jm_geti dX7_mayTurn_23 rfl fe_X7_63 rfl rfl rfl ?_
    refine jm_icmp_gt (tgt := 42) dX7_mayTurn_26 (by decide) rfl (fun c26 => ?_) (fun c26 => ?_)
    · refine jm_iconst (nI 0) dX7_mayTurn_42 rfl (by decide) ?_
      refine jm_iret dX7_mayTurn_43 rfl rfl ?_
      first | exact h1 ⟨Int32.not_lt.mp c18, Int32.not_lt.mp c26, Int32.not_lt.mp c35⟩ | exact h0 (fun h => absurd h.1 (Int32.not_le.mpr c18)) | exact h0 (fun h => absurd h.2.1 (Int32.not_le.mpr c26)) | exact h0 (fun h => absurd h.2.2 (Int32.not_le.mpr c35)) | fail "leaf"
    · refine jm_iload_n dX7_mayTurn_29 rfl rfl rfl ?_
      refine jm_ineg dX7_mayTurn_30 rfl ?_
      refine jm_aload_n dX7_mayTurn_31 rfl rfl rfl ?_
      refine jm_geti dX7_mayTurn_32 rfl fe_X7_63 rfl rfl rfl ?_
      refine jm_icmp_gt (tgt := 42) dX7_mayTurn_35 (by decide) rfl (fun c35 => ?_) (fun c35 => ?_)
      · refine jm_iconst (nI 0) dX7_mayTurn_42 rfl (by decide) ?_
        refine jm_iret dX7_mayTurn_43 rfl rfl ?_
        first | exact h1 ⟨Int32.not_lt.mp c18, Int32.not_lt.mp c26, Int32.not_lt.mp c35⟩ | exact h0 (fun h => absurd h.1 (Int32.not_le.mpr c18)) | exact h0 (fun h => absurd h.2.1 (Int32.not_le.mpr c26)) | exact h0 (fun h => absurd h.2.2 (Int32.not_le.mpr c35)) | fail "leaf"
      · refine jm_iconst (nI 1) dX7_mayTurn_38 rfl (by decide) ?_
        refine jm_goto (n := 43) dX7_mayTurn_39 (by decide) ?_
        refine jm_iret dX7_mayTurn_43 rfl rfl ?_
        first | exact h1 ⟨Int32.not_lt.mp c18, Int32.not_lt.mp c26, Int32.not_lt.mp c35⟩ | exact h0 (fun h => absurd h.1 (Int32.not_le.mpr c18)) | exact h0 (fun h => absurd h.2.1 (Int32.not_le.mpr c26)) | exact h0 (fun h => absurd h.2.2 (Int32.not_le.mpr c35)) | fail "leaf"
set_option maxHeartbeats 400000 in
theorem s_X7_isBlocked {Ln : Nat} {xs : Nat → Int32} {μ : jm_Mem} {Q : Option Value → jm_Mem → Prop} {j : Nat} {w : Int32} (hj : j < 12) (hz : μ 28 j = 0) (h1 : ¬ md_law (jm_set μ 28 j w) → Q (some (.int 1)) μ) (h0 : md_law (jm_set μ 28 j w) → Q (some (.int 0)) μ) : gJ Ln xs 3 mX7_isBlocked 0 (jm_en 4 [.ref 24, .int (nI j), .int w]) [] μ Q := by
  show jm_J rg_I (rg_X Ln xs) 3 mX7_isBlocked 0 [some (.ref 24), some (.int (nI j)), some (.int w), none] [] μ Q
  refine jm_aload_n dX7_isBlocked_0 rfl rfl rfl ?_
  refine jm_getr dX7_isBlocked_1 rfl fe_X7_19 rfl rfl rfl ?_
  refine jm_iload_n dX7_isBlocked_4 rfl rfl rfl ?_
  refine jm_iload_n dX7_isBlocked_5 rfl rfl rfl ?_
  refine jm_iast dX7_isBlocked_6 rfl rfl rfl (by decide) rfl (by first | assumption | omega) ?_
  refine jm_aload_n dX7_isBlocked_7 rfl rfl rfl ?_
  refine jm_cV0 dX7_isBlocked_8 rfl cb_X7_104 ci_X7_mayTurn cv_X7_mayTurn rfl rfl rfl (Nat.le_of_ble_eq_true rfl) (Nat.le_of_ble_eq_true rfl) (by decide) (s_X7_mayTurn (fun cl => ?_) (fun cl => ?_))
  · refine jm_istore_n dX7_isBlocked_11 rfl rfl rfl rfl ?_
    dsimp only [List.set]
    refine jm_aload_n dX7_isBlocked_12 rfl rfl rfl ?_
    refine jm_getr dX7_isBlocked_13 rfl fe_X7_19 rfl rfl rfl ?_
    refine jm_iload_n dX7_isBlocked_16 rfl rfl rfl ?_
    refine jm_iconst (nI 0) dX7_isBlocked_17 rfl (by decide) ?_
    refine jm_iast dX7_isBlocked_18 rfl rfl rfl (by decide) rfl (by first | assumption | omega) ?_
    refine jm_iload_n dX7_isBlocked_19 rfl rfl rfl ?_
    refine jm_if_ne (tgt := 27) dX7_isBlocked_20 (by decide) rfl (fun c20 => ?_) (fun c20 => absurd c20 (by decide))
    refine jm_iconst (nI 0) dX7_isBlocked_27 rfl (by decide) ?_
    refine jm_iret dX7_isBlocked_28 rfl rfl ?_
    first | (refine rd_q (h1 cl) (rd_back hz)) | (refine rd_q (h0 cl) (rd_back hz)) | fail "leaf"
  · refine jm_istore_n dX7_isBlocked_11 rfl rfl rfl rfl ?_
    dsimp only [List.set]
    refine jm_aload_n dX7_isBlocked_12 rfl rfl rfl ?_
    refine jm_getr dX7_isBlocked_13 rfl fe_X7_19 rfl rfl rfl ?_
    refine jm_iload_n dX7_isBlocked_16 rfl rfl rfl ?_
    refine jm_iconst (nI 0) dX7_isBlocked_17 rfl (by decide) ?_
    refine jm_iast dX7_isBlocked_18 rfl rfl rfl (by decide) rfl (by first | assumption | omega) ?_
    refine jm_iload_n dX7_isBlocked_19 rfl rfl rfl ?_
    refine jm_if_ne (tgt := 27) dX7_isBlocked_20 (by decide) rfl (fun c20 => absurd c20 (by decide)) (fun c20 => ?_)
    refine jm_iconst (nI 1) dX7_isBlocked_23 rfl (by decide) ?_
    refine jm_goto (n := 28) dX7_isBlocked_24 (by decide) ?_
    refine jm_iret dX7_isBlocked_28 rfl rfl ?_
    first | (refine rd_q (h1 cl) (rd_back hz)) | (refine rd_q (h0 cl) (rd_back hz)) | fail "leaf"
set_option maxHeartbeats 400000 in
theorem s_X7_isFree {Ln : Nat} {xs : Nat → Int32} {μ : jm_Mem} {Q : Option Value → jm_Mem → Prop} {j : Nat} (hj : j < 12) (h1 : ¬ μ 27 j ≤ 0 → μ 28 j = 0 → Q (some (.int 1)) μ) (h0 : (μ 27 j ≤ 0 ∨ ¬ μ 28 j = 0) → Q (some (.int 0)) μ) : gJ Ln xs 0 mX7_isFree 0 (jm_en 2 [.ref 24, .int (nI j)]) [] μ Q := by
  show jm_J rg_I (rg_X Ln xs) 0 mX7_isFree 0 [some (.ref 24), some (.int (nI j))] [] μ Q
  refine jm_aload_n dX7_isFree_0 rfl rfl rfl ?_
  refine jm_getr dX7_isFree_1 rfl fe_X7_16 rfl rfl rfl ?_
  refine jm_iload_n dX7_isFree_4 rfl rfl rfl ?_
  refine jm_iald dX7_isFree_5 rfl rfl rfl (by decide) rfl (by first | assumption | omega) ?_
  refine jm_if_le (tgt := 22) dX7_isFree_6 (by decide) rfl (fun c6 => ?_) (fun c6 => ?_)
  · refine jm_iconst (nI 0) dX7_isFree_22 rfl (by decide) ?_
    refine jm_iret dX7_isFree_23 rfl rfl ?_
    first | exact h1 c6 c15 | exact h0 (Or.inl c6) | exact h0 (Or.inr c15) | fail "leaf"
  · refine jm_aload_n dX7_isFree_9 rfl rfl rfl ?_
    refine jm_getr dX7_isFree_10 rfl fe_X7_19 rfl rfl rfl ?_
    refine jm_iload_n dX7_isFree_13 rfl rfl rfl ?_
    refine jm_iald dX7_isFree_14 rfl rfl rfl (by decide) rfl (by first | assumption | omega) ?_
    refine jm_if_ne (tgt := 22) dX7_isFree_15 (by decide) rfl (fun c15 => ?_) (fun c15 => ?_)
    · refine jm_iconst (nI 0) dX7_isFree_22 rfl (by decide) ?_
      refine jm_iret dX7_isFree_23 rfl rfl ?_
      first | exact h1 c6 c15 | exact h0 (Or.inl c6) | exact h0 (Or.inr c15) | fail "leaf"
    · refine jm_iconst (nI 1) dX7_isFree_18 rfl (by decide) ?_
      refine jm_goto (n := 23) dX7_isFree_19 (by decide) ?_
      refine jm_iret dX7_isFree_23 rfl rfl ?_
      first | exact h1 c6 c15 | exact h0 (Or.inl c6) | exact h0 (Or.inr c15) | fail "leaf"
set_option maxHeartbeats 1000000 in
theorem l_X7_bestOf {Ln : Nat} {xs : Nat → Int32} {μ : jm_Mem} {Q : Option Value → jm_Mem → Prop} {w : Int32} (h : Q (some (.int (rg_bst (md_okw μ w) (fun j => md_sh (jm_set μ 28 j w)) 12).1)) μ) : ∀ i, i ≤ 12 → ∀ (v5 : Option Value), jm_J rg_I (rg_X Ln xs) 4 mX7_bestOf 7 [some (.ref 24), some (.int w), some (.int (rg_bst (md_okw μ w) (fun j => md_sh (jm_set μ 28 j w)) i).1), some (.int (rg_bst (md_okw μ w) (fun j => md_sh (jm_set μ 28 j w)) i).2), some (.int (nI i)), v5] [] μ Q := by
  refine jm_for 12 ?_ ?_
  · intro v5
    refine jm_iload dX7_bestOf_7 rfl rfl ?_
    refine jm_bipush (nI 12) dX7_bestOf_9 rfl (by decide) ?_
    refine jm_icmp_ge (tgt := 78) dX7_bestOf_11 (by decide) rfl (fun c11 => ?_) (fun c11 => absurd ((nI_leI (by omega) (by omega)).mpr (Nat.le_refl _)) c11)
    refine jm_iload_n dX7_bestOf_78 rfl rfl rfl ?_
    refine jm_iret dX7_bestOf_79 rfl rfl ?_
    exact h
  · intro i hi ih v5
    refine jm_iload dX7_bestOf_7 rfl rfl ?_
    refine jm_bipush (nI 12) dX7_bestOf_9 rfl (by decide) ?_
    refine jm_icmp_ge (tgt := 78) dX7_bestOf_11 (by decide) rfl (fun c11 => absurd ((nI_leI (by omega) (by omega)).mp c11) (by omega)) (fun c11 => ?_)
    refine jm_aload_n dX7_bestOf_14 rfl rfl rfl ?_
    refine jm_iload dX7_bestOf_15 rfl rfl ?_
    refine jm_cV1 dX7_bestOf_17 rfl cb_X7_121 ci_X7_isFree cv_X7_isFree rfl rfl rfl (Nat.le_of_ble_eq_true rfl) (Nat.le_of_ble_eq_true rfl) (by decide) (s_X7_isFree hi (fun ch cr => ?_) (fun cf => ?_))
    · refine jm_if_eq (tgt := 72) dX7_bestOf_20 (by decide) rfl (fun c20 => absurd c20 (by decide)) (fun c20 => ?_)
      refine jm_aload_n dX7_bestOf_23 rfl rfl rfl ?_
      refine jm_iload dX7_bestOf_24 rfl rfl ?_
      refine jm_iload_n dX7_bestOf_26 rfl rfl rfl ?_
      refine jm_cV2 dX7_bestOf_27 rfl cb_X7_113 ci_X7_isBlocked cv_X7_isBlocked rfl rfl rfl (Nat.le_of_ble_eq_true rfl) (Nat.le_of_ble_eq_true rfl) (by decide) (s_X7_isBlocked hi cr (fun cl => ?_) (fun cl => ?_))
      · have ho : md_okw μ w i = false := decide_eq_false (fun h => cl h.2.2)
        refine jm_if_ne (tgt := 72) dX7_bestOf_30 (by decide) rfl (fun c30 => ?_) (fun c30 => absurd c30 (by decide))
        refine jm_iinc (nI 1) dX7_bestOf_72 rfl rfl (by decide) rfl rfl ?_
        dsimp only [List.set]
        refine jm_goto (n := 7) dX7_bestOf_75 (by decide) ?_
        rw [nI_add]
        first | (have e := ih v5; rw [rg_bst_no ho] at e; exact e) | (have e := ih (some (.int (md_sh (jm_set μ 28 i w)))); rw [rg_bst_yes ho (Or.inl c57)] at e; exact e) | (have e := ih (some (.int (md_sh (jm_set μ 28 i w)))); rw [rg_bst_yes ho (Or.inr (Int32.not_le.mp c63))] at e; exact e) | (have e := ih (some (.int (md_sh (jm_set μ 28 i w)))); rw [rg_bst_ge c57 c63] at e; exact e) | fail "stop"
      · have ho : md_okw μ w i = true := decide_eq_true ⟨ch, cr, cl⟩
        refine jm_if_ne (tgt := 72) dX7_bestOf_30 (by decide) rfl (fun c30 => absurd c30 (by decide)) (fun c30 => ?_)
        refine jm_aload_n dX7_bestOf_33 rfl rfl rfl ?_
        refine jm_getr dX7_bestOf_34 rfl fe_X7_19 rfl rfl rfl ?_
        refine jm_iload dX7_bestOf_37 rfl rfl ?_
        refine jm_iload_n dX7_bestOf_39 rfl rfl rfl ?_
        refine jm_iast dX7_bestOf_40 rfl rfl rfl (by decide) rfl (by first | assumption | omega) ?_
        refine jm_aload_n dX7_bestOf_41 rfl rfl rfl ?_
        refine jm_cV0 dX7_bestOf_42 rfl cb_X7_101 ci_X7_shakeOf cv_X7_shakeOf rfl rfl rfl (Nat.le_of_ble_eq_true rfl) (Nat.le_of_ble_eq_true rfl) (by decide) (s_X7_shakeOf ?_)
        refine jm_istore dX7_bestOf_45 rfl rfl rfl ?_
        dsimp only [List.set]
        refine jm_aload_n dX7_bestOf_47 rfl rfl rfl ?_
        refine jm_getr dX7_bestOf_48 rfl fe_X7_19 rfl rfl rfl ?_
        refine jm_iload dX7_bestOf_51 rfl rfl ?_
        refine jm_iconst (nI 0) dX7_bestOf_53 rfl (by decide) ?_
        refine jm_iast dX7_bestOf_54 rfl rfl rfl (by decide) rfl (by first | assumption | omega) ?_
        rw [show jm_set (jm_set μ 28 i w) 28 i (nI 0) = μ from rd_back cr]
        refine jm_iload_n dX7_bestOf_55 rfl rfl rfl ?_
        refine jm_iconst (-1) dX7_bestOf_56 rfl (by decide) ?_
        refine jm_icmp_eq (tgt := 66) dX7_bestOf_57 (by decide) rfl (fun c57 => ?_) (fun c57 => ?_)
        · refine jm_iload dX7_bestOf_66 rfl rfl ?_
          refine jm_istore_n dX7_bestOf_68 rfl rfl rfl rfl ?_
          dsimp only [List.set]
          refine jm_iload dX7_bestOf_69 rfl rfl ?_
          refine jm_istore_n dX7_bestOf_71 rfl rfl rfl rfl ?_
          dsimp only [List.set]
          refine jm_iinc (nI 1) dX7_bestOf_72 rfl rfl (by decide) rfl rfl ?_
          dsimp only [List.set]
          refine jm_goto (n := 7) dX7_bestOf_75 (by decide) ?_
          rw [nI_add]
          first | (have e := ih v5; rw [rg_bst_no ho] at e; exact e) | (have e := ih (some (.int (md_sh (jm_set μ 28 i w)))); rw [rg_bst_yes ho (Or.inl c57)] at e; exact e) | (have e := ih (some (.int (md_sh (jm_set μ 28 i w)))); rw [rg_bst_yes ho (Or.inr (Int32.not_le.mp c63))] at e; exact e) | (have e := ih (some (.int (md_sh (jm_set μ 28 i w)))); rw [rg_bst_ge c57 c63] at e; exact e) | fail "stop"
        · refine jm_iload dX7_bestOf_60 rfl rfl ?_
          refine jm_iload_n dX7_bestOf_62 rfl rfl rfl ?_
          refine jm_icmp_ge (tgt := 72) dX7_bestOf_63 (by decide) rfl (fun c63 => ?_) (fun c63 => ?_)
          · refine jm_iinc (nI 1) dX7_bestOf_72 rfl rfl (by decide) rfl rfl ?_
            dsimp only [List.set]
            refine jm_goto (n := 7) dX7_bestOf_75 (by decide) ?_
            rw [nI_add]
            first | (have e := ih v5; rw [rg_bst_no ho] at e; exact e) | (have e := ih (some (.int (md_sh (jm_set μ 28 i w)))); rw [rg_bst_yes ho (Or.inl c57)] at e; exact e) | (have e := ih (some (.int (md_sh (jm_set μ 28 i w)))); rw [rg_bst_yes ho (Or.inr (Int32.not_le.mp c63))] at e; exact e) | (have e := ih (some (.int (md_sh (jm_set μ 28 i w)))); rw [rg_bst_ge c57 c63] at e; exact e) | fail "stop"
          · refine jm_iload dX7_bestOf_66 rfl rfl ?_
            refine jm_istore_n dX7_bestOf_68 rfl rfl rfl rfl ?_
            dsimp only [List.set]
            refine jm_iload dX7_bestOf_69 rfl rfl ?_
            refine jm_istore_n dX7_bestOf_71 rfl rfl rfl rfl ?_
            dsimp only [List.set]
            refine jm_iinc (nI 1) dX7_bestOf_72 rfl rfl (by decide) rfl rfl ?_
            dsimp only [List.set]
            refine jm_goto (n := 7) dX7_bestOf_75 (by decide) ?_
            rw [nI_add]
            first | (have e := ih v5; rw [rg_bst_no ho] at e; exact e) | (have e := ih (some (.int (md_sh (jm_set μ 28 i w)))); rw [rg_bst_yes ho (Or.inl c57)] at e; exact e) | (have e := ih (some (.int (md_sh (jm_set μ 28 i w)))); rw [rg_bst_yes ho (Or.inr (Int32.not_le.mp c63))] at e; exact e) | (have e := ih (some (.int (md_sh (jm_set μ 28 i w)))); rw [rg_bst_ge c57 c63] at e; exact e) | fail "stop"
    · have ho : md_okw μ w i = false := decide_eq_false (fun h => cf.elim (fun c => h.1 c) (fun c => c h.2.1))
      refine jm_if_eq (tgt := 72) dX7_bestOf_20 (by decide) rfl (fun c20 => ?_) (fun c20 => absurd c20 (by decide))
      refine jm_iinc (nI 1) dX7_bestOf_72 rfl rfl (by decide) rfl rfl ?_
      dsimp only [List.set]
      refine jm_goto (n := 7) dX7_bestOf_75 (by decide) ?_
      rw [nI_add]
      first | (have e := ih v5; rw [rg_bst_no ho] at e; exact e) | (have e := ih (some (.int (md_sh (jm_set μ 28 i w)))); rw [rg_bst_yes ho (Or.inl c57)] at e; exact e) | (have e := ih (some (.int (md_sh (jm_set μ 28 i w)))); rw [rg_bst_yes ho (Or.inr (Int32.not_le.mp c63))] at e; exact e) | (have e := ih (some (.int (md_sh (jm_set μ 28 i w)))); rw [rg_bst_ge c57 c63] at e; exact e) | fail "stop"
set_option maxHeartbeats 400000 in
theorem s_X7_bestOf {Ln : Nat} {xs : Nat → Int32} {μ : jm_Mem} {Q : Option Value → jm_Mem → Prop} {w : Int32} (h : Q (some (.int (rg_bst (md_okw μ w) (fun j => md_sh (jm_set μ 28 j w)) 12).1)) μ) : gJ Ln xs 4 mX7_bestOf 0 (jm_en 6 [.ref 24, .int w]) [] μ Q := by
  show jm_J rg_I (rg_X Ln xs) 4 mX7_bestOf 0 [some (.ref 24), some (.int w), none, none, none, none] [] μ Q
  refine jm_iconst (-1) dX7_bestOf_0 rfl (by decide) ?_
  refine jm_istore_n dX7_bestOf_1 rfl rfl rfl rfl ?_
  dsimp only [List.set]
  refine jm_iconst (nI 0) dX7_bestOf_2 rfl (by decide) ?_
  refine jm_istore_n dX7_bestOf_3 rfl rfl rfl rfl ?_
  dsimp only [List.set]
  refine jm_iconst (nI 0) dX7_bestOf_4 rfl (by decide) ?_
  refine jm_istore dX7_bestOf_5 rfl rfl rfl ?_
  dsimp only [List.set]
  exact l_X7_bestOf h 0 (by omega) none
set_option maxHeartbeats 1000000 in
theorem l_X7_horse {Ln : Nat} {xs : Nat → Int32} {μ : jm_Mem} {Q : Option Value → jm_Mem → Prop} {j : Nat} {w c : Int32} {u : jm_Mem} (hj : j < 12) (h : Q (some (.int (nI (rg_cnt (u 27) 12)))) (md_own u j 4)) : ∀ i, i ≤ 4 → jm_J rg_I (rg_X Ln xs) 2 mX7_horse 83 [some (.ref 24), some (.int (nI j)), some (.int w), some (.int c), some (.int (nI i))] [] (md_own u j i) Q := by
  refine jm_for 4 ?_ ?_
  · skip
    refine jm_iload dX7_horse_83 rfl rfl ?_
    refine jm_iconst (nI 4) dX7_horse_85 rfl (by decide) ?_
    refine jm_icmp_ge (tgt := 112) dX7_horse_86 (by decide) rfl (fun c86 => ?_) (fun c86 => absurd ((nI_leI (by omega) (by omega)).mpr (Nat.le_refl _)) c86)
    refine jm_aload_n dX7_horse_112 rfl rfl rfl ?_
    refine jm_cV0 dX7_horse_113 rfl cb_X7_87 ci_X7_horses cv_X7_horses rfl rfl rfl (Nat.le_of_ble_eq_true rfl) (Nat.le_of_ble_eq_true rfl) (by decide) (s_X7_horses ?_)
    refine jm_iret dX7_horse_116 rfl rfl ?_
    rw [md_own_na (by decide)]; exact h
  · intro i hi ih 
    refine jm_iload dX7_horse_83 rfl rfl ?_
    refine jm_iconst (nI 4) dX7_horse_85 rfl (by decide) ?_
    refine jm_icmp_ge (tgt := 112) dX7_horse_86 (by decide) rfl (fun c86 => absurd ((nI_leI (by omega) (by omega)).mp c86) (by omega)) (fun c86 => ?_)
    refine jm_aload_n dX7_horse_89 rfl rfl rfl ?_
    refine jm_getr dX7_horse_90 rfl fe_X7_28 rfl rfl rfl ?_
    refine jm_iconst (nI 4) dX7_horse_93 rfl (by decide) ?_
    refine jm_iload_n dX7_horse_94 rfl rfl rfl ?_
    refine jm_imul dX7_horse_95 rfl ?_
    refine jm_iload dX7_horse_96 rfl rfl ?_
    refine jm_iadd dX7_horse_98 rfl ?_
    refine jm_iconst (nI 4) dX7_horse_99 rfl (by decide) ?_
    refine jm_iload_n dX7_horse_100 rfl rfl rfl ?_
    refine jm_imul dX7_horse_101 rfl ?_
    refine jm_iload dX7_horse_102 rfl rfl ?_
    refine jm_iadd dX7_horse_104 rfl ?_
    refine jm_iast dX7_horse_105 rfl rfl rfl (by decide) (by rw [pk_mul, nI_add]) (by omega) ?_
    refine jm_iinc (nI 1) dX7_horse_106 rfl rfl (by decide) rfl rfl ?_
    dsimp only [List.set]
    refine jm_goto (n := 83) dX7_horse_109 (by decide) ?_
    rw [nI_add, pk_mul, nI_add]; exact ih
set_option maxHeartbeats 400000 in
theorem s_X7_horse {Ln : Nat} {xs : Nat → Int32} {μ : jm_Mem} {Q : Option Value → jm_Mem → Prop} {p w c : Int32} (h : ∀ r μ1, om_horse μ p w c r μ1 → Q (some (.int r)) μ1) : gJ Ln xs 2 mX7_horse 0 (jm_en 5 [.ref 24, .int p, .int w, .int c]) [] μ Q := by
  show jm_J rg_I (rg_X Ln xs) 2 mX7_horse 0 [some (.ref 24), some (.int p), some (.int w), some (.int c), none] [] μ Q
  refine jm_iload_n dX7_horse_0 rfl rfl rfl ?_
  refine jm_cS1 dX7_horse_1 rfl cb_X7_79 cs_X7_isPlace (Nat.le_of_ble_eq_true rfl) (Nat.le_of_ble_eq_true rfl) (by decide) (s_X7_isPlace (fun j hj e => ?_) (fun c0 => ?_))
  · subst e
    refine jm_if_ne (tgt := 10) dX7_horse_4 (by decide) rfl (fun c4 => ?_) (fun c4 => absurd c4 (by decide))
    refine jm_iload_n dX7_horse_10 rfl rfl rfl ?_
    refine jm_i2l dX7_horse_11 rfl ?_
    refine jm_lconst 1 dX7_horse_12 rfl (by decide) ?_
    refine jm_ldc2 200 dX7_horse_13 rfl kc_X7_83 ?_
    refine jm_cS3 dX7_horse_16 rfl cb_X7_75 cs_X7_in (Nat.le_of_ble_eq_true rfl) (Nat.le_of_ble_eq_true rfl) (by decide) (s_X7_in w (nI 1) (nI 200) rfl (by decide) (by decide) (fun a16 b16 => ?_) (fun c16 => ?_))
    · refine jm_if_eq (tgt := 34) dX7_horse_19 (by decide) rfl (fun c19 => absurd c19 (by decide)) (fun c19 => ?_)
      refine jm_iload_n dX7_horse_22 rfl rfl rfl ?_
      refine jm_i2l dX7_horse_23 rfl ?_
      refine jm_lconst 0 dX7_horse_24 rfl (by decide) ?_
      refine jm_ldc2 99 dX7_horse_25 rfl kc_X7_85 ?_
      refine jm_cS3 dX7_horse_28 rfl cb_X7_75 cs_X7_in (Nat.le_of_ble_eq_true rfl) (Nat.le_of_ble_eq_true rfl) (by decide) (s_X7_in c (nI 0) (nI 99) rfl (by decide) (by decide) (fun a28 b28 => ?_) (fun c28 => ?_))
      · refine jm_if_ne (tgt := 37) dX7_horse_31 (by decide) rfl (fun c31 => ?_) (fun c31 => absurd c31 (by decide))
        refine jm_aload_n dX7_horse_37 rfl rfl rfl ?_
        refine jm_getr dX7_horse_38 rfl fe_X7_16 rfl rfl rfl ?_
        refine jm_iload_n dX7_horse_41 rfl rfl rfl ?_
        refine jm_iald dX7_horse_42 rfl rfl rfl (by decide) rfl (by first | assumption | omega) ?_
        refine jm_if_le (tgt := 49) dX7_horse_43 (by decide) rfl (fun c43 => ?_) (fun c43 => ?_)
        · refine jm_aload_n dX7_horse_49 rfl rfl rfl ?_
          refine jm_getr dX7_horse_50 rfl fe_X7_16 rfl rfl rfl ?_
          refine jm_iload_n dX7_horse_53 rfl rfl rfl ?_
          refine jm_iload_n dX7_horse_54 rfl rfl rfl ?_
          refine jm_iast dX7_horse_55 rfl rfl rfl (by decide) rfl (by first | assumption | omega) ?_
          refine jm_aload_n dX7_horse_56 rfl rfl rfl ?_
          refine jm_getr dX7_horse_57 rfl fe_X7_19 rfl rfl rfl ?_
          refine jm_iload_n dX7_horse_60 rfl rfl rfl ?_
          refine jm_iconst (nI 0) dX7_horse_61 rfl (by decide) ?_
          refine jm_iast dX7_horse_62 rfl rfl rfl (by decide) rfl (by first | assumption | omega) ?_
          refine jm_aload_n dX7_horse_63 rfl rfl rfl ?_
          refine jm_getr dX7_horse_64 rfl fe_X7_22 rfl rfl rfl ?_
          refine jm_iload_n dX7_horse_67 rfl rfl rfl ?_
          refine jm_iconst (nI 1) dX7_horse_68 rfl (by decide) ?_
          refine jm_iast dX7_horse_69 rfl rfl rfl (by decide) rfl (by first | assumption | omega) ?_
          refine jm_aload_n dX7_horse_70 rfl rfl rfl ?_
          refine jm_getr dX7_horse_71 rfl fe_X7_25 rfl rfl rfl ?_
          refine jm_bipush (nI 8) dX7_horse_74 rfl (by decide) ?_
          refine jm_iload_n dX7_horse_76 rfl rfl rfl ?_
          refine jm_imul dX7_horse_77 rfl ?_
          refine jm_iload_n dX7_horse_78 rfl rfl rfl ?_
          refine jm_iast dX7_horse_79 rfl rfl rfl (by decide) (by rw [pk_mul]) (by omega) ?_
          refine jm_iconst (nI 0) dX7_horse_80 rfl (by decide) ?_
          refine jm_istore dX7_horse_81 rfl rfl rfl ?_
          dsimp only [List.set]
          refine l_X7_horse (μ := μ) (u := jm_set (jm_set (jm_set (jm_set μ 27 j w) 28 j 0) 29 j 1) 30 (8 * j) c) hj ?_ 0 (by omega)
          refine h _ _ (Or.inr ⟨j, hj, rfl, Or.inr ⟨⟨a16, b16⟩, ⟨a28, b28⟩, Or.inr ⟨c43, ?_, rfl⟩⟩⟩)
          rw [jm_set_ne 27 (by decide), jm_set_ne 27 (by decide), jm_set_ne 27 (by decide)]
        · refine jm_bipush (-103) dX7_horse_46 rfl (by decide) ?_
          refine jm_iret dX7_horse_48 rfl rfl ?_
          refine h _ _ ?_
          first | exact Or.inl ⟨c0, rfl, rfl⟩ | exact Or.inr ⟨j, hj, rfl, Or.inl ⟨Or.inl c16, rfl, rfl⟩⟩ | exact Or.inr ⟨j, hj, rfl, Or.inl ⟨Or.inr c28, rfl, rfl⟩⟩ | exact Or.inr ⟨j, hj, rfl, Or.inr ⟨⟨a16, b16⟩, ⟨a28, b28⟩, Or.inl ⟨c43, rfl, rfl⟩⟩⟩ | fail "leaf"
      · refine jm_if_ne (tgt := 37) dX7_horse_31 (by decide) rfl (fun c31 => absurd c31 (by decide)) (fun c31 => ?_)
        refine jm_bipush (-102) dX7_horse_34 rfl (by decide) ?_
        refine jm_iret dX7_horse_36 rfl rfl ?_
        refine h _ _ ?_
        first | exact Or.inl ⟨c0, rfl, rfl⟩ | exact Or.inr ⟨j, hj, rfl, Or.inl ⟨Or.inl c16, rfl, rfl⟩⟩ | exact Or.inr ⟨j, hj, rfl, Or.inl ⟨Or.inr c28, rfl, rfl⟩⟩ | exact Or.inr ⟨j, hj, rfl, Or.inr ⟨⟨a16, b16⟩, ⟨a28, b28⟩, Or.inl ⟨c43, rfl, rfl⟩⟩⟩ | fail "leaf"
    · refine jm_if_eq (tgt := 34) dX7_horse_19 (by decide) rfl (fun c19 => ?_) (fun c19 => absurd c19 (by decide))
      refine jm_bipush (-102) dX7_horse_34 rfl (by decide) ?_
      refine jm_iret dX7_horse_36 rfl rfl ?_
      refine h _ _ ?_
      first | exact Or.inl ⟨c0, rfl, rfl⟩ | exact Or.inr ⟨j, hj, rfl, Or.inl ⟨Or.inl c16, rfl, rfl⟩⟩ | exact Or.inr ⟨j, hj, rfl, Or.inl ⟨Or.inr c28, rfl, rfl⟩⟩ | exact Or.inr ⟨j, hj, rfl, Or.inr ⟨⟨a16, b16⟩, ⟨a28, b28⟩, Or.inl ⟨c43, rfl, rfl⟩⟩⟩ | fail "leaf"
  · refine jm_if_ne (tgt := 10) dX7_horse_4 (by decide) rfl (fun c4 => absurd c4 (by decide)) (fun c4 => ?_)
    refine jm_bipush (-101) dX7_horse_7 rfl (by decide) ?_
    refine jm_iret dX7_horse_9 rfl rfl ?_
    refine h _ _ ?_
    first | exact Or.inl ⟨c0, rfl, rfl⟩ | exact Or.inr ⟨j, hj, rfl, Or.inl ⟨Or.inl c16, rfl, rfl⟩⟩ | exact Or.inr ⟨j, hj, rfl, Or.inl ⟨Or.inr c28, rfl, rfl⟩⟩ | exact Or.inr ⟨j, hj, rfl, Or.inr ⟨⟨a16, b16⟩, ⟨a28, b28⟩, Or.inl ⟨c43, rfl, rfl⟩⟩⟩ | fail "leaf"
set_option maxHeartbeats 1000000 in
theorem l_X7_leave0 {Ln : Nat} {xs : Nat → Int32} {μ : jm_Mem} {Q : Option Value → jm_Mem → Prop} {j : Nat} (hj : j < 12) (h : Q (some (.int (-103))) μ) : ∀ i, i ≤ 4 → jm_J rg_I (rg_X Ln xs) 3 mX7_leave 28 [some (.ref 24), some (.int (nI j)), some (.int (nI 0)), some (.int (nI i))] [] μ Q := by
  refine jm_for 4 ?_ ?_
  · skip
    refine jm_iload_n dX7_leave_28 rfl rfl rfl ?_
    refine jm_iconst (nI 4) dX7_leave_29 rfl (by decide) ?_
    refine jm_icmp_ge (tgt := 67) dX7_leave_30 (by decide) rfl (fun c30 => ?_) (fun c30 => absurd ((nI_leI (by omega) (by omega)).mpr (Nat.le_refl _)) c30)
    refine jm_iload_n dX7_leave_67 rfl rfl rfl ?_
    refine jm_if_ne (tgt := 74) dX7_leave_68 (by decide) rfl (fun c68 => absurd c68 (by decide)) (fun c68 => ?_)
    refine jm_bipush (-103) dX7_leave_71 rfl (by decide) ?_
    refine jm_iret dX7_leave_73 rfl rfl ?_
    exact h
  · intro i hi ih 
    refine jm_iload_n dX7_leave_28 rfl rfl rfl ?_
    refine jm_iconst (nI 4) dX7_leave_29 rfl (by decide) ?_
    refine jm_icmp_ge (tgt := 67) dX7_leave_30 (by decide) rfl (fun c30 => absurd ((nI_leI (by omega) (by omega)).mp c30) (by omega)) (fun c30 => ?_)
    refine jm_iload_n dX7_leave_33 rfl rfl rfl ?_
    refine jm_if_eq (tgt := 59) dX7_leave_34 (by decide) rfl (fun c34 => ?_) (fun c34 => absurd c34 (by decide))
    refine jm_iconst (nI 0) dX7_leave_59 rfl (by decide) ?_
    refine jm_istore_n dX7_leave_60 rfl rfl rfl rfl ?_
    dsimp only [List.set]
    refine jm_iinc (nI 1) dX7_leave_61 rfl rfl (by decide) rfl rfl ?_
    dsimp only [List.set]
    refine jm_goto (n := 28) dX7_leave_64 (by decide) ?_
    rw [nI_add]; exact ih
set_option maxHeartbeats 1000000 in
theorem l_X7_leave1 {Ln : Nat} {xs : Nat → Int32} {μ : jm_Mem} {Q : Option Value → jm_Mem → Prop} {j : Nat} (hj : j < 12) (h0 : (∃ i, i < 4 ∧ ¬ μ 31 (4 * j + i) = nI (4 * j + i)) → Q (some (.int (-103))) μ) (h1 : (∀ i, i < 4 → μ 31 (4 * j + i) = nI (4 * j + i)) → Q (some (.int (μ 27 j))) (jm_set μ 27 j 0)) : ∀ i, i ≤ 4 → ∀ (hb : ∀ i2, i2 < i → μ 31 (4 * j + i2) = nI (4 * j + i2)), jm_J rg_I (rg_X Ln xs) 3 mX7_leave 28 [some (.ref 24), some (.int (nI j)), some (.int (nI 1)), some (.int (nI i))] [] μ Q := by
  refine jm_for 4 ?_ ?_
  · intro hb
    refine jm_iload_n dX7_leave_28 rfl rfl rfl ?_
    refine jm_iconst (nI 4) dX7_leave_29 rfl (by decide) ?_
    refine jm_icmp_ge (tgt := 67) dX7_leave_30 (by decide) rfl (fun c30 => ?_) (fun c30 => absurd ((nI_leI (by omega) (by omega)).mpr (Nat.le_refl _)) c30)
    refine jm_iload_n dX7_leave_67 rfl rfl rfl ?_
    refine jm_if_ne (tgt := 74) dX7_leave_68 (by decide) rfl (fun c68 => ?_) (fun c68 => absurd c68 (by decide))
    refine jm_aload_n dX7_leave_74 rfl rfl rfl ?_
    refine jm_getr dX7_leave_75 rfl fe_X7_16 rfl rfl rfl ?_
    refine jm_iload_n dX7_leave_78 rfl rfl rfl ?_
    refine jm_iald dX7_leave_79 rfl rfl rfl (by decide) rfl (by first | assumption | omega) ?_
    refine jm_istore_n dX7_leave_80 rfl rfl rfl rfl ?_
    dsimp only [List.set]
    refine jm_aload_n dX7_leave_81 rfl rfl rfl ?_
    refine jm_getr dX7_leave_82 rfl fe_X7_16 rfl rfl rfl ?_
    refine jm_iload_n dX7_leave_85 rfl rfl rfl ?_
    refine jm_iconst (nI 0) dX7_leave_86 rfl (by decide) ?_
    refine jm_iast dX7_leave_87 rfl rfl rfl (by decide) rfl (by first | assumption | omega) ?_
    refine jm_iload_n dX7_leave_88 rfl rfl rfl ?_
    refine jm_iret dX7_leave_89 rfl rfl ?_
    exact h1 hb
  · intro i hi ih hb
    refine jm_iload_n dX7_leave_28 rfl rfl rfl ?_
    refine jm_iconst (nI 4) dX7_leave_29 rfl (by decide) ?_
    refine jm_icmp_ge (tgt := 67) dX7_leave_30 (by decide) rfl (fun c30 => absurd ((nI_leI (by omega) (by omega)).mp c30) (by omega)) (fun c30 => ?_)
    refine jm_iload_n dX7_leave_33 rfl rfl rfl ?_
    refine jm_if_eq (tgt := 59) dX7_leave_34 (by decide) rfl (fun c34 => absurd c34 (by decide)) (fun c34 => ?_)
    refine jm_aload_n dX7_leave_37 rfl rfl rfl ?_
    refine jm_getr dX7_leave_38 rfl fe_X7_28 rfl rfl rfl ?_
    refine jm_iconst (nI 4) dX7_leave_41 rfl (by decide) ?_
    refine jm_iload_n dX7_leave_42 rfl rfl rfl ?_
    refine jm_imul dX7_leave_43 rfl ?_
    refine jm_iload_n dX7_leave_44 rfl rfl rfl ?_
    refine jm_iadd dX7_leave_45 rfl ?_
    refine jm_iald dX7_leave_46 rfl rfl rfl (by decide) (by rw [pk_mul, nI_add]) (by omega) ?_
    refine jm_iconst (nI 4) dX7_leave_47 rfl (by decide) ?_
    refine jm_iload_n dX7_leave_48 rfl rfl rfl ?_
    refine jm_imul dX7_leave_49 rfl ?_
    refine jm_iload_n dX7_leave_50 rfl rfl rfl ?_
    refine jm_iadd dX7_leave_51 rfl ?_
    rw [pk_mul, nI_add]
    refine jm_icmp_ne (tgt := 59) dX7_leave_52 (by decide) rfl (fun c52 => ?_) (fun c52 => ?_)
    · refine jm_iconst (nI 0) dX7_leave_59 rfl (by decide) ?_
      refine jm_istore_n dX7_leave_60 rfl rfl rfl rfl ?_
      dsimp only [List.set]
      refine jm_iinc (nI 1) dX7_leave_61 rfl rfl (by decide) rfl rfl ?_
      dsimp only [List.set]
      refine jm_goto (n := 28) dX7_leave_64 (by decide) ?_
      rw [nI_add]
      exact l_X7_leave0 hj (h0 ⟨i, hi, c52⟩) (i + 1) (by omega)
    · refine jm_iconst (nI 1) dX7_leave_55 rfl (by decide) ?_
      refine jm_goto (n := 60) dX7_leave_56 (by decide) ?_
      refine jm_istore_n dX7_leave_60 rfl rfl rfl rfl ?_
      dsimp only [List.set]
      refine jm_iinc (nI 1) dX7_leave_61 rfl rfl (by decide) rfl rfl ?_
      dsimp only [List.set]
      refine jm_goto (n := 28) dX7_leave_64 (by decide) ?_
      rw [nI_add]
      exact ih (fun i2 h2 => if e : i2 = i then by rw [e]; exact c52 else hb i2 (by omega))
set_option maxHeartbeats 400000 in
theorem s_X7_leave {Ln : Nat} {xs : Nat → Int32} {μ : jm_Mem} {Q : Option Value → jm_Mem → Prop} {p : Int32} (h : ∀ r μ1, om_leave μ p r μ1 → Q (some (.int r)) μ1) : gJ Ln xs 3 mX7_leave 0 (jm_en 4 [.ref 24, .int p]) [] μ Q := by
  show jm_J rg_I (rg_X Ln xs) 3 mX7_leave 0 [some (.ref 24), some (.int p), none, none] [] μ Q
  refine jm_aload_n dX7_leave_0 rfl rfl rfl ?_
  refine jm_iload_n dX7_leave_1 rfl rfl rfl ?_
  refine jm_cV1 dX7_leave_2 rfl cb_X7_91 ci_X7_isHorse cv_X7_isHorse rfl rfl rfl (Nat.le_of_ble_eq_true rfl) (Nat.le_of_ble_eq_true rfl) (by decide) (s_X7_isHorse (fun j hj e ch => ?_) (fun c0 => ?_))
  · subst e
    refine jm_if_ne (tgt := 11) dX7_leave_5 (by decide) rfl (fun c5 => ?_) (fun c5 => absurd c5 (by decide))
    refine jm_aload_n dX7_leave_11 rfl rfl rfl ?_
    refine jm_getr dX7_leave_12 rfl fe_X7_19 rfl rfl rfl ?_
    refine jm_iload_n dX7_leave_15 rfl rfl rfl ?_
    refine jm_iald dX7_leave_16 rfl rfl rfl (by decide) rfl (by first | assumption | omega) ?_
    refine jm_if_ne (tgt := 24) dX7_leave_17 (by decide) rfl (fun c17 => ?_) (fun c17 => ?_)
    · refine jm_iconst (nI 0) dX7_leave_24 rfl (by decide) ?_
      refine jm_istore_n dX7_leave_25 rfl rfl rfl rfl ?_
      dsimp only [List.set]
      refine jm_iconst (nI 0) dX7_leave_26 rfl (by decide) ?_
      refine jm_istore_n dX7_leave_27 rfl rfl rfl rfl ?_
      dsimp only [List.set]
      exact l_X7_leave0 hj (h _ _ (Or.inr ⟨j, hj, rfl, ch, Or.inl ⟨Or.inl c17, rfl, rfl⟩⟩)) 0 (by omega)
    · refine jm_iconst (nI 1) dX7_leave_20 rfl (by decide) ?_
      refine jm_goto (n := 25) dX7_leave_21 (by decide) ?_
      refine jm_istore_n dX7_leave_25 rfl rfl rfl rfl ?_
      dsimp only [List.set]
      refine jm_iconst (nI 0) dX7_leave_26 rfl (by decide) ?_
      refine jm_istore_n dX7_leave_27 rfl rfl rfl rfl ?_
      dsimp only [List.set]
      exact l_X7_leave1 hj (fun hx => h _ _ (Or.inr ⟨j, hj, rfl, ch, Or.inl ⟨Or.inr hx, rfl, rfl⟩⟩)) (fun hx => h _ _ (Or.inr ⟨j, hj, rfl, ch, Or.inr ⟨c17, hx, rfl, rfl⟩⟩)) 0 (by omega) (fun _ h => absurd h (by omega))
  · refine jm_if_ne (tgt := 11) dX7_leave_5 (by decide) rfl (fun c5 => absurd c5 (by decide)) (fun c5 => ?_)
    refine jm_bipush (-101) dX7_leave_8 rfl (by decide) ?_
    refine jm_iret dX7_leave_10 rfl rfl ?_
    refine h _ _ ?_
    first | exact Or.inl ⟨c0, rfl, rfl⟩ | fail "leaf"
set_option maxHeartbeats 400000 in
theorem s_X7_sit {Ln : Nat} {xs : Nat → Int32} {μ : jm_Mem} {Q : Option Value → jm_Mem → Prop} {p w : Int32} (hz : ∀ j, j < 12 → μ 28 j ≤ 0 → μ 28 j = 0) (h : ∀ r μ1, om_sit μ p w r μ1 → Q (some (.int r)) μ1) : gJ Ln xs 4 mX7_sit 0 (jm_en 3 [.ref 24, .int p, .int w]) [] μ Q := by
  show jm_J rg_I (rg_X Ln xs) 4 mX7_sit 0 [some (.ref 24), some (.int p), some (.int w)] [] μ Q
  refine jm_aload_n dX7_sit_0 rfl rfl rfl ?_
  refine jm_iload_n dX7_sit_1 rfl rfl rfl ?_
  refine jm_cV1 dX7_sit_2 rfl cb_X7_91 ci_X7_isHorse cv_X7_isHorse rfl rfl rfl (Nat.le_of_ble_eq_true rfl) (Nat.le_of_ble_eq_true rfl) (by decide) (s_X7_isHorse (fun j hj e ch => ?_) (fun c0 => ?_))
  · subst e
    refine jm_if_ne (tgt := 11) dX7_sit_5 (by decide) rfl (fun c5 => ?_) (fun c5 => absurd c5 (by decide))
    refine jm_iload_n dX7_sit_11 rfl rfl rfl ?_
    refine jm_cS1 dX7_sit_12 rfl cb_X7_110 cs_X7_isRider (Nat.le_of_ble_eq_true rfl) (Nat.le_of_ble_eq_true rfl) (by decide) (s_X7_isRider (fun a12 b12 => ?_) (fun c12 => ?_))
    · refine jm_if_ne (tgt := 21) dX7_sit_15 (by decide) rfl (fun c15 => ?_) (fun c15 => absurd c15 (by decide))
      refine jm_aload_n dX7_sit_21 rfl rfl rfl ?_
      refine jm_getr dX7_sit_22 rfl fe_X7_19 rfl rfl rfl ?_
      refine jm_iload_n dX7_sit_25 rfl rfl rfl ?_
      refine jm_iald dX7_sit_26 rfl rfl rfl (by decide) rfl (by first | assumption | omega) ?_
      refine jm_if_gt (tgt := 39) dX7_sit_27 (by decide) rfl (fun c27 => ?_) (fun c27 => ?_)
      · refine jm_bipush (-103) dX7_sit_39 rfl (by decide) ?_
        refine jm_iret dX7_sit_41 rfl rfl ?_
        refine h _ _ ?_
        first | exact Or.inl ⟨c0, rfl, rfl⟩ | exact Or.inr ⟨j, hj, rfl, ch, Or.inl ⟨c12, rfl, rfl⟩⟩ | exact Or.inr ⟨j, hj, rfl, ch, Or.inr ⟨⟨a12, b12⟩, Or.inl ⟨Or.inl (Int32.not_le.mpr c27), rfl, rfl⟩⟩⟩ | exact Or.inr ⟨j, hj, rfl, ch, Or.inr ⟨⟨a12, b12⟩, Or.inl ⟨Or.inr cl, rfl, rfl⟩⟩⟩ | exact Or.inr ⟨j, hj, rfl, ch, Or.inr ⟨⟨a12, b12⟩, Or.inr ⟨Int32.not_lt.mp c27, cl, rfl, rfl⟩⟩⟩ | fail "leaf"
      · refine jm_aload_n dX7_sit_30 rfl rfl rfl ?_
        refine jm_iload_n dX7_sit_31 rfl rfl rfl ?_
        refine jm_iload_n dX7_sit_32 rfl rfl rfl ?_
        refine jm_cV2 dX7_sit_33 rfl cb_X7_113 ci_X7_isBlocked cv_X7_isBlocked rfl rfl rfl (Nat.le_of_ble_eq_true rfl) (Nat.le_of_ble_eq_true rfl) (by decide) (s_X7_isBlocked hj (hz j hj (Int32.not_lt.mp c27)) (fun cl => ?_) (fun cl => ?_))
        · refine jm_if_eq (tgt := 42) dX7_sit_36 (by decide) rfl (fun c36 => absurd c36 (by decide)) (fun c36 => ?_)
          refine jm_bipush (-103) dX7_sit_39 rfl (by decide) ?_
          refine jm_iret dX7_sit_41 rfl rfl ?_
          refine h _ _ ?_
          first | exact Or.inl ⟨c0, rfl, rfl⟩ | exact Or.inr ⟨j, hj, rfl, ch, Or.inl ⟨c12, rfl, rfl⟩⟩ | exact Or.inr ⟨j, hj, rfl, ch, Or.inr ⟨⟨a12, b12⟩, Or.inl ⟨Or.inl (Int32.not_le.mpr c27), rfl, rfl⟩⟩⟩ | exact Or.inr ⟨j, hj, rfl, ch, Or.inr ⟨⟨a12, b12⟩, Or.inl ⟨Or.inr cl, rfl, rfl⟩⟩⟩ | exact Or.inr ⟨j, hj, rfl, ch, Or.inr ⟨⟨a12, b12⟩, Or.inr ⟨Int32.not_lt.mp c27, cl, rfl, rfl⟩⟩⟩ | fail "leaf"
        · refine jm_if_eq (tgt := 42) dX7_sit_36 (by decide) rfl (fun c36 => ?_) (fun c36 => absurd c36 (by decide))
          refine jm_aload_n dX7_sit_42 rfl rfl rfl ?_
          refine jm_getr dX7_sit_43 rfl fe_X7_19 rfl rfl rfl ?_
          refine jm_iload_n dX7_sit_46 rfl rfl rfl ?_
          refine jm_iload_n dX7_sit_47 rfl rfl rfl ?_
          refine jm_iast dX7_sit_48 rfl rfl rfl (by decide) rfl (by first | assumption | omega) ?_
          refine jm_aload_n dX7_sit_49 rfl rfl rfl ?_
          refine jm_cV0 dX7_sit_50 rfl cb_X7_101 ci_X7_shakeOf cv_X7_shakeOf rfl rfl rfl (Nat.le_of_ble_eq_true rfl) (Nat.le_of_ble_eq_true rfl) (by decide) (s_X7_shakeOf ?_)
          refine jm_iret dX7_sit_53 rfl rfl ?_
          refine h _ _ ?_
          first | exact Or.inl ⟨c0, rfl, rfl⟩ | exact Or.inr ⟨j, hj, rfl, ch, Or.inl ⟨c12, rfl, rfl⟩⟩ | exact Or.inr ⟨j, hj, rfl, ch, Or.inr ⟨⟨a12, b12⟩, Or.inl ⟨Or.inl (Int32.not_le.mpr c27), rfl, rfl⟩⟩⟩ | exact Or.inr ⟨j, hj, rfl, ch, Or.inr ⟨⟨a12, b12⟩, Or.inl ⟨Or.inr cl, rfl, rfl⟩⟩⟩ | exact Or.inr ⟨j, hj, rfl, ch, Or.inr ⟨⟨a12, b12⟩, Or.inr ⟨Int32.not_lt.mp c27, cl, rfl, rfl⟩⟩⟩ | fail "leaf"
    · refine jm_if_ne (tgt := 21) dX7_sit_15 (by decide) rfl (fun c15 => absurd c15 (by decide)) (fun c15 => ?_)
      refine jm_bipush (-102) dX7_sit_18 rfl (by decide) ?_
      refine jm_iret dX7_sit_20 rfl rfl ?_
      refine h _ _ ?_
      first | exact Or.inl ⟨c0, rfl, rfl⟩ | exact Or.inr ⟨j, hj, rfl, ch, Or.inl ⟨c12, rfl, rfl⟩⟩ | exact Or.inr ⟨j, hj, rfl, ch, Or.inr ⟨⟨a12, b12⟩, Or.inl ⟨Or.inl (Int32.not_le.mpr c27), rfl, rfl⟩⟩⟩ | exact Or.inr ⟨j, hj, rfl, ch, Or.inr ⟨⟨a12, b12⟩, Or.inl ⟨Or.inr cl, rfl, rfl⟩⟩⟩ | exact Or.inr ⟨j, hj, rfl, ch, Or.inr ⟨⟨a12, b12⟩, Or.inr ⟨Int32.not_lt.mp c27, cl, rfl, rfl⟩⟩⟩ | fail "leaf"
  · refine jm_if_ne (tgt := 11) dX7_sit_5 (by decide) rfl (fun c5 => absurd c5 (by decide)) (fun c5 => ?_)
    refine jm_bipush (-101) dX7_sit_8 rfl (by decide) ?_
    refine jm_iret dX7_sit_10 rfl rfl ?_
    refine h _ _ ?_
    first | exact Or.inl ⟨c0, rfl, rfl⟩ | exact Or.inr ⟨j, hj, rfl, ch, Or.inl ⟨c12, rfl, rfl⟩⟩ | exact Or.inr ⟨j, hj, rfl, ch, Or.inr ⟨⟨a12, b12⟩, Or.inl ⟨Or.inl (Int32.not_le.mpr c27), rfl, rfl⟩⟩⟩ | exact Or.inr ⟨j, hj, rfl, ch, Or.inr ⟨⟨a12, b12⟩, Or.inl ⟨Or.inr cl, rfl, rfl⟩⟩⟩ | exact Or.inr ⟨j, hj, rfl, ch, Or.inr ⟨⟨a12, b12⟩, Or.inr ⟨Int32.not_lt.mp c27, cl, rfl, rfl⟩⟩⟩ | fail "leaf"
set_option maxHeartbeats 400000 in
theorem s_X7_rise {Ln : Nat} {xs : Nat → Int32} {μ : jm_Mem} {Q : Option Value → jm_Mem → Prop} {p : Int32} (h : ∀ r μ1, om_rise μ p r μ1 → Q (some (.int r)) μ1) : gJ Ln xs 3 mX7_rise 0 (jm_en 3 [.ref 24, .int p]) [] μ Q := by
  show jm_J rg_I (rg_X Ln xs) 3 mX7_rise 0 [some (.ref 24), some (.int p), none] [] μ Q
  refine jm_aload_n dX7_rise_0 rfl rfl rfl ?_
  refine jm_iload_n dX7_rise_1 rfl rfl rfl ?_
  refine jm_cV1 dX7_rise_2 rfl cb_X7_91 ci_X7_isHorse cv_X7_isHorse rfl rfl rfl (Nat.le_of_ble_eq_true rfl) (Nat.le_of_ble_eq_true rfl) (by decide) (s_X7_isHorse (fun j hj e ch => ?_) (fun c0 => ?_))
  · subst e
    refine jm_if_ne (tgt := 11) dX7_rise_5 (by decide) rfl (fun c5 => ?_) (fun c5 => absurd c5 (by decide))
    refine jm_aload_n dX7_rise_11 rfl rfl rfl ?_
    refine jm_getr dX7_rise_12 rfl fe_X7_19 rfl rfl rfl ?_
    refine jm_iload_n dX7_rise_15 rfl rfl rfl ?_
    refine jm_iald dX7_rise_16 rfl rfl rfl (by decide) rfl (by first | assumption | omega) ?_
    refine jm_if_ne (tgt := 23) dX7_rise_17 (by decide) rfl (fun c17 => ?_) (fun c17 => ?_)
    · refine jm_aload_n dX7_rise_23 rfl rfl rfl ?_
      refine jm_getr dX7_rise_24 rfl fe_X7_19 rfl rfl rfl ?_
      refine jm_iload_n dX7_rise_27 rfl rfl rfl ?_
      refine jm_iald dX7_rise_28 rfl rfl rfl (by decide) rfl (by first | assumption | omega) ?_
      refine jm_istore_n dX7_rise_29 rfl rfl rfl rfl ?_
      dsimp only [List.set]
      refine jm_aload_n dX7_rise_30 rfl rfl rfl ?_
      refine jm_getr dX7_rise_31 rfl fe_X7_19 rfl rfl rfl ?_
      refine jm_iload_n dX7_rise_34 rfl rfl rfl ?_
      refine jm_iconst (nI 0) dX7_rise_35 rfl (by decide) ?_
      refine jm_iast dX7_rise_36 rfl rfl rfl (by decide) rfl (by first | assumption | omega) ?_
      refine jm_iload_n dX7_rise_37 rfl rfl rfl ?_
      refine jm_iret dX7_rise_38 rfl rfl ?_
      refine h _ _ ?_
      first | exact Or.inl ⟨c0, rfl, rfl⟩ | exact Or.inr ⟨j, hj, rfl, ch, Or.inl ⟨c17, rfl, rfl⟩⟩ | exact Or.inr ⟨j, hj, rfl, ch, Or.inr ⟨c17, rfl, rfl⟩⟩ | fail "leaf"
    · refine jm_bipush (-103) dX7_rise_20 rfl (by decide) ?_
      refine jm_iret dX7_rise_22 rfl rfl ?_
      refine h _ _ ?_
      first | exact Or.inl ⟨c0, rfl, rfl⟩ | exact Or.inr ⟨j, hj, rfl, ch, Or.inl ⟨c17, rfl, rfl⟩⟩ | exact Or.inr ⟨j, hj, rfl, ch, Or.inr ⟨c17, rfl, rfl⟩⟩ | fail "leaf"
  · refine jm_if_ne (tgt := 11) dX7_rise_5 (by decide) rfl (fun c5 => absurd c5 (by decide)) (fun c5 => ?_)
    refine jm_bipush (-101) dX7_rise_8 rfl (by decide) ?_
    refine jm_iret dX7_rise_10 rfl rfl ?_
    refine h _ _ ?_
    first | exact Or.inl ⟨c0, rfl, rfl⟩ | exact Or.inr ⟨j, hj, rfl, ch, Or.inl ⟨c17, rfl, rfl⟩⟩ | exact Or.inr ⟨j, hj, rfl, ch, Or.inr ⟨c17, rfl, rfl⟩⟩ | fail "leaf"
set_option maxHeartbeats 400000 in
theorem s_X7_shake {Ln : Nat} {xs : Nat → Int32} {μ : jm_Mem} {Q : Option Value → jm_Mem → Prop}  (h : Q (some (.int (md_sh μ))) μ) : gJ Ln xs 2 mX7_shake 0 (jm_en 1 [.ref 24]) [] μ Q := by
  show jm_J rg_I (rg_X Ln xs) 2 mX7_shake 0 [some (.ref 24)] [] μ Q
  refine jm_aload_n dX7_shake_0 rfl rfl rfl ?_
  refine jm_cV0 dX7_shake_1 rfl cb_X7_101 ci_X7_shakeOf cv_X7_shakeOf rfl rfl rfl (Nat.le_of_ble_eq_true rfl) (Nat.le_of_ble_eq_true rfl) (by decide) (s_X7_shakeOf ?_)
  refine jm_iret dX7_shake_4 rfl rfl ?_
  exact h
set_option maxHeartbeats 400000 in
theorem s_X7_rising {Ln : Nat} {xs : Nat → Int32} {μ : jm_Mem} {Q : Option Value → jm_Mem → Prop}  (h : Q (some (.int (md_rs μ 12))) μ) : gJ Ln xs 2 mX7_rising 0 (jm_en 1 [.ref 24]) [] μ Q := by
  show jm_J rg_I (rg_X Ln xs) 2 mX7_rising 0 [some (.ref 24)] [] μ Q
  refine jm_aload_n dX7_rising_0 rfl rfl rfl ?_
  refine jm_cV0 dX7_rising_1 rfl cb_X7_98 ci_X7_risingOf cv_X7_risingOf rfl rfl rfl (Nat.le_of_ble_eq_true rfl) (Nat.le_of_ble_eq_true rfl) (by decide) (s_X7_risingOf ?_)
  refine jm_iret dX7_rising_4 rfl rfl ?_
  exact h
set_option maxHeartbeats 400000 in
theorem s_X7_may {Ln : Nat} {xs : Nat → Int32} {μ : jm_Mem} {Q : Option Value → jm_Mem → Prop}  (h : ∀ r, om_may μ  r → Q (some (.int r)) μ) : gJ Ln xs 3 mX7_may 0 (jm_en 1 [.ref 24]) [] μ Q := by
  show jm_J rg_I (rg_X Ln xs) 3 mX7_may 0 [some (.ref 24)] [] μ Q
  refine jm_aload_n dX7_may_0 rfl rfl rfl ?_
  refine jm_cV0 dX7_may_1 rfl cb_X7_104 ci_X7_mayTurn cv_X7_mayTurn rfl rfl rfl (Nat.le_of_ble_eq_true rfl) (Nat.le_of_ble_eq_true rfl) (by decide) (s_X7_mayTurn (fun cl => ?_) (fun cl => ?_))
  · refine jm_if_eq (tgt := 11) dX7_may_4 (by decide) rfl (fun c4 => absurd c4 (by decide)) (fun c4 => ?_)
    refine jm_iconst (nI 1) dX7_may_7 rfl (by decide) ?_
    refine jm_goto (n := 12) dX7_may_8 (by decide) ?_
    refine jm_iret dX7_may_12 rfl rfl ?_
    refine h _ ?_
    first | exact Or.inl ⟨cl, rfl⟩ | exact Or.inr ⟨cl, rfl⟩ | fail "leaf"
  · refine jm_if_eq (tgt := 11) dX7_may_4 (by decide) rfl (fun c4 => ?_) (fun c4 => absurd c4 (by decide))
    refine jm_iconst (nI 0) dX7_may_11 rfl (by decide) ?_
    refine jm_iret dX7_may_12 rfl rfl ?_
    refine h _ ?_
    first | exact Or.inl ⟨cl, rfl⟩ | exact Or.inr ⟨cl, rfl⟩ | fail "leaf"
set_option maxHeartbeats 400000 in
theorem s_X7_best {Ln : Nat} {xs : Nat → Int32} {μ : jm_Mem} {Q : Option Value → jm_Mem → Prop} {w : Int32} (h : ∀ r, om_best μ w r → Q (some (.int r)) μ) : gJ Ln xs 5 mX7_best 0 (jm_en 2 [.ref 24, .int w]) [] μ Q := by
  show jm_J rg_I (rg_X Ln xs) 5 mX7_best 0 [some (.ref 24), some (.int w)] [] μ Q
  refine jm_iload_n dX7_best_0 rfl rfl rfl ?_
  refine jm_cS1 dX7_best_1 rfl cb_X7_110 cs_X7_isRider (Nat.le_of_ble_eq_true rfl) (Nat.le_of_ble_eq_true rfl) (by decide) (s_X7_isRider (fun a1 b1 => ?_) (fun c1 => ?_))
  · refine jm_if_eq (tgt := 15) dX7_best_4 (by decide) rfl (fun c4 => absurd c4 (by decide)) (fun c4 => ?_)
    refine jm_aload_n dX7_best_7 rfl rfl rfl ?_
    refine jm_iload_n dX7_best_8 rfl rfl rfl ?_
    refine jm_cV1 dX7_best_9 rfl cb_X7_124 ci_X7_bestOf cv_X7_bestOf rfl rfl rfl (Nat.le_of_ble_eq_true rfl) (Nat.le_of_ble_eq_true rfl) (by decide) (s_X7_bestOf ?_)
    refine jm_goto (n := 17) dX7_best_12 (by decide) ?_
    refine jm_iret dX7_best_17 rfl rfl ?_
    refine h _ ?_
    first | exact Or.inl ⟨c1, rfl⟩ | exact Or.inr ⟨⟨a1, b1⟩, rfl⟩ | fail "leaf"
  · refine jm_if_eq (tgt := 15) dX7_best_4 (by decide) rfl (fun c4 => ?_) (fun c4 => absurd c4 (by decide))
    refine jm_bipush (-102) dX7_best_15 rfl (by decide) ?_
    refine jm_iret dX7_best_17 rfl rfl ?_
    refine h _ ?_
    first | exact Or.inl ⟨c1, rfl⟩ | exact Or.inr ⟨⟨a1, b1⟩, rfl⟩ | fail "leaf"
set_option maxHeartbeats 400000 in
theorem s_X7_rider {Ln : Nat} {xs : Nat → Int32} {μ : jm_Mem} {Q : Option Value → jm_Mem → Prop} {p : Int32} (h : ∀ r, om_rider μ p r → Q (some (.int r)) μ) : gJ Ln xs 2 mX7_rider 0 (jm_en 2 [.ref 24, .int p]) [] μ Q := by
  show jm_J rg_I (rg_X Ln xs) 2 mX7_rider 0 [some (.ref 24), some (.int p)] [] μ Q
  refine jm_iload_n dX7_rider_0 rfl rfl rfl ?_
  refine jm_cS1 dX7_rider_1 rfl cb_X7_79 cs_X7_isPlace (Nat.le_of_ble_eq_true rfl) (Nat.le_of_ble_eq_true rfl) (by decide) (s_X7_isPlace (fun j hj e => ?_) (fun c0 => ?_))
  · subst e
    refine jm_if_ne (tgt := 12) dX7_rider_4 (by decide) rfl (fun c4 => ?_) (fun c4 => absurd c4 (by decide))
    refine jm_aload_n dX7_rider_12 rfl rfl rfl ?_
    refine jm_getr dX7_rider_13 rfl fe_X7_16 rfl rfl rfl ?_
    refine jm_iload_n dX7_rider_16 rfl rfl rfl ?_
    refine jm_iald dX7_rider_17 rfl rfl rfl (by decide) rfl (by first | assumption | omega) ?_
    refine jm_if_le (tgt := 30) dX7_rider_18 (by decide) rfl (fun c18 => ?_) (fun c18 => ?_)
    · refine jm_iconst (nI 0) dX7_rider_30 rfl (by decide) ?_
      refine jm_iret dX7_rider_31 rfl rfl ?_
      refine h _ ?_
      first | exact Or.inl ⟨c0, rfl⟩ | exact Or.inr ⟨j, hj, rfl, (if_neg c18).symm⟩ | exact Or.inr ⟨j, hj, rfl, (if_pos c18).symm⟩ | fail "leaf"
    · refine jm_aload_n dX7_rider_21 rfl rfl rfl ?_
      refine jm_getr dX7_rider_22 rfl fe_X7_19 rfl rfl rfl ?_
      refine jm_iload_n dX7_rider_25 rfl rfl rfl ?_
      refine jm_iald dX7_rider_26 rfl rfl rfl (by decide) rfl (by first | assumption | omega) ?_
      refine jm_goto (n := 31) dX7_rider_27 (by decide) ?_
      refine jm_iret dX7_rider_31 rfl rfl ?_
      refine h _ ?_
      first | exact Or.inl ⟨c0, rfl⟩ | exact Or.inr ⟨j, hj, rfl, (if_neg c18).symm⟩ | exact Or.inr ⟨j, hj, rfl, (if_pos c18).symm⟩ | fail "leaf"
  · refine jm_if_ne (tgt := 12) dX7_rider_4 (by decide) rfl (fun c4 => absurd c4 (by decide)) (fun c4 => ?_)
    refine jm_bipush (-101) dX7_rider_7 rfl (by decide) ?_
    refine jm_goto (n := 31) dX7_rider_9 (by decide) ?_
    refine jm_iret dX7_rider_31 rfl rfl ?_
    refine h _ ?_
    first | exact Or.inl ⟨c0, rfl⟩ | exact Or.inr ⟨j, hj, rfl, (if_neg c18).symm⟩ | exact Or.inr ⟨j, hj, rfl, (if_pos c18).symm⟩ | fail "leaf"
set_option maxHeartbeats 400000 in
theorem s_X7_coat {Ln : Nat} {xs : Nat → Int32} {μ : jm_Mem} {Q : Option Value → jm_Mem → Prop} {p c : Int32} (hm : ∀ j, j < 12 → ¬ μ 27 j ≤ 0 → ∃ m, m ≤ 8 ∧ μ 29 j = nI m) (h : ∀ r μ1, om_coat μ p c r μ1 → Q (some (.int r)) μ1) : gJ Ln xs 3 mX7_coat 0 (jm_en 3 [.ref 24, .int p, .int c]) [] μ Q := by
  show jm_J rg_I (rg_X Ln xs) 3 mX7_coat 0 [some (.ref 24), some (.int p), some (.int c)] [] μ Q
  refine jm_aload_n dX7_coat_0 rfl rfl rfl ?_
  refine jm_iload_n dX7_coat_1 rfl rfl rfl ?_
  refine jm_cV1 dX7_coat_2 rfl cb_X7_91 ci_X7_isHorse cv_X7_isHorse rfl rfl rfl (Nat.le_of_ble_eq_true rfl) (Nat.le_of_ble_eq_true rfl) (by decide) (s_X7_isHorse (fun j hj e ch => ?_) (fun c0 => ?_))
  · subst e
    obtain ⟨m, h8, em⟩ := hm j hj ch
    refine jm_if_ne (tgt := 11) dX7_coat_5 (by decide) rfl (fun c5 => ?_) (fun c5 => absurd c5 (by decide))
    refine jm_iload_n dX7_coat_11 rfl rfl rfl ?_
    refine jm_i2l dX7_coat_12 rfl ?_
    refine jm_lconst 0 dX7_coat_13 rfl (by decide) ?_
    refine jm_ldc2 99 dX7_coat_14 rfl kc_X7_85 ?_
    refine jm_cS3 dX7_coat_17 rfl cb_X7_75 cs_X7_in (Nat.le_of_ble_eq_true rfl) (Nat.le_of_ble_eq_true rfl) (by decide) (s_X7_in c (nI 0) (nI 99) rfl (by decide) (by decide) (fun a17 b17 => ?_) (fun c17 => ?_))
    · refine jm_if_ne (tgt := 26) dX7_coat_20 (by decide) rfl (fun c20 => ?_) (fun c20 => absurd c20 (by decide))
      refine jm_aload_n dX7_coat_26 rfl rfl rfl ?_
      refine jm_getr dX7_coat_27 rfl fe_X7_22 rfl rfl rfl ?_
      refine jm_iload_n dX7_coat_30 rfl rfl rfl ?_
      refine jm_iald dX7_coat_31 rfl rfl rfl (by decide) rfl (by first | assumption | omega) ?_
      refine jm_bipush (nI 8) dX7_coat_32 rfl (by decide) ?_
      refine jm_icmp_ne (tgt := 40) dX7_coat_34 (by decide) rfl (fun c34 => ?_) (fun c34 => ?_)
      · have hl8 : m < 8 := by have : m ≠ 8 := (fun e => c34 (by rw [em, e])); omega
        refine jm_aload_n dX7_coat_40 rfl rfl rfl ?_
        refine jm_getr dX7_coat_41 rfl fe_X7_25 rfl rfl rfl ?_
        refine jm_bipush (nI 8) dX7_coat_44 rfl (by decide) ?_
        refine jm_iload_n dX7_coat_46 rfl rfl rfl ?_
        refine jm_imul dX7_coat_47 rfl ?_
        refine jm_aload_n dX7_coat_48 rfl rfl rfl ?_
        refine jm_getr dX7_coat_49 rfl fe_X7_22 rfl rfl rfl ?_
        refine jm_iload_n dX7_coat_52 rfl rfl rfl ?_
        refine jm_iald dX7_coat_53 rfl rfl rfl (by decide) rfl (by first | assumption | omega) ?_
        refine jm_iadd dX7_coat_54 rfl ?_
        refine jm_iload_n dX7_coat_55 rfl rfl rfl ?_
        refine jm_iast dX7_coat_56 rfl rfl rfl (by decide) (by rw [em, pk_mul, nI_add]) (by omega) ?_
        refine jm_aload_n dX7_coat_57 rfl rfl rfl ?_
        refine jm_getr dX7_coat_58 rfl fe_X7_22 rfl rfl rfl ?_
        refine jm_iload_n dX7_coat_61 rfl rfl rfl ?_
        refine jm_dup2 dX7_coat_62 rfl rfl rfl ?_
        refine jm_iald dX7_coat_63 rfl rfl rfl (by decide) rfl (by first | assumption | omega) ?_
        refine jm_iconst (nI 1) dX7_coat_64 rfl (by decide) ?_
        refine jm_iadd dX7_coat_65 rfl ?_
        refine jm_iast dX7_coat_66 rfl rfl rfl (by decide) rfl (by first | assumption | omega) ?_
        refine jm_aload_n dX7_coat_67 rfl rfl rfl ?_
        refine jm_getr dX7_coat_68 rfl fe_X7_22 rfl rfl rfl ?_
        refine jm_iload_n dX7_coat_71 rfl rfl rfl ?_
        refine jm_iald dX7_coat_72 rfl rfl rfl (by decide) rfl (by first | assumption | omega) ?_
        refine jm_iret dX7_coat_73 rfl rfl ?_
        refine h _ _ ?_
        first | exact Or.inl ⟨c0, rfl, rfl⟩ | exact Or.inr ⟨j, m, hj, rfl, ch, em, Or.inl ⟨c17, rfl, rfl⟩⟩ | exact Or.inr ⟨j, m, hj, rfl, ch, em, Or.inr ⟨⟨a17, b17⟩, Or.inl ⟨(nI_eq (by omega) (by omega)).mp (em ▸ c34), rfl, rfl⟩⟩⟩ | exact Or.inr ⟨j, m, hj, rfl, ch, em, Or.inr ⟨⟨a17, b17⟩, Or.inr ⟨hl8, by rw [rd_eq, rd_na (by decide), em, nI_add], by rw [rd_na (by decide), em, nI_add]⟩⟩⟩ | fail "leaf"
      · refine jm_bipush (-104) dX7_coat_37 rfl (by decide) ?_
        refine jm_iret dX7_coat_39 rfl rfl ?_
        refine h _ _ ?_
        first | exact Or.inl ⟨c0, rfl, rfl⟩ | exact Or.inr ⟨j, m, hj, rfl, ch, em, Or.inl ⟨c17, rfl, rfl⟩⟩ | exact Or.inr ⟨j, m, hj, rfl, ch, em, Or.inr ⟨⟨a17, b17⟩, Or.inl ⟨(nI_eq (by omega) (by omega)).mp (em ▸ c34), rfl, rfl⟩⟩⟩ | exact Or.inr ⟨j, m, hj, rfl, ch, em, Or.inr ⟨⟨a17, b17⟩, Or.inr ⟨hl8, by rw [rd_eq, rd_na (by decide), em, nI_add], by rw [rd_na (by decide), em, nI_add]⟩⟩⟩ | fail "leaf"
    · refine jm_if_ne (tgt := 26) dX7_coat_20 (by decide) rfl (fun c20 => absurd c20 (by decide)) (fun c20 => ?_)
      refine jm_bipush (-102) dX7_coat_23 rfl (by decide) ?_
      refine jm_iret dX7_coat_25 rfl rfl ?_
      refine h _ _ ?_
      first | exact Or.inl ⟨c0, rfl, rfl⟩ | exact Or.inr ⟨j, m, hj, rfl, ch, em, Or.inl ⟨c17, rfl, rfl⟩⟩ | exact Or.inr ⟨j, m, hj, rfl, ch, em, Or.inr ⟨⟨a17, b17⟩, Or.inl ⟨(nI_eq (by omega) (by omega)).mp (em ▸ c34), rfl, rfl⟩⟩⟩ | exact Or.inr ⟨j, m, hj, rfl, ch, em, Or.inr ⟨⟨a17, b17⟩, Or.inr ⟨hl8, by rw [rd_eq, rd_na (by decide), em, nI_add], by rw [rd_na (by decide), em, nI_add]⟩⟩⟩ | fail "leaf"
  · refine jm_if_ne (tgt := 11) dX7_coat_5 (by decide) rfl (fun c5 => absurd c5 (by decide)) (fun c5 => ?_)
    refine jm_bipush (-101) dX7_coat_8 rfl (by decide) ?_
    refine jm_iret dX7_coat_10 rfl rfl ?_
    refine h _ _ ?_
    first | exact Or.inl ⟨c0, rfl, rfl⟩ | exact Or.inr ⟨j, m, hj, rfl, ch, em, Or.inl ⟨c17, rfl, rfl⟩⟩ | exact Or.inr ⟨j, m, hj, rfl, ch, em, Or.inr ⟨⟨a17, b17⟩, Or.inl ⟨(nI_eq (by omega) (by omega)).mp (em ▸ c34), rfl, rfl⟩⟩⟩ | exact Or.inr ⟨j, m, hj, rfl, ch, em, Or.inr ⟨⟨a17, b17⟩, Or.inr ⟨hl8, by rw [rd_eq, rd_na (by decide), em, nI_add], by rw [rd_na (by decide), em, nI_add]⟩⟩⟩ | fail "leaf"
set_option maxHeartbeats 400000 in
theorem s_X7_sample {Ln : Nat} {xs : Nat → Int32} {μ : jm_Mem} {Q : Option Value → jm_Mem → Prop} {p k : Int32} (hm : ∀ j, j < 12 → ¬ μ 27 j ≤ 0 → ∃ m, m ≤ 8 ∧ μ 29 j = nI m) (h : ∀ r, om_sample μ p k r → Q (some (.int r)) μ) : gJ Ln xs 3 mX7_sample 0 (jm_en 3 [.ref 24, .int p, .int k]) [] μ Q := by
  show jm_J rg_I (rg_X Ln xs) 3 mX7_sample 0 [some (.ref 24), some (.int p), some (.int k)] [] μ Q
  refine jm_aload_n dX7_sample_0 rfl rfl rfl ?_
  refine jm_iload_n dX7_sample_1 rfl rfl rfl ?_
  refine jm_cV1 dX7_sample_2 rfl cb_X7_91 ci_X7_isHorse cv_X7_isHorse rfl rfl rfl (Nat.le_of_ble_eq_true rfl) (Nat.le_of_ble_eq_true rfl) (by decide) (s_X7_isHorse (fun j hj e ch => ?_) (fun c0 => ?_))
  · subst e
    obtain ⟨m, h8, em⟩ := hm j hj ch
    refine jm_if_ne (tgt := 11) dX7_sample_5 (by decide) rfl (fun c5 => ?_) (fun c5 => absurd c5 (by decide))
    refine jm_iload_n dX7_sample_11 rfl rfl rfl ?_
    refine jm_i2l dX7_sample_12 rfl ?_
    refine jm_lconst 0 dX7_sample_13 rfl (by decide) ?_
    refine jm_aload_n dX7_sample_14 rfl rfl rfl ?_
    refine jm_getr dX7_sample_15 rfl fe_X7_22 rfl rfl rfl ?_
    refine jm_iload_n dX7_sample_18 rfl rfl rfl ?_
    refine jm_iald dX7_sample_19 rfl rfl rfl (by decide) rfl (by first | assumption | omega) ?_
    refine jm_iconst (nI 1) dX7_sample_20 rfl (by decide) ?_
    refine jm_isub dX7_sample_21 rfl ?_
    refine jm_i2l dX7_sample_22 rfl ?_
    refine jm_cS3 dX7_sample_23 rfl cb_X7_75 cs_X7_in (Nat.le_of_ble_eq_true rfl) (Nat.le_of_ble_eq_true rfl) (by decide) (s_X7_in k (nI 0) (μ 29 j - nI 1) rfl (by decide) rfl (fun a23 b23 => ?_) (fun c23 => ?_))
    · rw [em] at b23
      obtain ⟨i, hi, rfl⟩ := rg_dep h8 a23 b23
      refine jm_if_eq (tgt := 52) dX7_sample_26 (by decide) rfl (fun c26 => absurd c26 (by decide)) (fun c26 => ?_)
      refine jm_aload_n dX7_sample_29 rfl rfl rfl ?_
      refine jm_getr dX7_sample_30 rfl fe_X7_25 rfl rfl rfl ?_
      refine jm_bipush (nI 8) dX7_sample_33 rfl (by decide) ?_
      refine jm_iload_n dX7_sample_35 rfl rfl rfl ?_
      refine jm_imul dX7_sample_36 rfl ?_
      refine jm_aload_n dX7_sample_37 rfl rfl rfl ?_
      refine jm_getr dX7_sample_38 rfl fe_X7_22 rfl rfl rfl ?_
      refine jm_iload_n dX7_sample_41 rfl rfl rfl ?_
      refine jm_iald dX7_sample_42 rfl rfl rfl (by decide) rfl (by first | assumption | omega) ?_
      refine jm_iadd dX7_sample_43 rfl ?_
      refine jm_iconst (nI 1) dX7_sample_44 rfl (by decide) ?_
      refine jm_isub dX7_sample_45 rfl ?_
      refine jm_iload_n dX7_sample_46 rfl rfl rfl ?_
      refine jm_isub dX7_sample_47 rfl ?_
      refine jm_iald dX7_sample_48 rfl rfl rfl (by decide) (by rw [em, pk_mul, nI_add, pk_sub (by omega), pk_sub (by omega)]) (by omega) ?_
      refine jm_goto (n := 53) dX7_sample_49 (by decide) ?_
      refine jm_iret dX7_sample_53 rfl rfl ?_
      refine h _ ?_
      first | exact Or.inl ⟨c0, rfl⟩ | exact Or.inr ⟨j, m, hj, rfl, ch, em, h8, Or.inl ⟨i, hi, rfl, rfl⟩⟩ | exact Or.inr ⟨j, m, hj, rfl, ch, em, h8, Or.inr ⟨em ▸ c23, rfl⟩⟩ | fail "leaf"
    · refine jm_if_eq (tgt := 52) dX7_sample_26 (by decide) rfl (fun c26 => ?_) (fun c26 => absurd c26 (by decide))
      refine jm_iconst (-1) dX7_sample_52 rfl (by decide) ?_
      refine jm_iret dX7_sample_53 rfl rfl ?_
      refine h _ ?_
      first | exact Or.inl ⟨c0, rfl⟩ | exact Or.inr ⟨j, m, hj, rfl, ch, em, h8, Or.inl ⟨i, hi, rfl, rfl⟩⟩ | exact Or.inr ⟨j, m, hj, rfl, ch, em, h8, Or.inr ⟨em ▸ c23, rfl⟩⟩ | fail "leaf"
  · refine jm_if_ne (tgt := 11) dX7_sample_5 (by decide) rfl (fun c5 => absurd c5 (by decide)) (fun c5 => ?_)
    refine jm_bipush (-101) dX7_sample_8 rfl (by decide) ?_
    refine jm_iret dX7_sample_10 rfl rfl ?_
    refine h _ ?_
    first | exact Or.inl ⟨c0, rfl⟩ | exact Or.inr ⟨j, m, hj, rfl, ch, em, h8, Or.inl ⟨i, hi, rfl, rfl⟩⟩ | exact Or.inr ⟨j, m, hj, rfl, ch, em, h8, Or.inr ⟨em ▸ c23, rfl⟩⟩ | fail "leaf"
set_option maxHeartbeats 1000000 in
theorem l_X7_strip {Ln : Nat} {xs : Nat → Int32} {μ : jm_Mem} {Q : Option Value → jm_Mem → Prop} {j m : Nat} {c : Int32} (hj : j < 12) (em : μ 29 j = nI m) (h8 : m ≤ 8) (h0 : (∀ i, i < m → ¬ μ 30 (8 * j + i) = c) → Q (some (.int (-102))) μ) (h1 : ∀ i, i < m → μ 30 (8 * j + i) = c → (∀ t, i < t → t < m → ¬ μ 30 (8 * j + t) = c) → Q (some (.int (nI (m - 1 - i)))) (jm_set μ 29 j (nI (i + 1)))) : ∀ i, i ≤ m → (∀ t, i ≤ t → t < m → ¬ μ 30 (8 * j + t) = c) → jm_J rg_I (rg_X Ln xs) 3 mX7_strip 20 [some (.ref 24), some (.int (nI j)), some (.int c), some (.int (nI i - nI 1)), none] [] μ Q := by
  intro i
  induction i with
  | zero =>
    intro _ hb
    refine jm_iload_n dX7_strip_20 rfl rfl rfl ?_
    refine jm_if_lt (tgt := 45) dX7_strip_21 (by decide) rfl (fun c21 => ?_) (fun c21 => absurd (by decide) c21)
    refine jm_iload_n dX7_strip_45 rfl rfl rfl ?_
    refine jm_if_ge (tgt := 52) dX7_strip_46 (by decide) rfl (fun c46 => absurd c46 (by decide)) (fun c46 => ?_)
    refine jm_bipush (-102) dX7_strip_49 rfl (by decide) ?_
    refine jm_iret dX7_strip_51 rfl rfl ?_
    exact h0 (fun i hi => hb i (by omega) hi)
  | succ i ih =>
    intro hi hb
    rw [pk_sub (show 1 ≤ i + 1 by omega), show i + 1 - 1 = i from rfl]
    refine jm_iload_n dX7_strip_20 rfl rfl rfl ?_
    refine jm_if_lt (tgt := 45) dX7_strip_21 (by decide) rfl (fun c21 => absurd c21 (nI_pos (by omega))) (fun c21 => ?_)
    refine jm_aload_n dX7_strip_24 rfl rfl rfl ?_
    refine jm_getr dX7_strip_25 rfl fe_X7_25 rfl rfl rfl ?_
    refine jm_bipush (nI 8) dX7_strip_28 rfl (by decide) ?_
    refine jm_iload_n dX7_strip_30 rfl rfl rfl ?_
    refine jm_imul dX7_strip_31 rfl ?_
    refine jm_iload_n dX7_strip_32 rfl rfl rfl ?_
    refine jm_iadd dX7_strip_33 rfl ?_
    refine jm_iald dX7_strip_34 rfl rfl rfl (by decide) (by rw [pk_mul, nI_add]) (by omega) ?_
    refine jm_iload_n dX7_strip_35 rfl rfl rfl ?_
    refine jm_icmp_eq (tgt := 45) dX7_strip_36 (by decide) rfl (fun c36 => ?_) (fun c36 => ?_)
    · refine jm_iload_n dX7_strip_45 rfl rfl rfl ?_
      refine jm_if_ge (tgt := 52) dX7_strip_46 (by decide) rfl (fun c46 => ?_) (fun c46 => absurd (nI_pos' (by omega)) c46)
      refine jm_aload_n dX7_strip_52 rfl rfl rfl ?_
      refine jm_getr dX7_strip_53 rfl fe_X7_22 rfl rfl rfl ?_
      refine jm_iload_n dX7_strip_56 rfl rfl rfl ?_
      refine jm_iald dX7_strip_57 rfl rfl rfl (by decide) rfl (by first | assumption | omega) ?_
      refine jm_iconst (nI 1) dX7_strip_58 rfl (by decide) ?_
      refine jm_isub dX7_strip_59 rfl ?_
      refine jm_iload_n dX7_strip_60 rfl rfl rfl ?_
      refine jm_isub dX7_strip_61 rfl ?_
      refine jm_istore dX7_strip_62 rfl rfl rfl ?_
      dsimp only [List.set]
      refine jm_aload_n dX7_strip_64 rfl rfl rfl ?_
      refine jm_getr dX7_strip_65 rfl fe_X7_22 rfl rfl rfl ?_
      refine jm_iload_n dX7_strip_68 rfl rfl rfl ?_
      refine jm_iload_n dX7_strip_69 rfl rfl rfl ?_
      refine jm_iconst (nI 1) dX7_strip_70 rfl (by decide) ?_
      refine jm_iadd dX7_strip_71 rfl ?_
      refine jm_iast dX7_strip_72 rfl rfl rfl (by decide) rfl (by first | assumption | omega) ?_
      refine jm_iload dX7_strip_73 rfl rfl ?_
      refine jm_iret dX7_strip_75 rfl rfl ?_
      rw [em, pk_sub (by omega), pk_sub (by omega), nI_add]
      exact h1 i (by omega) c36 (fun t h2 h3 => hb t (by omega) h3)
    · refine jm_iinc (-1) dX7_strip_39 rfl rfl (by decide) rfl rfl ?_
      dsimp only [List.set]
      refine jm_goto (n := 20) dX7_strip_42 (by decide) ?_
      rw [rg_m1]
      exact ih (by omega) (fun t h2 h3 => if e : t = i then by rw [e]; exact c36 else hb t (by omega) h3)
set_option maxHeartbeats 400000 in
theorem s_X7_strip {Ln : Nat} {xs : Nat → Int32} {μ : jm_Mem} {Q : Option Value → jm_Mem → Prop} {p c : Int32} (hm : ∀ j, j < 12 → ¬ μ 27 j ≤ 0 → ∃ m, m ≤ 8 ∧ μ 29 j = nI m) (h : ∀ r μ1, om_strip μ p c r μ1 → Q (some (.int r)) μ1) : gJ Ln xs 3 mX7_strip 0 (jm_en 5 [.ref 24, .int p, .int c]) [] μ Q := by
  show jm_J rg_I (rg_X Ln xs) 3 mX7_strip 0 [some (.ref 24), some (.int p), some (.int c), none, none] [] μ Q
  refine jm_aload_n dX7_strip_0 rfl rfl rfl ?_
  refine jm_iload_n dX7_strip_1 rfl rfl rfl ?_
  refine jm_cV1 dX7_strip_2 rfl cb_X7_91 ci_X7_isHorse cv_X7_isHorse rfl rfl rfl (Nat.le_of_ble_eq_true rfl) (Nat.le_of_ble_eq_true rfl) (by decide) (s_X7_isHorse (fun j hj e ch => ?_) (fun c0 => ?_))
  · subst e
    obtain ⟨m, h8, em⟩ := hm j hj ch
    refine jm_if_ne (tgt := 11) dX7_strip_5 (by decide) rfl (fun c5 => ?_) (fun c5 => absurd c5 (by decide))
    refine jm_aload_n dX7_strip_11 rfl rfl rfl ?_
    refine jm_getr dX7_strip_12 rfl fe_X7_22 rfl rfl rfl ?_
    refine jm_iload_n dX7_strip_15 rfl rfl rfl ?_
    refine jm_iald dX7_strip_16 rfl rfl rfl (by decide) rfl (by first | assumption | omega) ?_
    refine jm_iconst (nI 1) dX7_strip_17 rfl (by decide) ?_
    refine jm_isub dX7_strip_18 rfl ?_
    refine jm_istore_n dX7_strip_19 rfl rfl rfl rfl ?_
    dsimp only [List.set]
    rw [em]
    exact l_X7_strip hj em h8 (fun hx => h _ _ (Or.inr ⟨j, m, hj, rfl, ch, em, h8, Or.inl ⟨hx, rfl, rfl⟩⟩)) (fun i hi hx hy => h _ _ (Or.inr ⟨j, m, hj, rfl, ch, em, h8, Or.inr ⟨i, hi, hx, hy, rfl, rfl⟩⟩)) m (Nat.le_refl _) (fun t h2 h3 => absurd h3 (by omega))
  · refine jm_if_ne (tgt := 11) dX7_strip_5 (by decide) rfl (fun c5 => absurd c5 (by decide)) (fun c5 => ?_)
    refine jm_bipush (-101) dX7_strip_8 rfl (by decide) ?_
    refine jm_iret dX7_strip_10 rfl rfl ?_
    refine h _ _ ?_
    first | exact Or.inl ⟨c0, rfl, rfl⟩ | fail "leaf"
set_option maxHeartbeats 400000 in
theorem s_X7_isLeg {Ln : Nat} {xs : Nat → Int32} {μ : jm_Mem} {Q : Option Value → jm_Mem → Prop} {p g : Int32} (h1 : ∀ j i, j < 12 → i < 4 → p = nI j → g = nI i → ¬ μ 27 j ≤ 0 → Q (some (.int 1)) μ) (h0 : md_nl μ p g → Q (some (.int 0)) μ) : gJ Ln xs 3 mX7_isLeg 0 (jm_en 3 [.ref 24, .int p, .int g]) [] μ Q := by
  show jm_J rg_I (rg_X Ln xs) 3 mX7_isLeg 0 [some (.ref 24), some (.int p), some (.int g)] [] μ Q
  refine jm_aload_n dX7_isLeg_0 rfl rfl rfl ?_
  refine jm_iload_n dX7_isLeg_1 rfl rfl rfl ?_
  refine jm_cV1 dX7_isLeg_2 rfl cb_X7_91 ci_X7_isHorse cv_X7_isHorse rfl rfl rfl (Nat.le_of_ble_eq_true rfl) (Nat.le_of_ble_eq_true rfl) (by decide) (s_X7_isHorse (fun j hj e ch => ?_) (fun c0 => ?_))
  · subst e
    refine jm_if_eq (tgt := 24) dX7_isLeg_5 (by decide) rfl (fun c5 => absurd c5 (by decide)) (fun c5 => ?_)
    refine jm_iload_n dX7_isLeg_8 rfl rfl rfl ?_
    refine jm_i2l dX7_isLeg_9 rfl ?_
    refine jm_lconst 0 dX7_isLeg_10 rfl (by decide) ?_
    refine jm_ldc2 3 dX7_isLeg_11 rfl kc_X7_127 ?_
    refine jm_cS3 dX7_isLeg_14 rfl cb_X7_75 cs_X7_in (Nat.le_of_ble_eq_true rfl) (Nat.le_of_ble_eq_true rfl) (by decide) (s_X7_in g (nI 0) (nI 3) rfl (by decide) (by decide) (fun a14 b14 => ?_) (fun c14 => ?_))
    · refine jm_if_eq (tgt := 24) dX7_isLeg_17 (by decide) rfl (fun c17 => absurd c17 (by decide)) (fun c17 => ?_)
      refine jm_iconst (nI 1) dX7_isLeg_20 rfl (by decide) ?_
      refine jm_goto (n := 25) dX7_isLeg_21 (by decide) ?_
      refine jm_iret dX7_isLeg_25 rfl rfl ?_
      first | (obtain ⟨i, hi, e⟩ := rg_in (n := 3) (by decide) a14 b14; exact h1 j i hj hi rfl e ch) | exact h0 (Or.inl c0) | exact h0 (Or.inr (rg_nin (n := 3) (by decide) c14)) | fail "leaf"
    · refine jm_if_eq (tgt := 24) dX7_isLeg_17 (by decide) rfl (fun c17 => ?_) (fun c17 => absurd c17 (by decide))
      refine jm_iconst (nI 0) dX7_isLeg_24 rfl (by decide) ?_
      refine jm_iret dX7_isLeg_25 rfl rfl ?_
      first | (obtain ⟨i, hi, e⟩ := rg_in (n := 3) (by decide) a14 b14; exact h1 j i hj hi rfl e ch) | exact h0 (Or.inl c0) | exact h0 (Or.inr (rg_nin (n := 3) (by decide) c14)) | fail "leaf"
  · refine jm_if_eq (tgt := 24) dX7_isLeg_5 (by decide) rfl (fun c5 => ?_) (fun c5 => absurd c5 (by decide))
    refine jm_iconst (nI 0) dX7_isLeg_24 rfl (by decide) ?_
    refine jm_iret dX7_isLeg_25 rfl rfl ?_
    first | (obtain ⟨i, hi, e⟩ := rg_in (n := 3) (by decide) a14 b14; exact h1 j i hj hi rfl e ch) | exact h0 (Or.inl c0) | exact h0 (Or.inr (rg_nin (n := 3) (by decide) c14)) | fail "leaf"
set_option maxHeartbeats 400000 in
theorem s_X7_swap {Ln : Nat} {xs : Nat → Int32} {μ : jm_Mem} {Q : Option Value → jm_Mem → Prop} {p g q o : Int32} (h : ∀ r μ1, om_swap μ p g q o r μ1 → Q (some (.int r)) μ1) : gJ Ln xs 4 mX7_swap 0 (jm_en 6 [.ref 24, .int p, .int g, .int q, .int o]) [] μ Q := by
  show jm_J rg_I (rg_X Ln xs) 4 mX7_swap 0 [some (.ref 24), some (.int p), some (.int g), some (.int q), some (.int o), none] [] μ Q
  refine jm_aload_n dX7_swap_0 rfl rfl rfl ?_
  refine jm_iload_n dX7_swap_1 rfl rfl rfl ?_
  refine jm_iload_n dX7_swap_2 rfl rfl rfl ?_
  refine jm_cV2 dX7_swap_3 rfl cb_X7_136 ci_X7_isLeg cv_X7_isLeg rfl rfl rfl (Nat.le_of_ble_eq_true rfl) (Nat.le_of_ble_eq_true rfl) (by decide) (s_X7_isLeg (fun j i hj hi e e2 ch => ?_) (fun cn => ?_))
  · subst e
    subst e2
    refine jm_if_eq (tgt := 19) dX7_swap_6 (by decide) rfl (fun c6 => absurd c6 (by decide)) (fun c6 => ?_)
    refine jm_aload_n dX7_swap_9 rfl rfl rfl ?_
    refine jm_iload_n dX7_swap_10 rfl rfl rfl ?_
    refine jm_iload dX7_swap_11 rfl rfl ?_
    refine jm_cV2 dX7_swap_13 rfl cb_X7_136 ci_X7_isLeg cv_X7_isLeg rfl rfl rfl (Nat.le_of_ble_eq_true rfl) (Nat.le_of_ble_eq_true rfl) (by decide) (s_X7_isLeg (fun j2 i2 hj2 hi2 e3 e4 ch2 => ?_) (fun cn2 => ?_))
    · subst e3
      subst e4
      refine jm_if_ne (tgt := 22) dX7_swap_16 (by decide) rfl (fun c16 => ?_) (fun c16 => absurd c16 (by decide))
      refine jm_iload_n dX7_swap_22 rfl rfl rfl ?_
      refine jm_iload_n dX7_swap_23 rfl rfl rfl ?_
      refine jm_icmp_ne (tgt := 36) dX7_swap_24 (by decide) rfl (fun c24 => ?_) (fun c24 => ?_)
      · refine jm_aload_n dX7_swap_36 rfl rfl rfl ?_
        refine jm_getr dX7_swap_37 rfl fe_X7_28 rfl rfl rfl ?_
        refine jm_iconst (nI 4) dX7_swap_40 rfl (by decide) ?_
        refine jm_iload_n dX7_swap_41 rfl rfl rfl ?_
        refine jm_imul dX7_swap_42 rfl ?_
        refine jm_iload_n dX7_swap_43 rfl rfl rfl ?_
        refine jm_iadd dX7_swap_44 rfl ?_
        refine jm_iald dX7_swap_45 rfl rfl rfl (by decide) (by rw [pk_mul, nI_add]) (by omega) ?_
        refine jm_istore dX7_swap_46 rfl rfl rfl ?_
        dsimp only [List.set]
        refine jm_aload_n dX7_swap_48 rfl rfl rfl ?_
        refine jm_getr dX7_swap_49 rfl fe_X7_28 rfl rfl rfl ?_
        refine jm_iconst (nI 4) dX7_swap_52 rfl (by decide) ?_
        refine jm_iload_n dX7_swap_53 rfl rfl rfl ?_
        refine jm_imul dX7_swap_54 rfl ?_
        refine jm_iload_n dX7_swap_55 rfl rfl rfl ?_
        refine jm_iadd dX7_swap_56 rfl ?_
        refine jm_aload_n dX7_swap_57 rfl rfl rfl ?_
        refine jm_getr dX7_swap_58 rfl fe_X7_28 rfl rfl rfl ?_
        refine jm_iconst (nI 4) dX7_swap_61 rfl (by decide) ?_
        refine jm_iload_n dX7_swap_62 rfl rfl rfl ?_
        refine jm_imul dX7_swap_63 rfl ?_
        refine jm_iload dX7_swap_64 rfl rfl ?_
        refine jm_iadd dX7_swap_66 rfl ?_
        refine jm_iald dX7_swap_67 rfl rfl rfl (by decide) (by rw [pk_mul, nI_add]) (by omega) ?_
        refine jm_iast dX7_swap_68 rfl rfl rfl (by decide) (by rw [pk_mul, nI_add]) (by omega) ?_
        refine jm_aload_n dX7_swap_69 rfl rfl rfl ?_
        refine jm_getr dX7_swap_70 rfl fe_X7_28 rfl rfl rfl ?_
        refine jm_iconst (nI 4) dX7_swap_73 rfl (by decide) ?_
        refine jm_iload_n dX7_swap_74 rfl rfl rfl ?_
        refine jm_imul dX7_swap_75 rfl ?_
        refine jm_iload dX7_swap_76 rfl rfl ?_
        refine jm_iadd dX7_swap_78 rfl ?_
        refine jm_iload dX7_swap_79 rfl rfl ?_
        refine jm_iast dX7_swap_81 rfl rfl rfl (by decide) (by rw [pk_mul, nI_add]) (by omega) ?_
        refine jm_iconst (nI 1) dX7_swap_82 rfl (by decide) ?_
        refine jm_iret dX7_swap_83 rfl rfl ?_
        refine h _ _ ?_
        first | exact Or.inl ⟨Or.inl cn, rfl, rfl⟩ | exact Or.inl ⟨Or.inr cn2, rfl, rfl⟩ | exact Or.inr ⟨j, i, j2, i2, hj, hi, hj2, hi2, rfl, rfl, rfl, rfl, ch, ch2, Or.inl ⟨(nI_eq (by omega) (by omega)).mp c24, (nI_eq (by omega) (by omega)).mp c30, rfl, rfl⟩⟩ | exact Or.inr ⟨j, i, j2, i2, hj, hi, hj2, hi2, rfl, rfl, rfl, rfl, ch, ch2, Or.inr ⟨fun h => c24 (by rw [h.1]), rfl, rfl⟩⟩ | exact Or.inr ⟨j, i, j2, i2, hj, hi, hj2, hi2, rfl, rfl, rfl, rfl, ch, ch2, Or.inr ⟨fun h => c30 (by rw [h.2]), rfl, rfl⟩⟩ | fail "leaf"
      · refine jm_iload_n dX7_swap_27 rfl rfl rfl ?_
        refine jm_iload dX7_swap_28 rfl rfl ?_
        refine jm_icmp_ne (tgt := 36) dX7_swap_30 (by decide) rfl (fun c30 => ?_) (fun c30 => ?_)
        · refine jm_aload_n dX7_swap_36 rfl rfl rfl ?_
          refine jm_getr dX7_swap_37 rfl fe_X7_28 rfl rfl rfl ?_
          refine jm_iconst (nI 4) dX7_swap_40 rfl (by decide) ?_
          refine jm_iload_n dX7_swap_41 rfl rfl rfl ?_
          refine jm_imul dX7_swap_42 rfl ?_
          refine jm_iload_n dX7_swap_43 rfl rfl rfl ?_
          refine jm_iadd dX7_swap_44 rfl ?_
          refine jm_iald dX7_swap_45 rfl rfl rfl (by decide) (by rw [pk_mul, nI_add]) (by omega) ?_
          refine jm_istore dX7_swap_46 rfl rfl rfl ?_
          dsimp only [List.set]
          refine jm_aload_n dX7_swap_48 rfl rfl rfl ?_
          refine jm_getr dX7_swap_49 rfl fe_X7_28 rfl rfl rfl ?_
          refine jm_iconst (nI 4) dX7_swap_52 rfl (by decide) ?_
          refine jm_iload_n dX7_swap_53 rfl rfl rfl ?_
          refine jm_imul dX7_swap_54 rfl ?_
          refine jm_iload_n dX7_swap_55 rfl rfl rfl ?_
          refine jm_iadd dX7_swap_56 rfl ?_
          refine jm_aload_n dX7_swap_57 rfl rfl rfl ?_
          refine jm_getr dX7_swap_58 rfl fe_X7_28 rfl rfl rfl ?_
          refine jm_iconst (nI 4) dX7_swap_61 rfl (by decide) ?_
          refine jm_iload_n dX7_swap_62 rfl rfl rfl ?_
          refine jm_imul dX7_swap_63 rfl ?_
          refine jm_iload dX7_swap_64 rfl rfl ?_
          refine jm_iadd dX7_swap_66 rfl ?_
          refine jm_iald dX7_swap_67 rfl rfl rfl (by decide) (by rw [pk_mul, nI_add]) (by omega) ?_
          refine jm_iast dX7_swap_68 rfl rfl rfl (by decide) (by rw [pk_mul, nI_add]) (by omega) ?_
          refine jm_aload_n dX7_swap_69 rfl rfl rfl ?_
          refine jm_getr dX7_swap_70 rfl fe_X7_28 rfl rfl rfl ?_
          refine jm_iconst (nI 4) dX7_swap_73 rfl (by decide) ?_
          refine jm_iload_n dX7_swap_74 rfl rfl rfl ?_
          refine jm_imul dX7_swap_75 rfl ?_
          refine jm_iload dX7_swap_76 rfl rfl ?_
          refine jm_iadd dX7_swap_78 rfl ?_
          refine jm_iload dX7_swap_79 rfl rfl ?_
          refine jm_iast dX7_swap_81 rfl rfl rfl (by decide) (by rw [pk_mul, nI_add]) (by omega) ?_
          refine jm_iconst (nI 1) dX7_swap_82 rfl (by decide) ?_
          refine jm_iret dX7_swap_83 rfl rfl ?_
          refine h _ _ ?_
          first | exact Or.inl ⟨Or.inl cn, rfl, rfl⟩ | exact Or.inl ⟨Or.inr cn2, rfl, rfl⟩ | exact Or.inr ⟨j, i, j2, i2, hj, hi, hj2, hi2, rfl, rfl, rfl, rfl, ch, ch2, Or.inl ⟨(nI_eq (by omega) (by omega)).mp c24, (nI_eq (by omega) (by omega)).mp c30, rfl, rfl⟩⟩ | exact Or.inr ⟨j, i, j2, i2, hj, hi, hj2, hi2, rfl, rfl, rfl, rfl, ch, ch2, Or.inr ⟨fun h => c24 (by rw [h.1]), rfl, rfl⟩⟩ | exact Or.inr ⟨j, i, j2, i2, hj, hi, hj2, hi2, rfl, rfl, rfl, rfl, ch, ch2, Or.inr ⟨fun h => c30 (by rw [h.2]), rfl, rfl⟩⟩ | fail "leaf"
        · refine jm_bipush (-102) dX7_swap_33 rfl (by decide) ?_
          refine jm_iret dX7_swap_35 rfl rfl ?_
          refine h _ _ ?_
          first | exact Or.inl ⟨Or.inl cn, rfl, rfl⟩ | exact Or.inl ⟨Or.inr cn2, rfl, rfl⟩ | exact Or.inr ⟨j, i, j2, i2, hj, hi, hj2, hi2, rfl, rfl, rfl, rfl, ch, ch2, Or.inl ⟨(nI_eq (by omega) (by omega)).mp c24, (nI_eq (by omega) (by omega)).mp c30, rfl, rfl⟩⟩ | exact Or.inr ⟨j, i, j2, i2, hj, hi, hj2, hi2, rfl, rfl, rfl, rfl, ch, ch2, Or.inr ⟨fun h => c24 (by rw [h.1]), rfl, rfl⟩⟩ | exact Or.inr ⟨j, i, j2, i2, hj, hi, hj2, hi2, rfl, rfl, rfl, rfl, ch, ch2, Or.inr ⟨fun h => c30 (by rw [h.2]), rfl, rfl⟩⟩ | fail "leaf"
    · refine jm_if_ne (tgt := 22) dX7_swap_16 (by decide) rfl (fun c16 => absurd c16 (by decide)) (fun c16 => ?_)
      refine jm_bipush (-101) dX7_swap_19 rfl (by decide) ?_
      refine jm_iret dX7_swap_21 rfl rfl ?_
      refine h _ _ ?_
      first | exact Or.inl ⟨Or.inl cn, rfl, rfl⟩ | exact Or.inl ⟨Or.inr cn2, rfl, rfl⟩ | exact Or.inr ⟨j, i, j2, i2, hj, hi, hj2, hi2, rfl, rfl, rfl, rfl, ch, ch2, Or.inl ⟨(nI_eq (by omega) (by omega)).mp c24, (nI_eq (by omega) (by omega)).mp c30, rfl, rfl⟩⟩ | exact Or.inr ⟨j, i, j2, i2, hj, hi, hj2, hi2, rfl, rfl, rfl, rfl, ch, ch2, Or.inr ⟨fun h => c24 (by rw [h.1]), rfl, rfl⟩⟩ | exact Or.inr ⟨j, i, j2, i2, hj, hi, hj2, hi2, rfl, rfl, rfl, rfl, ch, ch2, Or.inr ⟨fun h => c30 (by rw [h.2]), rfl, rfl⟩⟩ | fail "leaf"
  · refine jm_if_eq (tgt := 19) dX7_swap_6 (by decide) rfl (fun c6 => ?_) (fun c6 => absurd c6 (by decide))
    refine jm_bipush (-101) dX7_swap_19 rfl (by decide) ?_
    refine jm_iret dX7_swap_21 rfl rfl ?_
    refine h _ _ ?_
    first | exact Or.inl ⟨Or.inl cn, rfl, rfl⟩ | exact Or.inl ⟨Or.inr cn2, rfl, rfl⟩ | exact Or.inr ⟨j, i, j2, i2, hj, hi, hj2, hi2, rfl, rfl, rfl, rfl, ch, ch2, Or.inl ⟨(nI_eq (by omega) (by omega)).mp c24, (nI_eq (by omega) (by omega)).mp c30, rfl, rfl⟩⟩ | exact Or.inr ⟨j, i, j2, i2, hj, hi, hj2, hi2, rfl, rfl, rfl, rfl, ch, ch2, Or.inr ⟨fun h => c24 (by rw [h.1]), rfl, rfl⟩⟩ | exact Or.inr ⟨j, i, j2, i2, hj, hi, hj2, hi2, rfl, rfl, rfl, rfl, ch, ch2, Or.inr ⟨fun h => c30 (by rw [h.2]), rfl, rfl⟩⟩ | fail "leaf"
set_option maxHeartbeats 400000 in
theorem s_X7_mark {Ln : Nat} {xs : Nat → Int32} {μ : jm_Mem} {Q : Option Value → jm_Mem → Prop} {p g : Int32} (h : ∀ r, om_mark μ p g r → Q (some (.int r)) μ) : gJ Ln xs 4 mX7_mark 0 (jm_en 3 [.ref 24, .int p, .int g]) [] μ Q := by
  show jm_J rg_I (rg_X Ln xs) 4 mX7_mark 0 [some (.ref 24), some (.int p), some (.int g)] [] μ Q
  refine jm_aload_n dX7_mark_0 rfl rfl rfl ?_
  refine jm_iload_n dX7_mark_1 rfl rfl rfl ?_
  refine jm_iload_n dX7_mark_2 rfl rfl rfl ?_
  refine jm_cV2 dX7_mark_3 rfl cb_X7_136 ci_X7_isLeg cv_X7_isLeg rfl rfl rfl (Nat.le_of_ble_eq_true rfl) (Nat.le_of_ble_eq_true rfl) (by decide) (s_X7_isLeg (fun j i hj hi e e2 ch => ?_) (fun cn => ?_))
  · subst e
    subst e2
    refine jm_if_eq (tgt := 22) dX7_mark_6 (by decide) rfl (fun c6 => absurd c6 (by decide)) (fun c6 => ?_)
    refine jm_aload_n dX7_mark_9 rfl rfl rfl ?_
    refine jm_getr dX7_mark_10 rfl fe_X7_28 rfl rfl rfl ?_
    refine jm_iconst (nI 4) dX7_mark_13 rfl (by decide) ?_
    refine jm_iload_n dX7_mark_14 rfl rfl rfl ?_
    refine jm_imul dX7_mark_15 rfl ?_
    refine jm_iload_n dX7_mark_16 rfl rfl rfl ?_
    refine jm_iadd dX7_mark_17 rfl ?_
    refine jm_iald dX7_mark_18 rfl rfl rfl (by decide) (by rw [pk_mul, nI_add]) (by omega) ?_
    refine jm_goto (n := 24) dX7_mark_19 (by decide) ?_
    refine jm_iret dX7_mark_24 rfl rfl ?_
    refine h _ ?_
    first | exact Or.inl ⟨cn, rfl⟩ | exact Or.inr ⟨j, i, hj, hi, rfl, rfl, ch, rfl⟩ | fail "leaf"
  · refine jm_if_eq (tgt := 22) dX7_mark_6 (by decide) rfl (fun c6 => ?_) (fun c6 => absurd c6 (by decide))
    refine jm_bipush (-101) dX7_mark_22 rfl (by decide) ?_
    refine jm_iret dX7_mark_24 rfl rfl ?_
    refine h _ ?_
    first | exact Or.inl ⟨cn, rfl⟩ | exact Or.inr ⟨j, i, hj, hi, rfl, rfl, ch, rfl⟩ | fail "leaf"
set_option maxHeartbeats 1000000 in
theorem l_X7_find {Ln : Nat} {xs : Nat → Int32} {μ : jm_Mem} {Q : Option Value → jm_Mem → Prop} {j g : Nat} (hj : j < 12) (hg : g < 4) (h1 : ∀ k, k < 48 → (¬ μ 27 (k / 4) ≤ 0 ∧ μ 31 k = nI (4 * j + g)) → (∀ i, i < k → ¬ (¬ μ 27 (i / 4) ≤ 0 ∧ μ 31 i = nI (4 * j + g))) → Q (some (.int (nI k))) μ) (h0 : (∀ i, i < 48 → ¬ (¬ μ 27 (i / 4) ≤ 0 ∧ μ 31 i = nI (4 * j + g))) → Q (some (.int (-1))) μ) : ∀ i, i ≤ 48 → ∀ (hb : ∀ i2, i2 < i → ¬ (¬ μ 27 (i2 / 4) ≤ 0 ∧ μ 31 i2 = nI (4 * j + g))), jm_J rg_I (rg_X Ln xs) 2 mX7_find 24 [some (.ref 24), some (.int (nI j)), some (.int (nI g)), some (.int (nI i))] [] μ Q := by
  refine jm_for 48 ?_ ?_
  · intro hb
    refine jm_iload_n dX7_find_24 rfl rfl rfl ?_
    refine jm_bipush (nI 48) dX7_find_25 rfl (by decide) ?_
    refine jm_icmp_ge (tgt := 63) dX7_find_27 (by decide) rfl (fun c27 => ?_) (fun c27 => absurd ((nI_leI (by omega) (by omega)).mpr (Nat.le_refl _)) c27)
    refine jm_iconst (-1) dX7_find_63 rfl (by decide) ?_
    refine jm_iret dX7_find_64 rfl rfl ?_
    exact h0 hb
  · intro i hi ih hb
    refine jm_iload_n dX7_find_24 rfl rfl rfl ?_
    refine jm_bipush (nI 48) dX7_find_25 rfl (by decide) ?_
    refine jm_icmp_ge (tgt := 63) dX7_find_27 (by decide) rfl (fun c27 => absurd ((nI_leI (by omega) (by omega)).mp c27) (by omega)) (fun c27 => ?_)
    refine jm_aload_n dX7_find_30 rfl rfl rfl ?_
    refine jm_getr dX7_find_31 rfl fe_X7_16 rfl rfl rfl ?_
    refine jm_iload_n dX7_find_34 rfl rfl rfl ?_
    refine jm_iconst (nI 4) dX7_find_35 rfl (by decide) ?_
    refine jm_idiv dX7_find_36 rfl (by decide) ?_
    refine jm_iald dX7_find_37 rfl rfl rfl (by decide) (pk_div (by omega) (by decide) (by decide)) (by omega) ?_
    refine jm_if_le (tgt := 57) dX7_find_38 (by decide) rfl (fun c38 => ?_) (fun c38 => ?_)
    · refine jm_iinc (nI 1) dX7_find_57 rfl rfl (by decide) rfl rfl ?_
      dsimp only [List.set]
      refine jm_goto (n := 24) dX7_find_60 (by decide) ?_
      rw [nI_add]
      first | exact ih (fun i2 h2 => if e : i2 = i then by rw [e]; exact fun h => h.1 c38 else hb i2 (by omega)) | exact ih (fun i2 h2 => if e : i2 = i then by rw [e]; exact fun h => c52 h.2 else hb i2 (by omega)) | fail "stop"
    · refine jm_aload_n dX7_find_41 rfl rfl rfl ?_
      refine jm_getr dX7_find_42 rfl fe_X7_28 rfl rfl rfl ?_
      refine jm_iload_n dX7_find_45 rfl rfl rfl ?_
      refine jm_iald dX7_find_46 rfl rfl rfl (by decide) rfl (by first | assumption | omega) ?_
      refine jm_iconst (nI 4) dX7_find_47 rfl (by decide) ?_
      refine jm_iload_n dX7_find_48 rfl rfl rfl ?_
      refine jm_imul dX7_find_49 rfl ?_
      refine jm_iload_n dX7_find_50 rfl rfl rfl ?_
      refine jm_iadd dX7_find_51 rfl ?_
      rw [pk_mul, nI_add]
      refine jm_icmp_ne (tgt := 57) dX7_find_52 (by decide) rfl (fun c52 => ?_) (fun c52 => ?_)
      · refine jm_iinc (nI 1) dX7_find_57 rfl rfl (by decide) rfl rfl ?_
        dsimp only [List.set]
        refine jm_goto (n := 24) dX7_find_60 (by decide) ?_
        rw [nI_add]
        first | exact ih (fun i2 h2 => if e : i2 = i then by rw [e]; exact fun h => h.1 c38 else hb i2 (by omega)) | exact ih (fun i2 h2 => if e : i2 = i then by rw [e]; exact fun h => c52 h.2 else hb i2 (by omega)) | fail "stop"
      · refine jm_iload_n dX7_find_55 rfl rfl rfl ?_
        refine jm_iret dX7_find_56 rfl rfl ?_
        exact h1 i hi ⟨c38, c52⟩ hb
set_option maxHeartbeats 400000 in
theorem s_X7_find {Ln : Nat} {xs : Nat → Int32} {μ : jm_Mem} {Q : Option Value → jm_Mem → Prop} {p g : Int32} (h : ∀ r, om_find μ p g r → Q (some (.int r)) μ) : gJ Ln xs 2 mX7_find 0 (jm_en 4 [.ref 24, .int p, .int g]) [] μ Q := by
  show jm_J rg_I (rg_X Ln xs) 2 mX7_find 0 [some (.ref 24), some (.int p), some (.int g), none] [] μ Q
  refine jm_iload_n dX7_find_0 rfl rfl rfl ?_
  refine jm_cS1 dX7_find_1 rfl cb_X7_79 cs_X7_isPlace (Nat.le_of_ble_eq_true rfl) (Nat.le_of_ble_eq_true rfl) (by decide) (s_X7_isPlace (fun j hj e => ?_) (fun c0 => ?_))
  · subst e
    refine jm_if_eq (tgt := 19) dX7_find_4 (by decide) rfl (fun c4 => absurd c4 (by decide)) (fun c4 => ?_)
    refine jm_iload_n dX7_find_7 rfl rfl rfl ?_
    refine jm_i2l dX7_find_8 rfl ?_
    refine jm_lconst 0 dX7_find_9 rfl (by decide) ?_
    refine jm_ldc2 3 dX7_find_10 rfl kc_X7_127 ?_
    refine jm_cS3 dX7_find_13 rfl cb_X7_75 cs_X7_in (Nat.le_of_ble_eq_true rfl) (Nat.le_of_ble_eq_true rfl) (by decide) (s_X7_in g (nI 0) (nI 3) rfl (by decide) (by decide) (fun a13 b13 => ?_) (fun c13 => ?_))
    · obtain ⟨i, hi, rfl⟩ := rg_in (n := 3) (by decide) a13 b13
      refine jm_if_ne (tgt := 22) dX7_find_16 (by decide) rfl (fun c16 => ?_) (fun c16 => absurd c16 (by decide))
      refine jm_iconst (nI 0) dX7_find_22 rfl (by decide) ?_
      refine jm_istore_n dX7_find_23 rfl rfl rfl rfl ?_
      dsimp only [List.set]
      exact l_X7_find hj hi (fun k hk hx hy => h _ (Or.inr ⟨j, i, hj, hi, rfl, rfl, Or.inr ⟨k, hk, hx, hy, rfl⟩⟩)) (fun hx => h _ (Or.inr ⟨j, i, hj, hi, rfl, rfl, Or.inl ⟨hx, rfl⟩⟩)) 0 (by omega) (fun _ h => absurd h (by omega))
    · refine jm_if_ne (tgt := 22) dX7_find_16 (by decide) rfl (fun c16 => absurd c16 (by decide)) (fun c16 => ?_)
      refine jm_bipush (-101) dX7_find_19 rfl (by decide) ?_
      refine jm_iret dX7_find_21 rfl rfl ?_
      refine h _ ?_
      first | exact Or.inl ⟨Or.inl c0, rfl⟩ | exact Or.inl ⟨Or.inr (rg_nin (n := 3) (by decide) c13), rfl⟩ | fail "leaf"
  · refine jm_if_eq (tgt := 19) dX7_find_4 (by decide) rfl (fun c4 => ?_) (fun c4 => absurd c4 (by decide))
    refine jm_bipush (-101) dX7_find_19 rfl (by decide) ?_
    refine jm_iret dX7_find_21 rfl rfl ?_
    refine h _ ?_
    first | exact Or.inl ⟨Or.inl c0, rfl⟩ | exact Or.inl ⟨Or.inr (rg_nin (n := 3) (by decide) c13), rfl⟩ | fail "leaf"
set_option maxHeartbeats 400000 in
theorem s_X7_fair {Ln : Nat} {xs : Nat → Int32} {μ : jm_Mem} {Q : Option Value → jm_Mem → Prop} {a b e : Int32} {nf : Nat} (hn : μ 24 12 = nI nf) (h8 : nf ≤ 8) (h : ∀ r μ1, om_fair μ a b e r μ1 → Q (some (.int r)) μ1) : gJ Ln xs 1 mX7_fair 0 (jm_en 4 [.ref 24, .int a, .int b, .int e]) [] μ Q := by
  show jm_J rg_I (rg_X Ln xs) 1 mX7_fair 0 [some (.ref 24), some (.int a), some (.int b), some (.int e)] [] μ Q
  refine jm_iload_n dX7_fair_0 rfl rfl rfl ?_
  refine jm_i2l dX7_fair_1 rfl ?_
  refine jm_lconst 0 dX7_fair_2 rfl (by decide) ?_
  refine jm_ldc2 400 dX7_fair_3 rfl kc_X7_139 ?_
  refine jm_cS3 dX7_fair_6 rfl cb_X7_75 cs_X7_in (Nat.le_of_ble_eq_true rfl) (Nat.le_of_ble_eq_true rfl) (by decide) (s_X7_in a (nI 0) (nI 400) rfl (by decide) (by decide) (fun a6 b6 => ?_) (fun c6 => ?_))
  · refine jm_if_eq (tgt := 37) dX7_fair_9 (by decide) rfl (fun c9 => absurd c9 (by decide)) (fun c9 => ?_)
    refine jm_iload_n dX7_fair_12 rfl rfl rfl ?_
    refine jm_i2l dX7_fair_13 rfl ?_
    refine jm_iload_n dX7_fair_14 rfl rfl rfl ?_
    refine jm_i2l dX7_fair_15 rfl ?_
    refine jm_ldc2 400 dX7_fair_16 rfl kc_X7_139 ?_
    refine jm_cS3 dX7_fair_19 rfl cb_X7_75 cs_X7_in (Nat.le_of_ble_eq_true rfl) (Nat.le_of_ble_eq_true rfl) (by decide) (s_X7_in b a (nI 400) rfl rfl (by decide) (fun a19 b19 => ?_) (fun c19 => ?_))
    · refine jm_if_eq (tgt := 37) dX7_fair_22 (by decide) rfl (fun c22 => absurd c22 (by decide)) (fun c22 => ?_)
      refine jm_iload_n dX7_fair_25 rfl rfl rfl ?_
      refine jm_i2l dX7_fair_26 rfl ?_
      refine jm_lconst 0 dX7_fair_27 rfl (by decide) ?_
      refine jm_ldc2 10000 dX7_fair_28 rfl kc_X7_141 ?_
      refine jm_cS3 dX7_fair_31 rfl cb_X7_75 cs_X7_in (Nat.le_of_ble_eq_true rfl) (Nat.le_of_ble_eq_true rfl) (by decide) (s_X7_in e (nI 0) (nI 10000) rfl (by decide) (by decide) (fun a31 b31 => ?_) (fun c31 => ?_))
      · refine jm_if_ne (tgt := 40) dX7_fair_34 (by decide) rfl (fun c34 => ?_) (fun c34 => absurd c34 (by decide))
        refine jm_aload_n dX7_fair_40 rfl rfl rfl ?_
        refine jm_geti dX7_fair_41 rfl fe_X7_143 rfl rfl rfl ?_
        refine jm_bipush (nI 8) dX7_fair_44 rfl (by decide) ?_
        refine jm_icmp_ne (tgt := 52) dX7_fair_46 (by decide) rfl (fun c46 => ?_) (fun c46 => ?_)
        · have hl8 : nf < 8 := by have : nf ≠ 8 := (fun e => c46 (by rw [hn, e])); omega
          refine jm_aload_n dX7_fair_52 rfl rfl rfl ?_
          refine jm_getr dX7_fair_53 rfl fe_X7_38 rfl rfl rfl ?_
          refine jm_aload_n dX7_fair_56 rfl rfl rfl ?_
          refine jm_geti dX7_fair_57 rfl fe_X7_143 rfl rfl rfl ?_
          refine jm_iload_n dX7_fair_60 rfl rfl rfl ?_
          refine jm_iast dX7_fair_61 rfl rfl rfl (by decide) hn hl8 ?_
          refine jm_aload_n dX7_fair_62 rfl rfl rfl ?_
          refine jm_getr dX7_fair_63 rfl fe_X7_41 rfl rfl rfl ?_
          refine jm_aload_n dX7_fair_66 rfl rfl rfl ?_
          refine jm_geti dX7_fair_67 rfl fe_X7_143 rfl rfl rfl ?_
          refine jm_iload_n dX7_fair_70 rfl rfl rfl ?_
          refine jm_iast dX7_fair_71 rfl rfl rfl (by decide) (by rw [rd_na (by decide)]; exact hn) hl8 ?_
          refine jm_aload_n dX7_fair_72 rfl rfl rfl ?_
          refine jm_getr dX7_fair_73 rfl fe_X7_44 rfl rfl rfl ?_
          refine jm_aload_n dX7_fair_76 rfl rfl rfl ?_
          refine jm_geti dX7_fair_77 rfl fe_X7_143 rfl rfl rfl ?_
          refine jm_iload_n dX7_fair_80 rfl rfl rfl ?_
          refine jm_iast dX7_fair_81 rfl rfl rfl (by decide) (by rw [rd_na (by decide), rd_na (by decide)]; exact hn) hl8 ?_
          refine jm_aload_n dX7_fair_82 rfl rfl rfl ?_
          refine jm_dup dX7_fair_83 rfl rfl ?_
          refine jm_geti dX7_fair_84 rfl fe_X7_143 rfl rfl rfl ?_
          refine jm_iconst (nI 1) dX7_fair_87 rfl (by decide) ?_
          refine jm_iadd dX7_fair_88 rfl ?_
          refine jm_puti dX7_fair_89 rfl pe_X7_143 rfl rfl rfl ?_
          refine jm_aload_n dX7_fair_92 rfl rfl rfl ?_
          refine jm_geti dX7_fair_93 rfl fe_X7_143 rfl rfl rfl ?_
          refine jm_iconst (nI 1) dX7_fair_96 rfl (by decide) ?_
          refine jm_isub dX7_fair_97 rfl ?_
          refine jm_iret dX7_fair_98 rfl rfl ?_
          refine h _ _ ?_
          first | exact Or.inl ⟨Or.inl c6, rfl, rfl⟩ | exact Or.inl ⟨Or.inr (Or.inl c19), rfl, rfl⟩ | exact Or.inl ⟨Or.inr (Or.inr c31), rfl, rfl⟩ | exact Or.inr ⟨⟨a6, b6⟩, ⟨a19, b19⟩, ⟨a31, b31⟩, nf, hn, Or.inl ⟨(nI_eq (by omega) (by omega)).mp (hn ▸ c46), rfl, rfl⟩⟩ | exact Or.inr ⟨⟨a6, b6⟩, ⟨a19, b19⟩, ⟨a31, b31⟩, nf, hn, Or.inr ⟨hl8, by rw [rd_eq, rd_na (by decide), rd_na (by decide), rd_na (by decide), hn, nI_add, pk_sub (by omega)]; rfl, by rw [rd_na (by decide), rd_na (by decide), rd_na (by decide), hn, nI_add]⟩⟩ | fail "leaf"
        · refine jm_bipush (-104) dX7_fair_49 rfl (by decide) ?_
          refine jm_iret dX7_fair_51 rfl rfl ?_
          refine h _ _ ?_
          first | exact Or.inl ⟨Or.inl c6, rfl, rfl⟩ | exact Or.inl ⟨Or.inr (Or.inl c19), rfl, rfl⟩ | exact Or.inl ⟨Or.inr (Or.inr c31), rfl, rfl⟩ | exact Or.inr ⟨⟨a6, b6⟩, ⟨a19, b19⟩, ⟨a31, b31⟩, nf, hn, Or.inl ⟨(nI_eq (by omega) (by omega)).mp (hn ▸ c46), rfl, rfl⟩⟩ | exact Or.inr ⟨⟨a6, b6⟩, ⟨a19, b19⟩, ⟨a31, b31⟩, nf, hn, Or.inr ⟨hl8, by rw [rd_eq, rd_na (by decide), rd_na (by decide), rd_na (by decide), hn, nI_add, pk_sub (by omega)]; rfl, by rw [rd_na (by decide), rd_na (by decide), rd_na (by decide), hn, nI_add]⟩⟩ | fail "leaf"
      · refine jm_if_ne (tgt := 40) dX7_fair_34 (by decide) rfl (fun c34 => absurd c34 (by decide)) (fun c34 => ?_)
        refine jm_bipush (-102) dX7_fair_37 rfl (by decide) ?_
        refine jm_iret dX7_fair_39 rfl rfl ?_
        refine h _ _ ?_
        first | exact Or.inl ⟨Or.inl c6, rfl, rfl⟩ | exact Or.inl ⟨Or.inr (Or.inl c19), rfl, rfl⟩ | exact Or.inl ⟨Or.inr (Or.inr c31), rfl, rfl⟩ | exact Or.inr ⟨⟨a6, b6⟩, ⟨a19, b19⟩, ⟨a31, b31⟩, nf, hn, Or.inl ⟨(nI_eq (by omega) (by omega)).mp (hn ▸ c46), rfl, rfl⟩⟩ | exact Or.inr ⟨⟨a6, b6⟩, ⟨a19, b19⟩, ⟨a31, b31⟩, nf, hn, Or.inr ⟨hl8, by rw [rd_eq, rd_na (by decide), rd_na (by decide), rd_na (by decide), hn, nI_add, pk_sub (by omega)]; rfl, by rw [rd_na (by decide), rd_na (by decide), rd_na (by decide), hn, nI_add]⟩⟩ | fail "leaf"
    · refine jm_if_eq (tgt := 37) dX7_fair_22 (by decide) rfl (fun c22 => ?_) (fun c22 => absurd c22 (by decide))
      refine jm_bipush (-102) dX7_fair_37 rfl (by decide) ?_
      refine jm_iret dX7_fair_39 rfl rfl ?_
      refine h _ _ ?_
      first | exact Or.inl ⟨Or.inl c6, rfl, rfl⟩ | exact Or.inl ⟨Or.inr (Or.inl c19), rfl, rfl⟩ | exact Or.inl ⟨Or.inr (Or.inr c31), rfl, rfl⟩ | exact Or.inr ⟨⟨a6, b6⟩, ⟨a19, b19⟩, ⟨a31, b31⟩, nf, hn, Or.inl ⟨(nI_eq (by omega) (by omega)).mp (hn ▸ c46), rfl, rfl⟩⟩ | exact Or.inr ⟨⟨a6, b6⟩, ⟨a19, b19⟩, ⟨a31, b31⟩, nf, hn, Or.inr ⟨hl8, by rw [rd_eq, rd_na (by decide), rd_na (by decide), rd_na (by decide), hn, nI_add, pk_sub (by omega)]; rfl, by rw [rd_na (by decide), rd_na (by decide), rd_na (by decide), hn, nI_add]⟩⟩ | fail "leaf"
  · refine jm_if_eq (tgt := 37) dX7_fair_9 (by decide) rfl (fun c9 => ?_) (fun c9 => absurd c9 (by decide))
    refine jm_bipush (-102) dX7_fair_37 rfl (by decide) ?_
    refine jm_iret dX7_fair_39 rfl rfl ?_
    refine h _ _ ?_
    first | exact Or.inl ⟨Or.inl c6, rfl, rfl⟩ | exact Or.inl ⟨Or.inr (Or.inl c19), rfl, rfl⟩ | exact Or.inl ⟨Or.inr (Or.inr c31), rfl, rfl⟩ | exact Or.inr ⟨⟨a6, b6⟩, ⟨a19, b19⟩, ⟨a31, b31⟩, nf, hn, Or.inl ⟨(nI_eq (by omega) (by omega)).mp (hn ▸ c46), rfl, rfl⟩⟩ | exact Or.inr ⟨⟨a6, b6⟩, ⟨a19, b19⟩, ⟨a31, b31⟩, nf, hn, Or.inr ⟨hl8, by rw [rd_eq, rd_na (by decide), rd_na (by decide), rd_na (by decide), hn, nI_add, pk_sub (by omega)]; rfl, by rw [rd_na (by decide), rd_na (by decide), rd_na (by decide), hn, nI_add]⟩⟩ | fail "leaf"
set_option maxHeartbeats 400000 in
theorem s_X7_isFair {Ln : Nat} {xs : Nat → Int32} {μ : jm_Mem} {Q : Option Value → jm_Mem → Prop} {f : Int32} {nf : Nat} (hn : μ 24 12 = nI nf) (h8 : nf ≤ 8) (h1 : ∀ i, i < nf → f = nI i → Q (some (.int 1)) μ) (h0 : f < 0 ∨ nI nf ≤ f → Q (some (.int 0)) μ) : gJ Ln xs 1 mX7_isFair 0 (jm_en 2 [.ref 24, .int f]) [] μ Q := by
  show jm_J rg_I (rg_X Ln xs) 1 mX7_isFair 0 [some (.ref 24), some (.int f)] [] μ Q
  refine jm_iload_n dX7_isFair_0 rfl rfl rfl ?_
  refine jm_i2l dX7_isFair_1 rfl ?_
  refine jm_lconst 0 dX7_isFair_2 rfl (by decide) ?_
  refine jm_aload_n dX7_isFair_3 rfl rfl rfl ?_
  refine jm_geti dX7_isFair_4 rfl fe_X7_143 rfl rfl rfl ?_
  refine jm_iconst (nI 1) dX7_isFair_7 rfl (by decide) ?_
  refine jm_isub dX7_isFair_8 rfl ?_
  refine jm_i2l dX7_isFair_9 rfl ?_
  refine jm_cS3 dX7_isFair_10 rfl cb_X7_75 cs_X7_in (Nat.le_of_ble_eq_true rfl) (Nat.le_of_ble_eq_true rfl) (by decide) (s_X7_in f (nI 0) (μ 24 12 - nI 1) rfl (by decide) rfl (fun a10 b10 => ?_) (fun c10 => ?_))
  · rw [hn] at b10
    refine jm_iret dX7_isFair_13 rfl rfl ?_
    first | (obtain ⟨i, hi, e⟩ := rg_dep h8 a10 b10; exact h1 i hi e) | exact h0 (rg_depo h8 c10) | fail "leaf"
  · rw [hn] at c10
    refine jm_iret dX7_isFair_13 rfl rfl ?_
    first | (obtain ⟨i, hi, e⟩ := rg_dep h8 a10 b10; exact h1 i hi e) | exact h0 (rg_depo h8 c10) | fail "leaf"
set_option maxHeartbeats 400000 in
theorem s_X7_road {Ln : Nat} {xs : Nat → Int32} {μ : jm_Mem} {Q : Option Value → jm_Mem → Prop} {a b d : Int32} {nf : Nat} (hn : μ 24 12 = nI nf) (h8 : nf ≤ 8) (h : ∀ r μ1, om_road μ a b d r μ1 → Q (some (.int r)) μ1) : gJ Ln xs 2 mX7_road 0 (jm_en 5 [.ref 24, .int a, .int b, .int d]) [] μ Q := by
  show jm_J rg_I (rg_X Ln xs) 2 mX7_road 0 [some (.ref 24), some (.int a), some (.int b), some (.int d), none] [] μ Q
  refine jm_aload_n dX7_road_0 rfl rfl rfl ?_
  refine jm_iload_n dX7_road_1 rfl rfl rfl ?_
  refine jm_cV1 dX7_road_2 rfl cb_X7_146 ci_X7_isFair cv_X7_isFair rfl rfl rfl (Nat.le_of_ble_eq_true rfl) (Nat.le_of_ble_eq_true rfl) (by decide) (s_X7_isFair hn h8 (fun i hi e => ?_) (fun c0 => ?_))
  · subst e
    refine jm_if_eq (tgt := 16) dX7_road_5 (by decide) rfl (fun c5 => absurd c5 (by decide)) (fun c5 => ?_)
    refine jm_aload_n dX7_road_8 rfl rfl rfl ?_
    refine jm_iload_n dX7_road_9 rfl rfl rfl ?_
    refine jm_cV1 dX7_road_10 rfl cb_X7_146 ci_X7_isFair cv_X7_isFair rfl rfl rfl (Nat.le_of_ble_eq_true rfl) (Nat.le_of_ble_eq_true rfl) (by decide) (s_X7_isFair hn h8 (fun k hk e2 => ?_) (fun c9 => ?_))
    · subst e2
      refine jm_if_ne (tgt := 19) dX7_road_13 (by decide) rfl (fun c13 => ?_) (fun c13 => absurd c13 (by decide))
      refine jm_iload_n dX7_road_19 rfl rfl rfl ?_
      refine jm_i2l dX7_road_20 rfl ?_
      refine jm_lconst 0 dX7_road_21 rfl (by decide) ?_
      refine jm_ldc2 50 dX7_road_22 rfl kc_X7_149 ?_
      refine jm_cS3 dX7_road_25 rfl cb_X7_75 cs_X7_in (Nat.le_of_ble_eq_true rfl) (Nat.le_of_ble_eq_true rfl) (by decide) (s_X7_in d (nI 0) (nI 50) rfl (by decide) (by decide) (fun a25 b25 => ?_) (fun c25 => ?_))
      · refine jm_if_eq (tgt := 36) dX7_road_28 (by decide) rfl (fun c28 => absurd c28 (by decide)) (fun c28 => ?_)
        refine jm_iload_n dX7_road_31 rfl rfl rfl ?_
        refine jm_iload_n dX7_road_32 rfl rfl rfl ?_
        refine jm_icmp_ne (tgt := 39) dX7_road_33 (by decide) rfl (fun c33 => ?_) (fun c33 => ?_)
        · refine jm_aload_n dX7_road_39 rfl rfl rfl ?_
          refine jm_getr dX7_road_40 rfl fe_X7_47 rfl rfl rfl ?_
          refine jm_bipush (nI 8) dX7_road_43 rfl (by decide) ?_
          refine jm_iload_n dX7_road_45 rfl rfl rfl ?_
          refine jm_imul dX7_road_46 rfl ?_
          refine jm_iload_n dX7_road_47 rfl rfl rfl ?_
          refine jm_iadd dX7_road_48 rfl ?_
          refine jm_iald dX7_road_49 rfl rfl rfl (by decide) (by rw [pk_mul, nI_add]) (by omega) ?_
          refine jm_istore dX7_road_50 rfl rfl rfl ?_
          dsimp only [List.set]
          refine jm_aload_n dX7_road_52 rfl rfl rfl ?_
          refine jm_getr dX7_road_53 rfl fe_X7_47 rfl rfl rfl ?_
          refine jm_bipush (nI 8) dX7_road_56 rfl (by decide) ?_
          refine jm_iload_n dX7_road_58 rfl rfl rfl ?_
          refine jm_imul dX7_road_59 rfl ?_
          refine jm_iload_n dX7_road_60 rfl rfl rfl ?_
          refine jm_iadd dX7_road_61 rfl ?_
          refine jm_iload_n dX7_road_62 rfl rfl rfl ?_
          refine jm_iast dX7_road_63 rfl rfl rfl (by decide) (by rw [pk_mul, nI_add]) (by omega) ?_
          refine jm_aload_n dX7_road_64 rfl rfl rfl ?_
          refine jm_getr dX7_road_65 rfl fe_X7_47 rfl rfl rfl ?_
          refine jm_bipush (nI 8) dX7_road_68 rfl (by decide) ?_
          refine jm_iload_n dX7_road_70 rfl rfl rfl ?_
          refine jm_imul dX7_road_71 rfl ?_
          refine jm_iload_n dX7_road_72 rfl rfl rfl ?_
          refine jm_iadd dX7_road_73 rfl ?_
          refine jm_iload_n dX7_road_74 rfl rfl rfl ?_
          refine jm_iast dX7_road_75 rfl rfl rfl (by decide) (by rw [pk_mul, nI_add]) (by omega) ?_
          refine jm_iload dX7_road_76 rfl rfl ?_
          refine jm_iret dX7_road_78 rfl rfl ?_
          refine h _ _ ?_
          first | exact ⟨nf, hn, h8, Or.inl ⟨c0.elim (fun h => Or.inl h) (fun h => Or.inr (Or.inl h)), rfl, rfl⟩⟩ | exact ⟨nf, hn, h8, Or.inl ⟨Or.inr (Or.inr c9), rfl, rfl⟩⟩ | exact ⟨nf, hn, h8, Or.inr ⟨i, k, hi, hk, rfl, rfl, Or.inl ⟨Or.inl c25, rfl, rfl⟩⟩⟩ | exact ⟨nf, hn, h8, Or.inr ⟨i, k, hi, hk, rfl, rfl, Or.inl ⟨Or.inr ((nI_eq (by omega) (by omega)).mp c33), rfl, rfl⟩⟩⟩ | exact ⟨nf, hn, h8, Or.inr ⟨i, k, hi, hk, rfl, rfl, Or.inr ⟨⟨a25, b25⟩, fun h => c33 (by rw [h]), rfl, rfl⟩⟩⟩ | fail "leaf"
        · refine jm_bipush (-102) dX7_road_36 rfl (by decide) ?_
          refine jm_iret dX7_road_38 rfl rfl ?_
          refine h _ _ ?_
          first | exact ⟨nf, hn, h8, Or.inl ⟨c0.elim (fun h => Or.inl h) (fun h => Or.inr (Or.inl h)), rfl, rfl⟩⟩ | exact ⟨nf, hn, h8, Or.inl ⟨Or.inr (Or.inr c9), rfl, rfl⟩⟩ | exact ⟨nf, hn, h8, Or.inr ⟨i, k, hi, hk, rfl, rfl, Or.inl ⟨Or.inl c25, rfl, rfl⟩⟩⟩ | exact ⟨nf, hn, h8, Or.inr ⟨i, k, hi, hk, rfl, rfl, Or.inl ⟨Or.inr ((nI_eq (by omega) (by omega)).mp c33), rfl, rfl⟩⟩⟩ | exact ⟨nf, hn, h8, Or.inr ⟨i, k, hi, hk, rfl, rfl, Or.inr ⟨⟨a25, b25⟩, fun h => c33 (by rw [h]), rfl, rfl⟩⟩⟩ | fail "leaf"
      · refine jm_if_eq (tgt := 36) dX7_road_28 (by decide) rfl (fun c28 => ?_) (fun c28 => absurd c28 (by decide))
        refine jm_bipush (-102) dX7_road_36 rfl (by decide) ?_
        refine jm_iret dX7_road_38 rfl rfl ?_
        refine h _ _ ?_
        first | exact ⟨nf, hn, h8, Or.inl ⟨c0.elim (fun h => Or.inl h) (fun h => Or.inr (Or.inl h)), rfl, rfl⟩⟩ | exact ⟨nf, hn, h8, Or.inl ⟨Or.inr (Or.inr c9), rfl, rfl⟩⟩ | exact ⟨nf, hn, h8, Or.inr ⟨i, k, hi, hk, rfl, rfl, Or.inl ⟨Or.inl c25, rfl, rfl⟩⟩⟩ | exact ⟨nf, hn, h8, Or.inr ⟨i, k, hi, hk, rfl, rfl, Or.inl ⟨Or.inr ((nI_eq (by omega) (by omega)).mp c33), rfl, rfl⟩⟩⟩ | exact ⟨nf, hn, h8, Or.inr ⟨i, k, hi, hk, rfl, rfl, Or.inr ⟨⟨a25, b25⟩, fun h => c33 (by rw [h]), rfl, rfl⟩⟩⟩ | fail "leaf"
    · refine jm_if_ne (tgt := 19) dX7_road_13 (by decide) rfl (fun c13 => absurd c13 (by decide)) (fun c13 => ?_)
      refine jm_bipush (-101) dX7_road_16 rfl (by decide) ?_
      refine jm_iret dX7_road_18 rfl rfl ?_
      refine h _ _ ?_
      first | exact ⟨nf, hn, h8, Or.inl ⟨c0.elim (fun h => Or.inl h) (fun h => Or.inr (Or.inl h)), rfl, rfl⟩⟩ | exact ⟨nf, hn, h8, Or.inl ⟨Or.inr (Or.inr c9), rfl, rfl⟩⟩ | exact ⟨nf, hn, h8, Or.inr ⟨i, k, hi, hk, rfl, rfl, Or.inl ⟨Or.inl c25, rfl, rfl⟩⟩⟩ | exact ⟨nf, hn, h8, Or.inr ⟨i, k, hi, hk, rfl, rfl, Or.inl ⟨Or.inr ((nI_eq (by omega) (by omega)).mp c33), rfl, rfl⟩⟩⟩ | exact ⟨nf, hn, h8, Or.inr ⟨i, k, hi, hk, rfl, rfl, Or.inr ⟨⟨a25, b25⟩, fun h => c33 (by rw [h]), rfl, rfl⟩⟩⟩ | fail "leaf"
  · refine jm_if_eq (tgt := 16) dX7_road_5 (by decide) rfl (fun c5 => ?_) (fun c5 => absurd c5 (by decide))
    refine jm_bipush (-101) dX7_road_16 rfl (by decide) ?_
    refine jm_iret dX7_road_18 rfl rfl ?_
    refine h _ _ ?_
    first | exact ⟨nf, hn, h8, Or.inl ⟨c0.elim (fun h => Or.inl h) (fun h => Or.inr (Or.inl h)), rfl, rfl⟩⟩ | exact ⟨nf, hn, h8, Or.inl ⟨Or.inr (Or.inr c9), rfl, rfl⟩⟩ | exact ⟨nf, hn, h8, Or.inr ⟨i, k, hi, hk, rfl, rfl, Or.inl ⟨Or.inl c25, rfl, rfl⟩⟩⟩ | exact ⟨nf, hn, h8, Or.inr ⟨i, k, hi, hk, rfl, rfl, Or.inl ⟨Or.inr ((nI_eq (by omega) (by omega)).mp c33), rfl, rfl⟩⟩⟩ | exact ⟨nf, hn, h8, Or.inr ⟨i, k, hi, hk, rfl, rfl, Or.inr ⟨⟨a25, b25⟩, fun h => c33 (by rw [h]), rfl, rfl⟩⟩⟩ | fail "leaf"
set_option maxHeartbeats 1000000 in
theorem l_X7_turn {Ln : Nat} {xs : Nat → Int32} {μ : jm_Mem} {Q : Option Value → jm_Mem → Prop} {v : Int32} (h : Q (some (.int v)) (jm_set (jm_set (md_clr μ 12) 24 22 (μ 24 22 + 1)) 24 23 (μ 24 23 + v))) : ∀ i, i ≤ 12 → jm_J rg_I (rg_X Ln xs) 3 mX7_turn 33 [some (.ref 24), some (.int v), some (.int (nI i))] [] (md_clr μ i) Q := by
  refine jm_for 12 ?_ ?_
  · skip
    refine jm_iload_n dX7_turn_33 rfl rfl rfl ?_
    refine jm_bipush (nI 12) dX7_turn_34 rfl (by decide) ?_
    refine jm_icmp_ge (tgt := 52) dX7_turn_36 (by decide) rfl (fun c36 => ?_) (fun c36 => absurd ((nI_leI (by omega) (by omega)).mpr (Nat.le_refl _)) c36)
    refine jm_aload_n dX7_turn_52 rfl rfl rfl ?_
    refine jm_dup dX7_turn_53 rfl rfl ?_
    refine jm_geti dX7_turn_54 rfl fe_X7_166 rfl rfl rfl ?_
    refine jm_iconst (nI 1) dX7_turn_57 rfl (by decide) ?_
    refine jm_iadd dX7_turn_58 rfl ?_
    refine jm_puti dX7_turn_59 rfl pe_X7_166 rfl rfl rfl ?_
    refine jm_aload_n dX7_turn_62 rfl rfl rfl ?_
    refine jm_dup dX7_turn_63 rfl rfl ?_
    refine jm_geti dX7_turn_64 rfl fe_X7_172 rfl rfl rfl ?_
    refine jm_iload_n dX7_turn_67 rfl rfl rfl ?_
    refine jm_iadd dX7_turn_68 rfl ?_
    refine jm_puti dX7_turn_69 rfl pe_X7_172 rfl rfl rfl ?_
    refine jm_iload_n dX7_turn_72 rfl rfl rfl ?_
    refine jm_iret dX7_turn_73 rfl rfl ?_
    refine rd_q h ?_
    rw [rd_ni (by decide), md_clr_na (by decide)]; rfl
  · intro i hi ih 
    refine jm_iload_n dX7_turn_33 rfl rfl rfl ?_
    refine jm_bipush (nI 12) dX7_turn_34 rfl (by decide) ?_
    refine jm_icmp_ge (tgt := 52) dX7_turn_36 (by decide) rfl (fun c36 => absurd ((nI_leI (by omega) (by omega)).mp c36) (by omega)) (fun c36 => ?_)
    refine jm_aload_n dX7_turn_39 rfl rfl rfl ?_
    refine jm_getr dX7_turn_40 rfl fe_X7_19 rfl rfl rfl ?_
    refine jm_iload_n dX7_turn_43 rfl rfl rfl ?_
    refine jm_iconst (nI 0) dX7_turn_44 rfl (by decide) ?_
    refine jm_iast dX7_turn_45 rfl rfl rfl (by decide) rfl (by first | assumption | omega) ?_
    refine jm_iinc (nI 1) dX7_turn_46 rfl rfl (by decide) rfl rfl ?_
    dsimp only [List.set]
    refine jm_goto (n := 33) dX7_turn_49 (by decide) ?_
    rw [nI_add]; exact ih
set_option maxHeartbeats 400000 in
theorem s_X7_turn {Ln : Nat} {xs : Nat → Int32} {μ : jm_Mem} {Q : Option Value → jm_Mem → Prop}  (h : ∀ r μ1, om_turn μ  r μ1 → Q (some (.int r)) μ1) : gJ Ln xs 3 mX7_turn 0 (jm_en 3 [.ref 24]) [] μ Q := by
  show jm_J rg_I (rg_X Ln xs) 3 mX7_turn 0 [some (.ref 24), none, none] [] μ Q
  refine jm_aload_n dX7_turn_0 rfl rfl rfl ?_
  refine jm_cV0 dX7_turn_1 rfl cb_X7_104 ci_X7_mayTurn cv_X7_mayTurn rfl rfl rfl (Nat.le_of_ble_eq_true rfl) (Nat.le_of_ble_eq_true rfl) (by decide) (s_X7_mayTurn (fun cl => ?_) (fun cl => ?_))
  · refine jm_if_eq (tgt := 23) dX7_turn_4 (by decide) rfl (fun c4 => absurd c4 (by decide)) (fun c4 => ?_)
    refine jm_aload_n dX7_turn_7 rfl rfl rfl ?_
    refine jm_geti dX7_turn_8 rfl fe_X7_166 rfl rfl rfl ?_
    refine jm_iconst (nI 1) dX7_turn_11 rfl (by decide) ?_
    refine jm_iadd dX7_turn_12 rfl ?_
    refine jm_bipush (nI 10) dX7_turn_13 rfl (by decide) ?_
    refine jm_aload_n dX7_turn_15 rfl rfl rfl ?_
    refine jm_geti dX7_turn_16 rfl fe_X7_66 rfl rfl rfl ?_
    refine jm_imul dX7_turn_19 rfl ?_
    refine jm_icmp_le (tgt := 26) dX7_turn_20 (by decide) rfl (fun c20 => ?_) (fun c20 => ?_)
    · refine jm_aload_n dX7_turn_26 rfl rfl rfl ?_
      refine jm_cV0 dX7_turn_27 rfl cb_X7_169 ci_X7_riders cv_X7_riders rfl rfl rfl (Nat.le_of_ble_eq_true rfl) (Nat.le_of_ble_eq_true rfl) (by decide) (s_X7_riders ?_)
      refine jm_istore_n dX7_turn_30 rfl rfl rfl rfl ?_
      dsimp only [List.set]
      refine jm_iconst (nI 0) dX7_turn_31 rfl (by decide) ?_
      refine jm_istore_n dX7_turn_32 rfl rfl rfl rfl ?_
      dsimp only [List.set]
      exact l_X7_turn (h _ _ (Or.inr ⟨cl, c20, rfl, rfl⟩)) 0 (by omega)
    · refine jm_bipush (-103) dX7_turn_23 rfl (by decide) ?_
      refine jm_iret dX7_turn_25 rfl rfl ?_
      refine h _ _ ?_
      first | exact Or.inl ⟨Or.inl cl, rfl, rfl⟩ | exact Or.inl ⟨Or.inr c20, rfl, rfl⟩ | fail "leaf"
  · refine jm_if_eq (tgt := 23) dX7_turn_4 (by decide) rfl (fun c4 => ?_) (fun c4 => absurd c4 (by decide))
    refine jm_bipush (-103) dX7_turn_23 rfl (by decide) ?_
    refine jm_iret dX7_turn_25 rfl rfl ?_
    refine h _ _ ?_
    first | exact Or.inl ⟨Or.inl cl, rfl, rfl⟩ | exact Or.inl ⟨Or.inr c20, rfl, rfl⟩ | fail "leaf"
set_option maxHeartbeats 400000 in
theorem s_X7_look {Ln : Nat} {xs : Nat → Int32} {μ : jm_Mem} {Q : Option Value → jm_Mem → Prop}  (h : Q (some (.int (μ 24 22))) (jm_set μ 24 22 0)) : gJ Ln xs 0 mX7_look 0 (jm_en 2 [.ref 24]) [] μ Q := by
  show jm_J rg_I (rg_X Ln xs) 0 mX7_look 0 [some (.ref 24), none] [] μ Q
  refine jm_aload_n dX7_look_0 rfl rfl rfl ?_
  refine jm_geti dX7_look_1 rfl fe_X7_166 rfl rfl rfl ?_
  refine jm_istore_n dX7_look_4 rfl rfl rfl rfl ?_
  dsimp only [List.set]
  refine jm_aload_n dX7_look_5 rfl rfl rfl ?_
  refine jm_iconst (nI 0) dX7_look_6 rfl (by decide) ?_
  refine jm_puti dX7_look_7 rfl pe_X7_166 rfl rfl rfl ?_
  refine jm_iload_n dX7_look_10 rfl rfl rfl ?_
  refine jm_iret dX7_look_11 rfl rfl ?_
  exact h
set_option maxHeartbeats 400000 in
theorem s_X7_hours {Ln : Nat} {xs : Nat → Int32} {μ : jm_Mem} {Q : Option Value → jm_Mem → Prop} {v : Int32} (h : ∀ r μ1, om_hours μ v r μ1 → Q (some (.int r)) μ1) : gJ Ln xs 1 mX7_hours 0 (jm_en 3 [.ref 24, .int v]) [] μ Q := by
  show jm_J rg_I (rg_X Ln xs) 1 mX7_hours 0 [some (.ref 24), some (.int v), none] [] μ Q
  refine jm_iload_n dX7_hours_0 rfl rfl rfl ?_
  refine jm_i2l dX7_hours_1 rfl ?_
  refine jm_lconst 1 dX7_hours_2 rfl (by decide) ?_
  refine jm_ldc2 1000 dX7_hours_3 rfl kc_X7_175 ?_
  refine jm_cS3 dX7_hours_6 rfl cb_X7_75 cs_X7_in (Nat.le_of_ble_eq_true rfl) (Nat.le_of_ble_eq_true rfl) (by decide) (s_X7_in v (nI 1) (nI 1000) rfl (by decide) (by decide) (fun a6 b6 => ?_) (fun c6 => ?_))
  · refine jm_if_ne (tgt := 15) dX7_hours_9 (by decide) rfl (fun c9 => ?_) (fun c9 => absurd c9 (by decide))
    refine jm_aload_n dX7_hours_15 rfl rfl rfl ?_
    refine jm_geti dX7_hours_16 rfl fe_X7_66 rfl rfl rfl ?_
    refine jm_istore_n dX7_hours_19 rfl rfl rfl rfl ?_
    dsimp only [List.set]
    refine jm_aload_n dX7_hours_20 rfl rfl rfl ?_
    refine jm_iload_n dX7_hours_21 rfl rfl rfl ?_
    refine jm_puti dX7_hours_22 rfl pe_X7_66 rfl rfl rfl ?_
    refine jm_iload_n dX7_hours_25 rfl rfl rfl ?_
    refine jm_iret dX7_hours_26 rfl rfl ?_
    refine h _ _ ?_
    first | exact Or.inl ⟨c6, rfl, rfl⟩ | exact Or.inr ⟨⟨a6, b6⟩, rfl, rfl⟩ | fail "leaf"
  · refine jm_if_ne (tgt := 15) dX7_hours_9 (by decide) rfl (fun c9 => absurd c9 (by decide)) (fun c9 => ?_)
    refine jm_bipush (-102) dX7_hours_12 rfl (by decide) ?_
    refine jm_iret dX7_hours_14 rfl rfl ?_
    refine h _ _ ?_
    first | exact Or.inl ⟨c6, rfl, rfl⟩ | exact Or.inr ⟨⟨a6, b6⟩, rfl, rfl⟩ | fail "leaf"
set_option maxHeartbeats 400000 in
theorem s_X7_come {Ln : Nat} {xs : Nat → Int32} {μ : jm_Mem} {Q : Option Value → jm_Mem → Prop} {v : Int32} {nw : Nat} (hw : μ 24 24 = nI nw) (hl : nw ≤ 100) (h : ∀ r μ1, om_come μ v r μ1 → Q (some (.int r)) μ1) : gJ Ln xs 2 mX7_come 0 (jm_en 2 [.ref 24, .int v]) [] μ Q := by
  show jm_J rg_I (rg_X Ln xs) 2 mX7_come 0 [some (.ref 24), some (.int v)] [] μ Q
  refine jm_iload_n dX7_come_0 rfl rfl rfl ?_
  refine jm_cS1 dX7_come_1 rfl cb_X7_110 cs_X7_isRider (Nat.le_of_ble_eq_true rfl) (Nat.le_of_ble_eq_true rfl) (by decide) (s_X7_isRider (fun a1 b1 => ?_) (fun c1 => ?_))
  · refine jm_if_ne (tgt := 10) dX7_come_4 (by decide) rfl (fun c4 => ?_) (fun c4 => absurd c4 (by decide))
    refine jm_aload_n dX7_come_10 rfl rfl rfl ?_
    refine jm_geti dX7_come_11 rfl fe_X7_177 rfl rfl rfl ?_
    refine jm_bipush (nI 100) dX7_come_14 rfl (by decide) ?_
    refine jm_icmp_ne (tgt := 22) dX7_come_16 (by decide) rfl (fun c16 => ?_) (fun c16 => ?_)
    · have hl1 : nw < 100 := by have : nw ≠ 100 := (fun e => c16 (by rw [hw, e])); omega
      refine jm_aload_n dX7_come_22 rfl rfl rfl ?_
      refine jm_getr dX7_come_23 rfl fe_X7_56 rfl rfl rfl ?_
      refine jm_aload_n dX7_come_26 rfl rfl rfl ?_
      refine jm_geti dX7_come_27 rfl fe_X7_177 rfl rfl rfl ?_
      refine jm_iload_n dX7_come_30 rfl rfl rfl ?_
      refine jm_iast dX7_come_31 rfl rfl rfl (by decide) hw hl1 ?_
      refine jm_aload_n dX7_come_32 rfl rfl rfl ?_
      refine jm_dup dX7_come_33 rfl rfl ?_
      refine jm_geti dX7_come_34 rfl fe_X7_177 rfl rfl rfl ?_
      refine jm_iconst (nI 1) dX7_come_37 rfl (by decide) ?_
      refine jm_iadd dX7_come_38 rfl ?_
      refine jm_puti dX7_come_39 rfl pe_X7_177 rfl rfl rfl ?_
      refine jm_aload_n dX7_come_42 rfl rfl rfl ?_
      refine jm_geti dX7_come_43 rfl fe_X7_177 rfl rfl rfl ?_
      refine jm_iret dX7_come_46 rfl rfl ?_
      refine h _ _ ?_
      first | exact Or.inl ⟨c1, rfl, rfl⟩ | exact Or.inr ⟨⟨a1, b1⟩, nw, hw, Or.inl ⟨(nI_eq (by omega) (by omega)).mp (hw ▸ c16), rfl, rfl⟩⟩ | exact Or.inr ⟨⟨a1, b1⟩, nw, hw, Or.inr ⟨hl1, by rw [rd_eq, rd_na (by decide), hw, nI_add], by rw [rd_na (by decide), hw, nI_add]⟩⟩ | fail "leaf"
    · refine jm_bipush (-104) dX7_come_19 rfl (by decide) ?_
      refine jm_iret dX7_come_21 rfl rfl ?_
      refine h _ _ ?_
      first | exact Or.inl ⟨c1, rfl, rfl⟩ | exact Or.inr ⟨⟨a1, b1⟩, nw, hw, Or.inl ⟨(nI_eq (by omega) (by omega)).mp (hw ▸ c16), rfl, rfl⟩⟩ | exact Or.inr ⟨⟨a1, b1⟩, nw, hw, Or.inr ⟨hl1, by rw [rd_eq, rd_na (by decide), hw, nI_add], by rw [rd_na (by decide), hw, nI_add]⟩⟩ | fail "leaf"
  · refine jm_if_ne (tgt := 10) dX7_come_4 (by decide) rfl (fun c4 => absurd c4 (by decide)) (fun c4 => ?_)
    refine jm_bipush (-102) dX7_come_7 rfl (by decide) ?_
    refine jm_iret dX7_come_9 rfl rfl ?_
    refine h _ _ ?_
    first | exact Or.inl ⟨c1, rfl, rfl⟩ | exact Or.inr ⟨⟨a1, b1⟩, nw, hw, Or.inl ⟨(nI_eq (by omega) (by omega)).mp (hw ▸ c16), rfl, rfl⟩⟩ | exact Or.inr ⟨⟨a1, b1⟩, nw, hw, Or.inr ⟨hl1, by rw [rd_eq, rd_na (by decide), hw, nI_add], by rw [rd_na (by decide), hw, nI_add]⟩⟩ | fail "leaf"
set_option maxHeartbeats 400000 in
theorem s_X7_book {Ln : Nat} {xs : Nat → Int32} {μ : jm_Mem} {Q : Option Value → jm_Mem → Prop} {v : Int32} (h : ∀ r μ1, om_book μ v r μ1 → Q (some (.int r)) μ1) : gJ Ln xs 1 mX7_book 0 (jm_en 3 [.ref 24, .int v]) [] μ Q := by
  show jm_J rg_I (rg_X Ln xs) 1 mX7_book 0 [some (.ref 24), some (.int v), none] [] μ Q
  refine jm_iload_n dX7_book_0 rfl rfl rfl ?_
  refine jm_i2l dX7_book_1 rfl ?_
  refine jm_lconst 0 dX7_book_2 rfl (by decide) ?_
  refine jm_ldc2 100000 dX7_book_3 rfl kc_X7_180 ?_
  refine jm_cS3 dX7_book_6 rfl cb_X7_75 cs_X7_in (Nat.le_of_ble_eq_true rfl) (Nat.le_of_ble_eq_true rfl) (by decide) (s_X7_in v (nI 0) 100000 rfl (by decide) (by decide) (fun a6 b6 => ?_) (fun c6 => ?_))
  · refine jm_if_ne (tgt := 15) dX7_book_9 (by decide) rfl (fun c9 => ?_) (fun c9 => absurd c9 (by decide))
    refine jm_aload_n dX7_book_15 rfl rfl rfl ?_
    refine jm_geti dX7_book_16 rfl fe_X7_172 rfl rfl rfl ?_
    refine jm_istore_n dX7_book_19 rfl rfl rfl rfl ?_
    dsimp only [List.set]
    refine jm_aload_n dX7_book_20 rfl rfl rfl ?_
    refine jm_iconst (nI 0) dX7_book_21 rfl (by decide) ?_
    refine jm_puti dX7_book_22 rfl pe_X7_172 rfl rfl rfl ?_
    refine jm_iload_n dX7_book_25 rfl rfl rfl ?_
    refine jm_iload_n dX7_book_26 rfl rfl rfl ?_
    refine jm_isub dX7_book_27 rfl ?_
    refine jm_iret dX7_book_28 rfl rfl ?_
    refine h _ _ ?_
    first | exact Or.inl ⟨c6, rfl, rfl⟩ | exact Or.inr ⟨⟨a6, b6⟩, rfl, rfl⟩ | fail "leaf"
  · refine jm_if_ne (tgt := 15) dX7_book_9 (by decide) rfl (fun c9 => absurd c9 (by decide)) (fun c9 => ?_)
    refine jm_bipush (-102) dX7_book_12 rfl (by decide) ?_
    refine jm_iret dX7_book_14 rfl rfl ?_
    refine h _ _ ?_
    first | exact Or.inl ⟨c6, rfl, rfl⟩ | exact Or.inr ⟨⟨a6, b6⟩, rfl, rfl⟩ | fail "leaf"
set_option maxHeartbeats 1000000 in
theorem l_X7_next {Ln : Nat} {xs : Nat → Int32} {μ : jm_Mem} {Q : Option Value → jm_Mem → Prop} {v : Int32} {nw : Nat} (hl : nw < 100) (hw : μ 24 24 = nI nw) (h : Q (some (.int v)) (md_shf μ nw)) : ∀ i, i ≤ nw → jm_J rg_I (rg_X Ln xs) 5 mX7_next 51 [some (.ref 24), some (.int v), some (.int (nI i))] [] (md_shf μ i) Q := by
  refine jm_for nw ?_ ?_
  · skip
    refine jm_iload_n dX7_next_51 rfl rfl rfl ?_
    refine jm_aload_n dX7_next_52 rfl rfl rfl ?_
    refine jm_geti dX7_next_53 rfl fe_X7_177 rfl rfl rfl ?_
    refine jm_icmp_ge (tgt := 79) dX7_next_56 (by decide) rfl (fun c56 => ?_) (fun c56 => absurd (by rw [md_shf_na (by decide), hw]; exact (nI_leI (by omega) (by omega)).mpr (Nat.le_refl _)) c56)
    refine jm_iload_n dX7_next_79 rfl rfl rfl ?_
    refine jm_iret dX7_next_80 rfl rfl ?_
    exact h
  · intro i hi ih 
    refine jm_iload_n dX7_next_51 rfl rfl rfl ?_
    refine jm_aload_n dX7_next_52 rfl rfl rfl ?_
    refine jm_geti dX7_next_53 rfl fe_X7_177 rfl rfl rfl ?_
    refine jm_icmp_ge (tgt := 79) dX7_next_56 (by decide) rfl (fun c56 => absurd ((nI_leI (a := nw) (b := i) (by omega) (by omega)).mp (by rw [md_shf_na (by decide), hw] at c56; exact c56)) (by omega)) (fun c56 => ?_)
    refine jm_aload_n dX7_next_59 rfl rfl rfl ?_
    refine jm_getr dX7_next_60 rfl fe_X7_56 rfl rfl rfl ?_
    refine jm_iload_n dX7_next_63 rfl rfl rfl ?_
    refine jm_aload_n dX7_next_64 rfl rfl rfl ?_
    refine jm_getr dX7_next_65 rfl fe_X7_56 rfl rfl rfl ?_
    refine jm_iload_n dX7_next_68 rfl rfl rfl ?_
    refine jm_iconst (nI 1) dX7_next_69 rfl (by decide) ?_
    refine jm_iadd dX7_next_70 rfl ?_
    refine jm_iald dX7_next_71 rfl rfl rfl (by decide) (nI_add _ _) (by omega) ?_
    refine jm_iast dX7_next_72 rfl rfl rfl (by decide) rfl (by first | assumption | omega) ?_
    refine jm_iinc (nI 1) dX7_next_73 rfl rfl (by decide) rfl rfl ?_
    dsimp only [List.set]
    refine jm_goto (n := 51) dX7_next_76 (by decide) ?_
    rw [nI_add]; exact ih
set_option maxHeartbeats 400000 in
theorem s_X7_next {Ln : Nat} {xs : Nat → Int32} {μ : jm_Mem} {Q : Option Value → jm_Mem → Prop} {nw : Nat} (hw : μ 24 24 = nI nw) (hl : nw ≤ 100) (h : ∀ r μ1, om_next μ  r μ1 → Q (some (.int r)) μ1) : gJ Ln xs 5 mX7_next 0 (jm_en 3 [.ref 24]) [] μ Q := by
  show jm_J rg_I (rg_X Ln xs) 5 mX7_next 0 [some (.ref 24), none, none] [] μ Q
  refine jm_aload_n dX7_next_0 rfl rfl rfl ?_
  refine jm_geti dX7_next_1 rfl fe_X7_177 rfl rfl rfl ?_
  refine jm_if_ne (tgt := 11) dX7_next_4 (by decide) rfl (fun c4 => ?_) (fun c4 => ?_)
  · obtain ⟨n, rfl⟩ : ∃ n, nw = n + 1 := ⟨nw - 1, by have : nw ≠ 0 := (fun e => c4 (by rw [hw, e]; rfl)); omega⟩
    refine jm_aload_n dX7_next_11 rfl rfl rfl ?_
    refine jm_aload_n dX7_next_12 rfl rfl rfl ?_
    refine jm_getr dX7_next_13 rfl fe_X7_56 rfl rfl rfl ?_
    refine jm_iconst (nI 0) dX7_next_16 rfl (by decide) ?_
    refine jm_iald dX7_next_17 rfl rfl rfl (by decide) rfl (by decide) ?_
    refine jm_cV1 dX7_next_18 rfl cb_X7_124 ci_X7_bestOf cv_X7_bestOf rfl rfl rfl (Nat.le_of_ble_eq_true rfl) (Nat.le_of_ble_eq_true rfl) (by decide) (s_X7_bestOf ?_)
    refine jm_istore_n dX7_next_21 rfl rfl rfl rfl ?_
    dsimp only [List.set]
    refine jm_iload_n dX7_next_22 rfl rfl rfl ?_
    refine jm_iconst (-1) dX7_next_23 rfl (by decide) ?_
    refine jm_icmp_eq (tgt := 79) dX7_next_24 (by decide) rfl (fun c24 => ?_) (fun c24 => ?_)
    · refine jm_iload_n dX7_next_79 rfl rfl rfl ?_
      refine jm_iret dX7_next_80 rfl rfl ?_
      refine h _ _ ?_
      first | exact Or.inl ⟨c4, rfl, rfl⟩ | exact Or.inr ⟨n, by omega, hw, Or.inl ⟨c24, c24, rfl⟩⟩ | fail "leaf"
    · obtain ⟨j, hj, hok, ej⟩ := (rg_bst_ix 12).resolve_left c24
      rw [ej]
      refine jm_aload_n dX7_next_27 rfl rfl rfl ?_
      refine jm_getr dX7_next_28 rfl fe_X7_19 rfl rfl rfl ?_
      refine jm_iload_n dX7_next_31 rfl rfl rfl ?_
      refine jm_aload_n dX7_next_32 rfl rfl rfl ?_
      refine jm_getr dX7_next_33 rfl fe_X7_56 rfl rfl rfl ?_
      refine jm_iconst (nI 0) dX7_next_36 rfl (by decide) ?_
      refine jm_iald dX7_next_37 rfl rfl rfl (by decide) rfl (by decide) ?_
      refine jm_iast dX7_next_38 rfl rfl rfl (by decide) rfl (by first | assumption | omega) ?_
      refine jm_aload_n dX7_next_39 rfl rfl rfl ?_
      refine jm_dup dX7_next_40 rfl rfl ?_
      refine jm_geti dX7_next_41 rfl fe_X7_177 rfl rfl rfl ?_
      refine jm_iconst (nI 1) dX7_next_44 rfl (by decide) ?_
      refine jm_isub dX7_next_45 rfl ?_
      refine jm_puti dX7_next_46 rfl pe_X7_177 rfl rfl rfl ?_
      refine jm_iconst (nI 0) dX7_next_49 rfl (by decide) ?_
      refine jm_istore_n dX7_next_50 rfl rfl rfl rfl ?_
      dsimp only [List.set]
      rw [rd_na (by decide), hw, pk_sub (by omega)]
      exact l_X7_next (μ := jm_set (jm_set μ 28 j (μ 40 0)) 24 24 (nI n)) (by omega) rd_eq (h _ _ (Or.inr ⟨n, by omega, hw, Or.inr ⟨j, hj, ej, rfl, rfl⟩⟩)) 0 (by omega)
  · refine jm_iconst (-1) dX7_next_7 rfl (by decide) ?_
    refine jm_goto (n := 21) dX7_next_8 (by decide) ?_
    refine jm_istore_n dX7_next_21 rfl rfl rfl rfl ?_
    dsimp only [List.set]
    refine jm_iload_n dX7_next_22 rfl rfl rfl ?_
    refine jm_iconst (-1) dX7_next_23 rfl (by decide) ?_
    refine jm_icmp_eq (tgt := 79) dX7_next_24 (by decide) rfl (fun c24 => ?_) (fun c24 => absurd c24 (by decide))
    refine jm_iload_n dX7_next_79 rfl rfl rfl ?_
    refine jm_iret dX7_next_80 rfl rfl ?_
    refine h _ _ ?_
    first | exact Or.inl ⟨c4, rfl, rfl⟩ | exact Or.inr ⟨n, by omega, hw, Or.inl ⟨c24, c24, rfl⟩⟩ | fail "leaf"
set_option maxHeartbeats 400000 in
theorem s_X7_law {Ln : Nat} {xs : Nat → Int32} {μ : jm_Mem} {Q : Option Value → jm_Mem → Prop} {x v : Int32} (h : ∀ r μ1, om_law μ x v r μ1 → Q (some (.int r)) μ1) : gJ Ln xs 1 mX7_law 0 (jm_en 4 [.ref 24, .int x, .int v]) [] μ Q := by
  show jm_J rg_I (rg_X Ln xs) 1 mX7_law 0 [some (.ref 24), some (.int x), some (.int v), none] [] μ Q
  refine jm_iload_n dX7_law_0 rfl rfl rfl ?_
  refine jm_i2l dX7_law_1 rfl ?_
  refine jm_lconst 0 dX7_law_2 rfl (by decide) ?_
  refine jm_lconst 1 dX7_law_3 rfl (by decide) ?_
  refine jm_cS3 dX7_law_4 rfl cb_X7_75 cs_X7_in (Nat.le_of_ble_eq_true rfl) (Nat.le_of_ble_eq_true rfl) (by decide) (s_X7_in x (nI 0) (nI 1) rfl (by decide) (by decide) (fun a4 b4 => ?_) (fun c4 => ?_))
  · refine jm_if_ne (tgt := 13) dX7_law_7 (by decide) rfl (fun c7 => ?_) (fun c7 => absurd c7 (by decide))
    refine jm_iload_n dX7_law_13 rfl rfl rfl ?_
    refine jm_i2l dX7_law_14 rfl ?_
    refine jm_lconst 0 dX7_law_15 rfl (by decide) ?_
    refine jm_iload_n dX7_law_16 rfl rfl rfl ?_
    refine jm_if_ne (tgt := 26) dX7_law_17 (by decide) rfl (fun c17 => ?_) (fun c17 => ?_)
    · have hx1 : x = 1 := by
        obtain ⟨i, hi, e⟩ := rg_in (n := 1) (by decide) a4 b4
        obtain rfl | rfl : i = 0 ∨ i = 1 := by omega
        · exact absurd e c17
        · exact e
      refine jm_ldc2 5000 dX7_law_26 rfl kc_X7_119 ?_
      refine jm_cS3 dX7_law_29 rfl cb_X7_75 cs_X7_in (Nat.le_of_ble_eq_true rfl) (Nat.le_of_ble_eq_true rfl) (by decide) (s_X7_in v (nI 0) (nI 5000) rfl (by decide) (by decide) (fun a29 b29 => ?_) (fun c29 => ?_))
      · refine jm_if_ne (tgt := 38) dX7_law_32 (by decide) rfl (fun c32 => ?_) (fun c32 => absurd c32 (by decide))
        refine jm_iload_n dX7_law_38 rfl rfl rfl ?_
        refine jm_if_ne (tgt := 49) dX7_law_39 (by decide) rfl (fun c39 => ?_) (fun c39 => absurd c39 c17)
        refine jm_aload_n dX7_law_49 rfl rfl rfl ?_
        refine jm_geti dX7_law_50 rfl fe_X7_63 rfl rfl rfl ?_
        refine jm_istore_n dX7_law_53 rfl rfl rfl rfl ?_
        dsimp only [List.set]
        refine jm_iload_n dX7_law_54 rfl rfl rfl ?_
        refine jm_if_ne (tgt := 66) dX7_law_55 (by decide) rfl (fun c55 => ?_) (fun c55 => absurd c55 c17)
        refine jm_aload_n dX7_law_66 rfl rfl rfl ?_
        refine jm_iload_n dX7_law_67 rfl rfl rfl ?_
        refine jm_puti dX7_law_68 rfl pe_X7_63 rfl rfl rfl ?_
        refine jm_iload_n dX7_law_71 rfl rfl rfl ?_
        refine jm_iret dX7_law_72 rfl rfl ?_
        refine h _ _ ?_
        first | exact Or.inr (Or.inr ⟨fun e => by rcases c4 with c | c; exact absurd c (by rw [e]; decide); exact absurd c (by rw [e]; decide), fun e => by rcases c4 with c | c; exact absurd c (by rw [e]; decide); exact absurd c (by rw [e]; decide), rfl, rfl⟩) | exact Or.inl ⟨c17, Or.inl ⟨c29, rfl, rfl⟩⟩ | exact Or.inl ⟨c17, Or.inr ⟨⟨a29, b29⟩, rfl, rfl⟩⟩ | exact Or.inr (Or.inl ⟨hx1, Or.inl ⟨c29, rfl, rfl⟩⟩) | exact Or.inr (Or.inl ⟨hx1, Or.inr ⟨⟨a29, b29⟩, rfl, rfl⟩⟩) | fail "leaf"
      · refine jm_if_ne (tgt := 38) dX7_law_32 (by decide) rfl (fun c32 => absurd c32 (by decide)) (fun c32 => ?_)
        refine jm_bipush (-102) dX7_law_35 rfl (by decide) ?_
        refine jm_iret dX7_law_37 rfl rfl ?_
        refine h _ _ ?_
        first | exact Or.inr (Or.inr ⟨fun e => by rcases c4 with c | c; exact absurd c (by rw [e]; decide); exact absurd c (by rw [e]; decide), fun e => by rcases c4 with c | c; exact absurd c (by rw [e]; decide); exact absurd c (by rw [e]; decide), rfl, rfl⟩) | exact Or.inl ⟨c17, Or.inl ⟨c29, rfl, rfl⟩⟩ | exact Or.inl ⟨c17, Or.inr ⟨⟨a29, b29⟩, rfl, rfl⟩⟩ | exact Or.inr (Or.inl ⟨hx1, Or.inl ⟨c29, rfl, rfl⟩⟩) | exact Or.inr (Or.inl ⟨hx1, Or.inr ⟨⟨a29, b29⟩, rfl, rfl⟩⟩) | fail "leaf"
    · refine jm_ldc2 30000 dX7_law_20 rfl kc_X7_117 ?_
      refine jm_goto (n := 29) dX7_law_23 (by decide) ?_
      refine jm_cS3 dX7_law_29 rfl cb_X7_75 cs_X7_in (Nat.le_of_ble_eq_true rfl) (Nat.le_of_ble_eq_true rfl) (by decide) (s_X7_in v (nI 0) (nI 30000) rfl (by decide) (by decide) (fun a29 b29 => ?_) (fun c29 => ?_))
      · refine jm_if_ne (tgt := 38) dX7_law_32 (by decide) rfl (fun c32 => ?_) (fun c32 => absurd c32 (by decide))
        refine jm_iload_n dX7_law_38 rfl rfl rfl ?_
        refine jm_if_ne (tgt := 49) dX7_law_39 (by decide) rfl (fun c39 => absurd c17 c39) (fun c39 => ?_)
        refine jm_aload_n dX7_law_42 rfl rfl rfl ?_
        refine jm_geti dX7_law_43 rfl fe_X7_59 rfl rfl rfl ?_
        refine jm_goto (n := 53) dX7_law_46 (by decide) ?_
        refine jm_istore_n dX7_law_53 rfl rfl rfl rfl ?_
        dsimp only [List.set]
        refine jm_iload_n dX7_law_54 rfl rfl rfl ?_
        refine jm_if_ne (tgt := 66) dX7_law_55 (by decide) rfl (fun c55 => absurd c17 c55) (fun c55 => ?_)
        refine jm_aload_n dX7_law_58 rfl rfl rfl ?_
        refine jm_iload_n dX7_law_59 rfl rfl rfl ?_
        refine jm_puti dX7_law_60 rfl pe_X7_59 rfl rfl rfl ?_
        refine jm_goto (n := 71) dX7_law_63 (by decide) ?_
        refine jm_iload_n dX7_law_71 rfl rfl rfl ?_
        refine jm_iret dX7_law_72 rfl rfl ?_
        refine h _ _ ?_
        first | exact Or.inr (Or.inr ⟨fun e => by rcases c4 with c | c; exact absurd c (by rw [e]; decide); exact absurd c (by rw [e]; decide), fun e => by rcases c4 with c | c; exact absurd c (by rw [e]; decide); exact absurd c (by rw [e]; decide), rfl, rfl⟩) | exact Or.inl ⟨c17, Or.inl ⟨c29, rfl, rfl⟩⟩ | exact Or.inl ⟨c17, Or.inr ⟨⟨a29, b29⟩, rfl, rfl⟩⟩ | exact Or.inr (Or.inl ⟨hx1, Or.inl ⟨c29, rfl, rfl⟩⟩) | exact Or.inr (Or.inl ⟨hx1, Or.inr ⟨⟨a29, b29⟩, rfl, rfl⟩⟩) | fail "leaf"
      · refine jm_if_ne (tgt := 38) dX7_law_32 (by decide) rfl (fun c32 => absurd c32 (by decide)) (fun c32 => ?_)
        refine jm_bipush (-102) dX7_law_35 rfl (by decide) ?_
        refine jm_iret dX7_law_37 rfl rfl ?_
        refine h _ _ ?_
        first | exact Or.inr (Or.inr ⟨fun e => by rcases c4 with c | c; exact absurd c (by rw [e]; decide); exact absurd c (by rw [e]; decide), fun e => by rcases c4 with c | c; exact absurd c (by rw [e]; decide); exact absurd c (by rw [e]; decide), rfl, rfl⟩) | exact Or.inl ⟨c17, Or.inl ⟨c29, rfl, rfl⟩⟩ | exact Or.inl ⟨c17, Or.inr ⟨⟨a29, b29⟩, rfl, rfl⟩⟩ | exact Or.inr (Or.inl ⟨hx1, Or.inl ⟨c29, rfl, rfl⟩⟩) | exact Or.inr (Or.inl ⟨hx1, Or.inr ⟨⟨a29, b29⟩, rfl, rfl⟩⟩) | fail "leaf"
  · refine jm_if_ne (tgt := 13) dX7_law_7 (by decide) rfl (fun c7 => absurd c7 (by decide)) (fun c7 => ?_)
    refine jm_bipush (-101) dX7_law_10 rfl (by decide) ?_
    refine jm_iret dX7_law_12 rfl rfl ?_
    refine h _ _ ?_
    first | exact Or.inr (Or.inr ⟨fun e => by rcases c4 with c | c; exact absurd c (by rw [e]; decide); exact absurd c (by rw [e]; decide), fun e => by rcases c4 with c | c; exact absurd c (by rw [e]; decide); exact absurd c (by rw [e]; decide), rfl, rfl⟩) | exact Or.inl ⟨c17, Or.inl ⟨c29, rfl, rfl⟩⟩ | exact Or.inl ⟨c17, Or.inr ⟨⟨a29, b29⟩, rfl, rfl⟩⟩ | exact Or.inr (Or.inl ⟨hx1, Or.inl ⟨c29, rfl, rfl⟩⟩) | exact Or.inr (Or.inl ⟨hx1, Or.inr ⟨⟨a29, b29⟩, rfl, rfl⟩⟩) | fail "leaf"
set_option maxHeartbeats 1000000 in
theorem l_X7_count {Ln : Nat} {xs : Nat → Int32} {μ : jm_Mem} {Q : Option Value → jm_Mem → Prop}  (h : Q (some (.int (md_sum μ 12))) μ) : ∀ i, i ≤ 12 → ∀ (v1 : Int32), jm_J rg_I (rg_X Ln xs) 1 mX7_count 82 [some (.ref 24), some (.int v1), some (.int (md_sum μ i)), some (.int (nI i))] [] μ Q := by
  refine jm_for 12 ?_ ?_
  · intro v1
    refine jm_iload_n dX7_count_82 rfl rfl rfl ?_
    refine jm_bipush (nI 12) dX7_count_83 rfl (by decide) ?_
    refine jm_icmp_ge (tgt := 102) dX7_count_85 (by decide) rfl (fun c85 => ?_) (fun c85 => absurd ((nI_leI (by omega) (by omega)).mpr (Nat.le_refl _)) c85)
    refine jm_iload_n dX7_count_102 rfl rfl rfl ?_
    refine jm_iret dX7_count_103 rfl rfl ?_
    exact h
  · intro i hi ih v1
    refine jm_iload_n dX7_count_82 rfl rfl rfl ?_
    refine jm_bipush (nI 12) dX7_count_83 rfl (by decide) ?_
    refine jm_icmp_ge (tgt := 102) dX7_count_85 (by decide) rfl (fun c85 => absurd ((nI_leI (by omega) (by omega)).mp c85) (by omega)) (fun c85 => ?_)
    refine jm_iload_n dX7_count_88 rfl rfl rfl ?_
    refine jm_aload_n dX7_count_89 rfl rfl rfl ?_
    refine jm_iload_n dX7_count_90 rfl rfl rfl ?_
    refine jm_cV1 dX7_count_91 rfl cb_X7_94 ci_X7_load cv_X7_load rfl rfl rfl (Nat.le_of_ble_eq_true rfl) (Nat.le_of_ble_eq_true rfl) (by decide) (s_X7_load hi ?_)
    refine jm_iadd dX7_count_94 rfl ?_
    refine jm_istore_n dX7_count_95 rfl rfl rfl rfl ?_
    dsimp only [List.set]
    refine jm_iinc (nI 1) dX7_count_96 rfl rfl (by decide) rfl rfl ?_
    dsimp only [List.set]
    refine jm_goto (n := 82) dX7_count_99 (by decide) ?_
    rw [nI_add]; exact ih v1
set_option maxHeartbeats 400000 in
theorem s_X7_count {Ln : Nat} {xs : Nat → Int32} {μ : jm_Mem} {Q : Option Value → jm_Mem → Prop} {x : Int32} (h : ∀ r, om_count μ x r → Q (some (.int r)) μ) : gJ Ln xs 1 mX7_count 0 (jm_en 4 [.ref 24, .int x]) [] μ Q := by
  show jm_J rg_I (rg_X Ln xs) 1 mX7_count 0 [some (.ref 24), some (.int x), none, none] [] μ Q
  rcases pk_ix x (n := 8) (by decide) with hx | hx | ⟨k, hk, rfl⟩
  · refine jm_iload_n dX7_count_0 rfl rfl rfl ?_
    refine jm_tabOut (n := 109) dX7_count_1 (Or.inl (by have := Int32.lt_iff_toInt_lt.mp hx; simpa using this)) (by decide) ?_
    refine jm_bipush (-102) dX7_count_109 rfl (by decide) ?_
    refine jm_iret dX7_count_111 rfl rfl ?_
    refine h _ (Or.inr (Or.inr (Or.inr (Or.inr (Or.inr (Or.inr (Or.inr (Or.inr ⟨Or.inl hx, rfl⟩))))))))
  · refine jm_iload_n dX7_count_0 rfl rfl rfl ?_
    refine jm_tabOut (n := 109) dX7_count_1 (Or.inr (by have := Int32.le_iff_toInt_le.mp hx; rw [nI_toInt (by decide)] at this; omega)) (by decide) ?_
    refine jm_bipush (-102) dX7_count_109 rfl (by decide) ?_
    refine jm_iret dX7_count_111 rfl rfl ?_
    refine h _ (Or.inr (Or.inr (Or.inr (Or.inr (Or.inr (Or.inr (Or.inr (Or.inr ⟨Or.inr hx, rfl⟩))))))))
  · obtain rfl | rfl | rfl | rfl | rfl | rfl | rfl | rfl : k = 0 ∨ k = 1 ∨ k = 2 ∨ k = 3 ∨ k = 4 ∨ k = 5 ∨ k = 6 ∨ k = 7 := by omega
    · refine jm_iload_n dX7_count_0 rfl rfl rfl ?_
      refine jm_tabIn (n := 48) (off := 47) dX7_count_1 (by decide) (by decide) (by decide) (by decide) ?_
      refine jm_aload_n dX7_count_48 rfl rfl rfl ?_
      refine jm_cV0 dX7_count_49 rfl cb_X7_87 ci_X7_horses cv_X7_horses rfl rfl rfl (Nat.le_of_ble_eq_true rfl) (Nat.le_of_ble_eq_true rfl) (by decide) (s_X7_horses ?_)
      refine jm_iret dX7_count_52 rfl rfl ?_
      exact h _ (Or.inl ⟨rfl, rfl⟩)
    · refine jm_iload_n dX7_count_0 rfl rfl rfl ?_
      refine jm_tabIn (n := 53) (off := 52) dX7_count_1 (by decide) (by decide) (by decide) (by decide) ?_
      refine jm_aload_n dX7_count_53 rfl rfl rfl ?_
      refine jm_cV0 dX7_count_54 rfl cb_X7_169 ci_X7_riders cv_X7_riders rfl rfl rfl (Nat.le_of_ble_eq_true rfl) (Nat.le_of_ble_eq_true rfl) (by decide) (s_X7_riders ?_)
      refine jm_iret dX7_count_57 rfl rfl ?_
      exact h _ (Or.inr (Or.inl ⟨rfl, rfl⟩))
    · refine jm_iload_n dX7_count_0 rfl rfl rfl ?_
      refine jm_tabIn (n := 58) (off := 57) dX7_count_1 (by decide) (by decide) (by decide) (by decide) ?_
      refine jm_aload_n dX7_count_58 rfl rfl rfl ?_
      refine jm_geti dX7_count_59 rfl fe_X7_177 rfl rfl rfl ?_
      refine jm_iret dX7_count_62 rfl rfl ?_
      exact h _ (Or.inr (Or.inr (Or.inl ⟨rfl, rfl⟩)))
    · refine jm_iload_n dX7_count_0 rfl rfl rfl ?_
      refine jm_tabIn (n := 63) (off := 62) dX7_count_1 (by decide) (by decide) (by decide) (by decide) ?_
      refine jm_aload_n dX7_count_63 rfl rfl rfl ?_
      refine jm_geti dX7_count_64 rfl fe_X7_143 rfl rfl rfl ?_
      refine jm_iret dX7_count_67 rfl rfl ?_
      exact h _ (Or.inr (Or.inr (Or.inr (Or.inl ⟨rfl, rfl⟩))))
    · refine jm_iload_n dX7_count_0 rfl rfl rfl ?_
      refine jm_tabIn (n := 68) (off := 67) dX7_count_1 (by decide) (by decide) (by decide) (by decide) ?_
      refine jm_aload_n dX7_count_68 rfl rfl rfl ?_
      refine jm_geti dX7_count_69 rfl fe_X7_166 rfl rfl rfl ?_
      refine jm_iret dX7_count_72 rfl rfl ?_
      exact h _ (Or.inr (Or.inr (Or.inr (Or.inr (Or.inl ⟨rfl, rfl⟩)))))
    · refine jm_iload_n dX7_count_0 rfl rfl rfl ?_
      refine jm_tabIn (n := 73) (off := 72) dX7_count_1 (by decide) (by decide) (by decide) (by decide) ?_
      refine jm_aload_n dX7_count_73 rfl rfl rfl ?_
      refine jm_geti dX7_count_74 rfl fe_X7_172 rfl rfl rfl ?_
      refine jm_iret dX7_count_77 rfl rfl ?_
      exact h _ (Or.inr (Or.inr (Or.inr (Or.inr (Or.inr (Or.inl ⟨rfl, rfl⟩))))))
    · refine jm_iload_n dX7_count_0 rfl rfl rfl ?_
      refine jm_tabIn (n := 78) (off := 77) dX7_count_1 (by decide) (by decide) (by decide) (by decide) ?_
      refine jm_iconst (nI 0) dX7_count_78 rfl (by decide) ?_
      refine jm_istore_n dX7_count_79 rfl rfl rfl rfl ?_
      dsimp only [List.set]
      refine jm_iconst (nI 0) dX7_count_80 rfl (by decide) ?_
      refine jm_istore_n dX7_count_81 rfl rfl rfl rfl ?_
      dsimp only [List.set]
      exact l_X7_count (h _ (Or.inr (Or.inr (Or.inr (Or.inr (Or.inr (Or.inr (Or.inl ⟨rfl, rfl⟩)))))))) 0 (by omega) _
    · refine jm_iload_n dX7_count_0 rfl rfl rfl ?_
      refine jm_tabIn (n := 104) (off := 103) dX7_count_1 (by decide) (by decide) (by decide) (by decide) ?_
      refine jm_aload_n dX7_count_104 rfl rfl rfl ?_
      refine jm_geti dX7_count_105 rfl fe_X7_129 rfl rfl rfl ?_
      refine jm_iret dX7_count_108 rfl rfl ?_
      exact h _ (Or.inr (Or.inr (Or.inr (Or.inr (Or.inr (Or.inr (Or.inr (Or.inl ⟨rfl, rfl⟩))))))))
