abbrev gm_St : Type := Int32 × (Nat → Int32)
def gm_up (z f s t : Int32) (st : gm_St) : gm_St := if st.1 = -1 ∨ z < st.1 then (z, upd (upd (upd st.2 0 f) 1 s) 2 t) else st
def gm_f (ok : Nat → Bool) (z f s t : Nat → Int32) : Nat → gm_St → gm_St
  | 0, st => st
  | i + 1, st => if ok i = true then gm_up (z i) (f i) (s i) (t i) (gm_f ok z f s t i st) else gm_f ok z f s t i st
theorem gm_f_no {ok : Nat → Bool} {z f s t : Nat → Int32} {i : Nat} {st : gm_St} (h : ok i = false) : gm_f ok z f s t (i + 1) st = gm_f ok z f s t i st := by
  simp only [gm_f]; rw [if_neg (by rw [h]; decide)]
theorem gm_f_lt {ok : Nat → Bool} {z f s t : Nat → Int32} {i : Nat} {st : gm_St} (h : ok i = true) (h2 : (gm_f ok z f s t i st).1 = -1 ∨ z i < (gm_f ok z f s t i st).1) : gm_f ok z f s t (i + 1) st = (z i, upd (upd (upd (gm_f ok z f s t i st).2 0 (f i)) 1 (s i)) 2 (t i)) := by
  simp only [gm_f]; rw [if_pos h]; exact if_pos h2
theorem gm_f_ge {ok : Nat → Bool} {z f s t : Nat → Int32} {i : Nat} {st : gm_St} (h1 : ¬ (gm_f ok z f s t i st).1 = -1) (h2 : (gm_f ok z f s t i st).1 ≤ z i) : gm_f ok z f s t (i + 1) st = gm_f ok z f s t i st := by
  simp only [gm_f]
  split
  · exact if_neg (fun h => h.elim h1 (fun h => absurd h2 (Int32.not_le.mpr h)))
  · rfl
theorem gm_f_ix {ok : Nat → Bool} {z f s t : Nat → Int32} {st : gm_St} (h0 : st.1 = -1) : ∀ n, (gm_f ok z f s t n st).1 = -1 ∨ ∃ i, i < n ∧ ok i = true ∧ (gm_f ok z f s t n st).2 0 = f i ∧ (gm_f ok z f s t n st).2 1 = s i ∧ (gm_f ok z f s t n st).2 2 = t i
  | 0 => Or.inl h0
  | n + 1 => by
    simp only [gm_f]
    split
    · next h =>
      simp only [gm_up]
      split
      · exact Or.inr ⟨n, by omega, h, by simp [upd], by simp [upd], by simp [upd]⟩
      · rcases gm_f_ix h0 n with h | ⟨j, h1, h2⟩
        · exact Or.inl h
        · exact Or.inr ⟨j, by omega, h2⟩
    · rcases gm_f_ix h0 n with h | ⟨j, h1, h2⟩
      · exact Or.inl h
      · exact Or.inr ⟨j, by omega, h2⟩
def md_fr (μ : jm_Mem) (p : Nat) : Bool := decide (¬ μ 27 p ≤ 0 ∧ μ 28 p = 0)
theorem md_sh_c {u μ : jm_Mem} (h5 : u 25 = μ 25) (h6 : u 26 = μ 26) (h7 : u 27 = μ 27) (h8 : u 28 = μ 28) : md_sh u = md_sh μ := by
  have : md_ld u = md_ld μ := by funext j; simp only [md_ld, h7, h8]
  simp only [md_sh, this, h5, h6]
theorem gm_rest {g : Nat → Int32} {f s t : Nat} {a b c : Int32} (hf : g f = 0) (hs : g s = 0) (ht : g t = 0) : upd (upd (upd (upd (upd (upd g f a) s b) t c) f 0) s 0) t 0 = g := by
  funext k
  unfold upd
  by_cases h1 : k = t
  · rw [if_pos h1, h1]; exact ht.symm
  · by_cases h2 : k = s
    · rw [if_neg h1, if_pos h2, h2]; exact hs.symm
    · by_cases h3 : k = f
      · rw [if_neg h1, if_neg h2, if_pos h3, h3]; exact hf.symm
      · simp only [if_neg h1, if_neg h2, if_neg h3]
theorem gm_rest2 {g : Nat → Int32} {f s : Nat} {a b : Int32} (hf : g f = 0) (hs : g s = 0) : upd (upd (upd (upd g f a) s b) f 0) s 0 = g := by
  funext k
  unfold upd
  by_cases h2 : k = s
  · rw [if_pos h2, h2]; exact hs.symm
  · by_cases h3 : k = f
    · rw [if_neg h2, if_pos h3, h3]; exact hf.symm
    · simp only [if_neg h2, if_neg h3]
theorem gm_rest1 {g : Nat → Int32} {f : Nat} {a : Int32} (hf : g f = 0) : upd (upd g f a) f 0 = g := by
  funext k
  unfold upd
  by_cases h3 : k = f
  · rw [if_pos h3, h3]; exact hf.symm
  · simp only [if_neg h3]
theorem rg_le_lt {n : Int32} {j : Nat} (hj : j < 2 ^ 30) (h : ¬ n ≤ nI j) : ¬ n < nI (j + 1) := by
  rw [Int32.le_iff_toInt_le, nI_toInt (by omega)] at h
  rw [Int32.lt_iff_toInt_lt, nI_toInt (by omega)]
  omega
def gm_ok1 (μ : jm_Mem) (i : Nat) : Bool := md_fr μ i
def gm_ok2 (μ : jm_Mem) (i : Nat) : Bool := md_fr μ (i / 12) && (md_fr μ (i % 12) && decide (i % 12 ≠ i / 12))
def gm_ok3 (μ : jm_Mem) (i : Nat) : Bool := md_fr μ (i / 144) && ((md_fr μ (i / 12 % 12) && decide (i / 12 % 12 ≠ i / 144)) && (md_fr μ (i % 12) && (decide (i % 12 ≠ i / 144) && decide (i % 12 ≠ i / 12 % 12))))
def gm_m1 (μ : jm_Mem) (a : Int32) (i : Nat) : jm_Mem := jm_set μ 28 i a
def gm_m2 (μ : jm_Mem) (a b : Int32) (i : Nat) : jm_Mem := jm_set (jm_set μ 28 (i / 12) a) 28 (i % 12) b
def gm_m3 (μ : jm_Mem) (a b c : Int32) (i : Nat) : jm_Mem := jm_set (jm_set (jm_set μ 28 (i / 144) a) 28 (i / 12 % 12) b) 28 (i % 12) c
def gm_g1 (μ : jm_Mem) (a : Int32) : gm_St := gm_f (gm_ok1 μ) (fun i => md_sh (gm_m1 μ a i)) (fun i => nI i) (fun _ => -1) (fun _ => -1) 12 (-1, μ 32)
def gm_g2 (μ : jm_Mem) (a b : Int32) : gm_St := gm_f (gm_ok2 μ) (fun i => md_sh (gm_m2 μ a b i)) (fun i => nI (i / 12)) (fun i => nI (i % 12)) (fun _ => -1) 144 (-1, μ 32)
def gm_g3 (μ : jm_Mem) (a b c : Int32) : gm_St := gm_f (gm_ok3 μ) (fun i => md_sh (gm_m3 μ a b c i)) (fun i => nI (i / 144)) (fun i => nI (i / 12 % 12)) (fun i => nI (i % 12)) 1728 (-1, μ 32)
def om_gk (g : gm_St) (f s t : Nat → Int32) (ok : Nat → Bool) (mm : Nat → jm_Mem) (N : Nat) (μ : jm_Mem) (r : Int32) (μ1 : jm_Mem) : Prop := (g.1 = -1 ∧ r = -1 ∧ ∀ q, q ≠ 32 → μ1 q = μ q) ∨ ∃ i, i < N ∧ ok i = true ∧ g.2 0 = f i ∧ g.2 1 = s i ∧ g.2 2 = t i ∧ ¬ g.1 = -1 ∧ r = g.1 ∧ ∀ q, q ≠ 32 → μ1 q = mm i q
def om_group (μ : jm_Mem) (n a b c r : Int32) (μ1 : jm_Mem) : Prop := (rg_ng n a b c ∧ r = -102 ∧ μ1 = μ) ∨ ∃ k, 1 ≤ k ∧ k ≤ 3 ∧ n = nI k ∧ rg_wi a 1 (nI 150) ∧ (2 ≤ k → rg_wi b 1 (nI 150)) ∧ (3 ≤ k → rg_wi c 1 (nI 150)) ∧ ((μ 24 9 = nI 60 ∧ r = -103 ∧ μ1 = μ) ∨ (¬ μ 24 9 = nI 60 ∧ ∃ ν, ν = jm_set μ 24 9 (μ 24 9 + 1) ∧ ((k = 1 ∧ om_gk (gm_g1 ν a) (fun i => nI i) (fun _ => -1) (fun _ => -1) (gm_ok1 ν) (gm_m1 ν a) 12 ν r μ1) ∨ (k = 2 ∧ om_gk (gm_g2 ν a b) (fun i => nI (i / 12)) (fun i => nI (i % 12)) (fun _ => -1) (gm_ok2 ν) (gm_m2 ν a b) 144 ν r μ1) ∨ (k = 3 ∧ om_gk (gm_g3 ν a b c) (fun i => nI (i / 144)) (fun i => nI (i / 12 % 12)) (fun i => nI (i % 12)) (gm_ok3 ν) (gm_m3 ν a b c) 1728 ν r μ1))))
set_option maxHeartbeats 400000 in
theorem s_X7_seat {Ln : Nat} {xs : Nat → Int32} {μ : jm_Mem} {Q : Option Value → jm_Mem → Prop} {j : Nat} {w : Int32} (hj : j < 12) (h : Q none (jm_set μ 28 j w)) : gJ Ln xs 0 mX7_seat 0 (jm_en 3 [.ref 24, .int (nI j), .int w]) [] μ Q := by
  show jm_J rg_I (rg_X Ln xs) 0 mX7_seat 0 [some (.ref 24), some (.int (nI j)), some (.int w)] [] μ Q
  refine jm_iload_n dX7_seat_0 rfl rfl rfl ?_
  refine jm_iconst (-1) dX7_seat_1 rfl (by decide) ?_
  refine jm_icmp_eq (tgt := 12) dX7_seat_2 (by decide) rfl (fun c2 => absurd c2 (rg_nm1 (by omega))) (fun c2 => ?_)
  refine jm_aload_n dX7_seat_5 rfl rfl rfl ?_
  refine jm_getr dX7_seat_6 rfl fe_X7_19 rfl rfl rfl ?_
  refine jm_iload_n dX7_seat_9 rfl rfl rfl ?_
  refine jm_iload_n dX7_seat_10 rfl rfl rfl ?_
  refine jm_iast dX7_seat_11 rfl rfl rfl (by decide) rfl (by first | assumption | omega) ?_
  refine jm_vret dX7_seat_12 rfl ?_
  exact h
set_option maxHeartbeats 400000 in
theorem s_X7_seat0 {Ln : Nat} {xs : Nat → Int32} {μ : jm_Mem} {Q : Option Value → jm_Mem → Prop} {w : Int32} (h : Q none μ) : gJ Ln xs 0 mX7_seat 0 (jm_en 3 [.ref 24, .int (-1), .int w]) [] μ Q := by
  show jm_J rg_I (rg_X Ln xs) 0 mX7_seat 0 [some (.ref 24), some (.int (-1)), some (.int w)] [] μ Q
  refine jm_iload_n dX7_seat_0 rfl rfl rfl ?_
  refine jm_iconst (-1) dX7_seat_1 rfl (by decide) ?_
  refine jm_icmp_eq (tgt := 12) dX7_seat_2 (by decide) rfl (fun c2 => ?_) (fun c2 => absurd rfl c2)
  refine jm_vret dX7_seat_12 rfl ?_
  exact h
set_option maxHeartbeats 1000000 in
theorem l_X7_g1 {Ln : Nat} {xs : Nat → Int32} {μ : jm_Mem} {Q : Option Value → jm_Mem → Prop} {a b c : Int32} (h : ∀ r μ1, om_gk (gm_g1 μ a) (fun i => nI i) (fun _ => -1) (fun _ => -1) (gm_ok1 μ) (gm_m1 μ a) 12 μ r μ1 → Q (some (.int r)) μ1) : ∀ i, i ≤ 12 → ∀ (v8 : Option Value) (v9 : Option Value) (v10 : Option Value) (v11 : Option Value) (v12 : Option Value) (u : jm_Mem) (hf : ∀ q, q ≠ 32 → u q = μ q) (hu : u 32 = (gm_f (gm_ok1 μ) (fun i => md_sh (gm_m1 μ a i)) (fun i => nI i) (fun _ => -1) (fun _ => -1) i (-1, μ 32)).2), jm_J rg_I (rg_X Ln xs) 2 mX7_group 101 [some (.ref 24), some (.int (nI 1)), some (.int a), some (.int b), some (.int c), some (.int (gm_f (gm_ok1 μ) (fun i => md_sh (gm_m1 μ a i)) (fun i => nI i) (fun _ => -1) (fun _ => -1) i (-1, μ 32)).1), some (.int (nI 12)), some (.int (nI i)), v8, v9, v10, v11, v12] [] u Q := by
  refine jm_for 12 ?_ ?_
  · intro v8 v9 v10 v11 v12 u hf hu
    refine jm_iload dX7_group_101 rfl rfl ?_
    refine jm_iload dX7_group_103 rfl rfl ?_
    refine jm_icmp_ge (tgt := 353) dX7_group_105 (by decide) rfl (fun c105 => ?_) (fun c105 => absurd ((nI_leI (by omega) (by omega)).mpr (Nat.le_refl _)) c105)
    refine jm_iload dX7_group_353 rfl rfl ?_
    refine jm_iconst (-1) dX7_group_355 rfl (by decide) ?_
    refine jm_icmp_eq (tgt := 393) dX7_group_356 (by decide) rfl (fun c356 => ?_) (fun c356 => ?_)
    · refine jm_iload dX7_group_393 rfl rfl ?_
      refine jm_iret dX7_group_395 rfl rfl ?_
      first | exact h _ _ (Or.inl ⟨c356, c356, hf⟩) | exact h _ _ (Or.inr ⟨i, hi, hok, e0, e1, e2, c356, rfl, fun q hq => if h28 : q = 28 then by subst h28; simp only [gm_m1, jm_set_eq, hf 28 (show (28 : Nat) ≠ 32 by decide)] else by simp only [gm_m1, jm_set_ne q h28]; exact hf q hq⟩) | fail "leaf"
    · obtain ⟨i, hi, hok, e0, e1, e2⟩ := (gm_f_ix (ok := gm_ok1 μ) (z := fun i => md_sh (gm_m1 μ a i)) (f := fun i => nI i) (s := fun _ => -1) (t := fun _ => -1) (st := (-1, μ 32)) rfl 12).resolve_left c356
      refine jm_aload_n dX7_group_359 rfl rfl rfl ?_
      refine jm_aload_n dX7_group_360 rfl rfl rfl ?_
      refine jm_getr dX7_group_361 rfl fe_X7_31 rfl rfl rfl ?_
      refine jm_iconst (nI 0) dX7_group_364 rfl (by decide) ?_
      refine jm_iald dX7_group_365 rfl rfl rfl (by decide) rfl (by decide) ?_
      rw [show u 32 0 = nI i by rw [hu]; exact e0]
      refine jm_iload_n dX7_group_366 rfl rfl rfl ?_
      refine jm_cV2 dX7_group_367 rfl cb_X7_132 ci_X7_seat cv_X7_seat rfl rfl rfl (Nat.le_of_ble_eq_true rfl) (Nat.le_of_ble_eq_true rfl) (by decide) (s_X7_seat (j := i) (by omega) ?_)
      refine jm_aload_n dX7_group_370 rfl rfl rfl ?_
      refine jm_aload_n dX7_group_371 rfl rfl rfl ?_
      refine jm_getr dX7_group_372 rfl fe_X7_31 rfl rfl rfl ?_
      refine jm_iconst (nI 1) dX7_group_375 rfl (by decide) ?_
      refine jm_iald dX7_group_376 rfl rfl rfl (by decide) rfl (by decide) ?_
      rw [show jm_set u 28 i a 32 1 = -1 by rw [rd_na (by decide), hu]; exact e1]
      refine jm_iload_n dX7_group_377 rfl rfl rfl ?_
      refine jm_cV2 dX7_group_378 rfl cb_X7_132 ci_X7_seat cv_X7_seat rfl rfl rfl (Nat.le_of_ble_eq_true rfl) (Nat.le_of_ble_eq_true rfl) (by decide) (s_X7_seat0 ?_)
      refine jm_aload_n dX7_group_381 rfl rfl rfl ?_
      refine jm_aload_n dX7_group_382 rfl rfl rfl ?_
      refine jm_getr dX7_group_383 rfl fe_X7_31 rfl rfl rfl ?_
      refine jm_iconst (nI 2) dX7_group_386 rfl (by decide) ?_
      refine jm_iald dX7_group_387 rfl rfl rfl (by decide) rfl (by decide) ?_
      rw [show (jm_set u 28 i a) 32 2 = -1 by rw [rd_na (by decide), hu]; exact e2]
      refine jm_iload dX7_group_388 rfl rfl ?_
      refine jm_cV2 dX7_group_390 rfl cb_X7_132 ci_X7_seat cv_X7_seat rfl rfl rfl (Nat.le_of_ble_eq_true rfl) (Nat.le_of_ble_eq_true rfl) (by decide) (s_X7_seat0 ?_)
      refine jm_iload dX7_group_393 rfl rfl ?_
      refine jm_iret dX7_group_395 rfl rfl ?_
      first | exact h _ _ (Or.inl ⟨c356, c356, hf⟩) | exact h _ _ (Or.inr ⟨i, hi, hok, e0, e1, e2, c356, rfl, fun q hq => if h28 : q = 28 then by subst h28; simp only [gm_m1, jm_set_eq, hf 28 (show (28 : Nat) ≠ 32 by decide)] else by simp only [gm_m1, jm_set_ne q h28]; exact hf q hq⟩) | fail "leaf"
  · intro i hi ih v8 v9 v10 v11 v12 u hf hu
    refine jm_iload dX7_group_101 rfl rfl ?_
    refine jm_iload dX7_group_103 rfl rfl ?_
    refine jm_icmp_ge (tgt := 353) dX7_group_105 (by decide) rfl (fun c105 => absurd ((nI_leI (by omega) (by omega)).mp c105) (by omega)) (fun c105 => ?_)
    refine jm_iload_n dX7_group_108 rfl rfl rfl ?_
    refine jm_iconst (nI 1) dX7_group_109 rfl (by decide) ?_
    refine jm_icmp_ne (tgt := 118) dX7_group_110 (by decide) rfl (fun c110 => absurd c110 (by decide)) (fun c110 => ?_)
    refine jm_iload dX7_group_113 rfl rfl ?_
    refine jm_goto (n := 137) dX7_group_115 (by decide) ?_
    refine jm_istore dX7_group_137 rfl rfl rfl ?_
    dsimp only [List.set]
    refine jm_iload_n dX7_group_139 rfl rfl rfl ?_
    refine jm_iconst (nI 1) dX7_group_140 rfl (by decide) ?_
    refine jm_icmp_ne (tgt := 148) dX7_group_141 (by decide) rfl (fun c141 => absurd c141 (by decide)) (fun c141 => ?_)
    refine jm_iconst (-1) dX7_group_144 rfl (by decide) ?_
    refine jm_goto (n := 169) dX7_group_145 (by decide) ?_
    refine jm_istore dX7_group_169 rfl rfl rfl ?_
    dsimp only [List.set]
    refine jm_iload_n dX7_group_171 rfl rfl rfl ?_
    refine jm_iconst (nI 3) dX7_group_172 rfl (by decide) ?_
    refine jm_icmp_ge (tgt := 180) dX7_group_173 (by decide) rfl (fun c173 => absurd c173 (by decide)) (fun c173 => ?_)
    refine jm_iconst (-1) dX7_group_176 rfl (by decide) ?_
    refine jm_goto (n := 185) dX7_group_177 (by decide) ?_
    refine jm_istore dX7_group_185 rfl rfl rfl ?_
    dsimp only [List.set]
    refine jm_aload_n dX7_group_187 rfl rfl rfl ?_
    refine jm_iload dX7_group_188 rfl rfl ?_
    refine jm_cV1 dX7_group_190 rfl cb_X7_121 ci_X7_isFree cv_X7_isFree rfl rfl rfl (Nat.le_of_ble_eq_true rfl) (Nat.le_of_ble_eq_true rfl) (by decide) (s_X7_isFree (j := i) (by omega) (fun ch0 cr0 => ?_) (fun cf0 => ?_))
    · rw [hf 27 (by decide)] at ch0
      rw [hf 28 (by decide)] at cr0
      have hfr0 : md_fr μ i = true := decide_eq_true ⟨ch0, cr0⟩
      refine jm_if_eq (tgt := 249) dX7_group_193 (by decide) rfl (fun c193 => absurd c193 (by decide)) (fun c193 => ?_)
      refine jm_iload_n dX7_group_196 rfl rfl rfl ?_
      refine jm_iconst (nI 2) dX7_group_197 rfl (by decide) ?_
      refine jm_icmp_lt (tgt := 217) dX7_group_198 (by decide) rfl (fun c198 => ?_) (fun c198 => absurd c198 (by decide))
      refine jm_iload_n dX7_group_217 rfl rfl rfl ?_
      refine jm_iconst (nI 3) dX7_group_218 rfl (by decide) ?_
      refine jm_icmp_lt (tgt := 245) dX7_group_219 (by decide) rfl (fun c219 => ?_) (fun c219 => absurd c219 (by decide))
      refine jm_iconst (nI 1) dX7_group_245 rfl (by decide) ?_
      refine jm_goto (n := 250) dX7_group_246 (by decide) ?_
      refine jm_istore dX7_group_250 rfl rfl rfl ?_
      dsimp only [List.set]
      refine jm_iload dX7_group_252 rfl rfl ?_
      refine jm_if_eq (tgt := 347) dX7_group_254 (by decide) rfl (fun c254 => absurd c254 (by decide)) (fun c254 => ?_)
      refine jm_aload_n dX7_group_257 rfl rfl rfl ?_
      refine jm_iload dX7_group_258 rfl rfl ?_
      refine jm_iload_n dX7_group_260 rfl rfl rfl ?_
      refine jm_cV2 dX7_group_261 rfl cb_X7_132 ci_X7_seat cv_X7_seat rfl rfl rfl (Nat.le_of_ble_eq_true rfl) (Nat.le_of_ble_eq_true rfl) (by decide) (s_X7_seat (j := i) (by omega) ?_)
      refine jm_aload_n dX7_group_264 rfl rfl rfl ?_
      refine jm_iload dX7_group_265 rfl rfl ?_
      refine jm_iload_n dX7_group_267 rfl rfl rfl ?_
      refine jm_cV2 dX7_group_268 rfl cb_X7_132 ci_X7_seat cv_X7_seat rfl rfl rfl (Nat.le_of_ble_eq_true rfl) (Nat.le_of_ble_eq_true rfl) (by decide) (s_X7_seat0 ?_)
      refine jm_aload_n dX7_group_271 rfl rfl rfl ?_
      refine jm_iload dX7_group_272 rfl rfl ?_
      refine jm_iload dX7_group_274 rfl rfl ?_
      refine jm_cV2 dX7_group_276 rfl cb_X7_132 ci_X7_seat cv_X7_seat rfl rfl rfl (Nat.le_of_ble_eq_true rfl) (Nat.le_of_ble_eq_true rfl) (by decide) (s_X7_seat0 ?_)
      refine jm_aload_n dX7_group_279 rfl rfl rfl ?_
      refine jm_cV0 dX7_group_280 rfl cb_X7_101 ci_X7_shakeOf cv_X7_shakeOf rfl rfl rfl (Nat.le_of_ble_eq_true rfl) (Nat.le_of_ble_eq_true rfl) (by decide) (s_X7_shakeOf ?_)
      refine jm_istore dX7_group_283 rfl rfl rfl ?_
      dsimp only [List.set]
      rw [show md_sh (jm_set u 28 i a) = md_sh (gm_m1 μ a i) from md_sh_c (by simp only [gm_m1, jm_set_ne 25 (show (25 : Nat) ≠ 28 by decide)]; exact hf 25 (by decide)) (by simp only [gm_m1, jm_set_ne 26 (show (26 : Nat) ≠ 28 by decide)]; exact hf 26 (by decide)) (by simp only [gm_m1, jm_set_ne 27 (show (27 : Nat) ≠ 28 by decide)]; exact hf 27 (by decide)) (by simp only [gm_m1, jm_set_eq, hf 28 (show (28 : Nat) ≠ 32 by decide)])]
      refine jm_iload dX7_group_285 rfl rfl ?_
      refine jm_iconst (-1) dX7_group_287 rfl (by decide) ?_
      refine jm_icmp_eq (tgt := 298) dX7_group_288 (by decide) rfl (fun c288 => ?_) (fun c288 => ?_)
      · refine jm_iload dX7_group_298 rfl rfl ?_
        refine jm_istore dX7_group_300 rfl rfl rfl ?_
        dsimp only [List.set]
        refine jm_aload_n dX7_group_302 rfl rfl rfl ?_
        refine jm_getr dX7_group_303 rfl fe_X7_31 rfl rfl rfl ?_
        refine jm_iconst (nI 0) dX7_group_306 rfl (by decide) ?_
        refine jm_iload dX7_group_307 rfl rfl ?_
        refine jm_iast dX7_group_309 rfl rfl rfl (by decide) rfl (by decide) ?_
        refine jm_aload_n dX7_group_310 rfl rfl rfl ?_
        refine jm_getr dX7_group_311 rfl fe_X7_31 rfl rfl rfl ?_
        refine jm_iconst (nI 1) dX7_group_314 rfl (by decide) ?_
        refine jm_iload dX7_group_315 rfl rfl ?_
        refine jm_iast dX7_group_317 rfl rfl rfl (by decide) rfl (by decide) ?_
        refine jm_aload_n dX7_group_318 rfl rfl rfl ?_
        refine jm_getr dX7_group_319 rfl fe_X7_31 rfl rfl rfl ?_
        refine jm_iconst (nI 2) dX7_group_322 rfl (by decide) ?_
        refine jm_iload dX7_group_323 rfl rfl ?_
        refine jm_iast dX7_group_325 rfl rfl rfl (by decide) rfl (by decide) ?_
        refine jm_aload_n dX7_group_326 rfl rfl rfl ?_
        refine jm_iload dX7_group_327 rfl rfl ?_
        refine jm_iconst (nI 0) dX7_group_329 rfl (by decide) ?_
        refine jm_cV2 dX7_group_330 rfl cb_X7_132 ci_X7_seat cv_X7_seat rfl rfl rfl (Nat.le_of_ble_eq_true rfl) (Nat.le_of_ble_eq_true rfl) (by decide) (s_X7_seat (j := i) (by omega) ?_)
        refine jm_aload_n dX7_group_333 rfl rfl rfl ?_
        refine jm_iload dX7_group_334 rfl rfl ?_
        refine jm_iconst (nI 0) dX7_group_336 rfl (by decide) ?_
        refine jm_cV2 dX7_group_337 rfl cb_X7_132 ci_X7_seat cv_X7_seat rfl rfl rfl (Nat.le_of_ble_eq_true rfl) (Nat.le_of_ble_eq_true rfl) (by decide) (s_X7_seat0 ?_)
        refine jm_aload_n dX7_group_340 rfl rfl rfl ?_
        refine jm_iload dX7_group_341 rfl rfl ?_
        refine jm_iconst (nI 0) dX7_group_343 rfl (by decide) ?_
        refine jm_cV2 dX7_group_344 rfl cb_X7_132 ci_X7_seat cv_X7_seat rfl rfl rfl (Nat.le_of_ble_eq_true rfl) (Nat.le_of_ble_eq_true rfl) (by decide) (s_X7_seat0 ?_)
        refine jm_iinc (nI 1) dX7_group_347 rfl rfl (by decide) rfl rfl ?_
        dsimp only [List.set]
        refine jm_goto (n := 101) dX7_group_350 (by decide) ?_
        rw [nI_add]
        have hok : gm_ok1 μ i = true := hfr0
        have e := ih
        rw [gm_f_lt hok (Or.inl c288)] at e
        exact e _ _ _ _ _ _ (fun q hq => if h28 : q = 28 then by subst h28; simp only [jm_set_eq, jm_set_ne 28 (show (28 : Nat) ≠ 32 by decide), hf 28 (show (28 : Nat) ≠ 32 by decide)]; exact gm_rest1 cr0 else by simp only [jm_set_ne q h28, jm_set_ne q hq]; exact hf q hq) (by simp only [jm_set_ne 32 (show (32 : Nat) ≠ 28 by decide), jm_set_eq, hu])
      · refine jm_iload dX7_group_291 rfl rfl ?_
        refine jm_iload dX7_group_293 rfl rfl ?_
        refine jm_icmp_ge (tgt := 326) dX7_group_295 (by decide) rfl (fun c295 => ?_) (fun c295 => ?_)
        · refine jm_aload_n dX7_group_326 rfl rfl rfl ?_
          refine jm_iload dX7_group_327 rfl rfl ?_
          refine jm_iconst (nI 0) dX7_group_329 rfl (by decide) ?_
          refine jm_cV2 dX7_group_330 rfl cb_X7_132 ci_X7_seat cv_X7_seat rfl rfl rfl (Nat.le_of_ble_eq_true rfl) (Nat.le_of_ble_eq_true rfl) (by decide) (s_X7_seat (j := i) (by omega) ?_)
          refine jm_aload_n dX7_group_333 rfl rfl rfl ?_
          refine jm_iload dX7_group_334 rfl rfl ?_
          refine jm_iconst (nI 0) dX7_group_336 rfl (by decide) ?_
          refine jm_cV2 dX7_group_337 rfl cb_X7_132 ci_X7_seat cv_X7_seat rfl rfl rfl (Nat.le_of_ble_eq_true rfl) (Nat.le_of_ble_eq_true rfl) (by decide) (s_X7_seat0 ?_)
          refine jm_aload_n dX7_group_340 rfl rfl rfl ?_
          refine jm_iload dX7_group_341 rfl rfl ?_
          refine jm_iconst (nI 0) dX7_group_343 rfl (by decide) ?_
          refine jm_cV2 dX7_group_344 rfl cb_X7_132 ci_X7_seat cv_X7_seat rfl rfl rfl (Nat.le_of_ble_eq_true rfl) (Nat.le_of_ble_eq_true rfl) (by decide) (s_X7_seat0 ?_)
          refine jm_iinc (nI 1) dX7_group_347 rfl rfl (by decide) rfl rfl ?_
          dsimp only [List.set]
          refine jm_goto (n := 101) dX7_group_350 (by decide) ?_
          rw [nI_add]
          have hok : gm_ok1 μ i = true := hfr0
          have e := ih
          rw [gm_f_ge c288 c295] at e
          exact e _ _ _ _ _ _ (fun q hq => if h28 : q = 28 then by subst h28; simp only [jm_set_eq, jm_set_ne 28 (show (28 : Nat) ≠ 32 by decide), hf 28 (show (28 : Nat) ≠ 32 by decide)]; exact gm_rest1 cr0 else by simp only [jm_set_ne q h28, jm_set_ne q hq]; exact hf q hq) (by simp only [jm_set_ne 32 (show (32 : Nat) ≠ 28 by decide), hu])
        · refine jm_iload dX7_group_298 rfl rfl ?_
          refine jm_istore dX7_group_300 rfl rfl rfl ?_
          dsimp only [List.set]
          refine jm_aload_n dX7_group_302 rfl rfl rfl ?_
          refine jm_getr dX7_group_303 rfl fe_X7_31 rfl rfl rfl ?_
          refine jm_iconst (nI 0) dX7_group_306 rfl (by decide) ?_
          refine jm_iload dX7_group_307 rfl rfl ?_
          refine jm_iast dX7_group_309 rfl rfl rfl (by decide) rfl (by decide) ?_
          refine jm_aload_n dX7_group_310 rfl rfl rfl ?_
          refine jm_getr dX7_group_311 rfl fe_X7_31 rfl rfl rfl ?_
          refine jm_iconst (nI 1) dX7_group_314 rfl (by decide) ?_
          refine jm_iload dX7_group_315 rfl rfl ?_
          refine jm_iast dX7_group_317 rfl rfl rfl (by decide) rfl (by decide) ?_
          refine jm_aload_n dX7_group_318 rfl rfl rfl ?_
          refine jm_getr dX7_group_319 rfl fe_X7_31 rfl rfl rfl ?_
          refine jm_iconst (nI 2) dX7_group_322 rfl (by decide) ?_
          refine jm_iload dX7_group_323 rfl rfl ?_
          refine jm_iast dX7_group_325 rfl rfl rfl (by decide) rfl (by decide) ?_
          refine jm_aload_n dX7_group_326 rfl rfl rfl ?_
          refine jm_iload dX7_group_327 rfl rfl ?_
          refine jm_iconst (nI 0) dX7_group_329 rfl (by decide) ?_
          refine jm_cV2 dX7_group_330 rfl cb_X7_132 ci_X7_seat cv_X7_seat rfl rfl rfl (Nat.le_of_ble_eq_true rfl) (Nat.le_of_ble_eq_true rfl) (by decide) (s_X7_seat (j := i) (by omega) ?_)
          refine jm_aload_n dX7_group_333 rfl rfl rfl ?_
          refine jm_iload dX7_group_334 rfl rfl ?_
          refine jm_iconst (nI 0) dX7_group_336 rfl (by decide) ?_
          refine jm_cV2 dX7_group_337 rfl cb_X7_132 ci_X7_seat cv_X7_seat rfl rfl rfl (Nat.le_of_ble_eq_true rfl) (Nat.le_of_ble_eq_true rfl) (by decide) (s_X7_seat0 ?_)
          refine jm_aload_n dX7_group_340 rfl rfl rfl ?_
          refine jm_iload dX7_group_341 rfl rfl ?_
          refine jm_iconst (nI 0) dX7_group_343 rfl (by decide) ?_
          refine jm_cV2 dX7_group_344 rfl cb_X7_132 ci_X7_seat cv_X7_seat rfl rfl rfl (Nat.le_of_ble_eq_true rfl) (Nat.le_of_ble_eq_true rfl) (by decide) (s_X7_seat0 ?_)
          refine jm_iinc (nI 1) dX7_group_347 rfl rfl (by decide) rfl rfl ?_
          dsimp only [List.set]
          refine jm_goto (n := 101) dX7_group_350 (by decide) ?_
          rw [nI_add]
          have hok : gm_ok1 μ i = true := hfr0
          have e := ih
          rw [gm_f_lt hok (Or.inr (Int32.not_le.mp c295))] at e
          exact e _ _ _ _ _ _ (fun q hq => if h28 : q = 28 then by subst h28; simp only [jm_set_eq, jm_set_ne 28 (show (28 : Nat) ≠ 32 by decide), hf 28 (show (28 : Nat) ≠ 32 by decide)]; exact gm_rest1 cr0 else by simp only [jm_set_ne q h28, jm_set_ne q hq]; exact hf q hq) (by simp only [jm_set_ne 32 (show (32 : Nat) ≠ 28 by decide), jm_set_eq, hu])
    · rw [hf 27 (by decide), hf 28 (by decide)] at cf0
      have hnf0 : md_fr μ i = false := decide_eq_false (fun q => cf0.elim (fun c => q.1 c) (fun c => c q.2))
      refine jm_if_eq (tgt := 249) dX7_group_193 (by decide) rfl (fun c193 => ?_) (fun c193 => absurd c193 (by decide))
      refine jm_iconst (nI 0) dX7_group_249 rfl (by decide) ?_
      refine jm_istore dX7_group_250 rfl rfl rfl ?_
      dsimp only [List.set]
      refine jm_iload dX7_group_252 rfl rfl ?_
      refine jm_if_eq (tgt := 347) dX7_group_254 (by decide) rfl (fun c254 => ?_) (fun c254 => absurd c254 (by decide))
      refine jm_iinc (nI 1) dX7_group_347 rfl rfl (by decide) rfl rfl ?_
      dsimp only [List.set]
      refine jm_goto (n := 101) dX7_group_350 (by decide) ?_
      rw [nI_add]
      have e := ih
      rw [gm_f_no (show gm_ok1 μ i = false by simp [gm_ok1, hnf0])] at e
      exact e _ _ _ _ _ u hf hu
set_option maxHeartbeats 1000000 in
theorem l_X7_g2 {Ln : Nat} {xs : Nat → Int32} {μ : jm_Mem} {Q : Option Value → jm_Mem → Prop} {a b c : Int32} (h : ∀ r μ1, om_gk (gm_g2 μ a b) (fun i => nI (i / 12)) (fun i => nI (i % 12)) (fun _ => -1) (gm_ok2 μ) (gm_m2 μ a b) 144 μ r μ1 → Q (some (.int r)) μ1) : ∀ i, i ≤ 144 → ∀ (v8 : Option Value) (v9 : Option Value) (v10 : Option Value) (v11 : Option Value) (v12 : Option Value) (u : jm_Mem) (hf : ∀ q, q ≠ 32 → u q = μ q) (hu : u 32 = (gm_f (gm_ok2 μ) (fun i => md_sh (gm_m2 μ a b i)) (fun i => nI (i / 12)) (fun i => nI (i % 12)) (fun _ => -1) i (-1, μ 32)).2), jm_J rg_I (rg_X Ln xs) 2 mX7_group 101 [some (.ref 24), some (.int (nI 2)), some (.int a), some (.int b), some (.int c), some (.int (gm_f (gm_ok2 μ) (fun i => md_sh (gm_m2 μ a b i)) (fun i => nI (i / 12)) (fun i => nI (i % 12)) (fun _ => -1) i (-1, μ 32)).1), some (.int (nI 144)), some (.int (nI i)), v8, v9, v10, v11, v12] [] u Q := by
  refine jm_for 144 ?_ ?_
  · intro v8 v9 v10 v11 v12 u hf hu
    refine jm_iload dX7_group_101 rfl rfl ?_
    refine jm_iload dX7_group_103 rfl rfl ?_
    refine jm_icmp_ge (tgt := 353) dX7_group_105 (by decide) rfl (fun c105 => ?_) (fun c105 => absurd ((nI_leI (by omega) (by omega)).mpr (Nat.le_refl _)) c105)
    refine jm_iload dX7_group_353 rfl rfl ?_
    refine jm_iconst (-1) dX7_group_355 rfl (by decide) ?_
    refine jm_icmp_eq (tgt := 393) dX7_group_356 (by decide) rfl (fun c356 => ?_) (fun c356 => ?_)
    · refine jm_iload dX7_group_393 rfl rfl ?_
      refine jm_iret dX7_group_395 rfl rfl ?_
      first | exact h _ _ (Or.inl ⟨c356, c356, hf⟩) | exact h _ _ (Or.inr ⟨i, hi, hok, e0, e1, e2, c356, rfl, fun q hq => if h28 : q = 28 then by subst h28; simp only [gm_m2, jm_set_eq, hf 28 (show (28 : Nat) ≠ 32 by decide)] else by simp only [gm_m2, jm_set_ne q h28]; exact hf q hq⟩) | fail "leaf"
    · obtain ⟨i, hi, hok, e0, e1, e2⟩ := (gm_f_ix (ok := gm_ok2 μ) (z := fun i => md_sh (gm_m2 μ a b i)) (f := fun i => nI (i / 12)) (s := fun i => nI (i % 12)) (t := fun _ => -1) (st := (-1, μ 32)) rfl 144).resolve_left c356
      refine jm_aload_n dX7_group_359 rfl rfl rfl ?_
      refine jm_aload_n dX7_group_360 rfl rfl rfl ?_
      refine jm_getr dX7_group_361 rfl fe_X7_31 rfl rfl rfl ?_
      refine jm_iconst (nI 0) dX7_group_364 rfl (by decide) ?_
      refine jm_iald dX7_group_365 rfl rfl rfl (by decide) rfl (by decide) ?_
      rw [show u 32 0 = nI (i / 12) by rw [hu]; exact e0]
      refine jm_iload_n dX7_group_366 rfl rfl rfl ?_
      refine jm_cV2 dX7_group_367 rfl cb_X7_132 ci_X7_seat cv_X7_seat rfl rfl rfl (Nat.le_of_ble_eq_true rfl) (Nat.le_of_ble_eq_true rfl) (by decide) (s_X7_seat (j := (i / 12)) (by omega) ?_)
      refine jm_aload_n dX7_group_370 rfl rfl rfl ?_
      refine jm_aload_n dX7_group_371 rfl rfl rfl ?_
      refine jm_getr dX7_group_372 rfl fe_X7_31 rfl rfl rfl ?_
      refine jm_iconst (nI 1) dX7_group_375 rfl (by decide) ?_
      refine jm_iald dX7_group_376 rfl rfl rfl (by decide) rfl (by decide) ?_
      rw [show jm_set u 28 (i / 12) a 32 1 = nI (i % 12) by rw [rd_na (by decide), hu]; exact e1]
      refine jm_iload_n dX7_group_377 rfl rfl rfl ?_
      refine jm_cV2 dX7_group_378 rfl cb_X7_132 ci_X7_seat cv_X7_seat rfl rfl rfl (Nat.le_of_ble_eq_true rfl) (Nat.le_of_ble_eq_true rfl) (by decide) (s_X7_seat (j := (i % 12)) (by omega) ?_)
      refine jm_aload_n dX7_group_381 rfl rfl rfl ?_
      refine jm_aload_n dX7_group_382 rfl rfl rfl ?_
      refine jm_getr dX7_group_383 rfl fe_X7_31 rfl rfl rfl ?_
      refine jm_iconst (nI 2) dX7_group_386 rfl (by decide) ?_
      refine jm_iald dX7_group_387 rfl rfl rfl (by decide) rfl (by decide) ?_
      rw [show (jm_set (jm_set u 28 (i / 12) a) 28 (i % 12) b) 32 2 = -1 by rw [rd_na (by decide), rd_na (by decide), hu]; exact e2]
      refine jm_iload dX7_group_388 rfl rfl ?_
      refine jm_cV2 dX7_group_390 rfl cb_X7_132 ci_X7_seat cv_X7_seat rfl rfl rfl (Nat.le_of_ble_eq_true rfl) (Nat.le_of_ble_eq_true rfl) (by decide) (s_X7_seat0 ?_)
      refine jm_iload dX7_group_393 rfl rfl ?_
      refine jm_iret dX7_group_395 rfl rfl ?_
      first | exact h _ _ (Or.inl ⟨c356, c356, hf⟩) | exact h _ _ (Or.inr ⟨i, hi, hok, e0, e1, e2, c356, rfl, fun q hq => if h28 : q = 28 then by subst h28; simp only [gm_m2, jm_set_eq, hf 28 (show (28 : Nat) ≠ 32 by decide)] else by simp only [gm_m2, jm_set_ne q h28]; exact hf q hq⟩) | fail "leaf"
  · intro i hi ih v8 v9 v10 v11 v12 u hf hu
    refine jm_iload dX7_group_101 rfl rfl ?_
    refine jm_iload dX7_group_103 rfl rfl ?_
    refine jm_icmp_ge (tgt := 353) dX7_group_105 (by decide) rfl (fun c105 => absurd ((nI_leI (by omega) (by omega)).mp c105) (by omega)) (fun c105 => ?_)
    refine jm_iload_n dX7_group_108 rfl rfl rfl ?_
    refine jm_iconst (nI 1) dX7_group_109 rfl (by decide) ?_
    refine jm_icmp_ne (tgt := 118) dX7_group_110 (by decide) rfl (fun c110 => ?_) (fun c110 => absurd c110 (by decide))
    refine jm_iload_n dX7_group_118 rfl rfl rfl ?_
    refine jm_iconst (nI 2) dX7_group_119 rfl (by decide) ?_
    refine jm_icmp_ne (tgt := 131) dX7_group_120 (by decide) rfl (fun c120 => absurd c120 (by decide)) (fun c120 => ?_)
    refine jm_iload dX7_group_123 rfl rfl ?_
    refine jm_bipush (nI 12) dX7_group_125 rfl (by decide) ?_
    refine jm_idiv dX7_group_127 rfl (by decide) ?_
    refine jm_goto (n := 137) dX7_group_128 (by decide) ?_
    rw [pk_div (by omega) (by decide) (by decide)]
    refine jm_istore dX7_group_137 rfl rfl rfl ?_
    dsimp only [List.set]
    refine jm_iload_n dX7_group_139 rfl rfl rfl ?_
    refine jm_iconst (nI 1) dX7_group_140 rfl (by decide) ?_
    refine jm_icmp_ne (tgt := 148) dX7_group_141 (by decide) rfl (fun c141 => ?_) (fun c141 => absurd c141 (by decide))
    refine jm_iload_n dX7_group_148 rfl rfl rfl ?_
    refine jm_iconst (nI 2) dX7_group_149 rfl (by decide) ?_
    refine jm_icmp_ne (tgt := 161) dX7_group_150 (by decide) rfl (fun c150 => absurd c150 (by decide)) (fun c150 => ?_)
    refine jm_iload dX7_group_153 rfl rfl ?_
    refine jm_bipush (nI 12) dX7_group_155 rfl (by decide) ?_
    refine jm_irem dX7_group_157 rfl (by decide) ?_
    refine jm_goto (n := 169) dX7_group_158 (by decide) ?_
    rw [pk_rem (by omega) (by decide) (by decide)]
    refine jm_istore dX7_group_169 rfl rfl rfl ?_
    dsimp only [List.set]
    refine jm_iload_n dX7_group_171 rfl rfl rfl ?_
    refine jm_iconst (nI 3) dX7_group_172 rfl (by decide) ?_
    refine jm_icmp_ge (tgt := 180) dX7_group_173 (by decide) rfl (fun c173 => absurd c173 (by decide)) (fun c173 => ?_)
    refine jm_iconst (-1) dX7_group_176 rfl (by decide) ?_
    refine jm_goto (n := 185) dX7_group_177 (by decide) ?_
    refine jm_istore dX7_group_185 rfl rfl rfl ?_
    dsimp only [List.set]
    refine jm_aload_n dX7_group_187 rfl rfl rfl ?_
    refine jm_iload dX7_group_188 rfl rfl ?_
    refine jm_cV1 dX7_group_190 rfl cb_X7_121 ci_X7_isFree cv_X7_isFree rfl rfl rfl (Nat.le_of_ble_eq_true rfl) (Nat.le_of_ble_eq_true rfl) (by decide) (s_X7_isFree (j := (i / 12)) (by omega) (fun ch0 cr0 => ?_) (fun cf0 => ?_))
    · rw [hf 27 (by decide)] at ch0
      rw [hf 28 (by decide)] at cr0
      have hfr0 : md_fr μ (i / 12) = true := decide_eq_true ⟨ch0, cr0⟩
      refine jm_if_eq (tgt := 249) dX7_group_193 (by decide) rfl (fun c193 => absurd c193 (by decide)) (fun c193 => ?_)
      refine jm_iload_n dX7_group_196 rfl rfl rfl ?_
      refine jm_iconst (nI 2) dX7_group_197 rfl (by decide) ?_
      refine jm_icmp_lt (tgt := 217) dX7_group_198 (by decide) rfl (fun c198 => absurd c198 (by decide)) (fun c198 => ?_)
      refine jm_aload_n dX7_group_201 rfl rfl rfl ?_
      refine jm_iload dX7_group_202 rfl rfl ?_
      refine jm_cV1 dX7_group_204 rfl cb_X7_121 ci_X7_isFree cv_X7_isFree rfl rfl rfl (Nat.le_of_ble_eq_true rfl) (Nat.le_of_ble_eq_true rfl) (by decide) (s_X7_isFree (j := (i % 12)) (by omega) (fun ch1 cr1 => ?_) (fun cf1 => ?_))
      · rw [hf 27 (by decide)] at ch1
        rw [hf 28 (by decide)] at cr1
        have hfr1 : md_fr μ (i % 12) = true := decide_eq_true ⟨ch1, cr1⟩
        refine jm_if_eq (tgt := 249) dX7_group_207 (by decide) rfl (fun c207 => absurd c207 (by decide)) (fun c207 => ?_)
        refine jm_iload dX7_group_210 rfl rfl ?_
        refine jm_iload dX7_group_212 rfl rfl ?_
        refine jm_icmp_eq (tgt := 249) dX7_group_214 (by decide) rfl (fun c214 => ?_) (fun c214 => ?_)
        · refine jm_iconst (nI 0) dX7_group_249 rfl (by decide) ?_
          refine jm_istore dX7_group_250 rfl rfl rfl ?_
          dsimp only [List.set]
          refine jm_iload dX7_group_252 rfl rfl ?_
          refine jm_if_eq (tgt := 347) dX7_group_254 (by decide) rfl (fun c254 => ?_) (fun c254 => absurd c254 (by decide))
          refine jm_iinc (nI 1) dX7_group_347 rfl rfl (by decide) rfl rfl ?_
          dsimp only [List.set]
          refine jm_goto (n := 101) dX7_group_350 (by decide) ?_
          rw [nI_add]
          have e := ih
          rw [gm_f_no (show gm_ok2 μ i = false by simp [gm_ok2, (nI_eq (a := (i % 12)) (b := (i / 12)) (by omega) (by omega)).mp c214])] at e
          exact e _ _ _ _ _ u hf hu
        · refine jm_iload_n dX7_group_217 rfl rfl rfl ?_
          refine jm_iconst (nI 3) dX7_group_218 rfl (by decide) ?_
          refine jm_icmp_lt (tgt := 245) dX7_group_219 (by decide) rfl (fun c219 => ?_) (fun c219 => absurd c219 (by decide))
          refine jm_iconst (nI 1) dX7_group_245 rfl (by decide) ?_
          refine jm_goto (n := 250) dX7_group_246 (by decide) ?_
          refine jm_istore dX7_group_250 rfl rfl rfl ?_
          dsimp only [List.set]
          refine jm_iload dX7_group_252 rfl rfl ?_
          refine jm_if_eq (tgt := 347) dX7_group_254 (by decide) rfl (fun c254 => absurd c254 (by decide)) (fun c254 => ?_)
          refine jm_aload_n dX7_group_257 rfl rfl rfl ?_
          refine jm_iload dX7_group_258 rfl rfl ?_
          refine jm_iload_n dX7_group_260 rfl rfl rfl ?_
          refine jm_cV2 dX7_group_261 rfl cb_X7_132 ci_X7_seat cv_X7_seat rfl rfl rfl (Nat.le_of_ble_eq_true rfl) (Nat.le_of_ble_eq_true rfl) (by decide) (s_X7_seat (j := (i / 12)) (by omega) ?_)
          refine jm_aload_n dX7_group_264 rfl rfl rfl ?_
          refine jm_iload dX7_group_265 rfl rfl ?_
          refine jm_iload_n dX7_group_267 rfl rfl rfl ?_
          refine jm_cV2 dX7_group_268 rfl cb_X7_132 ci_X7_seat cv_X7_seat rfl rfl rfl (Nat.le_of_ble_eq_true rfl) (Nat.le_of_ble_eq_true rfl) (by decide) (s_X7_seat (j := (i % 12)) (by omega) ?_)
          refine jm_aload_n dX7_group_271 rfl rfl rfl ?_
          refine jm_iload dX7_group_272 rfl rfl ?_
          refine jm_iload dX7_group_274 rfl rfl ?_
          refine jm_cV2 dX7_group_276 rfl cb_X7_132 ci_X7_seat cv_X7_seat rfl rfl rfl (Nat.le_of_ble_eq_true rfl) (Nat.le_of_ble_eq_true rfl) (by decide) (s_X7_seat0 ?_)
          refine jm_aload_n dX7_group_279 rfl rfl rfl ?_
          refine jm_cV0 dX7_group_280 rfl cb_X7_101 ci_X7_shakeOf cv_X7_shakeOf rfl rfl rfl (Nat.le_of_ble_eq_true rfl) (Nat.le_of_ble_eq_true rfl) (by decide) (s_X7_shakeOf ?_)
          refine jm_istore dX7_group_283 rfl rfl rfl ?_
          dsimp only [List.set]
          rw [show md_sh (jm_set (jm_set u 28 (i / 12) a) 28 (i % 12) b) = md_sh (gm_m2 μ a b i) from md_sh_c (by simp only [gm_m2, jm_set_ne 25 (show (25 : Nat) ≠ 28 by decide)]; exact hf 25 (by decide)) (by simp only [gm_m2, jm_set_ne 26 (show (26 : Nat) ≠ 28 by decide)]; exact hf 26 (by decide)) (by simp only [gm_m2, jm_set_ne 27 (show (27 : Nat) ≠ 28 by decide)]; exact hf 27 (by decide)) (by simp only [gm_m2, jm_set_eq, hf 28 (show (28 : Nat) ≠ 32 by decide)])]
          refine jm_iload dX7_group_285 rfl rfl ?_
          refine jm_iconst (-1) dX7_group_287 rfl (by decide) ?_
          refine jm_icmp_eq (tgt := 298) dX7_group_288 (by decide) rfl (fun c288 => ?_) (fun c288 => ?_)
          · refine jm_iload dX7_group_298 rfl rfl ?_
            refine jm_istore dX7_group_300 rfl rfl rfl ?_
            dsimp only [List.set]
            refine jm_aload_n dX7_group_302 rfl rfl rfl ?_
            refine jm_getr dX7_group_303 rfl fe_X7_31 rfl rfl rfl ?_
            refine jm_iconst (nI 0) dX7_group_306 rfl (by decide) ?_
            refine jm_iload dX7_group_307 rfl rfl ?_
            refine jm_iast dX7_group_309 rfl rfl rfl (by decide) rfl (by decide) ?_
            refine jm_aload_n dX7_group_310 rfl rfl rfl ?_
            refine jm_getr dX7_group_311 rfl fe_X7_31 rfl rfl rfl ?_
            refine jm_iconst (nI 1) dX7_group_314 rfl (by decide) ?_
            refine jm_iload dX7_group_315 rfl rfl ?_
            refine jm_iast dX7_group_317 rfl rfl rfl (by decide) rfl (by decide) ?_
            refine jm_aload_n dX7_group_318 rfl rfl rfl ?_
            refine jm_getr dX7_group_319 rfl fe_X7_31 rfl rfl rfl ?_
            refine jm_iconst (nI 2) dX7_group_322 rfl (by decide) ?_
            refine jm_iload dX7_group_323 rfl rfl ?_
            refine jm_iast dX7_group_325 rfl rfl rfl (by decide) rfl (by decide) ?_
            refine jm_aload_n dX7_group_326 rfl rfl rfl ?_
            refine jm_iload dX7_group_327 rfl rfl ?_
            refine jm_iconst (nI 0) dX7_group_329 rfl (by decide) ?_
            refine jm_cV2 dX7_group_330 rfl cb_X7_132 ci_X7_seat cv_X7_seat rfl rfl rfl (Nat.le_of_ble_eq_true rfl) (Nat.le_of_ble_eq_true rfl) (by decide) (s_X7_seat (j := (i / 12)) (by omega) ?_)
            refine jm_aload_n dX7_group_333 rfl rfl rfl ?_
            refine jm_iload dX7_group_334 rfl rfl ?_
            refine jm_iconst (nI 0) dX7_group_336 rfl (by decide) ?_
            refine jm_cV2 dX7_group_337 rfl cb_X7_132 ci_X7_seat cv_X7_seat rfl rfl rfl (Nat.le_of_ble_eq_true rfl) (Nat.le_of_ble_eq_true rfl) (by decide) (s_X7_seat (j := (i % 12)) (by omega) ?_)
            refine jm_aload_n dX7_group_340 rfl rfl rfl ?_
            refine jm_iload dX7_group_341 rfl rfl ?_
            refine jm_iconst (nI 0) dX7_group_343 rfl (by decide) ?_
            refine jm_cV2 dX7_group_344 rfl cb_X7_132 ci_X7_seat cv_X7_seat rfl rfl rfl (Nat.le_of_ble_eq_true rfl) (Nat.le_of_ble_eq_true rfl) (by decide) (s_X7_seat0 ?_)
            refine jm_iinc (nI 1) dX7_group_347 rfl rfl (by decide) rfl rfl ?_
            dsimp only [List.set]
            refine jm_goto (n := 101) dX7_group_350 (by decide) ?_
            rw [nI_add]
            have hok : gm_ok2 μ i = true := by simp only [gm_ok2, hfr0, hfr1, Bool.true_and]; exact decide_eq_true (fun e => c214 (congrArg nI e))
            have e := ih
            rw [gm_f_lt hok (Or.inl c288)] at e
            exact e _ _ _ _ _ _ (fun q hq => if h28 : q = 28 then by subst h28; simp only [jm_set_eq, jm_set_ne 28 (show (28 : Nat) ≠ 32 by decide), hf 28 (show (28 : Nat) ≠ 32 by decide)]; exact gm_rest2 cr0 cr1 else by simp only [jm_set_ne q h28, jm_set_ne q hq]; exact hf q hq) (by simp only [jm_set_ne 32 (show (32 : Nat) ≠ 28 by decide), jm_set_eq, hu])
          · refine jm_iload dX7_group_291 rfl rfl ?_
            refine jm_iload dX7_group_293 rfl rfl ?_
            refine jm_icmp_ge (tgt := 326) dX7_group_295 (by decide) rfl (fun c295 => ?_) (fun c295 => ?_)
            · refine jm_aload_n dX7_group_326 rfl rfl rfl ?_
              refine jm_iload dX7_group_327 rfl rfl ?_
              refine jm_iconst (nI 0) dX7_group_329 rfl (by decide) ?_
              refine jm_cV2 dX7_group_330 rfl cb_X7_132 ci_X7_seat cv_X7_seat rfl rfl rfl (Nat.le_of_ble_eq_true rfl) (Nat.le_of_ble_eq_true rfl) (by decide) (s_X7_seat (j := (i / 12)) (by omega) ?_)
              refine jm_aload_n dX7_group_333 rfl rfl rfl ?_
              refine jm_iload dX7_group_334 rfl rfl ?_
              refine jm_iconst (nI 0) dX7_group_336 rfl (by decide) ?_
              refine jm_cV2 dX7_group_337 rfl cb_X7_132 ci_X7_seat cv_X7_seat rfl rfl rfl (Nat.le_of_ble_eq_true rfl) (Nat.le_of_ble_eq_true rfl) (by decide) (s_X7_seat (j := (i % 12)) (by omega) ?_)
              refine jm_aload_n dX7_group_340 rfl rfl rfl ?_
              refine jm_iload dX7_group_341 rfl rfl ?_
              refine jm_iconst (nI 0) dX7_group_343 rfl (by decide) ?_
              refine jm_cV2 dX7_group_344 rfl cb_X7_132 ci_X7_seat cv_X7_seat rfl rfl rfl (Nat.le_of_ble_eq_true rfl) (Nat.le_of_ble_eq_true rfl) (by decide) (s_X7_seat0 ?_)
              refine jm_iinc (nI 1) dX7_group_347 rfl rfl (by decide) rfl rfl ?_
              dsimp only [List.set]
              refine jm_goto (n := 101) dX7_group_350 (by decide) ?_
              rw [nI_add]
              have hok : gm_ok2 μ i = true := by simp only [gm_ok2, hfr0, hfr1, Bool.true_and]; exact decide_eq_true (fun e => c214 (congrArg nI e))
              have e := ih
              rw [gm_f_ge c288 c295] at e
              exact e _ _ _ _ _ _ (fun q hq => if h28 : q = 28 then by subst h28; simp only [jm_set_eq, jm_set_ne 28 (show (28 : Nat) ≠ 32 by decide), hf 28 (show (28 : Nat) ≠ 32 by decide)]; exact gm_rest2 cr0 cr1 else by simp only [jm_set_ne q h28, jm_set_ne q hq]; exact hf q hq) (by simp only [jm_set_ne 32 (show (32 : Nat) ≠ 28 by decide), hu])
            · refine jm_iload dX7_group_298 rfl rfl ?_
              refine jm_istore dX7_group_300 rfl rfl rfl ?_
              dsimp only [List.set]
              refine jm_aload_n dX7_group_302 rfl rfl rfl ?_
              refine jm_getr dX7_group_303 rfl fe_X7_31 rfl rfl rfl ?_
              refine jm_iconst (nI 0) dX7_group_306 rfl (by decide) ?_
              refine jm_iload dX7_group_307 rfl rfl ?_
              refine jm_iast dX7_group_309 rfl rfl rfl (by decide) rfl (by decide) ?_
              refine jm_aload_n dX7_group_310 rfl rfl rfl ?_
              refine jm_getr dX7_group_311 rfl fe_X7_31 rfl rfl rfl ?_
              refine jm_iconst (nI 1) dX7_group_314 rfl (by decide) ?_
              refine jm_iload dX7_group_315 rfl rfl ?_
              refine jm_iast dX7_group_317 rfl rfl rfl (by decide) rfl (by decide) ?_
              refine jm_aload_n dX7_group_318 rfl rfl rfl ?_
              refine jm_getr dX7_group_319 rfl fe_X7_31 rfl rfl rfl ?_
              refine jm_iconst (nI 2) dX7_group_322 rfl (by decide) ?_
              refine jm_iload dX7_group_323 rfl rfl ?_
              refine jm_iast dX7_group_325 rfl rfl rfl (by decide) rfl (by decide) ?_
              refine jm_aload_n dX7_group_326 rfl rfl rfl ?_
              refine jm_iload dX7_group_327 rfl rfl ?_
              refine jm_iconst (nI 0) dX7_group_329 rfl (by decide) ?_
              refine jm_cV2 dX7_group_330 rfl cb_X7_132 ci_X7_seat cv_X7_seat rfl rfl rfl (Nat.le_of_ble_eq_true rfl) (Nat.le_of_ble_eq_true rfl) (by decide) (s_X7_seat (j := (i / 12)) (by omega) ?_)
              refine jm_aload_n dX7_group_333 rfl rfl rfl ?_
              refine jm_iload dX7_group_334 rfl rfl ?_
              refine jm_iconst (nI 0) dX7_group_336 rfl (by decide) ?_
              refine jm_cV2 dX7_group_337 rfl cb_X7_132 ci_X7_seat cv_X7_seat rfl rfl rfl (Nat.le_of_ble_eq_true rfl) (Nat.le_of_ble_eq_true rfl) (by decide) (s_X7_seat (j := (i % 12)) (by omega) ?_)
              refine jm_aload_n dX7_group_340 rfl rfl rfl ?_
              refine jm_iload dX7_group_341 rfl rfl ?_
              refine jm_iconst (nI 0) dX7_group_343 rfl (by decide) ?_
              refine jm_cV2 dX7_group_344 rfl cb_X7_132 ci_X7_seat cv_X7_seat rfl rfl rfl (Nat.le_of_ble_eq_true rfl) (Nat.le_of_ble_eq_true rfl) (by decide) (s_X7_seat0 ?_)
              refine jm_iinc (nI 1) dX7_group_347 rfl rfl (by decide) rfl rfl ?_
              dsimp only [List.set]
              refine jm_goto (n := 101) dX7_group_350 (by decide) ?_
              rw [nI_add]
              have hok : gm_ok2 μ i = true := by simp only [gm_ok2, hfr0, hfr1, Bool.true_and]; exact decide_eq_true (fun e => c214 (congrArg nI e))
              have e := ih
              rw [gm_f_lt hok (Or.inr (Int32.not_le.mp c295))] at e
              exact e _ _ _ _ _ _ (fun q hq => if h28 : q = 28 then by subst h28; simp only [jm_set_eq, jm_set_ne 28 (show (28 : Nat) ≠ 32 by decide), hf 28 (show (28 : Nat) ≠ 32 by decide)]; exact gm_rest2 cr0 cr1 else by simp only [jm_set_ne q h28, jm_set_ne q hq]; exact hf q hq) (by simp only [jm_set_ne 32 (show (32 : Nat) ≠ 28 by decide), jm_set_eq, hu])
      · rw [hf 27 (by decide), hf 28 (by decide)] at cf1
        have hnf1 : md_fr μ (i % 12) = false := decide_eq_false (fun q => cf1.elim (fun c => q.1 c) (fun c => c q.2))
        refine jm_if_eq (tgt := 249) dX7_group_207 (by decide) rfl (fun c207 => ?_) (fun c207 => absurd c207 (by decide))
        refine jm_iconst (nI 0) dX7_group_249 rfl (by decide) ?_
        refine jm_istore dX7_group_250 rfl rfl rfl ?_
        dsimp only [List.set]
        refine jm_iload dX7_group_252 rfl rfl ?_
        refine jm_if_eq (tgt := 347) dX7_group_254 (by decide) rfl (fun c254 => ?_) (fun c254 => absurd c254 (by decide))
        refine jm_iinc (nI 1) dX7_group_347 rfl rfl (by decide) rfl rfl ?_
        dsimp only [List.set]
        refine jm_goto (n := 101) dX7_group_350 (by decide) ?_
        rw [nI_add]
        have e := ih
        rw [gm_f_no (show gm_ok2 μ i = false by simp [gm_ok2, hnf1])] at e
        exact e _ _ _ _ _ u hf hu
    · rw [hf 27 (by decide), hf 28 (by decide)] at cf0
      have hnf0 : md_fr μ (i / 12) = false := decide_eq_false (fun q => cf0.elim (fun c => q.1 c) (fun c => c q.2))
      refine jm_if_eq (tgt := 249) dX7_group_193 (by decide) rfl (fun c193 => ?_) (fun c193 => absurd c193 (by decide))
      refine jm_iconst (nI 0) dX7_group_249 rfl (by decide) ?_
      refine jm_istore dX7_group_250 rfl rfl rfl ?_
      dsimp only [List.set]
      refine jm_iload dX7_group_252 rfl rfl ?_
      refine jm_if_eq (tgt := 347) dX7_group_254 (by decide) rfl (fun c254 => ?_) (fun c254 => absurd c254 (by decide))
      refine jm_iinc (nI 1) dX7_group_347 rfl rfl (by decide) rfl rfl ?_
      dsimp only [List.set]
      refine jm_goto (n := 101) dX7_group_350 (by decide) ?_
      rw [nI_add]
      have e := ih
      rw [gm_f_no (show gm_ok2 μ i = false by simp [gm_ok2, hnf0])] at e
      exact e _ _ _ _ _ u hf hu
set_option maxHeartbeats 1000000 in
theorem l_X7_g3 {Ln : Nat} {xs : Nat → Int32} {μ : jm_Mem} {Q : Option Value → jm_Mem → Prop} {a b c : Int32} (h : ∀ r μ1, om_gk (gm_g3 μ a b c) (fun i => nI (i / 144)) (fun i => nI (i / 12 % 12)) (fun i => nI (i % 12)) (gm_ok3 μ) (gm_m3 μ a b c) 1728 μ r μ1 → Q (some (.int r)) μ1) : ∀ i, i ≤ 1728 → ∀ (v8 : Option Value) (v9 : Option Value) (v10 : Option Value) (v11 : Option Value) (v12 : Option Value) (u : jm_Mem) (hf : ∀ q, q ≠ 32 → u q = μ q) (hu : u 32 = (gm_f (gm_ok3 μ) (fun i => md_sh (gm_m3 μ a b c i)) (fun i => nI (i / 144)) (fun i => nI (i / 12 % 12)) (fun i => nI (i % 12)) i (-1, μ 32)).2), jm_J rg_I (rg_X Ln xs) 2 mX7_group 101 [some (.ref 24), some (.int (nI 3)), some (.int a), some (.int b), some (.int c), some (.int (gm_f (gm_ok3 μ) (fun i => md_sh (gm_m3 μ a b c i)) (fun i => nI (i / 144)) (fun i => nI (i / 12 % 12)) (fun i => nI (i % 12)) i (-1, μ 32)).1), some (.int (nI 1728)), some (.int (nI i)), v8, v9, v10, v11, v12] [] u Q := by
  refine jm_for 1728 ?_ ?_
  · intro v8 v9 v10 v11 v12 u hf hu
    refine jm_iload dX7_group_101 rfl rfl ?_
    refine jm_iload dX7_group_103 rfl rfl ?_
    refine jm_icmp_ge (tgt := 353) dX7_group_105 (by decide) rfl (fun c105 => ?_) (fun c105 => absurd ((nI_leI (by omega) (by omega)).mpr (Nat.le_refl _)) c105)
    refine jm_iload dX7_group_353 rfl rfl ?_
    refine jm_iconst (-1) dX7_group_355 rfl (by decide) ?_
    refine jm_icmp_eq (tgt := 393) dX7_group_356 (by decide) rfl (fun c356 => ?_) (fun c356 => ?_)
    · refine jm_iload dX7_group_393 rfl rfl ?_
      refine jm_iret dX7_group_395 rfl rfl ?_
      first | exact h _ _ (Or.inl ⟨c356, c356, hf⟩) | exact h _ _ (Or.inr ⟨i, hi, hok, e0, e1, e2, c356, rfl, fun q hq => if h28 : q = 28 then by subst h28; simp only [gm_m3, jm_set_eq, hf 28 (show (28 : Nat) ≠ 32 by decide)] else by simp only [gm_m3, jm_set_ne q h28]; exact hf q hq⟩) | fail "leaf"
    · obtain ⟨i, hi, hok, e0, e1, e2⟩ := (gm_f_ix (ok := gm_ok3 μ) (z := fun i => md_sh (gm_m3 μ a b c i)) (f := fun i => nI (i / 144)) (s := fun i => nI (i / 12 % 12)) (t := fun i => nI (i % 12)) (st := (-1, μ 32)) rfl 1728).resolve_left c356
      refine jm_aload_n dX7_group_359 rfl rfl rfl ?_
      refine jm_aload_n dX7_group_360 rfl rfl rfl ?_
      refine jm_getr dX7_group_361 rfl fe_X7_31 rfl rfl rfl ?_
      refine jm_iconst (nI 0) dX7_group_364 rfl (by decide) ?_
      refine jm_iald dX7_group_365 rfl rfl rfl (by decide) rfl (by decide) ?_
      rw [show u 32 0 = nI (i / 144) by rw [hu]; exact e0]
      refine jm_iload_n dX7_group_366 rfl rfl rfl ?_
      refine jm_cV2 dX7_group_367 rfl cb_X7_132 ci_X7_seat cv_X7_seat rfl rfl rfl (Nat.le_of_ble_eq_true rfl) (Nat.le_of_ble_eq_true rfl) (by decide) (s_X7_seat (j := (i / 144)) (by omega) ?_)
      refine jm_aload_n dX7_group_370 rfl rfl rfl ?_
      refine jm_aload_n dX7_group_371 rfl rfl rfl ?_
      refine jm_getr dX7_group_372 rfl fe_X7_31 rfl rfl rfl ?_
      refine jm_iconst (nI 1) dX7_group_375 rfl (by decide) ?_
      refine jm_iald dX7_group_376 rfl rfl rfl (by decide) rfl (by decide) ?_
      rw [show jm_set u 28 (i / 144) a 32 1 = nI (i / 12 % 12) by rw [rd_na (by decide), hu]; exact e1]
      refine jm_iload_n dX7_group_377 rfl rfl rfl ?_
      refine jm_cV2 dX7_group_378 rfl cb_X7_132 ci_X7_seat cv_X7_seat rfl rfl rfl (Nat.le_of_ble_eq_true rfl) (Nat.le_of_ble_eq_true rfl) (by decide) (s_X7_seat (j := (i / 12 % 12)) (by omega) ?_)
      refine jm_aload_n dX7_group_381 rfl rfl rfl ?_
      refine jm_aload_n dX7_group_382 rfl rfl rfl ?_
      refine jm_getr dX7_group_383 rfl fe_X7_31 rfl rfl rfl ?_
      refine jm_iconst (nI 2) dX7_group_386 rfl (by decide) ?_
      refine jm_iald dX7_group_387 rfl rfl rfl (by decide) rfl (by decide) ?_
      rw [show (jm_set (jm_set u 28 (i / 144) a) 28 (i / 12 % 12) b) 32 2 = nI (i % 12) by rw [rd_na (by decide), rd_na (by decide), hu]; exact e2]
      refine jm_iload dX7_group_388 rfl rfl ?_
      refine jm_cV2 dX7_group_390 rfl cb_X7_132 ci_X7_seat cv_X7_seat rfl rfl rfl (Nat.le_of_ble_eq_true rfl) (Nat.le_of_ble_eq_true rfl) (by decide) (s_X7_seat (j := (i % 12)) (by omega) ?_)
      refine jm_iload dX7_group_393 rfl rfl ?_
      refine jm_iret dX7_group_395 rfl rfl ?_
      first | exact h _ _ (Or.inl ⟨c356, c356, hf⟩) | exact h _ _ (Or.inr ⟨i, hi, hok, e0, e1, e2, c356, rfl, fun q hq => if h28 : q = 28 then by subst h28; simp only [gm_m3, jm_set_eq, hf 28 (show (28 : Nat) ≠ 32 by decide)] else by simp only [gm_m3, jm_set_ne q h28]; exact hf q hq⟩) | fail "leaf"
  · intro i hi ih v8 v9 v10 v11 v12 u hf hu
    refine jm_iload dX7_group_101 rfl rfl ?_
    refine jm_iload dX7_group_103 rfl rfl ?_
    refine jm_icmp_ge (tgt := 353) dX7_group_105 (by decide) rfl (fun c105 => absurd ((nI_leI (by omega) (by omega)).mp c105) (by omega)) (fun c105 => ?_)
    refine jm_iload_n dX7_group_108 rfl rfl rfl ?_
    refine jm_iconst (nI 1) dX7_group_109 rfl (by decide) ?_
    refine jm_icmp_ne (tgt := 118) dX7_group_110 (by decide) rfl (fun c110 => ?_) (fun c110 => absurd c110 (by decide))
    refine jm_iload_n dX7_group_118 rfl rfl rfl ?_
    refine jm_iconst (nI 2) dX7_group_119 rfl (by decide) ?_
    refine jm_icmp_ne (tgt := 131) dX7_group_120 (by decide) rfl (fun c120 => ?_) (fun c120 => absurd c120 (by decide))
    refine jm_iload dX7_group_131 rfl rfl ?_
    refine jm_sipush (nI 144) dX7_group_133 rfl (by decide) ?_
    refine jm_idiv dX7_group_136 rfl (by decide) ?_
    rw [pk_div (by omega) (by decide) (by decide)]
    refine jm_istore dX7_group_137 rfl rfl rfl ?_
    dsimp only [List.set]
    refine jm_iload_n dX7_group_139 rfl rfl rfl ?_
    refine jm_iconst (nI 1) dX7_group_140 rfl (by decide) ?_
    refine jm_icmp_ne (tgt := 148) dX7_group_141 (by decide) rfl (fun c141 => ?_) (fun c141 => absurd c141 (by decide))
    refine jm_iload_n dX7_group_148 rfl rfl rfl ?_
    refine jm_iconst (nI 2) dX7_group_149 rfl (by decide) ?_
    refine jm_icmp_ne (tgt := 161) dX7_group_150 (by decide) rfl (fun c150 => ?_) (fun c150 => absurd c150 (by decide))
    refine jm_iload dX7_group_161 rfl rfl ?_
    refine jm_bipush (nI 12) dX7_group_163 rfl (by decide) ?_
    refine jm_idiv dX7_group_165 rfl (by decide) ?_
    refine jm_bipush (nI 12) dX7_group_166 rfl (by decide) ?_
    refine jm_irem dX7_group_168 rfl (by decide) ?_
    rw [pk_div (by omega) (by decide) (by decide), pk_rem (by omega) (by decide) (by decide)]
    refine jm_istore dX7_group_169 rfl rfl rfl ?_
    dsimp only [List.set]
    refine jm_iload_n dX7_group_171 rfl rfl rfl ?_
    refine jm_iconst (nI 3) dX7_group_172 rfl (by decide) ?_
    refine jm_icmp_ge (tgt := 180) dX7_group_173 (by decide) rfl (fun c173 => ?_) (fun c173 => absurd c173 (by decide))
    refine jm_iload dX7_group_180 rfl rfl ?_
    refine jm_bipush (nI 12) dX7_group_182 rfl (by decide) ?_
    refine jm_irem dX7_group_184 rfl (by decide) ?_
    rw [pk_rem (by omega) (by decide) (by decide)]
    refine jm_istore dX7_group_185 rfl rfl rfl ?_
    dsimp only [List.set]
    refine jm_aload_n dX7_group_187 rfl rfl rfl ?_
    refine jm_iload dX7_group_188 rfl rfl ?_
    refine jm_cV1 dX7_group_190 rfl cb_X7_121 ci_X7_isFree cv_X7_isFree rfl rfl rfl (Nat.le_of_ble_eq_true rfl) (Nat.le_of_ble_eq_true rfl) (by decide) (s_X7_isFree (j := (i / 144)) (by omega) (fun ch0 cr0 => ?_) (fun cf0 => ?_))
    · rw [hf 27 (by decide)] at ch0
      rw [hf 28 (by decide)] at cr0
      have hfr0 : md_fr μ (i / 144) = true := decide_eq_true ⟨ch0, cr0⟩
      refine jm_if_eq (tgt := 249) dX7_group_193 (by decide) rfl (fun c193 => absurd c193 (by decide)) (fun c193 => ?_)
      refine jm_iload_n dX7_group_196 rfl rfl rfl ?_
      refine jm_iconst (nI 2) dX7_group_197 rfl (by decide) ?_
      refine jm_icmp_lt (tgt := 217) dX7_group_198 (by decide) rfl (fun c198 => absurd c198 (by decide)) (fun c198 => ?_)
      refine jm_aload_n dX7_group_201 rfl rfl rfl ?_
      refine jm_iload dX7_group_202 rfl rfl ?_
      refine jm_cV1 dX7_group_204 rfl cb_X7_121 ci_X7_isFree cv_X7_isFree rfl rfl rfl (Nat.le_of_ble_eq_true rfl) (Nat.le_of_ble_eq_true rfl) (by decide) (s_X7_isFree (j := (i / 12 % 12)) (by omega) (fun ch1 cr1 => ?_) (fun cf1 => ?_))
      · rw [hf 27 (by decide)] at ch1
        rw [hf 28 (by decide)] at cr1
        have hfr1 : md_fr μ (i / 12 % 12) = true := decide_eq_true ⟨ch1, cr1⟩
        refine jm_if_eq (tgt := 249) dX7_group_207 (by decide) rfl (fun c207 => absurd c207 (by decide)) (fun c207 => ?_)
        refine jm_iload dX7_group_210 rfl rfl ?_
        refine jm_iload dX7_group_212 rfl rfl ?_
        refine jm_icmp_eq (tgt := 249) dX7_group_214 (by decide) rfl (fun c214 => ?_) (fun c214 => ?_)
        · refine jm_iconst (nI 0) dX7_group_249 rfl (by decide) ?_
          refine jm_istore dX7_group_250 rfl rfl rfl ?_
          dsimp only [List.set]
          refine jm_iload dX7_group_252 rfl rfl ?_
          refine jm_if_eq (tgt := 347) dX7_group_254 (by decide) rfl (fun c254 => ?_) (fun c254 => absurd c254 (by decide))
          refine jm_iinc (nI 1) dX7_group_347 rfl rfl (by decide) rfl rfl ?_
          dsimp only [List.set]
          refine jm_goto (n := 101) dX7_group_350 (by decide) ?_
          rw [nI_add]
          have e := ih
          rw [gm_f_no (show gm_ok3 μ i = false by simp [gm_ok3, (nI_eq (a := (i / 12 % 12)) (b := (i / 144)) (by omega) (by omega)).mp c214])] at e
          exact e _ _ _ _ _ u hf hu
        · refine jm_iload_n dX7_group_217 rfl rfl rfl ?_
          refine jm_iconst (nI 3) dX7_group_218 rfl (by decide) ?_
          refine jm_icmp_lt (tgt := 245) dX7_group_219 (by decide) rfl (fun c219 => absurd c219 (by decide)) (fun c219 => ?_)
          refine jm_aload_n dX7_group_222 rfl rfl rfl ?_
          refine jm_iload dX7_group_223 rfl rfl ?_
          refine jm_cV1 dX7_group_225 rfl cb_X7_121 ci_X7_isFree cv_X7_isFree rfl rfl rfl (Nat.le_of_ble_eq_true rfl) (Nat.le_of_ble_eq_true rfl) (by decide) (s_X7_isFree (j := (i % 12)) (by omega) (fun ch2 cr2 => ?_) (fun cf2 => ?_))
          · rw [hf 27 (by decide)] at ch2
            rw [hf 28 (by decide)] at cr2
            have hfr2 : md_fr μ (i % 12) = true := decide_eq_true ⟨ch2, cr2⟩
            refine jm_if_eq (tgt := 249) dX7_group_228 (by decide) rfl (fun c228 => absurd c228 (by decide)) (fun c228 => ?_)
            refine jm_iload dX7_group_231 rfl rfl ?_
            refine jm_iload dX7_group_233 rfl rfl ?_
            refine jm_icmp_eq (tgt := 249) dX7_group_235 (by decide) rfl (fun c235 => ?_) (fun c235 => ?_)
            · refine jm_iconst (nI 0) dX7_group_249 rfl (by decide) ?_
              refine jm_istore dX7_group_250 rfl rfl rfl ?_
              dsimp only [List.set]
              refine jm_iload dX7_group_252 rfl rfl ?_
              refine jm_if_eq (tgt := 347) dX7_group_254 (by decide) rfl (fun c254 => ?_) (fun c254 => absurd c254 (by decide))
              refine jm_iinc (nI 1) dX7_group_347 rfl rfl (by decide) rfl rfl ?_
              dsimp only [List.set]
              refine jm_goto (n := 101) dX7_group_350 (by decide) ?_
              rw [nI_add]
              have e := ih
              rw [gm_f_no (show gm_ok3 μ i = false by simp [gm_ok3, (nI_eq (a := (i % 12)) (b := (i / 144)) (by omega) (by omega)).mp c235])] at e
              exact e _ _ _ _ _ u hf hu
            · refine jm_iload dX7_group_238 rfl rfl ?_
              refine jm_iload dX7_group_240 rfl rfl ?_
              refine jm_icmp_eq (tgt := 249) dX7_group_242 (by decide) rfl (fun c242 => ?_) (fun c242 => ?_)
              · refine jm_iconst (nI 0) dX7_group_249 rfl (by decide) ?_
                refine jm_istore dX7_group_250 rfl rfl rfl ?_
                dsimp only [List.set]
                refine jm_iload dX7_group_252 rfl rfl ?_
                refine jm_if_eq (tgt := 347) dX7_group_254 (by decide) rfl (fun c254 => ?_) (fun c254 => absurd c254 (by decide))
                refine jm_iinc (nI 1) dX7_group_347 rfl rfl (by decide) rfl rfl ?_
                dsimp only [List.set]
                refine jm_goto (n := 101) dX7_group_350 (by decide) ?_
                rw [nI_add]
                have e := ih
                rw [gm_f_no (show gm_ok3 μ i = false by simp [gm_ok3, (nI_eq (a := (i % 12)) (b := (i / 12 % 12)) (by omega) (by omega)).mp c242])] at e
                exact e _ _ _ _ _ u hf hu
              · refine jm_iconst (nI 1) dX7_group_245 rfl (by decide) ?_
                refine jm_goto (n := 250) dX7_group_246 (by decide) ?_
                refine jm_istore dX7_group_250 rfl rfl rfl ?_
                dsimp only [List.set]
                refine jm_iload dX7_group_252 rfl rfl ?_
                refine jm_if_eq (tgt := 347) dX7_group_254 (by decide) rfl (fun c254 => absurd c254 (by decide)) (fun c254 => ?_)
                refine jm_aload_n dX7_group_257 rfl rfl rfl ?_
                refine jm_iload dX7_group_258 rfl rfl ?_
                refine jm_iload_n dX7_group_260 rfl rfl rfl ?_
                refine jm_cV2 dX7_group_261 rfl cb_X7_132 ci_X7_seat cv_X7_seat rfl rfl rfl (Nat.le_of_ble_eq_true rfl) (Nat.le_of_ble_eq_true rfl) (by decide) (s_X7_seat (j := (i / 144)) (by omega) ?_)
                refine jm_aload_n dX7_group_264 rfl rfl rfl ?_
                refine jm_iload dX7_group_265 rfl rfl ?_
                refine jm_iload_n dX7_group_267 rfl rfl rfl ?_
                refine jm_cV2 dX7_group_268 rfl cb_X7_132 ci_X7_seat cv_X7_seat rfl rfl rfl (Nat.le_of_ble_eq_true rfl) (Nat.le_of_ble_eq_true rfl) (by decide) (s_X7_seat (j := (i / 12 % 12)) (by omega) ?_)
                refine jm_aload_n dX7_group_271 rfl rfl rfl ?_
                refine jm_iload dX7_group_272 rfl rfl ?_
                refine jm_iload dX7_group_274 rfl rfl ?_
                refine jm_cV2 dX7_group_276 rfl cb_X7_132 ci_X7_seat cv_X7_seat rfl rfl rfl (Nat.le_of_ble_eq_true rfl) (Nat.le_of_ble_eq_true rfl) (by decide) (s_X7_seat (j := (i % 12)) (by omega) ?_)
                refine jm_aload_n dX7_group_279 rfl rfl rfl ?_
                refine jm_cV0 dX7_group_280 rfl cb_X7_101 ci_X7_shakeOf cv_X7_shakeOf rfl rfl rfl (Nat.le_of_ble_eq_true rfl) (Nat.le_of_ble_eq_true rfl) (by decide) (s_X7_shakeOf ?_)
                refine jm_istore dX7_group_283 rfl rfl rfl ?_
                dsimp only [List.set]
                rw [show md_sh (jm_set (jm_set (jm_set u 28 (i / 144) a) 28 (i / 12 % 12) b) 28 (i % 12) c) = md_sh (gm_m3 μ a b c i) from md_sh_c (by simp only [gm_m3, jm_set_ne 25 (show (25 : Nat) ≠ 28 by decide)]; exact hf 25 (by decide)) (by simp only [gm_m3, jm_set_ne 26 (show (26 : Nat) ≠ 28 by decide)]; exact hf 26 (by decide)) (by simp only [gm_m3, jm_set_ne 27 (show (27 : Nat) ≠ 28 by decide)]; exact hf 27 (by decide)) (by simp only [gm_m3, jm_set_eq, hf 28 (show (28 : Nat) ≠ 32 by decide)])]
                refine jm_iload dX7_group_285 rfl rfl ?_
                refine jm_iconst (-1) dX7_group_287 rfl (by decide) ?_
                refine jm_icmp_eq (tgt := 298) dX7_group_288 (by decide) rfl (fun c288 => ?_) (fun c288 => ?_)
                · refine jm_iload dX7_group_298 rfl rfl ?_
                  refine jm_istore dX7_group_300 rfl rfl rfl ?_
                  dsimp only [List.set]
                  refine jm_aload_n dX7_group_302 rfl rfl rfl ?_
                  refine jm_getr dX7_group_303 rfl fe_X7_31 rfl rfl rfl ?_
                  refine jm_iconst (nI 0) dX7_group_306 rfl (by decide) ?_
                  refine jm_iload dX7_group_307 rfl rfl ?_
                  refine jm_iast dX7_group_309 rfl rfl rfl (by decide) rfl (by decide) ?_
                  refine jm_aload_n dX7_group_310 rfl rfl rfl ?_
                  refine jm_getr dX7_group_311 rfl fe_X7_31 rfl rfl rfl ?_
                  refine jm_iconst (nI 1) dX7_group_314 rfl (by decide) ?_
                  refine jm_iload dX7_group_315 rfl rfl ?_
                  refine jm_iast dX7_group_317 rfl rfl rfl (by decide) rfl (by decide) ?_
                  refine jm_aload_n dX7_group_318 rfl rfl rfl ?_
                  refine jm_getr dX7_group_319 rfl fe_X7_31 rfl rfl rfl ?_
                  refine jm_iconst (nI 2) dX7_group_322 rfl (by decide) ?_
                  refine jm_iload dX7_group_323 rfl rfl ?_
                  refine jm_iast dX7_group_325 rfl rfl rfl (by decide) rfl (by decide) ?_
                  refine jm_aload_n dX7_group_326 rfl rfl rfl ?_
                  refine jm_iload dX7_group_327 rfl rfl ?_
                  refine jm_iconst (nI 0) dX7_group_329 rfl (by decide) ?_
                  refine jm_cV2 dX7_group_330 rfl cb_X7_132 ci_X7_seat cv_X7_seat rfl rfl rfl (Nat.le_of_ble_eq_true rfl) (Nat.le_of_ble_eq_true rfl) (by decide) (s_X7_seat (j := (i / 144)) (by omega) ?_)
                  refine jm_aload_n dX7_group_333 rfl rfl rfl ?_
                  refine jm_iload dX7_group_334 rfl rfl ?_
                  refine jm_iconst (nI 0) dX7_group_336 rfl (by decide) ?_
                  refine jm_cV2 dX7_group_337 rfl cb_X7_132 ci_X7_seat cv_X7_seat rfl rfl rfl (Nat.le_of_ble_eq_true rfl) (Nat.le_of_ble_eq_true rfl) (by decide) (s_X7_seat (j := (i / 12 % 12)) (by omega) ?_)
                  refine jm_aload_n dX7_group_340 rfl rfl rfl ?_
                  refine jm_iload dX7_group_341 rfl rfl ?_
                  refine jm_iconst (nI 0) dX7_group_343 rfl (by decide) ?_
                  refine jm_cV2 dX7_group_344 rfl cb_X7_132 ci_X7_seat cv_X7_seat rfl rfl rfl (Nat.le_of_ble_eq_true rfl) (Nat.le_of_ble_eq_true rfl) (by decide) (s_X7_seat (j := (i % 12)) (by omega) ?_)
                  refine jm_iinc (nI 1) dX7_group_347 rfl rfl (by decide) rfl rfl ?_
                  dsimp only [List.set]
                  refine jm_goto (n := 101) dX7_group_350 (by decide) ?_
                  rw [nI_add]
                  have hok : gm_ok3 μ i = true := by simp only [gm_ok3, hfr0, hfr1, hfr2, Bool.true_and, Bool.and_eq_true]; exact ⟨decide_eq_true (fun e => c214 (congrArg nI e)), decide_eq_true (fun e => c235 (congrArg nI e)), decide_eq_true (fun e => c242 (congrArg nI e))⟩
                  have e := ih
                  rw [gm_f_lt hok (Or.inl c288)] at e
                  exact e _ _ _ _ _ _ (fun q hq => if h28 : q = 28 then by subst h28; simp only [jm_set_eq, jm_set_ne 28 (show (28 : Nat) ≠ 32 by decide), hf 28 (show (28 : Nat) ≠ 32 by decide)]; exact gm_rest cr0 cr1 cr2 else by simp only [jm_set_ne q h28, jm_set_ne q hq]; exact hf q hq) (by simp only [jm_set_ne 32 (show (32 : Nat) ≠ 28 by decide), jm_set_eq, hu])
                · refine jm_iload dX7_group_291 rfl rfl ?_
                  refine jm_iload dX7_group_293 rfl rfl ?_
                  refine jm_icmp_ge (tgt := 326) dX7_group_295 (by decide) rfl (fun c295 => ?_) (fun c295 => ?_)
                  · refine jm_aload_n dX7_group_326 rfl rfl rfl ?_
                    refine jm_iload dX7_group_327 rfl rfl ?_
                    refine jm_iconst (nI 0) dX7_group_329 rfl (by decide) ?_
                    refine jm_cV2 dX7_group_330 rfl cb_X7_132 ci_X7_seat cv_X7_seat rfl rfl rfl (Nat.le_of_ble_eq_true rfl) (Nat.le_of_ble_eq_true rfl) (by decide) (s_X7_seat (j := (i / 144)) (by omega) ?_)
                    refine jm_aload_n dX7_group_333 rfl rfl rfl ?_
                    refine jm_iload dX7_group_334 rfl rfl ?_
                    refine jm_iconst (nI 0) dX7_group_336 rfl (by decide) ?_
                    refine jm_cV2 dX7_group_337 rfl cb_X7_132 ci_X7_seat cv_X7_seat rfl rfl rfl (Nat.le_of_ble_eq_true rfl) (Nat.le_of_ble_eq_true rfl) (by decide) (s_X7_seat (j := (i / 12 % 12)) (by omega) ?_)
                    refine jm_aload_n dX7_group_340 rfl rfl rfl ?_
                    refine jm_iload dX7_group_341 rfl rfl ?_
                    refine jm_iconst (nI 0) dX7_group_343 rfl (by decide) ?_
                    refine jm_cV2 dX7_group_344 rfl cb_X7_132 ci_X7_seat cv_X7_seat rfl rfl rfl (Nat.le_of_ble_eq_true rfl) (Nat.le_of_ble_eq_true rfl) (by decide) (s_X7_seat (j := (i % 12)) (by omega) ?_)
                    refine jm_iinc (nI 1) dX7_group_347 rfl rfl (by decide) rfl rfl ?_
                    dsimp only [List.set]
                    refine jm_goto (n := 101) dX7_group_350 (by decide) ?_
                    rw [nI_add]
                    have hok : gm_ok3 μ i = true := by simp only [gm_ok3, hfr0, hfr1, hfr2, Bool.true_and, Bool.and_eq_true]; exact ⟨decide_eq_true (fun e => c214 (congrArg nI e)), decide_eq_true (fun e => c235 (congrArg nI e)), decide_eq_true (fun e => c242 (congrArg nI e))⟩
                    have e := ih
                    rw [gm_f_ge c288 c295] at e
                    exact e _ _ _ _ _ _ (fun q hq => if h28 : q = 28 then by subst h28; simp only [jm_set_eq, jm_set_ne 28 (show (28 : Nat) ≠ 32 by decide), hf 28 (show (28 : Nat) ≠ 32 by decide)]; exact gm_rest cr0 cr1 cr2 else by simp only [jm_set_ne q h28, jm_set_ne q hq]; exact hf q hq) (by simp only [jm_set_ne 32 (show (32 : Nat) ≠ 28 by decide), hu])
                  · refine jm_iload dX7_group_298 rfl rfl ?_
                    refine jm_istore dX7_group_300 rfl rfl rfl ?_
                    dsimp only [List.set]
                    refine jm_aload_n dX7_group_302 rfl rfl rfl ?_
                    refine jm_getr dX7_group_303 rfl fe_X7_31 rfl rfl rfl ?_
                    refine jm_iconst (nI 0) dX7_group_306 rfl (by decide) ?_
                    refine jm_iload dX7_group_307 rfl rfl ?_
                    refine jm_iast dX7_group_309 rfl rfl rfl (by decide) rfl (by decide) ?_
                    refine jm_aload_n dX7_group_310 rfl rfl rfl ?_
                    refine jm_getr dX7_group_311 rfl fe_X7_31 rfl rfl rfl ?_
                    refine jm_iconst (nI 1) dX7_group_314 rfl (by decide) ?_
                    refine jm_iload dX7_group_315 rfl rfl ?_
                    refine jm_iast dX7_group_317 rfl rfl rfl (by decide) rfl (by decide) ?_
                    refine jm_aload_n dX7_group_318 rfl rfl rfl ?_
                    refine jm_getr dX7_group_319 rfl fe_X7_31 rfl rfl rfl ?_
                    refine jm_iconst (nI 2) dX7_group_322 rfl (by decide) ?_
                    refine jm_iload dX7_group_323 rfl rfl ?_
                    refine jm_iast dX7_group_325 rfl rfl rfl (by decide) rfl (by decide) ?_
                    refine jm_aload_n dX7_group_326 rfl rfl rfl ?_
                    refine jm_iload dX7_group_327 rfl rfl ?_
                    refine jm_iconst (nI 0) dX7_group_329 rfl (by decide) ?_
                    refine jm_cV2 dX7_group_330 rfl cb_X7_132 ci_X7_seat cv_X7_seat rfl rfl rfl (Nat.le_of_ble_eq_true rfl) (Nat.le_of_ble_eq_true rfl) (by decide) (s_X7_seat (j := (i / 144)) (by omega) ?_)
                    refine jm_aload_n dX7_group_333 rfl rfl rfl ?_
                    refine jm_iload dX7_group_334 rfl rfl ?_
                    refine jm_iconst (nI 0) dX7_group_336 rfl (by decide) ?_
                    refine jm_cV2 dX7_group_337 rfl cb_X7_132 ci_X7_seat cv_X7_seat rfl rfl rfl (Nat.le_of_ble_eq_true rfl) (Nat.le_of_ble_eq_true rfl) (by decide) (s_X7_seat (j := (i / 12 % 12)) (by omega) ?_)
                    refine jm_aload_n dX7_group_340 rfl rfl rfl ?_
                    refine jm_iload dX7_group_341 rfl rfl ?_
                    refine jm_iconst (nI 0) dX7_group_343 rfl (by decide) ?_
                    refine jm_cV2 dX7_group_344 rfl cb_X7_132 ci_X7_seat cv_X7_seat rfl rfl rfl (Nat.le_of_ble_eq_true rfl) (Nat.le_of_ble_eq_true rfl) (by decide) (s_X7_seat (j := (i % 12)) (by omega) ?_)
                    refine jm_iinc (nI 1) dX7_group_347 rfl rfl (by decide) rfl rfl ?_
                    dsimp only [List.set]
                    refine jm_goto (n := 101) dX7_group_350 (by decide) ?_
                    rw [nI_add]
                    have hok : gm_ok3 μ i = true := by simp only [gm_ok3, hfr0, hfr1, hfr2, Bool.true_and, Bool.and_eq_true]; exact ⟨decide_eq_true (fun e => c214 (congrArg nI e)), decide_eq_true (fun e => c235 (congrArg nI e)), decide_eq_true (fun e => c242 (congrArg nI e))⟩
                    have e := ih
                    rw [gm_f_lt hok (Or.inr (Int32.not_le.mp c295))] at e
                    exact e _ _ _ _ _ _ (fun q hq => if h28 : q = 28 then by subst h28; simp only [jm_set_eq, jm_set_ne 28 (show (28 : Nat) ≠ 32 by decide), hf 28 (show (28 : Nat) ≠ 32 by decide)]; exact gm_rest cr0 cr1 cr2 else by simp only [jm_set_ne q h28, jm_set_ne q hq]; exact hf q hq) (by simp only [jm_set_ne 32 (show (32 : Nat) ≠ 28 by decide), jm_set_eq, hu])
          · rw [hf 27 (by decide), hf 28 (by decide)] at cf2
            have hnf2 : md_fr μ (i % 12) = false := decide_eq_false (fun q => cf2.elim (fun c => q.1 c) (fun c => c q.2))
            refine jm_if_eq (tgt := 249) dX7_group_228 (by decide) rfl (fun c228 => ?_) (fun c228 => absurd c228 (by decide))
            refine jm_iconst (nI 0) dX7_group_249 rfl (by decide) ?_
            refine jm_istore dX7_group_250 rfl rfl rfl ?_
            dsimp only [List.set]
            refine jm_iload dX7_group_252 rfl rfl ?_
            refine jm_if_eq (tgt := 347) dX7_group_254 (by decide) rfl (fun c254 => ?_) (fun c254 => absurd c254 (by decide))
            refine jm_iinc (nI 1) dX7_group_347 rfl rfl (by decide) rfl rfl ?_
            dsimp only [List.set]
            refine jm_goto (n := 101) dX7_group_350 (by decide) ?_
            rw [nI_add]
            have e := ih
            rw [gm_f_no (show gm_ok3 μ i = false by simp [gm_ok3, hnf2])] at e
            exact e _ _ _ _ _ u hf hu
      · rw [hf 27 (by decide), hf 28 (by decide)] at cf1
        have hnf1 : md_fr μ (i / 12 % 12) = false := decide_eq_false (fun q => cf1.elim (fun c => q.1 c) (fun c => c q.2))
        refine jm_if_eq (tgt := 249) dX7_group_207 (by decide) rfl (fun c207 => ?_) (fun c207 => absurd c207 (by decide))
        refine jm_iconst (nI 0) dX7_group_249 rfl (by decide) ?_
        refine jm_istore dX7_group_250 rfl rfl rfl ?_
        dsimp only [List.set]
        refine jm_iload dX7_group_252 rfl rfl ?_
        refine jm_if_eq (tgt := 347) dX7_group_254 (by decide) rfl (fun c254 => ?_) (fun c254 => absurd c254 (by decide))
        refine jm_iinc (nI 1) dX7_group_347 rfl rfl (by decide) rfl rfl ?_
        dsimp only [List.set]
        refine jm_goto (n := 101) dX7_group_350 (by decide) ?_
        rw [nI_add]
        have e := ih
        rw [gm_f_no (show gm_ok3 μ i = false by simp [gm_ok3, hnf1])] at e
        exact e _ _ _ _ _ u hf hu
    · rw [hf 27 (by decide), hf 28 (by decide)] at cf0
      have hnf0 : md_fr μ (i / 144) = false := decide_eq_false (fun q => cf0.elim (fun c => q.1 c) (fun c => c q.2))
      refine jm_if_eq (tgt := 249) dX7_group_193 (by decide) rfl (fun c193 => ?_) (fun c193 => absurd c193 (by decide))
      refine jm_iconst (nI 0) dX7_group_249 rfl (by decide) ?_
      refine jm_istore dX7_group_250 rfl rfl rfl ?_
      dsimp only [List.set]
      refine jm_iload dX7_group_252 rfl rfl ?_
      refine jm_if_eq (tgt := 347) dX7_group_254 (by decide) rfl (fun c254 => ?_) (fun c254 => absurd c254 (by decide))
      refine jm_iinc (nI 1) dX7_group_347 rfl rfl (by decide) rfl rfl ?_
      dsimp only [List.set]
      refine jm_goto (n := 101) dX7_group_350 (by decide) ?_
      rw [nI_add]
      have e := ih
      rw [gm_f_no (show gm_ok3 μ i = false by simp [gm_ok3, hnf0])] at e
      exact e _ _ _ _ _ u hf hu
set_option maxHeartbeats 1000000 in
theorem l_X7_h1 {Ln : Nat} {xs : Nat → Int32} {μ : jm_Mem} {Q : Option Value → jm_Mem → Prop} {a b c : Int32} (h0 : μ 24 9 = nI 60 → Q (some (.int (-103))) μ) (h1 : ¬ μ 24 9 = nI 60 → ∀ r μ1, om_gk (gm_g1 (jm_set μ 24 9 (μ 24 9 + 1)) a) (fun i => nI i) (fun _ => -1) (fun _ => -1) (gm_ok1 (jm_set μ 24 9 (μ 24 9 + 1))) (gm_m1 (jm_set μ 24 9 (μ 24 9 + 1)) a) 12 (jm_set μ 24 9 (μ 24 9 + 1)) r μ1 → Q (some (.int r)) μ1) : jm_J rg_I (rg_X Ln xs) 2 mX7_group 47 [some (.ref 24), some (.int (nI 1)), some (.int a), some (.int b), some (.int c), none, none, none, none, none, none, none, none] [] μ Q := by
  refine jm_aload_n dX7_group_47 rfl rfl rfl ?_
  refine jm_geti dX7_group_48 rfl fe_X7_129 rfl rfl rfl ?_
  refine jm_bipush (nI 60) dX7_group_51 rfl (by decide) ?_
  refine jm_icmp_ne (tgt := 59) dX7_group_53 (by decide) rfl (fun c53 => ?_) (fun c53 => ?_)
  · refine jm_aload_n dX7_group_59 rfl rfl rfl ?_
    refine jm_dup dX7_group_60 rfl rfl ?_
    refine jm_geti dX7_group_61 rfl fe_X7_129 rfl rfl rfl ?_
    refine jm_iconst (nI 1) dX7_group_64 rfl (by decide) ?_
    refine jm_iadd dX7_group_65 rfl ?_
    refine jm_puti dX7_group_66 rfl pe_X7_129 rfl rfl rfl ?_
    refine jm_iconst (-1) dX7_group_69 rfl (by decide) ?_
    refine jm_istore dX7_group_70 rfl rfl rfl ?_
    dsimp only [List.set]
    refine jm_iload_n dX7_group_72 rfl rfl rfl ?_
    refine jm_iconst (nI 1) dX7_group_73 rfl (by decide) ?_
    refine jm_icmp_ne (tgt := 82) dX7_group_74 (by decide) rfl (fun c74 => absurd c74 (by decide)) (fun c74 => ?_)
    refine jm_bipush (nI 12) dX7_group_77 rfl (by decide) ?_
    refine jm_goto (n := 96) dX7_group_79 (by decide) ?_
    refine jm_istore dX7_group_96 rfl rfl rfl ?_
    dsimp only [List.set]
    refine jm_iconst (nI 0) dX7_group_98 rfl (by decide) ?_
    refine jm_istore dX7_group_99 rfl rfl rfl ?_
    dsimp only [List.set]
    exact l_X7_g1 (h1 c53) 0 (by omega) none none none none none _ (fun _ _ => rfl) rfl
  · refine jm_bipush (-103) dX7_group_56 rfl (by decide) ?_
    refine jm_iret dX7_group_58 rfl rfl ?_
    exact h0 c53
set_option maxHeartbeats 1000000 in
theorem l_X7_h2 {Ln : Nat} {xs : Nat → Int32} {μ : jm_Mem} {Q : Option Value → jm_Mem → Prop} {a b c : Int32} (h0 : μ 24 9 = nI 60 → Q (some (.int (-103))) μ) (h1 : ¬ μ 24 9 = nI 60 → ∀ r μ1, om_gk (gm_g2 (jm_set μ 24 9 (μ 24 9 + 1)) a b) (fun i => nI (i / 12)) (fun i => nI (i % 12)) (fun _ => -1) (gm_ok2 (jm_set μ 24 9 (μ 24 9 + 1))) (gm_m2 (jm_set μ 24 9 (μ 24 9 + 1)) a b) 144 (jm_set μ 24 9 (μ 24 9 + 1)) r μ1 → Q (some (.int r)) μ1) : jm_J rg_I (rg_X Ln xs) 2 mX7_group 47 [some (.ref 24), some (.int (nI 2)), some (.int a), some (.int b), some (.int c), none, none, none, none, none, none, none, none] [] μ Q := by
  refine jm_aload_n dX7_group_47 rfl rfl rfl ?_
  refine jm_geti dX7_group_48 rfl fe_X7_129 rfl rfl rfl ?_
  refine jm_bipush (nI 60) dX7_group_51 rfl (by decide) ?_
  refine jm_icmp_ne (tgt := 59) dX7_group_53 (by decide) rfl (fun c53 => ?_) (fun c53 => ?_)
  · refine jm_aload_n dX7_group_59 rfl rfl rfl ?_
    refine jm_dup dX7_group_60 rfl rfl ?_
    refine jm_geti dX7_group_61 rfl fe_X7_129 rfl rfl rfl ?_
    refine jm_iconst (nI 1) dX7_group_64 rfl (by decide) ?_
    refine jm_iadd dX7_group_65 rfl ?_
    refine jm_puti dX7_group_66 rfl pe_X7_129 rfl rfl rfl ?_
    refine jm_iconst (-1) dX7_group_69 rfl (by decide) ?_
    refine jm_istore dX7_group_70 rfl rfl rfl ?_
    dsimp only [List.set]
    refine jm_iload_n dX7_group_72 rfl rfl rfl ?_
    refine jm_iconst (nI 1) dX7_group_73 rfl (by decide) ?_
    refine jm_icmp_ne (tgt := 82) dX7_group_74 (by decide) rfl (fun c74 => ?_) (fun c74 => absurd c74 (by decide))
    refine jm_iload_n dX7_group_82 rfl rfl rfl ?_
    refine jm_iconst (nI 2) dX7_group_83 rfl (by decide) ?_
    refine jm_icmp_ne (tgt := 93) dX7_group_84 (by decide) rfl (fun c84 => absurd c84 (by decide)) (fun c84 => ?_)
    refine jm_sipush (nI 144) dX7_group_87 rfl (by decide) ?_
    refine jm_goto (n := 96) dX7_group_90 (by decide) ?_
    refine jm_istore dX7_group_96 rfl rfl rfl ?_
    dsimp only [List.set]
    refine jm_iconst (nI 0) dX7_group_98 rfl (by decide) ?_
    refine jm_istore dX7_group_99 rfl rfl rfl ?_
    dsimp only [List.set]
    exact l_X7_g2 (h1 c53) 0 (by omega) none none none none none _ (fun _ _ => rfl) rfl
  · refine jm_bipush (-103) dX7_group_56 rfl (by decide) ?_
    refine jm_iret dX7_group_58 rfl rfl ?_
    exact h0 c53
set_option maxHeartbeats 1000000 in
theorem l_X7_h3 {Ln : Nat} {xs : Nat → Int32} {μ : jm_Mem} {Q : Option Value → jm_Mem → Prop} {a b c : Int32} (h0 : μ 24 9 = nI 60 → Q (some (.int (-103))) μ) (h1 : ¬ μ 24 9 = nI 60 → ∀ r μ1, om_gk (gm_g3 (jm_set μ 24 9 (μ 24 9 + 1)) a b c) (fun i => nI (i / 144)) (fun i => nI (i / 12 % 12)) (fun i => nI (i % 12)) (gm_ok3 (jm_set μ 24 9 (μ 24 9 + 1))) (gm_m3 (jm_set μ 24 9 (μ 24 9 + 1)) a b c) 1728 (jm_set μ 24 9 (μ 24 9 + 1)) r μ1 → Q (some (.int r)) μ1) : jm_J rg_I (rg_X Ln xs) 2 mX7_group 47 [some (.ref 24), some (.int (nI 3)), some (.int a), some (.int b), some (.int c), none, none, none, none, none, none, none, none] [] μ Q := by
  refine jm_aload_n dX7_group_47 rfl rfl rfl ?_
  refine jm_geti dX7_group_48 rfl fe_X7_129 rfl rfl rfl ?_
  refine jm_bipush (nI 60) dX7_group_51 rfl (by decide) ?_
  refine jm_icmp_ne (tgt := 59) dX7_group_53 (by decide) rfl (fun c53 => ?_) (fun c53 => ?_)
  · refine jm_aload_n dX7_group_59 rfl rfl rfl ?_
    refine jm_dup dX7_group_60 rfl rfl ?_
    refine jm_geti dX7_group_61 rfl fe_X7_129 rfl rfl rfl ?_
    refine jm_iconst (nI 1) dX7_group_64 rfl (by decide) ?_
    refine jm_iadd dX7_group_65 rfl ?_
    refine jm_puti dX7_group_66 rfl pe_X7_129 rfl rfl rfl ?_
    refine jm_iconst (-1) dX7_group_69 rfl (by decide) ?_
    refine jm_istore dX7_group_70 rfl rfl rfl ?_
    dsimp only [List.set]
    refine jm_iload_n dX7_group_72 rfl rfl rfl ?_
    refine jm_iconst (nI 1) dX7_group_73 rfl (by decide) ?_
    refine jm_icmp_ne (tgt := 82) dX7_group_74 (by decide) rfl (fun c74 => ?_) (fun c74 => absurd c74 (by decide))
    refine jm_iload_n dX7_group_82 rfl rfl rfl ?_
    refine jm_iconst (nI 2) dX7_group_83 rfl (by decide) ?_
    refine jm_icmp_ne (tgt := 93) dX7_group_84 (by decide) rfl (fun c84 => ?_) (fun c84 => absurd c84 (by decide))
    refine jm_sipush (nI 1728) dX7_group_93 rfl (by decide) ?_
    refine jm_istore dX7_group_96 rfl rfl rfl ?_
    dsimp only [List.set]
    refine jm_iconst (nI 0) dX7_group_98 rfl (by decide) ?_
    refine jm_istore dX7_group_99 rfl rfl rfl ?_
    dsimp only [List.set]
    exact l_X7_g3 (h1 c53) 0 (by omega) none none none none none _ (fun _ _ => rfl) rfl
  · refine jm_bipush (-103) dX7_group_56 rfl (by decide) ?_
    refine jm_iret dX7_group_58 rfl rfl ?_
    exact h0 c53
set_option maxHeartbeats 1000000 in
theorem lg_grp {Ln : Nat} {xs : Nat → Int32} {μ : jm_Mem} {Q : Option Value → jm_Mem → Prop} {k : Nat} {a b c : Int32} (hk1 : 1 ≤ k) (hk3 : k ≤ 3) (wa : rg_wi a 1 (nI 150)) (wb : 2 ≤ k → rg_wi b 1 (nI 150)) (wc : 3 ≤ k → rg_wi c 1 (nI 150)) (h : ∀ r μ1, om_group μ (nI k) a b c r μ1 → Q (some (.int r)) μ1) : jm_J rg_I (rg_X Ln xs) 2 mX7_group 47 [some (.ref 24), some (.int (nI k)), some (.int a), some (.int b), some (.int c), none, none, none, none, none, none, none, none] [] μ Q := by
  obtain rfl | rfl | rfl : k = 1 ∨ k = 2 ∨ k = 3 := by omega
  · exact l_X7_h1 (fun e => h _ _ (Or.inr ⟨1, hk1, hk3, rfl, wa, wb, wc, Or.inl ⟨e, rfl, rfl⟩⟩)) (fun e r μ1 o => h _ _ (Or.inr ⟨1, hk1, hk3, rfl, wa, wb, wc, Or.inr ⟨e, _, rfl, Or.inl ⟨rfl, o⟩⟩⟩))
  · exact l_X7_h2 (fun e => h _ _ (Or.inr ⟨2, hk1, hk3, rfl, wa, wb, wc, Or.inl ⟨e, rfl, rfl⟩⟩)) (fun e r μ1 o => h _ _ (Or.inr ⟨2, hk1, hk3, rfl, wa, wb, wc, Or.inr ⟨e, _, rfl, Or.inr (Or.inl ⟨rfl, o⟩)⟩⟩))
  · exact l_X7_h3 (fun e => h _ _ (Or.inr ⟨3, hk1, hk3, rfl, wa, wb, wc, Or.inl ⟨e, rfl, rfl⟩⟩)) (fun e r μ1 o => h _ _ (Or.inr ⟨3, hk1, hk3, rfl, wa, wb, wc, Or.inr ⟨e, _, rfl, Or.inr (Or.inr ⟨rfl, o⟩)⟩⟩))
set_option maxHeartbeats 400000 in
theorem s_X7_group {Ln : Nat} {xs : Nat → Int32} {μ : jm_Mem} {Q : Option Value → jm_Mem → Prop} {n a b c : Int32} (h : ∀ r μ1, om_group μ n a b c r μ1 → Q (some (.int r)) μ1) : gJ Ln xs 2 mX7_group 0 (jm_en 13 [.ref 24, .int n, .int a, .int b, .int c]) [] μ Q := by
  show jm_J rg_I (rg_X Ln xs) 2 mX7_group 0 [some (.ref 24), some (.int n), some (.int a), some (.int b), some (.int c), none, none, none, none, none, none, none, none] [] μ Q
  refine jm_iload_n dX7_group_0 rfl rfl rfl ?_
  refine jm_i2l dX7_group_1 rfl ?_
  refine jm_lconst 1 dX7_group_2 rfl (by decide) ?_
  refine jm_ldc2 3 dX7_group_3 rfl kc_X7_127 ?_
  refine jm_cS3 dX7_group_6 rfl cb_X7_75 cs_X7_in (Nat.le_of_ble_eq_true rfl) (Nat.le_of_ble_eq_true rfl) (by decide) (s_X7_in n (nI 1) (nI 3) rfl (by decide) (by decide) (fun a6 b6 => ?_) (fun c6 => ?_))
  · obtain ⟨k, hk1, hk3, rfl⟩ := rg_k13 a6 b6
    refine jm_if_eq (tgt := 44) dX7_group_9 (by decide) rfl (fun c9 => absurd c9 (by decide)) (fun c9 => ?_)
    refine jm_iload_n dX7_group_12 rfl rfl rfl ?_
    refine jm_cS1 dX7_group_13 rfl cb_X7_110 cs_X7_isRider (Nat.le_of_ble_eq_true rfl) (Nat.le_of_ble_eq_true rfl) (by decide) (s_X7_isRider (fun a13 b13 => ?_) (fun c13 => ?_))
    · refine jm_if_eq (tgt := 44) dX7_group_16 (by decide) rfl (fun c16 => absurd c16 (by decide)) (fun c16 => ?_)
      refine jm_iload_n dX7_group_19 rfl rfl rfl ?_
      refine jm_iconst (nI 1) dX7_group_20 rfl (by decide) ?_
      refine jm_icmp_le (tgt := 31) dX7_group_21 (by decide) rfl (fun c21 => ?_) (fun c21 => ?_)
      · refine jm_iload_n dX7_group_31 rfl rfl rfl ?_
        refine jm_iconst (nI 2) dX7_group_32 rfl (by decide) ?_
        refine jm_icmp_le (tgt := 47) dX7_group_33 (by decide) rfl (fun c33 => ?_) (fun c33 => ?_)
        · refine lg_grp hk1 hk3 (a := a) (b := b) (c := c) ⟨a13, b13⟩ ?_ ?_ h
          · first | exact fun h9 => absurd ((nI_leI (by omega) (by omega)).mp c21) (by omega) | exact fun _ => ⟨a25, b25⟩ | fail "wb"
          · first | exact fun h9 => absurd ((nI_leI (by omega) (by omega)).mp c33) (by omega) | exact fun _ => ⟨a38, b38⟩ | fail "wc"
        · refine jm_iload dX7_group_36 rfl rfl ?_
          refine jm_cS1 dX7_group_38 rfl cb_X7_110 cs_X7_isRider (Nat.le_of_ble_eq_true rfl) (Nat.le_of_ble_eq_true rfl) (by decide) (s_X7_isRider (fun a38 b38 => ?_) (fun c38 => ?_))
          · refine jm_if_ne (tgt := 47) dX7_group_41 (by decide) rfl (fun c41 => ?_) (fun c41 => absurd c41 (by decide))
            refine lg_grp hk1 hk3 (a := a) (b := b) (c := c) ⟨a13, b13⟩ ?_ ?_ h
            · first | exact fun h9 => absurd ((nI_leI (by omega) (by omega)).mp c21) (by omega) | exact fun _ => ⟨a25, b25⟩ | fail "wb"
            · first | exact fun h9 => absurd ((nI_leI (by omega) (by omega)).mp c33) (by omega) | exact fun _ => ⟨a38, b38⟩ | fail "wc"
          · refine jm_if_ne (tgt := 47) dX7_group_41 (by decide) rfl (fun c41 => absurd c41 (by decide)) (fun c41 => ?_)
            refine jm_bipush (-102) dX7_group_44 rfl (by decide) ?_
            refine jm_iret dX7_group_46 rfl rfl ?_
            refine h _ _ ?_
            first | exact Or.inl ⟨Or.inl c6, rfl, rfl⟩ | exact Or.inl ⟨Or.inr (Or.inl c13), rfl, rfl⟩ | exact Or.inl ⟨Or.inr (Or.inr (Or.inl ⟨rg_le_lt (by decide) c21, c25⟩)), rfl, rfl⟩ | exact Or.inl ⟨Or.inr (Or.inr (Or.inr ⟨rg_le_lt (by decide) c33, c38⟩)), rfl, rfl⟩ | fail "leaf"
      · refine jm_iload_n dX7_group_24 rfl rfl rfl ?_
        refine jm_cS1 dX7_group_25 rfl cb_X7_110 cs_X7_isRider (Nat.le_of_ble_eq_true rfl) (Nat.le_of_ble_eq_true rfl) (by decide) (s_X7_isRider (fun a25 b25 => ?_) (fun c25 => ?_))
        · refine jm_if_eq (tgt := 44) dX7_group_28 (by decide) rfl (fun c28 => absurd c28 (by decide)) (fun c28 => ?_)
          refine jm_iload_n dX7_group_31 rfl rfl rfl ?_
          refine jm_iconst (nI 2) dX7_group_32 rfl (by decide) ?_
          refine jm_icmp_le (tgt := 47) dX7_group_33 (by decide) rfl (fun c33 => ?_) (fun c33 => ?_)
          · refine lg_grp hk1 hk3 (a := a) (b := b) (c := c) ⟨a13, b13⟩ ?_ ?_ h
            · first | exact fun h9 => absurd ((nI_leI (by omega) (by omega)).mp c21) (by omega) | exact fun _ => ⟨a25, b25⟩ | fail "wb"
            · first | exact fun h9 => absurd ((nI_leI (by omega) (by omega)).mp c33) (by omega) | exact fun _ => ⟨a38, b38⟩ | fail "wc"
          · refine jm_iload dX7_group_36 rfl rfl ?_
            refine jm_cS1 dX7_group_38 rfl cb_X7_110 cs_X7_isRider (Nat.le_of_ble_eq_true rfl) (Nat.le_of_ble_eq_true rfl) (by decide) (s_X7_isRider (fun a38 b38 => ?_) (fun c38 => ?_))
            · refine jm_if_ne (tgt := 47) dX7_group_41 (by decide) rfl (fun c41 => ?_) (fun c41 => absurd c41 (by decide))
              refine lg_grp hk1 hk3 (a := a) (b := b) (c := c) ⟨a13, b13⟩ ?_ ?_ h
              · first | exact fun h9 => absurd ((nI_leI (by omega) (by omega)).mp c21) (by omega) | exact fun _ => ⟨a25, b25⟩ | fail "wb"
              · first | exact fun h9 => absurd ((nI_leI (by omega) (by omega)).mp c33) (by omega) | exact fun _ => ⟨a38, b38⟩ | fail "wc"
            · refine jm_if_ne (tgt := 47) dX7_group_41 (by decide) rfl (fun c41 => absurd c41 (by decide)) (fun c41 => ?_)
              refine jm_bipush (-102) dX7_group_44 rfl (by decide) ?_
              refine jm_iret dX7_group_46 rfl rfl ?_
              refine h _ _ ?_
              first | exact Or.inl ⟨Or.inl c6, rfl, rfl⟩ | exact Or.inl ⟨Or.inr (Or.inl c13), rfl, rfl⟩ | exact Or.inl ⟨Or.inr (Or.inr (Or.inl ⟨rg_le_lt (by decide) c21, c25⟩)), rfl, rfl⟩ | exact Or.inl ⟨Or.inr (Or.inr (Or.inr ⟨rg_le_lt (by decide) c33, c38⟩)), rfl, rfl⟩ | fail "leaf"
        · refine jm_if_eq (tgt := 44) dX7_group_28 (by decide) rfl (fun c28 => ?_) (fun c28 => absurd c28 (by decide))
          refine jm_bipush (-102) dX7_group_44 rfl (by decide) ?_
          refine jm_iret dX7_group_46 rfl rfl ?_
          refine h _ _ ?_
          first | exact Or.inl ⟨Or.inl c6, rfl, rfl⟩ | exact Or.inl ⟨Or.inr (Or.inl c13), rfl, rfl⟩ | exact Or.inl ⟨Or.inr (Or.inr (Or.inl ⟨rg_le_lt (by decide) c21, c25⟩)), rfl, rfl⟩ | exact Or.inl ⟨Or.inr (Or.inr (Or.inr ⟨rg_le_lt (by decide) c33, c38⟩)), rfl, rfl⟩ | fail "leaf"
    · refine jm_if_eq (tgt := 44) dX7_group_16 (by decide) rfl (fun c16 => ?_) (fun c16 => absurd c16 (by decide))
      refine jm_bipush (-102) dX7_group_44 rfl (by decide) ?_
      refine jm_iret dX7_group_46 rfl rfl ?_
      refine h _ _ ?_
      first | exact Or.inl ⟨Or.inl c6, rfl, rfl⟩ | exact Or.inl ⟨Or.inr (Or.inl c13), rfl, rfl⟩ | exact Or.inl ⟨Or.inr (Or.inr (Or.inl ⟨rg_le_lt (by decide) c21, c25⟩)), rfl, rfl⟩ | exact Or.inl ⟨Or.inr (Or.inr (Or.inr ⟨rg_le_lt (by decide) c33, c38⟩)), rfl, rfl⟩ | fail "leaf"
  · refine jm_if_eq (tgt := 44) dX7_group_9 (by decide) rfl (fun c9 => ?_) (fun c9 => absurd c9 (by decide))
    refine jm_bipush (-102) dX7_group_44 rfl (by decide) ?_
    refine jm_iret dX7_group_46 rfl rfl ?_
    refine h _ _ ?_
    first | exact Or.inl ⟨Or.inl c6, rfl, rfl⟩ | exact Or.inl ⟨Or.inr (Or.inl c13), rfl, rfl⟩ | exact Or.inl ⟨Or.inr (Or.inr (Or.inl ⟨rg_le_lt (by decide) c21, c25⟩)), rfl, rfl⟩ | exact Or.inl ⟨Or.inr (Or.inr (Or.inr ⟨rg_le_lt (by decide) c33, c38⟩)), rfl, rfl⟩ | fail "leaf"
