/-! group: class and model answer alike -/
theorem gm_f_iz {ok : Nat → Bool} {z f s t : Nat → Int32} {st : gm_St} : ∀ n, gm_f ok z f s t n st = st ∨ ∃ i, i < n ∧ ok i = true ∧ (gm_f ok z f s t n st).1 = z i ∧ (gm_f ok z f s t n st).2 0 = f i ∧ (gm_f ok z f s t n st).2 1 = s i ∧ (gm_f ok z f s t n st).2 2 = t i
  | 0 => Or.inl rfl
  | n + 1 => by
    have ih := gm_f_iz (ok := ok) (z := z) (f := f) (s := s) (t := t) (st := st) n
    have old : gm_f ok z f s t (n + 1) st = gm_f ok z f s t n st → gm_f ok z f s t (n + 1) st = st ∨ ∃ i, i < n + 1 ∧ ok i = true ∧ (gm_f ok z f s t (n + 1) st).1 = z i ∧ (gm_f ok z f s t (n + 1) st).2 0 = f i ∧ (gm_f ok z f s t (n + 1) st).2 1 = s i ∧ (gm_f ok z f s t (n + 1) st).2 2 = t i := by
      intro e
      rw [e]
      rcases ih with h | ⟨i, hi, h⟩
      · exact Or.inl h
      · exact Or.inr ⟨i, by omega, h⟩
    cases c : ok n with
    | false => exact old (gm_f_no c)
    | true =>
      by_cases d : (gm_f ok z f s t n st).1 = -1 ∨ z n < (gm_f ok z f s t n st).1
      · rw [gm_f_lt c d]
        exact Or.inr ⟨n, by omega, c, rfl, by simp [upd], by simp [upd], by simp [upd]⟩
      · refine old ?_
        simp only [gm_f]
        rw [if_pos c]
        unfold gm_up
        rw [if_neg d]
theorem gm_f_ne {ok : Nat → Bool} {z f s t : Nat → Int32} {st : gm_St} (hz : ∀ i, ¬ z i = -1) : ∀ n, (∃ i, i < n ∧ ok i = true) → ¬ (gm_f ok z f s t n st).1 = -1
  | 0, ⟨i, hi, _⟩ => by omega
  | n + 1, ⟨i, hi, h⟩ => by
    cases c : ok n with
    | false =>
      rw [gm_f_no c]
      have : i ≠ n := fun e => by rw [e, c] at h; exact absurd h (by decide)
      exact gm_f_ne hz n ⟨i, by omega, h⟩
    | true =>
      simp only [gm_f]
      rw [if_pos c]
      unfold gm_up
      split
      · exact hz n
      · next d => exact fun e => d (Or.inl e)
theorem us1 {s : Nat → Bool} {a : Nat} (ha : a < 12) (h : s a = false) : 1 ≤ sw_u s 12 := by
  have := sw_u_lt h 12 ha
  omega
theorem us2 {s : Nat → Bool} {a b : Nat} (ha : a < 12) (h : s a = false) (hb : b < 12) (h2 : s b = false) (hn : b ≠ a) : 2 ≤ sw_u s 12 := by
  have := sw_u_lt h 12 ha
  have := us1 hb (st_in hn h2)
  omega
theorem us3 {s : Nat → Bool} {a b c : Nat} (ha : a < 12) (h : s a = false) (hb : b < 12) (h2 : s b = false) (hn : b ≠ a) (hc : c < 12) (h3 : s c = false) (hn2 : c ≠ a) (hn3 : c ≠ b) : 3 ≤ sw_u s 12 := by
  have := sw_u_lt h 12 ha
  have := us2 hb (st_in hn h2) hc (st_in hn2 h3) hn3
  omega
abbrev gS (μ : jm_Mem) : Nat := sw_u (fun p => !gc_fr μ p) 12
theorem gs_f {μ : jm_Mem} {p : Nat} : (fun p => !gc_fr μ p) p = false ↔ gc_fr μ p = true := by
  show (!gc_fr μ p) = false ↔ _
  cases gc_fr μ p <;> simp
theorem ex1 {μ : jm_Mem} (R : Rel μ) : 1 ≤ gS μ ↔ ∃ i, i < 12 ∧ gm_ok1 μ i = true := by
  constructor
  · intro h
    obtain ⟨a, ha, h1⟩ := fu_ex 12 h
    exact ⟨a, ha, by rw [gm_ok1, md_fr_eq R ha]; exact gs_f.mp h1⟩
  · rintro ⟨i, hi, h⟩
    rw [gm_ok1, md_fr_eq R hi] at h
    exact us1 hi (gs_f.mpr h)
theorem ex2 {μ : jm_Mem} (R : Rel μ) : 2 ≤ gS μ ↔ ∃ i, i < 144 ∧ gm_ok2 μ i = true := by
  constructor
  · intro h
    replace h : _ ≤ sw_u (fun p => !gc_fr μ p) 12 := h
    obtain ⟨a, ha, h1⟩ := fu_ex 12 (Nat.le_trans (by decide) h)
    obtain ⟨b, hb, h2⟩ := fu_ex (s := sw_t (fun p => !gc_fr μ p) a) 12 (by have := sw_u_lt (s := fun p => !gc_fr μ p) h1 12 ha; omega)
    obtain ⟨n1, h2⟩ := st_ne h2
    refine ⟨12 * a + b, by omega, ?_⟩
    simp only [gm_ok2]
    rw [show (12 * a + b) / 12 = a by omega, show (12 * a + b) % 12 = b by omega, md_fr_eq R ha, md_fr_eq R hb, gs_f.mp h1, gs_f.mp h2]
    simp [n1]
  · rintro ⟨i, hi, h⟩
    simp only [gm_ok2, Bool.and_eq_true] at h
    obtain ⟨f1, f2, f3⟩ := h
    rw [md_fr_eq R (by omega)] at f1 f2
    exact us2 (by omega) (gs_f.mpr f1) (by omega) (gs_f.mpr f2) (of_decide_eq_true f3)
theorem ex3 {μ : jm_Mem} (R : Rel μ) : 3 ≤ gS μ ↔ ∃ i, i < 1728 ∧ gm_ok3 μ i = true := by
  constructor
  · intro h
    replace h : _ ≤ sw_u (fun p => !gc_fr μ p) 12 := h
    obtain ⟨a, ha, h1⟩ := fu_ex 12 (Nat.le_trans (by decide) h)
    have u1 := sw_u_lt (s := fun p => !gc_fr μ p) h1 12 ha
    obtain ⟨b, hb, h2⟩ := fu_ex (s := sw_t (fun p => !gc_fr μ p) a) 12 (by omega)
    have u2 := sw_u_lt (s := sw_t (fun p => !gc_fr μ p) a) h2 12 hb
    obtain ⟨n1, h2'⟩ := st_ne h2
    obtain ⟨c, hc, h3⟩ := fu_ex (s := sw_t (sw_t (fun p => !gc_fr μ p) a) b) 12 (by omega)
    obtain ⟨n2, h3⟩ := st_ne h3
    obtain ⟨n3, h3⟩ := st_ne h3
    refine ⟨144 * a + 12 * b + c, by omega, ?_⟩
    simp only [gm_ok3]
    rw [show (144 * a + 12 * b + c) / 144 = a by omega, show (144 * a + 12 * b + c) / 12 % 12 = b by omega, show (144 * a + 12 * b + c) % 12 = c by omega, md_fr_eq R ha, md_fr_eq R hb, md_fr_eq R hc, gs_f.mp h1, gs_f.mp h2', gs_f.mp h3]
    simp [n1, n2, n3]
  · rintro ⟨i, hi, h⟩
    simp only [gm_ok3, Bool.and_eq_true] at h
    obtain ⟨f1, ⟨f2, f3⟩, f4, f5, f6⟩ := h
    rw [md_fr_eq R (by omega)] at f1 f2 f4
    exact us3 (by omega) (gs_f.mpr f1) (by omega) (gs_f.mpr f2) (of_decide_eq_true f3) (by omega) (gs_f.mpr f4) (of_decide_eq_true f5) (of_decide_eq_true f6)
theorem ag_step {u v : jm_Mem} {j : Nat} {w : Int32} (h : ∀ q, q ≠ 4 → q ≠ 5 → q ≠ 6 → q ≠ 7 → q ≠ 24 → q ≠ 28 → u q = v q) : ∀ q, q ≠ 4 → q ≠ 5 → q ≠ 6 → q ≠ 7 → q ≠ 24 → q ≠ 28 → rg_add (jm_set u 3 j w) j w q = sq0 v j w q := by
  intro q h4 h5 h6 h7 h24 h28
  simp only [sq0]
  rw [jm_set_ne q h28]
  by_cases e1 : q = 1
  · subst e1
    have e : u 1 = v 1 := h 1 h4 h5 h6 h7 h24 h28
    simp only [rg_add, jm_set_eq, jm_set_ne, e, ne_eq, Nat.reduceEqDiff, not_false_eq_true]
  · rw [rg_add_na e1, rg_add_na e1]
    by_cases e3 : q = 3
    · subst e3
      rw [jm_set_eq, jm_set_eq, h 3 h4 h5 h6 h7 h24 h28]
    · rw [jm_set_ne q e3, jm_set_ne q e3, h q h4 h5 h6 h7 h24 h28]
theorem gq_fr {μ : jm_Mem} : gc_fr (gq0 μ) = gc_fr μ := gc_fr_c (by simp only [gq0, jm_set_ne, ne_eq, Nat.reduceEqDiff, not_false_eq_true]) (by simp only [gq0, jm_set_ne, ne_eq, Nat.reduceEqDiff, not_false_eq_true])
theorem sqq1 {μ : jm_Mem} {j : Nat} {w : Int32} : ∀ q, q ≠ 1 → q ≠ 3 → sq0 μ j w q = jm_set μ 28 j w q := sqq
def OG (μ : jm_Mem) (k : Nat) (a b c r : Int32) (μ1 : jm_Mem) : Prop := (nI (rg_cnt (μ 2) 12) - nI (rg_cnt (μ 3) 12) < nI k ∧ r = -1 ∧ μ1 = jm_set μ 0 6 (μ 0 6 + 1)) ∨ (¬ nI (rg_cnt (μ 2) 12) - nI (rg_cnt (μ 3) 12) < nI k ∧ ∃ (u : jm_Mem) (cc : Nat → Nat), (∀ i, i < k → cc i < 12) ∧ (∀ i, i < k → (gc_try (gc_fr μ) (fun i => if i = 0 then a else if i = 1 then b else c) k 0 (μ 1 4) (μ 1 5) (-1, μ 7, μ 6)).2.1 i = nI (cc i)) ∧ (∀ q, q ≠ 4 → q ≠ 5 → q ≠ 6 → q ≠ 7 → u q = jm_set μ 0 6 (μ 0 6 + 1) q) ∧ (∀ i, i < 3 → u 5 i = if i = 0 then a else if i = 1 then b else c) ∧ μ1 = gc_seat u cc k ∧ r = rg_sh (μ1 1 4) (μ1 1 5))
theorem w11 : rg_wi 1 1 (nI 150) := by decide
theorem g1_c {μ ν : jm_Mem} {a b c : Int32} (h : ∀ q, q = 25 ∨ q = 26 ∨ q = 27 ∨ q = 28 ∨ q = 32 → ν q = μ q) : gm_g1 ν a = gm_g1 μ a ∧ gm_ok1 ν = gm_ok1 μ ∧ ∀ i, md_sh (gm_m1 ν a i) = md_sh (gm_m1 μ a i) := by
  have e1 : gm_ok1 ν = gm_ok1 μ := by
    funext i
    simp only [gm_ok1, md_fr, h 27 (by omega), h 28 (by omega)]
  have e2 : ∀ i, md_sh (gm_m1 ν a i) = md_sh (gm_m1 μ a i) := fun i => md_sh_c (by simp only [gm_m1, jm_set_ne, jm_set_eq, ne_eq, Nat.reduceEqDiff, not_false_eq_true, h 25 (by omega)]) (by simp only [gm_m1, jm_set_ne, jm_set_eq, ne_eq, Nat.reduceEqDiff, not_false_eq_true, h 26 (by omega)]) (by simp only [gm_m1, jm_set_ne, jm_set_eq, ne_eq, Nat.reduceEqDiff, not_false_eq_true, h 27 (by omega)]) (by simp only [gm_m1, jm_set_ne, jm_set_eq, ne_eq, Nat.reduceEqDiff, not_false_eq_true, h 28 (by omega)])
  refine ⟨?_, e1, e2⟩
  unfold gm_g1
  rw [e1, h 32 (by omega), show (fun i => md_sh (gm_m1 ν a i)) = fun i => md_sh (gm_m1 μ a i) from funext e2]
set_option maxHeartbeats 1000000 in
theorem gk_1 {μ ν μ1 μ2 : jm_Mem} (R : Rel μ) {a b c r r' : Int32} (h60 : μ 0 6 < nI 60) (wa : rg_wi a 1 (nI 150)) (hν : ν = jm_set μ1 24 9 (μ1 24 9 + 1)) (o1 : OG μ 1 a b c r μ1) (o2 : om_gk (gm_g1 ν a) (fun i => nI i) (fun _ => -1) (fun _ => -1) (gm_ok1 ν) (gm_m1 ν a) 12 ν r' μ2) : r = r' ∧ Rel μ2 := by
  have e249 : μ 24 9 = μ 0 6 := R.2.2.2.1.1.1
  rcases o1 with ⟨cf, rfl, e1⟩ | ⟨cf, u, cc, hcc, hgc, hu, hw, e1, er⟩
  · have hq : ∀ q, q ≠ 0 → q ≠ 24 → ν q = μ q := by
      intro q h0 h24
      rw [hν, jm_set_ne q h24, e1, jm_set_ne q h0]
    have hg := g1_c (a := a) (b := b) (c := c) (μ := μ) (ν := ν) (fun q h => hq q (by omega) (by omega))
    have hno : ∀ i, i < 12 → gm_ok1 μ i = false := by
      intro i hi
      cases e : gm_ok1 μ i with
      | false => rfl
      | true =>
        have h1 := (free_lt R (by decide)).mp cf
        have h2 := (ex1 R).mpr ⟨i, hi, e⟩
        exact absurd h1 (Nat.not_lt.mpr h2)
    rcases o2 with ⟨-, rfl, hm⟩ | ⟨i, hi, hok, -⟩
    · refine ⟨rfl, (R.gq h60).frame (fun q _ _ _ _ _ _ _ _ h32 _ _ _ h24 => ?_) (fun k _ _ => ?_)⟩
      · rw [hm q h32, hν, jm_set_ne q h24, e1]
        simp only [gq0]
        rw [jm_set_ne q h24]
      · rw [hm 24 (by decide), hν, e1]
        simp only [gq0, jm_set_eq, jm_set_ne, ne_eq, Nat.reduceEqDiff, not_false_eq_true, e249]
    · rw [hg.2.1, hno i hi] at hok
      exact absurd hok (by decide)
  · have hS : 1 ≤ gS μ := Nat.le_of_not_lt (fun h => cf ((free_lt R (by decide)).mpr h))
    have n25 : ∀ q, q ≠ 0 → q ≠ 1 → q ≠ 3 → q ≠ 4 → q ≠ 5 → q ≠ 6 → q ≠ 7 → q ≠ 24 → ν q = μ q := by
      intro q q0 q1 q3 q4 q5 q6 q7 q24
      rw [hν, jm_set_ne q q24, e1, gc_seat_na q1 q3, hu q q4 q5 q6 q7, jm_set_ne q q0]
    have hg := g1_c (a := a) (b := b) (c := c) (μ := μ) (ν := ν) (fun q h => n25 q (by omega) (by omega) (by omega) (by omega) (by omega) (by omega) (by omega) (by omega))
    have pk := (pick (a := a) (b := b) (c := c) R wa).1
    have hne : ¬ (gm_g1 μ a).1 = -1 := gm_f_ne (fun i => sh_ne _ _) 12 ((ex1 R).mp hS)
    rcases o2 with ⟨k1, -⟩ | ⟨i, hi, hok, f0, f1, f2, -, rfl, hm⟩
    · rw [hg.1] at k1
      exact absurd k1 hne
    · rw [hg.2.1] at hok
      rw [hg.1] at f0 f1 f2
      dsimp only at f0 f1 f2
      have hz : (gm_g1 μ a).1 = md_sh (gm_m1 μ a i) := by
        rcases gm_f_iz (ok := gm_ok1 μ) (z := fun i => md_sh (gm_m1 μ a i)) (f := fun i => nI i) (s := fun i => -1) (t := fun i => -1) (st := (-1, μ 32)) 12 with h | ⟨i2, hi2, -, z0, z1, z2, z3⟩
        · exact absurd (congrArg Prod.fst h) hne
        · have hii : i = i2 := by
            have q0 := (nI_eq (by omega) (by omega)).mp (f0.symm.trans z1)
            omega
          rw [hii]
          exact z0
      have g0 : gc_fr μ i = true := by rw [← md_fr_eq R hi]; exact hok
      have RQ := ((R.gq h60).sq (j := i) (w := a) (by omega) (by rw [gq_fr]; exact g0) wa)
      have c0 : cc 0 = i := (nI_eq (by have := hcc 0 (by decide); omega) (by omega)).mp (by rw [← hgc 0 (by decide), pk.2 hne 0 (by decide), f0])
      have b0 : ∀ q, q ≠ 4 → q ≠ 5 → q ≠ 6 → q ≠ 7 → q ≠ 24 → q ≠ 28 → u q = gq0 μ q := by
        intro q q4 q5 q6 q7 q24 _
        rw [hu q q4 q5 q6 q7]
        simp only [gq0]
        rw [jm_set_ne q q24]
      have s0 : ∀ q, q ≠ 4 → q ≠ 5 → q ≠ 6 → q ≠ 7 → q ≠ 24 → q ≠ 28 → gc_seat u cc 1 q = (sq0 (gq0 μ) i a) q := by
        intro q q4 q5 q6 q7 q24 q28
        simp only [gc_seat]
        rw [c0, show u 5 0 = a from hw 0 (by decide)]
        exact ag_step b0 q q4 q5 q6 q7 q24 q28
      have RM : Rel μ2 := by
        refine RQ.frame (fun q q4 q5 q6 q7 _ _ _ _ h32 _ _ _ h24 => ?_) (fun k _ _ => ?_)
        · rw [hm q h32]
          by_cases e28 : q = 28
          · subst e28
            rw [sqq1 28 (by decide) (by decide)]
            simp only [gm_m1, jm_set_eq, n25 28 (by decide) (by decide) (by decide) (by decide) (by decide) (by decide) (by decide) (by decide), gq0, jm_set_ne, ne_eq, Nat.reduceEqDiff, not_false_eq_true]
          · rw [← s0 q q4 q5 q6 q7 h24 e28, ← e1]
            simp only [gm_m1, jm_set_ne q e28, hν, jm_set_ne q h24]
        · rw [hm 24 (by decide), sqq1 24 (by decide) (by decide)]
          simp only [gm_m1, jm_set_ne, ne_eq, Nat.reduceEqDiff, not_false_eq_true, hν, jm_set_eq, gq0]
          rw [e1, gc_seat_na (by decide) (by decide), hu 24 (by decide) (by decide) (by decide) (by decide), jm_set_ne 24 (by decide), e249]
      refine ⟨?_, RM⟩
      have m2 : md_sh μ2 = md_sh (gm_m1 ν a i) := md_sh_c (hm 25 (by decide)) (hm 26 (by decide)) (hm 27 (by decide)) (hm 28 (by decide))
      have m1 : μ2 1 = μ1 1 := by
        rw [hm 1 (by decide)]
        simp only [gm_m1, jm_set_ne, ne_eq, Nat.reduceEqDiff, not_false_eq_true, hν]
      rw [er, hg.1, hz, ← hg.2.2, ← m2, md_sh_eq RM.1 RM.2.1, m1]
theorem hch_1 {μ : jm_Mem} (R : Rel μ) {a b c : Int32} (cf : ¬ nI (rg_cnt (μ 2) 12) - nI (rg_cnt (μ 3) 12) < nI 1) : ∃ cc : Nat → Nat, (∀ i, i < 1 → cc i < 12) ∧ ∀ i, i < 1 → (gc_try (gc_fr μ) (fun i => if i = 0 then a else if i = 1 then b else c) 1 0 (μ 1 4) (μ 1 5) (-1, μ 7, μ 6)).2.1 i = nI (cc i) := by
  have hS : 1 ≤ gS μ := Nat.le_of_not_lt (fun h => cf ((free_lt R (by decide)).mpr h))
  have h := (gx_main (fr := gc_fr μ) (ws := gws a b c) (ok := gm_ok1 μ) (z := gx_z (gws a b c) 1 0 (μ 1 4) (μ 1 5)) (f := fun i => nI i) (s := fun i => -1) (t := fun i => -1) (s0 := (-1, μ 32)) (K := 1) (by decide) sh_ne 1 0 (μ 1 4) (μ 1 5) (-1, μ 7, μ 6) 0 rfl (fun r hr => by
    have q := row1 (b := 1) (c := 1) R (tr := μ 6) w11 r hr
    rw [Nat.zero_add]
    exact ⟨q.1, fun _ => rfl, q.2.2⟩) ⟨rfl, fun h => absurd rfl h⟩).1
  have hz : ∀ k sd x y r, ¬ gx_z (gws a b c) k sd x y r = -1 := by
    intro k
    induction k with
    | zero => intro sd x y r; exact sh_ne x y
    | succ k ih => intro sd x y r; exact ih _ _ _ _
  have hne := gm_f_ne (ok := gm_ok1 μ) (z := gx_z (gws a b c) 1 0 (μ 1 4) (μ 1 5)) (f := fun i => nI i) (s := fun i => -1) (t := fun i => -1) (st := (-1, μ 32)) (fun i => hz _ _ _ _ i) 12 ((ex1 R).mp hS)
  rw [Nat.zero_add] at h
  have h2 := h.2 hne
  rcases gm_f_iz (ok := gm_ok1 μ) (z := gx_z (gws a b c) 1 0 (μ 1 4) (μ 1 5)) (f := fun i => nI i) (s := fun i => -1) (t := fun i => -1) (st := (-1, μ 32)) 12 with hh | ⟨i, hi, -, z0, z1, z2, z3⟩
  · exact absurd (congrArg Prod.fst hh) hne
  · refine ⟨fun j => if j = 0 then i else if j = 1 then 0 else 0, fun j hj => ?_, fun j hj => ?_⟩
    · dsimp only
      split
      · omega
      · split <;> omega
    · rw [h2 j hj]
      obtain rfl : j = 0 := by omega
      exact z1
theorem g2_c {μ ν : jm_Mem} {a b c : Int32} (h : ∀ q, q = 25 ∨ q = 26 ∨ q = 27 ∨ q = 28 ∨ q = 32 → ν q = μ q) : gm_g2 ν a b = gm_g2 μ a b ∧ gm_ok2 ν = gm_ok2 μ ∧ ∀ i, md_sh (gm_m2 ν a b i) = md_sh (gm_m2 μ a b i) := by
  have e1 : gm_ok2 ν = gm_ok2 μ := by
    funext i
    simp only [gm_ok2, md_fr, h 27 (by omega), h 28 (by omega)]
  have e2 : ∀ i, md_sh (gm_m2 ν a b i) = md_sh (gm_m2 μ a b i) := fun i => md_sh_c (by simp only [gm_m2, jm_set_ne, jm_set_eq, ne_eq, Nat.reduceEqDiff, not_false_eq_true, h 25 (by omega)]) (by simp only [gm_m2, jm_set_ne, jm_set_eq, ne_eq, Nat.reduceEqDiff, not_false_eq_true, h 26 (by omega)]) (by simp only [gm_m2, jm_set_ne, jm_set_eq, ne_eq, Nat.reduceEqDiff, not_false_eq_true, h 27 (by omega)]) (by simp only [gm_m2, jm_set_ne, jm_set_eq, ne_eq, Nat.reduceEqDiff, not_false_eq_true, h 28 (by omega)])
  refine ⟨?_, e1, e2⟩
  unfold gm_g2
  rw [e1, h 32 (by omega), show (fun i => md_sh (gm_m2 ν a b i)) = fun i => md_sh (gm_m2 μ a b i) from funext e2]
set_option maxHeartbeats 1000000 in
theorem gk_2 {μ ν μ1 μ2 : jm_Mem} (R : Rel μ) {a b c r r' : Int32} (h60 : μ 0 6 < nI 60) (wa : rg_wi a 1 (nI 150)) (wb : rg_wi b 1 (nI 150)) (hν : ν = jm_set μ1 24 9 (μ1 24 9 + 1)) (o1 : OG μ 2 a b c r μ1) (o2 : om_gk (gm_g2 ν a b) (fun i => nI (i / 12)) (fun i => nI (i % 12)) (fun _ => -1) (gm_ok2 ν) (gm_m2 ν a b) 144 ν r' μ2) : r = r' ∧ Rel μ2 := by
  have e249 : μ 24 9 = μ 0 6 := R.2.2.2.1.1.1
  rcases o1 with ⟨cf, rfl, e1⟩ | ⟨cf, u, cc, hcc, hgc, hu, hw, e1, er⟩
  · have hq : ∀ q, q ≠ 0 → q ≠ 24 → ν q = μ q := by
      intro q h0 h24
      rw [hν, jm_set_ne q h24, e1, jm_set_ne q h0]
    have hg := g2_c (a := a) (b := b) (c := c) (μ := μ) (ν := ν) (fun q h => hq q (by omega) (by omega))
    have hno : ∀ i, i < 144 → gm_ok2 μ i = false := by
      intro i hi
      cases e : gm_ok2 μ i with
      | false => rfl
      | true =>
        have h1 := (free_lt R (by decide)).mp cf
        have h2 := (ex2 R).mpr ⟨i, hi, e⟩
        exact absurd h1 (Nat.not_lt.mpr h2)
    rcases o2 with ⟨-, rfl, hm⟩ | ⟨i, hi, hok, -⟩
    · refine ⟨rfl, (R.gq h60).frame (fun q _ _ _ _ _ _ _ _ h32 _ _ _ h24 => ?_) (fun k _ _ => ?_)⟩
      · rw [hm q h32, hν, jm_set_ne q h24, e1]
        simp only [gq0]
        rw [jm_set_ne q h24]
      · rw [hm 24 (by decide), hν, e1]
        simp only [gq0, jm_set_eq, jm_set_ne, ne_eq, Nat.reduceEqDiff, not_false_eq_true, e249]
    · rw [hg.2.1, hno i hi] at hok
      exact absurd hok (by decide)
  · have hS : 2 ≤ gS μ := Nat.le_of_not_lt (fun h => cf ((free_lt R (by decide)).mpr h))
    have n25 : ∀ q, q ≠ 0 → q ≠ 1 → q ≠ 3 → q ≠ 4 → q ≠ 5 → q ≠ 6 → q ≠ 7 → q ≠ 24 → ν q = μ q := by
      intro q q0 q1 q3 q4 q5 q6 q7 q24
      rw [hν, jm_set_ne q q24, e1, gc_seat_na q1 q3, hu q q4 q5 q6 q7, jm_set_ne q q0]
    have hg := g2_c (a := a) (b := b) (c := c) (μ := μ) (ν := ν) (fun q h => n25 q (by omega) (by omega) (by omega) (by omega) (by omega) (by omega) (by omega) (by omega))
    have pk := ((pick (a := a) (b := b) (c := c) R wa).2 wb).1
    have hne : ¬ (gm_g2 μ a b).1 = -1 := gm_f_ne (fun i => sh_ne _ _) 144 ((ex2 R).mp hS)
    rcases o2 with ⟨k1, -⟩ | ⟨i, hi, hok, f0, f1, f2, -, rfl, hm⟩
    · rw [hg.1] at k1
      exact absurd k1 hne
    · rw [hg.2.1] at hok
      rw [hg.1] at f0 f1 f2
      dsimp only at f0 f1 f2
      have hz : (gm_g2 μ a b).1 = md_sh (gm_m2 μ a b i) := by
        rcases gm_f_iz (ok := gm_ok2 μ) (z := fun i => md_sh (gm_m2 μ a b i)) (f := fun i => nI (i / 12)) (s := fun i => nI (i % 12)) (t := fun i => -1) (st := (-1, μ 32)) 144 with h | ⟨i2, hi2, -, z0, z1, z2, z3⟩
        · exact absurd (congrArg Prod.fst h) hne
        · have hii : i = i2 := by
            have q0 := (nI_eq (by omega) (by omega)).mp (f0.symm.trans z1)
            have q1 := (nI_eq (by omega) (by omega)).mp (f1.symm.trans z2)
            omega
          rw [hii]
          exact z0
      have hok2 := hok
      simp only [gm_ok2, Bool.and_eq_true] at hok2
      obtain ⟨g0, g1, n1⟩ := hok2
      rw [md_fr_eq R (by omega)] at g0 g1
      have n1 := of_decide_eq_true n1
      have RQ := (((R.gq h60).sq (j := (i / 12)) (w := a) (by omega) (by rw [gq_fr]; exact g0) wa).sq (j := (i % 12)) (w := b) (by omega) (by rw [sq_fr n1, gq_fr]; exact g1) wb)
      have c0 : cc 0 = (i / 12) := (nI_eq (by have := hcc 0 (by decide); omega) (by omega)).mp (by rw [← hgc 0 (by decide), pk.2 hne 0 (by decide), f0])
      have c1 : cc 1 = (i % 12) := (nI_eq (by have := hcc 1 (by decide); omega) (by omega)).mp (by rw [← hgc 1 (by decide), pk.2 hne 1 (by decide), f1])
      have b0 : ∀ q, q ≠ 4 → q ≠ 5 → q ≠ 6 → q ≠ 7 → q ≠ 24 → q ≠ 28 → u q = gq0 μ q := by
        intro q q4 q5 q6 q7 q24 _
        rw [hu q q4 q5 q6 q7]
        simp only [gq0]
        rw [jm_set_ne q q24]
      have s0 : ∀ q, q ≠ 4 → q ≠ 5 → q ≠ 6 → q ≠ 7 → q ≠ 24 → q ≠ 28 → gc_seat u cc 1 q = (sq0 (gq0 μ) (i / 12) a) q := by
        intro q q4 q5 q6 q7 q24 q28
        simp only [gc_seat]
        rw [c0, show u 5 0 = a from hw 0 (by decide)]
        exact ag_step b0 q q4 q5 q6 q7 q24 q28
      have s1 : ∀ q, q ≠ 4 → q ≠ 5 → q ≠ 6 → q ≠ 7 → q ≠ 24 → q ≠ 28 → gc_seat u cc 2 q = (sq0 (sq0 (gq0 μ) (i / 12) a) (i % 12) b) q := by
        intro q q4 q5 q6 q7 q24 q28
        simp only [gc_seat]
        rw [c1, show u 5 1 = b from hw 1 (by decide)]
        exact ag_step s0 q q4 q5 q6 q7 q24 q28
      have RM : Rel μ2 := by
        refine RQ.frame (fun q q4 q5 q6 q7 _ _ _ _ h32 _ _ _ h24 => ?_) (fun k _ _ => ?_)
        · rw [hm q h32]
          by_cases e28 : q = 28
          · subst e28
            rw [sqq2 28 (by decide) (by decide)]
            simp only [gm_m2, jm_set_eq, n25 28 (by decide) (by decide) (by decide) (by decide) (by decide) (by decide) (by decide) (by decide), gq0, jm_set_ne, ne_eq, Nat.reduceEqDiff, not_false_eq_true]
          · rw [← s1 q q4 q5 q6 q7 h24 e28, ← e1]
            simp only [gm_m2, jm_set_ne q e28, hν, jm_set_ne q h24]
        · rw [hm 24 (by decide), sqq2 24 (by decide) (by decide)]
          simp only [gm_m2, jm_set_ne, ne_eq, Nat.reduceEqDiff, not_false_eq_true, hν, jm_set_eq, gq0]
          rw [e1, gc_seat_na (by decide) (by decide), hu 24 (by decide) (by decide) (by decide) (by decide), jm_set_ne 24 (by decide), e249]
      refine ⟨?_, RM⟩
      have m2 : md_sh μ2 = md_sh (gm_m2 ν a b i) := md_sh_c (hm 25 (by decide)) (hm 26 (by decide)) (hm 27 (by decide)) (hm 28 (by decide))
      have m1 : μ2 1 = μ1 1 := by
        rw [hm 1 (by decide)]
        simp only [gm_m2, jm_set_ne, ne_eq, Nat.reduceEqDiff, not_false_eq_true, hν]
      rw [er, hg.1, hz, ← hg.2.2, ← m2, md_sh_eq RM.1 RM.2.1, m1]
theorem hch_2 {μ : jm_Mem} (R : Rel μ) {a b c : Int32} (cf : ¬ nI (rg_cnt (μ 2) 12) - nI (rg_cnt (μ 3) 12) < nI 2) : ∃ cc : Nat → Nat, (∀ i, i < 2 → cc i < 12) ∧ ∀ i, i < 2 → (gc_try (gc_fr μ) (fun i => if i = 0 then a else if i = 1 then b else c) 2 0 (μ 1 4) (μ 1 5) (-1, μ 7, μ 6)).2.1 i = nI (cc i) := by
  have hS : 2 ≤ gS μ := Nat.le_of_not_lt (fun h => cf ((free_lt R (by decide)).mpr h))
  have h := (gx_main (fr := gc_fr μ) (ws := gws a b c) (ok := gm_ok2 μ) (z := gx_z (gws a b c) 2 0 (μ 1 4) (μ 1 5)) (f := fun i => nI (i / 12)) (s := fun i => nI (i % 12)) (t := fun i => -1) (s0 := (-1, μ 32)) (K := 2) (by decide) sh_ne 2 0 (μ 1 4) (μ 1 5) (-1, μ 7, μ 6) 0 rfl (fun r hr => by
    have q := row2 (b := 1) (c := 1) R (tr := μ 6) w11 w11 r hr
    rw [Nat.zero_add]
    exact ⟨q.1, fun _ => rfl, q.2.2⟩) ⟨rfl, fun h => absurd rfl h⟩).1
  have hz : ∀ k sd x y r, ¬ gx_z (gws a b c) k sd x y r = -1 := by
    intro k
    induction k with
    | zero => intro sd x y r; exact sh_ne x y
    | succ k ih => intro sd x y r; exact ih _ _ _ _
  have hne := gm_f_ne (ok := gm_ok2 μ) (z := gx_z (gws a b c) 2 0 (μ 1 4) (μ 1 5)) (f := fun i => nI (i / 12)) (s := fun i => nI (i % 12)) (t := fun i => -1) (st := (-1, μ 32)) (fun i => hz _ _ _ _ i) 144 ((ex2 R).mp hS)
  rw [Nat.zero_add] at h
  have h2 := h.2 hne
  rcases gm_f_iz (ok := gm_ok2 μ) (z := gx_z (gws a b c) 2 0 (μ 1 4) (μ 1 5)) (f := fun i => nI (i / 12)) (s := fun i => nI (i % 12)) (t := fun i => -1) (st := (-1, μ 32)) 144 with hh | ⟨i, hi, -, z0, z1, z2, z3⟩
  · exact absurd (congrArg Prod.fst hh) hne
  · refine ⟨fun j => if j = 0 then (i / 12) else if j = 1 then (i % 12) else 0, fun j hj => ?_, fun j hj => ?_⟩
    · dsimp only
      split
      · omega
      · split <;> omega
    · rw [h2 j hj]
      obtain rfl | rfl : j = 0 ∨ j = 1 := by omega
      · exact z1
      · exact z2
theorem g3_c {μ ν : jm_Mem} {a b c : Int32} (h : ∀ q, q = 25 ∨ q = 26 ∨ q = 27 ∨ q = 28 ∨ q = 32 → ν q = μ q) : gm_g3 ν a b c = gm_g3 μ a b c ∧ gm_ok3 ν = gm_ok3 μ ∧ ∀ i, md_sh (gm_m3 ν a b c i) = md_sh (gm_m3 μ a b c i) := by
  have e1 : gm_ok3 ν = gm_ok3 μ := by
    funext i
    simp only [gm_ok3, md_fr, h 27 (by omega), h 28 (by omega)]
  have e2 : ∀ i, md_sh (gm_m3 ν a b c i) = md_sh (gm_m3 μ a b c i) := fun i => md_sh_c (by simp only [gm_m3, jm_set_ne, jm_set_eq, ne_eq, Nat.reduceEqDiff, not_false_eq_true, h 25 (by omega)]) (by simp only [gm_m3, jm_set_ne, jm_set_eq, ne_eq, Nat.reduceEqDiff, not_false_eq_true, h 26 (by omega)]) (by simp only [gm_m3, jm_set_ne, jm_set_eq, ne_eq, Nat.reduceEqDiff, not_false_eq_true, h 27 (by omega)]) (by simp only [gm_m3, jm_set_ne, jm_set_eq, ne_eq, Nat.reduceEqDiff, not_false_eq_true, h 28 (by omega)])
  refine ⟨?_, e1, e2⟩
  unfold gm_g3
  rw [e1, h 32 (by omega), show (fun i => md_sh (gm_m3 ν a b c i)) = fun i => md_sh (gm_m3 μ a b c i) from funext e2]
set_option maxHeartbeats 1000000 in
theorem gk_3 {μ ν μ1 μ2 : jm_Mem} (R : Rel μ) {a b c r r' : Int32} (h60 : μ 0 6 < nI 60) (wa : rg_wi a 1 (nI 150)) (wb : rg_wi b 1 (nI 150)) (wc : rg_wi c 1 (nI 150)) (hν : ν = jm_set μ1 24 9 (μ1 24 9 + 1)) (o1 : OG μ 3 a b c r μ1) (o2 : om_gk (gm_g3 ν a b c) (fun i => nI (i / 144)) (fun i => nI (i / 12 % 12)) (fun i => nI (i % 12)) (gm_ok3 ν) (gm_m3 ν a b c) 1728 ν r' μ2) : r = r' ∧ Rel μ2 := by
  have e249 : μ 24 9 = μ 0 6 := R.2.2.2.1.1.1
  rcases o1 with ⟨cf, rfl, e1⟩ | ⟨cf, u, cc, hcc, hgc, hu, hw, e1, er⟩
  · have hq : ∀ q, q ≠ 0 → q ≠ 24 → ν q = μ q := by
      intro q h0 h24
      rw [hν, jm_set_ne q h24, e1, jm_set_ne q h0]
    have hg := g3_c (a := a) (b := b) (c := c) (μ := μ) (ν := ν) (fun q h => hq q (by omega) (by omega))
    have hno : ∀ i, i < 1728 → gm_ok3 μ i = false := by
      intro i hi
      cases e : gm_ok3 μ i with
      | false => rfl
      | true =>
        have h1 := (free_lt R (by decide)).mp cf
        have h2 := (ex3 R).mpr ⟨i, hi, e⟩
        exact absurd h1 (Nat.not_lt.mpr h2)
    rcases o2 with ⟨-, rfl, hm⟩ | ⟨i, hi, hok, -⟩
    · refine ⟨rfl, (R.gq h60).frame (fun q _ _ _ _ _ _ _ _ h32 _ _ _ h24 => ?_) (fun k _ _ => ?_)⟩
      · rw [hm q h32, hν, jm_set_ne q h24, e1]
        simp only [gq0]
        rw [jm_set_ne q h24]
      · rw [hm 24 (by decide), hν, e1]
        simp only [gq0, jm_set_eq, jm_set_ne, ne_eq, Nat.reduceEqDiff, not_false_eq_true, e249]
    · rw [hg.2.1, hno i hi] at hok
      exact absurd hok (by decide)
  · have hS : 3 ≤ gS μ := Nat.le_of_not_lt (fun h => cf ((free_lt R (by decide)).mpr h))
    have n25 : ∀ q, q ≠ 0 → q ≠ 1 → q ≠ 3 → q ≠ 4 → q ≠ 5 → q ≠ 6 → q ≠ 7 → q ≠ 24 → ν q = μ q := by
      intro q q0 q1 q3 q4 q5 q6 q7 q24
      rw [hν, jm_set_ne q q24, e1, gc_seat_na q1 q3, hu q q4 q5 q6 q7, jm_set_ne q q0]
    have hg := g3_c (a := a) (b := b) (c := c) (μ := μ) (ν := ν) (fun q h => n25 q (by omega) (by omega) (by omega) (by omega) (by omega) (by omega) (by omega) (by omega))
    have pk := ((pick (a := a) (b := b) (c := c) R wa).2 wb).2 wc
    have hne : ¬ (gm_g3 μ a b c).1 = -1 := gm_f_ne (fun i => sh_ne _ _) 1728 ((ex3 R).mp hS)
    rcases o2 with ⟨k1, -⟩ | ⟨i, hi, hok, f0, f1, f2, -, rfl, hm⟩
    · rw [hg.1] at k1
      exact absurd k1 hne
    · rw [hg.2.1] at hok
      rw [hg.1] at f0 f1 f2
      dsimp only at f0 f1 f2
      have hz : (gm_g3 μ a b c).1 = md_sh (gm_m3 μ a b c i) := by
        rcases gm_f_iz (ok := gm_ok3 μ) (z := fun i => md_sh (gm_m3 μ a b c i)) (f := fun i => nI (i / 144)) (s := fun i => nI (i / 12 % 12)) (t := fun i => nI (i % 12)) (st := (-1, μ 32)) 1728 with h | ⟨i2, hi2, -, z0, z1, z2, z3⟩
        · exact absurd (congrArg Prod.fst h) hne
        · have hii : i = i2 := by
            have q0 := (nI_eq (by omega) (by omega)).mp (f0.symm.trans z1)
            have q1 := (nI_eq (by omega) (by omega)).mp (f1.symm.trans z2)
            have q2 := (nI_eq (by omega) (by omega)).mp (f2.symm.trans z3)
            omega
          rw [hii]
          exact z0
      have hok2 := hok
      simp only [gm_ok3, Bool.and_eq_true] at hok2
      obtain ⟨g0, ⟨g1, n1⟩, g2, n2, n3⟩ := hok2
      rw [md_fr_eq R (by omega)] at g0 g1 g2
      have n1 := of_decide_eq_true n1
      have n2 := of_decide_eq_true n2
      have n3 := of_decide_eq_true n3
      have RQ := ((((R.gq h60).sq (j := (i / 144)) (w := a) (by omega) (by rw [gq_fr]; exact g0) wa).sq (j := (i / 12 % 12)) (w := b) (by omega) (by rw [sq_fr n1, gq_fr]; exact g1) wb).sq (j := (i % 12)) (w := c) (by omega) (by rw [sq_fr n3, sq_fr n2, gq_fr]; exact g2) wc)
      have c0 : cc 0 = (i / 144) := (nI_eq (by have := hcc 0 (by decide); omega) (by omega)).mp (by rw [← hgc 0 (by decide), pk.2 hne 0 (by decide), f0])
      have c1 : cc 1 = (i / 12 % 12) := (nI_eq (by have := hcc 1 (by decide); omega) (by omega)).mp (by rw [← hgc 1 (by decide), pk.2 hne 1 (by decide), f1])
      have c2 : cc 2 = (i % 12) := (nI_eq (by have := hcc 2 (by decide); omega) (by omega)).mp (by rw [← hgc 2 (by decide), pk.2 hne 2 (by decide), f2])
      have b0 : ∀ q, q ≠ 4 → q ≠ 5 → q ≠ 6 → q ≠ 7 → q ≠ 24 → q ≠ 28 → u q = gq0 μ q := by
        intro q q4 q5 q6 q7 q24 _
        rw [hu q q4 q5 q6 q7]
        simp only [gq0]
        rw [jm_set_ne q q24]
      have s0 : ∀ q, q ≠ 4 → q ≠ 5 → q ≠ 6 → q ≠ 7 → q ≠ 24 → q ≠ 28 → gc_seat u cc 1 q = (sq0 (gq0 μ) (i / 144) a) q := by
        intro q q4 q5 q6 q7 q24 q28
        simp only [gc_seat]
        rw [c0, show u 5 0 = a from hw 0 (by decide)]
        exact ag_step b0 q q4 q5 q6 q7 q24 q28
      have s1 : ∀ q, q ≠ 4 → q ≠ 5 → q ≠ 6 → q ≠ 7 → q ≠ 24 → q ≠ 28 → gc_seat u cc 2 q = (sq0 (sq0 (gq0 μ) (i / 144) a) (i / 12 % 12) b) q := by
        intro q q4 q5 q6 q7 q24 q28
        simp only [gc_seat]
        rw [c1, show u 5 1 = b from hw 1 (by decide)]
        exact ag_step s0 q q4 q5 q6 q7 q24 q28
      have s2 : ∀ q, q ≠ 4 → q ≠ 5 → q ≠ 6 → q ≠ 7 → q ≠ 24 → q ≠ 28 → gc_seat u cc 3 q = (sq0 (sq0 (sq0 (gq0 μ) (i / 144) a) (i / 12 % 12) b) (i % 12) c) q := by
        intro q q4 q5 q6 q7 q24 q28
        simp only [gc_seat]
        rw [c2, show u 5 2 = c from hw 2 (by decide)]
        exact ag_step s1 q q4 q5 q6 q7 q24 q28
      have RM : Rel μ2 := by
        refine RQ.frame (fun q q4 q5 q6 q7 _ _ _ _ h32 _ _ _ h24 => ?_) (fun k _ _ => ?_)
        · rw [hm q h32]
          by_cases e28 : q = 28
          · subst e28
            rw [sqq3 28 (by decide) (by decide)]
            simp only [gm_m3, jm_set_eq, n25 28 (by decide) (by decide) (by decide) (by decide) (by decide) (by decide) (by decide) (by decide), gq0, jm_set_ne, ne_eq, Nat.reduceEqDiff, not_false_eq_true]
          · rw [← s2 q q4 q5 q6 q7 h24 e28, ← e1]
            simp only [gm_m3, jm_set_ne q e28, hν, jm_set_ne q h24]
        · rw [hm 24 (by decide), sqq3 24 (by decide) (by decide)]
          simp only [gm_m3, jm_set_ne, ne_eq, Nat.reduceEqDiff, not_false_eq_true, hν, jm_set_eq, gq0]
          rw [e1, gc_seat_na (by decide) (by decide), hu 24 (by decide) (by decide) (by decide) (by decide), jm_set_ne 24 (by decide), e249]
      refine ⟨?_, RM⟩
      have m2 : md_sh μ2 = md_sh (gm_m3 ν a b c i) := md_sh_c (hm 25 (by decide)) (hm 26 (by decide)) (hm 27 (by decide)) (hm 28 (by decide))
      have m1 : μ2 1 = μ1 1 := by
        rw [hm 1 (by decide)]
        simp only [gm_m3, jm_set_ne, ne_eq, Nat.reduceEqDiff, not_false_eq_true, hν]
      rw [er, hg.1, hz, ← hg.2.2, ← m2, md_sh_eq RM.1 RM.2.1, m1]
theorem hch_3 {μ : jm_Mem} (R : Rel μ) {a b c : Int32} (cf : ¬ nI (rg_cnt (μ 2) 12) - nI (rg_cnt (μ 3) 12) < nI 3) : ∃ cc : Nat → Nat, (∀ i, i < 3 → cc i < 12) ∧ ∀ i, i < 3 → (gc_try (gc_fr μ) (fun i => if i = 0 then a else if i = 1 then b else c) 3 0 (μ 1 4) (μ 1 5) (-1, μ 7, μ 6)).2.1 i = nI (cc i) := by
  have hS : 3 ≤ gS μ := Nat.le_of_not_lt (fun h => cf ((free_lt R (by decide)).mpr h))
  have h := (gx_main (fr := gc_fr μ) (ws := gws a b c) (ok := gm_ok3 μ) (z := gx_z (gws a b c) 3 0 (μ 1 4) (μ 1 5)) (f := fun i => nI (i / 144)) (s := fun i => nI (i / 12 % 12)) (t := fun i => nI (i % 12)) (s0 := (-1, μ 32)) (K := 3) (by decide) sh_ne 3 0 (μ 1 4) (μ 1 5) (-1, μ 7, μ 6) 0 rfl (fun r hr => by
    have q := row3 (b := 1) (c := 1) R (tr := μ 6) w11 w11 w11 r hr
    rw [Nat.zero_add]
    exact ⟨q.1, fun _ => rfl, q.2.2⟩) ⟨rfl, fun h => absurd rfl h⟩).1
  have hz : ∀ k sd x y r, ¬ gx_z (gws a b c) k sd x y r = -1 := by
    intro k
    induction k with
    | zero => intro sd x y r; exact sh_ne x y
    | succ k ih => intro sd x y r; exact ih _ _ _ _
  have hne := gm_f_ne (ok := gm_ok3 μ) (z := gx_z (gws a b c) 3 0 (μ 1 4) (μ 1 5)) (f := fun i => nI (i / 144)) (s := fun i => nI (i / 12 % 12)) (t := fun i => nI (i % 12)) (st := (-1, μ 32)) (fun i => hz _ _ _ _ i) 1728 ((ex3 R).mp hS)
  rw [Nat.zero_add] at h
  have h2 := h.2 hne
  rcases gm_f_iz (ok := gm_ok3 μ) (z := gx_z (gws a b c) 3 0 (μ 1 4) (μ 1 5)) (f := fun i => nI (i / 144)) (s := fun i => nI (i / 12 % 12)) (t := fun i => nI (i % 12)) (st := (-1, μ 32)) 1728 with hh | ⟨i, hi, -, z0, z1, z2, z3⟩
  · exact absurd (congrArg Prod.fst hh) hne
  · refine ⟨fun j => if j = 0 then (i / 144) else if j = 1 then (i / 12 % 12) else (i % 12), fun j hj => ?_, fun j hj => ?_⟩
    · dsimp only
      split
      · omega
      · split <;> omega
    · rw [h2 j hj]
      obtain rfl | rfl | rfl : j = 0 ∨ j = 1 ∨ j = 2 := by omega
      · exact z1
      · exact z2
      · exact z3
theorem ng_no {k : Nat} {a b c : Int32} (h1 : 1 ≤ k) (h3 : k ≤ 3) (wa : rg_wi a 1 (nI 150)) (wb : 2 ≤ k → rg_wi b 1 (nI 150)) (wc : 3 ≤ k → rg_wi c 1 (nI 150)) : ¬ rg_ng (nI k) a b c := by
  rintro (h | h | ⟨h, g⟩ | ⟨h, g⟩)
  · rcases h with h | h
    · have := (nI_ltI (by omega) (by omega)).mp h; omega
    · have := (nI_ltI (by omega) (by omega)).mp h; omega
  · exact wi_no wa h
  · exact wi_no (wb (Nat.le_of_not_lt (fun q => h ((nI_ltI (by omega) (by omega)).mpr q)))) g
  · exact wi_no (wc (Nat.le_of_not_lt (fun q => h ((nI_ltI (by omega) (by omega)).mpr q)))) g
theorem p_group {μ μ1 μ2 : jm_Mem} (R : Rel μ) {n a b c r r' : Int32} (o1 : oc_group μ n a b c r μ1) (o2 : om_group μ1 n a b c r' μ2) : r = r' ∧ Rel μ2 := by
  rcases o1 with ⟨c1, rfl, rfl⟩ | ⟨k, k1, k3, rfl, wa, wb, wc, o1⟩
  · rcases o2 with ⟨c2, rfl, rfl⟩ | ⟨k, k1, k3, rfl, wa, wb, wc, -⟩
    · exact ⟨rfl, R⟩
    · exact absurd c1 (ng_no k1 k3 wa wb wc)
  · rcases o2 with ⟨c2, rfl, rfl⟩ | ⟨k', k1', k3', ek, wa', wb', wc', o2⟩
    · exact absurd c2 (ng_no k1 k3 wa wb wc)
    · have ek := (nI_eq (by omega) (by omega)).mp ek
      subst ek
      obtain ⟨g1, g2, g3⟩ := R.2.2.2.1.1
      have e60 : (nI 60).toInt = 60 := by decide
      have m249 : ∀ {v}, oc_group μ (nI k) a b c v μ1 → True := fun _ => trivial
      rcases o1 with ⟨c1, rfl, rfl⟩ | ⟨h60, o1⟩
      · rcases o2 with ⟨c2, rfl, rfl⟩ | ⟨c2, -⟩
        · exact ⟨rfl, R⟩
        · refine absurd ?_ c2
          rw [g1, ← Int32.toInt_inj, e60]
          rw [Int32.lt_iff_toInt_lt, e60] at c1
          omega
      · have hn : ¬ μ1 24 9 = nI 60 := by
          have e : μ1 24 9 = μ 24 9 := by
            rcases o1 with ⟨-, -, e1⟩ | ⟨-, u, cc, -, -, hu, -, e1, -⟩
            · rw [e1, jm_set_ne 24 (by decide)]
            · rw [e1, gc_seat_na (by decide) (by decide), hu 24 (by decide) (by decide) (by decide) (by decide), jm_set_ne 24 (by decide)]
          rw [e, g1]
          intro q
          rw [q, Int32.lt_iff_toInt_lt] at h60
          omega
        rcases o2 with ⟨c2, -⟩ | ⟨-, ν, hν, o2⟩
        · exact absurd c2 hn
        · rcases o2 with ⟨rfl, o2⟩ | ⟨rfl, o2⟩ | ⟨rfl, o2⟩
          · exact gk_1 (b := b) (c := c) R h60 wa hν o1 o2
          · exact gk_2 (c := c) R h60 wa (wb (by decide)) hν o1 o2
          · exact gk_3 R h60 wa (wb (by decide)) (wc (by decide)) hν o1 o2
theorem p_hch {μ : jm_Mem} (R : Rel μ) {a b c : Int32} : ∀ k, 1 ≤ k → k ≤ 3 → ¬ nI (rg_cnt (μ 2) 12) - nI (rg_cnt (μ 3) 12) < nI k → ∃ cc : Nat → Nat, (∀ i, i < k → cc i < 12) ∧ ∀ i, i < k → (gc_try (gc_fr μ) (fun i => if i = 0 then a else if i = 1 then b else c) k 0 (μ 1 4) (μ 1 5) (-1, μ 7, μ 6)).2.1 i = nI (cc i) := by
  intro k h1 h3 cf
  obtain rfl | rfl | rfl : k = 1 ∨ k = 2 ∨ k = 3 := by omega
  · exact hch_1 R cf
  · exact hch_2 R cf
  · exact hch_3 R cf
