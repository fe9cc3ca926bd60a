theorem mdl_c {u μ : jm_Mem} (h : ∀ q, 24 ≤ q → u q = μ q) : md_sh u = md_sh μ ∧ (md_law u ↔ md_law μ) ∧ md_rc u 12 = md_rc μ 12 := by
  have h24 := h 24 (by omega)
  have h27 := h 27 (by omega)
  have h28 := h 28 (by omega)
  have e1 : md_sh u = md_sh μ := md_sh_c (h 25 (by omega)) (h 26 (by omega)) h27 h28
  have e2 : md_rs u 12 = md_rs μ 12 := by
    rw [md_rs_S, md_rs_S]
    exact rg_S_congr 12 (fun k _ => by simp only [md_ld, h27, h28]) (fun _ _ => rfl)
  have e3 : ∀ n, md_rc u n = md_rc μ n := by
    intro n
    induction n with
    | zero => rfl
    | succ n ih => simp only [md_rc, ih, h27, h28]
  refine ⟨e1, ?_, e3 12⟩
  unfold md_law
  rw [e1, e2, h24]
theorem mdl_b {u μ : jm_Mem} {w : Int32} (h : ∀ q, 24 ≤ q → u q = μ q) : md_okw u w = md_okw μ w ∧ (fun j => md_sh (jm_set u 28 j w)) = fun j => md_sh (jm_set μ 28 j w) := by
  have h2 : ∀ j q, 24 ≤ q → jm_set u 28 j w q = jm_set μ 28 j w q := by
    intro j q hq
    by_cases e : q = 28
    · subst e; rw [jm_set_eq, jm_set_eq, h 28 (by omega)]
    · rw [jm_set_ne q e, jm_set_ne q e, h q hq]
  constructor
  · funext j
    simp only [md_okw, h 27 (by omega), h 28 (by omega)]
    exact decide_eq_decide.mpr (and_congr_right (fun _ => and_congr_right (fun _ => (mdl_c (h2 j)).2.1)))
  · funext j
    exact (mdl_c (h2 j)).1
theorem tar_rd {μ : jm_Mem} {k : Nat} : ∀ n, rg_tar μ n 3 k = if k < n then 0 else μ 3 k
  | 0 => by rw [if_neg (by omega)]; rfl
  | n + 1 => by
    simp only [rg_tar]
    rw [rg_add_na (by decide), rd_if, tar_rd n]
    by_cases e : k = n
    · rw [if_pos e, if_pos (by omega)]
    · rw [if_neg e]
      by_cases c : k < n
      · rw [if_pos c, if_pos (by omega)]
      · rw [if_neg c, if_neg (by omega)]
theorem tar_2 {μ : jm_Mem} {b : Nat} (h1 : b ≠ 1) (h3 : b ≠ 3) (n : Nat) : rg_tar μ n b = μ b := by
  funext k
  exact rg_tar_na n h1 h3
theorem tar_s {μ : jm_Mem} : ∀ n, rg_tar μ n 1 2 = μ 1 2 ∧ rg_tar μ n 1 3 = μ 1 3
  | 0 => ⟨rfl, rfl⟩
  | n + 1 => by
    simp only [rg_tar]
    rw [ra2, ra3, rd_na (by decide), rd_na (by decide)]
    exact tar_s n
theorem tar_RR {μ : jm_Mem} (H : RR (μ 1 4) (μ 1 5) (μ 1 6) (μ 1 7) (μ 2) (μ 3)) : ∀ n, n ≤ 12 → RR (rg_tar μ n 1 4) (rg_tar μ n 1 5) (rg_tar μ n 1 6) (rg_tar μ n 1 7) (μ 2) (rg_tar μ n 3)
  | 0, _ => H
  | n + 1, hn => by
    have ih := tar_RR H n (by omega)
    have z : (0 : Int32).toInt = 0 := by decide
    have e : rg_tar μ (n + 1) = rg_add (jm_set (rg_tar μ n) 3 n 0) n (0 - rg_tar μ n 3 n) := rfl
    rw [e]
    simp only [ra4, ra5, ra6, ra7, rg_add_na, jm_set_ne, jm_set_eq, ne_eq, Nat.reduceEqDiff, not_false_eq_true]
    exact RR_add ih (show n < 12 by omega) (fun k hk e => ⟨rfl, pk_un e⟩) (by rw [pk_us]; grind) (ih.1 n (by omega)) (by rw [pk_us]; omega) (fun _ => pk_us)
theorem clr_rd {μ : jm_Mem} {k : Nat} : ∀ n, md_clr μ n 28 k = if k < n then 0 else μ 28 k
  | 0 => by rw [if_neg (by omega)]; rfl
  | n + 1 => by
    simp only [md_clr]
    rw [rd_if, clr_rd n]
    by_cases e : k = n
    · rw [if_pos e, if_pos (by omega)]
    · rw [if_neg e]
      by_cases c : k < n
      · rw [if_pos c, if_pos (by omega)]
      · rw [if_neg c, if_neg (by omega)]
theorem va_cpy_if {f g : Nat → Int32} {n k : Nat} : va_cpy f g 1 0 n k = if k < n then f (k + 1) else g k := by
  unfold va_cpy
  by_cases c : k < n
  · rw [if_pos (by omega), if_pos c, show 1 + (k - 0) = k + 1 by omega]
  · rw [if_neg (by omega), if_neg c]
theorem shf_rd {μ : jm_Mem} {k : Nat} : ∀ n, md_shf μ n 40 k = if k < n then μ 40 (k + 1) else μ 40 k
  | 0 => by rw [if_neg (by omega)]; rfl
  | n + 1 => by
    simp only [md_shf]
    rw [rd_if, shf_rd n, shf_rd n]
    by_cases e : k = n
    · rw [if_pos e, if_neg (by omega), if_pos (by omega), e]
    · rw [if_neg e]
      by_cases c : k < n
      · rw [if_pos c, if_pos (by omega)]
      · rw [if_neg c, if_neg (by omega)]
theorem ti_mul {a b : Int32} (h1 : -2147483648 ≤ a.toInt * b.toInt) (h2 : a.toInt * b.toInt < 2147483648) : (a * b).toInt = a.toInt * b.toInt := by
  rw [Int32.toInt_mul]
  exact Int.bmod_eq_of_le (by simpa using h1) (by simpa using h2)
theorem te_iff {te ho : Int32} (t1 : 0 ≤ te.toInt) (t2 : te.toInt ≤ 10000) (h1 : 1 ≤ ho.toInt) (h2 : ho.toInt ≤ 1000) : te + nI 1 ≤ nI 10 * ho ↔ te < ho * nI 10 := by
  have e1 : (nI 1).toInt = 1 := by decide
  have e10 : (nI 10).toInt = 10 := by decide
  rw [Int32.le_iff_toInt_le, Int32.lt_iff_toInt_lt, ti_add (by omega) (by omega), ti_mul (a := nI 10) (b := ho) (by rw [e10]; omega) (by rw [e10]; omega), ti_mul (a := ho) (b := nI 10) (by rw [e10]; omega) (by rw [e10]; omega), e10, e1]
  omega
set_option maxHeartbeats 1000000 in
theorem p_turn {μ μ1 μ2 : jm_Mem} (R : Rel μ) {r r' : Int32} (o1 : oc_turn μ r μ1) (o2 : om_turn μ1 r' μ2) : r = r' ∧ Rel μ2 := by
  have hte := id R.2.2.2.1
  have hiff := te_iff hte.2.2.1.2.1 hte.2.2.1.2.2 hte.2.1.2.1 hte.2.1.2.2
  have q22 := hte.2.2.1.1
  have q21 := hte.2.1.1
  rcases o1 with ⟨c1, rfl, rfl⟩ | ⟨cl, ct, rfl, rfl⟩
  · rcases o2 with ⟨c2, rfl, rfl⟩ | ⟨cl2, ct2, rfl, rfl⟩
    · exact ⟨rfl, R⟩
    · rw [q22, q21] at ct2
      exact (c1.elim (fun c => c (R.law.mp cl2)) (fun c => absurd (hiff.mp ct2) (Int32.not_lt.mpr c))).elim
  · have hu : ∀ q, 24 ≤ q → jm_set (jm_set (rg_tar μ 12) 0 8 (μ 0 8 + 1)) 0 9 (μ 0 9 + nI (rg_cnt (μ 3) 12)) q = μ q := fun q hq => by rw [jm_set_ne q (by omega), jm_set_ne q (by omega), tar_2 (by omega) (by omega)]
    obtain ⟨u1, u2, u3⟩ := mdl_c hu
    have h24 := hu 24 (by omega)
    rcases o2 with ⟨c2, rfl, rfl⟩ | ⟨cl2, ct2, rfl, rfl⟩
    · rw [u2, h24, q22, q21] at c2
      exact (c2.elim (fun c => c (R.law.mpr cl)) (fun c => c (hiff.mpr ct))).elim
    · rw [u3, h24, md_rc_eq R.1 R.2.1 12 (Nat.le_refl _)]
      refine ⟨rfl, ?_⟩
      have hRR := tar_RR R.1 12 (Nat.le_refl _)
      have e1 : (1 : Int32).toInt = 1 := by decide
      have e10 : (nI 10).toInt = 10 := by decide
      have hcap : (μ 0 8 + 1).toInt ≤ 10000 ∧ 0 ≤ (μ 0 8 + 1).toInt := by
        have c9 := Int32.lt_iff_toInt_lt.mp ct
        have t1 := hte.2.2.1.2.1
        have t2 := hte.2.2.1.2.2
        have t3 := hte.2.1.2.1
        have t4 := hte.2.1.2.2
        rw [ti_mul (by rw [e10]; omega) (by rw [e10]; omega), e10] at c9
        rw [ti_add (by omega) (by omega)]
        omega
      obtain ⟨s2, s3⟩ := tar_s (μ := μ) 12
      obtain ⟨a1, a2, a3, a4, a5, a6, a7, a8⟩ := R
      refine ⟨?_, ?_, ?_, ?_, ?_, ?_, ?_, ?_⟩
      · simp only [jm_set_ne, jm_arr_ne, jm_set_eq, jm_arr_eq, rg_add_na, ra2, ra3, ra4, ra5, ra6, ra7, pk_us, pk_un, md_own_na, md_clr_na, md_shf_na, ne_eq, Nat.reduceEqDiff, not_false_eq_true, tar_2]
        exact hRR
      · simp only [jm_set_ne, jm_arr_ne, jm_set_eq, jm_arr_eq, rg_add_na, ra2, ra3, ra4, ra5, ra6, ra7, pk_us, pk_un, md_own_na, md_clr_na, md_shf_na, ne_eq, Nat.reduceEqDiff, not_false_eq_true, tar_2]
        intro k hk
        obtain ⟨p1, p2, p3, p4⟩ := a2 k hk
        refine ⟨p1, p2, p3, ?_⟩
        rw [clr_rd, tar_rd, if_pos hk, if_pos hk]
      · simp only [jm_set_ne, jm_arr_ne, jm_set_eq, jm_arr_eq, rg_add_na, ra2, ra3, ra4, ra5, ra6, ra7, pk_us, pk_un, md_own_na, md_clr_na, md_shf_na, ne_eq, Nat.reduceEqDiff, not_false_eq_true, tar_2, s2, s3]
        exact a3
      · simp only [jm_set_ne, jm_arr_ne, jm_set_eq, jm_arr_eq, rg_add_na, ra2, ra3, ra4, ra5, ra6, ra7, pk_us, pk_un, md_own_na, md_clr_na, md_shf_na, ne_eq, Nat.reduceEqDiff, not_false_eq_true, tar_2]
        exact ⟨a4.1, a4.2.1, ⟨by rw [a4.2.2.1.1], hcap.2, hcap.1⟩, by rw [a4.2.2.2]⟩
      · simp only [jm_set_ne, jm_arr_ne, jm_set_eq, jm_arr_eq, rg_add_na, ra2, ra3, ra4, ra5, ra6, ra7, pk_us, pk_un, md_own_na, md_clr_na, md_shf_na, ne_eq, Nat.reduceEqDiff, not_false_eq_true, tar_2]
        exact a5
      · simp only [jm_set_ne, jm_arr_ne, jm_set_eq, jm_arr_eq, rg_add_na, ra2, ra3, ra4, ra5, ra6, ra7, pk_us, pk_un, md_own_na, md_clr_na, md_shf_na, ne_eq, Nat.reduceEqDiff, not_false_eq_true, tar_2]
        exact a6
      · simp only [jm_set_ne, jm_arr_ne, jm_set_eq, jm_arr_eq, rg_add_na, ra2, ra3, ra4, ra5, ra6, ra7, pk_us, pk_un, md_own_na, md_clr_na, md_shf_na, ne_eq, Nat.reduceEqDiff, not_false_eq_true, tar_2]
        exact a7
      · simp only [jm_set_ne, jm_arr_ne, jm_set_eq, jm_arr_eq, rg_add_na, ra2, ra3, ra4, ra5, ra6, ra7, pk_us, pk_un, md_own_na, md_clr_na, md_shf_na, ne_eq, Nat.reduceEqDiff, not_false_eq_true, tar_2]
        exact a8
set_option maxHeartbeats 1000000 in
theorem p_next {μ μ1 μ2 : jm_Mem} (R : Rel μ) {r r' : Int32} (o1 : oc_next μ r μ1) (o2 : om_next μ1 r' μ2) : r = r' ∧ Rel μ2 := by
  obtain ⟨n0, q1, q2, q3, q4, q5⟩ := id R.2.2.2.2.2.2.2
  have hz : μ 40 0 = μ 23 0 := q4 0 (by omega)
  rcases o1 with ⟨c1, rfl, rfl⟩ | ⟨nw, hw, e1, o1⟩
  · rcases o2 with ⟨c2, rfl, rfl⟩ | ⟨n2, h2, e2, -⟩
    · exact ⟨rfl, R⟩
    · rw [q3, ← q2, c1] at e2
      have := (nI_eq (by omega) (by omega)).mp e2
      omega
  · have hn : n0 = nw + 1 := (nI_eq (by omega) (by omega)).mp (q2.symm.trans e1)
    subst hn
    obtain ⟨w1, w2⟩ := q5 0 (by omega)
    have hb := R.bst w1 w2 12 (Nat.le_refl _)
    rcases o1 with ⟨cb, rfl, rfl⟩ | ⟨j, hj, hok, ej, rfl, rfl⟩
    · rcases o2 with ⟨c2, rfl, rfl⟩ | ⟨n2, h2, e2, o2⟩
      · exact ⟨rfl, R⟩
      · rw [hz, hb] at o2
        rcases o2 with ⟨-, rfl, rfl⟩ | ⟨i, hi, ei, -⟩
        · exact ⟨rfl, R⟩
        · rw [cb] at ei; exact absurd ei.symm (rg_nm1 (by omega))
    · have hu : ∀ q, 24 ≤ q → jm_arr (jm_set (rg_add (jm_set μ 3 j (μ 23 0)) j (μ 23 0)) 22 1 (nI nw)) 23 (va_cpy (μ 23) (μ 23) 1 0 nw) q = μ q := fun q hq => by rw [jm_arr_ne q (by omega), jm_set_ne q (by omega), rg_add_na (by omega), jm_set_ne q (by omega)]
      have h40 := hu 40 (by omega)
      have h24 := hu 24 (by omega)
      rcases o2 with ⟨c2, rfl, rfl⟩ | ⟨n2, h2, e2, o2⟩
      · rw [h24, q3] at c2
        have := (nI_eq (by omega) (by omega)).mp c2
        omega
      · rw [h24, q3] at e2
        have hn2 : nw = n2 := by have := (nI_eq (by omega) (by omega)).mp e2; omega
        subst hn2
        rw [h40, hz, (mdl_b hu).1, (mdl_b hu).2, hb] at o2
        rcases o2 with ⟨c2, -⟩ | ⟨i, hi, ei, rfl, rfl⟩
        · rw [ej] at c2; exact absurd c2 (rg_nm1 (by omega))
        · rw [ej] at ei
          have := nj_eq hj hi ei
          subst this
          refine ⟨rfl, ?_⟩
          obtain ⟨k1, k2, -⟩ := of_decide_eq_true hok
          have cr := (pos_iff (R.1.2.1 j hj).1).mp k2
          have R := R.seat hj k1 cr w1 w2
          simp only [Rel, jm_set_ne, rg_add_na, ra2, ra3, ra4, ra5, ra6, ra7, jm_set_eq, ne_eq, Nat.reduceEqDiff, not_false_eq_true] at R
          obtain ⟨a1, a2, a3, a4, a5, a6, a7, a8⟩ := R
          refine ⟨?_, ?_, ?_, ?_, ?_, ?_, ?_, ?_⟩
          · simpa only [jm_set_ne, jm_arr_ne, jm_set_eq, jm_arr_eq, rg_add_na, ra2, ra3, ra4, ra5, ra6, ra7, pk_us, pk_un, md_own_na, md_clr_na, md_shf_na, ne_eq, Nat.reduceEqDiff, not_false_eq_true] using a1
          · simpa only [jm_set_ne, jm_arr_ne, jm_set_eq, jm_arr_eq, rg_add_na, ra2, ra3, ra4, ra5, ra6, ra7, pk_us, pk_un, md_own_na, md_clr_na, md_shf_na, ne_eq, Nat.reduceEqDiff, not_false_eq_true] using a2
          · simpa only [jm_set_ne, jm_arr_ne, jm_set_eq, jm_arr_eq, rg_add_na, ra2, ra3, ra4, ra5, ra6, ra7, pk_us, pk_un, md_own_na, md_clr_na, md_shf_na, ne_eq, Nat.reduceEqDiff, not_false_eq_true] using a3
          · simp only [jm_set_ne, jm_arr_ne, jm_set_eq, jm_arr_eq, rg_add_na, ra2, ra3, ra4, ra5, ra6, ra7, pk_us, pk_un, md_own_na, md_clr_na, md_shf_na, ne_eq, Nat.reduceEqDiff, not_false_eq_true]
            exact a4
          · simpa only [jm_set_ne, jm_arr_ne, jm_set_eq, jm_arr_eq, rg_add_na, ra2, ra3, ra4, ra5, ra6, ra7, pk_us, pk_un, md_own_na, md_clr_na, md_shf_na, ne_eq, Nat.reduceEqDiff, not_false_eq_true] using a5
          · simpa only [jm_set_ne, jm_arr_ne, jm_set_eq, jm_arr_eq, rg_add_na, ra2, ra3, ra4, ra5, ra6, ra7, pk_us, pk_un, md_own_na, md_clr_na, md_shf_na, ne_eq, Nat.reduceEqDiff, not_false_eq_true] using a6
          · simpa only [jm_set_ne, jm_arr_ne, jm_set_eq, jm_arr_eq, rg_add_na, ra2, ra3, ra4, ra5, ra6, ra7, pk_us, pk_un, md_own_na, md_clr_na, md_shf_na, ne_eq, Nat.reduceEqDiff, not_false_eq_true] using a7
          · simp only [jm_set_ne, jm_arr_ne, jm_set_eq, jm_arr_eq, rg_add_na, ra2, ra3, ra4, ra5, ra6, ra7, pk_us, pk_un, md_own_na, md_clr_na, md_shf_na, ne_eq, Nat.reduceEqDiff, not_false_eq_true, va_cpy_if]
            refine ⟨nw, by omega, rfl, rfl, fun k hk => ?_, fun k hk => ?_⟩
            · rw [shf_rd]
              simp only [jm_set_ne, jm_arr_ne, jm_set_eq, jm_arr_eq, rg_add_na, ra2, ra3, ra4, ra5, ra6, ra7, pk_us, pk_un, md_own_na, md_clr_na, md_shf_na, ne_eq, Nat.reduceEqDiff, not_false_eq_true]
              rw [va_cpy_if]
              by_cases c : k < nw
              · rw [if_pos c, if_pos c]; exact q4 (k + 1) (by omega)
              · rw [if_neg c, if_neg c]; exact q4 k hk
            · rw [va_cpy_if, if_pos hk]; exact q5 (k + 1) (by omega)
theorem p_fair {μ μ1 μ2 : jm_Mem} (R : Rel μ) {a b e r r' : Int32} (o1 : oc_fair μ a b e r μ1) (o2 : om_fair μ1 a b e r' μ2) : r = r' ∧ Rel μ2 := by
  obtain ⟨nf, q1, q2, q3, q4, q5, q6, q7⟩ := id R.2.2.2.2.2.2.1
  rcases o1 with ⟨c1, rfl, rfl⟩ | ⟨x1, x2, x3, n1, e1, o1⟩
  · rcases o2 with ⟨c2, rfl, rfl⟩ | ⟨y1, y2, y3, -⟩
    · exact ⟨rfl, R⟩
    · exact (c1.elim (wi_no y1) (fun c => c.elim (wi_no y2) (wi_no y3))).elim
  · have nq : ¬ (rg_nw a (nI 0) (nI 400) ∨ rg_nw b a (nI 400) ∨ rg_nw e (nI 0) (nI 10000)) := fun h => h.elim (wi_no x1) (fun c => c.elim (wi_no x2) (wi_no x3))
    rcases o1 with ⟨f1, rfl, rfl⟩ | ⟨f1, rfl, rfl⟩
    · rcases o2 with ⟨c2, rfl, rfl⟩ | ⟨y1, y2, y3, n2, e2, (⟨f2, rfl, rfl⟩ | ⟨f2, rfl, rfl⟩)⟩
      · exact absurd c2 nq
      · exact ⟨rfl, R⟩
      · rw [q3, ← q2, e1] at e2
        have := (nI_eq (by omega) (by omega)).mp e2
        omega
    · have h9 : nf = n1 := (nI_eq (by omega) (by omega)).mp (q2.symm.trans e1)
      subst h9
      rcases o2 with ⟨c2, rfl, rfl⟩ | ⟨y1, y2, y3, n2, e2, o2⟩
      · exact absurd c2 nq
      · simp only [jm_set_ne, ne_eq, Nat.reduceEqDiff, not_false_eq_true] at e2
        rw [q3] at e2
        rcases o2 with ⟨f2, rfl, rfl⟩ | ⟨f2, rfl, rfl⟩
        · have := (nI_eq (by omega) (by omega)).mp e2
          omega
        · have := (nI_eq (by omega) (by omega)).mp e2
          subst this
          refine ⟨rfl, ?_⟩
          obtain ⟨r1, r2⟩ := wi_t (by decide) (by decide) x1
          obtain ⟨r3, r4⟩ := x2
          obtain ⟨r5, r6⟩ := wi_t (by decide) (by decide) x3
          rw [Int32.lt_iff_toInt_lt] at r3 r4
          rw [nI_toInt (by decide)] at r4
          obtain ⟨a1, a2, a3, a4, a5, a6, a7, a8⟩ := R
          refine ⟨?_, ?_, ?_, ?_, ?_, ?_, ?_, ?_⟩
          · simpa only [jm_set_ne, jm_arr_ne, jm_set_eq, jm_arr_eq, rg_add_na, ra2, ra3, ra4, ra5, ra6, ra7, pk_us, pk_un, md_own_na, md_clr_na, md_shf_na, ne_eq, Nat.reduceEqDiff, not_false_eq_true] using a1
          · simpa only [jm_set_ne, jm_arr_ne, jm_set_eq, jm_arr_eq, rg_add_na, ra2, ra3, ra4, ra5, ra6, ra7, pk_us, pk_un, md_own_na, md_clr_na, md_shf_na, ne_eq, Nat.reduceEqDiff, not_false_eq_true] using a2
          · simpa only [jm_set_ne, jm_arr_ne, jm_set_eq, jm_arr_eq, rg_add_na, ra2, ra3, ra4, ra5, ra6, ra7, pk_us, pk_un, md_own_na, md_clr_na, md_shf_na, ne_eq, Nat.reduceEqDiff, not_false_eq_true] using a3
          · simpa only [jm_set_ne, jm_arr_ne, jm_set_eq, jm_arr_eq, rg_add_na, ra2, ra3, ra4, ra5, ra6, ra7, pk_us, pk_un, md_own_na, md_clr_na, md_shf_na, ne_eq, Nat.reduceEqDiff, not_false_eq_true] using a4
          · simpa only [jm_set_ne, jm_arr_ne, jm_set_eq, jm_arr_eq, rg_add_na, ra2, ra3, ra4, ra5, ra6, ra7, pk_us, pk_un, md_own_na, md_clr_na, md_shf_na, ne_eq, Nat.reduceEqDiff, not_false_eq_true] using a5
          · simpa only [jm_set_ne, jm_arr_ne, jm_set_eq, jm_arr_eq, rg_add_na, ra2, ra3, ra4, ra5, ra6, ra7, pk_us, pk_un, md_own_na, md_clr_na, md_shf_na, ne_eq, Nat.reduceEqDiff, not_false_eq_true] using a6
          · simp only [jm_set_ne, jm_arr_ne, jm_set_eq, jm_arr_eq, rg_add_na, ra2, ra3, ra4, ra5, ra6, ra7, pk_us, pk_un, md_own_na, md_clr_na, md_shf_na, ne_eq, Nat.reduceEqDiff, not_false_eq_true]
            refine ⟨nf + 1, by omega, rfl, rfl, fun f hf => ⟨by rw [up_if, up_if, (q4 f hf).1], by rw [up_if, up_if, (q4 f hf).2.1], by rw [up_if, up_if, (q4 f hf).2.2]⟩, q5, fun f hf => ?_, q7⟩
            rw [up_if, up_if, up_if]
            by_cases c : f = nf
            · rw [if_pos c, if_pos c, if_pos c]; omega
            · rw [if_neg c, if_neg c, if_neg c]; exact q6 f (by omega)
          · simpa only [jm_set_ne, jm_arr_ne, jm_set_eq, jm_arr_eq, rg_add_na, ra2, ra3, ra4, ra5, ra6, ra7, pk_us, pk_un, md_own_na, md_clr_na, md_shf_na, ne_eq, Nat.reduceEqDiff, not_false_eq_true] using a8
theorem p_road {μ μ1 μ2 : jm_Mem} (R : Rel μ) {a b d r r' : Int32} (o1 : oc_road μ a b d r μ1) (o2 : om_road μ1 a b d r' μ2) : r = r' ∧ Rel μ2 := by
  obtain ⟨nf, q1, q2, q3, q4, q5, q6, q7⟩ := id R.2.2.2.2.2.2.1
  obtain ⟨n1, e1, h1, o1⟩ := o1
  have h9 : nf = n1 := (nI_eq (by omega) (by omega)).mp (q2.symm.trans e1)
  subst h9
  obtain ⟨n2, e2, h2, o2⟩ := o2
  have no : ∀ {i k : Nat}, i < nf → k < nf → ¬ (nI i < 0 ∨ nI nf ≤ nI i ∨ nI k < 0 ∨ nI nf ≤ nI k) := fun hi hk h => by
    rcases h with h | h | h | h
    · exact nI_pos (by omega) h
    · exact absurd ((nI_leI (by omega) (by omega)).mp h) (by omega)
    · exact nI_pos (by omega) h
    · exact absurd ((nI_leI (by omega) (by omega)).mp h) (by omega)
  have e24 : μ1 24 12 = μ 24 12 := by
    rcases o1 with ⟨-, -, rfl⟩ | ⟨i, k, -, -, -, -, (⟨-, -, rfl⟩ | ⟨-, -, -, rfl⟩)⟩
    · rfl
    · rfl
    · simp only [jm_set_ne, ne_eq, Nat.reduceEqDiff, not_false_eq_true]
  rw [e24, q3] at e2
  have h9 : nf = n2 := (nI_eq (by omega) (by omega)).mp e2
  subst h9
  rcases o1 with ⟨c1, rfl, rfl⟩ | ⟨i, k, hi, hk, rfl, rfl, o1⟩
  · rcases o2 with ⟨c2, rfl, rfl⟩ | ⟨i, k, hi, hk, rfl, rfl, -⟩
    · exact ⟨rfl, R⟩
    · exact absurd c1 (no hi hk)
  · rcases o2 with ⟨c2, -, -⟩ | ⟨i2, k2, hi2, hk2, f1, f2, o2⟩
    · exact absurd c2 (no hi hk)
    · have := (nI_eq (by omega) (by omega)).mp f1
      subst this
      have := (nI_eq (by omega) (by omega)).mp f2
      subst this
      rcases o1 with ⟨c1, rfl, rfl⟩ | ⟨x1, ne, rfl, rfl⟩ <;> rcases o2 with ⟨c2, rfl, rfl⟩ | ⟨y1, ne2, rfl, rfl⟩
      · exact ⟨rfl, R⟩
      · exact (c1.elim (wi_no y1) ne2).elim
      · exact (c2.elim (wi_no x1) ne).elim
      · refine ⟨by simp only [jm_set_ne, ne_eq, Nat.reduceEqDiff, not_false_eq_true]; exact (q5 _ (by omega)).symm, ?_⟩
        obtain ⟨r1, r2⟩ := wi_t (by decide) (by decide) x1
        obtain ⟨a1, a2, a3, a4, a5, a6, a7, a8⟩ := R
        refine ⟨?_, ?_, ?_, ?_, ?_, ?_, ?_, ?_⟩
        · simpa only [jm_set_ne, jm_arr_ne, jm_set_eq, jm_arr_eq, rg_add_na, ra2, ra3, ra4, ra5, ra6, ra7, pk_us, pk_un, md_own_na, md_clr_na, md_shf_na, ne_eq, Nat.reduceEqDiff, not_false_eq_true] using a1
        · simpa only [jm_set_ne, jm_arr_ne, jm_set_eq, jm_arr_eq, rg_add_na, ra2, ra3, ra4, ra5, ra6, ra7, pk_us, pk_un, md_own_na, md_clr_na, md_shf_na, ne_eq, Nat.reduceEqDiff, not_false_eq_true] using a2
        · simpa only [jm_set_ne, jm_arr_ne, jm_set_eq, jm_arr_eq, rg_add_na, ra2, ra3, ra4, ra5, ra6, ra7, pk_us, pk_un, md_own_na, md_clr_na, md_shf_na, ne_eq, Nat.reduceEqDiff, not_false_eq_true] using a3
        · simpa only [jm_set_ne, jm_arr_ne, jm_set_eq, jm_arr_eq, rg_add_na, ra2, ra3, ra4, ra5, ra6, ra7, pk_us, pk_un, md_own_na, md_clr_na, md_shf_na, ne_eq, Nat.reduceEqDiff, not_false_eq_true] using a4
        · simpa only [jm_set_ne, jm_arr_ne, jm_set_eq, jm_arr_eq, rg_add_na, ra2, ra3, ra4, ra5, ra6, ra7, pk_us, pk_un, md_own_na, md_clr_na, md_shf_na, ne_eq, Nat.reduceEqDiff, not_false_eq_true] using a5
        · simpa only [jm_set_ne, jm_arr_ne, jm_set_eq, jm_arr_eq, rg_add_na, ra2, ra3, ra4, ra5, ra6, ra7, pk_us, pk_un, md_own_na, md_clr_na, md_shf_na, ne_eq, Nat.reduceEqDiff, not_false_eq_true] using a6
        · simp only [jm_set_ne, jm_arr_ne, jm_set_eq, jm_arr_eq, rg_add_na, ra2, ra3, ra4, ra5, ra6, ra7, pk_us, pk_un, md_own_na, md_clr_na, md_shf_na, ne_eq, Nat.reduceEqDiff, not_false_eq_true]
          refine ⟨nf, q1, q2, q3, q4, fun t ht => by rw [up_if, up_if, up_if, up_if, q5 t ht], q6, fun t ht => ?_⟩
          rw [up_if, up_if]
          split
          · omega
          · split
            · omega
            · exact q7 t ht
        · simpa only [jm_set_ne, jm_arr_ne, jm_set_eq, jm_arr_eq, rg_add_na, ra2, ra3, ra4, ra5, ra6, ra7, pk_us, pk_un, md_own_na, md_clr_na, md_shf_na, ne_eq, Nat.reduceEqDiff, not_false_eq_true] using a8
theorem mx_congr {f g : Nat → Int32} : ∀ (n : Nat) (h : Int64), (∀ k, k < n → f k = g k) → rg_mx f n h = rg_mx g n h
  | 0, _, _ => rfl
  | n + 1, h, e => by simp only [rg_mx]; rw [mx_congr n h (fun k hk => e k (by omega)), e n (by omega)]
theorem fd_congr {F G : Nat → Int64 → Int64} : ∀ (n : Nat) (h : Int64), (∀ k h, k < n → F k h = G k h) → rg_fd F n h = rg_fd G n h
  | 0, _, _ => rfl
  | n + 1, h, e => by simp only [rg_fd]; rw [fd_congr n h (fun k h hk => e k h (by omega)), e n _ (by omega)]
theorem p_digest {μ : jm_Mem} (R : Rel μ) {nf nw : Nat} (hn : μ 14 4 = nI nf) (h8 : nf ≤ 8) (hw : μ 22 1 = nI nw) (hl : nw ≤ 100) : rg_dig (cd_pl μ) (μ 1 2) (μ 1 3) (μ 15) (μ 16) (μ 17) (μ 18) nf (μ 0 7) (μ 0 8) (μ 0 9) (μ 0 6) (μ 23) nw = rg_dig (md_pl μ) (μ 24 7) (μ 24 8) (μ 34) (μ 35) (μ 36) (μ 37) nf (μ 24 21) (μ 24 22) (μ 24 23) (μ 24 9) (μ 40) nw := by
  obtain ⟨a1, a2, a3, a4, a5, a6, a7, a8⟩ := id R
  obtain ⟨n2, q1, q2, q3, q4, q5, -⟩ := a7
  obtain ⟨n3, g1, g2, g3, g4, -⟩ := a8
  obtain ⟨m, -, -, -, m4⟩ := a6
  have hpl : ∀ k h, k < 12 → cd_pl μ k h = md_pl μ k h := by
    intro k h hk
    obtain ⟨r1, r2⟩ := R.hr hk
    simp only [cd_pl, md_pl]
    rw [r1, r2]
    by_cases c : μ 2 k ≤ 0
    · rw [if_pos c, if_pos c, (pos_iff (a1.1 k hk).1).mp c]; rfl
    · rw [if_neg c, if_neg c]
      obtain ⟨m0, b1, b2, b3, b4⟩ := R.mm hk c
      simp only [rg_plh]
      rw [b3, b4, nI_clamp (by omega)]
      rw [mx_congr (f := fun i => μ 12 (4 * k + i)) (g := fun i => μ 31 (4 * k + i)) 4 _ (fun i hi => (R.mk hk hi c).symm)]
      rw [mx_congr (f := fun i => μ 9 (8 * k + i)) (g := fun i => μ 30 (8 * k + i)) m0 _ (fun i hi => (a5.2 _ (by omega)).symm)]
  simp only [rg_dig]
  rw [a3.1, a3.2, a4.1.1, a4.2.1.1, a4.2.2.1.1, a4.2.2.2, mx_congr (f := μ 23) (g := μ 40) nw _ (fun k hk => (g4 k (by omega)).symm), fd_congr 12 193 hpl]
  rw [fd_congr (F := rg_fa (μ 15) (μ 16) (μ 17) (μ 18) nf) (G := rg_fa (μ 34) (μ 35) (μ 36) (μ 37) nf) nf _ (fun f h hf => ?_)]
  obtain ⟨x1, x2, x3⟩ := q4 f (by omega)
  simp only [rg_fa]
  rw [x1, x2, x3, mx_congr (f := fun t => μ 18 (8 * f + (f + 1 + t))) (g := fun t => μ 37 (8 * f + (f + 1 + t))) _ _ (fun t ht => (q5 _ (by omega)).symm)]
