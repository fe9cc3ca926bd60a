theorem md_own_rd {u : jm_Mem} {j k : Nat} : ∀ n, md_own u j n 31 k = if 4 * j ≤ k ∧ k < 4 * j + n then nI k else u 31 k
  | 0 => by rw [if_neg (by omega)]; rfl
  | n + 1 => by
    simp only [md_own]
    rw [rd_if, md_own_rd n]
    by_cases e : k = 4 * j + n
    · rw [if_pos e, if_pos (by omega), e]
    · rw [if_neg e]
      by_cases c : 4 * j ≤ k ∧ k < 4 * j + n
      · rw [if_pos c, if_pos (by omega)]
      · rw [if_neg c, if_neg (by omega)]
theorem wi_t {v : Int32} {a b : Nat} (ha : a < 2 ^ 31) (hb : b < 2 ^ 31) (h : rg_wi v (nI a) (nI b)) : (a : Int) ≤ v.toInt ∧ v.toInt ≤ b := by
  obtain ⟨h1, h2⟩ := h
  rw [Int32.lt_iff_toInt_lt] at h1 h2
  rw [nI_toInt hb] at h2
  rw [nI_toInt ha] at h1
  omega
theorem up_if {f : Nat → Int32} {k i : Nat} {v : Int32} : upd f i v k = if k = i then v else f k := rfl
theorem z_le {x : Int32} (h : 1 ≤ x.toInt) : ¬ x ≤ 0 := by
  rw [Int32.le_iff_toInt_le]
  have : (0 : Int32).toInt = 0 := by decide
  omega
set_option maxHeartbeats 1000000 in
theorem Rel.horse {μ : jm_Mem} (R : Rel μ) {j : Nat} {w c : Int32} (hj : j < 12) (ch : μ 2 j ≤ 0) (w1 : 1 ≤ w.toInt) (w2 : w.toInt ≤ 200) : Rel (md_own (jm_set (jm_set (jm_set (jm_set (jm_set (jm_set (rg_add (jm_set μ 2 j w) j w) 9 (8 * j + 0) c) 10 j (nI (0 + 1))) 27 j w) 28 j 0) 29 j 1) 30 (8 * j) c) j 4) := by
  have z : (0 : Int32).toInt = 0 := by decide
  have h0 := (pos_iff (R.1.1 j hj).1).mp ch
  have r0 := R.1.2.2.1 j hj ch
  obtain ⟨a1, a2, a3, a4, a5, a6, a7, a8⟩ := R
  refine ⟨?_, ?_, ?_, ?_, ?_, ?_, ?_, ?_⟩
  · simp only [jm_set_ne, jm_arr_ne, jm_set_eq, jm_arr_eq, rg_add_na, ra2, ra3, ra4, ra5, ra6, ra7, pk_us, pk_un, md_own_na, md_clr_na, md_shf_na, ne_eq, Nat.reduceEqDiff, not_false_eq_true]
    exact RR_add a1 hj (fun k hk e => ⟨pk_un e, rfl⟩) (by rw [pk_us, h0, r0]; grind) (by rw [pk_us]; omega) (a1.2.1 j hj) (fun c9 => r0)
  · simp only [jm_set_ne, jm_arr_ne, jm_set_eq, jm_arr_eq, rg_add_na, ra2, ra3, ra4, ra5, ra6, ra7, pk_us, pk_un, md_own_na, md_clr_na, md_shf_na, ne_eq, Nat.reduceEqDiff, not_false_eq_true]
    intro k hk
    obtain ⟨q1, q2, q3, q4⟩ := a2 k hk
    refine ⟨q1, q2, ?_, ?_⟩
    · rw [up_if, up_if, q3]
    · rw [up_if, q4]
      split
      · next e => rw [e, r0]
      · rfl
  · simpa only [jm_set_ne, jm_arr_ne, jm_set_eq, jm_arr_eq, rg_add_na, ra2, ra3, ra4, ra5, ra6, ra7, pk_us, pk_un, md_own_na, md_clr_na, md_shf_na, ne_eq, Nat.reduceEqDiff, not_false_eq_true] using a3
  · simpa only [jm_set_ne, jm_arr_ne, jm_set_eq, jm_arr_eq, rg_add_na, ra2, ra3, ra4, ra5, ra6, ra7, pk_us, pk_un, md_own_na, md_clr_na, md_shf_na, ne_eq, Nat.reduceEqDiff, not_false_eq_true] using a4
  · simp only [jm_set_ne, jm_arr_ne, jm_set_eq, jm_arr_eq, rg_add_na, ra2, ra3, ra4, ra5, ra6, ra7, pk_us, pk_un, md_own_na, md_clr_na, md_shf_na, ne_eq, Nat.reduceEqDiff, not_false_eq_true]
    refine ⟨fun k hk => ?_, fun k hk => ?_⟩
    · by_cases e : k = j
      · subst e
        rw [pk_us, pk_us, pk_us]
        exact ⟨fun _ => ⟨1, by omega, by omega, rfl, rfl⟩, fun q => absurd q (z_le w1)⟩
      · rw [pk_un e, pk_un e, pk_un e]; exact a5.1 k hk
    · rw [up_if, up_if, a5.2 k hk]; rfl
  · simp only [jm_set_ne, rg_add_na, md_own_na, jm_set_eq, ne_eq, Nat.reduceEqDiff, not_false_eq_true]
    obtain ⟨m, m1, m2, m3, m4⟩ := a6
    refine ⟨m, m1, m2, fun k hk q => ?_, fun k hk q => ?_⟩
    · by_cases e : k / 4 = j
      · rw [e, pk_us] at q; exact absurd q (z_le w1)
      · rw [pk_un e] at q; exact m3 k hk q
    · rw [md_own_rd]
      by_cases e : k / 4 = j
      · rw [if_pos (by omega), (m1 k hk).2, m3 k hk (by rw [e]; exact ch)]
      · rw [if_neg (by omega)]
        rw [pk_un e] at q
        simp only [jm_set_ne, rg_add_na, ne_eq, Nat.reduceEqDiff, not_false_eq_true]
        exact m4 k hk q
  · simpa only [jm_set_ne, jm_arr_ne, jm_set_eq, jm_arr_eq, rg_add_na, ra2, ra3, ra4, ra5, ra6, ra7, pk_us, pk_un, md_own_na, md_clr_na, md_shf_na, ne_eq, Nat.reduceEqDiff, not_false_eq_true] using a7
  · simpa only [jm_set_ne, jm_arr_ne, jm_set_eq, jm_arr_eq, rg_add_na, ra2, ra3, ra4, ra5, ra6, ra7, pk_us, pk_un, md_own_na, md_clr_na, md_shf_na, ne_eq, Nat.reduceEqDiff, not_false_eq_true] using a8
theorem p_horse {μ μ1 μ2 : jm_Mem} (R : Rel μ) {p w c r r' : Int32} (o1 : oc_horse μ p w c r μ1) (o2 : om_horse μ1 p w c r' μ2) : r = r' ∧ Rel μ2 := by
  rcases o1 with ⟨c1, rfl, rfl⟩ | ⟨j, hj, rfl, (⟨cw, rfl, rfl⟩ | ⟨cw, cc, (⟨ch, rfl, rfl⟩ | ⟨ch, rfl, rfl⟩)⟩)⟩
  · rcases o2 with ⟨c2, rfl, rfl⟩ | ⟨i, hi, rfl, -⟩
    · exact ⟨rfl, R⟩
    · exact absurd c1 (np_no hi)
  · rcases o2 with ⟨c2, rfl, rfl⟩ | ⟨i, hi, e, (⟨cw2, rfl, rfl⟩ | ⟨cw2, cc2, -⟩)⟩
    · exact absurd c2 (np_no hj)
    · exact ⟨rfl, R⟩
    · exact (cw.elim (wi_no cw2) (wi_no cc2)).elim
  · rcases o2 with ⟨c2, rfl, rfl⟩ | ⟨i, hi, e, (⟨cw2, rfl, rfl⟩ | ⟨cw2, cc2, (⟨ch2, rfl, rfl⟩ | ⟨ch2, rfl, rfl⟩)⟩)⟩
    · exact absurd c2 (np_no hj)
    · exact (cw2.elim (wi_no cw) (wi_no cc)).elim
    · exact ⟨rfl, R⟩
    · have := nj_eq hj hi e
      subst this
      rw [(R.hr hj).1] at ch2; exact absurd ch2 ch
  · have e27 : jm_set (jm_set (rg_add (jm_set μ 2 j w) j w) 9 (8 * j + 0) c) 10 j (nI (0 + 1)) 27 = μ 27 := by simp only [jm_set_ne, rg_add_na, ne_eq, Nat.reduceEqDiff, not_false_eq_true]
    rcases o2 with ⟨c2, rfl, rfl⟩ | ⟨i, hi, e, (⟨cw2, rfl, rfl⟩ | ⟨cw2, cc2, (⟨ch2, rfl, rfl⟩ | ⟨ch2, rfl, rfl⟩)⟩)⟩
    · exact absurd c2 (np_no hj)
    · exact (cw2.elim (wi_no cw) (wi_no cc)).elim
    · have := nj_eq hj hi e
      subst this
      rw [e27, (R.hr hj).1] at ch2; exact absurd ch ch2
    · have := nj_eq hj hi e
      subst this
      obtain ⟨w1, w2⟩ := wi_t (by decide) (by decide) cw
      refine ⟨?_, R.horse hj ch (by simpa using w1) (by simpa using w2)⟩
      rw [jm_set_eq, jm_set_eq, e27]
      rw [rg_cnt_congr 12 (fun k hk => show upd (μ 2) j w k = upd (μ 27) j w k by rw [up_if, up_if, (R.hr hk).1])]
set_option maxHeartbeats 1000000 in
theorem Rel.leave {μ : jm_Mem} (R : Rel μ) {j : Nat} (hj : j < 12) (cr : μ 3 j ≤ 0) (ho : ∀ i, i < 4 → μ 12 (4 * j + i) = nI (4 * j + i)) : Rel (jm_set (rg_add (jm_set (jm_set μ 10 j 0) 2 j 0) j (0 - μ 2 j)) 27 j 0) := by
  have z : (0 : Int32).toInt = 0 := by decide
  have r0 := (pos_iff (R.1.2.1 j hj).1).mp cr
  obtain ⟨a1, a2, a3, a4, a5, a6, a7, a8⟩ := R
  refine ⟨?_, ?_, ?_, ?_, ?_, ?_, ?_, ?_⟩
  · simp only [jm_set_ne, jm_arr_ne, jm_set_eq, jm_arr_eq, rg_add_na, ra2, ra3, ra4, ra5, ra6, ra7, pk_us, pk_un, md_own_na, md_clr_na, md_shf_na, ne_eq, Nat.reduceEqDiff, not_false_eq_true]
    exact RR_add a1 hj (fun k hk e => ⟨pk_un e, rfl⟩) (by rw [pk_us]; grind) (by rw [pk_us]; omega) (a1.2.1 j hj) (fun c9 => r0)
  · simp only [jm_set_ne, jm_arr_ne, jm_set_eq, jm_arr_eq, rg_add_na, ra2, ra3, ra4, ra5, ra6, ra7, pk_us, pk_un, md_own_na, md_clr_na, md_shf_na, ne_eq, Nat.reduceEqDiff, not_false_eq_true]
    intro k hk
    obtain ⟨q1, q2, q3, q4⟩ := a2 k hk
    exact ⟨q1, q2, by rw [up_if, up_if, q3], q4⟩
  · simpa only [jm_set_ne, jm_arr_ne, jm_set_eq, jm_arr_eq, rg_add_na, ra2, ra3, ra4, ra5, ra6, ra7, pk_us, pk_un, md_own_na, md_clr_na, md_shf_na, ne_eq, Nat.reduceEqDiff, not_false_eq_true] using a3
  · simpa only [jm_set_ne, jm_arr_ne, jm_set_eq, jm_arr_eq, rg_add_na, ra2, ra3, ra4, ra5, ra6, ra7, pk_us, pk_un, md_own_na, md_clr_na, md_shf_na, ne_eq, Nat.reduceEqDiff, not_false_eq_true] using a4
  · simp only [jm_set_ne, jm_arr_ne, jm_set_eq, jm_arr_eq, rg_add_na, ra2, ra3, ra4, ra5, ra6, ra7, pk_us, pk_un, md_own_na, md_clr_na, md_shf_na, ne_eq, Nat.reduceEqDiff, not_false_eq_true]
    refine ⟨fun k hk => ?_, a5.2⟩
    by_cases e : k = j
    · subst e
      rw [pk_us, pk_us]
      exact ⟨fun q => absurd (by decide) q, fun _ => rfl⟩
    · rw [pk_un e, pk_un e]; exact a5.1 k hk
  · simp only [jm_set_ne, jm_arr_ne, jm_set_eq, jm_arr_eq, rg_add_na, ra2, ra3, ra4, ra5, ra6, ra7, pk_us, pk_un, md_own_na, md_clr_na, md_shf_na, ne_eq, Nat.reduceEqDiff, not_false_eq_true]
    obtain ⟨m, m1, m2, m3, m4⟩ := a6
    refine ⟨m, m1, m2, fun k hk q => ?_, fun k hk q => ?_⟩
    · by_cases e : k / 4 = j
      · have h9 := ho (k % 4) (by omega)
        rw [show 4 * j + k % 4 = k by omega, (m1 k hk).2] at h9
        exact (nI_eq (by have := (m1 k hk).1; omega) (by omega)).mp h9
      · rw [pk_un e] at q; exact m3 k hk q
    · by_cases e : k / 4 = j
      · rw [e, pk_us] at q; exact absurd (by decide) q
      · rw [pk_un e] at q; exact m4 k hk q
  · simpa only [jm_set_ne, jm_arr_ne, jm_set_eq, jm_arr_eq, rg_add_na, ra2, ra3, ra4, ra5, ra6, ra7, pk_us, pk_un, md_own_na, md_clr_na, md_shf_na, ne_eq, Nat.reduceEqDiff, not_false_eq_true] using a7
  · simpa only [jm_set_ne, jm_arr_ne, jm_set_eq, jm_arr_eq, rg_add_na, ra2, ra3, ra4, ra5, ra6, ra7, pk_us, pk_un, md_own_na, md_clr_na, md_shf_na, ne_eq, Nat.reduceEqDiff, not_false_eq_true] using a8
theorem p_leave {μ μ1 μ2 : jm_Mem} (R : Rel μ) {p r r' : Int32} (o1 : oc_leave μ p r μ1) (o2 : om_leave μ1 p r' μ2) : r = r' ∧ Rel μ2 := by
  have own : ∀ {j : Nat}, j < 12 → ¬ μ 2 j ≤ 0 → ∀ i, i < 4 → μ 31 (4 * j + i) = μ 12 (4 * j + i) := by
    intro j hj ch i hi
    obtain ⟨m, -, -, -, m4⟩ := R.2.2.2.2.2.1
    exact m4 (4 * j + i) (by omega) (by rw [show (4 * j + i) / 4 = j by omega]; exact ch)
  rcases o1 with ⟨c1, rfl, rfl⟩ | ⟨j, hj, rfl, ch, (⟨cr, rfl, rfl⟩ | ⟨cr, ho, rfl, rfl⟩)⟩
  · rcases o2 with ⟨c2, rfl, rfl⟩ | ⟨i, hi, rfl, ch2, -⟩
    · exact ⟨rfl, R⟩
    · rw [(R.hr hi).1] at ch2; exact absurd c1 (nh_no hi ch2)
  · have hr := R.hr hj
    rcases o2 with ⟨c2, rfl, rfl⟩ | ⟨i, hi, e, ch2, (⟨cr2, rfl, rfl⟩ | ⟨cr2, ho2, rfl, rfl⟩)⟩
    · exact absurd c2 (mh_no hj (by rw [hr.1]; exact ch))
    · exact ⟨rfl, R⟩
    · have := nj_eq hj hi e
      subst this
      rw [hr.2] at cr2
      exact (cr.elim (fun c => c ((pos_iff (R.1.2.1 j hj).1).mpr cr2)) (fun ⟨i, hi, c⟩ => c (by rw [← own hj ch i hi]; exact ho2 i hi))).elim
  · have hr := R.hr hj
    have e27 : rg_add (jm_set (jm_set μ 10 j 0) 2 j 0) j (0 - μ 2 j) 27 = μ 27 := by simp only [jm_set_ne, rg_add_na, ne_eq, Nat.reduceEqDiff, not_false_eq_true]
    have e28 : rg_add (jm_set (jm_set μ 10 j 0) 2 j 0) j (0 - μ 2 j) 28 = μ 28 := by simp only [jm_set_ne, rg_add_na, ne_eq, Nat.reduceEqDiff, not_false_eq_true]
    have e31 : rg_add (jm_set (jm_set μ 10 j 0) 2 j 0) j (0 - μ 2 j) 31 = μ 31 := by simp only [jm_set_ne, rg_add_na, ne_eq, Nat.reduceEqDiff, not_false_eq_true]
    rcases o2 with ⟨c2, rfl, rfl⟩ | ⟨i, hi, e, ch2, (⟨cr2, rfl, rfl⟩ | ⟨cr2, ho2, rfl, rfl⟩)⟩
    · exact absurd c2 (mh_no hj (by rw [e27, hr.1]; exact ch))
    · have := nj_eq hj hi e
      subst this
      rw [e28, hr.2, e31] at cr2
      exact (cr2.elim (fun c => c ((pos_iff (R.1.2.1 j hj).1).mp cr)) (fun ⟨i, hi, c⟩ => c (by rw [own hj ch i hi]; exact ho i hi))).elim
    · have := nj_eq hj hi e
      subst this
      exact ⟨by rw [e27, hr.1], R.leave hj cr ho⟩
theorem p_look {μ : jm_Mem} (R : Rel μ) : μ 0 8 = jm_set μ 0 8 0 24 22 ∧ Rel (jm_set (jm_set μ 0 8 0) 24 22 0) := by
  refine ⟨by rw [jm_set_ne 24 (by decide)]; exact R.2.2.2.1.2.2.1.1.symm, ?_⟩
  obtain ⟨a1, a2, a3, a4, a5, a6, a7, a8⟩ := R
  refine ⟨?_, ?_, ?_, ?_, ?_, ?_, ?_, ?_⟩
  · simpa only [jm_set_ne, jm_arr_ne, jm_set_eq, jm_arr_eq, rg_add_na, ra2, ra3, ra4, ra5, ra6, ra7, pk_us, pk_un, md_own_na, md_clr_na, md_shf_na, ne_eq, Nat.reduceEqDiff, not_false_eq_true] using a1
  · simpa only [jm_set_ne, jm_arr_ne, jm_set_eq, jm_arr_eq, rg_add_na, ra2, ra3, ra4, ra5, ra6, ra7, pk_us, pk_un, md_own_na, md_clr_na, md_shf_na, ne_eq, Nat.reduceEqDiff, not_false_eq_true] using a2
  · simpa only [jm_set_ne, jm_arr_ne, jm_set_eq, jm_arr_eq, rg_add_na, ra2, ra3, ra4, ra5, ra6, ra7, pk_us, pk_un, md_own_na, md_clr_na, md_shf_na, ne_eq, Nat.reduceEqDiff, not_false_eq_true] using a3
  · simp only [jm_set_ne, jm_arr_ne, jm_set_eq, jm_arr_eq, rg_add_na, ra2, ra3, ra4, ra5, ra6, ra7, pk_us, pk_un, md_own_na, md_clr_na, md_shf_na, ne_eq, Nat.reduceEqDiff, not_false_eq_true]
    exact ⟨a4.1, a4.2.1, ⟨rfl, by decide, by decide⟩, a4.2.2.2⟩
  · simpa only [jm_set_ne, jm_arr_ne, jm_set_eq, jm_arr_eq, rg_add_na, ra2, ra3, ra4, ra5, ra6, ra7, pk_us, pk_un, md_own_na, md_clr_na, md_shf_na, ne_eq, Nat.reduceEqDiff, not_false_eq_true] using a5
  · simpa only [jm_set_ne, jm_arr_ne, jm_set_eq, jm_arr_eq, rg_add_na, ra2, ra3, ra4, ra5, ra6, ra7, pk_us, pk_un, md_own_na, md_clr_na, md_shf_na, ne_eq, Nat.reduceEqDiff, not_false_eq_true] using a6
  · simpa only [jm_set_ne, jm_arr_ne, jm_set_eq, jm_arr_eq, rg_add_na, ra2, ra3, ra4, ra5, ra6, ra7, pk_us, pk_un, md_own_na, md_clr_na, md_shf_na, ne_eq, Nat.reduceEqDiff, not_false_eq_true] using a7
  · simpa only [jm_set_ne, jm_arr_ne, jm_set_eq, jm_arr_eq, rg_add_na, ra2, ra3, ra4, ra5, ra6, ra7, pk_us, pk_un, md_own_na, md_clr_na, md_shf_na, ne_eq, Nat.reduceEqDiff, not_false_eq_true] using a8
theorem p_hours {μ μ1 μ2 : jm_Mem} (R : Rel μ) {v r r' : Int32} (o1 : oc_hours μ v r μ1) (o2 : om_hours μ1 v r' μ2) : r = r' ∧ Rel μ2 := by
  rcases o1 with ⟨c1, rfl, rfl⟩ | ⟨c1, rfl, rfl⟩ <;> rcases o2 with ⟨c2, rfl, rfl⟩ | ⟨c2, rfl, rfl⟩
  · exact ⟨rfl, R⟩
  · exact absurd c1 (wi_no c2)
  · exact absurd c2 (wi_no c1)
  · refine ⟨by rw [jm_set_ne 24 (by decide)]; exact R.2.2.2.1.2.1.1.symm, ?_⟩
    obtain ⟨w1, w2⟩ := wi_t (by decide) (by decide) c1
    obtain ⟨a1, a2, a3, a4, a5, a6, a7, a8⟩ := R
    refine ⟨?_, ?_, ?_, ?_, ?_, ?_, ?_, ?_⟩
    · simpa only [jm_set_ne, jm_arr_ne, jm_set_eq, jm_arr_eq, rg_add_na, ra2, ra3, ra4, ra5, ra6, ra7, pk_us, pk_un, md_own_na, md_clr_na, md_shf_na, ne_eq, Nat.reduceEqDiff, not_false_eq_true] using a1
    · simpa only [jm_set_ne, jm_arr_ne, jm_set_eq, jm_arr_eq, rg_add_na, ra2, ra3, ra4, ra5, ra6, ra7, pk_us, pk_un, md_own_na, md_clr_na, md_shf_na, ne_eq, Nat.reduceEqDiff, not_false_eq_true] using a2
    · simpa only [jm_set_ne, jm_arr_ne, jm_set_eq, jm_arr_eq, rg_add_na, ra2, ra3, ra4, ra5, ra6, ra7, pk_us, pk_un, md_own_na, md_clr_na, md_shf_na, ne_eq, Nat.reduceEqDiff, not_false_eq_true] using a3
    · simp only [jm_set_ne, jm_arr_ne, jm_set_eq, jm_arr_eq, rg_add_na, ra2, ra3, ra4, ra5, ra6, ra7, pk_us, pk_un, md_own_na, md_clr_na, md_shf_na, ne_eq, Nat.reduceEqDiff, not_false_eq_true]
      exact ⟨a4.1, ⟨rfl, by simpa using w1, by simpa using w2⟩, a4.2.2.1, a4.2.2.2⟩
    · simpa only [jm_set_ne, jm_arr_ne, jm_set_eq, jm_arr_eq, rg_add_na, ra2, ra3, ra4, ra5, ra6, ra7, pk_us, pk_un, md_own_na, md_clr_na, md_shf_na, ne_eq, Nat.reduceEqDiff, not_false_eq_true] using a5
    · simpa only [jm_set_ne, jm_arr_ne, jm_set_eq, jm_arr_eq, rg_add_na, ra2, ra3, ra4, ra5, ra6, ra7, pk_us, pk_un, md_own_na, md_clr_na, md_shf_na, ne_eq, Nat.reduceEqDiff, not_false_eq_true] using a6
    · simpa only [jm_set_ne, jm_arr_ne, jm_set_eq, jm_arr_eq, rg_add_na, ra2, ra3, ra4, ra5, ra6, ra7, pk_us, pk_un, md_own_na, md_clr_na, md_shf_na, ne_eq, Nat.reduceEqDiff, not_false_eq_true] using a7
    · simpa only [jm_set_ne, jm_arr_ne, jm_set_eq, jm_arr_eq, rg_add_na, ra2, ra3, ra4, ra5, ra6, ra7, pk_us, pk_un, md_own_na, md_clr_na, md_shf_na, ne_eq, Nat.reduceEqDiff, not_false_eq_true] using a8
theorem p_book {μ μ1 μ2 : jm_Mem} (R : Rel μ) {v r r' : Int32} (o1 : oc_book μ v r μ1) (o2 : om_book μ1 v r' μ2) : r = r' ∧ Rel μ2 := by
  rcases o1 with ⟨c1, rfl, rfl⟩ | ⟨c1, rfl, rfl⟩ <;> rcases o2 with ⟨c2, rfl, rfl⟩ | ⟨c2, rfl, rfl⟩
  · exact ⟨rfl, R⟩
  · exact absurd c1 (wi_no c2)
  · exact absurd c2 (wi_no c1)
  · refine ⟨by rw [jm_set_ne 24 (by decide), R.2.2.2.1.2.2.2], ?_⟩
    obtain ⟨a1, a2, a3, a4, a5, a6, a7, a8⟩ := R
    refine ⟨?_, ?_, ?_, ?_, ?_, ?_, ?_, ?_⟩
    · simpa only [jm_set_ne, jm_arr_ne, jm_set_eq, jm_arr_eq, rg_add_na, ra2, ra3, ra4, ra5, ra6, ra7, pk_us, pk_un, md_own_na, md_clr_na, md_shf_na, ne_eq, Nat.reduceEqDiff, not_false_eq_true] using a1
    · simpa only [jm_set_ne, jm_arr_ne, jm_set_eq, jm_arr_eq, rg_add_na, ra2, ra3, ra4, ra5, ra6, ra7, pk_us, pk_un, md_own_na, md_clr_na, md_shf_na, ne_eq, Nat.reduceEqDiff, not_false_eq_true] using a2
    · simpa only [jm_set_ne, jm_arr_ne, jm_set_eq, jm_arr_eq, rg_add_na, ra2, ra3, ra4, ra5, ra6, ra7, pk_us, pk_un, md_own_na, md_clr_na, md_shf_na, ne_eq, Nat.reduceEqDiff, not_false_eq_true] using a3
    · simp only [jm_set_ne, jm_arr_ne, jm_set_eq, jm_arr_eq, rg_add_na, ra2, ra3, ra4, ra5, ra6, ra7, pk_us, pk_un, md_own_na, md_clr_na, md_shf_na, ne_eq, Nat.reduceEqDiff, not_false_eq_true]
      exact ⟨a4.1, a4.2.1, a4.2.2.1, rfl⟩
    · simpa only [jm_set_ne, jm_arr_ne, jm_set_eq, jm_arr_eq, rg_add_na, ra2, ra3, ra4, ra5, ra6, ra7, pk_us, pk_un, md_own_na, md_clr_na, md_shf_na, ne_eq, Nat.reduceEqDiff, not_false_eq_true] using a5
    · simpa only [jm_set_ne, jm_arr_ne, jm_set_eq, jm_arr_eq, rg_add_na, ra2, ra3, ra4, ra5, ra6, ra7, pk_us, pk_un, md_own_na, md_clr_na, md_shf_na, ne_eq, Nat.reduceEqDiff, not_false_eq_true] using a6
    · simpa only [jm_set_ne, jm_arr_ne, jm_set_eq, jm_arr_eq, rg_add_na, ra2, ra3, ra4, ra5, ra6, ra7, pk_us, pk_un, md_own_na, md_clr_na, md_shf_na, ne_eq, Nat.reduceEqDiff, not_false_eq_true] using a7
    · simpa only [jm_set_ne, jm_arr_ne, jm_set_eq, jm_arr_eq, rg_add_na, ra2, ra3, ra4, ra5, ra6, ra7, pk_us, pk_un, md_own_na, md_clr_na, md_shf_na, ne_eq, Nat.reduceEqDiff, not_false_eq_true] using a8
theorem p_come {μ μ1 μ2 : jm_Mem} (R : Rel μ) {v r r' : Int32} (o1 : oc_come μ v r μ1) (o2 : om_come μ1 v r' μ2) : r = r' ∧ Rel μ2 := by
  obtain ⟨nw, q1, q2, q3, q4, q5⟩ := id R.2.2.2.2.2.2.2
  rcases o1 with ⟨c1, rfl, rfl⟩ | ⟨c1, n1, e1, (⟨f1, rfl, rfl⟩ | ⟨f1, rfl, rfl⟩)⟩
  · rcases o2 with ⟨c2, rfl, rfl⟩ | ⟨c2, -⟩
    · exact ⟨rfl, R⟩
    · exact absurd c1 (wi_no c2)
  · rcases o2 with ⟨c2, rfl, rfl⟩ | ⟨c2, n2, e2, (⟨f2, rfl, rfl⟩ | ⟨f2, rfl, rfl⟩)⟩
    · exact absurd c2 (wi_no c1)
    · exact ⟨rfl, R⟩
    · rw [q3, ← q2, e1] at e2
      have := (nI_eq (by omega) (by omega)).mp e2
      omega
  · rcases o2 with ⟨c2, rfl, rfl⟩ | ⟨c2, n2, e2, (⟨f2, rfl, rfl⟩ | ⟨f2, rfl, rfl⟩)⟩
    · exact absurd c2 (wi_no c1)
    · simp only [jm_set_ne, ne_eq, Nat.reduceEqDiff, not_false_eq_true] at e2
      rw [q3, ← q2, e1] at e2
      have := (nI_eq (by omega) (by omega)).mp e2
      omega
    · simp only [jm_set_ne, ne_eq, Nat.reduceEqDiff, not_false_eq_true] at e2
      rw [q3, ← q2, e1] at e2
      have := (nI_eq (by omega) (by omega)).mp e2
      subst this
      have h9 : nw = n1 := (nI_eq (by omega) (by omega)).mp (q2.symm.trans e1)
      subst h9
      obtain ⟨w1, w2⟩ := wi_w c1
      refine ⟨rfl, ?_⟩
      obtain ⟨a1, a2, a3, a4, a5, a6, a7, a8⟩ := R
      refine ⟨?_, ?_, ?_, ?_, ?_, ?_, ?_, ?_⟩
      · simpa only [jm_set_ne, jm_arr_ne, jm_set_eq, jm_arr_eq, rg_add_na, ra2, ra3, ra4, ra5, ra6, ra7, pk_us, pk_un, md_own_na, md_clr_na, md_shf_na, ne_eq, Nat.reduceEqDiff, not_false_eq_true] using a1
      · simpa only [jm_set_ne, jm_arr_ne, jm_set_eq, jm_arr_eq, rg_add_na, ra2, ra3, ra4, ra5, ra6, ra7, pk_us, pk_un, md_own_na, md_clr_na, md_shf_na, ne_eq, Nat.reduceEqDiff, not_false_eq_true] using a2
      · simpa only [jm_set_ne, jm_arr_ne, jm_set_eq, jm_arr_eq, rg_add_na, ra2, ra3, ra4, ra5, ra6, ra7, pk_us, pk_un, md_own_na, md_clr_na, md_shf_na, ne_eq, Nat.reduceEqDiff, not_false_eq_true] using a3
      · simpa only [jm_set_ne, jm_arr_ne, jm_set_eq, jm_arr_eq, rg_add_na, ra2, ra3, ra4, ra5, ra6, ra7, pk_us, pk_un, md_own_na, md_clr_na, md_shf_na, ne_eq, Nat.reduceEqDiff, not_false_eq_true] using a4
      · simpa only [jm_set_ne, jm_arr_ne, jm_set_eq, jm_arr_eq, rg_add_na, ra2, ra3, ra4, ra5, ra6, ra7, pk_us, pk_un, md_own_na, md_clr_na, md_shf_na, ne_eq, Nat.reduceEqDiff, not_false_eq_true] using a5
      · simpa only [jm_set_ne, jm_arr_ne, jm_set_eq, jm_arr_eq, rg_add_na, ra2, ra3, ra4, ra5, ra6, ra7, pk_us, pk_un, md_own_na, md_clr_na, md_shf_na, ne_eq, Nat.reduceEqDiff, not_false_eq_true] using a6
      · simpa only [jm_set_ne, jm_arr_ne, jm_set_eq, jm_arr_eq, rg_add_na, ra2, ra3, ra4, ra5, ra6, ra7, pk_us, pk_un, md_own_na, md_clr_na, md_shf_na, ne_eq, Nat.reduceEqDiff, not_false_eq_true] using a7
      · simp only [jm_set_ne, jm_arr_ne, jm_set_eq, jm_arr_eq, rg_add_na, ra2, ra3, ra4, ra5, ra6, ra7, pk_us, pk_un, md_own_na, md_clr_na, md_shf_na, ne_eq, Nat.reduceEqDiff, not_false_eq_true]
        refine ⟨nw + 1, by omega, rfl, rfl, fun k hk => by rw [up_if, up_if, q4 k hk], fun k hk => ?_⟩
        rw [up_if]
        split
        · omega
        · exact q5 k (by omega)
