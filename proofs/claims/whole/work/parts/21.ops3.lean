theorem Rel.mm {μ : jm_Mem} (R : Rel μ) {j : Nat} (hj : j < 12) (ch : ¬ μ 2 j ≤ 0) : ∃ m, 1 ≤ m ∧ m ≤ 8 ∧ μ 10 j = nI m ∧ μ 29 j = nI m := (R.2.2.2.2.1.1 j hj).1 ch
theorem p_coat {μ μ1 μ2 : jm_Mem} (R : Rel μ) {p c r r' : Int32} (o1 : oc_coat μ p c r μ1) (o2 : om_coat μ1 p c r' μ2) : r = r' ∧ Rel μ2 := by
  rcases o1 with ⟨c1, rfl, rfl⟩ | ⟨j, m, hj, rfl, ch, em, (⟨cc, rfl, rfl⟩ | ⟨cc, (⟨f8, rfl, rfl⟩ | ⟨f8, rfl, rfl⟩)⟩)⟩
  · rcases o2 with ⟨c2, rfl, rfl⟩ | ⟨i, m2, hi, rfl, ch2, -⟩
    · exact ⟨rfl, R⟩
    · rw [(R.hr hi).1] at ch2; exact absurd c1 (nh_no hi ch2)
  · rcases o2 with ⟨c2, rfl, rfl⟩ | ⟨i, m2, hi, e, ch2, em2, (⟨cc2, rfl, rfl⟩ | ⟨cc2, -⟩)⟩
    · exact absurd c2 (mh_no hj (by rw [(R.hr hj).1]; exact ch))
    · exact ⟨rfl, R⟩
    · exact absurd cc (wi_no cc2)
  · obtain ⟨m0, b1, b2, b3, b4⟩ := R.mm hj ch
    rcases o2 with ⟨c2, rfl, rfl⟩ | ⟨i, m2, hi, e, ch2, em2, (⟨cc2, rfl, rfl⟩ | ⟨cc2, (⟨g8, rfl, rfl⟩ | ⟨g8, rfl, rfl⟩)⟩)⟩
    · exact absurd c2 (mh_no hj (by rw [(R.hr hj).1]; exact ch))
    · exact absurd cc2 (wi_no cc)
    · exact ⟨rfl, R⟩
    · have := nj_eq hj hi e
      subst this
      have h1 := (nI_eq (by omega) (by omega)).mp (b3.symm.trans em)
      have h2 := (nI_eq (by omega) (by omega)).mp (b4.symm.trans em2)
      omega
  · obtain ⟨m0, b1, b2, b3, b4⟩ := R.mm hj ch
    have h1 := (nI_eq (by omega) (by omega)).mp (b3.symm.trans em)
    subst h1
    have e27 : jm_set (jm_set μ 9 (8 * j + m0) c) 10 j (nI (m0 + 1)) 27 = μ 27 := by simp only [jm_set_ne, ne_eq, Nat.reduceEqDiff, not_false_eq_true]
    have e29 : jm_set (jm_set μ 9 (8 * j + m0) c) 10 j (nI (m0 + 1)) 29 = μ 29 := by simp only [jm_set_ne, ne_eq, Nat.reduceEqDiff, not_false_eq_true]
    rcases o2 with ⟨c2, rfl, rfl⟩ | ⟨i, m2, hi, e, ch2, em2, (⟨cc2, rfl, rfl⟩ | ⟨cc2, (⟨g8, rfl, rfl⟩ | ⟨g8, rfl, rfl⟩)⟩)⟩
    · exact absurd c2 (mh_no hj (by rw [e27, (R.hr hj).1]; exact ch))
    · exact absurd cc2 (wi_no cc)
    · have := nj_eq hj hi e
      subst this
      rw [e29] at em2
      have h2 := (nI_eq (by omega) (by omega)).mp (b4.symm.trans em2)
      omega
    · have := nj_eq hj hi e
      subst this
      rw [e29] at em2
      have h2 := (nI_eq (by omega) (by omega)).mp (b4.symm.trans em2)
      subst h2
      refine ⟨rfl, ?_⟩
      obtain ⟨a1, a2, a3, a4, a5, a6, a7, a8⟩ := R
      refine ⟨?_, ?_, ?_, ?_, ?_, ?_, ?_, ?_⟩
      · simpa only [jm_set_ne, jm_arr_ne, jm_set_eq, jm_arr_eq, rg_add_na, ra2, ra3, ra4, ra5, ra6, ra7, pk_us, pk_un, md_own_na, md_clr_na, md_shf_na, ne_eq, Nat.reduceEqDiff, not_false_eq_true] using a1
      · simpa only [jm_set_ne, jm_arr_ne, jm_set_eq, jm_arr_eq, rg_add_na, ra2, ra3, ra4, ra5, ra6, ra7, pk_us, pk_un, md_own_na, md_clr_na, md_shf_na, ne_eq, Nat.reduceEqDiff, not_false_eq_true] using a2
      · simpa only [jm_set_ne, jm_arr_ne, jm_set_eq, jm_arr_eq, rg_add_na, ra2, ra3, ra4, ra5, ra6, ra7, pk_us, pk_un, md_own_na, md_clr_na, md_shf_na, ne_eq, Nat.reduceEqDiff, not_false_eq_true] using a3
      · simpa only [jm_set_ne, jm_arr_ne, jm_set_eq, jm_arr_eq, rg_add_na, ra2, ra3, ra4, ra5, ra6, ra7, pk_us, pk_un, md_own_na, md_clr_na, md_shf_na, ne_eq, Nat.reduceEqDiff, not_false_eq_true] using a4
      · simp only [jm_set_ne, jm_arr_ne, jm_set_eq, jm_arr_eq, rg_add_na, ra2, ra3, ra4, ra5, ra6, ra7, pk_us, pk_un, md_own_na, md_clr_na, md_shf_na, ne_eq, Nat.reduceEqDiff, not_false_eq_true]
        refine ⟨fun k hk => ?_, fun k hk => by rw [up_if, up_if, a5.2 k hk]⟩
        by_cases e9 : k = j
        · subst e9
          rw [pk_us, pk_us]
          exact ⟨fun _ => ⟨m0 + 1, by omega, by omega, rfl, rfl⟩, fun q => absurd q ch⟩
        · rw [pk_un e9, pk_un e9]; exact a5.1 k hk
      · simpa only [jm_set_ne, jm_arr_ne, jm_set_eq, jm_arr_eq, rg_add_na, ra2, ra3, ra4, ra5, ra6, ra7, pk_us, pk_un, md_own_na, md_clr_na, md_shf_na, ne_eq, Nat.reduceEqDiff, not_false_eq_true] using a6
      · simpa only [jm_set_ne, jm_arr_ne, jm_set_eq, jm_arr_eq, rg_add_na, ra2, ra3, ra4, ra5, ra6, ra7, pk_us, pk_un, md_own_na, md_clr_na, md_shf_na, ne_eq, Nat.reduceEqDiff, not_false_eq_true] using a7
      · simpa only [jm_set_ne, jm_arr_ne, jm_set_eq, jm_arr_eq, rg_add_na, ra2, ra3, ra4, ra5, ra6, ra7, pk_us, pk_un, md_own_na, md_clr_na, md_shf_na, ne_eq, Nat.reduceEqDiff, not_false_eq_true] using a8
theorem p_sample {μ : jm_Mem} (R : Rel μ) {p k r r' : Int32} (o1 : oc_sample μ p k r) (o2 : om_sample μ p k r') : r = r' := by
  rcases o1 with ⟨c1, rfl⟩ | ⟨j, m, hj, rfl, ch, em, h8, o1⟩
  · rcases o2 with ⟨c2, rfl⟩ | ⟨i, m2, hi, rfl, ch2, -⟩
    · rfl
    · rw [(R.hr hi).1] at ch2; exact absurd c1 (nh_no hi ch2)
  · obtain ⟨m0, b1, b2, b3, b4⟩ := R.mm hj ch
    rcases o2 with ⟨c2, rfl⟩ | ⟨j2, m2, hi, e, ch2, em2, h82, o2⟩
    · exact absurd c2 (mh_no hj (by rw [(R.hr hj).1]; exact ch))
    · have := nj_eq hj hi e
      subst this
      have h1 := (nI_eq (by omega) (by omega)).mp (b3.symm.trans em)
      subst h1
      have h2 := (nI_eq (by omega) (by omega)).mp (b4.symm.trans em2)
      subst h2
      rcases o1 with ⟨i, hi1, rfl, rfl⟩ | ⟨c1, rfl⟩ <;> rcases o2 with ⟨i2, hi2, e2, rfl⟩ | ⟨c2, rfl⟩
      · have h3 := (nI_eq (by omega) (by omega)).mp e2
        subst h3
        exact (R.2.2.2.2.1.2 _ (by omega)).symm
      · exact (rg_depn b2 hi1 c2).elim
      · subst e2; exact (rg_depn b2 hi2 c1).elim
      · rfl
theorem p_strip {μ μ1 μ2 : jm_Mem} (R : Rel μ) {p c r r' : Int32} (o1 : oc_strip μ p c r μ1) (o2 : om_strip μ1 p c r' μ2) : r = r' ∧ Rel μ2 := by
  rcases o1 with ⟨c1, rfl, rfl⟩ | ⟨j, m, hj, rfl, ch, em, h8, o1⟩
  · rcases o2 with ⟨c2, rfl, rfl⟩ | ⟨i, m2, hi, rfl, ch2, -⟩
    · exact ⟨rfl, R⟩
    · rw [(R.hr hi).1] at ch2; exact absurd c1 (nh_no hi ch2)
  · obtain ⟨m0, b1, b2, b3, b4⟩ := R.mm hj ch
    have h1 := (nI_eq (by omega) (by omega)).mp (b3.symm.trans em)
    subst h1
    have hcf : ∀ t, t < m0 → μ 30 (8 * j + t) = μ 9 (8 * j + t) := fun t ht => R.2.2.2.2.1.2 _ (by omega)
    have e27 : ∀ v, jm_set μ 10 j v 27 = μ 27 := fun v => jm_set_ne 27 (by decide)
    have e29 : ∀ v, jm_set μ 10 j v 29 = μ 29 := fun v => jm_set_ne 29 (by decide)
    have e30 : ∀ v, jm_set μ 10 j v 30 = μ 30 := fun v => jm_set_ne 30 (by decide)
    rcases o1 with ⟨hb, rfl, rfl⟩ | ⟨k, hk, ek, hb, rfl, rfl⟩
    · rcases o2 with ⟨c2, rfl, rfl⟩ | ⟨j2, m2, hi, e, ch2, em2, h82, o2⟩
      · exact absurd c2 (mh_no hj (by rw [(R.hr hj).1]; exact ch))
      · have := nj_eq hj hi e
        subst this
        have h2 := (nI_eq (by omega) (by omega)).mp (b4.symm.trans em2)
        subst h2
        rcases o2 with ⟨hb2, rfl, rfl⟩ | ⟨i, hi2, ei, hb2, rfl, rfl⟩
        · exact ⟨rfl, R⟩
        · rw [hcf i hi2] at ei
          exact absurd (by rw [show 8 * j + m0 - 1 - (m0 - 1 - i) = 8 * j + i by omega]; exact ei) (hb (m0 - 1 - i) (by omega))
    · rcases o2 with ⟨c2, rfl, rfl⟩ | ⟨j2, m2, hi, e, ch2, em2, h82, o2⟩
      · exact absurd c2 (mh_no hj (by rw [e27, (R.hr hj).1]; exact ch))
      · have := nj_eq hj hi e
        subst this
        rw [e29] at em2
        have h2 := (nI_eq (by omega) (by omega)).mp (b4.symm.trans em2)
        subst h2
        rw [e30] at o2
        rcases o2 with ⟨hb2, rfl, rfl⟩ | ⟨i, hi2, ei, hb2, rfl, rfl⟩
        · exact absurd (by rw [hcf (m0 - 1 - k) (by omega), show 8 * j + (m0 - 1 - k) = 8 * j + m0 - 1 - k by omega]; exact ek) (hb2 (m0 - 1 - k) (by omega))
        · have hik : i = m0 - 1 - k := by
            rcases Nat.lt_trichotomy i (m0 - 1 - k) with h | h | h
            · exact absurd (by rw [hcf (m0 - 1 - k) (by omega), show 8 * j + (m0 - 1 - k) = 8 * j + m0 - 1 - k by omega]; exact ek) (hb2 (m0 - 1 - k) h (by omega))
            · exact h
            · rw [hcf i hi2] at ei
              exact absurd (by rw [show 8 * j + m0 - 1 - (m0 - 1 - i) = 8 * j + i by omega]; exact ei) (hb (m0 - 1 - i) (by omega))
          subst hik
          refine ⟨by rw [show m0 - 1 - (m0 - 1 - k) = k by omega], ?_⟩
          rw [b3, pk_sub (by omega)]
          obtain ⟨a1, a2, a3, a4, a5, a6, a7, a8⟩ := R
          refine ⟨?_, ?_, ?_, ?_, ?_, ?_, ?_, ?_⟩
          · simpa only [jm_set_ne, jm_arr_ne, jm_set_eq, jm_arr_eq, rg_add_na, ra2, ra3, ra4, ra5, ra6, ra7, pk_us, pk_un, md_own_na, md_clr_na, md_shf_na, ne_eq, Nat.reduceEqDiff, not_false_eq_true] using a1
          · simpa only [jm_set_ne, jm_arr_ne, jm_set_eq, jm_arr_eq, rg_add_na, ra2, ra3, ra4, ra5, ra6, ra7, pk_us, pk_un, md_own_na, md_clr_na, md_shf_na, ne_eq, Nat.reduceEqDiff, not_false_eq_true] using a2
          · simpa only [jm_set_ne, jm_arr_ne, jm_set_eq, jm_arr_eq, rg_add_na, ra2, ra3, ra4, ra5, ra6, ra7, pk_us, pk_un, md_own_na, md_clr_na, md_shf_na, ne_eq, Nat.reduceEqDiff, not_false_eq_true] using a3
          · simpa only [jm_set_ne, jm_arr_ne, jm_set_eq, jm_arr_eq, rg_add_na, ra2, ra3, ra4, ra5, ra6, ra7, pk_us, pk_un, md_own_na, md_clr_na, md_shf_na, ne_eq, Nat.reduceEqDiff, not_false_eq_true] using a4
          · simp only [jm_set_ne, jm_arr_ne, jm_set_eq, jm_arr_eq, rg_add_na, ra2, ra3, ra4, ra5, ra6, ra7, pk_us, pk_un, md_own_na, md_clr_na, md_shf_na, ne_eq, Nat.reduceEqDiff, not_false_eq_true]
            refine ⟨fun t ht => ?_, a5.2⟩
            by_cases e9 : t = j
            · subst e9
              rw [pk_us, pk_us]
              exact ⟨fun _ => ⟨m0 - k, by omega, by omega, rfl, by rw [show m0 - 1 - k + 1 = m0 - k by omega]⟩, fun q => absurd q ch⟩
            · rw [pk_un e9, pk_un e9]; exact a5.1 t ht
          · simpa only [jm_set_ne, jm_arr_ne, jm_set_eq, jm_arr_eq, rg_add_na, ra2, ra3, ra4, ra5, ra6, ra7, pk_us, pk_un, md_own_na, md_clr_na, md_shf_na, ne_eq, Nat.reduceEqDiff, not_false_eq_true] using a6
          · simpa only [jm_set_ne, jm_arr_ne, jm_set_eq, jm_arr_eq, rg_add_na, ra2, ra3, ra4, ra5, ra6, ra7, pk_us, pk_un, md_own_na, md_clr_na, md_shf_na, ne_eq, Nat.reduceEqDiff, not_false_eq_true] using a7
          · simpa only [jm_set_ne, jm_arr_ne, jm_set_eq, jm_arr_eq, rg_add_na, ra2, ra3, ra4, ra5, ra6, ra7, pk_us, pk_un, md_own_na, md_clr_na, md_shf_na, ne_eq, Nat.reduceEqDiff, not_false_eq_true] using a8
theorem nl_no {μ : jm_Mem} {j i : Nat} (hj : j < 12) (hi : i < 4) (ch : ¬ μ 2 j ≤ 0) : ¬ rg_nl μ (nI j) (nI i) := fun h => h.elim (nh_no hj ch) (fun h => h.elim (fun c => nI_pos (by omega) c) (fun c => absurd ((nI_leI (by omega) (by omega)).mp c) (by omega)))
theorem ml_no {μ : jm_Mem} {j i : Nat} (hj : j < 12) (hi : i < 4) (ch : ¬ μ 27 j ≤ 0) : ¬ md_nl μ (nI j) (nI i) := fun h => h.elim (mh_no hj ch) (fun h => h.elim (fun c => nI_pos (by omega) c) (fun c => absurd ((nI_leI (by omega) (by omega)).mp c) (by omega)))
theorem n4_eq {i j : Nat} (hi : i < 4) (hj : j < 4) (e : nI i = nI j) : i = j := (nI_eq (by omega) (by omega)).mp e
theorem Rel.mk {μ : jm_Mem} (R : Rel μ) {j i : Nat} (hj : j < 12) (hi : i < 4) (ch : ¬ μ 2 j ≤ 0) : μ 31 (4 * j + i) = μ 12 (4 * j + i) := by
  obtain ⟨m, -, -, -, m4⟩ := R.2.2.2.2.2.1
  exact m4 (4 * j + i) (by omega) (by rw [show (4 * j + i) / 4 = j by omega]; exact ch)
theorem p_mark {μ : jm_Mem} (R : Rel μ) {p g r r' : Int32} (o1 : oc_mark μ p g r) (o2 : om_mark μ p g r') : r = r' := by
  rcases o1 with ⟨c1, rfl⟩ | ⟨j, i, hj, hi, rfl, rfl, ch, rfl⟩ <;> rcases o2 with ⟨c2, rfl⟩ | ⟨j2, i2, hj2, hi2, e, e2, ch2, rfl⟩
  · rfl
  · subst e e2; rw [(R.hr hj2).1] at ch2; exact absurd c1 (nl_no hj2 hi2 ch2)
  · exact absurd c2 (ml_no hj hi (by rw [(R.hr hj).1]; exact ch))
  · have := nj_eq hj hj2 e
    subst this
    have := n4_eq hi hi2 e2
    subst this
    exact (R.mk hj hi ch).symm
set_option maxHeartbeats 1000000 in
theorem p_swap {μ μ1 μ2 : jm_Mem} (R : Rel μ) {p g q o r r' : Int32} (o1 : oc_swap μ p g q o r μ1) (o2 : om_swap μ1 p g q o r' μ2) : r = r' ∧ Rel μ2 := by
  rcases o1 with ⟨c1, rfl, rfl⟩ | ⟨j, i, j2, i2, hj, hi, hj2, hi2, rfl, rfl, rfl, rfl, ch, ch2, o1⟩
  · rcases o2 with ⟨c2, rfl, rfl⟩ | ⟨j, i, j2, i2, hj, hi, hj2, hi2, rfl, rfl, rfl, rfl, ch, ch2, -⟩
    · exact ⟨rfl, R⟩
    · rw [(R.hr hj).1] at ch
      rw [(R.hr hj2).1] at ch2
      exact (c1.elim (nl_no hj hi ch) (nl_no hj2 hi2 ch2)).elim
  · have hn : ∀ u : jm_Mem, u 27 = μ 27 → ¬ (md_nl u (nI j) (nI i) ∨ md_nl u (nI j2) (nI i2)) := fun u hu h => h.elim (ml_no hj hi (by rw [hu, (R.hr hj).1]; exact ch)) (ml_no hj2 hi2 (by rw [hu, (R.hr hj2).1]; exact ch2))
    rcases o1 with ⟨e1, e2, rfl, rfl⟩ | ⟨ne, rfl, rfl⟩
    · rcases o2 with ⟨c2, rfl, rfl⟩ | ⟨a, b, a2, b2, ha, hb, ha2, hb2, f1, f2, f3, f4, -, -, (⟨-, -, rfl, rfl⟩ | ⟨ne, rfl, rfl⟩)⟩
      · exact absurd c2 (hn _ rfl)
      · exact ⟨rfl, R⟩
      · exact absurd ⟨by rw [← nj_eq hj ha f1, ← nj_eq hj2 ha2 f3]; exact e1, by rw [← n4_eq hi hb f2, ← n4_eq hi2 hb2 f4]; exact e2⟩ ne
    · have e27 : jm_set (jm_set μ 12 (4 * j + i) (μ 12 (4 * j2 + i2))) 12 (4 * j2 + i2) (μ 12 (4 * j + i)) 27 = μ 27 := by simp only [jm_set_ne, ne_eq, Nat.reduceEqDiff, not_false_eq_true]
      have e31 : jm_set (jm_set μ 12 (4 * j + i) (μ 12 (4 * j2 + i2))) 12 (4 * j2 + i2) (μ 12 (4 * j + i)) 31 = μ 31 := by simp only [jm_set_ne, ne_eq, Nat.reduceEqDiff, not_false_eq_true]
      rcases o2 with ⟨c2, rfl, rfl⟩ | ⟨a, b, a2, b2, ha, hb, ha2, hb2, f1, f2, f3, f4, -, -, (⟨g1, g2, rfl, rfl⟩ | ⟨-, rfl, rfl⟩)⟩
      · exact absurd c2 (hn _ e27)
      · exact absurd ⟨by rw [nj_eq hj ha f1, nj_eq hj2 ha2 f3]; exact g1, by rw [n4_eq hi hb f2, n4_eq hi2 hb2 f4]; exact g2⟩ ne
      · have := nj_eq hj ha f1
        subst this
        have := nj_eq hj2 ha2 f3
        subst this
        have := n4_eq hi hb f2
        subst this
        have := n4_eq hi2 hb2 f4
        subst this
        have x1 := R.mk hj hi ch
        have x2 := R.mk hj2 hi2 ch2
        rw [e31, x1, x2]
        refine ⟨rfl, ?_⟩
        have hne : 4 * j + i ≠ 4 * j2 + i2 := fun h => ne ⟨by omega, by omega⟩
        obtain ⟨a1, a2, a3, a4, a5, a6, a7, a8⟩ := R
        refine ⟨?_, ?_, ?_, ?_, ?_, ?_, ?_, ?_⟩
        · simpa only [jm_set_ne, jm_arr_ne, jm_set_eq, jm_arr_eq, rg_add_na, ra2, ra3, ra4, ra5, ra6, ra7, pk_us, pk_un, md_own_na, md_clr_na, md_shf_na, ne_eq, Nat.reduceEqDiff, not_false_eq_true] using a1
        · simpa only [jm_set_ne, jm_arr_ne, jm_set_eq, jm_arr_eq, rg_add_na, ra2, ra3, ra4, ra5, ra6, ra7, pk_us, pk_un, md_own_na, md_clr_na, md_shf_na, ne_eq, Nat.reduceEqDiff, not_false_eq_true] using a2
        · simpa only [jm_set_ne, jm_arr_ne, jm_set_eq, jm_arr_eq, rg_add_na, ra2, ra3, ra4, ra5, ra6, ra7, pk_us, pk_un, md_own_na, md_clr_na, md_shf_na, ne_eq, Nat.reduceEqDiff, not_false_eq_true] using a3
        · simpa only [jm_set_ne, jm_arr_ne, jm_set_eq, jm_arr_eq, rg_add_na, ra2, ra3, ra4, ra5, ra6, ra7, pk_us, pk_un, md_own_na, md_clr_na, md_shf_na, ne_eq, Nat.reduceEqDiff, not_false_eq_true] using a4
        · simpa only [jm_set_ne, jm_arr_ne, jm_set_eq, jm_arr_eq, rg_add_na, ra2, ra3, ra4, ra5, ra6, ra7, pk_us, pk_un, md_own_na, md_clr_na, md_shf_na, ne_eq, Nat.reduceEqDiff, not_false_eq_true] using a5
        · simp only [jm_set_ne, jm_arr_ne, jm_set_eq, jm_arr_eq, rg_add_na, ra2, ra3, ra4, ra5, ra6, ra7, pk_us, pk_un, md_own_na, md_clr_na, md_shf_na, ne_eq, Nat.reduceEqDiff, not_false_eq_true]
          obtain ⟨m, m1, m2, m3, m4⟩ := a6
          refine ⟨fun k => if k = 4 * j2 + i2 then m (4 * j + i) else if k = 4 * j + i then m (4 * j2 + i2) else m k, fun k hk => ?_, fun a b ha hb e => ?_, fun k hk q => ?_, fun k hk q => ?_⟩
          · rw [up_if, up_if]
            by_cases k1 : k = 4 * j2 + i2
            · simp only [if_pos k1]; exact m1 _ (by omega)
            · simp only [if_neg k1]
              by_cases k2 : k = 4 * j + i
              · simp only [if_pos k2]; exact m1 _ (by omega)
              · simp only [if_neg k2]; exact m1 k hk
          · dsimp only at e
            by_cases a1 : a = 4 * j2 + i2 <;> by_cases b1 : b = 4 * j2 + i2 <;> by_cases a2 : a = 4 * j + i <;> by_cases b2 : b = 4 * j + i <;> simp only [a1, b1, a2, b2, if_true, if_false, hne, Ne.symm hne] at e <;> first | omega | (have := m2 _ _ (by omega) (by omega) e; omega)
          · have k1 : k ≠ 4 * j2 + i2 := fun h => ch2 (by rw [h, show (4 * j2 + i2) / 4 = j2 by omega] at q; exact q)
            have k2 : k ≠ 4 * j + i := fun h => ch (by rw [h, show (4 * j + i) / 4 = j by omega] at q; exact q)
            simp only [if_neg k1, if_neg k2]; exact m3 k hk q
          · rw [up_if, up_if, up_if, up_if, m4 k hk q]
        · simpa only [jm_set_ne, jm_arr_ne, jm_set_eq, jm_arr_eq, rg_add_na, ra2, ra3, ra4, ra5, ra6, ra7, pk_us, pk_un, md_own_na, md_clr_na, md_shf_na, ne_eq, Nat.reduceEqDiff, not_false_eq_true] using a7
        · simpa only [jm_set_ne, jm_arr_ne, jm_set_eq, jm_arr_eq, rg_add_na, ra2, ra3, ra4, ra5, ra6, ra7, pk_us, pk_un, md_own_na, md_clr_na, md_shf_na, ne_eq, Nat.reduceEqDiff, not_false_eq_true] using a8
theorem p_find {μ : jm_Mem} (R : Rel μ) {p g r r' : Int32} (o1 : oc_find μ p g r) (o2 : om_find μ p g r') : r = r' := by
  obtain ⟨m, m1, m2, m3, m4⟩ := id R.2.2.2.2.2.1
  have hq : ∀ {k : Nat}, k < 48 → (¬ μ 27 (k / 4) ≤ 0 ↔ ¬ μ 2 (k / 4) ≤ 0) := fun hk => by rw [(R.hr (show _ / 4 < 12 by omega)).1]
  rcases o1 with ⟨c1, rfl⟩ | ⟨j, i, hj, hi, rfl, rfl, o1⟩
  · rcases o2 with ⟨c2, rfl⟩ | ⟨j, i, hj, hi, rfl, rfl, -⟩
    · rfl
    · exact (c1.elim (np_no hj) (fun h => h.elim (fun c => nI_pos (by omega) c) (fun c => absurd ((nI_leI (by omega) (by omega)).mp c) (by omega)))).elim
  · rcases o2 with ⟨c2, rfl⟩ | ⟨j2, i2, hj2, hi2, e, e2, o2⟩
    · exact (c2.elim (np_no hj) (fun h => h.elim (fun c => nI_pos (by omega) c) (fun c => absurd ((nI_leI (by omega) (by omega)).mp c) (by omega)))).elim
    · have := nj_eq hj hj2 e
      subst this
      have := n4_eq hi hi2 e2
      subst this
      -- a leg that bears this mark stands on a horse iff place j has one
      have key : ∀ k, k < 48 → μ 12 k = nI (4 * j + i) → (¬ μ 2 (k / 4) ≤ 0 ↔ ¬ μ 2 j ≤ 0) := by
        intro k hk ek
        rw [(m1 k hk).2] at ek
        have ek := (nI_eq (by have := (m1 k hk).1; omega) (by omega)).mp ek
        constructor
        · intro h h2
          have h3 := m3 (4 * j + i) (by omega) (by rw [show (4 * j + i) / 4 = j by omega]; exact h2)
          have h4 := m2 k (4 * j + i) hk (by omega) (by rw [ek, h3])
          rw [h4, show (4 * j + i) / 4 = j by omega] at h
          exact h h2
        · intro h h2
          have h3 := m3 k hk h2
          rw [ek] at h3
          rw [← h3, show (4 * j + i) / 4 = j by omega] at h2
          exact h h2
      have mk : ∀ k, k < 48 → ((¬ μ 27 (k / 4) ≤ 0 ∧ μ 31 k = nI (4 * j + i)) ↔ (¬ μ 2 j ≤ 0 ∧ μ 12 k = nI (4 * j + i))) := by
        intro k hk
        constructor
        · rintro ⟨h1, h2⟩
          have h1 := (hq hk).mp h1
          rw [m4 k hk h1] at h2
          exact ⟨(key k hk h2).mp h1, h2⟩
        · rintro ⟨h1, h2⟩
          have h3 := (key k hk h2).mpr h1
          exact ⟨(hq hk).mpr h3, by rw [m4 k hk h3]; exact h2⟩
      rcases o1 with ⟨ch, rfl⟩ | ⟨ch, (⟨hn, rfl⟩ | ⟨k, hk, ek, hb, rfl⟩)⟩
      · rcases o2 with ⟨-, rfl⟩ | ⟨k, hk, h2, -, rfl⟩
        · rfl
        · exact absurd ch ((mk k hk).mp h2).1
      · rcases o2 with ⟨-, rfl⟩ | ⟨k, hk, h2, -, rfl⟩
        · rfl
        · exact absurd ((mk k hk).mp h2).2 (hn k hk)
      · rcases o2 with ⟨hn, rfl⟩ | ⟨k2, hk2, h2, hb2, rfl⟩
        · exact absurd ((mk k hk).mpr ⟨ch, ek⟩) (hn k hk)
        · rcases Nat.lt_trichotomy k k2 with h | h | h
          · exact absurd ((mk k hk).mpr ⟨ch, ek⟩) (hb2 k h)
          · rw [h]
          · exact absurd ((mk k2 hk2).mp h2).2 (hb k2 h)
theorem p_count {μ : jm_Mem} (R : Rel μ) {x r r' : Int32} (o1 : oc_count μ x r) (o2 : om_count μ x r') : r = r' := by
  have hx : ∀ {i : Nat}, i < 8 → ¬ (nI i < 0 ∨ nI 8 ≤ nI i) := fun hi h => h.elim (fun c => nI_pos (by omega) c) (fun c => absurd ((nI_leI (by omega) (by omega)).mp c) (by omega))
  obtain ⟨nf, f1, f2, f3, -⟩ := id R.2.2.2.2.2.2.1
  obtain ⟨nw, g1, g2, g3, -⟩ := id R.2.2.2.2.2.2.2
  have v0 : nI (rg_cnt (μ 2) 12) = nI (rg_cnt (μ 27) 12) := by rw [rg_cnt_congr 12 (fun k hk => (R.hr hk).1)]
  have v1 : nI (rg_cnt (μ 3) 12) = nI (md_rc μ 12) := by rw [md_rc_eq R.1 R.2.1 12 (Nat.le_refl _)]
  have v6 := (md_sum_eq R.1 R.2.1).symm
  rcases o1 with ⟨e1, rfl⟩ | ⟨e1, rfl⟩ | ⟨e1, rfl⟩ | ⟨e1, rfl⟩ | ⟨e1, rfl⟩ | ⟨e1, rfl⟩ | ⟨e1, rfl⟩ | ⟨e1, rfl⟩ | ⟨e1, rfl⟩
  all_goals
    rcases o2 with ⟨e2, rfl⟩ | ⟨e2, rfl⟩ | ⟨e2, rfl⟩ | ⟨e2, rfl⟩ | ⟨e2, rfl⟩ | ⟨e2, rfl⟩ | ⟨e2, rfl⟩ | ⟨e2, rfl⟩ | ⟨e2, rfl⟩
  all_goals first | (exact absurd (e1.symm.trans e2) (by decide)) | (subst e1; exact absurd e2 (hx (by decide))) | (subst e2; exact absurd e1 (hx (by decide))) | exact v0 | exact v1 | (rw [g2, g3]; done) | (rw [f2, f3]; done) | exact R.2.2.2.1.2.2.1.1.symm | exact R.2.2.2.1.2.2.2.symm | exact v6 | exact R.2.2.2.1.1.1.symm | rfl
