/-! operations, one by one: class and model answer alike, and the relation goes on -/
theorem ra4 {μ : jm_Mem} {j : Nat} {w : Int32} : rg_add μ j w 1 4 = μ 1 4 + w * rg_ac j := by simp only [rg_add, jm_set_eq, pk_us, pk_un, ne_eq, Nat.reduceEqDiff, not_false_eq_true]
theorem ra5 {μ : jm_Mem} {j : Nat} {w : Int32} : rg_add μ j w 1 5 = μ 1 5 + w * rg_al j := by simp only [rg_add, jm_set_eq, pk_us, pk_un, ne_eq, Nat.reduceEqDiff, not_false_eq_true]
theorem ra6 {μ : jm_Mem} {j : Nat} {w : Int32} : rg_add μ j w 1 6 = μ 1 6 + rg_lift j w := by simp only [rg_add, jm_set_eq, pk_us, pk_un, ne_eq, Nat.reduceEqDiff, not_false_eq_true]
theorem ra7 {μ : jm_Mem} {j : Nat} {w : Int32} : rg_add μ j w 1 7 = μ 1 7 + w := by simp only [rg_add, jm_set_eq, pk_us, pk_un, ne_eq, Nat.reduceEqDiff, not_false_eq_true]
theorem ra2 {μ : jm_Mem} {j : Nat} {w : Int32} : rg_add μ j w 1 2 = μ 1 2 := by simp only [rg_add, jm_set_eq, pk_us, pk_un, ne_eq, Nat.reduceEqDiff, not_false_eq_true]
theorem ra3 {μ : jm_Mem} {j : Nat} {w : Int32} : rg_add μ j w 1 3 = μ 1 3 := by simp only [rg_add, jm_set_eq, pk_us, pk_un, ne_eq, Nat.reduceEqDiff, not_false_eq_true]
theorem np_no {j : Nat} (hj : j < 12) : ¬ rg_np (nI j) := fun h => h.elim (fun c => nI_pos (by omega) c) (fun c => absurd ((nI_leI (by omega) (by omega)).mp c) (by omega))
theorem nj_eq {i j : Nat} (hi : i < 12) (hj : j < 12) (e : nI i = nI j) : i = j := (nI_eq (by omega) (by omega)).mp e
theorem wi_no {v lo hi : Int32} (h : rg_wi v lo hi) : ¬ rg_nw v lo hi := fun q => q.elim h.1 h.2
theorem nh_no {μ : jm_Mem} {j : Nat} (hj : j < 12) (ch : ¬ μ 2 j ≤ 0) : ¬ rg_nh μ (nI j) := fun h => h.elim (np_no hj) (fun ⟨i, hi, e, c⟩ => by rw [← nj_eq hj hi e] at c; exact ch c)
theorem mh_no {μ : jm_Mem} {j : Nat} (hj : j < 12) (ch : ¬ μ 27 j ≤ 0) : ¬ md_nh μ (nI j) := fun h => h.elim (np_no hj) (fun ⟨i, hi, e, c⟩ => by rw [← nj_eq hj hi e] at c; exact ch c)
theorem Rel.hr {μ : jm_Mem} (R : Rel μ) {j : Nat} (hj : j < 12) : μ 27 j = μ 2 j ∧ μ 28 j = μ 3 j := ⟨(R.2.1 j hj).2.2.1, (R.2.1 j hj).2.2.2⟩
theorem Rel.law {μ : jm_Mem} (R : Rel μ) : md_law μ ↔ rg_law μ (rg_sh (μ 1 4) (μ 1 5)) (μ 1 6) := by
  have hb := rs_bd (f := fun j => μ 2 j + μ 3 j) 12 (Nat.le_refl _) (fun k hk => by
    have h1 := R.1.1 k hk
    have h2 := R.1.2.1 k hk
    rw [ti_add (by omega) (by omega)]; omega)
  rw [← R.1.2.2.2.2.2.1] at hb
  unfold md_law rg_law
  rw [md_sh_eq R.1 R.2.1, md_rs_eq R.1 R.2.1, R.2.2.1.1, R.2.2.1.2, abs_iff (by omega)]
/-- a rider put for a try: the relation holds with the sums moved -/
theorem Rel.seat {μ : jm_Mem} (R : Rel μ) {j : Nat} {w : Int32} (hj : j < 12) (ch : ¬ μ 2 j ≤ 0) (cr : μ 3 j = 0) (h1 : 1 ≤ w.toInt) (h2 : w.toInt ≤ 150) : Rel (jm_set (rg_add (jm_set μ 3 j w) j w) 28 j w) := by
  obtain ⟨a1, a2, a3, a4, a5, a6, a7, a8⟩ := R
  refine ⟨?_, ?_, ?_, ?_, ?_, ?_, ?_, ?_⟩
  · simp only [jm_set_ne, rg_add_na, ra4, ra5, ra6, ra7, jm_set_eq, ne_eq, Nat.reduceEqDiff, not_false_eq_true]
    exact RR_add a1 hj (fun k hk e => ⟨rfl, pk_un e⟩) (by rw [pk_us, cr]; grind) (a1.1 j hj) (by rw [pk_us]; omega) (fun c => absurd c ch)
  · simp only [jm_set_ne, rg_add_na, jm_set_eq, ne_eq, Nat.reduceEqDiff, not_false_eq_true]
    intro k hk
    obtain ⟨q1, q2, q3, q4⟩ := a2 k hk
    refine ⟨q1, q2, q3, ?_⟩
    unfold upd
    split
    · rfl
    · exact q4
  · simpa only [jm_set_ne, rg_add_na, ra2, ra3, ne_eq, Nat.reduceEqDiff, not_false_eq_true] using a3
  · simpa only [jm_set_ne, rg_add_na, ne_eq, Nat.reduceEqDiff, not_false_eq_true] using a4
  · simpa only [jm_set_ne, rg_add_na, ne_eq, Nat.reduceEqDiff, not_false_eq_true] using a5
  · simpa only [jm_set_ne, rg_add_na, ne_eq, Nat.reduceEqDiff, not_false_eq_true] using a6
  · simpa only [jm_set_ne, rg_add_na, ne_eq, Nat.reduceEqDiff, not_false_eq_true] using a7
  · simpa only [jm_set_ne, rg_add_na, ne_eq, Nat.reduceEqDiff, not_false_eq_true] using a8
theorem Rel.rise {μ : jm_Mem} (R : Rel μ) {j : Nat} (hj : j < 12) : Rel (jm_set (rg_add (jm_set μ 3 j 0) j (0 - μ 3 j)) 28 j 0) := by
  obtain ⟨a1, a2, a3, a4, a5, a6, a7, a8⟩ := R
  have z : (0 : Int32).toInt = 0 := by decide
  refine ⟨?_, ?_, ?_, ?_, ?_, ?_, ?_, ?_⟩
  · simp only [jm_set_ne, rg_add_na, ra4, ra5, ra6, ra7, jm_set_eq, ne_eq, Nat.reduceEqDiff, not_false_eq_true]
    exact RR_add a1 hj (fun k hk e => ⟨rfl, pk_un e⟩) (by rw [pk_us]; grind) (a1.1 j hj) (by rw [pk_us]; omega) (fun c => pk_us)
  · simp only [jm_set_ne, rg_add_na, jm_set_eq, ne_eq, Nat.reduceEqDiff, not_false_eq_true]
    intro k hk
    obtain ⟨q1, q2, q3, q4⟩ := a2 k hk
    refine ⟨q1, q2, q3, ?_⟩
    unfold upd
    split
    · rfl
    · exact q4
  · simpa only [jm_set_ne, rg_add_na, ra2, ra3, ne_eq, Nat.reduceEqDiff, not_false_eq_true] using a3
  · simpa only [jm_set_ne, rg_add_na, ne_eq, Nat.reduceEqDiff, not_false_eq_true] using a4
  · simpa only [jm_set_ne, rg_add_na, ne_eq, Nat.reduceEqDiff, not_false_eq_true] using a5
  · simpa only [jm_set_ne, rg_add_na, ne_eq, Nat.reduceEqDiff, not_false_eq_true] using a6
  · simpa only [jm_set_ne, rg_add_na, ne_eq, Nat.reduceEqDiff, not_false_eq_true] using a7
  · simpa only [jm_set_ne, rg_add_na, ne_eq, Nat.reduceEqDiff, not_false_eq_true] using a8
/-- what the model computes with a rider tried is what the class computes -/
theorem Rel.shw {μ : jm_Mem} (R : Rel μ) {j : Nat} {w : Int32} (hj : j < 12) (ch : ¬ μ 2 j ≤ 0) (cr : μ 3 j = 0) (h1 : 1 ≤ w.toInt) (h2 : w.toInt ≤ 150) : md_sh (jm_set μ 28 j w) = rg_shw μ j w ∧ (md_law (jm_set μ 28 j w) ↔ rg_law μ (rg_shw μ j w) (μ 1 6 + rg_lift j w)) := by
  have R' := R.seat hj ch cr h1 h2
  have e : ∀ q, q = 24 ∨ q = 25 ∨ q = 26 ∨ q = 27 ∨ q = 28 → jm_set (rg_add (jm_set μ 3 j w) j w) 28 j w q = jm_set μ 28 j w q := by
    intro q hq
    rcases hq with rfl | rfl | rfl | rfl | rfl <;> simp only [jm_set_ne, rg_add_na, jm_set_eq, ne_eq, Nat.reduceEqDiff, not_false_eq_true]
  have s1 : md_sh (jm_set μ 28 j w) = md_sh (jm_set (rg_add (jm_set μ 3 j w) j w) 28 j w) := (md_sh_c (e 25 (by simp)) (e 26 (by simp)) (e 27 (by simp)) (e 28 (by simp))).symm
  have s2 : md_rs (jm_set μ 28 j w) 12 = md_rs (jm_set (rg_add (jm_set μ 3 j w) j w) 28 j w) 12 := by
    rw [md_rs_S, md_rs_S]
    refine (rg_S_congr 12 (fun k _ => ?_) (fun _ _ => rfl)).symm
    simp only [md_ld, e 27 (by simp), e 28 (by simp)]
  have l1 := R'.law
  have s3 := md_sh_eq R'.1 R'.2.1
  have s4 := md_rs_eq R'.1 R'.2.1
  have x4 : jm_set (rg_add (jm_set μ 3 j w) j w) 28 j w 1 4 = μ 1 4 + w * rg_ac j := by simp only [jm_set_ne, ra4, ne_eq, Nat.reduceEqDiff, not_false_eq_true]
  have x5 : jm_set (rg_add (jm_set μ 3 j w) j w) 28 j w 1 5 = μ 1 5 + w * rg_al j := by simp only [jm_set_ne, ra5, ne_eq, Nat.reduceEqDiff, not_false_eq_true]
  have x6 : jm_set (rg_add (jm_set μ 3 j w) j w) 28 j w 1 6 = μ 1 6 + rg_lift j w := by simp only [jm_set_ne, ra6, ne_eq, Nat.reduceEqDiff, not_false_eq_true]
  have x2 : jm_set (rg_add (jm_set μ 3 j w) j w) 28 j w 1 2 = μ 1 2 := by simp only [jm_set_ne, ra2, ne_eq, Nat.reduceEqDiff, not_false_eq_true]
  have x3 : jm_set (rg_add (jm_set μ 3 j w) j w) 28 j w 1 3 = μ 1 3 := by simp only [jm_set_ne, ra3, ne_eq, Nat.reduceEqDiff, not_false_eq_true]
  rw [x4, x5] at s3 l1
  refine ⟨by rw [s1, s3]; rfl, ?_⟩
  have h24 := e 24 (by simp)
  unfold md_law at l1 ⊢
  rw [s1, s2, ← h24]
  rw [x6] at l1
  refine l1.trans ?_
  unfold rg_law
  rw [x2, x3]; rfl
theorem wi_w {w : Int32} (h : rg_wi w 1 (nI 150)) : 1 ≤ w.toInt ∧ w.toInt ≤ 150 := by
  obtain ⟨h1, h2⟩ := h
  rw [Int32.lt_iff_toInt_lt] at h1 h2
  rw [nI_toInt (by decide)] at h2
  have : (1 : Int32).toInt = 1 := by decide
  omega
theorem Rel.bst {μ : jm_Mem} (R : Rel μ) {w : Int32} (h1 : 1 ≤ w.toInt) (h2 : w.toInt ≤ 150) : ∀ n, n ≤ 12 → rg_bst (md_okw μ w) (fun j => md_sh (jm_set μ 28 j w)) n = rg_bst (rg_okw μ w) (fun j => rg_shw μ j w) n
  | 0, _ => rfl
  | n + 1, hn => by
    have ih := R.bst h1 h2 n (by omega)
    have hr := R.hr (show n < 12 by omega)
    simp only [rg_bst]
    rw [ih]
    have hz := pos_iff (R.1.2.1 n (by omega)).1
    by_cases c : ¬ μ 2 n ≤ 0 ∧ μ 3 n = 0
    · obtain ⟨s1, s2⟩ := R.shw (j := n) (by omega) c.1 c.2 h1 h2
      have : md_okw μ w n = rg_okw μ w n := by
        simp only [md_okw, rg_okw]
        rw [hr.1, hr.2]
        exact decide_eq_decide.mpr ⟨fun q => ⟨q.1, hz.mpr q.2.1, s2.mp q.2.2⟩, fun q => ⟨q.1, hz.mp q.2.1, s2.mpr q.2.2⟩⟩
      rw [this, s1]
    · have e1 : md_okw μ w n = false := decide_eq_false (fun q => c ⟨by rw [← hr.1]; exact q.1, by rw [← hr.2]; exact q.2.1⟩)
      have e2 : rg_okw μ w n = false := decide_eq_false (fun q => c ⟨q.1, hz.mp q.2.1⟩)
      rw [e1, e2, if_neg (fun q => Bool.noConfusion q.1), if_neg (fun q => Bool.noConfusion q.1)]
theorem p_shake {μ : jm_Mem} (R : Rel μ) : rg_sh (μ 1 4) (μ 1 5) = md_sh μ := (md_sh_eq R.1 R.2.1).symm
theorem p_rising {μ : jm_Mem} (R : Rel μ) : μ 1 6 = md_rs μ 12 := (md_rs_eq R.1 R.2.1).symm
theorem p_may {μ : jm_Mem} (R : Rel μ) {r r' : Int32} (o1 : oc_may μ r) (o2 : om_may μ r') : r = r' := by
  rcases o1 with ⟨c1, rfl⟩ | ⟨c1, rfl⟩ <;> rcases o2 with ⟨c2, rfl⟩ | ⟨c2, rfl⟩
  · rfl
  · exact absurd (R.law.mpr c1) c2
  · exact absurd (R.law.mp c2) c1
  · rfl
theorem p_best {μ : jm_Mem} (R : Rel μ) {w r r' : Int32} (o1 : oc_best μ w r) (o2 : om_best μ w r') : r = r' := by
  rcases o1 with ⟨c1, rfl⟩ | ⟨c1, rfl⟩ <;> rcases o2 with ⟨c2, rfl⟩ | ⟨c2, rfl⟩
  · rfl
  · exact absurd c1 (wi_no c2)
  · exact absurd c2 (wi_no c1)
  · obtain ⟨h1, h2⟩ := wi_w c1
    rw [R.bst h1 h2 12 (Nat.le_refl _)]
theorem p_rider {μ : jm_Mem} (R : Rel μ) {p r r' : Int32} (o1 : oc_rider μ p r) (o2 : om_rider μ p r') : r = r' := by
  rcases o1 with ⟨c1, rfl⟩ | ⟨j, hj, rfl, rfl⟩ <;> rcases o2 with ⟨c2, rfl⟩ | ⟨i, hi, e, rfl⟩
  · rfl
  · subst e; exact absurd c1 (np_no hi)
  · exact absurd c2 (np_no hj)
  · have := nj_eq hj hi e
    subst this
    rw [(R.hr hj).1, (R.hr hj).2]
    split
    · next c => exact R.1.2.2.1 j hj c
    · rfl
theorem p_rise {μ μ1 μ2 : jm_Mem} (R : Rel μ) {p r r' : Int32} (o1 : oc_rise μ p r μ1) (o2 : om_rise μ1 p r' μ2) : r = r' ∧ Rel μ2 := by
  rcases o1 with ⟨c1, rfl, rfl⟩ | ⟨j, hj, rfl, ch, (⟨cr, rfl, rfl⟩ | ⟨cr, rfl, rfl⟩)⟩
  · rcases o2 with ⟨c2, rfl, rfl⟩ | ⟨i, hi, rfl, ch2, -⟩
    · exact ⟨rfl, R⟩
    · rw [(R.hr hi).1] at ch2; exact absurd c1 (nh_no hi ch2)
  · have hr := R.hr hj
    rcases o2 with ⟨c2, rfl, rfl⟩ | ⟨i, hi, e, ch2, (⟨cr2, rfl, rfl⟩ | ⟨cr2, rfl, rfl⟩)⟩
    · exact absurd c2 (mh_no hj (by rw [hr.1]; exact ch))
    · exact ⟨rfl, R⟩
    · have := nj_eq hj hi e
      subst this
      rw [hr.2] at cr2
      exact absurd ((pos_iff (R.1.2.1 j hj).1).mp cr) cr2
  · have hr := R.hr hj
    have e27 : rg_add (jm_set μ 3 j 0) j (0 - μ 3 j) 27 = μ 27 := by simp only [jm_set_ne, rg_add_na, ne_eq, Nat.reduceEqDiff, not_false_eq_true]
    have e28 : rg_add (jm_set μ 3 j 0) j (0 - μ 3 j) 28 = μ 28 := by simp only [jm_set_ne, rg_add_na, ne_eq, Nat.reduceEqDiff, not_false_eq_true]
    rcases o2 with ⟨c2, rfl, rfl⟩ | ⟨i, hi, e, ch2, (⟨cr2, rfl, rfl⟩ | ⟨cr2, rfl, rfl⟩)⟩
    · exact absurd c2 (mh_no hj (by rw [e27, hr.1]; exact ch))
    · have := nj_eq hj hi e
      subst this
      rw [e28, hr.2] at cr2
      exact absurd ((pos_iff (R.1.2.1 j hj).1).mpr cr2) cr
    · have := nj_eq hj hi e
      subst this
      exact ⟨by rw [e28, hr.2], R.rise hj⟩
theorem p_sit {μ μ1 μ2 : jm_Mem} (R : Rel μ) {p w r r' : Int32} (o1 : oc_sit μ p w r μ1) (o2 : om_sit μ1 p w r' μ2) : r = r' ∧ Rel μ2 := by
  rcases o1 with ⟨c1, rfl, rfl⟩ | ⟨j, hj, rfl, ch, (⟨cw, rfl, rfl⟩ | ⟨cw, (⟨cr, rfl, rfl⟩ | ⟨cr, cl, rfl, rfl⟩)⟩)⟩
  · rcases o2 with ⟨c2, rfl, rfl⟩ | ⟨i, hi, rfl, ch2, -⟩
    · exact ⟨rfl, R⟩
    · rw [(R.hr hi).1] at ch2; exact absurd c1 (nh_no hi ch2)
  · have hr := R.hr hj
    rcases o2 with ⟨c2, rfl, rfl⟩ | ⟨i, hi, e, ch2, (⟨cw2, rfl, rfl⟩ | ⟨cw2, -⟩)⟩
    · exact absurd c2 (mh_no hj (by rw [hr.1]; exact ch))
    · exact ⟨rfl, R⟩
    · exact absurd cw (wi_no cw2)
  · have hr := R.hr hj
    obtain ⟨w1, w2⟩ := wi_w cw
    have hz := pos_iff (R.1.2.1 j hj).1
    rcases o2 with ⟨c2, rfl, rfl⟩ | ⟨i, hi, e, ch2, (⟨cw2, rfl, rfl⟩ | ⟨cw2, (⟨cr2, rfl, rfl⟩ | ⟨cr2, cl2, rfl, rfl⟩)⟩)⟩
    · exact absurd c2 (mh_no hj (by rw [hr.1]; exact ch))
    · exact absurd cw2 (wi_no cw)
    · exact ⟨rfl, R⟩
    · have := nj_eq hj hi e
      subst this
      rw [hr.2] at cr2
      exact cr.elim (fun c => absurd cr2 c) (fun c => absurd ((R.shw hj ch (hz.mp cr2) w1 w2).2.mp cl2) c)
  · have hr := R.hr hj
    obtain ⟨w1, w2⟩ := wi_w cw
    have hz := pos_iff (R.1.2.1 j hj).1
    have e27 : rg_add (jm_set μ 3 j w) j w 27 = μ 27 := by simp only [jm_set_ne, rg_add_na, ne_eq, Nat.reduceEqDiff, not_false_eq_true]
    have e28 : rg_add (jm_set μ 3 j w) j w 28 = μ 28 := by simp only [jm_set_ne, rg_add_na, ne_eq, Nat.reduceEqDiff, not_false_eq_true]
    have R' := R.seat hj ch (hz.mp cr) w1 w2
    have lw : md_law (jm_set (rg_add (jm_set μ 3 j w) j w) 28 j w) := by
      rw [R'.law]
      simp only [rg_law, jm_set_ne, ra2, ra3, ra4, ra5, ra6, ne_eq, Nat.reduceEqDiff, not_false_eq_true]
      exact cl
    rcases o2 with ⟨c2, rfl, rfl⟩ | ⟨i, hi, e, ch2, (⟨cw2, rfl, rfl⟩ | ⟨cw2, (⟨cr2, rfl, rfl⟩ | ⟨cr2, cl2, rfl, rfl⟩)⟩)⟩
    · exact absurd c2 (mh_no hj (by rw [e27, hr.1]; exact ch))
    · exact absurd cw2 (wi_no cw)
    · have := nj_eq hj hi e
      subst this
      rw [e28, hr.2] at cr2
      exact cr2.elim (fun c => absurd cr c) (fun c => absurd lw c)
    · have := nj_eq hj hi e
      subst this
      refine ⟨?_, R'⟩
      rw [md_sh_eq R'.1 R'.2.1]
      simp only [jm_set_ne, ne_eq, Nat.reduceEqDiff, not_false_eq_true]
theorem p_law {μ μ1 μ2 : jm_Mem} (R : Rel μ) {x v r r' : Int32} (o1 : oc_law μ x v r μ1) (o2 : om_law μ1 x v r' μ2) : r = r' ∧ Rel μ2 := by
  have k2 : ∀ z, Rel (jm_set (jm_set μ 1 2 z) 24 7 z) := by
    intro z
    obtain ⟨a1, a2, a3, a4, a5, a6, a7, a8⟩ := R
    refine ⟨?_, ?_, ?_, ?_, ?_, ?_, ?_, ?_⟩ <;> simp only [jm_set_ne, jm_set_eq, pk_us, pk_un, ne_eq, Nat.reduceEqDiff, not_false_eq_true] <;> first | assumption | exact ⟨trivial, a3.2⟩
  have k3 : ∀ z, Rel (jm_set (jm_set μ 1 3 z) 24 8 z) := by
    intro z
    obtain ⟨a1, a2, a3, a4, a5, a6, a7, a8⟩ := R
    refine ⟨?_, ?_, ?_, ?_, ?_, ?_, ?_, ?_⟩ <;> simp only [jm_set_ne, jm_set_eq, pk_us, pk_un, ne_eq, Nat.reduceEqDiff, not_false_eq_true] <;> first | assumption | exact ⟨a3.1, trivial⟩
  rcases o1 with ⟨rfl, (⟨cv, rfl, rfl⟩ | ⟨cv, rfl, rfl⟩)⟩ | ⟨rfl, (⟨cv, rfl, rfl⟩ | ⟨cv, rfl, rfl⟩)⟩ | ⟨n0, n1, rfl, rfl⟩
  · rcases o2 with ⟨-, (⟨cv2, rfl, rfl⟩ | ⟨cv2, rfl, rfl⟩)⟩ | ⟨e, -⟩ | ⟨n0, -⟩
    · exact ⟨rfl, R⟩
    · exact absurd cv (wi_no cv2)
    · exact absurd e (by decide)
    · exact absurd rfl n0
  · rcases o2 with ⟨-, (⟨cv2, rfl, rfl⟩ | ⟨cv2, rfl, rfl⟩)⟩ | ⟨e, -⟩ | ⟨n0, -⟩
    · exact absurd cv2 (wi_no cv)
    · exact ⟨by rw [jm_set_ne 24 (by decide)]; exact R.2.2.1.1.symm, k2 v⟩
    · exact absurd e (by decide)
    · exact absurd rfl n0
  · rcases o2 with ⟨e, -⟩ | ⟨-, (⟨cv2, rfl, rfl⟩ | ⟨cv2, rfl, rfl⟩)⟩ | ⟨-, n1, -⟩
    · exact absurd e (by decide)
    · exact ⟨rfl, R⟩
    · exact absurd cv (wi_no cv2)
    · exact absurd rfl n1
  · rcases o2 with ⟨e, -⟩ | ⟨-, (⟨cv2, rfl, rfl⟩ | ⟨cv2, rfl, rfl⟩)⟩ | ⟨-, n1, -⟩
    · exact absurd e (by decide)
    · exact absurd cv2 (wi_no cv)
    · exact ⟨by rw [jm_set_ne 24 (by decide)]; exact R.2.2.1.2.symm, k3 v⟩
    · exact absurd rfl n1
  · rcases o2 with ⟨e, -⟩ | ⟨e, -⟩ | ⟨-, -, rfl, rfl⟩
    · exact absurd e n0
    · exact absurd e n1
    · exact ⟨rfl, R⟩
