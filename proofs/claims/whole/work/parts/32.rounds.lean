/-! rounds, swaps, and what the class's calls leave alone: ready for the law -/
theorem Rel.hz {μ : jm_Mem} (R : Rel μ) : ∀ j, j < 12 → μ 2 j ≤ 0 → μ 10 j = nI 0 := fun j hj h => (R.2.2.2.2.1.1 j hj).2 h
theorem Rel.hm {μ : jm_Mem} (R : Rel μ) : ∀ j, j < 12 → ¬ μ 2 j ≤ 0 → ∃ m, m ≤ 8 ∧ μ 10 j = nI m := fun j hj h => by
  obtain ⟨m, -, h2, h3, -⟩ := (R.2.2.2.2.1.1 j hj).1 h
  exact ⟨m, h2, h3⟩
theorem Rel.hm2 {μ u : jm_Mem} (R : Rel μ) (h : ∀ q, 24 ≤ q → u q = μ q) : ∀ j, j < 12 → ¬ u 27 j ≤ 0 → ∃ m, m ≤ 8 ∧ u 29 j = nI m := fun j hj c => by
  rw [h 27 (by decide), (R.hr hj).1] at c
  rw [h 29 (by decide)]
  obtain ⟨m, -, h2, -, h4⟩ := (R.2.2.2.2.1.1 j hj).1 c
  exact ⟨m, h2, h4⟩
theorem Rel.hz2 {μ u : jm_Mem} (R : Rel μ) (h : ∀ q, 24 ≤ q → u q = μ q) : ∀ j, j < 12 → u 28 j ≤ 0 → u 28 j = 0 := fun j hj c => by
  rw [h 28 (by decide), (R.hr hj).2] at c ⊢
  exact (pos_iff (R.1.2.1 j hj).1).mp c
theorem nq_sit {μ μ1 : jm_Mem} {p w r : Int32} (o : oc_sit μ p w r μ1) : ∀ q, 24 ≤ q → μ1 q = μ q := by
  intro q hq
  rcases o with ⟨-, -, rfl⟩ | ⟨j, -, -, -, (⟨-, -, rfl⟩ | ⟨-, (⟨-, -, rfl⟩ | ⟨-, -, rfl, -⟩)⟩)⟩
  · rfl
  · rfl
  · rfl
  · rw [rg_add_na (by omega), jm_set_ne q (by omega)]
theorem nq_coat {μ μ1 : jm_Mem} {p c r : Int32} (o : oc_coat μ p c r μ1) : ∀ q, 24 ≤ q → μ1 q = μ q := by
  intro q hq
  rcases o with ⟨-, -, rfl⟩ | ⟨j, m, -, -, -, -, (⟨-, -, rfl⟩ | ⟨-, (⟨-, -, rfl⟩ | ⟨-, -, rfl⟩)⟩)⟩
  · rfl
  · rfl
  · rfl
  · rw [jm_set_ne q (by omega), jm_set_ne q (by omega)]
theorem nq_strip {μ μ1 : jm_Mem} {p c r : Int32} (o : oc_strip μ p c r μ1) : ∀ q, 24 ≤ q → μ1 q = μ q := by
  intro q hq
  rcases o with ⟨-, -, rfl⟩ | ⟨j, m, -, -, -, -, -, (⟨-, -, rfl⟩ | ⟨k, -, -, -, -, rfl⟩)⟩
  · rfl
  · rfl
  · rw [jm_set_ne q (by omega)]
theorem nq_fair {μ μ1 : jm_Mem} {a b e r : Int32} (o : oc_fair μ a b e r μ1) : ∀ q, 24 ≤ q → μ1 q = μ q := by
  intro q hq
  rcases o with ⟨-, -, rfl⟩ | ⟨-, -, -, nf, -, (⟨-, -, rfl⟩ | ⟨-, -, rfl⟩)⟩
  · rfl
  · rfl
  · rw [jm_set_ne q (by omega), jm_set_ne q (by omega), jm_set_ne q (by omega), jm_set_ne q (by omega)]
theorem nq_road {μ μ1 : jm_Mem} {a b d r : Int32} (o : oc_road μ a b d r μ1) : ∀ q, 24 ≤ q → μ1 q = μ q := by
  intro q hq
  obtain ⟨nf, -, -, o⟩ := o
  rcases o with ⟨-, -, rfl⟩ | ⟨i, k, -, -, -, -, (⟨-, -, rfl⟩ | ⟨-, -, -, rfl⟩)⟩
  · rfl
  · rfl
  · rw [jm_set_ne q (by omega), jm_set_ne q (by omega)]
theorem nq_come {μ μ1 : jm_Mem} {v r : Int32} (o : oc_come μ v r μ1) : ∀ q, 24 ≤ q → μ1 q = μ q := by
  intro q hq
  rcases o with ⟨-, -, rfl⟩ | ⟨-, nw, -, (⟨-, -, rfl⟩ | ⟨-, -, rfl⟩)⟩
  · rfl
  · rfl
  · rw [jm_set_ne q (by omega), jm_set_ne q (by omega)]
theorem nq_next {μ μ1 : jm_Mem} {r : Int32} (o : oc_next μ r μ1) : ∀ q, 24 ≤ q → μ1 q = μ q := by
  intro q hq
  rcases o with ⟨-, -, rfl⟩ | ⟨nw, -, -, (⟨-, -, rfl⟩ | ⟨j, -, -, -, -, rfl⟩)⟩
  · rfl
  · rfl
  · rw [jm_arr_ne q (by omega), jm_set_ne q (by omega), rg_add_na (by omega), jm_set_ne q (by omega)]
theorem Rel.swaps {μ μ1 μ2 : jm_Mem} (R : Rel μ) (f1 : ∀ b, b ≠ 13 → μ1 b = μ b) (f2 : ∀ b, b ≠ 33 → μ2 b = μ1 b) : Rel μ2 := R.frame (fun q _ _ _ _ h13 _ _ _ _ h33 _ _ _ => by rw [f2 q h33, f1 q h13]) (fun k _ _ => by rw [f2 24 (by decide), f1 24 (by decide)])
theorem Rel.frm {μ μ1 u : jm_Mem} {nf : Nat} {st : fr_St} (R : Rel μ) (h : μ1 = μ ∨ μ1 = rf_plan μ nf nf) (hu : fr_M μ1 u st) : Rel u := by
  have e : ∀ q, q ≠ 19 → q ≠ 20 → q ≠ 21 → μ1 q = μ q := by
    intro q h1 h2 h3
    rcases h with rfl | rfl
    · rfl
    · exact rf_plan_na h1 h2 h3 nf
  exact R.frame (fun q _ _ _ _ _ h19 h20 h21 _ _ h38 h39 h24 => by rw [hu.1 q h38 h39 h24, e q h19 h20 h21]) (fun k h1 h2 => by rw [hu.2.1 k h1 h2, e 24 (by decide) (by decide) (by decide)])
def oc_round (μ : jm_Mem) (nf : Nat) (k r : Int32) (μ1 : jm_Mem) : Prop := ((k < 0 ∨ nI nf ≤ k) ∧ r = -1 ∧ μ1 = μ) ∨ ∃ i, i < nf ∧ k = nI i ∧ r = rf_v (rf_it (fun i => rf_o ((rf_plan μ nf nf) 21 i)) i (rf_bb (rf_plan μ nf nf) none nf)) ∧ μ1 = rf_plan μ nf nf
def om_round (μ : jm_Mem) (nf : Nat) (k r : Int32) (u : jm_Mem) : Prop := ((fr (μ 34) (μ 35) (μ 36) (μ 37) nf (2 ^ nf - 1)).1 < 0 ∨ k < 0 ∨ nI (fr (μ 34) (μ 35) (μ 36) (μ 37) nf (2 ^ nf - 1)).2.1 ≤ k) ∧ r = -1 ∧ fr_M μ u (fr (μ 34) (μ 35) (μ 36) (μ 37) nf (2 ^ nf - 1)) ∨ ∃ i, i < (fr (μ 34) (μ 35) (μ 36) (μ 37) nf (2 ^ nf - 1)).2.1 ∧ k = nI i ∧ r = nI ((fr (μ 34) (μ 35) (μ 36) (μ 37) nf (2 ^ nf - 1)).2.2 i) ∧ fr_M μ u (fr (μ 34) (μ 35) (μ 36) (μ 37) nf (2 ^ nf - 1))
theorem t_X6_round {Ln : Nat} {xs : Nat → Int32} {μ : jm_Mem} {Q : Option Value → jm_Mem → Prop} (R : Rel μ) {nf : Nat} (hn : μ 14 4 = nI nf) (h8 : nf ≤ 8) {k : Int32} (h : ∀ r μ1, oc_round μ nf k r μ1 → Q (some (.int r)) μ1) : gJ Ln xs 6 mX6_round 0 (jm_en 2 [.ref 0, .int k]) [] μ Q := s_X6_round hn h8 (R.best hn h8 (a := μ) (fun _ _ => rfl)).1 (fun c => h _ _ (Or.inl ⟨c, rfl, rfl⟩)) (fun i hi e => h _ _ (Or.inr ⟨i, hi, e, rfl, rfl⟩))
theorem t_X7_round {Ln : Nat} {xs : Nat → Int32} {μ : jm_Mem} {Q : Option Value → jm_Mem → Prop} {nf : Nat} (hn : μ 24 12 = nI nf) (h8 : nf ≤ 8) {k : Int32} (h : ∀ r μ1, om_round μ nf k r μ1 → Q (some (.int r)) μ1) : gJ Ln xs 2 mX7_round 0 (jm_en 3 [.ref 24, .int k]) [] μ Q := s_X7_round hn h8 (fun c u hu => h _ _ (Or.inl ⟨c, rfl, hu⟩)) (fun i hi e u hu => h _ _ (Or.inr ⟨i, hi, e, rfl, hu⟩))
theorem nq_round {μ μ1 : jm_Mem} {nf : Nat} {k r : Int32} (o : oc_round μ nf k r μ1) : ∀ q, 24 ≤ q → μ1 q = μ q := by
  intro q hq
  rcases o with ⟨-, -, rfl⟩ | ⟨i, -, -, -, rfl⟩
  · rfl
  · exact rf_plan_na (by omega) (by omega) (by omega) nf
theorem p_round {μ μ1 μ2 : jm_Mem} (R : Rel μ) {nf : Nat} (hn : μ 14 4 = nI nf) (h8 : nf ≤ 8) {k r r' : Int32} (o1 : oc_round μ nf k r μ1) (o2 : om_round μ1 nf k r' μ2) : r = r' ∧ Rel μ2 := by
  have hm : μ1 = μ ∨ μ1 = rf_plan μ nf nf := by
    rcases o1 with ⟨-, -, e⟩ | ⟨i, -, -, -, e⟩
    · exact Or.inl e
    · exact Or.inr e
  have B := R.best hn h8 (a := μ1) (fun q hq => nq_round o1 q (by omega))
  obtain ⟨-, -, b3, b4⟩ := B
  have bd := (fr_bd (b := μ1 34) (e := μ1 35) (gn := μ1 36) (dd := μ1 37) (nf := nf) (2 ^ nf - 1)).1
  rcases o1 with ⟨c1, rfl, -⟩ | ⟨i, hi, rfl, rfl, -⟩
  · rcases o2 with ⟨-, rfl, hu⟩ | ⟨j, hj, rfl, -, -⟩
    · exact ⟨rfl, R.frm hm hu⟩
    · rcases c1 with c | c
      · exact absurd c (nI_pos (by omega))
      · have := (nI_leI (by omega) (by omega)).mp c
        omega
  · rcases o2 with ⟨c2, rfl, hu⟩ | ⟨j, hj, e, rfl, hu⟩
    · refine ⟨?_, R.frm hm hu⟩
      rw [b4 i hi]
      rcases c2 with c | c | c
      · rw [Int32.lt_iff_toInt_lt] at c
        have e0 : (0 : Int32).toInt = 0 := by decide
        omega
      · exact absurd c (nI_pos (by omega))
      · have := (nI_leI (by omega) (by omega)).mp c
        rw [if_neg (by omega)]; rfl
    · refine ⟨?_, R.frm hm hu⟩
      have := (nI_eq (by omega) (by omega)).mp e
      subst this
      rw [b4 i hi, if_pos hj]; rfl
theorem lw_gt {i Ln : Nat} (hi : i < 2 ^ 30) (hL : Ln < 2 ^ 30) : nI Ln - nI 5 < nI i ↔ Ln < i + 5 := by
  rw [Int32.lt_iff_toInt_lt, pk_sub_toInt hL (by decide), nI_toInt (by omega)]
  omega
theorem lw_31 (x : Int32) : ∃ j, j < 32 ∧ x &&& nI 31 = nI j := by
  refine ⟨x.toBitVec.toNat % 32, Nat.mod_lt _ (by decide), ?_⟩
  rw [← Int32.toBitVec_inj]
  apply BitVec.eq_of_toNat_eq
  rw [Int32.toBitVec_and, BitVec.toNat_and]
  have e : (nI 31).toBitVec.toNat = 2 ^ 5 - 1 := by decide
  rw [e, Nat.and_two_pow_sub_one_eq_mod]
  have e2 : (nI (x.toBitVec.toNat % 32)).toBitVec.toNat = (x.toBitVec.toNat % 32) % 2 ^ 32 := rfl
  rw [e2]
  omega
