def ly_pos (b : Nat → Int32) (f : Nat) (g : Nat → Nat) : Nat → Nat
  | 0 => 0
  | a + 1 => if b (g a) ≤ b f then a + 1 else ly_pos b f g a
theorem ly_pos_le {b : Nat → Int32} {f : Nat} {g : Nat → Nat} : ∀ a, ly_pos b f g a ≤ a
  | 0 => Nat.le_refl 0
  | a + 1 => by
    simp only [ly_pos]
    split
    · exact Nat.le_refl _
    · have := ly_pos_le (b := b) (f := f) (g := g) a; omega
def ly_put (g : Nat → Nat) (p f : Nat) : Nat → Nat := fun i => if i < p then g i else if i = p then f else g (i - 1)
def ly (b : Nat → Int32) (s : Nat) : Nat → Nat × (Nat → Nat)
  | 0 => (0, fun _ => 0)
  | f + 1 => if s / 2 ^ f % 2 = 1 then ((ly b s f).1 + 1, ly_put (ly b s f).2 (ly_pos b f (ly b s f).2 (ly b s f).1) f) else ly b s f
theorem ly_yes {b : Nat → Int32} {s f : Nat} (h : s / 2 ^ f % 2 = 1) : ly b s (f + 1) = ((ly b s f).1 + 1, ly_put (ly b s f).2 (ly_pos b f (ly b s f).2 (ly b s f).1) f) := if_pos h
theorem ly_no {b : Nat → Int32} {s f : Nat} (h : ¬ s / 2 ^ f % 2 = 1) : ly b s (f + 1) = ly b s f := if_neg h
theorem ly_bd {b : Nat → Int32} {s : Nat} : ∀ f, (ly b s f).1 ≤ f ∧ ∀ i, i < (ly b s f).1 → (ly b s f).2 i < f
  | 0 => ⟨Nat.le_refl 0, fun i h => absurd h (by simp [ly])⟩
  | f + 1 => by
    obtain ⟨h1, h2⟩ := ly_bd (b := b) (s := s) f
    by_cases h : s / 2 ^ f % 2 = 1
    · rw [ly_yes h]
      refine ⟨by dsimp only; omega, fun i hi => ?_⟩
      dsimp only at hi ⊢
      simp only [ly_put]
      have hp := ly_pos_le (b := b) (f := f) (g := (ly b s f).2) (ly b s f).1
      split
      · next h3 => have := h2 i (by omega); omega
      · split
        · omega
        · next h3 h4 => have := h2 (i - 1) (by omega); omega
    · rw [ly_no h]
      exact ⟨by omega, fun i hi => by have := h2 i hi; omega⟩
def ly_v (b e dd : Nat → Int32) (g : Nat → Nat) : Nat → Bool
  | 0 => true
  | 1 => true
  | k + 2 => ly_v b e dd g (k + 1) && decide (e (g k) + dd (8 * g k + g (k + 1)) < b (g (k + 1)))
def ly_ls (g h : Nat → Nat) : Nat → Nat → Bool
  | _, 0 => false
  | k, t + 1 => if g k = h k then ly_ls g h (k + 1) t else decide (g k < h k)
def ly_sum (e : Nat → Int32) (g : Nat → Nat) : Nat → Int32
  | 0 => 0
  | n + 1 => ly_sum e g n + e (g n)
theorem ly_v_end {b e dd : Nat → Int32} {g : Nat → Nat} {n : Nat} (h : ly_v b e dd g (n - 1 + 1) = true) : ly_v b e dd g n = true := by
  cases n with
  | zero => rfl
  | succ n => exact h
theorem ly_v_no {b e dd : Nat → Int32} {g : Nat → Nat} {k : Nat} : ∀ {n : Nat}, k + 2 ≤ n → ly_v b e dd g (k + 2) = false → ly_v b e dd g n = false
  | 0, h, _ => by omega
  | 1, h, _ => by omega
  | n + 2, h, e1 => by
    by_cases c : k = n
    · subst c; exact e1
    · have := ly_v_no (n := n + 1) (by omega) e1
      simp only [ly_v, this, Bool.false_and]
theorem ly_bit {s f : Nat} (hs : s < 2 ^ 31) (hf : f < 8) : (nI s >>> (nI f &&& 31)) &&& nI 1 = nI (s / 2 ^ f % 2) := by
  have key : ∀ k, ((nI f &&& 31).toBitVec.smod 32).toNat = k → (nI s >>> (nI f &&& 31)) &&& nI 1 = nI (s / 2 ^ k % 2) := by
    intro k hk
    rw [pk_shrN hs _ k hk, pk_andN (by have := Nat.div_le_self s (2 ^ k); omega) 1 (by decide)]
  apply key
  obtain rfl | rfl | rfl | rfl | rfl | rfl | rfl | rfl : f = 0 ∨ f = 1 ∨ f = 2 ∨ f = 3 ∨ f = 4 ∨ f = 5 ∨ f = 6 ∨ f = 7 := by omega
  all_goals decide
theorem ly_shl {nf : Nat} (h : nf ≤ 8) : nI 1 <<< (nI nf &&& 31) = nI (2 ^ nf) := by
  obtain rfl | rfl | rfl | rfl | rfl | rfl | rfl | rfl | rfl : nf = 0 ∨ nf = 1 ∨ nf = 2 ∨ nf = 3 ∨ nf = 4 ∨ nf = 5 ∨ nf = 6 ∨ nf = 7 ∨ nf = 8 := by omega
  all_goals decide
theorem ly_2n {nf : Nat} (h : nf ≤ 8) : 1 ≤ 2 ^ nf ∧ 2 ^ nf ≤ 256 := by
  obtain rfl | rfl | rfl | rfl | rfl | rfl | rfl | rfl | rfl : nf = 0 ∨ nf = 1 ∨ nf = 2 ∨ nf = 3 ∨ nf = 4 ∨ nf = 5 ∨ nf = 6 ∨ nf = 7 ∨ nf = 8 := by omega
  all_goals decide
abbrev ly_F (μ u : jm_Mem) : Prop := (∀ q, q ≠ 38 → q ≠ 24 → u q = μ q) ∧ ∀ k, k ≠ 18 → u 24 k = μ 24 k
abbrev ly_M (μ u : jm_Mem) (n : Nat) (g : Nat → Nat) : Prop := ly_F μ u ∧ u 24 18 = nI n ∧ ∀ i, i < n → u 38 i = nI (g i)
abbrev fr_St : Type := Int32 × Nat × (Nat → Nat)
def fr_bt (n : Nat) (g : Nat → Nat) (z : Int32) (st : fr_St) : Bool := decide (st.1 < z ∨ (z = st.1 ∧ (n < st.2.1 ∨ (n = st.2.1 ∧ ly_ls g st.2.2 0 n = true))))
def fr (b e gn dd : Nat → Int32) (nf : Nat) : Nat → fr_St
  | 0 => (0, 0, fun _ => 0)
  | k + 1 => if ly_v b e dd (ly b (k + 1) nf).2 (ly b (k + 1) nf).1 = true ∧ fr_bt (ly b (k + 1) nf).1 (ly b (k + 1) nf).2 (ly_sum gn (ly b (k + 1) nf).2 (ly b (k + 1) nf).1) (fr b e gn dd nf k) = true then (ly_sum gn (ly b (k + 1) nf).2 (ly b (k + 1) nf).1, (ly b (k + 1) nf).1, (ly b (k + 1) nf).2) else fr b e gn dd nf k
theorem fr_no1 {b e gn dd : Nat → Int32} {nf k : Nat} (h : ly_v b e dd (ly b (k + 1) nf).2 (ly b (k + 1) nf).1 = false) : fr b e gn dd nf (k + 1) = fr b e gn dd nf k := if_neg (fun q => by rw [h] at q; exact absurd q.1 (by decide))
theorem fr_no2 {b e gn dd : Nat → Int32} {nf k : Nat} (h : fr_bt (ly b (k + 1) nf).1 (ly b (k + 1) nf).2 (ly_sum gn (ly b (k + 1) nf).2 (ly b (k + 1) nf).1) (fr b e gn dd nf k) = false) : fr b e gn dd nf (k + 1) = fr b e gn dd nf k := if_neg (fun q => by rw [h] at q; exact absurd q.2 (by decide))
theorem fr_yes {b e gn dd : Nat → Int32} {nf k : Nat} (h : ly_v b e dd (ly b (k + 1) nf).2 (ly b (k + 1) nf).1 = true) (h2 : fr_bt (ly b (k + 1) nf).1 (ly b (k + 1) nf).2 (ly_sum gn (ly b (k + 1) nf).2 (ly b (k + 1) nf).1) (fr b e gn dd nf k) = true) : fr b e gn dd nf (k + 1) = (ly_sum gn (ly b (k + 1) nf).2 (ly b (k + 1) nf).1, (ly b (k + 1) nf).1, (ly b (k + 1) nf).2) := if_pos ⟨h, h2⟩
theorem fr_bd {b e gn dd : Nat → Int32} {nf : Nat} : ∀ k, (fr b e gn dd nf k).2.1 ≤ nf ∧ ∀ i, i < (fr b e gn dd nf k).2.1 → (fr b e gn dd nf k).2.2 i < nf
  | 0 => ⟨Nat.zero_le _, fun i h => absurd h (by simp [fr])⟩
  | k + 1 => by
    simp only [fr]
    split
    · exact ly_bd nf
    · exact fr_bd k
abbrev fr_M (μ u : jm_Mem) (st : fr_St) : Prop := (∀ q, q ≠ 38 → q ≠ 39 → q ≠ 24 → u q = μ q) ∧ (∀ k, k ≠ 18 → k ≠ 20 → u 24 k = μ 24 k) ∧ u 24 20 = nI st.2.1 ∧ ∀ i, i < st.2.1 → u 39 i = nI (st.2.2 i)
theorem fr_lay {μ u u2 : jm_Mem} {st : fr_St} {n : Nat} {g : Nat → Nat} (hM : fr_M μ u st) (hL : ly_M u u2 n g) : fr_M μ u2 st := ⟨fun q q1 q2 q3 => by rw [hL.1.1 q q1 q3]; exact hM.1 q q1 q2 q3, fun k k1 k2 => by rw [hL.1.2 k k1]; exact hM.2.1 k k1 k2, by rw [hL.1.2 20 (by decide)]; exact hM.2.2.1, fun i hi => by rw [hL.1.1 39 (by decide) (by decide)]; exact hM.2.2.2 i hi⟩
set_option maxHeartbeats 1000000 in
theorem l_X7_ins {Ln : Nat} {xs : Nat → Int32} {μ : jm_Mem} {Q : Option Value → jm_Mem → Prop} {s : Int32} {f n : Nat} {g : Nat → Nat} (hf : f < 8) (hn : n < 8) (hg : ∀ i, i < n → g i < 8) : ∀ (a : Nat) (u : jm_Mem), a ≤ n → (∀ q, q ≠ 38 → u q = μ q) → (∀ i, i < a → u 38 i = nI (g i)) → (∀ i, a < i → i ≤ n → u 38 i = nI (g (i - 1))) → (∀ u', (∀ q, q ≠ 38 → u' q = μ q) → (∀ i, i < ly_pos (μ 34) f g a → u' 38 i = nI (g i)) → (∀ i, ly_pos (μ 34) f g a < i → i ≤ n → u' 38 i = nI (g (i - 1))) → jm_J rg_I (rg_X Ln xs) 0 mX7_lay 75 [some (.ref 24), some (.int s), some (.int (nI f)), some (.int (nI (ly_pos (μ 34) f g a)))] [] u' Q) → jm_J rg_I (rg_X Ln xs) 0 mX7_lay 29 [some (.ref 24), some (.int s), some (.int (nI f)), some (.int (nI a))] [] u Q := by
  intro a
  induction a with
  | zero =>
    intro u ha hq h1 h2 hk
    refine jm_iload_n dX7_lay_29 rfl rfl rfl ?_
    refine jm_if_le (tgt := 75) dX7_lay_30 (by decide) rfl (fun c30 => ?_) (fun c30 => absurd (by decide) c30)
    exact hk u hq h1 h2
  | succ a ih =>
    intro u ha hq h1 h2 hk
    have hga := hg a (by omega)
    have hua := h1 a (by omega)
    have h34 : u 34 = μ 34 := hq 34 (by decide)
    refine jm_iload_n dX7_lay_29 rfl rfl rfl ?_
    refine jm_if_le (tgt := 75) dX7_lay_30 (by decide) rfl (fun c30 => absurd c30 (nI_nle (by omega) (by omega))) (fun c30 => ?_)
    refine jm_aload_n dX7_lay_33 rfl rfl rfl ?_
    refine jm_getr dX7_lay_34 rfl fe_X7_38 rfl rfl rfl ?_
    refine jm_aload_n dX7_lay_37 rfl rfl rfl ?_
    refine jm_getr dX7_lay_38 rfl fe_X7_50 rfl rfl rfl ?_
    refine jm_iload_n dX7_lay_41 rfl rfl rfl ?_
    refine jm_iconst (nI 1) dX7_lay_42 rfl (by decide) ?_
    refine jm_isub dX7_lay_43 rfl ?_
    refine jm_iald dX7_lay_44 rfl rfl rfl (by decide) (show nI (a + 1) - nI 1 = nI a from nI_pred a) (by omega) ?_
    refine jm_iald dX7_lay_45 rfl rfl rfl (by decide) hua hga ?_
    refine jm_aload_n dX7_lay_46 rfl rfl rfl ?_
    refine jm_getr dX7_lay_47 rfl fe_X7_38 rfl rfl rfl ?_
    refine jm_iload_n dX7_lay_50 rfl rfl rfl ?_
    refine jm_iald dX7_lay_51 rfl rfl rfl (by decide) rfl (by first | assumption | omega) ?_
    rw [h34]
    refine jm_icmp_le (tgt := 75) dX7_lay_52 (by decide) rfl (fun c52 => ?_) (fun c52 => ?_)
    · have e : ly_pos (μ 34) f g (a + 1) = a + 1 := if_pos c52
      rw [e] at hk
      exact hk u hq h1 h2
    · refine jm_aload_n dX7_lay_55 rfl rfl rfl ?_
      refine jm_getr dX7_lay_56 rfl fe_X7_50 rfl rfl rfl ?_
      refine jm_iload_n dX7_lay_59 rfl rfl rfl ?_
      refine jm_aload_n dX7_lay_60 rfl rfl rfl ?_
      refine jm_getr dX7_lay_61 rfl fe_X7_50 rfl rfl rfl ?_
      refine jm_iload_n dX7_lay_64 rfl rfl rfl ?_
      refine jm_iconst (nI 1) dX7_lay_65 rfl (by decide) ?_
      refine jm_isub dX7_lay_66 rfl ?_
      refine jm_iald dX7_lay_67 rfl rfl rfl (by decide) (show nI (a + 1) - nI 1 = nI a from nI_pred a) (by omega) ?_
      refine jm_iast dX7_lay_68 rfl rfl rfl (by decide) rfl (by omega) ?_
      refine jm_iinc (-1) dX7_lay_69 rfl rfl (by decide) rfl rfl ?_
      dsimp only [List.set]
      refine jm_goto (n := 29) dX7_lay_72 (by decide) ?_
      have e : ly_pos (μ 34) f g (a + 1) = ly_pos (μ 34) f g a := if_neg c52
      rw [e] at hk
      rw [rg_m1, show nI (a + 1) - nI 1 = nI a from nI_pred a, hua]
      exact ih _ (by omega) (fun q h9 => by rw [jm_set_ne q h9]; exact hq q h9) (fun i hi => by rw [rd_ni (by omega)]; exact h1 i (by omega)) (fun i hi hi2 => if e9 : i = a + 1 then by rw [rd_if, if_pos e9, e9]; rfl else by rw [rd_if, if_neg e9]; exact h2 i (by omega) hi2) hk
set_option maxHeartbeats 1000000 in
theorem l_X7_laysort {Ln : Nat} {xs : Nat → Int32} {μ : jm_Mem} {Q : Option Value → jm_Mem → Prop} {nf : Nat} (hn : μ 24 12 = nI nf) (h8 : nf ≤ 8) {s : Nat} (hs : s < 256) (hk : ∀ (v3 : Option Value) u, ly_M μ u (ly (μ 34) s nf).1 (ly (μ 34) s nf).2 → jm_J rg_I (rg_X Ln xs) 0 mX7_lay 98 [some (.ref 24), some (.int (nI s)), some (.int (nI nf)), v3] [] u Q) : ∀ i, i ≤ nf → ∀ (v3 : Option Value) (u : jm_Mem) (hM : ly_M μ u (ly (μ 34) s i).1 (ly (μ 34) s i).2), jm_J rg_I (rg_X Ln xs) 0 mX7_lay 7 [some (.ref 24), some (.int (nI s)), some (.int (nI i)), v3] [] u Q := by
  refine jm_for nf ?_ ?_
  · intro v3 u hM
    refine jm_iload_n dX7_lay_7 rfl rfl rfl ?_
    refine jm_aload_n dX7_lay_8 rfl rfl rfl ?_
    refine jm_geti dX7_lay_9 rfl fe_X7_143 rfl rfl rfl ?_
    refine jm_icmp_ge (tgt := 98) dX7_lay_12 (by decide) rfl (fun c12 => ?_) (fun c12 => absurd (by rw [hM.1.2 12 (by decide), hn]; exact (nI_leI (by omega) (by omega)).mpr (by omega)) c12)
    exact hk v3 u hM
  · intro i hi ih v3 u hM
    refine jm_iload_n dX7_lay_7 rfl rfl rfl ?_
    refine jm_aload_n dX7_lay_8 rfl rfl rfl ?_
    refine jm_geti dX7_lay_9 rfl fe_X7_143 rfl rfl rfl ?_
    refine jm_icmp_ge (tgt := 98) dX7_lay_12 (by decide) rfl (fun c12 => absurd ((nI_leI (a := nf) (b := i) (by omega) (by omega)).mp (by rw [hM.1.2 12 (by decide), hn] at c12; exact c12)) (by omega)) (fun c12 => ?_)
    refine jm_iload_n dX7_lay_15 rfl rfl rfl ?_
    refine jm_iload_n dX7_lay_16 rfl rfl rfl ?_
    refine jm_ishr dX7_lay_17 rfl ?_
    skip
    refine jm_iconst (nI 1) dX7_lay_18 rfl (by decide) ?_
    refine jm_iand dX7_lay_19 rfl ?_
    rw [ly_bit (by omega) (by omega)]
    refine jm_iconst (nI 1) dX7_lay_20 rfl (by decide) ?_
    refine jm_icmp_ne (tgt := 92) dX7_lay_21 (by decide) rfl (fun c21 => ?_) (fun c21 => ?_)
    · refine jm_iinc (nI 1) dX7_lay_92 rfl rfl (by decide) rfl rfl ?_
      dsimp only [List.set]
      refine jm_goto (n := 7) dX7_lay_95 (by decide) ?_
      rw [nI_add]
      have e := ih v3 u
      rw [ly_no (fun h9 => c21 (congrArg nI h9))] at e
      exact e hM
    · refine jm_aload_n dX7_lay_24 rfl rfl rfl ?_
      refine jm_geti dX7_lay_25 rfl fe_X7_151 rfl rfl rfl ?_
      refine jm_istore_n dX7_lay_28 rfl rfl rfl rfl ?_
      dsimp only [List.set]
      have hbit : s / 2 ^ i % 2 = 1 := (nI_eq (by omega) (by omega)).mp c21
      have hbd := ly_bd (b := μ 34) (s := s) i
      have h34 : u 34 = μ 34 := hM.1.1 34 (by decide) (by decide)
      rw [hM.2.1]
      refine l_X7_ins (μ := u) (f := i) (n := (ly (μ 34) s i).1) (g := (ly (μ 34) s i).2) (by omega) (by omega) (fun k hk => by have := hbd.2 k hk; omega) (ly (μ 34) s i).1 u (Nat.le_refl _) (fun _ _ => rfl) hM.2.2 (fun k h1 h2 => absurd h1 (by omega)) (fun u2 hq h1 h2 => ?_)
      rw [h34] at h1 h2 ⊢
      have hple := ly_pos_le (b := μ 34) (f := i) (g := (ly (μ 34) s i).2) (ly (μ 34) s i).1
      have h24 : u2 24 = u 24 := hq 24 (by decide)
      refine jm_aload_n dX7_lay_75 rfl rfl rfl ?_
      refine jm_getr dX7_lay_76 rfl fe_X7_50 rfl rfl rfl ?_
      refine jm_iload_n dX7_lay_79 rfl rfl rfl ?_
      refine jm_iload_n dX7_lay_80 rfl rfl rfl ?_
      refine jm_iast dX7_lay_81 rfl rfl rfl (by decide) rfl (by omega) ?_
      refine jm_aload_n dX7_lay_82 rfl rfl rfl ?_
      refine jm_dup dX7_lay_83 rfl rfl ?_
      refine jm_geti dX7_lay_84 rfl fe_X7_151 rfl rfl rfl ?_
      refine jm_iconst (nI 1) dX7_lay_87 rfl (by decide) ?_
      refine jm_iadd dX7_lay_88 rfl ?_
      refine jm_puti dX7_lay_89 rfl pe_X7_151 rfl rfl rfl ?_
      refine jm_iinc (nI 1) dX7_lay_92 rfl rfl (by decide) rfl rfl ?_
      dsimp only [List.set]
      refine jm_goto (n := 7) dX7_lay_95 (by decide) ?_
      rw [nI_add]
      have e := ih (some (.int (nI (ly_pos (μ 34) i (ly (μ 34) s i).2 (ly (μ 34) s i).1)))) (jm_set (jm_set u2 38 (ly_pos (μ 34) i (ly (μ 34) s i).2 (ly (μ 34) s i).1) (nI i)) 24 18 (jm_set u2 38 (ly_pos (μ 34) i (ly (μ 34) s i).2 (ly (μ 34) s i).1) (nI i) 24 18 + nI 1))
      rw [ly_yes hbit] at e
      refine e ⟨⟨fun q q1 q2 => by rw [jm_set_ne q q2, jm_set_ne q q1, hq q q1]; exact hM.1.1 q q1 q2, fun q hq2 => by rw [rd_ni hq2, rd_na (by decide), h24]; exact hM.1.2 q hq2⟩, by rw [rd_eq, rd_na (by decide), h24, hM.2.1, nI_add], fun k hk2 => ?_⟩
      rw [rd_na (by decide), rd_if]
      simp only [ly_put]
      by_cases e1 : k = ly_pos (μ 34) i (ly (μ 34) s i).2 (ly (μ 34) s i).1
      · rw [if_pos e1, if_neg (by omega), if_pos e1]
      · rw [if_neg e1]
        by_cases h9 : k < ly_pos (μ 34) i (ly (μ 34) s i).2 (ly (μ 34) s i).1
        · rw [if_pos h9]; exact h1 k h9
        · rw [if_neg h9, if_neg e1]; exact h2 k (by omega) (by dsimp only at hk2; omega)
set_option maxHeartbeats 1000000 in
theorem l_X7_may0 {Ln : Nat} {xs : Nat → Int32} {μ : jm_Mem} {Q : Option Value → jm_Mem → Prop} {u : jm_Mem} {n : Nat} {s : Int32} (hn8 : n ≤ 8) (hw : u 24 18 = nI n) (h : Q (some (.int 0)) u) : ∀ i, i ≤ (n - 1) → jm_J rg_I (rg_X Ln xs) 0 mX7_lay 102 [some (.ref 24), some (.int s), some (.int (nI 0)), some (.int (nI (i + 1)))] [] u Q := by
  refine jm_for (n - 1) ?_ ?_
  · skip
    refine jm_iload_n dX7_lay_102 rfl rfl rfl ?_
    refine jm_aload_n dX7_lay_103 rfl rfl rfl ?_
    refine jm_geti dX7_lay_104 rfl fe_X7_151 rfl rfl rfl ?_
    refine jm_icmp_ge (tgt := 177) dX7_lay_107 (by decide) rfl (fun c107 => ?_) (fun c107 => absurd (by rw [hw]; exact (nI_leI (by omega) (by omega)).mpr (by omega)) c107)
    refine jm_iload_n dX7_lay_177 rfl rfl rfl ?_
    refine jm_iret dX7_lay_178 rfl rfl ?_
    exact h
  · intro i hi ih 
    refine jm_iload_n dX7_lay_102 rfl rfl rfl ?_
    refine jm_aload_n dX7_lay_103 rfl rfl rfl ?_
    refine jm_geti dX7_lay_104 rfl fe_X7_151 rfl rfl rfl ?_
    refine jm_icmp_ge (tgt := 177) dX7_lay_107 (by decide) rfl (fun c107 => absurd ((nI_leI (a := n) (b := i + 1) (by omega) (by omega)).mp (by rw [hw] at c107; exact c107)) (by omega)) (fun c107 => ?_)
    refine jm_iload_n dX7_lay_110 rfl rfl rfl ?_
    refine jm_if_eq (tgt := 169) dX7_lay_111 (by decide) rfl (fun c111 => ?_) (fun c111 => absurd c111 (by decide))
    refine jm_iconst (nI 0) dX7_lay_169 rfl (by decide) ?_
    refine jm_istore_n dX7_lay_170 rfl rfl rfl rfl ?_
    dsimp only [List.set]
    refine jm_iinc (nI 1) dX7_lay_171 rfl rfl (by decide) rfl rfl ?_
    dsimp only [List.set]
    refine jm_goto (n := 102) dX7_lay_174 (by decide) ?_
    rw [nI_add]; exact ih
set_option maxHeartbeats 1000000 in
theorem l_X7_may1 {Ln : Nat} {xs : Nat → Int32} {μ : jm_Mem} {Q : Option Value → jm_Mem → Prop} {u : jm_Mem} {n : Nat} {g : Nat → Nat} {s : Int32} (hu : ly_F μ u) (hw : u 24 18 = nI n) (hg : ∀ i, i < n → u 38 i = nI (g i)) (hn8 : n ≤ 8) (hg8 : ∀ i, i < n → g i < 8) (h1 : ly_v (μ 34) (μ 35) (μ 37) g n = true → Q (some (.int 1)) u) (h0 : ly_v (μ 34) (μ 35) (μ 37) g n = false → Q (some (.int 0)) u) : ∀ i, i ≤ (n - 1) → ∀ (hb : ly_v (μ 34) (μ 35) (μ 37) g (i + 1) = true), jm_J rg_I (rg_X Ln xs) 0 mX7_lay 102 [some (.ref 24), some (.int s), some (.int (nI 1)), some (.int (nI (i + 1)))] [] u Q := by
  refine jm_for (n - 1) ?_ ?_
  · intro hb
    refine jm_iload_n dX7_lay_102 rfl rfl rfl ?_
    refine jm_aload_n dX7_lay_103 rfl rfl rfl ?_
    refine jm_geti dX7_lay_104 rfl fe_X7_151 rfl rfl rfl ?_
    refine jm_icmp_ge (tgt := 177) dX7_lay_107 (by decide) rfl (fun c107 => ?_) (fun c107 => absurd (by rw [hw]; exact (nI_leI (by omega) (by omega)).mpr (by omega)) c107)
    refine jm_iload_n dX7_lay_177 rfl rfl rfl ?_
    refine jm_iret dX7_lay_178 rfl rfl ?_
    exact h1 (ly_v_end hb)
  · intro i hi ih hb
    refine jm_iload_n dX7_lay_102 rfl rfl rfl ?_
    refine jm_aload_n dX7_lay_103 rfl rfl rfl ?_
    refine jm_geti dX7_lay_104 rfl fe_X7_151 rfl rfl rfl ?_
    refine jm_icmp_ge (tgt := 177) dX7_lay_107 (by decide) rfl (fun c107 => absurd ((nI_leI (a := n) (b := i + 1) (by omega) (by omega)).mp (by rw [hw] at c107; exact c107)) (by omega)) (fun c107 => ?_)
    refine jm_iload_n dX7_lay_110 rfl rfl rfl ?_
    refine jm_if_eq (tgt := 169) dX7_lay_111 (by decide) rfl (fun c111 => absurd c111 (by decide)) (fun c111 => ?_)
    have hx := hg i (by omega)
    have hy := hg (i + 1) (by omega)
    have gx := hg8 i (by omega)
    have gy := hg8 (i + 1) (by omega)
    refine jm_aload_n dX7_lay_114 rfl rfl rfl ?_
    refine jm_getr dX7_lay_115 rfl fe_X7_38 rfl rfl rfl ?_
    refine jm_aload_n dX7_lay_118 rfl rfl rfl ?_
    refine jm_getr dX7_lay_119 rfl fe_X7_50 rfl rfl rfl ?_
    refine jm_iload_n dX7_lay_122 rfl rfl rfl ?_
    refine jm_iald dX7_lay_123 rfl rfl rfl (by decide) rfl (by omega) ?_
    refine jm_iald dX7_lay_124 rfl rfl rfl (by decide) hy gy ?_
    refine jm_aload_n dX7_lay_125 rfl rfl rfl ?_
    refine jm_getr dX7_lay_126 rfl fe_X7_41 rfl rfl rfl ?_
    refine jm_aload_n dX7_lay_129 rfl rfl rfl ?_
    refine jm_getr dX7_lay_130 rfl fe_X7_50 rfl rfl rfl ?_
    refine jm_iload_n dX7_lay_133 rfl rfl rfl ?_
    refine jm_iconst (nI 1) dX7_lay_134 rfl (by decide) ?_
    refine jm_isub dX7_lay_135 rfl ?_
    refine jm_iald dX7_lay_136 rfl rfl rfl (by decide) (show nI (i + 1) - nI 1 = nI i from nI_pred i) (by omega) ?_
    refine jm_iald dX7_lay_137 rfl rfl rfl (by decide) hx gx ?_
    refine jm_aload_n dX7_lay_138 rfl rfl rfl ?_
    refine jm_getr dX7_lay_139 rfl fe_X7_47 rfl rfl rfl ?_
    refine jm_bipush (nI 8) dX7_lay_142 rfl (by decide) ?_
    refine jm_aload_n dX7_lay_144 rfl rfl rfl ?_
    refine jm_getr dX7_lay_145 rfl fe_X7_50 rfl rfl rfl ?_
    refine jm_iload_n dX7_lay_148 rfl rfl rfl ?_
    refine jm_iconst (nI 1) dX7_lay_149 rfl (by decide) ?_
    refine jm_isub dX7_lay_150 rfl ?_
    refine jm_iald dX7_lay_151 rfl rfl rfl (by decide) (show nI (i + 1) - nI 1 = nI i from nI_pred i) (by omega) ?_
    refine jm_imul dX7_lay_152 rfl ?_
    refine jm_aload_n dX7_lay_153 rfl rfl rfl ?_
    refine jm_getr dX7_lay_154 rfl fe_X7_50 rfl rfl rfl ?_
    refine jm_iload_n dX7_lay_157 rfl rfl rfl ?_
    refine jm_iald dX7_lay_158 rfl rfl rfl (by decide) rfl (by omega) ?_
    refine jm_iadd dX7_lay_159 rfl ?_
    refine jm_iald dX7_lay_160 rfl rfl rfl (by decide) (by rw [hx, hy, pk_mul, nI_add]) (by omega) ?_
    refine jm_iadd dX7_lay_161 rfl ?_
    rw [hu.1 34 (by decide) (by decide), hu.1 35 (by decide) (by decide), hu.1 37 (by decide) (by decide)]
    refine jm_icmp_le (tgt := 169) dX7_lay_162 (by decide) rfl (fun c162 => ?_) (fun c162 => ?_)
    · refine jm_iconst (nI 0) dX7_lay_169 rfl (by decide) ?_
      refine jm_istore_n dX7_lay_170 rfl rfl rfl rfl ?_
      dsimp only [List.set]
      refine jm_iinc (nI 1) dX7_lay_171 rfl rfl (by decide) rfl rfl ?_
      dsimp only [List.set]
      refine jm_goto (n := 102) dX7_lay_174 (by decide) ?_
      rw [nI_add]
      exact l_X7_may0 (μ := μ) hn8 hw (h0 (ly_v_no (k := i) (by omega) (by simp only [ly_v, hb, Bool.true_and]; exact decide_eq_false (fun h9 => absurd c162 (Int32.not_le.mpr h9))))) (i + 1) (by omega)
    · refine jm_iconst (nI 1) dX7_lay_165 rfl (by decide) ?_
      refine jm_goto (n := 170) dX7_lay_166 (by decide) ?_
      refine jm_istore_n dX7_lay_170 rfl rfl rfl rfl ?_
      dsimp only [List.set]
      refine jm_iinc (nI 1) dX7_lay_171 rfl rfl (by decide) rfl rfl ?_
      dsimp only [List.set]
      refine jm_goto (n := 102) dX7_lay_174 (by decide) ?_
      rw [nI_add]
      exact ih (by simp only [ly_v, hb, Bool.true_and]; exact decide_eq_true (Int32.not_le.mp c162))
set_option maxHeartbeats 1000000 in
theorem s_X7_lay {Ln : Nat} {xs : Nat → Int32} {μ : jm_Mem} {Q : Option Value → jm_Mem → Prop} {nf : Nat} (hn : μ 24 12 = nI nf) (h8 : nf ≤ 8) {s : Nat} (hs : s < 256) (h1 : ∀ u, ly_M μ u (ly (μ 34) s nf).1 (ly (μ 34) s nf).2 → ly_v (μ 34) (μ 35) (μ 37) (ly (μ 34) s nf).2 (ly (μ 34) s nf).1 = true → Q (some (.int 1)) u) (h0 : ∀ u, ly_M μ u (ly (μ 34) s nf).1 (ly (μ 34) s nf).2 → ly_v (μ 34) (μ 35) (μ 37) (ly (μ 34) s nf).2 (ly (μ 34) s nf).1 = false → Q (some (.int 0)) u) : gJ Ln xs 0 mX7_lay 0 (jm_en 4 [.ref 24, .int (nI s)]) [] μ Q := by
  show jm_J rg_I (rg_X Ln xs) 0 mX7_lay 0 [some (.ref 24), some (.int (nI s)), none, none] [] μ Q
  refine jm_aload_n dX7_lay_0 rfl rfl rfl ?_
  refine jm_iconst (nI 0) dX7_lay_1 rfl (by decide) ?_
  refine jm_puti dX7_lay_2 rfl pe_X7_151 rfl rfl rfl ?_
  refine jm_iconst (nI 0) dX7_lay_5 rfl (by decide) ?_
  refine jm_istore_n dX7_lay_6 rfl rfl rfl rfl ?_
  dsimp only [List.set]
  refine l_X7_laysort hn h8 hs (fun v3 u hM => ?_) 0 (by omega) none _ ⟨⟨fun q q1 q2 => jm_set_ne q q2, fun k hk => rd_ni hk⟩, rd_eq, fun i hi => absurd hi (by simp [ly])⟩
  refine jm_iconst (nI 1) dX7_lay_98 rfl (by decide) ?_
  refine jm_istore_n dX7_lay_99 rfl rfl rfl rfl ?_
  dsimp only [List.set]
  refine jm_iconst (nI 1) dX7_lay_100 rfl (by decide) ?_
  refine jm_istore_n dX7_lay_101 rfl rfl rfl rfl ?_
  dsimp only [List.set]
  have hbd := ly_bd (b := μ 34) (s := s) nf
  exact l_X7_may1 hM.1 hM.2.1 hM.2.2 (by omega) (fun i hi => by have := hbd.2 i hi; omega) (h1 u hM) (h0 u hM) 0 (by omega) rfl
set_option maxHeartbeats 1000000 in
theorem l_X7_isLess {Ln : Nat} {xs : Nat → Int32} {μ : jm_Mem} {Q : Option Value → jm_Mem → Prop} {n : Nat} {g h : Nat → Nat} (hn8 : n ≤ 8) (hw : μ 24 18 = nI n) (hg : ∀ i, i < n → μ 38 i = nI (g i) ∧ g i < 8) (hh : ∀ i, i < n → μ 39 i = nI (h i) ∧ h i < 8) : ∀ (t k : Nat), k + t = n → (ly_ls g h k t = true → Q (some (.int 1)) μ) → (ly_ls g h k t = false → Q (some (.int 0)) μ) → jm_J rg_I (rg_X Ln xs) 0 mX7_isLess 2 [some (.ref 24), some (.int (nI k))] [] μ Q := by
  intro t
  induction t with
  | zero =>
    intro k hk h1 h0
    refine jm_iload_n dX7_isLess_2 rfl rfl rfl ?_
    refine jm_aload_n dX7_isLess_3 rfl rfl rfl ?_
    refine jm_geti dX7_isLess_4 rfl fe_X7_151 rfl rfl rfl ?_
    refine jm_icmp_ge (tgt := 52) dX7_isLess_7 (by decide) rfl (fun c7 => ?_) (fun c7 => absurd (by rw [hw]; exact (nI_leI (by omega) (by omega)).mpr (by omega)) c7)
    refine jm_iconst (nI 0) dX7_isLess_52 rfl (by decide) ?_
    refine jm_iret dX7_isLess_53 rfl rfl ?_
    exact h0 rfl
  | succ t ih =>
    intro k hk h1 h0
    obtain ⟨x1, x2⟩ := hg k (by omega)
    obtain ⟨y1, y2⟩ := hh k (by omega)
    simp only [ly_ls] at h1 h0
    refine jm_iload_n dX7_isLess_2 rfl rfl rfl ?_
    refine jm_aload_n dX7_isLess_3 rfl rfl rfl ?_
    refine jm_geti dX7_isLess_4 rfl fe_X7_151 rfl rfl rfl ?_
    refine jm_icmp_ge (tgt := 52) dX7_isLess_7 (by decide) rfl (fun c7 => absurd ((nI_leI (a := n) (b := k) (by omega) (by omega)).mp (by rw [hw] at c7; exact c7)) (by omega)) (fun c7 => ?_)
    refine jm_aload_n dX7_isLess_10 rfl rfl rfl ?_
    refine jm_getr dX7_isLess_11 rfl fe_X7_50 rfl rfl rfl ?_
    refine jm_iload_n dX7_isLess_14 rfl rfl rfl ?_
    refine jm_iald dX7_isLess_15 rfl rfl rfl (by decide) rfl (by omega) ?_
    refine jm_aload_n dX7_isLess_16 rfl rfl rfl ?_
    refine jm_getr dX7_isLess_17 rfl fe_X7_53 rfl rfl rfl ?_
    refine jm_iload_n dX7_isLess_20 rfl rfl rfl ?_
    refine jm_iald dX7_isLess_21 rfl rfl rfl (by decide) rfl (by omega) ?_
    rw [x1, y1]
    refine jm_icmp_eq (tgt := 46) dX7_isLess_22 (by decide) rfl (fun c22 => ?_) (fun c22 => ?_)
    · refine jm_iinc (nI 1) dX7_isLess_46 rfl rfl (by decide) rfl rfl ?_
      dsimp only [List.set]
      refine jm_goto (n := 2) dX7_isLess_49 (by decide) ?_
      rw [nI_add]
      have ee := (nI_eq (by omega) (by omega)).mp c22
      rw [if_pos ee] at h1 h0
      exact ih (k + 1) (by omega) h1 h0
    · refine jm_aload_n dX7_isLess_25 rfl rfl rfl ?_
      refine jm_getr dX7_isLess_26 rfl fe_X7_50 rfl rfl rfl ?_
      refine jm_iload_n dX7_isLess_29 rfl rfl rfl ?_
      refine jm_iald dX7_isLess_30 rfl rfl rfl (by decide) rfl (by omega) ?_
      refine jm_aload_n dX7_isLess_31 rfl rfl rfl ?_
      refine jm_getr dX7_isLess_32 rfl fe_X7_53 rfl rfl rfl ?_
      refine jm_iload_n dX7_isLess_35 rfl rfl rfl ?_
      refine jm_iald dX7_isLess_36 rfl rfl rfl (by decide) rfl (by omega) ?_
      rw [x1, y1]
      have ne : ¬ g k = h k := fun e => c22 (congrArg nI e)
      rw [if_neg ne] at h1 h0
      refine jm_icmp_ge (tgt := 44) dX7_isLess_37 (by decide) rfl (fun c37 => ?_) (fun c37 => ?_)
      · refine jm_iconst (nI 0) dX7_isLess_44 rfl (by decide) ?_
        refine jm_iret dX7_isLess_45 rfl rfl ?_
        first | exact h1 (decide_eq_true (Nat.lt_of_not_le (fun h9 => c37 ((nI_leI (by omega) (by omega)).mpr h9)))) | exact h0 (decide_eq_false (fun h9 => absurd ((nI_leI (by omega) (by omega)).mp c37) (by omega))) | fail "leaf"
      · refine jm_iconst (nI 1) dX7_isLess_40 rfl (by decide) ?_
        refine jm_goto (n := 45) dX7_isLess_41 (by decide) ?_
        refine jm_iret dX7_isLess_45 rfl rfl ?_
        first | exact h1 (decide_eq_true (Nat.lt_of_not_le (fun h9 => c37 ((nI_leI (by omega) (by omega)).mpr h9)))) | exact h0 (decide_eq_false (fun h9 => absurd ((nI_leI (by omega) (by omega)).mp c37) (by omega))) | fail "leaf"
set_option maxHeartbeats 400000 in
theorem s_X7_isLess {Ln : Nat} {xs : Nat → Int32} {μ : jm_Mem} {Q : Option Value → jm_Mem → Prop} {n : Nat} {g h : Nat → Nat} (hn8 : n ≤ 8) (hw : μ 24 18 = nI n) (hg : ∀ i, i < n → μ 38 i = nI (g i) ∧ g i < 8) (hh : ∀ i, i < n → μ 39 i = nI (h i) ∧ h i < 8) (h1 : ly_ls g h 0 n = true → Q (some (.int 1)) μ) (h0 : ly_ls g h 0 n = false → Q (some (.int 0)) μ) : gJ Ln xs 0 mX7_isLess 0 (jm_en 2 [.ref 24]) [] μ Q := by
  show jm_J rg_I (rg_X Ln xs) 0 mX7_isLess 0 [some (.ref 24), none] [] μ Q
  refine jm_iconst (nI 0) dX7_isLess_0 rfl (by decide) ?_
  refine jm_istore_n dX7_isLess_1 rfl rfl rfl rfl ?_
  dsimp only [List.set]
  exact l_X7_isLess hn8 hw hg hh n 0 (by omega) h1 h0
set_option maxHeartbeats 1000000 in
theorem l_X7_fsum {Ln : Nat} {xs : Nat → Int32} {μ : jm_Mem} {Q : Option Value → jm_Mem → Prop} {u : jm_Mem} {x1 x2 : Int32} {n : Nat} {g : Nat → Nat} (hn8 : n ≤ 8) (hw : u 24 18 = nI n) (hg : ∀ i, i < n → u 38 i = nI (g i) ∧ g i < 8) (hk : jm_J rg_I (rg_X Ln xs) 1 mX7_findRound 62 [some (.ref 24), some (.int x1), some (.int x2), some (.int (ly_sum (u 36) g n)), some (.int (nI n))] [] u Q) : ∀ i, i ≤ n → jm_J rg_I (rg_X Ln xs) 1 mX7_findRound 32 [some (.ref 24), some (.int x1), some (.int x2), some (.int (ly_sum (u 36) g i)), some (.int (nI i))] [] u Q := by
  refine jm_for n ?_ ?_
  · skip
    refine jm_iload dX7_findRound_32 rfl rfl ?_
    refine jm_aload_n dX7_findRound_34 rfl rfl rfl ?_
    refine jm_geti dX7_findRound_35 rfl fe_X7_151 rfl rfl rfl ?_
    refine jm_icmp_ge (tgt := 62) dX7_findRound_38 (by decide) rfl (fun c38 => ?_) (fun c38 => absurd (by rw [hw]; exact (nI_leI (by omega) (by omega)).mpr (by omega)) c38)
    exact hk
  · intro i hi ih 
    refine jm_iload dX7_findRound_32 rfl rfl ?_
    refine jm_aload_n dX7_findRound_34 rfl rfl rfl ?_
    refine jm_geti dX7_findRound_35 rfl fe_X7_151 rfl rfl rfl ?_
    refine jm_icmp_ge (tgt := 62) dX7_findRound_38 (by decide) rfl (fun c38 => absurd ((nI_leI (a := n) (b := i) (by omega) (by omega)).mp (by rw [hw] at c38; exact c38)) (by omega)) (fun c38 => ?_)
    refine jm_iload_n dX7_findRound_41 rfl rfl rfl ?_
    refine jm_aload_n dX7_findRound_42 rfl rfl rfl ?_
    refine jm_getr dX7_findRound_43 rfl fe_X7_44 rfl rfl rfl ?_
    refine jm_aload_n dX7_findRound_46 rfl rfl rfl ?_
    refine jm_getr dX7_findRound_47 rfl fe_X7_50 rfl rfl rfl ?_
    refine jm_iload dX7_findRound_50 rfl rfl ?_
    refine jm_iald dX7_findRound_52 rfl rfl rfl (by decide) rfl (by omega) ?_
    refine jm_iald dX7_findRound_53 rfl rfl rfl (by decide) (hg i hi).1 (hg i hi).2 ?_
    refine jm_iadd dX7_findRound_54 rfl ?_
    refine jm_istore_n dX7_findRound_55 rfl rfl rfl rfl ?_
    dsimp only [List.set]
    refine jm_iinc (nI 1) dX7_findRound_56 rfl rfl (by decide) rfl rfl ?_
    dsimp only [List.set]
    refine jm_goto (n := 32) dX7_findRound_59 (by decide) ?_
    rw [nI_add]; exact ih
set_option maxHeartbeats 1000000 in
theorem l_X7_fcopy {Ln : Nat} {xs : Nat → Int32} {μ : jm_Mem} {Q : Option Value → jm_Mem → Prop} {u : jm_Mem} {x1 x2 : Int32} {v3 : Int32} {n : Nat} {g : Nat → Nat} (hn8 : n ≤ 8) (hw : u 24 18 = nI n) (hg : ∀ i, i < n → u 38 i = nI (g i) ∧ g i < 8) (hk : ∀ u', (∀ q, q ≠ 39 → u' q = u q) → (∀ i, i < n → u' 39 i = nI (g i)) → jm_J rg_I (rg_X Ln xs) 1 mX7_findRound 143 [some (.ref 24), some (.int x1), some (.int x2), some (.int v3), some (.int (nI n))] [] u' Q) : ∀ i, i ≤ n → ∀ (w : jm_Mem) (hq : ∀ q, q ≠ 39 → w q = u q) (hc : ∀ k, k < i → w 39 k = nI (g k)), jm_J rg_I (rg_X Ln xs) 1 mX7_findRound 114 [some (.ref 24), some (.int x1), some (.int x2), some (.int v3), some (.int (nI i))] [] w Q := by
  refine jm_for n ?_ ?_
  · intro w hq hc
    refine jm_iload dX7_findRound_114 rfl rfl ?_
    refine jm_aload_n dX7_findRound_116 rfl rfl rfl ?_
    refine jm_geti dX7_findRound_117 rfl fe_X7_151 rfl rfl rfl ?_
    refine jm_icmp_ge (tgt := 143) dX7_findRound_120 (by decide) rfl (fun c120 => ?_) (fun c120 => absurd (by rw [hq 24 (by decide), hw]; exact (nI_leI (by omega) (by omega)).mpr (by omega)) c120)
    exact hk w hq hc
  · intro i hi ih w hq hc
    refine jm_iload dX7_findRound_114 rfl rfl ?_
    refine jm_aload_n dX7_findRound_116 rfl rfl rfl ?_
    refine jm_geti dX7_findRound_117 rfl fe_X7_151 rfl rfl rfl ?_
    refine jm_icmp_ge (tgt := 143) dX7_findRound_120 (by decide) rfl (fun c120 => absurd ((nI_leI (a := n) (b := i) (by omega) (by omega)).mp (by rw [hq 24 (by decide), hw] at c120; exact c120)) (by omega)) (fun c120 => ?_)
    refine jm_aload_n dX7_findRound_123 rfl rfl rfl ?_
    refine jm_getr dX7_findRound_124 rfl fe_X7_53 rfl rfl rfl ?_
    refine jm_iload dX7_findRound_127 rfl rfl ?_
    refine jm_aload_n dX7_findRound_129 rfl rfl rfl ?_
    refine jm_getr dX7_findRound_130 rfl fe_X7_50 rfl rfl rfl ?_
    refine jm_iload dX7_findRound_133 rfl rfl ?_
    refine jm_iald dX7_findRound_135 rfl rfl rfl (by decide) rfl (by omega) ?_
    refine jm_iast dX7_findRound_136 rfl rfl rfl (by decide) rfl (by omega) ?_
    refine jm_iinc (nI 1) dX7_findRound_137 rfl rfl (by decide) rfl rfl ?_
    dsimp only [List.set]
    refine jm_goto (n := 114) dX7_findRound_140 (by decide) ?_
    rw [nI_add, hq 38 (by decide)]
    exact ih _ (fun q h9 => by rw [jm_set_ne q h9]; exact hq q h9) (fun k hk2 => if e9 : k = i then by rw [rd_if, if_pos e9, e9]; exact (hg i hi).1 else by rw [rd_if, if_neg e9]; exact hc k (by omega))
set_option maxHeartbeats 1000000 in
theorem l_X7_frd {Ln : Nat} {xs : Nat → Int32} {μ : jm_Mem} {Q : Option Value → jm_Mem → Prop} {nf : Nat} (hn : μ 24 12 = nI nf) (h8 : nf ≤ 8) (h : ∀ u, fr_M μ u (fr (μ 34) (μ 35) (μ 36) (μ 37) nf (2 ^ nf - 1)) → Q (some (.int (fr (μ 34) (μ 35) (μ 36) (μ 37) nf (2 ^ nf - 1)).1)) u) : ∀ i, i ≤ (2 ^ nf - 1) → ∀ (v3 : Option Value) (v4 : Option Value) (u : jm_Mem) (hM : fr_M μ u (fr (μ 34) (μ 35) (μ 36) (μ 37) nf i)), jm_J rg_I (rg_X Ln xs) 1 mX7_findRound 9 [some (.ref 24), some (.int (fr (μ 34) (μ 35) (μ 36) (μ 37) nf i).1), some (.int (nI (i + 1))), v3, v4] [] u Q := by
  refine jm_for (2 ^ nf - 1) ?_ ?_
  · intro v3 v4 u hM
    have h2n := ly_2n h8
    refine jm_iload_n dX7_findRound_9 rfl rfl rfl ?_
    refine jm_iconst (nI 1) dX7_findRound_10 rfl (by decide) ?_
    refine jm_aload_n dX7_findRound_11 rfl rfl rfl ?_
    refine jm_geti dX7_findRound_12 rfl fe_X7_143 rfl rfl rfl ?_
    refine jm_ishl dX7_findRound_15 rfl ?_
    rw [hM.2.1 12 (by decide) (by decide), hn, ly_shl h8]
    refine jm_icmp_ge (tgt := 149) dX7_findRound_16 (by decide) rfl (fun c16 => ?_) (fun c16 => absurd ((nI_leI (by omega) (by omega)).mpr (by omega)) c16)
    refine jm_iload_n dX7_findRound_149 rfl rfl rfl ?_
    refine jm_iret dX7_findRound_150 rfl rfl ?_
    exact h u hM
  · intro i hi ih v3 v4 u hM
    have h2n := ly_2n h8
    refine jm_iload_n dX7_findRound_9 rfl rfl rfl ?_
    refine jm_iconst (nI 1) dX7_findRound_10 rfl (by decide) ?_
    refine jm_aload_n dX7_findRound_11 rfl rfl rfl ?_
    refine jm_geti dX7_findRound_12 rfl fe_X7_143 rfl rfl rfl ?_
    refine jm_ishl dX7_findRound_15 rfl ?_
    rw [hM.2.1 12 (by decide) (by decide), hn, ly_shl h8]
    refine jm_icmp_ge (tgt := 149) dX7_findRound_16 (by decide) rfl (fun c16 => absurd ((nI_leI (a := 2 ^ nf) (b := i + 1) (by omega) (by omega)).mp c16) (by omega)) (fun c16 => ?_)
    refine jm_aload_n dX7_findRound_19 rfl rfl rfl ?_
    refine jm_iload_n dX7_findRound_20 rfl rfl rfl ?_
    refine jm_cV1 dX7_findRound_21 rfl cb_X7_157 ci_X7_lay cv_X7_lay rfl rfl rfl (Nat.le_of_ble_eq_true rfl) (Nat.le_of_ble_eq_true rfl) (by decide) (s_X7_lay (s := i + 1) (nf := nf) (by rw [hM.2.1 12 (by decide) (by decide)]; exact hn) h8 (by omega) (fun u2 hL cv => ?_) (fun u2 hL cv => ?_))
    · rw [hM.1 34 (by decide) (by decide) (by decide)] at hL
      rw [hM.1 34 (by decide) (by decide) (by decide), hM.1 35 (by decide) (by decide) (by decide), hM.1 37 (by decide) (by decide) (by decide)] at cv
      have hM2 : fr_M μ u2 (fr (μ 34) (μ 35) (μ 36) (μ 37) nf i) := fr_lay hM hL
      have hbd := ly_bd (b := μ 34) (s := i + 1) nf
      refine jm_if_eq (tgt := 143) dX7_findRound_24 (by decide) rfl (fun c24 => absurd c24 (by decide)) (fun c24 => ?_)
      have hgg : ∀ k, k < (ly (μ 34) (i + 1) nf).1 → u2 38 k = nI ((ly (μ 34) (i + 1) nf).2 k) ∧ (ly (μ 34) (i + 1) nf).2 k < 8 := fun k hk => ⟨hL.2.2 k hk, by have := hbd.2 k hk; omega⟩
      have h18 : u2 24 18 = nI (ly (μ 34) (i + 1) nf).1 := hL.2.1
      have h36 : u2 36 = μ 36 := hM2.1 36 (by decide) (by decide) (by decide)
      have hfb := fr_bd (b := μ 34) (e := μ 35) (gn := μ 36) (dd := μ 37) (nf := nf) i
      refine jm_iconst (nI 0) dX7_findRound_27 rfl (by decide) ?_
      refine jm_istore_n dX7_findRound_28 rfl rfl rfl rfl ?_
      dsimp only [List.set]
      refine jm_iconst (nI 0) dX7_findRound_29 rfl (by decide) ?_
      refine jm_istore dX7_findRound_30 rfl rfl rfl ?_
      dsimp only [List.set]
      refine l_X7_fsum (μ := μ) (n := (ly (μ 34) (i + 1) nf).1) (g := (ly (μ 34) (i + 1) nf).2) (u := u2) (by omega) h18 hgg ?_ 0 (by omega)
      rw [h36]
      refine jm_iload_n dX7_findRound_62 rfl rfl rfl ?_
      refine jm_iload_n dX7_findRound_63 rfl rfl rfl ?_
      refine jm_icmp_gt (tgt := 101) dX7_findRound_64 (by decide) rfl (fun c64 => ?_) (fun c64 => ?_)
      · refine jm_iload_n dX7_findRound_101 rfl rfl rfl ?_
        refine jm_istore_n dX7_findRound_102 rfl rfl rfl rfl ?_
        dsimp only [List.set]
        refine jm_aload_n dX7_findRound_103 rfl rfl rfl ?_
        refine jm_aload_n dX7_findRound_104 rfl rfl rfl ?_
        refine jm_geti dX7_findRound_105 rfl fe_X7_151 rfl rfl rfl ?_
        refine jm_puti dX7_findRound_108 rfl pe_X7_154 rfl rfl rfl ?_
        refine jm_iconst (nI 0) dX7_findRound_111 rfl (by decide) ?_
        refine jm_istore dX7_findRound_112 rfl rfl rfl ?_
        dsimp only [List.set]
        have hbt : fr_bt (ly (μ 34) (i + 1) nf).1 (ly (μ 34) (i + 1) nf).2 (ly_sum (μ 36) (ly (μ 34) (i + 1) nf).2 (ly (μ 34) (i + 1) nf).1) (fr (μ 34) (μ 35) (μ 36) (μ 37) nf i) = true := decide_eq_true (Or.inl c64)
        rw [h18]
        refine l_X7_fcopy (μ := μ) (n := (ly (μ 34) (i + 1) nf).1) (g := (ly (μ 34) (i + 1) nf).2) (u := jm_set u2 24 20 (nI (ly (μ 34) (i + 1) nf).1)) (by omega) (by rw [rd_ni (by decide)]; exact h18) (fun k hk => by rw [rd_na (by decide)]; exact hgg k hk) (fun u3 hq hc => ?_) 0 (by omega) _ (fun _ _ => rfl) (fun k hk => absurd hk (by omega))
        refine jm_iinc (nI 1) dX7_findRound_143 rfl rfl (by decide) rfl rfl ?_
        dsimp only [List.set]
        refine jm_goto (n := 9) dX7_findRound_146 (by decide) ?_
        rw [nI_add]
        have e := ih (some (.int (ly_sum (μ 36) (ly (μ 34) (i + 1) nf).2 (ly (μ 34) (i + 1) nf).1))) (some (.int (nI (ly (μ 34) (i + 1) nf).1))) u3
        rw [fr_yes cv hbt] at e
        exact e ⟨fun q q1 q2 q3 => by rw [hq q q2, jm_set_ne q q3]; exact hM2.1 q q1 q2 q3, fun k k1 k2 => by rw [hq 24 (by decide), rd_ni k2]; exact hM2.2.1 k k1 k2, by rw [hq 24 (by decide), rd_eq], hc⟩
      · refine jm_iload_n dX7_findRound_67 rfl rfl rfl ?_
        refine jm_iload_n dX7_findRound_68 rfl rfl rfl ?_
        refine jm_icmp_ne (tgt := 143) dX7_findRound_69 (by decide) rfl (fun c69 => ?_) (fun c69 => ?_)
        · refine jm_iinc (nI 1) dX7_findRound_143 rfl rfl (by decide) rfl rfl ?_
          dsimp only [List.set]
          refine jm_goto (n := 9) dX7_findRound_146 (by decide) ?_
          rw [nI_add]
          have e := ih (some (.int (ly_sum (μ 36) (ly (μ 34) (i + 1) nf).2 (ly (μ 34) (i + 1) nf).1))) (some (.int (nI (ly (μ 34) (i + 1) nf).1))) u2
          rw [fr_no2 (decide_eq_false ?_)] at e
          · exact e hM2
          · rintro (q | ⟨q1, q⟩)
            · exact absurd q c64
            · exact absurd q1 c69
        · refine jm_aload_n dX7_findRound_72 rfl rfl rfl ?_
          refine jm_geti dX7_findRound_73 rfl fe_X7_151 rfl rfl rfl ?_
          refine jm_aload_n dX7_findRound_76 rfl rfl rfl ?_
          refine jm_geti dX7_findRound_77 rfl fe_X7_154 rfl rfl rfl ?_
          rw [h18, hM2.2.2.1]
          refine jm_icmp_lt (tgt := 101) dX7_findRound_80 (by decide) rfl (fun c80 => ?_) (fun c80 => ?_)
          · refine jm_iload_n dX7_findRound_101 rfl rfl rfl ?_
            refine jm_istore_n dX7_findRound_102 rfl rfl rfl rfl ?_
            dsimp only [List.set]
            refine jm_aload_n dX7_findRound_103 rfl rfl rfl ?_
            refine jm_aload_n dX7_findRound_104 rfl rfl rfl ?_
            refine jm_geti dX7_findRound_105 rfl fe_X7_151 rfl rfl rfl ?_
            refine jm_puti dX7_findRound_108 rfl pe_X7_154 rfl rfl rfl ?_
            refine jm_iconst (nI 0) dX7_findRound_111 rfl (by decide) ?_
            refine jm_istore dX7_findRound_112 rfl rfl rfl ?_
            dsimp only [List.set]
            have hbt : fr_bt (ly (μ 34) (i + 1) nf).1 (ly (μ 34) (i + 1) nf).2 (ly_sum (μ 36) (ly (μ 34) (i + 1) nf).2 (ly (μ 34) (i + 1) nf).1) (fr (μ 34) (μ 35) (μ 36) (μ 37) nf i) = true := decide_eq_true (Or.inr ⟨c69, Or.inl ((nI_ltI (by omega) (by omega)).mp c80)⟩)
            rw [h18]
            refine l_X7_fcopy (μ := μ) (n := (ly (μ 34) (i + 1) nf).1) (g := (ly (μ 34) (i + 1) nf).2) (u := jm_set u2 24 20 (nI (ly (μ 34) (i + 1) nf).1)) (by omega) (by rw [rd_ni (by decide)]; exact h18) (fun k hk => by rw [rd_na (by decide)]; exact hgg k hk) (fun u3 hq hc => ?_) 0 (by omega) _ (fun _ _ => rfl) (fun k hk => absurd hk (by omega))
            refine jm_iinc (nI 1) dX7_findRound_143 rfl rfl (by decide) rfl rfl ?_
            dsimp only [List.set]
            refine jm_goto (n := 9) dX7_findRound_146 (by decide) ?_
            rw [nI_add]
            have e := ih (some (.int (ly_sum (μ 36) (ly (μ 34) (i + 1) nf).2 (ly (μ 34) (i + 1) nf).1))) (some (.int (nI (ly (μ 34) (i + 1) nf).1))) u3
            rw [fr_yes cv hbt] at e
            exact e ⟨fun q q1 q2 q3 => by rw [hq q q2, jm_set_ne q q3]; exact hM2.1 q q1 q2 q3, fun k k1 k2 => by rw [hq 24 (by decide), rd_ni k2]; exact hM2.2.1 k k1 k2, by rw [hq 24 (by decide), rd_eq], hc⟩
          · refine jm_aload_n dX7_findRound_83 rfl rfl rfl ?_
            refine jm_geti dX7_findRound_84 rfl fe_X7_151 rfl rfl rfl ?_
            refine jm_aload_n dX7_findRound_87 rfl rfl rfl ?_
            refine jm_geti dX7_findRound_88 rfl fe_X7_154 rfl rfl rfl ?_
            rw [h18, hM2.2.2.1]
            refine jm_icmp_ne (tgt := 143) dX7_findRound_91 (by decide) rfl (fun c91 => ?_) (fun c91 => ?_)
            · refine jm_iinc (nI 1) dX7_findRound_143 rfl rfl (by decide) rfl rfl ?_
              dsimp only [List.set]
              refine jm_goto (n := 9) dX7_findRound_146 (by decide) ?_
              rw [nI_add]
              have e := ih (some (.int (ly_sum (μ 36) (ly (μ 34) (i + 1) nf).2 (ly (μ 34) (i + 1) nf).1))) (some (.int (nI (ly (μ 34) (i + 1) nf).1))) u2
              rw [fr_no2 (decide_eq_false ?_)] at e
              · exact e hM2
              · rintro (q | ⟨q1, q⟩)
                · exact absurd q c64
                · rcases q with q | ⟨q2, q3⟩
                  · exact absurd ((nI_ltI (by omega) (by omega)).mpr q) c80
                  · exact absurd (congrArg nI q2) c91
            · refine jm_aload_n dX7_findRound_94 rfl rfl rfl ?_
              refine jm_cV0 dX7_findRound_95 rfl cb_X7_160 ci_X7_isLess cv_X7_isLess rfl rfl rfl (Nat.le_of_ble_eq_true rfl) (Nat.le_of_ble_eq_true rfl) (by decide) (s_X7_isLess (n := (ly (μ 34) (i + 1) nf).1) (g := (ly (μ 34) (i + 1) nf).2) (h := (fr (μ 34) (μ 35) (μ 36) (μ 37) nf i).2.2) (by omega) h18 hgg (fun k hk => by have e9 := (nI_eq (by omega) (by omega)).mp c91; exact ⟨hM2.2.2.2 k (by omega), by have := hfb.2 k (by omega); omega⟩) (fun cs => ?_) (fun cs => ?_))
              · refine jm_if_eq (tgt := 143) dX7_findRound_98 (by decide) rfl (fun c98 => absurd c98 (by decide)) (fun c98 => ?_)
                refine jm_iload_n dX7_findRound_101 rfl rfl rfl ?_
                refine jm_istore_n dX7_findRound_102 rfl rfl rfl rfl ?_
                dsimp only [List.set]
                refine jm_aload_n dX7_findRound_103 rfl rfl rfl ?_
                refine jm_aload_n dX7_findRound_104 rfl rfl rfl ?_
                refine jm_geti dX7_findRound_105 rfl fe_X7_151 rfl rfl rfl ?_
                refine jm_puti dX7_findRound_108 rfl pe_X7_154 rfl rfl rfl ?_
                refine jm_iconst (nI 0) dX7_findRound_111 rfl (by decide) ?_
                refine jm_istore dX7_findRound_112 rfl rfl rfl ?_
                dsimp only [List.set]
                have hbt : fr_bt (ly (μ 34) (i + 1) nf).1 (ly (μ 34) (i + 1) nf).2 (ly_sum (μ 36) (ly (μ 34) (i + 1) nf).2 (ly (μ 34) (i + 1) nf).1) (fr (μ 34) (μ 35) (μ 36) (μ 37) nf i) = true := decide_eq_true (Or.inr ⟨c69, Or.inr ⟨(nI_eq (by omega) (by omega)).mp c91, cs⟩⟩)
                rw [h18]
                refine l_X7_fcopy (μ := μ) (n := (ly (μ 34) (i + 1) nf).1) (g := (ly (μ 34) (i + 1) nf).2) (u := jm_set u2 24 20 (nI (ly (μ 34) (i + 1) nf).1)) (by omega) (by rw [rd_ni (by decide)]; exact h18) (fun k hk => by rw [rd_na (by decide)]; exact hgg k hk) (fun u3 hq hc => ?_) 0 (by omega) _ (fun _ _ => rfl) (fun k hk => absurd hk (by omega))
                refine jm_iinc (nI 1) dX7_findRound_143 rfl rfl (by decide) rfl rfl ?_
                dsimp only [List.set]
                refine jm_goto (n := 9) dX7_findRound_146 (by decide) ?_
                rw [nI_add]
                have e := ih (some (.int (ly_sum (μ 36) (ly (μ 34) (i + 1) nf).2 (ly (μ 34) (i + 1) nf).1))) (some (.int (nI (ly (μ 34) (i + 1) nf).1))) u3
                rw [fr_yes cv hbt] at e
                exact e ⟨fun q q1 q2 q3 => by rw [hq q q2, jm_set_ne q q3]; exact hM2.1 q q1 q2 q3, fun k k1 k2 => by rw [hq 24 (by decide), rd_ni k2]; exact hM2.2.1 k k1 k2, by rw [hq 24 (by decide), rd_eq], hc⟩
              · refine jm_if_eq (tgt := 143) dX7_findRound_98 (by decide) rfl (fun c98 => ?_) (fun c98 => absurd c98 (by decide))
                refine jm_iinc (nI 1) dX7_findRound_143 rfl rfl (by decide) rfl rfl ?_
                dsimp only [List.set]
                refine jm_goto (n := 9) dX7_findRound_146 (by decide) ?_
                rw [nI_add]
                have e := ih (some (.int (ly_sum (μ 36) (ly (μ 34) (i + 1) nf).2 (ly (μ 34) (i + 1) nf).1))) (some (.int (nI (ly (μ 34) (i + 1) nf).1))) u2
                rw [fr_no2 (decide_eq_false ?_)] at e
                · exact e hM2
                · rintro (q | ⟨q1, q⟩)
                  · exact absurd q c64
                  · rcases q with q | ⟨q2, q3⟩
                    · exact absurd ((nI_ltI (by omega) (by omega)).mpr q) c80
                    · rw [cs] at q3; exact absurd q3 (by decide)
    · rw [hM.1 34 (by decide) (by decide) (by decide)] at hL
      rw [hM.1 34 (by decide) (by decide) (by decide), hM.1 35 (by decide) (by decide) (by decide), hM.1 37 (by decide) (by decide) (by decide)] at cv
      have hM2 : fr_M μ u2 (fr (μ 34) (μ 35) (μ 36) (μ 37) nf i) := fr_lay hM hL
      refine jm_if_eq (tgt := 143) dX7_findRound_24 (by decide) rfl (fun c24 => ?_) (fun c24 => absurd c24 (by decide))
      refine jm_iinc (nI 1) dX7_findRound_143 rfl rfl (by decide) rfl rfl ?_
      dsimp only [List.set]
      refine jm_goto (n := 9) dX7_findRound_146 (by decide) ?_
      have h2n := ly_2n h8
      rw [nI_add]
      have e := ih v3 v4 u2
      rw [fr_no1 cv] at e
      exact e hM2
set_option maxHeartbeats 400000 in
theorem s_X7_findRound {Ln : Nat} {xs : Nat → Int32} {μ : jm_Mem} {Q : Option Value → jm_Mem → Prop} {nf : Nat} (hn : μ 24 12 = nI nf) (h8 : nf ≤ 8) (h : ∀ u, fr_M μ u (fr (μ 34) (μ 35) (μ 36) (μ 37) nf (2 ^ nf - 1)) → Q (some (.int (fr (μ 34) (μ 35) (μ 36) (μ 37) nf (2 ^ nf - 1)).1)) u) : gJ Ln xs 1 mX7_findRound 0 (jm_en 5 [.ref 24]) [] μ Q := by
  show jm_J rg_I (rg_X Ln xs) 1 mX7_findRound 0 [some (.ref 24), none, none, none, none] [] μ Q
  refine jm_iconst (nI 0) dX7_findRound_0 rfl (by decide) ?_
  refine jm_istore_n dX7_findRound_1 rfl rfl rfl rfl ?_
  dsimp only [List.set]
  refine jm_aload_n dX7_findRound_2 rfl rfl rfl ?_
  refine jm_iconst (nI 0) dX7_findRound_3 rfl (by decide) ?_
  refine jm_puti dX7_findRound_4 rfl pe_X7_154 rfl rfl rfl ?_
  refine jm_iconst (nI 1) dX7_findRound_7 rfl (by decide) ?_
  refine jm_istore_n dX7_findRound_8 rfl rfl rfl rfl ?_
  dsimp only [List.set]
  exact l_X7_frd hn h8 h 0 (by have := ly_2n h8; omega) none none _ ⟨fun q q1 q2 q3 => jm_set_ne q q3, fun k k1 k2 => rd_ni k2, rd_eq, fun i hi => absurd hi (by simp [fr])⟩
set_option maxHeartbeats 400000 in
theorem s_X7_earns {Ln : Nat} {xs : Nat → Int32} {μ : jm_Mem} {Q : Option Value → jm_Mem → Prop} {nf : Nat} (hn : μ 24 12 = nI nf) (h8 : nf ≤ 8) (h : ∀ u, fr_M μ u (fr (μ 34) (μ 35) (μ 36) (μ 37) nf (2 ^ nf - 1)) → Q (some (.int (fr (μ 34) (μ 35) (μ 36) (μ 37) nf (2 ^ nf - 1)).1)) u) : gJ Ln xs 2 mX7_earns 0 (jm_en 1 [.ref 24]) [] μ Q := by
  show jm_J rg_I (rg_X Ln xs) 2 mX7_earns 0 [some (.ref 24)] [] μ Q
  refine jm_aload_n dX7_earns_0 rfl rfl rfl ?_
  refine jm_cV0 dX7_earns_1 rfl cb_X7_163 ci_X7_findRound cv_X7_findRound rfl rfl rfl (Nat.le_of_ble_eq_true rfl) (Nat.le_of_ble_eq_true rfl) (by decide) (s_X7_findRound hn h8 (fun u2 hM2 => ?_))
  refine jm_iret dX7_earns_4 rfl rfl ?_
  exact h _ hM2
set_option maxHeartbeats 400000 in
theorem s_X7_round {Ln : Nat} {xs : Nat → Int32} {μ : jm_Mem} {Q : Option Value → jm_Mem → Prop} {nf : Nat} (hn : μ 24 12 = nI nf) (h8 : nf ≤ 8) {k : Int32} (h0 : ((fr (μ 34) (μ 35) (μ 36) (μ 37) nf (2 ^ nf - 1)).1 < 0 ∨ k < 0 ∨ nI (fr (μ 34) (μ 35) (μ 36) (μ 37) nf (2 ^ nf - 1)).2.1 ≤ k) → ∀ u, fr_M μ u (fr (μ 34) (μ 35) (μ 36) (μ 37) nf (2 ^ nf - 1)) → Q (some (.int (-1))) u) (h1 : ∀ i, i < (fr (μ 34) (μ 35) (μ 36) (μ 37) nf (2 ^ nf - 1)).2.1 → k = nI i → ∀ u, fr_M μ u (fr (μ 34) (μ 35) (μ 36) (μ 37) nf (2 ^ nf - 1)) → Q (some (.int (nI ((fr (μ 34) (μ 35) (μ 36) (μ 37) nf (2 ^ nf - 1)).2.2 i)))) u) : gJ Ln xs 2 mX7_round 0 (jm_en 3 [.ref 24, .int k]) [] μ Q := by
  show jm_J rg_I (rg_X Ln xs) 2 mX7_round 0 [some (.ref 24), some (.int k), none] [] μ Q
  refine jm_aload_n dX7_round_0 rfl rfl rfl ?_
  refine jm_cV0 dX7_round_1 rfl cb_X7_163 ci_X7_findRound cv_X7_findRound rfl rfl rfl (Nat.le_of_ble_eq_true rfl) (Nat.le_of_ble_eq_true rfl) (by decide) (s_X7_findRound hn h8 (fun u2 hM2 => ?_))
  have hfb := fr_bd (b := μ 34) (e := μ 35) (gn := μ 36) (dd := μ 37) (nf := nf) (2 ^ nf - 1)
  refine jm_istore_n dX7_round_4 rfl rfl rfl rfl ?_
  dsimp only [List.set]
  refine jm_iload_n dX7_round_5 rfl rfl rfl ?_
  refine jm_if_lt (tgt := 34) dX7_round_6 (by decide) rfl (fun c6 => ?_) (fun c6 => ?_)
  · refine jm_iconst (-1) dX7_round_34 rfl (by decide) ?_
    refine jm_iret dX7_round_35 rfl rfl ?_
    first | exact h0 (Or.inl c6) _ hM2 | exact h0 (Or.inr (rg_depo (by omega) c19)) _ hM2 | exact rd_v (h1 i hi rfl _ hM2) (hM2.2.2.2 i hi) | fail "leaf"
  · refine jm_iload_n dX7_round_9 rfl rfl rfl ?_
    refine jm_i2l dX7_round_10 rfl ?_
    refine jm_lconst 0 dX7_round_11 rfl (by decide) ?_
    refine jm_aload_n dX7_round_12 rfl rfl rfl ?_
    refine jm_geti dX7_round_13 rfl fe_X7_154 rfl rfl rfl ?_
    refine jm_iconst (nI 1) dX7_round_16 rfl (by decide) ?_
    refine jm_isub dX7_round_17 rfl ?_
    refine jm_i2l dX7_round_18 rfl ?_
    refine jm_cS3 dX7_round_19 rfl cb_X7_75 cs_X7_in (Nat.le_of_ble_eq_true rfl) (Nat.le_of_ble_eq_true rfl) (by decide) (s_X7_in k (nI 0) (u2 24 20 - nI 1) rfl (by decide) rfl (fun a19 b19 => ?_) (fun c19 => ?_))
    · rw [hM2.2.2.1] at b19
      obtain ⟨i, hi, rfl⟩ := rg_dep (by omega) a19 b19
      refine jm_if_eq (tgt := 34) dX7_round_22 (by decide) rfl (fun c22 => absurd c22 (by decide)) (fun c22 => ?_)
      refine jm_aload_n dX7_round_25 rfl rfl rfl ?_
      refine jm_getr dX7_round_26 rfl fe_X7_53 rfl rfl rfl ?_
      refine jm_iload_n dX7_round_29 rfl rfl rfl ?_
      refine jm_iald dX7_round_30 rfl rfl rfl (by decide) rfl (by omega) ?_
      refine jm_goto (n := 35) dX7_round_31 (by decide) ?_
      refine jm_iret dX7_round_35 rfl rfl ?_
      first | exact h0 (Or.inl c6) _ hM2 | exact h0 (Or.inr (rg_depo (by omega) c19)) _ hM2 | exact rd_v (h1 i hi rfl _ hM2) (hM2.2.2.2 i hi) | fail "leaf"
    · rw [hM2.2.2.1] at c19
      refine jm_if_eq (tgt := 34) dX7_round_22 (by decide) rfl (fun c22 => ?_) (fun c22 => absurd c22 (by decide))
      refine jm_iconst (-1) dX7_round_34 rfl (by decide) ?_
      refine jm_iret dX7_round_35 rfl rfl ?_
      first | exact h0 (Or.inl c6) _ hM2 | exact h0 (Or.inr (rg_depo (by omega) c19)) _ hM2 | exact rd_v (h1 i hi rfl _ hM2) (hM2.2.2.2 i hi) | fail "leaf"
