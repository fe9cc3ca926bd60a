def sw_t (s : Nat → Bool) (a : Nat) : Nat → Bool := fun k => if k = a then true else s k
def sw_w (m : Nat → Nat) : Nat → Nat → (Nat → Bool) → Nat → Nat × (Nat → Bool)
  | 0, _, s, l => (l, s)
  | n + 1, a, s, l => if s a = true then (l, s) else sw_w m n (m a) (sw_t s a) (l + 1)
def sw_u (s : Nat → Bool) : Nat → Nat
  | 0 => 0
  | n + 1 => sw_u s n + (if s n = true then 0 else 1)
theorem sw_u_ge {s : Nat → Bool} {a : Nat} : ∀ n, n ≤ a → sw_u (sw_t s a) n = sw_u s n
  | 0, _ => rfl
  | n + 1, h => by
    simp only [sw_u, sw_u_ge (s := s) (a := a) n (by omega)]
    rw [show sw_t s a n = s n from if_neg (by omega)]
theorem sw_u_lt {s : Nat → Bool} {a : Nat} (hs : s a = false) : ∀ n, a < n → sw_u (sw_t s a) n + 1 = sw_u s n
  | 0, h => by omega
  | n + 1, h => by
    by_cases e : a = n
    · subst e
      simp only [sw_u, sw_u_ge a (Nat.le_refl a), hs]
      simp [sw_t]
    · have := sw_u_lt hs n (by omega)
      simp only [sw_u, show sw_t s a n = s n from if_neg (Ne.symm e)]
      omega
theorem sw_u_le (s : Nat → Bool) : ∀ n, sw_u s n ≤ n
  | 0 => Nat.le_refl 0
  | n + 1 => by
    have := sw_u_le s n
    simp only [sw_u]
    split <;> omega
def sw_f (m : Nat → Nat) (act : Nat → Bool) : Nat → Int32 × (Nat → Bool)
  | 0 => (0, fun _ => false)
  | n + 1 => if act n = true ∧ (sw_f m act n).2 n = false then ((sw_f m act n).1 + (nI (sw_w m 49 n (sw_f m act n).2 0).1 - nI 1), (sw_w m 49 n (sw_f m act n).2 0).2) else sw_f m act n
theorem sw_f_no {m : Nat → Nat} {act : Nat → Bool} {n : Nat} (h : ¬ (act n = true ∧ (sw_f m act n).2 n = false)) : sw_f m act (n + 1) = sw_f m act n := by
  simp only [sw_f]; rw [if_neg h]
theorem sw_f_yes {m : Nat → Nat} {act : Nat → Bool} {n : Nat} (h : act n = true ∧ (sw_f m act n).2 n = false) : sw_f m act (n + 1) = ((sw_f m act n).1 + (nI (sw_w m 49 n (sw_f m act n).2 0).1 - nI 1), (sw_w m 49 n (sw_f m act n).2 0).2) := by
  simp only [sw_f]; rw [if_pos h]
abbrev sw_C (u : jm_Mem) (m : Nat → Nat) (s : Nat → Bool) : Prop := ∀ k, k < 48 → u 13 k = if s k = true then -1 else nI (m k)
abbrev sw_M (u : jm_Mem) (s : Nat → Bool) : Prop := ∀ k, k < 48 → u 33 k = if s k = true then 1 else 0
theorem sw_C_set {u : jm_Mem} {m : Nat → Nat} {s : Nat → Bool} {a : Nat} (h : sw_C u m s) : sw_C (jm_set u 13 a (-1)) m (sw_t s a) := by
  intro k hk
  rw [rd_if]
  by_cases e : k = a
  · rw [if_pos e, show sw_t s a k = true from if_pos e, if_pos rfl]
  · rw [if_neg e, show sw_t s a k = s k from if_neg e, h k hk]
theorem sw_M_set {u : jm_Mem} {s : Nat → Bool} {a : Nat} (h : sw_M u s) : sw_M (jm_set u 33 a 1) (sw_t s a) := by
  intro k hk
  rw [rd_if]
  by_cases e : k = a
  · rw [if_pos e, show sw_t s a k = true from if_pos e, if_pos rfl]
  · rw [if_neg e, show sw_t s a k = s k from if_neg e, h k hk]
theorem sw_in {a : Nat} (ha : a < 48) : ¬ (nI a < nI 0 ∨ nI 47 < nI a) := fun h => h.elim (fun h => nI_pos (by omega) h) (fun h => absurd ((nI_ltI (by omega) (by omega)).mp h) (by omega))
theorem sw_add (t : Int32) (l : Nat) : t + nI l + nI 1 = t + nI (l + 1) := by rw [Int32.add_assoc, nI_add]
theorem sw_tot (t : Int32) (l : Nat) : t + (-1) + nI l = t + (nI l - nI 1) := by
  rw [Int32.sub_eq_add_neg, Int32.add_assoc, Int32.add_comm (-1) (nI l)]; rfl
set_option maxHeartbeats 1000000 in
theorem l_X3_walk {Ln : Nat} {xs : Nat → Int32} {μ : jm_Mem} {Q : Option Value → jm_Mem → Prop} {m : Nat → Nat} (hm : ∀ k, k < 48 → m k < 48) : ∀ (n a : Nat) (s : Nat → Bool) (l : Nat) (u : jm_Mem) (v1 : Int32) (v4 : Option Value), a < 48 → sw_u s 48 < n → l + sw_u s 48 ≤ 48 → sw_C u m s → (∀ b, b ≠ 13 → u b = μ b) → (∀ μ', (∀ b, b ≠ 13 → μ' b = μ b) → sw_C μ' m (sw_w m n a s l).2 → Q (some (.int (nI (sw_w m n a s l).1))) μ') → jm_J rg_I (rg_X Ln xs) 1 mX3_walkCycle 4 [some (.ref 11), some (.int v1), some (.int (nI a)), some (.int (nI l)), v4] [] u Q := by
  intro n
  induction n with
  | zero => intro a s l u v1 v4 _ h; omega
  | succ n ih =>
    intro a s l u v1 v4 ha hn hl hC hf h
    by_cases hs : s a = true
    · have hv : u 13 a = -1 := by rw [hC a ha, if_pos hs]
      refine jm_iload_n dX3_walkCycle_4 rfl rfl rfl ?_
      refine jm_bipush (nI 48) dX3_walkCycle_5 rfl (by decide) ?_
      refine jm_icmp_ge (tgt := 54) dX3_walkCycle_7 (by decide) rfl (fun c7 => ?_) (fun c7 => ?_)
      · refine jm_iload_n dX3_walkCycle_54 rfl rfl rfl ?_
        refine jm_iret dX3_walkCycle_55 rfl rfl ?_
        have e : sw_w m (n + 1) a s l = (l, s) := if_pos hs
        rw [e] at h
        exact h u hf hC
      · refine jm_iload_n dX3_walkCycle_10 rfl rfl rfl ?_
        refine jm_iconst (nI 0) dX3_walkCycle_11 rfl (by decide) ?_
        refine jm_bipush (nI 47) dX3_walkCycle_12 rfl (by decide) ?_
        refine jm_cS3 dX3_walkCycle_14 rfl cb_X3_32 cs_X6_isWithin (Nat.le_of_ble_eq_true rfl) (Nat.le_of_ble_eq_true rfl) (by decide) (s_X6_isWithin (fun a14 b14 => ?_) (fun c14 => ?_))
        · refine jm_if_eq (tgt := 54) dX3_walkCycle_17 (by decide) rfl (fun c17 => absurd c17 (by decide)) (fun c17 => ?_)
          refine jm_aload_n dX3_walkCycle_20 rfl rfl rfl ?_
          refine jm_getr dX3_walkCycle_21 rfl fe_X3_15 rfl rfl rfl ?_
          refine jm_iload_n dX3_walkCycle_24 rfl rfl rfl ?_
          refine jm_iald dX3_walkCycle_25 rfl rfl rfl (by decide) rfl (by first | assumption | omega) ?_
          refine jm_iconst (-1) dX3_walkCycle_26 rfl (by decide) ?_
          refine jm_icmp_eq (tgt := 54) dX3_walkCycle_27 (by decide) rfl (fun c27 => ?_) (fun c27 => absurd hv c27)
          refine jm_iload_n dX3_walkCycle_54 rfl rfl rfl ?_
          refine jm_iret dX3_walkCycle_55 rfl rfl ?_
          have e : sw_w m (n + 1) a s l = (l, s) := if_pos hs
          rw [e] at h
          exact h u hf hC
        · exact absurd c14 (sw_in ha)
    · have hs' : s a = false := by simpa using hs
      have hv : u 13 a = nI (m a) := by rw [hC a ha, if_neg hs]
      have hu := sw_u_lt hs' 48 ha
      have hl' : l < 48 := by omega
      have hma := hm a ha
      have e : sw_w m (n + 1) a s l = sw_w m n (m a) (sw_t s a) (l + 1) := if_neg hs
      rw [e] at h
      refine jm_iload_n dX3_walkCycle_4 rfl rfl rfl ?_
      refine jm_bipush (nI 48) dX3_walkCycle_5 rfl (by decide) ?_
      refine jm_icmp_ge (tgt := 54) dX3_walkCycle_7 (by decide) rfl (fun c7 => absurd ((nI_leI (by omega) (by omega)).mp c7) (by omega)) (fun c7 => ?_)
      refine jm_iload_n dX3_walkCycle_10 rfl rfl rfl ?_
      refine jm_iconst (nI 0) dX3_walkCycle_11 rfl (by decide) ?_
      refine jm_bipush (nI 47) dX3_walkCycle_12 rfl (by decide) ?_
      refine jm_cS3 dX3_walkCycle_14 rfl cb_X3_32 cs_X6_isWithin (Nat.le_of_ble_eq_true rfl) (Nat.le_of_ble_eq_true rfl) (by decide) (s_X6_isWithin (fun a14 b14 => ?_) (fun c14 => ?_))
      · refine jm_if_eq (tgt := 54) dX3_walkCycle_17 (by decide) rfl (fun c17 => absurd c17 (by decide)) (fun c17 => ?_)
        refine jm_aload_n dX3_walkCycle_20 rfl rfl rfl ?_
        refine jm_getr dX3_walkCycle_21 rfl fe_X3_15 rfl rfl rfl ?_
        refine jm_iload_n dX3_walkCycle_24 rfl rfl rfl ?_
        refine jm_iald dX3_walkCycle_25 rfl rfl rfl (by decide) rfl (by first | assumption | omega) ?_
        refine jm_iconst (-1) dX3_walkCycle_26 rfl (by decide) ?_
        refine jm_icmp_eq (tgt := 54) dX3_walkCycle_27 (by decide) rfl (fun c27 => absurd (hv ▸ c27) (rg_nm1 (by omega))) (fun c27 => ?_)
        refine jm_aload_n dX3_walkCycle_30 rfl rfl rfl ?_
        refine jm_getr dX3_walkCycle_31 rfl fe_X3_15 rfl rfl rfl ?_
        refine jm_iload_n dX3_walkCycle_34 rfl rfl rfl ?_
        refine jm_iald dX3_walkCycle_35 rfl rfl rfl (by decide) rfl (by first | assumption | omega) ?_
        refine jm_istore dX3_walkCycle_36 rfl rfl rfl ?_
        dsimp only [List.set]
        refine jm_aload_n dX3_walkCycle_38 rfl rfl rfl ?_
        refine jm_getr dX3_walkCycle_39 rfl fe_X3_15 rfl rfl rfl ?_
        refine jm_iload_n dX3_walkCycle_42 rfl rfl rfl ?_
        refine jm_iconst (-1) dX3_walkCycle_43 rfl (by decide) ?_
        refine jm_iast dX3_walkCycle_44 rfl rfl rfl (by decide) rfl (by first | assumption | omega) ?_
        refine jm_iload dX3_walkCycle_45 rfl rfl ?_
        refine jm_istore_n dX3_walkCycle_47 rfl rfl rfl rfl ?_
        dsimp only [List.set]
        refine jm_iinc (nI 1) dX3_walkCycle_48 rfl rfl (by decide) rfl rfl ?_
        dsimp only [List.set]
        refine jm_goto (n := 4) dX3_walkCycle_51 (by decide) ?_
        rw [nI_add, hv]
        exact ih (m a) (sw_t s a) (l + 1) _ v1 _ hma (by omega) (by omega) (sw_C_set hC) (fun b hb => by rw [jm_set_ne b hb]; exact hf b hb) h
      · exact absurd c14 (sw_in ha)
set_option maxHeartbeats 400000 in
theorem s_X3_walkCycle {Ln : Nat} {xs : Nat → Int32} {μ : jm_Mem} {Q : Option Value → jm_Mem → Prop} {a : Nat} {m : Nat → Nat} {s : Nat → Bool} (hm : ∀ k, k < 48 → m k < 48) (ha : a < 48) (hC : sw_C μ m s) (h : ∀ μ', (∀ b, b ≠ 13 → μ' b = μ b) → sw_C μ' m (sw_w m 49 a s 0).2 → Q (some (.int (nI (sw_w m 49 a s 0).1))) μ') : gJ Ln xs 1 mX3_walkCycle 0 (jm_en 5 [.ref 11, .int (nI a)]) [] μ Q := by
  show jm_J rg_I (rg_X Ln xs) 1 mX3_walkCycle 0 [some (.ref 11), some (.int (nI a)), none, none, none] [] μ Q
  refine jm_iload_n dX3_walkCycle_0 rfl rfl rfl ?_
  refine jm_istore_n dX3_walkCycle_1 rfl rfl rfl rfl ?_
  dsimp only [List.set]
  refine jm_iconst (nI 0) dX3_walkCycle_2 rfl (by decide) ?_
  refine jm_istore_n dX3_walkCycle_3 rfl rfl rfl rfl ?_
  dsimp only [List.set]
  exact l_X3_walk hm 49 a s 0 μ _ none ha (by have := sw_u_le s 48; omega) (by have := sw_u_le s 48; omega) hC (fun _ _ => rfl) h
set_option maxHeartbeats 1000000 in
theorem l_X3_few {Ln : Nat} {xs : Nat → Int32} {μ : jm_Mem} {Q : Option Value → jm_Mem → Prop} {m : Nat → Nat} (hm : ∀ k, k < 48 → m k < 48) (h : ∀ μ', (∀ b, b ≠ 13 → μ' b = μ b) → Q (some (.int (sw_f m (fun _ => true) 48).1)) μ') : ∀ i, i ≤ 48 → ∀ (u : jm_Mem) (hf : ∀ b, b ≠ 13 → u b = μ b) (hC : sw_C u m (sw_f m (fun _ => true) i).2), jm_J rg_I (rg_X Ln xs) 2 mX3_fewestSwaps 19 [some (.ref 11), some (.int (sw_f m (fun _ => true) i).1), some (.int (nI i))] [] u Q := by
  refine jm_for 48 ?_ ?_
  · intro u hf hC
    refine jm_iload_n dX3_fewestSwaps_19 rfl rfl rfl ?_
    refine jm_bipush (nI 48) dX3_fewestSwaps_20 rfl (by decide) ?_
    refine jm_icmp_ge (tgt := 51) dX3_fewestSwaps_22 (by decide) rfl (fun c22 => ?_) (fun c22 => absurd ((nI_leI (by omega) (by omega)).mpr (Nat.le_refl _)) c22)
    refine jm_iload_n dX3_fewestSwaps_51 rfl rfl rfl ?_
    refine jm_iret dX3_fewestSwaps_52 rfl rfl ?_
    exact h u hf
  · intro i hi ih u hf hC
    refine jm_iload_n dX3_fewestSwaps_19 rfl rfl rfl ?_
    refine jm_bipush (nI 48) dX3_fewestSwaps_20 rfl (by decide) ?_
    refine jm_icmp_ge (tgt := 51) dX3_fewestSwaps_22 (by decide) rfl (fun c22 => absurd ((nI_leI (by omega) (by omega)).mp c22) (by omega)) (fun c22 => ?_)
    refine jm_aload_n dX3_fewestSwaps_25 rfl rfl rfl ?_
    refine jm_getr dX3_fewestSwaps_26 rfl fe_X3_15 rfl rfl rfl ?_
    refine jm_iload_n dX3_fewestSwaps_29 rfl rfl rfl ?_
    refine jm_iald dX3_fewestSwaps_30 rfl rfl rfl (by decide) rfl (by first | assumption | omega) ?_
    refine jm_iconst (-1) dX3_fewestSwaps_31 rfl (by decide) ?_
    refine jm_icmp_eq (tgt := 45) dX3_fewestSwaps_32 (by decide) rfl (fun c32 => ?_) (fun c32 => ?_)
    · refine jm_iinc (nI 1) dX3_fewestSwaps_45 rfl rfl (by decide) rfl rfl ?_
      dsimp only [List.set]
      refine jm_goto (n := 19) dX3_fewestSwaps_48 (by decide) ?_
      rw [nI_add]
      first | (have e := ih u2 (fun b hb => by rw [hf2 b hb]; exact hf b hb); rw [sw_f_yes ⟨rfl, hz⟩] at e; exact e hC2) | (have hz : (sw_f m (fun _ => true) i).2 i = true := (by cases hb : (sw_f m (fun _ => true) i).2 i with | true => rfl | false => exact absurd (by rw [hC i hi, hb] at c32; exact c32) (rg_nm1 (by have := hm i hi; omega))); have e := ih u hf; rw [sw_f_no (fun h9 => by rw [hz] at h9; exact absurd h9.2 (by decide))] at e; exact e hC) | fail "stop"
    · have hz : (sw_f m (fun _ => true) i).2 i = false := by
        cases hb : (sw_f m (fun _ => true) i).2 i with
        | false => rfl
        | true => exact absurd (by rw [hC i hi, hb]; rfl) c32
      refine jm_iload_n dX3_fewestSwaps_35 rfl rfl rfl ?_
      refine jm_aload_n dX3_fewestSwaps_36 rfl rfl rfl ?_
      refine jm_iload_n dX3_fewestSwaps_37 rfl rfl rfl ?_
      refine jm_cV1 dX3_fewestSwaps_38 rfl cb_X3_28 ci_X3_walkCycle cv_X3_walkCycle rfl rfl rfl (Nat.le_of_ble_eq_true rfl) (Nat.le_of_ble_eq_true rfl) (by decide) (s_X3_walkCycle hm hi hC (fun u2 hf2 hC2 => ?_))
      refine jm_iconst (nI 1) dX3_fewestSwaps_41 rfl (by decide) ?_
      refine jm_isub dX3_fewestSwaps_42 rfl ?_
      refine jm_iadd dX3_fewestSwaps_43 rfl ?_
      refine jm_istore_n dX3_fewestSwaps_44 rfl rfl rfl rfl ?_
      dsimp only [List.set]
      refine jm_iinc (nI 1) dX3_fewestSwaps_45 rfl rfl (by decide) rfl rfl ?_
      dsimp only [List.set]
      refine jm_goto (n := 19) dX3_fewestSwaps_48 (by decide) ?_
      rw [nI_add]
      first | (have e := ih u2 (fun b hb => by rw [hf2 b hb]; exact hf b hb); rw [sw_f_yes ⟨rfl, hz⟩] at e; exact e hC2) | (have hz : (sw_f m (fun _ => true) i).2 i = true := (by cases hb : (sw_f m (fun _ => true) i).2 i with | true => rfl | false => exact absurd (by rw [hC i hi, hb] at c32; exact c32) (rg_nm1 (by have := hm i hi; omega))); have e := ih u hf; rw [sw_f_no (fun h9 => by rw [hz] at h9; exact absurd h9.2 (by decide))] at e; exact e hC) | fail "stop"
set_option maxHeartbeats 400000 in
theorem s_X3_fewestSwaps {Ln : Nat} {xs : Nat → Int32} {μ : jm_Mem} {Q : Option Value → jm_Mem → Prop} {m : Nat → Nat} (hm : ∀ k, k < 48 → m k < 48) (hμ : ∀ k, k < 48 → μ 12 k = nI (m k)) (h : ∀ μ', (∀ b, b ≠ 13 → μ' b = μ b) → Q (some (.int (sw_f m (fun _ => true) 48).1)) μ') : gJ Ln xs 2 mX3_fewestSwaps 0 (jm_en 3 [.ref 11]) [] μ Q := by
  show jm_J rg_I (rg_X Ln xs) 2 mX3_fewestSwaps 0 [some (.ref 11), none, none] [] μ Q
  refine jm_aload_n dX3_fewestSwaps_0 rfl rfl rfl ?_
  refine jm_getr dX3_fewestSwaps_1 rfl fe_X3_9 rfl rfl rfl ?_
  refine jm_iconst (nI 0) dX3_fewestSwaps_4 rfl (by decide) ?_
  refine jm_aload_n dX3_fewestSwaps_5 rfl rfl rfl ?_
  refine jm_getr dX3_fewestSwaps_6 rfl fe_X3_15 rfl rfl rfl ?_
  refine jm_iconst (nI 0) dX3_fewestSwaps_9 rfl (by decide) ?_
  refine jm_bipush (nI 48) dX3_fewestSwaps_10 rfl (by decide) ?_
  refine jm_copy dX3_fewestSwaps_12 rfl nl_X3_22 nc_nat nc_st nc_in (Nat.le_of_ble_eq_true rfl) rfl rfl rfl rfl (by decide) (by decide) rfl rfl rfl (by omega) (by omega) ?_
  refine jm_iconst (nI 0) dX3_fewestSwaps_15 rfl (by decide) ?_
  refine jm_istore_n dX3_fewestSwaps_16 rfl rfl rfl rfl ?_
  dsimp only [List.set]
  refine jm_iconst (nI 0) dX3_fewestSwaps_17 rfl (by decide) ?_
  refine jm_istore_n dX3_fewestSwaps_18 rfl rfl rfl rfl ?_
  dsimp only [List.set]
  refine l_X3_few hm h 0 (by omega) _ (fun b hb => jm_arr_ne b hb) (fun k hk => ?_)
  rw [jm_arr_eq, pk_cpy_in (by omega) (by omega), show 0 + (k - 0) = k by omega, hμ k hk]
  exact (if_neg (fun h9 => Bool.noConfusion h9)).symm
set_option maxHeartbeats 400000 in
theorem s_X6_swaps {Ln : Nat} {xs : Nat → Int32} {μ : jm_Mem} {Q : Option Value → jm_Mem → Prop} {m : Nat → Nat} (hm : ∀ k, k < 48 → m k < 48) (hμ : ∀ k, k < 48 → μ 12 k = nI (m k)) (h : ∀ μ', (∀ b, b ≠ 13 → μ' b = μ b) → Q (some (.int (sw_f m (fun _ => true) 48).1)) μ') : gJ Ln xs 3 mX6_swaps 0 (jm_en 1 [.ref 0]) [] μ Q := by
  show jm_J rg_I (rg_X Ln xs) 3 mX6_swaps 0 [some (.ref 0)] [] μ Q
  refine jm_aload_n dX6_swaps_0 rfl rfl rfl ?_
  refine jm_getr dX6_swaps_1 rfl fe_X6_33 rfl rfl rfl ?_
  refine jm_cV0 dX6_swaps_4 rfl cb_X6_176 ci_X3_fewestSwaps cv_X3_fewestSwaps rfl rfl rfl (Nat.le_of_ble_eq_true rfl) (Nat.le_of_ble_eq_true rfl) (by decide) (s_X3_fewestSwaps hm hμ (fun u2 hf2 => ?_))
  refine jm_iret dX6_swaps_7 rfl rfl ?_
  exact h _ hf2
set_option maxHeartbeats 1000000 in
theorem l_X7_walk {Ln : Nat} {xs : Nat → Int32} {μ : jm_Mem} {Q : Option Value → jm_Mem → Prop} {m : Nat → Nat} {act : Nat → Bool} (hm : ∀ k, k < 48 → m k < 48) (hA : ∀ k, k < 48 → act k = true → μ 31 k = nI (m k) ∧ act (m k) = true) {j : Nat} {t : Int32} : ∀ (n a : Nat) (s : Nat → Bool) (l : Nat) (u : jm_Mem), a < 48 → act a = true → sw_u s 48 < n → sw_M u s → (∀ b, b ≠ 33 → u b = μ b) → (∀ μ' a', (∀ b, b ≠ 33 → μ' b = μ b) → sw_M μ' (sw_w m n a s l).2 → jm_J rg_I (rg_X Ln xs) 0 mX7_swaps 85 [some (.ref 24), some (.int (t + nI (sw_w m n a s l).1)), some (.int (nI j)), some (.int a')] [] μ' Q) → jm_J rg_I (rg_X Ln xs) 0 mX7_swaps 56 [some (.ref 24), some (.int (t + nI l)), some (.int (nI j)), some (.int (nI a))] [] u Q := by
  intro n
  induction n with
  | zero => intro a s l u _ _ h; omega
  | succ n ih =>
    intro a s l u ha hact hn hC hf h
    by_cases hs : s a = true
    · have hv : u 33 a = 1 := by rw [hC a ha, if_pos hs]
      have e : sw_w m (n + 1) a s l = (l, s) := if_pos hs
      rw [e] at h
      refine jm_aload_n dX7_swaps_56 rfl rfl rfl ?_
      refine jm_getr dX7_swaps_57 rfl fe_X7_34 rfl rfl rfl ?_
      refine jm_iload_n dX7_swaps_60 rfl rfl rfl ?_
      refine jm_zald dX7_swaps_61 rfl rfl rfl (by decide) rfl (by first | assumption | omega) ?_
      refine jm_if_ne (tgt := 85) dX7_swaps_62 (by decide) rfl (fun c62 => ?_) (fun c62 => absurd (hv ▸ c62) (by decide))
      exact h u _ hf hC
    · have hs' : s a = false := by simpa using hs
      have hv : u 33 a = 0 := by rw [hC a ha, if_neg hs]
      have hu := sw_u_lt hs' 48 ha
      have hma := hm a ha
      obtain ⟨hk1, hk2⟩ := hA a ha hact
      have hk3 : jm_set u 33 a 1 31 a = nI (m a) := by rw [rd_na (by decide), hf 31 (by decide)]; exact hk1
      have e : sw_w m (n + 1) a s l = sw_w m n (m a) (sw_t s a) (l + 1) := if_neg hs
      rw [e] at h
      refine jm_aload_n dX7_swaps_56 rfl rfl rfl ?_
      refine jm_getr dX7_swaps_57 rfl fe_X7_34 rfl rfl rfl ?_
      refine jm_iload_n dX7_swaps_60 rfl rfl rfl ?_
      refine jm_zald dX7_swaps_61 rfl rfl rfl (by decide) rfl (by first | assumption | omega) ?_
      refine jm_if_ne (tgt := 85) dX7_swaps_62 (by decide) rfl (fun c62 => absurd hv c62) (fun c62 => ?_)
      refine jm_aload_n dX7_swaps_65 rfl rfl rfl ?_
      refine jm_getr dX7_swaps_66 rfl fe_X7_34 rfl rfl rfl ?_
      refine jm_iload_n dX7_swaps_69 rfl rfl rfl ?_
      refine jm_iconst (nI 1) dX7_swaps_70 rfl (by decide) ?_
      refine jm_zast dX7_swaps_71 rfl rfl rfl (by decide) rfl (by first | assumption | omega) (by decide) ?_
      refine jm_aload_n dX7_swaps_72 rfl rfl rfl ?_
      refine jm_getr dX7_swaps_73 rfl fe_X7_28 rfl rfl rfl ?_
      refine jm_iload_n dX7_swaps_76 rfl rfl rfl ?_
      refine jm_iald dX7_swaps_77 rfl rfl rfl (by decide) rfl (by first | assumption | omega) ?_
      refine jm_istore_n dX7_swaps_78 rfl rfl rfl rfl ?_
      dsimp only [List.set]
      refine jm_iinc (nI 1) dX7_swaps_79 rfl rfl (by decide) rfl rfl ?_
      dsimp only [List.set]
      refine jm_goto (n := 56) dX7_swaps_82 (by decide) ?_
      rw [sw_add, show jm_set u 33 a (nI 1) 31 a = nI (m a) from hk3]
      exact ih (m a) (sw_t s a) (l + 1) _ hma hk2 (by omega) (sw_M_set hC) (fun b hb => by rw [jm_set_ne b hb]; exact hf b hb) h
set_option maxHeartbeats 1000000 in
theorem l_X7_few {Ln : Nat} {xs : Nat → Int32} {μ : jm_Mem} {Q : Option Value → jm_Mem → Prop} {m : Nat → Nat} {act : Nat → Bool} (hm : ∀ k, k < 48 → m k < 48) (hA : ∀ k, k < 48 → act k = true → μ 31 k = nI (m k) ∧ act (m k) = true) (hM : ∀ k, k < 48 → (act k = true ↔ ¬ μ 27 (k / 4) ≤ 0)) (h : ∀ μ', (∀ b, b ≠ 33 → μ' b = μ b) → Q (some (.int (sw_f m act 48).1)) μ') : ∀ i, i ≤ 48 → ∀ (v3 : Option Value) (u : jm_Mem) (hf : ∀ b, b ≠ 33 → u b = μ b) (hC : sw_M u (sw_f m act i).2), jm_J rg_I (rg_X Ln xs) 0 mX7_swaps 25 [some (.ref 24), some (.int (sw_f m act i).1), some (.int (nI i)), v3] [] u Q := by
  refine jm_for 48 ?_ ?_
  · intro v3 u hf hC
    refine jm_iload_n dX7_swaps_25 rfl rfl rfl ?_
    refine jm_bipush (nI 48) dX7_swaps_26 rfl (by decide) ?_
    refine jm_icmp_ge (tgt := 91) dX7_swaps_28 (by decide) rfl (fun c28 => ?_) (fun c28 => absurd ((nI_leI (by omega) (by omega)).mpr (Nat.le_refl _)) c28)
    refine jm_iload_n dX7_swaps_91 rfl rfl rfl ?_
    refine jm_iret dX7_swaps_92 rfl rfl ?_
    exact h u hf
  · intro i hi ih v3 u hf hC
    refine jm_iload_n dX7_swaps_25 rfl rfl rfl ?_
    refine jm_bipush (nI 48) dX7_swaps_26 rfl (by decide) ?_
    refine jm_icmp_ge (tgt := 91) dX7_swaps_28 (by decide) rfl (fun c28 => absurd ((nI_leI (by omega) (by omega)).mp c28) (by omega)) (fun c28 => ?_)
    refine jm_aload_n dX7_swaps_31 rfl rfl rfl ?_
    refine jm_getr dX7_swaps_32 rfl fe_X7_16 rfl rfl rfl ?_
    refine jm_iload_n dX7_swaps_35 rfl rfl rfl ?_
    refine jm_iconst (nI 4) dX7_swaps_36 rfl (by decide) ?_
    refine jm_idiv dX7_swaps_37 rfl (by decide) ?_
    refine jm_iald dX7_swaps_38 rfl rfl rfl (by decide) (pk_div (by omega) (by decide) (by decide)) (by omega) ?_
    refine jm_if_le (tgt := 85) dX7_swaps_39 (by decide) rfl (fun c39 => ?_) (fun c39 => ?_)
    · refine jm_iinc (nI 1) dX7_swaps_85 rfl rfl (by decide) rfl rfl ?_
      dsimp only [List.set]
      refine jm_goto (n := 25) dX7_swaps_88 (by decide) ?_
      rw [nI_add]
      first | (rw [hf 27 (by decide)] at c39; have e := ih v3 u hf; rw [sw_f_no (fun h9 => absurd c39 ((hM i hi).mp h9.1))] at e; exact e hC) | (have hz : (sw_f m act i).2 i = true := (by cases hb : (sw_f m act i).2 i with | true => rfl | false => exact absurd (by rw [hC i hi, hb]; rfl) c48); have e := ih v3 u hf; rw [sw_f_no (fun h9 => by rw [hz] at h9; exact absurd h9.2 (by decide))] at e; exact e hC) | fail "stop"
    · rw [hf 27 (by decide)] at c39
      refine jm_aload_n dX7_swaps_42 rfl rfl rfl ?_
      refine jm_getr dX7_swaps_43 rfl fe_X7_34 rfl rfl rfl ?_
      refine jm_iload_n dX7_swaps_46 rfl rfl rfl ?_
      refine jm_zald dX7_swaps_47 rfl rfl rfl (by decide) rfl (by first | assumption | omega) ?_
      refine jm_if_ne (tgt := 85) dX7_swaps_48 (by decide) rfl (fun c48 => ?_) (fun c48 => ?_)
      · refine jm_iinc (nI 1) dX7_swaps_85 rfl rfl (by decide) rfl rfl ?_
        dsimp only [List.set]
        refine jm_goto (n := 25) dX7_swaps_88 (by decide) ?_
        rw [nI_add]
        first | (rw [hf 27 (by decide)] at c39; have e := ih v3 u hf; rw [sw_f_no (fun h9 => absurd c39 ((hM i hi).mp h9.1))] at e; exact e hC) | (have hz : (sw_f m act i).2 i = true := (by cases hb : (sw_f m act i).2 i with | true => rfl | false => exact absurd (by rw [hC i hi, hb]; rfl) c48); have e := ih v3 u hf; rw [sw_f_no (fun h9 => by rw [hz] at h9; exact absurd h9.2 (by decide))] at e; exact e hC) | fail "stop"
      · have hz : (sw_f m act i).2 i = false := by
          cases hb : (sw_f m act i).2 i with
          | false => rfl
          | true => exact absurd c48 (by rw [hC i hi, hb]; decide)
        have hact : act i = true := (hM i hi).mpr c39
        refine jm_iload_n dX7_swaps_51 rfl rfl rfl ?_
        refine jm_istore_n dX7_swaps_52 rfl rfl rfl rfl ?_
        dsimp only [List.set]
        refine jm_iinc (-1) dX7_swaps_53 rfl rfl (by decide) rfl rfl ?_
        dsimp only [List.set]
        rw [show (sw_f m act i).1 + (-1) = (sw_f m act i).1 + (-1) + nI 0 from (Int32.add_zero _).symm]
        refine l_X7_walk hm hA 49 i (sw_f m act i).2 0 u hi hact (by have := sw_u_le (sw_f m act i).2 48; omega) hC hf (fun u2 a2 hf2 hC2 => ?_)
        refine jm_iinc (nI 1) dX7_swaps_85 rfl rfl (by decide) rfl rfl ?_
        dsimp only [List.set]
        refine jm_goto (n := 25) dX7_swaps_88 (by decide) ?_
        rw [nI_add, sw_tot]
        have e := ih (some (.int a2)) u2 hf2
        rw [sw_f_yes ⟨hact, hz⟩] at e
        exact e hC2
set_option maxHeartbeats 1000000 in
theorem l_X7_clear {Ln : Nat} {xs : Nat → Int32} {μ : jm_Mem} {Q : Option Value → jm_Mem → Prop}  (hk : ∀ u, (∀ b, b ≠ 33 → u b = μ b) → (∀ k, k < 48 → u 33 k = 0) → jm_J rg_I (rg_X Ln xs) 0 mX7_swaps 21 [some (.ref 24), some (.int (nI 48)), none, none] [] u Q) : ∀ i, i ≤ 48 → ∀ (u : jm_Mem) (hf : ∀ b, b ≠ 33 → u b = μ b) (hz : ∀ k, k < i → u 33 k = 0), jm_J rg_I (rg_X Ln xs) 0 mX7_swaps 2 [some (.ref 24), some (.int (nI i)), none, none] [] u Q := by
  refine jm_for 48 ?_ ?_
  · intro u hf hz
    refine jm_iload_n dX7_swaps_2 rfl rfl rfl ?_
    refine jm_bipush (nI 48) dX7_swaps_3 rfl (by decide) ?_
    refine jm_icmp_ge (tgt := 21) dX7_swaps_5 (by decide) rfl (fun c5 => ?_) (fun c5 => absurd ((nI_leI (by omega) (by omega)).mpr (Nat.le_refl _)) c5)
    exact hk u hf hz
  · intro i hi ih u hf hz
    refine jm_iload_n dX7_swaps_2 rfl rfl rfl ?_
    refine jm_bipush (nI 48) dX7_swaps_3 rfl (by decide) ?_
    refine jm_icmp_ge (tgt := 21) dX7_swaps_5 (by decide) rfl (fun c5 => absurd ((nI_leI (by omega) (by omega)).mp c5) (by omega)) (fun c5 => ?_)
    refine jm_aload_n dX7_swaps_8 rfl rfl rfl ?_
    refine jm_getr dX7_swaps_9 rfl fe_X7_34 rfl rfl rfl ?_
    refine jm_iload_n dX7_swaps_12 rfl rfl rfl ?_
    refine jm_iconst (nI 0) dX7_swaps_13 rfl (by decide) ?_
    refine jm_zast dX7_swaps_14 rfl rfl rfl (by decide) rfl (by first | assumption | omega) (by decide) ?_
    refine jm_iinc (nI 1) dX7_swaps_15 rfl rfl (by decide) rfl rfl ?_
    dsimp only [List.set]
    refine jm_goto (n := 2) dX7_swaps_18 (by decide) ?_
    rw [nI_add]
    exact ih _ (fun b hb => by rw [jm_set_ne b hb]; exact hf b hb) (fun k hk2 => by rw [rd_if]; split; rfl; exact hz k (by omega))
set_option maxHeartbeats 1000000 in
theorem s_X7_swaps {Ln : Nat} {xs : Nat → Int32} {μ : jm_Mem} {Q : Option Value → jm_Mem → Prop} {m : Nat → Nat} {act : Nat → Bool} (hm : ∀ k, k < 48 → m k < 48) (hA : ∀ k, k < 48 → act k = true → μ 31 k = nI (m k) ∧ act (m k) = true) (hM : ∀ k, k < 48 → (act k = true ↔ ¬ μ 27 (k / 4) ≤ 0)) (h : ∀ μ', (∀ b, b ≠ 33 → μ' b = μ b) → Q (some (.int (sw_f m act 48).1)) μ') : gJ Ln xs 0 mX7_swaps 0 (jm_en 4 [.ref 24]) [] μ Q := by
  show jm_J rg_I (rg_X Ln xs) 0 mX7_swaps 0 [some (.ref 24), none, none, none] [] μ Q
  refine jm_iconst (nI 0) dX7_swaps_0 rfl (by decide) ?_
  refine jm_istore_n dX7_swaps_1 rfl rfl rfl rfl ?_
  dsimp only [List.set]
  refine l_X7_clear (fun u hf hz => ?_) 0 (by omega) μ (fun _ _ => rfl) (fun k h9 => absurd h9 (by omega))
  refine jm_iconst (nI 0) dX7_swaps_21 rfl (by decide) ?_
  refine jm_istore_n dX7_swaps_22 rfl rfl rfl rfl ?_
  dsimp only [List.set]
  refine jm_iconst (nI 0) dX7_swaps_23 rfl (by decide) ?_
  refine jm_istore_n dX7_swaps_24 rfl rfl rfl rfl ?_
  dsimp only [List.set]
  exact l_X7_few hm hA hM h 0 (by omega) none u hf (fun k hk => by rw [hz k hk]; rfl)
