/-! rounds: what the class's plan finds is the best of all chains -/
def Ch (b e dd : Nat → Int32) (nf : Nat) : Option Nat → List Nat → Prop
  | _, [] => True
  | o, i :: t => i < nf ∧ fk b e dd o i = true ∧ Ch b e dd nf (some i) t
def sm (gn : Nat → Int32) : List Nat → Int
  | [] => 0
  | i :: t => (gn i).toInt + sm gn t
def lx : List Nat → List Nat → Bool
  | a :: s, b :: t => if a = b then lx s t else decide (a < b)
  | _, _ => false
/-- d is worse than c -/
def wo (gn : Nat → Int32) (d c : List Nat) : Prop := sm gn d < sm gn c ∨ (sm gn d = sm gn c ∧ (c.length < d.length ∨ (c.length = d.length ∧ lx c d = true)))
theorem ch_len {b e gn dd : Nat → Int32} {nf : Nat} (H : FH b e gn dd nf) : ∀ (c : List Nat) (i : Nat), i < nf → Ch b e dd nf (some i) c → c.length ≤ rk b (b i) nf
  | [], _, _, _ => Nat.zero_le _
  | j :: t, i, hi, h => by
    obtain ⟨h1, h2, h3⟩ := h
    have := ch_len H t j h1 h3
    have := rk_lt (fk_lt H hi h1 h2) nf h1
    simp only [List.length_cons]
    omega
theorem ch_len0 {b e gn dd : Nat → Int32} {nf : Nat} (H : FH b e gn dd nf) : ∀ (c : List Nat), Ch b e dd nf none c → c.length ≤ nf
  | [], _ => Nat.zero_le _
  | j :: t, h => by
    obtain ⟨h1, h2, h3⟩ := h
    have := ch_len H t j h1 h3
    have := rk_self (b := b) nf h1
    simp only [List.length_cons]
    omega
theorem ch_sm {b e gn dd : Nat → Int32} {nf : Nat} (H : FH b e gn dd nf) : ∀ (c : List Nat) (o : Option Nat), Ch b e dd nf o c → 0 ≤ sm gn c ∧ sm gn c ≤ 10000 * c.length
  | [], _, _ => by simp [sm]
  | j :: t, o, h => by
    obtain ⟨h1, h2, h3⟩ := h
    have := ch_sm H t (some j) h3
    obtain ⟨-, -, -, g1, g2⟩ := H.2.1 j h1
    simp only [sm, List.length_cons]
    omega
def pth (u : jm_Mem) (nf : Nat) : Nat → Option Nat → List Nat
  | 0, _ => []
  | k + 1, o => match rf_bb u o nf with
    | none => []
    | some j => j :: pth u nf k (some j)
theorem bt_n {u : jm_Mem} {n : Nat} {o : Option Nat} : rf_bt u n o = true ↔ (rf_g u o).toInt < (u 19 n).toInt ∨ ((u 19 n).toInt = (rf_g u o).toInt ∧ (u 20 n).toInt < (rf_l u o).toInt) := by
  unfold rf_bt
  rw [decide_eq_true_iff, Int32.lt_iff_toInt_lt, Int32.lt_iff_toInt_lt, Int32.toInt_inj]
theorem bb_sp {u : jm_Mem} {o : Option Nat} : ∀ n, (rf_bb u o n = none → ∀ j, j < n → rf_mf u o j = true → ¬ rf_bt u j none = true) ∧ ∀ s, rf_bb u o n = some s → rf_bt u s none = true ∧ (∀ j, j < n → rf_mf u o j = true → ¬ rf_bt u j (some s) = true) ∧ ∀ j, j < s → rf_mf u o j = true → rf_bt u s (some j) = true := by
  intro n
  induction n with
  | zero => exact ⟨fun _ j hj => by omega, fun s h => (by cases h)⟩
  | succ n ih =>
    obtain ⟨i1, i2⟩ := ih
    by_cases c : rf_mf u o n = true ∧ rf_bt u n (rf_bb u o n) = true
    · rw [show rf_bb u o (n + 1) = some n from rf_bb_yes c.1 c.2]
      refine ⟨fun h => (by cases h), fun s h => ?_⟩
      cases h
      cases q : rf_bb u o n with
      | none =>
        rw [q] at c
        have n0 := i1 q
        refine ⟨c.2, fun j hj hm => ?_, fun j hj hm => ?_⟩
        · by_cases e : j = n
          · subst e
            intro hb
            rw [bt_n] at hb
            simp only [rf_g, rf_l] at hb
            omega
          · have := n0 j (by omega) hm
            have c2 := c.2
            intro hb
            rw [bt_n] at hb c2 this
            simp only [rf_g, rf_l] at hb c2 this
            omega
        · have := n0 j hj hm
          have c2 := c.2
          rw [bt_n] at c2 this ⊢
          simp only [rf_g, rf_l] at c2 this ⊢
          omega
      | some t =>
        rw [q] at c
        obtain ⟨t1, t2, t3⟩ := i2 t q
        have c2 := c.2
        refine ⟨?_, fun j hj hm => ?_, fun j hj hm => ?_⟩
        · rw [bt_n] at t1 c2 ⊢
          simp only [rf_g, rf_l] at t1 c2 ⊢
          omega
        · by_cases e : j = n
          · subst e
            intro hb
            rw [bt_n] at hb
            simp only [rf_g, rf_l] at hb
            omega
          · have := t2 j (by omega) hm
            intro hb
            rw [bt_n] at hb c2 this
            simp only [rf_g, rf_l] at hb c2 this
            omega
        · have := t2 j hj hm
          rw [bt_n] at c2 this ⊢
          simp only [rf_g, rf_l] at c2 this ⊢
          omega
    · rw [show rf_bb u o (n + 1) = rf_bb u o n from if_neg c]
      refine ⟨fun h j hj hm => ?_, fun s h => ?_⟩
      · by_cases e : j = n
        · subst e
          rw [h] at c
          exact fun hb => c ⟨hm, hb⟩
        · exact i1 h j (by omega) hm
      · obtain ⟨s1, s2, s3⟩ := i2 s h
        refine ⟨s1, fun j hj hm => ?_, s3⟩
        by_cases e : j = n
        · subst e
          rw [h] at c
          exact fun hb => c ⟨hm, hb⟩
        · exact s2 j (by omega) hm
abbrev CF (u : jm_Mem) (nf : Nat) (o : Option Nat) (c : List Nat) : Prop := Ch (u 15) (u 16) (u 18) nf o c
def CL (u : jm_Mem) (nf k j : Nat) : Prop := CF u nf (some j) (pth u nf k (some j)) ∧ (u 19 j).toInt = (u 17 j).toInt + sm (u 17) (pth u nf k (some j)) ∧ (u 20 j).toInt = 1 + (pth u nf k (some j)).length ∧ ∀ d, CF u nf (some j) d → d = pth u nf k (some j) ∨ wo (u 17) d (pth u nf k (some j))
def OP (u : jm_Mem) (nf : Nat) (o : Option Nat) (c : List Nat) : Prop := CF u nf o c ∧ (rf_g u (rf_bb u o nf)).toInt = sm (u 17) c ∧ (rf_l u (rf_bb u o nf)).toInt = c.length ∧ ∀ d, CF u nf o d → d = c ∨ wo (u 17) d c
theorem wo_sm {gn : Nat → Int32} {d c : List Nat} (h : d = c ∨ wo gn d c) : sm gn d < sm gn c ∨ (sm gn d = sm gn c ∧ c.length ≤ d.length) := by
  rcases h with rfl | h
  · exact Or.inr ⟨rfl, Nat.le_refl _⟩
  · rcases h with h | ⟨h, h2 | ⟨h2, -⟩⟩
    · exact Or.inl h
    · exact Or.inr ⟨h, by omega⟩
    · exact Or.inr ⟨h, by omega⟩
theorem wo_cons {gn : Nat → Int32} {s : Nat} {d c : List Nat} (h : wo gn d c) : wo gn (s :: d) (s :: c) := by
  unfold wo at h ⊢
  simp only [sm, List.length_cons, lx, if_true]
  rcases h with h | ⟨h, h2 | ⟨h2, h3⟩⟩
  · exact Or.inl (by omega)
  · exact Or.inr ⟨by omega, Or.inl (by omega)⟩
  · exact Or.inr ⟨by omega, Or.inr ⟨by omega, h3⟩⟩
theorem opt {u : jm_Mem} {nf k : Nat} {o : Option Nat} (H : FM u nf) (hc : ∀ j, j < nf → fk (u 15) (u 16) (u 18) o j = true → CL u nf k j) : OP u nf o (pth u nf (k + 1) o) := by
  obtain ⟨b0, b1⟩ := bb_sp (u := u) (o := o) nf
  unfold OP
  simp only [pth]
  cases q : rf_bb u o nf with
  | none =>
    have b0 := b0 q
    refine ⟨trivial, rfl, rfl, fun d hd => ?_⟩
    cases d with
    | nil => exact Or.inl rfl
    | cons j t =>
      right
      obtain ⟨h1, h2, h3⟩ := hd
      obtain ⟨-, c2, -, c4⟩ := hc j h1 h2
      have w := wo_sm (c4 t h3)
      have n0 := b0 j h1 (by rw [mf_fk]; exact h2)
      rw [bt_n] at n0
      simp only [rf_g, rf_l] at n0
      have e0 : (0 : Int32).toInt = 0 := by decide
      have p := (ch_sm H (j :: t) o ⟨h1, h2, h3⟩).1
      unfold wo
      simp only [sm, List.length_cons, List.length_nil] at p ⊢
      rw [e0] at n0
      omega
  | some s =>
    obtain ⟨s1, s2, s3⟩ := b1 s q
    obtain ⟨m1, m2⟩ := bb_mf nf q
    rw [mf_fk] at m1
    obtain ⟨c1, c2, c3, c4⟩ := hc s m2 m1
    refine ⟨⟨m2, m1, c1⟩, c2, by simp only [rf_l, List.length_cons]; omega, fun d hd => ?_⟩
    cases d with
    | nil =>
      right
      rw [bt_n] at s1
      simp only [rf_g, rf_l] at s1
      have e0 : (0 : Int32).toInt = 0 := by decide
      rw [e0] at s1
      unfold wo
      simp only [sm]
      omega
    | cons j t =>
      obtain ⟨h1, h2, h3⟩ := hd
      obtain ⟨d1, d2, d3, d4⟩ := hc j h1 h2
      have w := wo_sm (d4 t h3)
      by_cases e : j = s
      · subst e
        rcases c4 t h3 with rfl | h
        · exact Or.inl rfl
        · exact Or.inr (wo_cons h)
      · right
        have n1 := s2 j h1 (by rw [mf_fk]; exact h2)
        rw [bt_n] at n1
        simp only [rf_g, rf_l] at n1
        unfold wo
        simp only [sm, List.length_cons, lx]
        rw [if_neg (Ne.symm e)]
        by_cases lt : j < s
        · have n2 := s3 j lt (by rw [mf_fk]; exact h2)
          rw [bt_n] at n2
          simp only [rf_g, rf_l] at n2
          omega
        · have gt : s < j := by omega
          simp only [gt, decide_true, and_true]
          omega
theorem cl_of {u : jm_Mem} {nf k i : Nat} (H : FM u nf) (hx : fx u nf i) (hi : i < nf) (h : OP u nf (some i) (pth u nf k (some i))) : CL u nf k i := by
  obtain ⟨h1, h2, h3, h4⟩ := h
  obtain ⟨x1, x2, x3⟩ := hx
  have l := ch_len H _ i hi h1
  have l2 := rk_self (b := u 15) nf hi
  have s := ch_sm H _ _ h1
  have h8 := H.1
  obtain ⟨-, -, -, g1, g2⟩ := H.2.1 i hi
  refine ⟨h1, ?_, ?_, h4⟩
  · rw [x2, ti_add (by rw [h2]; omega) (by rw [h2]; omega), h2]
  · have e1 : (nI 1).toInt = 1 := by decide
    rw [x3, ti_add (by rw [h3, e1]; omega) (by rw [h3, e1]; omega), h3, e1]
theorem cl_all {u : jm_Mem} {nf : Nat} (H : FM u nf) (hx : ∀ i, i < nf → fx u nf i) : ∀ k i, i < nf → rk (u 15) (u 15 i) nf ≤ k → CL u nf (k + 1) i := by
  intro k
  induction k with
  | zero =>
    intro i hi hr
    refine cl_of H (hx i hi) hi (opt H (fun j hj hf => ?_))
    have := rk_lt (fk_lt H hi hj hf) nf hj
    omega
  | succ k ih =>
    intro i hi hr
    refine cl_of H (hx i hi) hi (opt H (fun j hj hf => ?_))
    have := rk_lt (fk_lt H hi hj hf) nf hj
    exact ih j hj (by omega)
theorem op_all {u : jm_Mem} {nf : Nat} (H : FM u nf) (hx : ∀ i, i < nf → fx u nf i) : OP u nf none (pth u nf (nf + 2) none) := opt H (fun j hj _ => cl_all H hx nf j hj (by have := rk_self (b := u 15) nf hj; omega))
