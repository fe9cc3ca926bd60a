theorem fu_ex {s : Nat → Bool} : ∀ n, 1 ≤ sw_u s n → ∃ a, a < n ∧ s a = false
  | 0, h => by simp [sw_u] at h
  | n + 1, h => by
    cases c : s n with
    | false => exact ⟨n, by omega, c⟩
    | true =>
      simp only [sw_u, c, if_true] at h
      obtain ⟨a, h1, h2⟩ := fu_ex n (by omega)
      exact ⟨a, by omega, h2⟩
theorem st_ne {s : Nat → Bool} {a b : Nat} (h : sw_t s a b = false) : b ≠ a ∧ s b = false := by
  unfold sw_t at h
  split at h
  · exact absurd h (by decide)
  · next c => exact ⟨c, h⟩
theorem st_in {s : Nat → Bool} {a b : Nat} (h : b ≠ a) (h2 : s b = false) : sw_t s a b = false := by
  unfold sw_t
  rw [if_neg h]; exact h2
/-- how many horses are free -/
theorem free_n {μ : jm_Mem} (R : Rel μ) : ∀ n, n ≤ 12 → sw_u (fun p => !gc_fr μ p) n + rg_cnt (μ 3) n = rg_cnt (μ 2) n
  | 0, _ => rfl
  | n + 1, hn => by
    have ih := free_n R n (by omega)
    simp only [sw_u, rg_cnt]
    have h3 := R.1.2.2.1 n (by omega)
    by_cases c : μ 2 n ≤ 0
    · have r0 := h3 c
      have f0 : gc_fr μ n = false := decide_eq_false (fun q => q.1 c)
      rw [if_pos (show (!gc_fr μ n) = true by rw [f0]; rfl), if_pos (show μ 3 n ≤ 0 by rw [r0]; decide), if_pos c]
      omega
    · by_cases d : μ 3 n ≤ 0
      · have f1 : gc_fr μ n = true := decide_eq_true ⟨c, d⟩
        rw [if_neg (show ¬ (!gc_fr μ n) = true by rw [f1]; decide), if_neg c, if_pos d]
        omega
      · have f0 : gc_fr μ n = false := decide_eq_false (fun q => d q.2)
        rw [if_pos (show (!gc_fr μ n) = true by rw [f0]; rfl), if_neg c, if_neg d]
        omega
theorem free_lt {μ : jm_Mem} (R : Rel μ) {k : Nat} (hk : k ≤ 3) : nI (rg_cnt (μ 2) 12) - nI (rg_cnt (μ 3) 12) < nI k ↔ sw_u (fun p => !gc_fr μ p) 12 < k := by
  have h := free_n R 12 (Nat.le_refl _)
  have h2 := rg_cnt_le (μ 2) 12
  rw [pk_sub (by omega), nI_ltI (by omega) (by omega)]
  omega
theorem tk1 {tr : Nat → Int32} {p q : Nat} (hp : p < 12) (hq : q < 12) : gc_tk (upd tr 0 (nI p)) q 1 = decide (p = q) := by
  simp only [gc_tk, Bool.false_or]
  rw [pk_us]
  exact decide_eq_decide.mpr (nI_eq (by omega) (by omega))
theorem tk2 {tr : Nat → Int32} {p q r : Nat} (hp : p < 12) (hq : q < 12) (hr : r < 12) : gc_tk (upd (upd tr 0 (nI p)) 1 (nI q)) r 2 = (decide (p = r) || decide (q = r)) := by
  simp only [gc_tk, Bool.false_or]
  rw [pk_un (by decide), pk_us, pk_us]
  rw [decide_eq_decide.mpr (nI_eq (a := p) (b := r) (by omega) (by omega)), decide_eq_decide.mpr (nI_eq (a := q) (b := r) (by omega) (by omega))]
/-- the memory with one group more counted -/
def gq0 (μ : jm_Mem) : jm_Mem := jm_set (jm_set μ 0 6 (μ 0 6 + 1)) 24 9 (μ 0 6 + 1)
theorem Rel.gq {μ : jm_Mem} (R : Rel μ) (h : μ 0 6 < nI 60) : Rel (gq0 μ) := by
  obtain ⟨a1, a2, a3, a4, a5, a6, a7, a8⟩ := R
  have h1 := Int32.lt_iff_toInt_lt.mp h
  rw [nI_toInt (by decide)] at h1
  have e1 : (1 : Int32).toInt = 1 := by decide
  have g0 := a4.1.2.1
  refine ⟨?_, ?_, ?_, ?_, ?_, ?_, ?_, ?_⟩ <;> simp only [gq0, jm_set_ne, jm_set_eq, pk_us, pk_un, ne_eq, Nat.reduceEqDiff, not_false_eq_true] <;> first | assumption | exact ⟨⟨rfl, by rw [ti_add (by omega) (by omega)]; omega, by rw [ti_add (by omega) (by omega)]; omega⟩, a4.2⟩
theorem md_fr_eq {μ : jm_Mem} (R : Rel μ) {p : Nat} (hp : p < 12) : md_fr μ p = gc_fr μ p := by
  simp only [md_fr, gc_fr]
  rw [(R.hr hp).1, (R.hr hp).2]
  exact decide_eq_decide.mpr ⟨fun q => ⟨q.1, (pos_iff (R.1.2.1 p hp).1).mpr q.2⟩, fun q => ⟨q.1, (pos_iff (R.1.2.1 p hp).1).mp q.2⟩⟩
theorem fr_of {μ : jm_Mem} (R : Rel μ) {p : Nat} (hp : p < 12) (h : gc_fr μ p = true) : ¬ μ 2 p ≤ 0 ∧ μ 3 p = 0 := by
  obtain ⟨h1, h2⟩ := of_decide_eq_true h
  exact ⟨h1, (pos_iff (R.1.2.1 p hp).1).mp h2⟩
/-- seated for a while: what Rel says of one more rider, as cells -/
def sq0 (μ : jm_Mem) (j : Nat) (w : Int32) : jm_Mem := jm_set (rg_add (jm_set μ 3 j w) j w) 28 j w
theorem Rel.sq {μ : jm_Mem} (R : Rel μ) {j : Nat} {w : Int32} (hj : j < 12) (hf : gc_fr μ j = true) (h : rg_wi w 1 (nI 150)) : Rel (sq0 μ j w) := R.seat hj (fr_of R hj hf).1 (fr_of R hj hf).2 (wi_w h).1 (wi_w h).2
theorem sq_fr {μ : jm_Mem} {j p : Nat} {w : Int32} (h : p ≠ j) : gc_fr (sq0 μ j w) p = gc_fr μ p := by
  simp only [gc_fr, sq0, jm_set_ne, rg_add_na, jm_set_eq, pk_un h, ne_eq, Nat.reduceEqDiff, not_false_eq_true]
theorem sq_x {μ : jm_Mem} {j : Nat} {w : Int32} : sq0 μ j w 1 4 = μ 1 4 + w * rg_ac j ∧ sq0 μ j w 1 5 = μ 1 5 + w * rg_al j := by
  simp only [sq0, jm_set_ne, ra4, ra5, ne_eq, Nat.reduceEqDiff, not_false_eq_true, and_self]
theorem sq_m {μ : jm_Mem} {j : Nat} {w : Int32} (q : Nat) (h1 : q ≠ 1) (h3 : q ≠ 3) : sq0 μ j w q = jm_set μ 28 j w q := by
  by_cases e : q = 28
  · subst e; simp only [sq0, jm_set_eq, rg_add_na, jm_set_ne, ne_eq, Nat.reduceEqDiff, not_false_eq_true]
  · simp only [sq0]; rw [jm_set_ne q e, jm_set_ne q e, rg_add_na h1, jm_set_ne q h3]
