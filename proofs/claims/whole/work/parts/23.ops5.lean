theorem sw_w_ag {m : Nat → Nat} {act : Nat → Bool} (hm : ∀ k, k < 48 → m k < 48) (hA : ∀ k, k < 48 → act k = true → act (m k) = true) : ∀ (n a : Nat) (s s' : Nat → Bool) (l : Nat), a < 48 → act a = true → (∀ k, k < 48 → act k = true → s k = s' k) → (sw_w m n a s l).1 = (sw_w m n a s' l).1 ∧ ∀ k, k < 48 → act k = true → (sw_w m n a s l).2 k = (sw_w m n a s' l).2 k
  | 0, _, _, _, _, _, _, h => ⟨rfl, h⟩
  | n + 1, a, s, s', l, ha, hact, h => by
    simp only [sw_w]
    rw [h a ha hact]
    by_cases c : s' a = true
    · rw [if_pos c, if_pos c]; exact ⟨rfl, h⟩
    · rw [if_neg c, if_neg c]
      refine sw_w_ag hm hA n (m a) _ _ (l + 1) (hm a ha) (hA a ha hact) (fun k hk h2 => ?_)
      unfold sw_t
      split
      · rfl
      · exact h k hk h2
theorem sw_f_ag {m : Nat → Nat} {act : Nat → Bool} (hm : ∀ k, k < 48 → m k < 48) (hA : ∀ k, k < 48 → act k = true → act (m k) = true) (hF : ∀ k, k < 48 → act k = false → m k = k) : ∀ n, n ≤ 48 → (sw_f m (fun _ => true) n).1 = (sw_f m act n).1 ∧ ∀ k, k < 48 → act k = true → (sw_f m (fun _ => true) n).2 k = (sw_f m act n).2 k
  | 0, _ => ⟨rfl, fun _ _ _ => rfl⟩
  | n + 1, hn => by
    obtain ⟨i1, i2⟩ := sw_f_ag hm hA hF n (by omega)
    cases ca : act n with
    | true =>
      have e := i2 n (by omega) ca
      cases cs : (sw_f m act n).2 n with
      | true =>
        rw [sw_f_no (m := m) (act := act) (fun q => by rw [cs] at q; exact absurd q.2 (by decide)), sw_f_no (m := m) (act := fun _ => true) (fun q => by rw [e, cs] at q; exact absurd q.2 (by decide))]
        exact ⟨i1, i2⟩
      | false =>
        rw [sw_f_yes (m := m) (act := act) ⟨ca, cs⟩, sw_f_yes (m := m) (act := fun _ => true) ⟨rfl, by rw [e]; exact cs⟩]
        obtain ⟨w1, w2⟩ := sw_w_ag hm hA 49 n (sw_f m (fun _ => true) n).2 (sw_f m act n).2 0 (by omega) ca i2
        exact ⟨by dsimp only; rw [i1, w1], w2⟩
    | false =>
      rw [sw_f_no (m := m) (act := act) (fun q => by rw [ca] at q; exact absurd q.1 (by decide))]
      cases cs : (sw_f m (fun _ => true) n).2 n with
      | true =>
        rw [sw_f_no (m := m) (act := fun _ => true) (fun q => by rw [cs] at q; exact absurd q.2 (by decide))]
        exact ⟨i1, i2⟩
      | false =>
        have hw : sw_w m 49 n (sw_f m (fun _ => true) n).2 0 = (1, sw_t (sw_f m (fun _ => true) n).2 n) := by
          show (if (sw_f m (fun _ => true) n).2 n = true then _ else sw_w m 48 (m n) (sw_t (sw_f m (fun _ => true) n).2 n) 1) = _
          rw [cs, if_neg (by decide), hF n (by omega) ca]
          exact if_pos (if_pos rfl)
        rw [sw_f_yes (m := m) (act := fun _ => true) ⟨rfl, cs⟩, hw]
        refine ⟨?_, fun k hk h2 => ?_⟩
        · dsimp only
          rw [← i1]
          grind
        · dsimp only
          have : sw_t (sw_f m (fun _ => true) n).2 n k = (sw_f m (fun _ => true) n).2 k := if_neg (fun h => by rw [h, ca] at h2; exact absurd h2 (by decide))
          rw [this]; exact i2 k hk h2
theorem Rel.frame {μ μ' : jm_Mem} (R : Rel μ) (h : ∀ q, q ≠ 4 → q ≠ 5 → q ≠ 6 → q ≠ 7 → q ≠ 13 → q ≠ 19 → q ≠ 20 → q ≠ 21 → q ≠ 32 → q ≠ 33 → q ≠ 38 → q ≠ 39 → q ≠ 24 → μ' q = μ q) (h24 : ∀ k, k ≠ 18 → k ≠ 20 → μ' 24 k = μ 24 k) : Rel μ' := by
  have g : ∀ q, q = 0 ∨ q = 1 ∨ q = 2 ∨ q = 3 ∨ q = 9 ∨ q = 10 ∨ q = 12 ∨ q = 14 ∨ q = 15 ∨ q = 16 ∨ q = 17 ∨ q = 18 ∨ q = 22 ∨ q = 23 ∨ q = 25 ∨ q = 26 ∨ q = 27 ∨ q = 28 ∨ q = 29 ∨ q = 30 ∨ q = 31 ∨ q = 34 ∨ q = 35 ∨ q = 36 ∨ q = 37 ∨ q = 40 → μ' q = μ q := fun q hq => h q (by omega) (by omega) (by omega) (by omega) (by omega) (by omega) (by omega) (by omega) (by omega) (by omega) (by omega) (by omega) (by omega)
  simp only [Rel] at R ⊢
  rw [g 0 (by simp), g 1 (by simp), g 2 (by simp), g 3 (by simp), g 9 (by simp), g 10 (by simp), g 12 (by simp), g 14 (by simp), g 15 (by simp), g 16 (by simp), g 17 (by simp), g 18 (by simp), g 22 (by simp), g 23 (by simp), g 25 (by simp), g 26 (by simp), g 27 (by simp), g 28 (by simp), g 29 (by simp), g 30 (by simp), g 31 (by simp), g 34 (by simp), g 35 (by simp), g 36 (by simp), g 37 (by simp), g 40 (by simp), h24 7 (by decide) (by decide), h24 8 (by decide) (by decide), h24 9 (by decide) (by decide), h24 21 (by decide) (by decide), h24 22 (by decide) (by decide), h24 23 (by decide) (by decide), h24 12 (by decide) (by decide), h24 24 (by decide) (by decide)]
  exact R
def rg_act (μ : jm_Mem) (k : Nat) : Bool := decide (¬ μ 2 (k / 4) ≤ 0)
theorem Rel.legs {μ : jm_Mem} (R : Rel μ) : ∃ m : Nat → Nat, (∀ k, k < 48 → m k < 48) ∧ (∀ k, k < 48 → μ 12 k = nI (m k)) ∧ (∀ k, k < 48 → rg_act μ k = true → μ 31 k = nI (m k) ∧ rg_act μ (m k) = true) ∧ (∀ k, k < 48 → (rg_act μ k = true ↔ ¬ μ 27 (k / 4) ≤ 0)) ∧ (sw_f m (fun _ => true) 48).1 = (sw_f m (rg_act μ) 48).1 := by
  obtain ⟨m, m1, m2, m3, m4⟩ := id R.2.2.2.2.2.1
  have hA : ∀ k, k < 48 → rg_act μ k = true → rg_act μ (m k) = true := by
    intro k hk h
    have h := of_decide_eq_true h
    refine decide_eq_true (fun c => ?_)
    have e := m3 (m k) (m1 k hk).1 c
    have e2 := m2 (m k) k (m1 k hk).1 hk e
    rw [e2] at c
    exact h c
  refine ⟨m, fun k hk => (m1 k hk).1, fun k hk => (m1 k hk).2, fun k hk h => ⟨by rw [m4 k hk (of_decide_eq_true h)]; exact (m1 k hk).2, hA k hk h⟩, fun k hk => ?_, (sw_f_ag (fun k hk => (m1 k hk).1) hA (fun k hk h => m3 k hk (Classical.not_not.mp (of_decide_eq_false h))) 48 (Nat.le_refl _)).1⟩
  rw [(R.hr (show k / 4 < 12 by omega)).1]
  exact ⟨fun h => of_decide_eq_true h, fun h => decide_eq_true h⟩
