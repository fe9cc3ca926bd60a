/-! the relation between the class's memory and the model's -/
theorem ti_add {a b : Int32} (h1 : -2147483648 ≤ a.toInt + b.toInt) (h2 : a.toInt + b.toInt < 2147483648) : (a + b).toInt = a.toInt + b.toInt := by
  rw [Int32.toInt_add]
  exact Int.bmod_eq_of_le (by simpa using h1) (by simpa using h2)
theorem ti_neg {a : Int32} (h1 : -2147483648 < a.toInt) : (0 - a).toInt = - a.toInt := by
  have h3 := a.toInt_lt
  rw [Int32.toInt_sub]
  have : (0 : Int32).toInt = 0 := by decide
  rw [this, Int.zero_sub]
  exact Int.bmod_eq_of_le (by omega) (by omega)
def rg_sg (j : Nat) : Int32 := if j % 2 = 0 then 1 else -1
theorem rg_lift_sg (j : Nat) (w : Int32) : rg_lift j w = w * rg_sg j := by
  unfold rg_lift rg_sg
  split
  · rw [Int32.mul_one]
  · grind
def rg_one (_ : Nat) : Int32 := 1
theorem rg_S_congr {f f' c c' : Nat → Int32} : ∀ n, (∀ k, k < n → f' k = f k) → (∀ k, k < n → c' k = c k) → rg_S f' c' n = rg_S f c n
  | 0, _, _ => rfl
  | n + 1, h, h2 => by
    simp only [rg_S]
    rw [rg_S_congr n (fun k hk => h k (by omega)) (fun k hk => h2 k (by omega)), h n (by omega), h2 n (by omega)]
theorem rg_S_set {f f' c : Nat → Int32} {j : Nat} : ∀ n, j < n → (∀ k, k < n → k ≠ j → f' k = f k) → rg_S f' c n = rg_S f c n + (f' j - f j) * c j
  | 0, h, _ => by omega
  | n + 1, h, hk => by
    simp only [rg_S]
    by_cases e : j = n
    · subst e
      rw [rg_S_congr (f' := f') (f := f) (c := c) j (fun k h9 => hk k (by omega) (by omega)) (fun _ _ => rfl)]
      grind
    · rw [rg_S_set n (by omega) (fun k h9 h8 => hk k (by omega) h8), hk n (by omega) (by omega)]
      grind
/-- ring: sums kept, weights in range, no rider where there's no horse -/
def RR (x y l s : Int32) (h r : Nat → Int32) : Prop := (∀ j, j < 12 → 0 ≤ (h j).toInt ∧ (h j).toInt ≤ 200) ∧ (∀ j, j < 12 → 0 ≤ (r j).toInt ∧ (r j).toInt ≤ 150) ∧ (∀ j, j < 12 → h j ≤ 0 → r j = 0) ∧ x = rg_S (fun j => h j + r j) rg_ac 12 ∧ y = rg_S (fun j => h j + r j) rg_al 12 ∧ l = rg_S (fun j => h j + r j) rg_sg 12 ∧ s = rg_S (fun j => h j + r j) rg_one 12
def RE (h r px py h' r' : Nat → Int32) : Prop := ∀ j, j < 12 → px j = rg_ac j ∧ py j = rg_al j ∧ h' j = h j ∧ r' j = r j
def RC (g g' ho ho' te te' tk tk' : Int32) : Prop := (g' = g ∧ 0 ≤ g.toInt ∧ g.toInt ≤ 60) ∧ (ho' = ho ∧ 1 ≤ ho.toInt ∧ ho.toInt ≤ 1000) ∧ (te' = te ∧ 0 ≤ te.toInt ∧ te.toInt ≤ 10000) ∧ tk' = tk
def RO (h cf nb nb' cf' : Nat → Int32) : Prop := (∀ j, j < 12 → (¬ h j ≤ 0 → ∃ m, 1 ≤ m ∧ m ≤ 8 ∧ nb j = nI m ∧ nb' j = nI m) ∧ (h j ≤ 0 → nb j = nI 0)) ∧ ∀ k, k < 96 → cf' k = cf k
def RG (h mk mk' : Nat → Int32) : Prop := ∃ m : Nat → Nat, (∀ k, k < 48 → m k < 48 ∧ mk k = nI (m k)) ∧ (∀ i k, i < 48 → k < 48 → m i = m k → i = k) ∧ (∀ k, k < 48 → h (k / 4) ≤ 0 → m k = k) ∧ ∀ k, k < 48 → ¬ h (k / 4) ≤ 0 → mk' k = mk k
def RF (n n' : Int32) (b e g dd b' e' g' dd' : Nat → Int32) : Prop := ∃ nf, nf ≤ 8 ∧ n = nI nf ∧ n' = nI nf ∧ (∀ f, f < 8 → b' f = b f ∧ e' f = e f ∧ g' f = g f) ∧ (∀ k, k < 64 → dd' k = dd k) ∧ (∀ f, f < nf → 0 ≤ (b f).toInt ∧ (b f).toInt ≤ (e f).toInt ∧ (e f).toInt ≤ 400 ∧ 0 ≤ (g f).toInt ∧ (g f).toInt ≤ 10000) ∧ ∀ k, k < 64 → 0 ≤ (dd k).toInt ∧ (dd k).toInt ≤ 50
def RQ (n n' : Int32) (q q' : Nat → Int32) : Prop := ∃ nw, nw ≤ 100 ∧ n = nI nw ∧ n' = nI nw ∧ (∀ k, k < 100 → q' k = q k) ∧ ∀ k, k < nw → 1 ≤ (q k).toInt ∧ (q k).toInt ≤ 150
def Rel (μ : jm_Mem) : Prop := RR (μ 1 4) (μ 1 5) (μ 1 6) (μ 1 7) (μ 2) (μ 3) ∧ RE (μ 2) (μ 3) (μ 25) (μ 26) (μ 27) (μ 28) ∧ (μ 24 7 = μ 1 2 ∧ μ 24 8 = μ 1 3) ∧ RC (μ 0 6) (μ 24 9) (μ 0 7) (μ 24 21) (μ 0 8) (μ 24 22) (μ 0 9) (μ 24 23) ∧ RO (μ 2) (μ 9) (μ 10) (μ 29) (μ 30) ∧ RG (μ 2) (μ 12) (μ 31) ∧ RF (μ 14 4) (μ 24 12) (μ 15) (μ 16) (μ 17) (μ 18) (μ 34) (μ 35) (μ 36) (μ 37) ∧ RQ (μ 22 1) (μ 24 24) (μ 23) (μ 40)
theorem pos_iff {x : Int32} (h : 0 ≤ x.toInt) : x ≤ 0 ↔ x = 0 := by
  rw [Int32.le_iff_toInt_le, ← Int32.toInt_inj]
  have : (0 : Int32).toInt = 0 := by decide
  omega
/-- one load more at j: what the four sums become -/
theorem RR_add {x y l s : Int32} {h r h' r' : Nat → Int32} {j : Nat} {w : Int32} (H : RR x y l s h r) (hj : j < 12) (hk : ∀ k, k < 12 → k ≠ j → h' k = h k ∧ r' k = r k) (hw : h' j + r' j = h j + r j + w) (c1 : 0 ≤ (h' j).toInt ∧ (h' j).toInt ≤ 200) (c2 : 0 ≤ (r' j).toInt ∧ (r' j).toInt ≤ 150) (c3 : h' j ≤ 0 → r' j = 0) : RR (x + w * rg_ac j) (y + w * rg_al j) (l + rg_lift j w) (s + w) h' r' := by
  obtain ⟨h1, h2, h3, hx, hy, hl, hs⟩ := H
  have key : ∀ c : Nat → Int32, rg_S (fun k => h' k + r' k) c 12 = rg_S (fun k => h k + r k) c 12 + w * c j := by
    intro c
    rw [rg_S_set (f := fun k => h k + r k) 12 hj (fun k h9 h8 => by rw [(hk k h9 h8).1, (hk k h9 h8).2])]
    have e : h' j + r' j - (h j + r j) = w := by rw [hw]; grind
    rw [e]
  refine ⟨fun k h9 => ?_, fun k h9 => ?_, fun k h9 => ?_, by rw [key, hx], by rw [key, hy], by rw [key, hl, rg_lift_sg], by rw [key, hs]; unfold rg_one; rw [Int32.mul_one]⟩
  · by_cases e : k = j
    · rw [e]; exact c1
    · rw [(hk k h9 e).1]; exact h1 k h9
  · by_cases e : k = j
    · rw [e]; exact c2
    · rw [(hk k h9 e).2]; exact h2 k h9
  · by_cases e : k = j
    · rw [e]; exact c3
    · rw [(hk k h9 e).1, (hk k h9 e).2]; exact h3 k h9
theorem md_ld_eq {μ : jm_Mem} (H : RR (μ 1 4) (μ 1 5) (μ 1 6) (μ 1 7) (μ 2) (μ 3)) (E : RE (μ 2) (μ 3) (μ 25) (μ 26) (μ 27) (μ 28)) {j : Nat} (hj : j < 12) : md_ld μ j = μ 2 j + μ 3 j := by
  obtain ⟨-, -, e3, e4⟩ := E j hj
  unfold md_ld
  rw [e3, e4]
  split
  · next h =>
    rw [H.2.2.1 j hj h, (pos_iff (H.1 j hj).1).mp h]; rfl
  · rfl
theorem md_rs_S (μ : jm_Mem) : ∀ n, md_rs μ n = rg_S (md_ld μ) rg_sg n
  | 0 => rfl
  | n + 1 => by simp only [md_rs, rg_S, md_rs_S μ n, rg_lift_sg]
theorem md_sum_S (μ : jm_Mem) : ∀ n, md_sum μ n = rg_S (md_ld μ) rg_one n
  | 0 => rfl
  | n + 1 => by simp only [md_sum, rg_S, md_sum_S μ n, rg_one, Int32.mul_one]
theorem md_sh_eq {μ : jm_Mem} (H : RR (μ 1 4) (μ 1 5) (μ 1 6) (μ 1 7) (μ 2) (μ 3)) (E : RE (μ 2) (μ 3) (μ 25) (μ 26) (μ 27) (μ 28)) : md_sh μ = rg_sh (μ 1 4) (μ 1 5) := by
  unfold md_sh
  rw [rg_S_congr (f' := md_ld μ) (f := fun j => μ 2 j + μ 3 j) (c' := μ 25) (c := rg_ac) 12 (fun k hk => md_ld_eq H E hk) (fun k hk => (E k hk).1), rg_S_congr (f' := md_ld μ) (f := fun j => μ 2 j + μ 3 j) (c' := μ 26) (c := rg_al) 12 (fun k hk => md_ld_eq H E hk) (fun k hk => (E k hk).2.1), ← H.2.2.2.1, ← H.2.2.2.2.1]
theorem md_rs_eq {μ : jm_Mem} (H : RR (μ 1 4) (μ 1 5) (μ 1 6) (μ 1 7) (μ 2) (μ 3)) (E : RE (μ 2) (μ 3) (μ 25) (μ 26) (μ 27) (μ 28)) : md_rs μ 12 = μ 1 6 := by
  rw [md_rs_S, rg_S_congr (f' := md_ld μ) (f := fun j => μ 2 j + μ 3 j) (c' := rg_sg) (c := rg_sg) 12 (fun k hk => md_ld_eq H E hk) (fun _ _ => rfl), ← H.2.2.2.2.2.1]
theorem md_sum_eq {μ : jm_Mem} (H : RR (μ 1 4) (μ 1 5) (μ 1 6) (μ 1 7) (μ 2) (μ 3)) (E : RE (μ 2) (μ 3) (μ 25) (μ 26) (μ 27) (μ 28)) : md_sum μ 12 = μ 1 7 := by
  rw [md_sum_S, rg_S_congr (f' := md_ld μ) (f := fun j => μ 2 j + μ 3 j) (c' := rg_one) (c := rg_one) 12 (fun k hk => md_ld_eq H E hk) (fun _ _ => rfl), ← H.2.2.2.2.2.2]
theorem rg_cnt_congr {f g : Nat → Int32} : ∀ n, (∀ k, k < n → f k = g k) → rg_cnt f n = rg_cnt g n
  | 0, _ => rfl
  | n + 1, h => by simp only [rg_cnt]; rw [rg_cnt_congr n (fun k hk => h k (by omega)), h n (by omega)]
theorem md_rc_eq {μ : jm_Mem} (H : RR (μ 1 4) (μ 1 5) (μ 1 6) (μ 1 7) (μ 2) (μ 3)) (E : RE (μ 2) (μ 3) (μ 25) (μ 26) (μ 27) (μ 28)) : ∀ n, n ≤ 12 → md_rc μ n = rg_cnt (μ 3) n
  | 0, _ => rfl
  | n + 1, hn => by
    obtain ⟨-, -, e3, e4⟩ := E n (by omega)
    simp only [md_rc, rg_cnt]
    rw [md_rc_eq H E n (by omega), e3, e4]
    by_cases c : μ 2 n ≤ 0
    · rw [if_pos c, H.2.2.1 n (by omega) c]; rfl
    · rw [if_neg c]
theorem rs_bd {f : Nat → Int32} : ∀ n, n ≤ 12 → (∀ k, k < n → 0 ≤ (f k).toInt ∧ (f k).toInt ≤ 350) → -(350 * n : Int) ≤ (rg_S f rg_sg n).toInt ∧ (rg_S f rg_sg n).toInt ≤ 350 * n
  | 0, _, _ => by
    have : (rg_S f rg_sg 0).toInt = 0 := by show (0 : Int32).toInt = 0; decide
    omega
  | n + 1, hn, h => by
    obtain ⟨a1, a2⟩ := rs_bd n (by omega) (fun k hk => h k (by omega))
    obtain ⟨b1, b2⟩ := h n (by omega)
    simp only [rg_S]
    rw [← rg_lift_sg]
    unfold rg_lift
    split
    · rw [ti_add (by omega) (by omega)]; omega
    · rw [ti_add (by rw [ti_neg (by omega)]; omega) (by rw [ti_neg (by omega)]; omega), ti_neg (by omega)]; omega
theorem abs_iff {r l : Int32} (h1 : -2147483648 < r.toInt) : rg_abs r ≤ l ↔ (r ≤ l ∧ 0 - r ≤ l) := by
  unfold rg_abs
  have h0 : (0 : Int32).toInt = 0 := by decide
  simp only [Int32.le_iff_toInt_le, ti_neg h1, h0]
  split
  · omega
  · rw [ti_neg h1]; omega
