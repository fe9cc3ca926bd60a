/-! group: the class's recursion over places and the model's run over rows come to the same -/
def gx_ok (fr : Nat → Bool) : Nat → Nat → (Nat → Int32) → Nat → Bool
  | 0, _, _, _ => true
  | k + 1, sd, tr, r => (fr (r / 12 ^ k) && !gc_tk tr (r / 12 ^ k) sd) && gx_ok fr k (sd + 1) (upd tr sd (nI (r / 12 ^ k))) (r % 12 ^ k)
def gx_z (ws : Nat → Int32) : Nat → Nat → Int32 → Int32 → Nat → Int32
  | 0, _, x, y, _ => rg_sh x y
  | k + 1, sd, x, y, r => gx_z ws k (sd + 1) (x + ws sd * rg_ac (r / 12 ^ k)) (y + ws sd * rg_al (r / 12 ^ k)) (r % 12 ^ k)
def gx_t : Nat → Nat → (Nat → Int32) → Nat → (Nat → Int32)
  | 0, _, tr, _ => tr
  | k + 1, sd, tr, r => gx_t k (sd + 1) (upd tr sd (nI (r / 12 ^ k))) (r % 12 ^ k)
theorem gc_tk_c {t t' : Nat → Int32} {p : Nat} : ∀ sd, (∀ i, i < sd → t i = t' i) → gc_tk t p sd = gc_tk t' p sd
  | 0, _ => rfl
  | sd + 1, h => by simp only [gc_tk]; rw [gc_tk_c sd (fun i hi => h i (by omega)), h sd (by omega)]
theorem up_c {t t' : Nat → Int32} {sd : Nat} {v : Int32} (h : ∀ i, i < sd → t i = t' i) : ∀ i, i < sd + 1 → upd t sd v i = upd t' sd v i := by
  intro i hi
  rw [up_if, up_if]
  split
  · rfl
  · exact h i (by omega)
theorem gx_ok_c {fr : Nat → Bool} {t t' : Nat → Int32} : ∀ k sd r, (∀ i, i < sd → t i = t' i) → gx_ok fr k sd t r = gx_ok fr k sd t' r
  | 0, _, _, _ => rfl
  | k + 1, sd, r, h => by simp only [gx_ok]; rw [gc_tk_c sd h, gx_ok_c k (sd + 1) _ (up_c h)]
theorem gx_t_c {t t' : Nat → Int32} : ∀ k sd r, (∀ i, i < sd → t i = t' i) → ∀ i, i < sd + k → gx_t k sd t r i = gx_t k sd t' r i
  | 0, _, _, h, i, hi => h i hi
  | k + 1, sd, r, h, i, hi => by simp only [gx_t]; exact gx_t_c k (sd + 1) _ (up_c h) i (by omega)
abbrev gx_J (K : Nat) (a : gc_St) (b : gm_St) : Prop := a.1 = b.1 ∧ (¬ b.1 = -1 → ∀ i, i < K → a.2.1 i = b.2 i)
theorem gm_f_skip {ok : Nat → Bool} {z f s t : Nat → Int32} {st : gm_St} {B : Nat} : ∀ n, (∀ r, r < n → ok (B + r) = false) → gm_f ok z f s t (B + n) st = gm_f ok z f s t B st
  | 0, _ => rfl
  | n + 1, h => by
    rw [show B + (n + 1) = B + n + 1 by omega, gm_f_no (h n (by omega)), gm_f_skip n (fun r hr => h r (by omega))]
theorem gx_main {fr : Nat → Bool} {ws : Nat → Int32} {ok : Nat → Bool} {z f s t : Nat → Int32} {s0 : gm_St} {K : Nat} (hK : K ≤ 3) (hz : ∀ x y, ¬ rg_sh x y = -1) : ∀ (k sd : Nat) (x y : Int32) (st : gc_St) (B : Nat), sd + k = K → (∀ r, r < 12 ^ k → ok (B + r) = gx_ok fr k sd st.2.2 r ∧ (ok (B + r) = true → z (B + r) = gx_z ws k sd x y r) ∧ (∀ i, i < K → (if i = 0 then f (B + r) else if i = 1 then s (B + r) else t (B + r)) = gx_t k sd st.2.2 r i)) → gx_J K st (gm_f ok z f s t B s0) → gx_J K (gc_try fr ws k sd x y st) (gm_f ok z f s t (B + 12 ^ k) s0) ∧ ∀ i, i < sd → (gc_try fr ws k sd x y st).2.2 i = st.2.2 i
  | 0, sd, x, y, st, B, hk, hd, hJ => by
    obtain ⟨h1, h2, h3⟩ := hd 0 (by decide)
    rw [Nat.add_zero] at h1 h2 h3
    have hok : ok B = true := h1
    have hzz := h2 hok
    simp only [gx_z] at hzz
    simp only [gx_t] at h3
    show gx_J K (gc_keep (rg_sh x y) st) (gm_f ok z f s t (B + 1) s0) ∧ _
    simp only [gm_f]
    rw [if_pos hok, hzz]
    unfold gc_keep gm_up
    rw [hJ.1]
    by_cases c : (gm_f ok z f s t B s0).1 = -1 ∨ rg_sh x y < (gm_f ok z f s t B s0).1
    · rw [if_pos c, if_pos c]
      refine ⟨⟨rfl, fun _ i hi => ?_⟩, fun _ _ => ?_⟩
      · dsimp only
        rw [pk_cpy_in (by omega) (by omega), show 0 + (i - 0) = i by omega, ← h3 i hi]
        obtain rfl | rfl | rfl : i = 0 ∨ i = 1 ∨ i = 2 := by omega
        · simp [upd]
        · simp [upd]
        · simp [upd]
      · show (gc_keep (rg_sh x y) st).2.2 _ = _
        unfold gc_keep
        split <;> rfl
    · rw [if_neg c, if_neg c]
      refine ⟨hJ, fun _ _ => ?_⟩
      show (gc_keep (rg_sh x y) st).2.2 _ = _
      unfold gc_keep
      split <;> rfl
  | k + 1, sd, x, y, st, B, hk, hd, hJ => by
    have hN : 12 ^ (k + 1) = 12 ^ k * 12 := by rw [Nat.pow_succ]
    have hpos : 0 < 12 ^ k := Nat.pow_pos (by decide)
    simp only [gc_try]
    have loop : ∀ p, p ≤ 12 → gx_J K (gc_lp (fun p st => if fr p = true ∧ gc_tk st.2.2 p sd = false then gc_try fr ws k (sd + 1) (x + ws sd * rg_ac p) (y + ws sd * rg_al p) (st.1, st.2.1, upd st.2.2 sd (nI p)) else st) p st) (gm_f ok z f s t (B + 12 ^ k * p) s0) ∧ ∀ i, i < sd → (gc_lp (fun p st => if fr p = true ∧ gc_tk st.2.2 p sd = false then gc_try fr ws k (sd + 1) (x + ws sd * rg_ac p) (y + ws sd * rg_al p) (st.1, st.2.1, upd st.2.2 sd (nI p)) else st) p st).2.2 i = st.2.2 i := by
      intro p
      induction p with
      | zero => intro _; exact ⟨by simpa only [gc_lp, Nat.mul_zero, Nat.add_zero] using hJ, fun _ _ => rfl⟩
      | succ p ih =>
        intro hp
        obtain ⟨i1, i2⟩ := ih (by omega)
        simp only [gc_lp]
        generalize gc_lp (fun p st => if fr p = true ∧ gc_tk st.2.2 p sd = false then gc_try fr ws k (sd + 1) (x + ws sd * rg_ac p) (y + ws sd * rg_al p) (st.1, st.2.1, upd st.2.2 sd (nI p)) else st) p st = cur at i1 i2 ⊢
        have hb : B + 12 ^ k * (p + 1) = B + 12 ^ k * p + 12 ^ k := by rw [Nat.mul_succ]; omega
        have hrow : ∀ r, r < 12 ^ k → 12 ^ k * p + r < 12 ^ (k + 1) ∧ (12 ^ k * p + r) / 12 ^ k = p ∧ (12 ^ k * p + r) % 12 ^ k = r := by
          intro r hr
          refine ⟨?_, ?_, ?_⟩
          · rw [hN]
            calc 12 ^ k * p + r < 12 ^ k * p + 12 ^ k := by omega
              _ = 12 ^ k * (p + 1) := by rw [Nat.mul_succ]
              _ ≤ 12 ^ k * 12 := Nat.mul_le_mul_left _ hp
          · rw [Nat.mul_add_div hpos, Nat.div_eq_of_lt hr, Nat.add_zero]
          · rw [Nat.mul_add_mod, Nat.mod_eq_of_lt hr]
        have htk := gc_tk_c (p := p) sd i2
        rw [hb]
        by_cases c : fr p = true ∧ gc_tk cur.2.2 p sd = false
        · rw [if_pos c]
          have hc2 : (fr p && !gc_tk st.2.2 p sd) = true := by rw [← htk, c.1, c.2]; rfl
          have hrec := gx_main hK hz k (sd + 1) (x + ws sd * rg_ac p) (y + ws sd * rg_al p) (cur.1, cur.2.1, upd cur.2.2 sd (nI p)) (B + 12 ^ k * p) (by omega) (fun r hr => by
            obtain ⟨q1, q2, q3⟩ := hrow r hr
            obtain ⟨d1, d2, d3⟩ := hd (12 ^ k * p + r) q1
            rw [← Nat.add_assoc] at d1 d2 d3
            simp only [gx_ok, gx_z, gx_t, q2, q3] at d1 d2 d3
            refine ⟨?_, d2, fun i hi => ?_⟩
            · rw [d1, hc2, Bool.true_and]
              exact gx_ok_c k (sd + 1) r (fun i hi => (up_c (fun j hj => (i2 j hj).symm)) i hi)
            · rw [d3 i hi]
              exact gx_t_c k (sd + 1) r (fun i hi => (up_c (fun j hj => (i2 j hj).symm)) i hi) i (by omega)) i1
          refine ⟨hrec.1, fun i hi => ?_⟩
          rw [hrec.2 i (by omega)]
          dsimp only
          rw [pk_un (by omega)]
          exact i2 i hi
        · rw [if_neg c]
          have hc2 : (fr p && !gc_tk st.2.2 p sd) = false := by
            rw [← htk]
            cases h1 : fr p with
            | false => rfl
            | true =>
              cases h2 : gc_tk cur.2.2 p sd with
              | true => rfl
              | false => exact absurd ⟨h1, h2⟩ c
          rw [gm_f_skip (12 ^ k) (fun r hr => by
            obtain ⟨q1, q2, q3⟩ := hrow r hr
            have d1 := (hd (12 ^ k * p + r) q1).1
            rw [← Nat.add_assoc] at d1
            simp only [gx_ok, q2] at d1
            rw [d1, hc2, Bool.false_and])]
          exact ⟨i1, i2⟩
    have h12 := loop 12 (Nat.le_refl _)
    rw [← hN] at h12
    exact h12
theorem sq4 (a : Nat) : a * a % 4 = 0 ∨ a * a % 4 = 1 := by
  rw [Nat.mul_mod]
  have h : a % 4 = 0 ∨ a % 4 = 1 ∨ a % 4 = 2 ∨ a % 4 = 3 := by omega
  rcases h with h | h | h | h <;> rw [h] <;> decide
theorem sh_ne (x y : Int32) : ¬ rg_sh x y = -1 := by
  intro h
  have e : (rg_sh x y).toBitVec.toNat = (x.toBitVec.toNat * x.toBitVec.toNat + y.toBitVec.toNat * y.toBitVec.toNat) % 2 ^ 32 := by
    show (x * x + y * y).toBitVec.toNat = _
    rw [Int32.toBitVec_add, Int32.toBitVec_mul, Int32.toBitVec_mul, BitVec.toNat_add, BitVec.toNat_mul, BitVec.toNat_mul, ← Nat.add_mod]
  rw [h] at e
  have e2 : (-1 : Int32).toBitVec.toNat = 4294967295 := by decide
  rw [e2] at e
  have h1 := sq4 x.toBitVec.toNat
  have h2 := sq4 y.toBitVec.toNat
  omega
