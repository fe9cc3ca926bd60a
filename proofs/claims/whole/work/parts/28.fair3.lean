/-! rounds: the class's plan comes to rest -/
def fk (b e dd : Nat → Int32) (o : Option Nat) (j : Nat) : Bool := match o with
  | none => true
  | some h => decide (e h + dd (8 * h + j) < b j)
theorem mf_fk {u : jm_Mem} {o : Option Nat} {j : Nat} : rf_mf u o j = fk (u 15) (u 16) (u 18) o j := by cases o <;> rfl
def FH (b e gn dd : Nat → Int32) (nf : Nat) : Prop := nf ≤ 8 ∧ (∀ f, f < nf → 0 ≤ (b f).toInt ∧ (b f).toInt ≤ (e f).toInt ∧ (e f).toInt ≤ 400 ∧ 0 ≤ (gn f).toInt ∧ (gn f).toInt ≤ 10000) ∧ ∀ k, k < 64 → 0 ≤ (dd k).toInt ∧ (dd k).toInt ≤ 50
def rk (b : Nat → Int32) (x : Int32) : Nat → Nat
  | 0 => 0
  | n + 1 => rk b x n + if x < b n then 1 else 0
theorem rk_le {b : Nat → Int32} {x : Int32} : ∀ n, rk b x n ≤ n
  | 0 => Nat.le_refl 0
  | n + 1 => by
    have := rk_le (b := b) (x := x) n
    simp only [rk]
    split <;> omega
theorem rk_mono {b : Nat → Int32} {x y : Int32} (h : x < y) : ∀ n, rk b y n ≤ rk b x n
  | 0 => Nat.le_refl 0
  | n + 1 => by
    have := rk_mono (b := b) h n
    simp only [rk]
    by_cases c : y < b n
    · rw [if_pos c, if_pos (Int32.lt_trans h c)]; omega
    · rw [if_neg c]; split <;> omega
theorem rk_lt {b : Nat → Int32} {x : Int32} {j : Nat} (h : x < b j) : ∀ n, j < n → rk b (b j) n < rk b x n
  | 0, hj => by omega
  | n + 1, hj => by
    simp only [rk]
    by_cases e : j = n
    · subst e
      have := rk_mono (b := b) h j
      rw [if_neg Int32.lt_irrefl, if_pos h]; omega
    · have := rk_lt h n (by omega)
      by_cases c : b j < b n
      · rw [if_pos c, if_pos (Int32.lt_trans h c)]; omega
      · rw [if_neg c]; split <;> omega
theorem rk_self {b : Nat → Int32} {j : Nat} : ∀ n, j < n → rk b (b j) n < n
  | 0, hj => by omega
  | n + 1, hj => by
    simp only [rk]
    by_cases e : j = n
    · subst e
      have := rk_le (b := b) (x := b j) j
      rw [if_neg Int32.lt_irrefl]; omega
    · have := rk_self (b := b) n (show j < n by omega)
      split <;> omega
theorem fk_lt {b e gn dd : Nat → Int32} {nf i j : Nat} (H : FH b e gn dd nf) (hi : i < nf) (hj : j < nf) (h : fk b e dd (some i) j = true) : b i < b j := by
  have h := Int32.lt_iff_toInt_lt.mp (of_decide_eq_true h)
  obtain ⟨h8, H1, H2⟩ := H
  obtain ⟨a1, a2, a3, -⟩ := H1 i hi
  obtain ⟨d1, d2⟩ := H2 (8 * i + j) (by omega)
  rw [ti_add (by omega) (by omega)] at h
  rw [Int32.lt_iff_toInt_lt]
  omega
theorem js_id {u : jm_Mem} {a i : Nat} {v : Int32} (h : v = u a i) : jm_set u a i v = u := by
  funext q k
  by_cases e : q = a
  · subst e
    rw [jm_set_eq, up_if]
    split
    · next c => rw [c, h]
    · rfl
  · rw [jm_set_ne q e]
theorem bb_mf {u : jm_Mem} {o : Option Nat} : ∀ n {j}, rf_bb u o n = some j → rf_mf u o j = true ∧ j < n
  | 0, j, h => by cases h
  | n + 1, j, h => by
    simp only [rf_bb] at h
    split at h
    · next c => cases h; exact ⟨c.1, by omega⟩
    · have := bb_mf n h; exact ⟨this.1, by omega⟩
theorem bt_c {u v : jm_Mem} {n : Nat} {o : Option Nat} (h1 : u 19 n = v 19 n) (h2 : u 20 n = v 20 n) (h3 : ∀ j, o = some j → u 19 j = v 19 j ∧ u 20 j = v 20 j) : rf_bt u n o = rf_bt v n o := by
  have g : rf_g u o = rf_g v o := by cases o with
    | none => rfl
    | some j => exact (h3 j rfl).1
  have l : rf_l u o = rf_l v o := by cases o with
    | none => rfl
    | some j => exact (h3 j rfl).2
  unfold rf_bt
  rw [h1, h2, g, l]
theorem bb_c {u v : jm_Mem} {o : Option Nat} : ∀ n, (∀ j, j < n → rf_mf u o j = rf_mf v o j) → (∀ j, j < n → rf_mf u o j = true → u 19 j = v 19 j ∧ u 20 j = v 20 j) → rf_bb u o n = rf_bb v o n := by
  intro n
  induction n with
  | zero => intro _ _; rfl
  | succ n ih =>
    intro h1 h2
    replace ih := ih (fun j hj => h1 j (by omega)) (fun j hj => h2 j (by omega))
    simp only [rf_bb]
    rw [← ih, ← h1 n (by omega)]
    cases c : rf_mf u o n with
    | false => rw [if_neg (fun q => absurd q.1 (by decide)), if_neg (fun q => absurd q.1 (by decide))]
    | true =>
      have := h2 n (by omega) c
      rw [bt_c this.1 this.2 (fun j hj => h2 j (by have := (bb_mf n hj).2; omega) (bb_mf n hj).1)]
def fx (u : jm_Mem) (nf i : Nat) : Prop := u 21 i = rf_v (rf_bb u (some i) nf) ∧ u 19 i = u 17 i + rf_g u (rf_bb u (some i) nf) ∧ u 20 i = nI 1 + rf_l u (rf_bb u (some i) nf)
theorem fx_same {u : jm_Mem} {nf f : Nat} (h : fx u nf f) : rf_pf u nf f = u := by
  unfold rf_pf
  rw [js_id (u := u) (a := 21) h.1.symm, js_id h.2.1.symm, js_id h.2.2.symm]
theorem pf_i {u : jm_Mem} {nf f i : Nat} (h : i ≠ f) : rf_pf u nf f 19 i = u 19 i ∧ rf_pf u nf f 20 i = u 20 i ∧ rf_pf u nf f 21 i = u 21 i := by
  simp only [rf_pf, jm_set_eq, jm_set_ne, pk_un h, ne_eq, Nat.reduceEqDiff, not_false_eq_true, and_self]
theorem pf_f {u : jm_Mem} {nf f : Nat} : rf_pf u nf f 21 f = rf_v (rf_bb u (some f) nf) ∧ rf_pf u nf f 19 f = u 17 f + rf_g u (rf_bb u (some f) nf) ∧ rf_pf u nf f 20 f = nI 1 + rf_l u (rf_bb u (some f) nf) := by
  simp only [rf_pf, jm_set_eq, jm_set_ne, pk_us, ne_eq, Nat.reduceEqDiff, not_false_eq_true, and_self]
theorem pf_mf {u : jm_Mem} {nf f : Nat} {o : Option Nat} {j : Nat} : rf_mf (rf_pf u nf f) o j = rf_mf u o j := by
  rw [mf_fk, mf_fk, rf_pf_na (by decide) (by decide) (by decide), rf_pf_na (by decide) (by decide) (by decide), rf_pf_na (by decide) (by decide) (by decide)]
theorem pf_bb {u : jm_Mem} {nf f : Nat} {o : Option Nat} (h : rf_mf u o f = false) : rf_bb (rf_pf u nf f) o nf = rf_bb u o nf ∧ rf_g (rf_pf u nf f) (rf_bb u o nf) = rf_g u (rf_bb u o nf) ∧ rf_l (rf_pf u nf f) (rf_bb u o nf) = rf_l u (rf_bb u o nf) := by
  have hn : ∀ j, rf_mf u o j = true → j ≠ f := fun j hj e => by rw [e, h] at hj; exact absurd hj (by decide)
  have e : rf_bb (rf_pf u nf f) o nf = rf_bb u o nf := bb_c nf (fun j _ => pf_mf) (fun j _ hj => by
    rw [pf_mf] at hj
    exact ⟨(pf_i (hn j hj)).1, (pf_i (hn j hj)).2.1⟩)
  refine ⟨e, ?_, ?_⟩
  · cases c : rf_bb u o nf with
    | none => rfl
    | some j => exact (pf_i (hn j (bb_mf nf c).1)).1
  · cases c : rf_bb u o nf with
    | none => rfl
    | some j => exact (pf_i (hn j (bb_mf nf c).1)).2.1
theorem fx_keep {u : jm_Mem} {nf f i : Nat} (hi : i ≠ f) (h : rf_mf u (some i) f = false) (hx : fx u nf i) : fx (rf_pf u nf f) nf i := by
  obtain ⟨e1, e2, e3⟩ := pf_bb (nf := nf) h
  obtain ⟨p1, p2, p3⟩ := pf_i (u := u) (nf := nf) hi
  unfold fx
  rw [e1, e2, e3, p1, p2, p3, rf_pf_na (b := 17) (by decide) (by decide) (by decide)]
  exact hx
theorem fx_new {u : jm_Mem} {nf f : Nat} (h : rf_mf u (some f) f = false) : fx (rf_pf u nf f) nf f := by
  obtain ⟨e1, e2, e3⟩ := pf_bb (nf := nf) h
  unfold fx
  rw [e1, e2, e3, rf_pf_na (b := 17) (by decide) (by decide) (by decide)]
  exact pf_f
abbrev FM (u : jm_Mem) (nf : Nat) : Prop := FH (u 15) (u 16) (u 17) (u 18) nf
theorem fx_pass {μ : jm_Mem} {nf p : Nat} (H : FM μ nf) (h : ∀ i, i < nf → rk (μ 15) (μ 15 i) nf < p → fx μ nf i) : ∀ f, f ≤ nf → (∀ i, i < nf → rk (μ 15) (μ 15 i) nf < p → fx (rf_pass μ nf f) nf i) ∧ ∀ i, i < f → rk (μ 15) (μ 15 i) nf ≤ p → fx (rf_pass μ nf f) nf i
  | 0, _ => ⟨h, fun i hi => by omega⟩
  | f + 1, hf => by
    obtain ⟨i1, i2⟩ := fx_pass H h f (by omega)
    simp only [rf_pass]
    have hm : ∀ i, rf_mf (rf_pass μ nf f) (some i) f = rf_mf μ (some i) f := fun i => by rw [mf_fk, mf_fk, rf_pass_na (by decide) (by decide) (by decide), rf_pass_na (by decide) (by decide) (by decide), rf_pass_na (by decide) (by decide) (by decide)]
    by_cases c : rk (μ 15) (μ 15 f) nf < p
    · rw [fx_same (i1 f (by omega) c)]
      refine ⟨i1, fun i hi hr => ?_⟩
      by_cases e : i = f
      · subst e; exact i1 i (by omega) c
      · exact i2 i (by omega) hr
    · have hno : ∀ i, i < nf → rk (μ 15) (μ 15 i) nf ≤ p → rf_mf (rf_pass μ nf f) (some i) f = false := by
        intro i hi hr
        rw [hm]
        cases q : rf_mf μ (some i) f with
        | false => rfl
        | true =>
          rw [mf_fk] at q
          have := rk_lt (fk_lt H hi (by omega) q) nf (by omega)
          omega
      have hself : rf_mf (rf_pass μ nf f) (some f) f = false := by
        rw [hm]
        cases q : rf_mf μ (some f) f with
        | false => rfl
        | true =>
          rw [mf_fk] at q
          exact absurd (fk_lt H (by omega) (by omega) q) Int32.lt_irrefl
      refine ⟨fun i hi hr => fx_keep (fun e => by rw [e] at hr; exact c hr) (hno i hi (by omega)) (i1 i hi hr), fun i hi hr => ?_⟩
      by_cases e : i = f
      · subst e; exact fx_new hself
      · exact fx_keep e (hno i (by omega) hr) (i2 i (by omega) hr)
theorem fx_plan {μ : jm_Mem} {nf : Nat} (H : FM μ nf) : ∀ p, ∀ i, i < nf → rk (μ 15) (μ 15 i) nf < p → fx (rf_plan μ nf p) nf i
  | 0, i, _, h => by omega
  | p + 1, i, hi, h => by
    have ih := fx_plan H p
    simp only [rf_plan]
    have e : rf_plan μ nf p 15 = μ 15 := rf_plan_na (by decide) (by decide) (by decide) p
    have H' : FM (rf_plan μ nf p) nf := by
      unfold FM
      rw [rf_plan_na (by decide) (by decide) (by decide), rf_plan_na (by decide) (by decide) (by decide), rf_plan_na (by decide) (by decide) (by decide), rf_plan_na (by decide) (by decide) (by decide)]
      exact H
    exact (fx_pass H' (p := p) (fun i hi h => ih i hi (by rw [e] at h; exact h)) nf (Nat.le_refl _)).2 i hi (by rw [e]; omega)
theorem fx_all {μ : jm_Mem} {nf : Nat} (H : FM μ nf) : ∀ i, i < nf → fx (rf_plan μ nf nf) nf i := fun i hi => fx_plan H nf i hi (rk_self nf hi)
