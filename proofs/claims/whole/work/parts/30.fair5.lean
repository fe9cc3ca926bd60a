/-! rounds: the model's sets, laid in order, are the chains -/
def lst (g : Nat → Nat) : Nat → Nat → List Nat
  | _, 0 => []
  | k, t + 1 => g k :: lst g (k + 1) t
theorem lst_len {g : Nat → Nat} : ∀ t k, (lst g k t).length = t
  | 0, _ => rfl
  | t + 1, k => by simp only [lst, List.length_cons, lst_len t (k + 1)]
theorem lst_mem {g : Nat → Nat} {x : Nat} : ∀ t k, x ∈ lst g k t ↔ ∃ i, k ≤ i ∧ i < k + t ∧ g i = x
  | 0, k => by
    simp only [lst, List.not_mem_nil, false_iff]
    rintro ⟨i, h1, h2, -⟩
    omega
  | t + 1, k => by
    simp only [lst, List.mem_cons, lst_mem t (k + 1)]
    constructor
    · rintro (rfl | ⟨i, h1, h2, h3⟩)
      · exact ⟨k, by omega, by omega, rfl⟩
      · exact ⟨i, by omega, by omega, h3⟩
    · rintro ⟨i, h1, h2, h3⟩
      by_cases e : i = k
      · subst e; exact Or.inl h3.symm
      · exact Or.inr ⟨i, by omega, by omega, h3⟩
theorem lst_lx {g h : Nat → Nat} : ∀ t k, ly_ls g h k t = lx (lst g k t) (lst h k t)
  | 0, _ => rfl
  | t + 1, k => by
    simp only [ly_ls, lst, lx, lst_lx t (k + 1)]
theorem lst_sm {gn : Nat → Int32} {g : Nat → Nat} : ∀ t k, sm gn (lst g k (t + 1)) = sm gn (lst g k t) + (gn (g (k + t))).toInt
  | 0, k => by simp only [lst, sm, Nat.add_zero]; omega
  | t + 1, k => by
    have := lst_sm (gn := gn) (g := g) t (k + 1)
    rw [show lst g k (t + 1 + 1) = g k :: lst g (k + 1) (t + 1) from rfl, show lst g k (t + 1) = g k :: lst g (k + 1) t from rfl]
    simp only [sm]
    rw [this, show k + 1 + t = k + (t + 1) by omega]
    omega
theorem lst_sum {gn : Nat → Int32} {g : Nat → Nat} {nf : Nat} (hg : ∀ f, f < nf → 0 ≤ (gn f).toInt ∧ (gn f).toInt ≤ 10000) : ∀ n, n ≤ 8 → (∀ i, i < n → g i < nf) → (ly_sum gn g n).toInt = sm gn (lst g 0 n) ∧ 0 ≤ (ly_sum gn g n).toInt ∧ (ly_sum gn g n).toInt ≤ 10000 * n
  | 0, _, _ => by
    have : (ly_sum gn g 0).toInt = 0 := by show (0 : Int32).toInt = 0; decide
    simp only [lst, sm]
    omega
  | n + 1, hn, h => by
    obtain ⟨i1, i2, i3⟩ := lst_sum hg n (by omega) (fun i hi => h i (by omega))
    obtain ⟨g1, g2⟩ := hg (g n) (h n (by omega))
    rw [lst_sm, Nat.zero_add, ← i1]
    simp only [ly_sum]
    rw [ti_add (by omega) (by omega)]
    omega
theorem lst_ch {b e dd : Nat → Int32} {nf : Nat} {g : Nat → Nat} : ∀ t k o, Ch b e dd nf o (lst g k t) ↔ (∀ i, k ≤ i → i < k + t → g i < nf) ∧ (0 < t → fk b e dd o (g k) = true) ∧ ∀ i, k ≤ i → i + 1 < k + t → fk b e dd (some (g i)) (g (i + 1)) = true
  | 0, k, o => by
    simp only [lst, Ch, true_iff]
    exact ⟨fun i _ _ => by omega, fun h => by omega, fun i _ _ => by omega⟩
  | t + 1, k, o => by
    simp only [lst, Ch, lst_ch t (k + 1) (some (g k))]
    constructor
    · rintro ⟨h1, h2, h3, h4, h5⟩
      refine ⟨fun i hi1 hi2 => ?_, fun _ => h2, fun i hi1 hi2 => ?_⟩
      · by_cases e : i = k
        · subst e; exact h1
        · exact h3 i (by omega) (by omega)
      · by_cases e : i = k
        · subst e; exact h4 (by omega)
        · exact h5 i (by omega) (by omega)
    · rintro ⟨h1, h2, h3⟩
      exact ⟨h1 k (by omega) (by omega), h2 (by omega), fun i hi1 hi2 => h1 i (by omega) (by omega), fun ht => h3 k (by omega) (by omega), fun i hi1 hi2 => h3 i (by omega) (by omega)⟩
theorem lyv_iff {b e dd : Nat → Int32} {g : Nat → Nat} : ∀ n, ly_v b e dd g n = true ↔ ∀ i, i + 1 < n → fk b e dd (some (g i)) (g (i + 1)) = true
  | 0 => by simp only [ly_v, true_iff]; exact fun i h => by omega
  | 1 => by simp only [ly_v, true_iff]; exact fun i h => by omega
  | k + 2 => by
    simp only [ly_v, Bool.and_eq_true, lyv_iff (k + 1)]
    constructor
    · rintro ⟨h1, h2⟩ i hi
      by_cases c : i = k
      · subst c; exact h2
      · exact h1 i (by omega)
    · intro h
      exact ⟨fun i hi => h i (by omega), h k (by omega)⟩
theorem lp_sp {b : Nat → Int32} {f : Nat} {g : Nat → Nat} : ∀ a, (0 < ly_pos b f g a → b (g (ly_pos b f g a - 1)) ≤ b f) ∧ ∀ i, ly_pos b f g a ≤ i → i < a → ¬ b (g i) ≤ b f
  | 0 => ⟨fun h => absurd h (by simp [ly_pos]), fun i _ h => by omega⟩
  | a + 1 => by
    simp only [ly_pos]
    split
    · next c => exact ⟨fun _ => c, fun i h1 h2 => by omega⟩
    · next c =>
      obtain ⟨h1, h2⟩ := lp_sp (b := b) (f := f) (g := g) a
      refine ⟨h1, fun i hi1 hi2 => ?_⟩
      by_cases e : i = a
      · subst e; exact c
      · exact h2 i hi1 (by omega)
theorem ly_sp {b : Nat → Int32} {s : Nat} : ∀ f, (∀ i j, i < j → j < (ly b s f).1 → b ((ly b s f).2 i) ≤ b ((ly b s f).2 j) ∧ (ly b s f).2 i ≠ (ly b s f).2 j) ∧ ∀ x, (∃ i, i < (ly b s f).1 ∧ (ly b s f).2 i = x) ↔ x < f ∧ s / 2 ^ x % 2 = 1
  | 0 => ⟨fun i j _ h => absurd h (by simp [ly]), fun x => ⟨fun ⟨i, h, _⟩ => absurd h (by simp [ly]), fun h => by omega⟩⟩
  | f + 1 => by
    obtain ⟨h1, h2⟩ := ly_sp (b := b) (s := s) f
    obtain ⟨d1, d2⟩ := ly_bd (b := b) (s := s) f
    by_cases c : s / 2 ^ f % 2 = 1
    · rw [ly_yes c]
      obtain ⟨p1, p2⟩ := lp_sp (b := b) (f := f) (g := (ly b s f).2) (ly b s f).1
      have p3 := ly_pos_le (b := b) (f := f) (g := (ly b s f).2) (ly b s f).1
      generalize (ly b s f).1 = n at *
      generalize (ly b s f).2 = g at *
      generalize ly_pos b f g n = p at *
      dsimp only
      have q1 : ∀ i, i < p → b (g i) ≤ b f := by
        intro i hi
        by_cases e : i = p - 1
        · rw [e]; exact p1 (by omega)
        · exact Int32.le_trans (h1 i (p - 1) (by omega) (by omega)).1 (p1 (by omega))
      have q2 : ∀ i, p ≤ i → i < n → b f ≤ b (g i) := fun i a1 a2 => Int32.le_of_lt (Int32.not_le.mp (p2 i a1 a2))
      have q3 : ∀ i, i < n → g i ≠ f := fun i hi e => by have := d2 i hi; omega
      refine ⟨fun i j hij hj => ?_, fun x => ?_⟩
      · unfold ly_put
        by_cases a1 : j < p
        · rw [if_pos a1, if_pos (by omega)]; exact h1 i j hij (by omega)
        · by_cases a2 : j = p
          · rw [if_neg a1, if_pos a2, if_pos (by omega)]; exact ⟨q1 i (by omega), q3 i (by omega)⟩
          · rw [if_neg a1, if_neg a2]
            by_cases a3 : i < p
            · rw [if_pos a3]; exact h1 i (j - 1) (by omega) (by omega)
            · by_cases a4 : i = p
              · rw [if_neg a3, if_pos a4]; exact ⟨q2 (j - 1) (by omega) (by omega), Ne.symm (q3 (j - 1) (by omega))⟩
              · rw [if_neg a3, if_neg a4]; exact h1 (i - 1) (j - 1) (by omega) (by omega)
      · constructor
        · rintro ⟨i, hi, he⟩
          unfold ly_put at he
          by_cases a1 : i < p
          · rw [if_pos a1] at he
            have := (h2 x).mp ⟨i, by omega, he⟩
            exact ⟨by omega, this.2⟩
          · by_cases a2 : i = p
            · rw [if_neg a1, if_pos a2] at he
              subst he
              exact ⟨by omega, c⟩
            · rw [if_neg a1, if_neg a2] at he
              have := (h2 x).mp ⟨i - 1, by omega, he⟩
              exact ⟨by omega, this.2⟩
        · rintro ⟨hx, hb⟩
          unfold ly_put
          by_cases e : x = f
          · exact ⟨p, by omega, by rw [if_neg (by omega), if_pos rfl, e]⟩
          · obtain ⟨i, hi, he⟩ := (h2 x).mpr ⟨by omega, hb⟩
            by_cases a1 : i < p
            · exact ⟨i, by omega, by rw [if_pos a1]; exact he⟩
            · exact ⟨i + 1, by omega, by rw [if_neg (by omega), if_neg (by omega), Nat.add_sub_cancel]; exact he⟩
    · rw [ly_no c]
      refine ⟨h1, fun x => (h2 x).trans ⟨fun h => ⟨by omega, h.2⟩, fun h => ⟨?_, h.2⟩⟩⟩
      by_cases e : x = f
      · rw [e] at h; exact absurd h.2 c
      · omega
/-- two ways to lay the same fairs -/
theorem lay_uq {b : Nat → Int32} : ∀ (c d : List Nat), c.Pairwise (fun x y => b x < b y) → d.Pairwise (fun x y => b x ≤ b y ∧ x ≠ y) → (∀ x, x ∈ c ↔ x ∈ d) → c = d
  | [], [], _, _, _ => rfl
  | [], y :: d, _, _, h => absurd ((h y).mpr List.mem_cons_self) List.not_mem_nil
  | x :: c, [], _, _, h => absurd ((h x).mp List.mem_cons_self) List.not_mem_nil
  | x :: c, y :: d, h1, h2, h => by
    obtain ⟨a1, a2⟩ := List.pairwise_cons.mp h1
    obtain ⟨b1, b2⟩ := List.pairwise_cons.mp h2
    have e : x = y := by
      rcases List.mem_cons.mp ((h x).mp List.mem_cons_self) with e | e
      · exact e
      · rcases List.mem_cons.mp ((h y).mpr List.mem_cons_self) with e2 | e2
        · exact e2.symm
        · exact absurd (b1 x e).1 (Int32.not_le.mpr (a1 y e2))
    subst e
    rw [lay_uq c d a2 b2 (fun z => ⟨fun hz => ?_, fun hz => ?_⟩)]
    · rcases List.mem_cons.mp ((h z).mp (List.mem_cons_of_mem _ hz)) with e | e
      · subst e; exact absurd (a1 z hz) Int32.lt_irrefl
      · exact e
    · rcases List.mem_cons.mp ((h z).mpr (List.mem_cons_of_mem _ hz)) with e | e
      · subst e; exact absurd rfl (b1 z hz).2
      · exact e
theorem ch_rise {b e gn dd : Nat → Int32} {nf : Nat} (H : FH b e gn dd nf) : ∀ (c : List Nat) (o : Option Nat), (∀ i, o = some i → i < nf) → Ch b e dd nf o c → c.Pairwise (fun x y => b x < b y) ∧ (∀ i, o = some i → ∀ x, x ∈ c → b i < b x) ∧ ∀ x, x ∈ c → x < nf
  | [], _, _, _ => ⟨List.Pairwise.nil, fun _ _ x h => absurd h List.not_mem_nil, fun x h => absurd h List.not_mem_nil⟩
  | j :: t, o, ho, h => by
    obtain ⟨h1, h2, h3⟩ := h
    obtain ⟨i1, i2, i3⟩ := ch_rise H t (some j) (fun i e => by cases e; exact h1) h3
    have i2 := i2 j rfl
    refine ⟨List.pairwise_cons.mpr ⟨i2, i1⟩, fun i e x hx => ?_, fun x hx => ?_⟩
    · subst e
      have l := fk_lt H (ho i rfl) h1 h2
      rcases List.mem_cons.mp hx with e | e
      · rw [e]; exact l
      · exact Int32.lt_trans l (i2 x e)
    · rcases List.mem_cons.mp hx with e | e
      · rw [e]; exact h1
      · exact i3 x e
theorem lst_pw {r : Nat → Nat → Prop} {g : Nat → Nat} : ∀ t k, (∀ i j, k ≤ i → i < j → j < k + t → r (g i) (g j)) → (lst g k t).Pairwise r
  | 0, _, _ => List.Pairwise.nil
  | t + 1, k, h => by
    simp only [lst]
    refine List.pairwise_cons.mpr ⟨fun x hx => ?_, lst_pw t (k + 1) (fun i j a1 a2 a3 => h i j (by omega) a2 (by omega))⟩
    obtain ⟨i, a1, a2, rfl⟩ := (lst_mem t (k + 1)).mp hx
    exact h k i (by omega) (by omega) (by omega)
/-- a set of fairs as a number -/
def sB (p : Nat → Bool) : Nat → Nat
  | 0 => 0
  | n + 1 => sB p n + if p n = true then 2 ^ n else 0
theorem sB_lt {p : Nat → Bool} : ∀ n, sB p n < 2 ^ n
  | 0 => Nat.one_pos
  | n + 1 => by
    have := sB_lt (p := p) n
    simp only [sB]
    rw [Nat.pow_succ]
    split <;> omega
theorem sB_bit {p : Nat → Bool} {f : Nat} : ∀ n, f < n → (sB p n / 2 ^ f % 2 = 1 ↔ p f = true)
  | 0, h => by omega
  | n + 1, h => by
    simp only [sB]
    by_cases e : f = n
    · subst e
      have := sB_lt (p := p) f
      cases c : p f with
      | true => rw [if_pos rfl, Nat.add_div_right _ (Nat.pow_pos (by decide)), Nat.div_eq_of_lt this]; simp
      | false => rw [if_neg (by decide), Nat.add_zero, Nat.div_eq_of_lt this]; simp
    · rw [← sB_bit n (show f < n by omega)]
      split
      · have e2 : 2 ^ n = 2 ^ f * (2 * 2 ^ (n - f - 1)) := by rw [← Nat.pow_succ', ← Nat.pow_add]; congr 1; omega
        rw [e2, Nat.add_mul_div_left _ _ (Nat.pow_pos (by decide)), Nat.add_mul_mod_self_left]
      · rw [Nat.add_zero]
theorem bit_eq {s t : Nat} : ∀ n, s < 2 ^ n → t < 2 ^ n → (∀ f, f < n → (s / 2 ^ f % 2 = 1 ↔ t / 2 ^ f % 2 = 1)) → s = t := by
  intro n
  induction n generalizing s t with
  | zero => intro h1 h2 _; omega
  | succ n ih =>
    intro h1 h2 h
    have h0 := h 0 (by omega)
    simp only [Nat.pow_zero, Nat.div_one] at h0
    have := ih (s := s / 2) (t := t / 2) (by rw [Nat.pow_succ] at h1; omega) (by rw [Nat.pow_succ] at h2; omega) (fun f hf => by
      have := h (f + 1) (by omega)
      rw [Nat.pow_succ', ← Nat.div_div_eq_div_mul, ← Nat.div_div_eq_div_mul] at this
      exact this)
    omega
