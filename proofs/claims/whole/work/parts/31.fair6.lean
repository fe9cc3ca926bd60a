/-! rounds: class and model answer alike -/
theorem lx_as : ∀ (c d : List Nat), lx c d = true → ¬ lx d c = true
  | [], _, h => by simp [lx] at h
  | _ :: _, [], h => by simp [lx] at h
  | a :: c, b :: d, h => by
    simp only [lx] at h ⊢
    by_cases e : a = b
    · subst e
      rw [if_pos rfl] at h ⊢
      exact lx_as c d h
    · rw [if_neg e] at h
      rw [if_neg (Ne.symm e)]
      have := of_decide_eq_true h
      intro q
      have := of_decide_eq_true q
      omega
theorem wo_as {gn : Nat → Int32} {c d : List Nat} (h : wo gn c d) : ¬ wo gn d c := by
  intro q
  unfold wo at h q
  rcases h with h | ⟨h, h2 | ⟨h2, h3⟩⟩
  · rcases q with q | ⟨q, -⟩ <;> omega
  · rcases q with q | ⟨q, q2 | ⟨q2, -⟩⟩ <;> omega
  · rcases q with q | ⟨q, q2 | ⟨q2, q3⟩⟩
    · omega
    · omega
    · exact lx_as _ _ h3 q3
abbrev fLS (st : fr_St) : List Nat := lst st.2.2 0 st.2.1
abbrev dS (b : Nat → Int32) (nf s : Nat) : List Nat := lst (ly b s nf).2 0 (ly b s nf).1
theorem ds_mem {b : Nat → Int32} {nf s x : Nat} : x ∈ dS b nf s ↔ x < nf ∧ s / 2 ^ x % 2 = 1 := by
  rw [lst_mem, ← (ly_sp (b := b) (s := s) nf).2 x]
  exact ⟨fun ⟨i, _, h2, h3⟩ => ⟨i, by omega, h3⟩, fun ⟨i, h2, h3⟩ => ⟨i, by omega, by omega, h3⟩⟩
theorem ds_ch {b e dd : Nat → Int32} {nf s : Nat} : ly_v b e dd (ly b s nf).2 (ly b s nf).1 = true ↔ Ch b e dd nf none (dS b nf s) := by
  rw [lst_ch, lyv_iff]
  constructor
  · intro h
    exact ⟨fun i _ hi => (ly_bd nf).2 i (by omega), fun _ => rfl, fun i _ hi => h i (by omega)⟩
  · rintro ⟨-, -, h⟩ i hi
    exact h i (by omega) (by omega)
abbrev sC (c : List Nat) (nf : Nat) : Nat := sB (fun f => decide (f ∈ c)) nf
theorem ds_c {b e gn dd : Nat → Int32} {nf : Nat} {c : List Nat} (H : FH b e gn dd nf) (hc : Ch b e dd nf none c) : dS b nf (sC c nf) = c := by
  obtain ⟨r1, -, r3⟩ := ch_rise H c none (fun i h => by cases h) hc
  refine (lay_uq (b := b) c _ r1 (lst_pw _ _ (fun i j _ hij hj => (ly_sp nf).1 i j hij (by omega))) (fun x => ?_)).symm
  rw [ds_mem]
  constructor
  · intro h
    exact ⟨r3 x h, (sB_bit nf (r3 x h)).mpr (decide_eq_true h)⟩
  · rintro ⟨h1, h2⟩
    exact of_decide_eq_true ((sB_bit nf h1).mp h2)
theorem ds_s {b e gn dd : Nat → Int32} {nf s : Nat} {c : List Nat} (H : FH b e gn dd nf) (hc : Ch b e dd nf none c) (hs : s < 2 ^ nf) (h : dS b nf s = c) : s = sC c nf := by
  refine bit_eq nf hs (sB_lt nf) (fun f hf => ?_)
  rw [sB_bit nf hf, decide_eq_true_iff, ← h, ds_mem]
  exact ⟨fun q => ⟨hf, q⟩, fun q => q.2⟩
theorem bt_wo {gn : Nat → Int32} {n : Nat} {g : Nat → Nat} {z : Int32} {st : fr_St} (h1 : z.toInt = sm gn (lst g 0 n)) (h2 : st.1.toInt = sm gn (fLS st)) : fr_bt n g z st = true ↔ wo gn (fLS st) (lst g 0 n) := by
  unfold fr_bt wo
  rw [decide_eq_true_iff, Int32.lt_iff_toInt_lt, ← Int32.toInt_inj, h1, h2, lst_len, lst_len]
  constructor
  · rintro (h | ⟨h, h3 | ⟨h3, h4⟩⟩)
    · exact Or.inl h
    · exact Or.inr ⟨h.symm, Or.inl h3⟩
    · exact Or.inr ⟨h.symm, Or.inr ⟨h3, by rw [lst_lx] at h4; rw [fLS, ← h3]; exact h4⟩⟩
  · rintro (h | ⟨h, h3 | ⟨h3, h4⟩⟩)
    · exact Or.inl h
    · exact Or.inr ⟨h.symm, Or.inl h3⟩
    · exact Or.inr ⟨h.symm, Or.inr ⟨h3, by rw [lst_lx]; rw [fLS, ← h3] at h4; exact h4⟩⟩
theorem fr_best {b e gn dd : Nat → Int32} {nf : Nat} {c : List Nat} (H : FH b e gn dd nf) (hc : Ch b e dd nf none c) (ho : ∀ d, Ch b e dd nf none d → d = c ∨ wo gn d c) : ∀ k, k < 2 ^ nf → (fr b e gn dd nf k).1.toInt = sm gn (fLS (fr b e gn dd nf k)) ∧ (sC c nf ≤ k → fLS (fr b e gn dd nf k) = c) ∧ (k < sC c nf → wo gn (fLS (fr b e gn dd nf k)) c) := by
  intro k
  induction k with
  | zero =>
    intro _
    refine ⟨?_, fun h => ?_, fun h => ?_⟩
    · show (0 : Int32).toInt = 0
      decide
    · show [] = c
      cases c with
      | nil => rfl
      | cons x t =>
        have hx := hc.1
        have := (sB_bit (p := fun f => decide (f ∈ x :: t)) nf hx).mpr (decide_eq_true List.mem_cons_self)
        rw [show sB (fun f => decide (f ∈ x :: t)) nf = 0 from Nat.le_zero.mp h, Nat.zero_div] at this
        exact absurd this (by decide)
    · rcases ho [] trivial with e | e
      · subst e
        have : sC [] nf = 0 := bit_eq nf (sB_lt nf) (Nat.pow_pos (by decide)) (fun f hf => by
          rw [sB_bit nf hf, Nat.zero_div]
          simp)
        omega
      · exact e
  | succ k ih =>
    intro hk
    obtain ⟨i1, i2, i3⟩ := ih (by omega)
    have hz := lst_sum (gn := gn) (g := (ly b (k + 1) nf).2) (nf := nf) (fun f hf => ⟨(H.2.1 f hf).2.2.2.1, (H.2.1 f hf).2.2.2.2⟩) (ly b (k + 1) nf).1 (Nat.le_trans (ly_bd nf).1 H.1) (ly_bd nf).2
    by_cases v : ly_v b e dd (ly b (k + 1) nf).2 (ly b (k + 1) nf).1 = true ∧ fr_bt (ly b (k + 1) nf).1 (ly b (k + 1) nf).2 (ly_sum gn (ly b (k + 1) nf).2 (ly b (k + 1) nf).1) (fr b e gn dd nf k) = true
    · rw [fr_yes v.1 v.2]
      have w := (bt_wo hz.1 i1).mp v.2
      have cd := ds_ch.mp v.1
      refine ⟨hz.1, fun h => ?_, fun h => ?_⟩
      · by_cases e : sC c nf = k + 1
        · show dS b nf (k + 1) = c
          rw [← e]; exact ds_c H hc
        · rw [i2 (by omega)] at w
          rcases ho _ cd with q | q
          · replace w : wo gn c (dS b nf (k + 1)) := w
            rw [q] at w; exact absurd w (wo_as w)
          · exact absurd q (wo_as w)
      · rcases ho _ cd with q | q
        · have := ds_s H hc hk q
          omega
        · exact q
    · rw [show fr b e gn dd nf (k + 1) = fr b e gn dd nf k from if_neg v]
      refine ⟨i1, fun h => ?_, fun h => i3 (by omega)⟩
      by_cases q : sC c nf = k + 1
      · refine absurd ⟨?_, ?_⟩ v
        · rw [ds_ch, ← q, ds_c H hc]; exact hc
        · rw [bt_wo hz.1 i1]
          show wo gn _ (dS b nf (k + 1))
          rw [← q, ds_c H hc]
          exact i3 (by omega)
      · exact i2 (by omega)
theorem ch_tr {b e dd b' e' dd' : Nat → Int32} {nf : Nat} (h8 : nf ≤ 8) (hb : ∀ f, f < 8 → b' f = b f ∧ e' f = e f) (hd : ∀ k, k < 64 → dd' k = dd k) : ∀ (c : List Nat) (o : Option Nat), (∀ i, o = some i → i < nf) → (Ch b' e' dd' nf o c ↔ Ch b e dd nf o c)
  | [], _, _ => Iff.rfl
  | j :: t, o, ho => by
    simp only [Ch]
    have f : j < nf → fk b' e' dd' o j = fk b e dd o j := by
      intro hj
      cases o with
      | none => rfl
      | some i =>
        have hi := ho i rfl
        simp only [fk]
        rw [(hb i (by omega)).2, (hb j (by omega)).1, hd (8 * i + j) (by omega)]
    constructor
    · rintro ⟨h1, h2, h3⟩
      exact ⟨h1, by rw [← f h1]; exact h2, (ch_tr h8 hb hd t (some j) (fun i q => by cases q; exact h1)).mp h3⟩
    · rintro ⟨h1, h2, h3⟩
      exact ⟨h1, by rw [f h1]; exact h2, (ch_tr h8 hb hd t (some j) (fun i q => by cases q; exact h1)).mpr h3⟩
theorem sm_tr {b e dd gn gn' : Nat → Int32} {nf : Nat} (h8 : nf ≤ 8) (hg : ∀ f, f < 8 → gn' f = gn f) : ∀ (c : List Nat) (o : Option Nat), Ch b e dd nf o c → sm gn' c = sm gn c
  | [], _, _ => rfl
  | j :: t, o, h => by
    simp only [sm]
    rw [sm_tr h8 hg t (some j) h.2.2, hg j (by have := h.1; omega)]
theorem lst_get {g : Nat → Nat} : ∀ t k i, i < t → (lst g k t)[i]? = some (g (k + i))
  | 0, _, _, h => by omega
  | t + 1, k, 0, _ => rfl
  | t + 1, k, i + 1, h => by
    simp only [lst, List.getElem?_cons_succ]
    rw [lst_get t (k + 1) i (by omega)]
    congr 2; omega
theorem it_none {fol : Nat → Option Nat} : ∀ k, rf_it fol k none = none
  | 0 => rfl
  | _ + 1 => rfl
theorem it_pth {u : jm_Mem} {nf : Nat} {fol : Nat → Option Nat} (hf : ∀ i, i < nf → fol i = rf_bb u (some i) nf) : ∀ k K o, k < K → rf_it fol k (rf_bb u o nf) = (pth u nf K o)[k]?
  | k, 0, o, h => by omega
  | 0, K + 1, o, _ => by
    simp only [rf_it, pth]
    cases rf_bb u o nf <;> rfl
  | k + 1, K + 1, o, h => by
    simp only [pth]
    cases q : rf_bb u o nf with
    | none => rw [it_none]; rfl
    | some j =>
      simp only [rf_it, List.getElem?_cons_succ]
      rw [hf j (bb_mf nf q).2, it_pth hf k K (some j) (by omega)]
theorem ro_rv {o : Option Nat} (h : ∀ i, o = some i → i < 8) : rf_o (rf_v o) = o := by
  cases o with
  | none => rfl
  | some i =>
    have := h i rfl
    have e : (nI i).toInt = i := nI_toInt (by omega)
    show (if nI i < 0 then none else some (nI i).toNatClampNeg) = some i
    rw [if_neg (show ¬ nI i < 0 from nI_pos (by omega))]
    congr 1
    unfold Int32.toNatClampNeg
    rw [e]; rfl
/-- what both find -/
theorem Rel.best {μ : jm_Mem} (R : Rel μ) {nf : Nat} (hn : μ 14 4 = nI nf) (h8 : nf ≤ 8) {a : jm_Mem} (ha : ∀ q, q = 34 ∨ q = 35 ∨ q = 36 ∨ q = 37 → a q = μ q) : (∀ i, i < nf → rf_plan μ nf nf 21 i = rf_v (rf_o (rf_plan μ nf nf 21 i)) ∧ rf_ok nf (rf_o (rf_plan μ nf nf 21 i))) ∧ rf_g (rf_plan μ nf nf) (rf_bb (rf_plan μ nf nf) none nf) = (fr (a 34) (a 35) (a 36) (a 37) nf (2 ^ nf - 1)).1 ∧ 0 ≤ (fr (a 34) (a 35) (a 36) (a 37) nf (2 ^ nf - 1)).1.toInt ∧ ∀ i, i < nf → rf_it (fun i => rf_o (rf_plan μ nf nf 21 i)) i (rf_bb (rf_plan μ nf nf) none nf) = if i < (fr (a 34) (a 35) (a 36) (a 37) nf (2 ^ nf - 1)).2.1 then some ((fr (a 34) (a 35) (a 36) (a 37) nf (2 ^ nf - 1)).2.2 i) else none := by
  obtain ⟨n2, m8, e1, e2, hb, hd, hv, hr⟩ := R.2.2.2.2.2.2.1
  have : n2 = nf := (nI_eq (by omega) (by omega)).mp (by rw [← e1, hn])
  subst this
  have H : FM μ n2 := ⟨h8, fun f hf => ⟨(hv f hf).1, (hv f hf).2.1, (hv f hf).2.2.1, (hv f hf).2.2.2⟩, hr⟩
  have x := fx_all H
  generalize hu : rf_plan μ n2 n2 = u at *
  have u5 : u 15 = μ 15 := by rw [← hu]; exact rf_plan_na (by decide) (by decide) (by decide) n2
  have u6 : u 16 = μ 16 := by rw [← hu]; exact rf_plan_na (by decide) (by decide) (by decide) n2
  have u7 : u 17 = μ 17 := by rw [← hu]; exact rf_plan_na (by decide) (by decide) (by decide) n2
  have u8 : u 18 = μ 18 := by rw [← hu]; exact rf_plan_na (by decide) (by decide) (by decide) n2
  have HU : FM u n2 := by unfold FM; rw [u5, u6, u7, u8]; exact H
  obtain ⟨o1, o2, o3, o4⟩ := op_all HU x
  have fo : ∀ i, i < n2 → rf_o (u 21 i) = rf_bb u (some i) n2 := fun i hi => by rw [(x i hi).1]; exact ro_rv (fun j hj => by have := (bb_mf n2 hj).2; omega)
  have A : FH (a 34) (a 35) (a 36) (a 37) n2 := by
    rw [ha 34 (by omega), ha 35 (by omega), ha 36 (by omega), ha 37 (by omega)]
    refine ⟨h8, fun f hf => ?_, fun k hk => by rw [hd k hk]; exact hr k hk⟩
    rw [(hb f (by omega)).1, (hb f (by omega)).2.1, (hb f (by omega)).2.2]
    exact hv f hf
  have T : ∀ c, Ch (a 34) (a 35) (a 37) n2 none c ↔ CF u n2 none c := by
    intro c
    rw [ha 34 (by omega), ha 35 (by omega), ha 37 (by omega)]
    unfold CF
    rw [u5, u6, u8]
    exact ch_tr h8 (fun f hf => ⟨(hb f hf).1, (hb f hf).2.1⟩) hd c none (fun i h => by cases h)
  have S : ∀ c, CF u n2 none c → sm (a 36) c = sm (u 17) c := by
    intro c h
    rw [ha 36 (by omega), u7]
    exact sm_tr h8 (fun f hf => (hb f hf).2.2) c none h
  have k2 := ly_2n h8
  have F := fr_best A ((T _).mpr o1) (fun d hd' => by
    have hd2 := (T d).mp hd'
    rcases o4 d hd2 with h | h
    · exact Or.inl h
    · right
      unfold wo at h ⊢
      rw [S d hd2, S _ o1]
      exact h) (2 ^ n2 - 1) (by omega)
  have sl : sC (pth u n2 (n2 + 2) none) n2 ≤ 2 ^ n2 - 1 := by
    have : sC (pth u n2 (n2 + 2) none) n2 < 2 ^ n2 := sB_lt n2
    omega
  have F2 := F.2.1 sl
  have F1 := F.1
  rw [F2, S _ o1] at F1
  have F3 := congrArg List.length F2
  rw [lst_len] at F3
  refine ⟨fun i hi => ?_, ?_, ?_, fun i hi => ?_⟩
  · rw [fo i hi]
    exact ⟨(x i hi).1, fun j hj => (bb_mf n2 hj).2⟩
  · rw [← Int32.toInt_inj, o2, F1]
  · rw [F1]; exact (ch_sm HU _ none o1).1
  · rw [it_pth (nf := n2) fo i (n2 + 2) none (by omega)]
    split
    · next c => rw [← F2, lst_get _ _ _ c, Nat.zero_add]
    · next c => exact List.getElem?_eq_none (by omega)
