theorem md_sh_cc {u v : jm_Mem} (h : ∀ q, q ≠ 1 → q ≠ 3 → u q = v q) : md_sh u = md_sh v := md_sh_c (h 25 (by decide) (by decide)) (h 26 (by decide) (by decide)) (h 27 (by decide) (by decide)) (h 28 (by decide) (by decide))
theorem js_c {u v : jm_Mem} {a i : Nat} {w : Int32} (h : ∀ q, q ≠ 1 → q ≠ 3 → u q = v q) (h1 : a ≠ 1) (h3 : a ≠ 3) : ∀ q, q ≠ 1 → q ≠ 3 → jm_set u a i w q = jm_set v a i w q := by
  intro q q1 q3
  by_cases e : q = a
  · subst e; rw [jm_set_eq, jm_set_eq, h q q1 q3]
  · rw [jm_set_ne q e, jm_set_ne q e, h q q1 q3]
theorem sqq {μ : jm_Mem} {j : Nat} {w : Int32} : ∀ q, q ≠ 1 → q ≠ 3 → sq0 μ j w q = jm_set μ 28 j w q := fun q h1 h3 => sq_m q h1 h3
theorem sqq2 {μ : jm_Mem} {j i : Nat} {w v : Int32} : ∀ q, q ≠ 1 → q ≠ 3 → sq0 (sq0 μ j w) i v q = jm_set (jm_set μ 28 j w) 28 i v q := fun q h1 h3 => by rw [sqq q h1 h3]; exact js_c sqq (by decide) (by decide) q h1 h3
theorem sqq3 {μ : jm_Mem} {j i k : Nat} {w v x : Int32} : ∀ q, q ≠ 1 → q ≠ 3 → sq0 (sq0 (sq0 μ j w) i v) k x q = jm_set (jm_set (jm_set μ 28 j w) 28 i v) 28 k x q := fun q h1 h3 => by rw [sqq q h1 h3]; exact js_c sqq2 (by decide) (by decide) q h1 h3
abbrev gws (a b c : Int32) : Nat → Int32 := fun i => if i = 0 then a else if i = 1 then b else c
theorem row1 {μ : jm_Mem} (R : Rel μ) {a b c : Int32} {tr : Nat → Int32} (wa : rg_wi a 1 (nI 150)) (r : Nat) (hr : r < 12) : gm_ok1 μ r = gx_ok (gc_fr μ) 1 0 tr r ∧ (gm_ok1 μ r = true → md_sh (gm_m1 μ a r) = gx_z (gws a b c) 1 0 (μ 1 4) (μ 1 5) r) ∧ ∀ i, i < 1 → (if i = 0 then nI r else if i = 1 then (-1 : Int32) else -1) = gx_t 1 0 tr r i := by
  have e1 : r / 12 ^ 0 = r := Nat.div_one r
  refine ⟨?_, fun h => ?_, fun i hi => ?_⟩
  · simp only [gm_ok1, gx_ok, gc_tk, e1, Bool.not_false, Bool.and_true]
    exact md_fr_eq R hr
  · have hf : gc_fr μ r = true := by rw [← md_fr_eq R hr]; exact h
    have R1 := R.sq hr hf wa
    simp only [gx_z, e1]
    rw [show md_sh (gm_m1 μ a r) = md_sh (sq0 μ r a) from (md_sh_cc sqq).symm, md_sh_eq R1.1 R1.2.1, sq_x.1, sq_x.2]; rfl
  · obtain rfl : i = 0 := by omega
    simp only [gx_t, e1, if_true]
    rw [pk_us]
theorem row2 {μ : jm_Mem} (R : Rel μ) {a b c : Int32} {tr : Nat → Int32} (wa : rg_wi a 1 (nI 150)) (wb : rg_wi b 1 (nI 150)) (r : Nat) (hr : r < 144) : gm_ok2 μ r = gx_ok (gc_fr μ) 2 0 tr r ∧ (gm_ok2 μ r = true → md_sh (gm_m2 μ a b r) = gx_z (gws a b c) 2 0 (μ 1 4) (μ 1 5) r) ∧ ∀ i, i < 2 → (if i = 0 then nI (r / 12) else if i = 1 then nI (r % 12) else -1) = gx_t 2 0 tr r i := by
  have e1 : r / 12 ^ 1 = r / 12 := rfl
  have e2 : r % 12 ^ 1 = r % 12 := rfl
  have e3 : r % 12 / 12 ^ 0 = r % 12 := Nat.div_one _
  have hp : r / 12 < 12 := by omega
  have hq : r % 12 < 12 := by omega
  have hok : gm_ok2 μ r = (gc_fr μ (r / 12) && (gc_fr μ (r % 12) && decide (r % 12 ≠ r / 12))) := by simp only [gm_ok2]; rw [md_fr_eq R hp, md_fr_eq R hq]
  refine ⟨?_, fun h => ?_, fun i hi => ?_⟩
  · rw [hok]
    simp only [gx_ok, e1, e2, e3, Bool.and_true]
    rw [tk1 hp hq]
    simp only [gc_tk, Bool.not_false, Bool.and_true]
    by_cases e : r % 12 = r / 12
    · rw [e]; simp
    · rw [decide_eq_true e, decide_eq_false (Ne.symm e)]; simp
  · rw [hok] at h
    simp only [Bool.and_eq_true] at h
    obtain ⟨f1, f2, f3⟩ := h
    have f3 := of_decide_eq_true f3
    have R1 := R.sq hp f1 wa
    have R2 := R1.sq hq (by rw [sq_fr f3]; exact f2) wb
    simp only [gx_z, e1, e2, e3]
    rw [show md_sh (gm_m2 μ a b r) = md_sh (sq0 (sq0 μ (r / 12) a) (r % 12) b) from (md_sh_cc sqq2).symm, md_sh_eq R2.1 R2.2.1, sq_x.1, sq_x.2, sq_x.1, sq_x.2]; rfl
  · simp only [gx_t, e1, e2, e3]
    obtain rfl | rfl : i = 0 ∨ i = 1 := by omega
    · rw [if_pos rfl, pk_un (by decide), pk_us]
    · rw [if_neg (by decide), if_pos rfl, pk_us]
theorem row3 {μ : jm_Mem} (R : Rel μ) {a b c : Int32} {tr : Nat → Int32} (wa : rg_wi a 1 (nI 150)) (wb : rg_wi b 1 (nI 150)) (wc : rg_wi c 1 (nI 150)) (r : Nat) (hr : r < 1728) : gm_ok3 μ r = gx_ok (gc_fr μ) 3 0 tr r ∧ (gm_ok3 μ r = true → md_sh (gm_m3 μ a b c r) = gx_z (gws a b c) 3 0 (μ 1 4) (μ 1 5) r) ∧ ∀ i, i < 3 → (if i = 0 then nI (r / 144) else if i = 1 then nI (r / 12 % 12) else nI (r % 12)) = gx_t 3 0 tr r i := by
  have e2 : r % 12 ^ 2 / 12 ^ 1 = r / 12 % 12 := by show r % 144 / 12 = r / 12 % 12; omega
  have e3 : r % 12 ^ 2 % 12 ^ 1 / 12 ^ 0 = r % 12 := by show r % 144 % 12 / 1 = r % 12; omega
  have hp : r / 144 < 12 := by omega
  have hq : r / 12 % 12 < 12 := by omega
  have hs : r % 12 < 12 := by omega
  have hok : gm_ok3 μ r = (gc_fr μ (r / 144) && ((gc_fr μ (r / 12 % 12) && decide (r / 12 % 12 ≠ r / 144)) && (gc_fr μ (r % 12) && (decide (r % 12 ≠ r / 144) && decide (r % 12 ≠ r / 12 % 12))))) := by simp only [gm_ok3]; rw [md_fr_eq R hp, md_fr_eq R hq, md_fr_eq R hs]
  generalize hP : r / 144 = p at *
  generalize hQ : r / 12 % 12 = q at *
  generalize hS : r % 12 = s at *
  have e1 : r / 12 ^ 2 = p := hP
  refine ⟨?_, fun h => ?_, fun i hi => ?_⟩
  · rw [hok]
    simp only [gx_ok, e1, e2, e3, Bool.and_true]
    rw [tk1 hp hq, tk2 hp hq hs]
    simp only [gc_tk, Bool.not_false, Bool.and_true]
    by_cases d1 : q = p
    · subst d1; simp
    · rw [decide_eq_true d1, decide_eq_false (Ne.symm d1)]
      by_cases d2 : s = p
      · subst d2; simp
      · rw [decide_eq_true d2, decide_eq_false (Ne.symm d2)]
        by_cases d3 : s = q
        · subst d3; simp
        · rw [decide_eq_true d3, decide_eq_false (Ne.symm d3)]; simp
  · rw [hok] at h
    simp only [Bool.and_eq_true] at h
    obtain ⟨f1, ⟨f2, f3⟩, f4, f5, f6⟩ := h
    have f3 := of_decide_eq_true f3
    have f5 := of_decide_eq_true f5
    have f6 := of_decide_eq_true f6
    have R1 := R.sq hp f1 wa
    have R2 := R1.sq hq (by rw [sq_fr f3]; exact f2) wb
    have R3 := R2.sq hs (by rw [sq_fr f6, sq_fr f5]; exact f4) wc
    simp only [gx_z, e1, e2, e3]
    have em : gm_m3 μ a b c r = jm_set (jm_set (jm_set μ 28 p a) 28 q b) 28 s c := by simp only [gm_m3, hP, hQ, hS]
    rw [em, show md_sh (jm_set (jm_set (jm_set μ 28 p a) 28 q b) 28 s c) = md_sh (sq0 (sq0 (sq0 μ p a) q b) s c) from (md_sh_cc sqq3).symm, md_sh_eq R3.1 R3.2.1, sq_x.1, sq_x.2, sq_x.1, sq_x.2, sq_x.1, sq_x.2]; rfl
  · simp only [gx_t, e1, e2, e3]
    obtain rfl | rfl | rfl : i = 0 ∨ i = 1 ∨ i = 2 := by omega
    · rw [if_pos rfl, pk_un (by decide), pk_un (by decide), pk_us]
    · rw [if_neg (by decide), if_pos rfl, pk_un (by decide), pk_us]
    · rw [if_neg (by decide), if_neg (by decide), pk_us]
/-- class and model have chosen alike -/
theorem pick {μ : jm_Mem} (R : Rel μ) {a b c : Int32} (wa : rg_wi a 1 (nI 150)) : gx_J 1 (gc_try (gc_fr μ) (gws a b c) 1 0 (μ 1 4) (μ 1 5) (-1, μ 7, μ 6)) (gm_g1 μ a) ∧ (rg_wi b 1 (nI 150) → gx_J 2 (gc_try (gc_fr μ) (gws a b c) 2 0 (μ 1 4) (μ 1 5) (-1, μ 7, μ 6)) (gm_g2 μ a b) ∧ (rg_wi c 1 (nI 150) → gx_J 3 (gc_try (gc_fr μ) (gws a b c) 3 0 (μ 1 4) (μ 1 5) (-1, μ 7, μ 6)) (gm_g3 μ a b c))) := by
  have j0 : ∀ K, gx_J K ((-1, μ 7, μ 6) : gc_St) ((-1, μ 32) : gm_St) := fun K => ⟨rfl, fun h => absurd rfl h⟩
  refine ⟨?_, fun wb => ⟨?_, fun wc => ?_⟩⟩
  · have h := (gx_main (fr := gc_fr μ) (ws := gws a b c) (ok := gm_ok1 μ) (z := fun i => md_sh (gm_m1 μ a i)) (f := fun i => nI i) (s := fun _ => -1) (t := fun _ => -1) (s0 := (-1, μ 32)) (K := 1) (by decide) sh_ne 1 0 (μ 1 4) (μ 1 5) (-1, μ 7, μ 6) 0 rfl (fun r hr => by rw [Nat.zero_add]; exact row1 R wa r hr) (j0 1)).1
    rw [Nat.zero_add] at h; exact h
  · have h := (gx_main (fr := gc_fr μ) (ws := gws a b c) (ok := gm_ok2 μ) (z := fun i => md_sh (gm_m2 μ a b i)) (f := fun i => nI (i / 12)) (s := fun i => nI (i % 12)) (t := fun _ => -1) (s0 := (-1, μ 32)) (K := 2) (by decide) sh_ne 2 0 (μ 1 4) (μ 1 5) (-1, μ 7, μ 6) 0 rfl (fun r hr => by rw [Nat.zero_add]; exact row2 R wa wb r hr) (j0 2)).1
    rw [Nat.zero_add] at h; exact h
  · have h := (gx_main (fr := gc_fr μ) (ws := gws a b c) (ok := gm_ok3 μ) (z := fun i => md_sh (gm_m3 μ a b c i)) (f := fun i => nI (i / 144)) (s := fun i => nI (i / 12 % 12)) (t := fun i => nI (i % 12)) (s0 := (-1, μ 32)) (K := 3) (by decide) sh_ne 3 0 (μ 1 4) (μ 1 5) (-1, μ 7, μ 6) 0 rfl (fun r hr => by rw [Nat.zero_add]; exact row3 R wa wb wc r hr) (j0 3)).1
    rw [Nat.zero_add] at h; exact h
