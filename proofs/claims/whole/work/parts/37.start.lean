/-! the start: what the constructors leave is alike; the statics; the law from its entry -/
def k_mx (f : Nat → Int32) (ν : jm_Mem) : jm_Mem := fun i => if i < 24 then k_mu f i else ν i
theorem k_rel {f : Nat → Int32} {ν : jm_Mem} (hf : ∀ k, k < 48 → f k = nI k) (h7 : k_P7 ν) : Rel (k_mx f ν) := by
  obtain ⟨h1, ⟨a1, a2, a3, a4, a5, a6, a7, a8⟩, h3⟩ := h7
  refine ⟨?_, ?_, ?_, ?_, ?_, ?_, ?_, ?_⟩
  · refine ⟨fun j hj => ?_, fun j hj => ?_, fun j hj _ => rfl, ?_, ?_, ?_, ?_⟩
    · show 0 ≤ (0 : Int32).toInt ∧ (0 : Int32).toInt ≤ 200
      decide
    · show 0 ≤ (0 : Int32).toInt ∧ (0 : Int32).toInt ≤ 150
      decide
    · show (0 : Int32) = rg_S (fun _ => 0 + 0) rg_ac 12
      decide +kernel
    · show (0 : Int32) = rg_S (fun _ => 0 + 0) rg_al 12
      decide +kernel
    · show (0 : Int32) = rg_S (fun _ => 0 + 0) rg_sg 12
      decide +kernel
    · show (0 : Int32) = rg_S (fun _ => 0 + 0) rg_one 12
      decide +kernel
  · exact fun j hj => ⟨(h1 j hj).1, (h1 j hj).2, h3 27 (by omega) (by omega) j, h3 28 (by omega) (by omega) j⟩
  · exact ⟨a1, a2⟩
  · refine ⟨⟨a4, ?_⟩, ⟨a3, ?_⟩, ⟨a6, ?_⟩, a7⟩
    · show 0 ≤ (0 : Int32).toInt ∧ (0 : Int32).toInt ≤ 60
      decide
    · show 1 ≤ (nI 100).toInt ∧ (nI 100).toInt ≤ 1000
      decide
    · show 0 ≤ (0 : Int32).toInt ∧ (0 : Int32).toInt ≤ 10000
      decide
  · refine ⟨fun j hj => ⟨fun h => absurd ?_ h, fun _ => ?_⟩, fun k hk => h3 30 (by omega) (by omega) k⟩
    · show (0 : Int32) ≤ 0
      decide
    · show (0 : Int32) = nI 0
      decide
  · refine ⟨fun k => k, fun k hk => ⟨hk, hf k hk⟩, fun i k _ _ h => h, fun _ _ _ => rfl, fun k hk h => absurd ?_ h⟩
    show (0 : Int32) ≤ 0
    decide
  · refine ⟨0, by omega, ?_, a5.trans (by decide), fun f hf => ⟨h3 34 (by omega) (by omega) f, h3 35 (by omega) (by omega) f, h3 36 (by omega) (by omega) f⟩, fun k hk => h3 37 (by omega) (by omega) k, fun f hf => by omega, fun k hk => ?_⟩
    · show (0 : Int32) = nI 0
      decide
    · show 0 ≤ (0 : Int32).toInt ∧ (0 : Int32).toInt ≤ 50
      decide
  · refine ⟨0, by omega, ?_, a8.trans (by decide), fun k hk => h3 40 (by omega) (by omega) k, fun k hk => by omega⟩
    show (0 : Int32) = nI 0
    decide
theorem k_arr {args : Array Value} {s : State} {ty : FieldType} (h : (Cond.arrayClass ty).before args s = true) : ∃ cA : ClassId, ArrOfT s cA ty ∧ s.vm.findClass ("[" ++ ty.toString) = some cA := by
  obtain ⟨cA, kA, comp, h1, h2, h3⟩ := Cond.arrayClass_spec h
  exact ⟨cA, fun n z => ⟨fun k h => (by cases h), kA, h2, comp, h3⟩, h1⟩
theorem k_st1 {args : Array Value} {s : State} (hgv : (Jvm.Cond.and given_1 narrow_1).before args s = true) : (Cond.arrayOf (.static "GallopingRing" "ACROSS" "[I") .int).before args s = true ∧ (Term.length (.static "GallopingRing" "ACROSS" "[I")).eval args s none [] s = some (.int (Int32.ofNat 12)) ∧ ∀ j : Nat, j < 12 → (Term.elem (.static "GallopingRing" "ACROSS" "[I") (.int (Int32.ofNat j))).eval args s none [] s = some (.int (rg_ac j)) := by
  have hs := flat_of_before _ hgv
  refine ⟨hs _ (by decide +kernel), va_eqt (hs _ (by decide +kernel)), fun j hj => ?_⟩
  rcases (show j = 0 ∨ j = 1 ∨ j = 2 ∨ j = 3 ∨ j = 4 ∨ j = 5 ∨ j = 6 ∨ j = 7 ∨ j = 8 ∨ j = 9 ∨ j = 10 ∨ j = 11 by omega) with rfl | rfl | rfl | rfl | rfl | rfl | rfl | rfl | rfl | rfl | rfl | rfl
  all_goals exact va_eqt (hs _ (by decide +kernel))
theorem k_st2 {args : Array Value} {s : State} (hgv : (Jvm.Cond.and given_1 narrow_1).before args s = true) : (Cond.arrayOf (.static "GallopingRing" "ALONG" "[I") .int).before args s = true ∧ (Term.length (.static "GallopingRing" "ALONG" "[I")).eval args s none [] s = some (.int (Int32.ofNat 12)) ∧ ∀ j : Nat, j < 12 → (Term.elem (.static "GallopingRing" "ALONG" "[I") (.int (Int32.ofNat j))).eval args s none [] s = some (.int (rg_al j)) := by
  have hs := flat_of_before _ hgv
  refine ⟨hs _ (by decide +kernel), va_eqt (hs _ (by decide +kernel)), fun j hj => ?_⟩
  rcases (show j = 0 ∨ j = 1 ∨ j = 2 ∨ j = 3 ∨ j = 4 ∨ j = 5 ∨ j = 6 ∨ j = 7 ∨ j = 8 ∨ j = 9 ∨ j = 10 ∨ j = 11 by omega) with rfl | rfl | rfl | rfl | rfl | rfl | rfl | rfl | rfl | rfl | rfl | rfl
  all_goals exact va_eqt (hs _ (by decide +kernel))
theorem k_ls1 : Cond.laysStatic "GallopingRing" "ACROSS" "[I" ∈ lw_tbl := List.mem_of_getElem? (i := 282) (by decide +kernel)
theorem k_ls2 : Cond.laysStatic "GallopingRing" "ALONG" "[I" ∈ lw_tbl := List.mem_of_getElem? (i := 284) (by decide +kernel)
theorem k_ini : Cond.initialized "GallopingRing" ∈ jm_gw := jm_g (i := 72) (by decide +kernel) rfl
theorem k_known {args : Array Value} {s : State} (hts : ∀ w ∈ lw_tbl, w.before args s = true) : ∃ D : va_G, ∀ (k : Nat) (q : vw_C), vwCl[k]? = some q → u_Kn s q.1 q.2.1 q.2.2 (D.1 k) (D.2 k) := by
  obtain ⟨c0, i0, h0⟩ := u_known (C := RX0) (T := TX0) (N := 2) (n := 2) hts inX0 (hts (.instantiable RX0 2) (List.mem_of_getElem? (i := 213) (by decide +kernel)))
  obtain ⟨c1, i1, h1⟩ := u_known (C := RX1) (T := TX1) (N := 2) (n := 2) hts inX1 (hts (.instantiable RX1 2) (List.mem_of_getElem? (i := 153) (by decide +kernel)))
  obtain ⟨c2, i2, h2⟩ := u_known (C := RX2) (T := TX2) (N := 8) (n := 8) hts inX2 (hts (.instantiable RX2 8) (List.mem_of_getElem? (i := 181) (by decide +kernel)))
  obtain ⟨c3, i3, h3⟩ := u_known (C := RX3) (T := TX3) (N := 2) (n := 2) hts inX3 (hts (.instantiable RX3 2) (List.mem_of_getElem? (i := 167) (by decide +kernel)))
  obtain ⟨c4, i4, h4⟩ := u_known (C := RX4) (T := TX4) (N := 8) (n := 8) hts inX4 (hts (.instantiable RX4 8) (List.mem_of_getElem? (i := 91) (by decide +kernel)))
  obtain ⟨c5, i5, h5⟩ := u_known (C := RX5) (T := TX5) (N := 5) (n := 5) hts inX5 (hts (.instantiable RX5 5) (List.mem_of_getElem? (i := 131) (by decide +kernel)))
  obtain ⟨c6, i6, h6⟩ := u_known (C := RX6) (T := TX6) (N := 10) (n := 10) hts inX6 (hts (.instantiable RX6 10) (List.mem_of_getElem? (i := 83) (by decide +kernel)))
  obtain ⟨c7, i7, h7⟩ := u_known (C := RX7) (T := TX7) (N := 26) (n := 26) hts inX7 (hts (.instantiable RX7 26) (List.mem_of_getElem? (i := 668) (by decide +kernel)))
  refine ⟨(fun k => [c0, c1, c2, c3, c4, c5, c6, c7].getD k c0, fun k => [i0, i1, i2, i3, i4, i5, i6, i7].getD k i0), ?_⟩
  intro k q hq
  match k, hq with
  | 0, hq => cases hq; exact h0
  | 1, hq => cases hq; exact h1
  | 2, hq => cases hq; exact h2
  | 3, hq => cases hq; exact h3
  | 4, hq => cases hq; exact h4
  | 5, hq => cases hq; exact h5
  | 6, hq => cases hq; exact h6
  | 7, hq => cases hq; exact h7
  | k + 8, hq => simp [vwCl] at hq
/-! THE CLAIM OUT OF ONE WALK OF THE LAW'S BODY. Your part is whole_start (and what it stands on); all else here is the same for every law, but numbers. -/
def R_law : String := "GallopingRingLaw"
def lw_P (b : Addr) (xs : List Int32) (args : Array Value) (s : State) : Prop := args = #[.ref b] ∧ s.IntsAt b xs ∧ xs.length ≤ 2560 ∧ (Jvm.Cond.and given_1 narrow_1).before args s = true
def lw_Q (_ : Array Value) (s : State) (o : Outcome) (t : State) : Prop := o = .returned (some (.int 1)) ∧ Framed s o t [] 600000 7302250
def lw_Z (below : List Frame) (a : Array Value) (s : State) : State → Prop := fun t => ∃ o, t.status = .running ∧ Ended t below o ∧ lw_Q a s o t
/-- the law's own end, with 1 on the stack, nothing written that was there before, its room as the claim has it -/
theorem lw_ret {p : Program} {l : Launch} {e : Env} {s : State} {m : MethodId} {below : List Frame} {meth : Method} {c : Code} {b : Nat} (hx : p.tables.exec = Jvm.exec) (hb : c.code = code) (hr : meth.sig.returnType = ret) (hlocks : meth.locks = false) {pc : Nat} {H : Heap} {ls : Array Slot} (hdg : decode code pc = .ok (.ireturn, 1)) : W p l e room_1 s m #[Value.ref b] below meth c H [] 600000 7302250 (lw_Z below #[Value.ref b] s) (F0 m pc ls [.int 1]) := by
  intro T hT X
  obtain ⟨fs, hret, hrun, hended, hW, hframe⟩ := X.leave (v := some (.int 1)) (hlocks := hlocks) (fun h => by rw [hr] at h; cases h)
  have hmeth' : T.vm.method? m = some meth := X.method'
  refine ⟨T.setFrames fs, ?_, .returned (some (.int 1)), hrun, hended, rfl, ⟨_, rfl⟩, hW, hframe⟩
  jvm_step X.here [X.here.top, hx, hb, hdg, hmeth', hr, ret, narrow_b1]
  (try refine ⟨rfl, ?_⟩); (try refine ⟨rfl, ?_⟩)
  first | (intro acts; rw [hret _ acts rfl rfl rfl]) | rw [hret _ _ rfl rfl rfl]
  exact Steps.refl _
/-- what holds at the law's entry: the machine, the code, the tables' words (any of lw_tbl by 'hts w (by decide +kernel)'), the script of L ints xs at the cell b, what the Statement gives of the start (any of its parts by flat_of_before) -/
def lw_At (p : Program) (s : State) (m : MethodId) (meth : Method) (c : Code) (b L : Nat) (xs : Nat → Int32) : Prop :=
  p.tables.exec = Jvm.exec ∧ c.code = code ∧ meth.sig.returnType = ret ∧ c.maxLocals = 4 ∧ s.vm.findClass R_law = some m.cls ∧ (∀ w ∈ lw_tbl, w.before #[Value.ref b] s = true) ∧ va_X b L xs s s.heap ∧ b < s.heap.size ∧ meth.locks = false ∧ (Jvm.Cond.and given_1 narrow_1).before #[Value.ref b] s = true
/-- the law's own loop, from pc 18, over the world that the constructors left -/
theorem k_loop {p : Program} {e : Env} {s : State} {m : MethodId} {below : List Frame} {meth : Method} {c : Code} (l : Launch) {b L : Nat} {xs : Nat → Int32} (hL : L ≤ 2560) (C0 : lw_At p s m meth c b L xs) {D : va_G} {cI cZ : ClassId} {q0 q24 : Nat} {w6 w7 : va_W} (C : k_Cx mL_law D cI cZ (fun q : Nat => s.heap.size ≤ q) p s m #[Value.ref b] meth c) {H : Heap} {locs : List Loc} {ls : Array Slot} (h6 : kq_X6 cI cZ q0 w6) (h7 : kq_X7 cI cZ q24 w7) (Wd : k_Wo D (fun q : Nat => s.heap.size ≤ q) s (w6 ++ w7) H locs) (hl : lv_has ls 4 [(3, .int 0), (2, .ref q24), (1, .ref q0), (0, .ref b)]) {cells slots : Nat} (hc : cells ≤ 600000) (hsl : slots ≤ 7302250) : W p l e room_1 s m #[Value.ref b] below meth c H locs cells slots (lw_Z below #[Value.ref b] s) (F0 m 18 ls []) := by
  obtain ⟨hx, hb, hr, hml, hown, hts, hX, hbl, hlocks, hgv⟩ := C0
  obtain ⟨a6, f, ha6, hf, rfl⟩ := h6
  obtain ⟨a7, ν, ha7, hν, rfl⟩ := h7
  have hA : ∀ a : Nat, a < s.heap.size → ¬ (fun q : Nat => s.heap.size ≤ q) a := fun a h => Nat.not_le.mpr h
  obtain ⟨sa1, sa2, sa3⟩ := k_st1 hgv
  obtain ⟨sb1, sb2, sb3⟩ := k_st2 hgv
  obtain ⟨ta, eta, hta⟩ := va_Tof (f := fun j => .int (rg_ac j)) (A := fun q : Nat => s.heap.size ≤ q) (by decide) sa1 sa2 sa3 hA
  obtain ⟨tb, etb, htb⟩ := va_Tof (f := fun j => .int (rg_al j)) (A := fun q : Nat => s.heap.size ≤ q) (by decide) sb1 sb2 sb3 hA
  have za := va_Zof (A := fun q : Nat => s.heap.size ≤ q) (hts _ k_ls1) (C.2.1 _ k_ini) eta hA
  have zb := va_Zof (A := fun q : Nat => s.heap.size ≤ q) (hts _ k_ls2) (C.2.1 _ k_ini) etb hA
  have key := l_law (Ln := L) (xs := xs) (Q := fun v _ => v = some (.int 1)) hL (fun _ => rfl) (L + 5) 0 (k_mx f ν) (by omega) (by omega) (k_rel hf hν)
  let ad : Nat → Nat := fun k => if k < 24 then a6 k else if k < 41 then a7 k else if k = 100 then b else if k = 101 then ta else tb
  have hw : jm_ws [0, 1, 2, 3, 4, 5, 6, 7, 8, 9, 10, 11, 12, 13, 14, 15, 16, 17, 18, 19, 20, 21, 22, 23] a6 cI cZ (k_mu f) ++ jm_ws k_I7 a7 cI cZ ν = jm_ws rg_I ad cI cZ (k_mx f ν) := rfl
  rw [hw] at Wd
  refine key D ad cI cZ (fun q : Nat => s.heap.size ≤ q) p l e room_1 s m #[Value.ref b] below meth c cells slots (lw_Z below #[Value.ref b] s) H locs ls ⟨C.1, C.2.1, C.2.2.1, C.2.2.2.1, C.2.2.2.2, ?_, by decide, by decide, hc, hsl⟩ Wd ⟨⟨hl.1, hl.2.1, fun _ h => by cases h⟩, rfl, ?_⟩ ?_
  · intro q hq
    rcases List.mem_cons.mp hq with rfl | hq
    · refine ⟨?_, fun nm h => by cases h⟩
      obtain ⟨scr, x1, x2, x3, x4, x5⟩ := hX
      exact ⟨scr, x1, x2, x3, by rw [x4]; exact Nat.le_refl L, by rw [x4], x5, hA b hbl⟩
    rcases List.mem_cons.mp hq with rfl | hq
    · exact ⟨hta, fun nm h => by cases h; exact za⟩
    rcases List.mem_cons.mp hq with rfl | hq
    · exact ⟨htb, fun nm h => by cases h; exact zb⟩
    cases hq
  · intro i v hi
    match i, hi with
    | 0, hi => cases hi; exact lv_at hl 3 rfl
    | 1, hi => cases hi; exact (lv_at hl 2 rfl).trans (by rw [← ha6]; rfl)
    | 2, hi => cases hi; exact (lv_at hl 1 rfl).trans (by rw [← ha7]; rfl)
    | 3, hi => cases hi; exact lv_at hl 0 rfl
    | i + 4, hi => simp at hi
  · intro v μ' H' locs' ls' pc' hq hW hre
    subst hq
    rcases hre with ⟨h1, -⟩ | ⟨x, ty, h1, -, -, hd⟩ | ⟨x, h1, -⟩
    · cases h1
    · refine va_forget (fun q hq => hW.2.2.2.2 q hq) ?_
      refine W.widen (k := 600000) (n := 7302250) hc hsl ?_
      exact lw_ret hx hb hr hlocks hd
    · cases h1
