/-! calls in the simpler machine -/
def jm_en (nL : Nat) (As : List Value) : List (Option Value) := (fun l => l ++ List.replicate (nL - l.length) none) (As.flatMap fun v => bif v.category == 2 then [some v, none] else [some v])
theorem jm_en_mem {ad : Nat → Nat} : ∀ (As : List Value) (k i : Nat) (v : Value), (As.flatMap fun v => bif v.category == 2 then [some v, none] else [some v])[i]? = some (some v) → (k + i, jm_cv ad v) ∈ lv_args k (As.map (jm_cv ad))
  | [], k, i, v, h => by simp at h
  | w :: t, k, i, v, h => by
    rw [List.flatMap_cons] at h
    have hc := jm_cat ad w
    by_cases h2 : w.category = 2
    · rw [h2] at hc
      simp only [h2, beq_self_eq_true, cond_true] at h
      match i, h with
      | 0, h =>
        simp at h
        subst h
        simp [lv_args]
      | 1, h => simp at h
      | i + 2, h =>
        have := jm_en_mem (ad := ad) t (k + 2) i v (by simpa using h)
        rw [show k + 2 + i = k + (i + 2) by omega] at this
        simp only [List.map_cons, lv_args, hc]
        exact List.mem_cons_of_mem _ (by simpa using this)
    · have h2' : (w.category == 2) = false := by simpa using h2
      simp only [h2', cond_false] at h
      match i, h with
      | 0, h =>
        simp at h
        subst h
        simp [lv_args]
      | i + 1, h =>
        have := jm_en_mem (ad := ad) t (k + 1) i v (by simpa using h)
        rw [show k + 1 + i = k + (i + 1) by omega] at this
        simp only [List.map_cons, lv_args, hc]
        exact List.mem_cons_of_mem _ (by simpa [h2] using this)
def jm_aw (As : List Value) : Nat := (As.flatMap fun v => bif v.category == 2 then [some v, none] else [some v]).length
theorem jm_aw_sl {ad : Nat → Nat} : ∀ As : List Value, (lg_sl (As.map (jm_cv ad))).length = jm_aw As
  | [] => rfl
  | w :: t => by
    have ih := jm_aw_sl (ad := ad) t
    have hc := jm_cat ad w
    simp only [lg_sl, jm_aw, List.map_cons, List.flatMap_cons, List.length_append, hc] at ih ⊢
    rw [ih]
    by_cases h2 : w.category = 2
    · simp [h2]
    · have h2' : (w.category == 2) = false := by simpa using h2
      simp [h2, h2']
def jm_Pr (I : List Nat) (X : jm_Ex) (D : va_G) (ad : Nat → Nat) (cI cZ : ClassId) (sz : Nat) (μ : jm_Mem) (U : State) : Prop :=
  U.heap.size = sz ∧ va_P D vwCl (jm_ws I ad cI cZ μ) U.heap ∧ va_K D vwCl [(cI, .int), (cZ, .boolean)] U ∧ va_D (fun _ => True) (jm_ws I ad cI cZ μ) ∧ (∀ w ∈ jm_nw, va_Nw w U) ∧ jm_St X ad (va_A (jm_ws I ad cI cZ μ) sz) U U.heap
def jm_Po (I : List Nat) (Q : Option Value → jm_Mem → Prop) (D : va_G) (ad : Nat → Nat) (cI cZ : ClassId) (A : Nat → Prop) : Array Value → State → Outcome → State → Prop := fun _ st oc t =>
  (∃ (v : Option Value) (μ' : jm_Mem), oc = .returned (v.map (jm_cv ad)) ∧ Q v μ' ∧ va_P D vwCl (jm_ws I ad cI cZ μ') t.heap ∧ va_D A (jm_ws I ad cI cZ μ')) ∧ va_F A st t
def jm_rm (d : Nat) : Room := { frames := d + 1, cells := 0, slots := 0, locals := 64 * (d + 1) }
set_option maxHeartbeats 4000000 in
theorem jm_met {I : List Nat} {X : jm_Ex} {d : Nat} {M : jm_MI} {As : List Value} {μ : jm_Mem} {Q : Option Value → jm_Mem → Prop} (hJ : jm_J I X d M 0 (jm_en M.2.2.1 As) [] μ Q) (hpl : plainName M.1.cls = true) (hlen : jm_aw As ≤ M.2.2.1) (l : Launch) (D : va_G) (ad : Nat → Nat) (cI cZ : ClassId) (sz : Nat) :
    Met l M.1 (jm_wd M) (jm_rm d) (va_Pc (As.map (jm_cv ad)) (jm_Pr I X D ad cI cZ sz μ)) (jm_Po I Q D ad cI cZ (va_A (jm_ws I ad cI cZ μ) sz)) 0 0 (va_A (jm_ws I ad cI cZ μ) sz) := by
  refine Met.ofW (cc := M.2.1) (maxL := M.2.2.1) (ret := M.2.2.2) hpl rfl ?_
  intro p e s m args below meth c s₁ B hml hv
  obtain ⟨rfl, hsz, hP, hK, hD0, hN, hSt⟩ := hv
  have hts := atoms_spec (ws := jm_wd M) B.pre
  have hown : s.vm.findClass M.1.cls = some m.cls := findClass_of_methodNamed B.named
  subst hsz
  have hD := hD0.self (sz := s.heap.size)
  have hA : ∀ q : Nat, s.heap.size ≤ q → va_A (jm_ws I ad cI cZ μ) s.heap.size q := fun q h => Or.inr h
  have hS : va_S (va_A (jm_ws I ad cI cZ μ) s.heap.size) s.heap s.heap [] := va_S.rf
  have hl := lv_entry (As.map (jm_cv ad)) (n := M.2.2.1) (by rw [jm_aw_sl]; exact hlen)
  rw [lg_entry_eq]
  generalize (lg_sl (As.map (jm_cv ad)) ++ List.replicate (M.2.2.1 - (lg_sl (As.map (jm_cv ad))).length) Slot.unset).toArray = ls at hl ⊢
  refine hJ D ad cI cZ (va_A (jm_ws I ad cI cZ μ) s.heap.size) p l e (headSpec (jm_wd M) (jm_rm d)).room s m _ below meth c 0 0 _ s.heap [] ls ?_ ⟨hP, hD, hS⟩ ?_ ?_
  · exact ⟨⟨B.exec, B.bytes, hml, hown, B.notSynchronized, B.returns⟩, fun w hw => hts w (List.mem_cons_of_mem _ hw), hN, hK, hA, hSt, Nat.le_refl _, Nat.le_refl _, Nat.le_refl _, Nat.le_refl _⟩
  · refine ⟨⟨hl.1, hl.2.1, fun _ h => by cases h⟩, ?_, fun i v hi => ?_⟩
    · simp only [jm_en, List.length_append, List.length_replicate]
      simp only [jm_aw] at hlen
      omega
    · simp only [jm_en] at hi
      rw [List.getElem?_append] at hi
      split at hi
      · have := jm_en_mem (ad := ad) As 0 i v hi
        rw [Nat.zero_add] at this
        exact hl.2.2 _ this
      · rw [List.getElem?_replicate] at hi
        split at hi <;> simp at hi
  · intro v μ' H' locs' ls' pc' hQ hW hR
    rcases hR with ⟨rfl, hr, hd⟩ | ⟨x, ty, rfl, hr, hn, hd⟩ | ⟨x, rfl, hr, hd⟩
    · exact W.vret B.exec B.bytes (B.returns.trans hr) (fun t ht hw => ⟨⟨none, μ', rfl, hQ, by rw [ht]; exact hW.1, hW.2.1⟩, hW.2.2.F ht⟩) hW.2.2.2.2 hd
    · exact W.zret B.exec B.bytes (B.returns.trans hr) hn (fun t ht hw => ⟨⟨some (.int x), μ', rfl, hQ, by rw [ht]; exact hW.1, hW.2.1⟩, hW.2.2.F ht⟩) hW.2.2.2.2 hd
    · exact W.lret B.exec B.bytes (B.returns.trans hr) (fun t ht hw => ⟨⟨some (.long x), μ', rfl, hQ, by rw [ht]; exact hW.1, hW.2.1⟩, hW.2.2.F ht⟩) hW.2.2.2.2 hd
theorem jm_nw_tab {w : Cond} (h : w ∈ jm_nw) : w.onTables = true := by
  have := (List.mem_filter.mp h).2
  cases w <;> simp [jm_isN] at this <;> rfl
theorem jm_nw_warm {w : Cond} {s U : State} (h : w ∈ jm_nw) (hW : s.WarmedH U.vm) (hz : va_Nw w s) : va_Nw w U := by
  have := (List.mem_filter.mp h).2
  cases w <;> simp [jm_isN] at this
  · first | exact va_Nw.warmF hW hz | exact va_Nw.warmM hW hz
  · first | exact va_Nw.warmF hW hz | exact va_Nw.warmM hW hz
theorem jm_blind {I : List Nat} {X : jm_Ex} {D : va_G} {ad : Nat → Nat} {cI cZ : ClassId} {sz : Nat} {μ : jm_Mem} {av : List Value} : FrameBlind (va_Pc av (jm_Pr I X D ad cI cZ sz μ)) := by
  intro a U g mk q
  obtain ⟨q0, q1, qP, qK, qD, qN, qS⟩ := q
  exact ⟨q0, q1, qP, va_K.moved (u := U) (U := U.calling g mk a) (Vm.Alike.refl U.vm) qK, qD, fun w hw => va_Nw.same (u := U) (U := U.calling g mk a) (jm_nw_tab hw) rfl (qN w hw), fun q hq => ⟨va_T.moved (u := U) (U := U.calling g mk a) (Vm.Alike.refl U.vm) (qS q hq).1, fun nm h => va_Z.moved (u := U) (U := U.calling g mk a) (Vm.Alike.refl U.vm) ((qS q hq).2 nm h)⟩⟩
theorem jm_free {I : List Nat} {D : va_G} {ad : Nat → Nat} {cI cZ : ClassId} {A : Nat → Prop} {s : State} {μ : jm_Mem} {H : Heap} {locs : List Loc} (W : jm_Wo I D ad cI cZ A s μ H locs) (hA : ∀ q, s.heap.size ≤ q → A q) : ∀ q, va_A (jm_ws I ad cI cZ μ) H.size q → A q := by
  intro q h
  rcases h with ⟨k, e, h⟩ | h
  · exact W.2.1.2 k _ h
  · exact hA q (Nat.le_trans W.2.2.1 h)
theorem jm_pre {I : List Nat} {X : jm_Ex} {d : Nat} {M : jm_MI} {D : va_G} {ad : Nat → Nat} {cI cZ : ClassId} {A : Nat → Prop} {p : Program} {R : Room} {s : State} {m : MethodId} {args : Array Value} {meth : Method} {c : Code} {cells slots : Nat} {μ : jm_Mem} {H : Heap} {locs : List Loc}
    (C : jm_Cx X d M D ad cI cZ A p R s m args meth c cells slots) (W : jm_Wo I D ad cI cZ A s μ H locs) {av : List Value} : ∀ U : State, U.heap = H → s.WarmedH U.vm → va_Pc av (jm_Pr I X D ad cI cZ H.size μ) av.toArray U := by
  intro U hU hW
  have hF := jm_free W C.2.2.2.2.1
  have hq : ∀ a : Nat, a < s.heap.size → ¬ A a → H[a]? = s.heap[a]? := fun a h1 h2 => W.2.2.2.1 a h1 h2
  refine ⟨rfl, by rw [hU], by rw [hU]; exact W.1, va_K.moved hW.alike C.2.2.2.1, W.2.1.weaken (fun _ _ _ _ => trivial), fun w hw => jm_nw_warm hw hW (C.2.2.1 w hw), fun q hq2 => ⟨?_, fun nm h => ?_⟩⟩
  · rw [hU]
    exact va_T.moved hW.alike (((C.2.2.2.2.2.1 q hq2).1.kept hq).narrow hF)
  · rw [hU]
    exact va_Z.moved hW.alike ((((C.2.2.2.2.2.1 q hq2).2 nm h).kept hq).narrow hF)
section JmCall
variable {p : Program} {l : Launch} {e : Env} {R : Room} {s : State} {m : MethodId} {args : Array Value} {below : List Frame} {meth : Method} {c : Code} {H : Heap} {locs : List Loc} {cells slots : Nat} {Qw : State → Prop}
variable {pc : Nat} {ls : Array Slot} {rest st0 : List Value} {a : Array Value} {A0 A1 : Nat → Prop} {H0 : Heap} {free : Addr → Prop}
theorem jm_call {I : List Nat} {Q : Option Value → jm_Mem → Prop} {D : va_G} {ad : Nat → Nat} {cI cZ : ClassId} (hr : va_Run p l e R s m args below meth c H locs cells slots 0 0 (F0 m pc ls st0) rest (jm_Po I Q D ad cI cZ A1 a) free) (hS : va_S A0 H0 H locs) (hA : ∀ q, q < H.size → A1 q → A0 q) (hf : ∀ q, free q → A0 q)
    (kk : ∀ (v : Option Value) (μ' : jm_Mem) (H1 : Heap) (locs1 : List Loc), Q v μ' → va_P D vwCl (jm_ws I ad cI cZ μ') H1 → va_D A1 (jm_ws I ad cI cZ μ') → va_S A0 H0 H1 locs1 → W p l e R s m args below meth c H1 locs1 cells slots Qw (F0 m (pc + 3) ls ((v.map (jm_cv ad)).toList ++ rest))) : W p l e R s m args below meth c H locs cells slots Qw (F0 m pc ls st0) := by
  intro T hT X
  obtain ⟨v, st₀, t, T', L, h0, X', hL, e1, e2, ⟨⟨v', μ', hv, hp, hb, hb2⟩, hz, hk⟩, st⟩ := hr T hT X
  cases hv
  rw [h0] at hz hk
  obtain ⟨t2, a1, b1⟩ := kk v' μ' T'.heap (locs ++ L) hp (by rw [e1]; exact hb) hb2
    ⟨Nat.le_trans hS.1 (by rw [e1]; exact hz), fun q h1 h2 => by rw [e1, hk q (Nat.lt_of_lt_of_le h1 hS.1) (fun z => h2 (hA q (Nat.lt_of_lt_of_le h1 hS.1) z))]; exact hS.2.1 q h1 h2, fun q hq => by
      rcases List.mem_append.mp hq with h | h
      · exact hS.2.2 q h
      · exact hf _ (hL q h)⟩ T' rfl X'
  exact ⟨t2, st t2 a1, b1⟩
end JmCall
def jm_push (v : Option Value) (S : List Value) : List Value := match v with
  | none => S
  | some v => v :: S
theorem jm_push_map (ad : Nat → Nat) (v : Option Value) (S : List Value) : (v.map (jm_cv ad)).toList ++ S.map (jm_cv ad) = (jm_push v S).map (jm_cv ad) := by cases v <;> rfl
/-- a call's evidence -/
def jm_CB (own : String) (ix : Nat) (M : jm_MI) (n : Nat) : Prop := plainName M.1.cls = true ∧ Cond.code M.1 M.2.1 M.2.2.1 M.2.2.2 ∈ jm_gw ∧ Cond.initialized M.1.cls ∈ jm_gw ∧ (M.1.cls ≠ "java/lang/invoke/MethodHandle" ∧ M.1.cls ≠ "java/lang/invoke/VarHandle" ∧ (parseMethodDescriptor M.1.desc).map (fun d => d.parameters.length) = some n) ∧ M.2.2.1 ≤ 40 ∧ (Cond.methodLink own ix M.1 ∈ jm_gw ∨ ∃ host, Cond.methodLinkNest own ix M.1 host ∈ jm_nw)
theorem jm_goodIn {M : jm_MI} (h : Cond.code M.1 M.2.1 M.2.2.1 M.2.2.2 ∈ jm_gw) : GoodIn jm_gw (jm_wd M) := by
  intro w hw
  rcases List.mem_cons.mp hw with e | e
  · subst e
    exact ⟨h, good_of_word (List.mem_filter.mp h).2⟩
  · exact ⟨e, good_of_word (List.mem_filter.mp e).2⟩
theorem jm_sum (ad : Nat → Nat) : ∀ S : List Value, ((S.map (jm_cv ad)).map fun v => v.category).sum = (S.map fun v => v.category).sum
  | [] => rfl
  | v :: t => by simp only [List.map_cons, List.sum_cons, jm_cat, jm_sum ad t]
section JmCalls
variable {I : List Nat} {X : jm_Ex} {d d' : Nat} {M M' : jm_MI} {pc n ix k : Nat} {L : List (Option Value)} {S S0 : List Value} {μ : jm_Mem} {Q : Option Value → jm_Mem → Prop}
set_option maxHeartbeats 4000000 in
theorem jm_callS (As : List Value) (hst : S0 = As.reverse ++ S) (hd : decode M.2.1 pc = .ok (.invokestatic ix, 3)) (hn : pc + 3 = n) (he : jm_CB M.1.cls ix M' k) (hs : Cond.static M'.1 ∈ jm_gw) (hk : As.length = k) (hsum : (S.map fun v => v.category).sum ≤ 8) (hlen : jm_aw As ≤ M'.2.2.1) (hdd : d' + 1 ≤ d)
    (kJ : jm_J I X d' M' 0 (jm_en M'.2.2.1 As) [] μ (fun v μ' => jm_J I X d M n L (jm_push v S) μ' Q)) : jm_J I X d M pc L S0 μ Q := by
  subst hn
  subst hst
  intro D ad cI cZ A p l e R s m args below meth c cells slots Qw H locs ls C Wd Ld K
  obtain ⟨hpl, hc, hini, hy, hL40, hl⟩ := he
  have hG := jm_goodIn hc
  have hfr : (jm_rm d').frames + 1 ≤ R.frames ∧ 8 + (M'.2.2.1 + 11) + (jm_rm d').locals ≤ R.locals := by
    obtain ⟨h1, h2, -⟩ := C.2.2.2.2.2.2
    simp only [jm_rm]
    omega
  have hMet := jm_met kJ hpl hlen l D ad cI cZ H.size
  have hS' : 2 * (F0 m pc ls ((As.reverse ++ S).map (jm_cv ad))).monitorRoom + ((S.map (jm_cv ad)).map fun v => v.category).sum ≤ 8 := lv_room (by rw [jm_sum]; exact hsum)
  have hrun : va_Run p l e R s m args below meth c H locs cells slots 0 0 (F0 m pc ls ((As.reverse ++ S).map (jm_cv ad))) (S.map (jm_cv ad)) (jm_Po I (fun v μ' => jm_J I X d M (pc + 3) L (jm_push v S) μ' Q) D ad cI cZ (va_A (jm_ws I ad cI cZ μ) H.size) (As.map (jm_cv ad)).toArray) (va_A (jm_ws I ad cI cZ μ) H.size) := by
    rcases hl with hl | ⟨host, hl⟩
    · exact va_runS (As := As.map (jm_cv ad)) (Ts := jm_gw) (n := k) ⟨C.1.1, C.1.2.1, C.1.2.2.1, C.1.2.2.2.1, C.2.1⟩ hMet ⟨callB_of k C.2.1 hG rfl rfl rfl (C.2.1 _ hini) (C.2.1 _ hl) hy hfr, C.2.1 _ hs⟩ ⟨jm_blind, jm_pre C Wd⟩ rfl (by simp [hk]) Ld.1.1 (by simp) hS' hd C.2.2.2.2.2.2.2.2
    · exact va_runSN (As := As.map (jm_cv ad)) (Ts := jm_gw) (n := k) ⟨C.1.1, C.1.2.1, C.1.2.2.1, C.1.2.2.2.1, C.2.1⟩ hMet ⟨va_cnB k C.2.1 hG rfl rfl rfl (C.2.2.1 _ hl) (C.2.1 _ hini) hy hfr, C.2.1 _ hs, trivial⟩ ⟨jm_blind, jm_pre C Wd⟩ rfl (by simp [hk]) Ld.1.1 (by simp) hS' hd C.2.2.2.2.2.2.2.2
  refine jm_call hrun Wd.2.2 (fun q _ h => jm_free Wd C.2.2.2.2.1 q h) (jm_free Wd C.2.2.2.2.1) (fun v μ' H1 locs1 hQ hP1 hD1 hS1 => ?_)
  rw [jm_push_map]
  exact hQ D ad cI cZ A p l e R s m args below meth c cells slots Qw H1 locs1 ls C ⟨hP1, hD1.weaken (fun _ q _ h => jm_free Wd C.2.2.2.2.1 q.1 h), hS1⟩ Ld K
set_option maxHeartbeats 4000000 in
theorem jm_callV {b ci : Nat} {fl : List (Option Nat)} (As : List Value) (hst : S0 = As.reverse ++ .ref b :: S) (hd : decode M.2.1 pc = .ok (.invokevirtual ix, 3)) (hn : pc + 3 = n) (he : jm_CB M.1.cls ix M' k) (hin : Cond.instanceMethod M'.1 ∈ jm_gw) (hse : Cond.selects M'.1.cls M'.1 M'.1 ∈ jm_gw) (hI : I.contains b = true) (hsh : jm_sh b = .inr (ci, fl)) (hcl : (vwCl[ci]?).map (fun q => q.1) = some M'.1.cls) (hk : As.length = k) (hsum : (S.map fun v => v.category).sum ≤ 8) (hlen : jm_aw (.ref b :: As) ≤ M'.2.2.1) (hdd : d' + 1 ≤ d)
    (kJ : jm_J I X d' M' 0 (jm_en M'.2.2.1 (.ref b :: As)) [] μ (fun v μ' => jm_J I X d M n L (jm_push v S) μ' Q)) : jm_J I X d M pc L S0 μ Q := by
  subst hn
  subst hst
  intro D ad cI cZ A p l e R s m args below meth c cells slots Qw H locs ls C Wd Ld K
  obtain ⟨hpl, hc, hini, hy, hL40, hl⟩ := he
  have hG := jm_goodIn hc
  have hfr : (jm_rm d').frames + 1 ≤ R.frames ∧ 8 + (M'.2.2.1 + 11) + (jm_rm d').locals ≤ R.locals := by
    obtain ⟨h1, h2, -⟩ := C.2.2.2.2.2.2
    simp only [jm_rm]
    omega
  have hMet := jm_met kJ hpl hlen l D ad cI cZ H.size
  have hS' : 2 * (F0 m pc ls ((As.reverse ++ .ref b :: S).map (jm_cv ad))).monitorRoom + ((S.map (jm_cv ad)).map fun v => v.category).sum ≤ 8 := lv_room (by rw [jm_sum]; exact hsum)
  obtain ⟨q0, h1, h2⟩ := jm_ws_at (ad := ad) (cI := cI) (cZ := cZ) (μ := μ) hI
  rw [jm_ce_obj hsh] at h2
  obtain ⟨qc, hqc, hqn⟩ := Option.map_eq_some_iff.mp hcl
  have hrecv := va_recv C.2.2.2.1 Wd.1 hqc h2
  rw [hqn] at hrecv
  have hrun : va_Run p l e R s m args below meth c H locs cells slots 0 0 (F0 m pc ls ((As.reverse ++ .ref b :: S).map (jm_cv ad))) (S.map (jm_cv ad)) (jm_Po I (fun v μ' => jm_J I X d M (pc + 3) L (jm_push v S) μ' Q) D ad cI cZ (va_A (jm_ws I ad cI cZ μ) H.size) (Value.ref (ad b) :: As.map (jm_cv ad)).toArray) (va_A (jm_ws I ad cI cZ μ) H.size) := by
    rcases hl with hl | ⟨host, hl⟩
    · exact va_runV (C := M'.1.cls) (As := As.map (jm_cv ad)) (Ts := jm_gw) (n := k) ⟨C.1.1, C.1.2.1, C.1.2.2.1, C.1.2.2.2.1, C.2.1⟩ hMet ⟨callB_of k C.2.1 hG rfl rfl rfl (C.2.1 _ hini) (C.2.1 _ hl) hy hfr, C.2.1 _ hin, C.2.1 _ hse⟩ ⟨jm_blind, hrecv, jm_pre C Wd⟩ rfl (by simp [hk]) Ld.1.1 (by simp [jm_cv]) hS' hd C.2.2.2.2.2.2.2.2
    · exact va_runVN (C := M'.1.cls) (As := As.map (jm_cv ad)) (Ts := jm_gw) (n := k) ⟨C.1.1, C.1.2.1, C.1.2.2.1, C.1.2.2.2.1, C.2.1⟩ hMet ⟨va_cnB k C.2.1 hG rfl rfl rfl (C.2.2.1 _ hl) (C.2.1 _ hini) hy hfr, C.2.1 _ hin, C.2.1 _ hse⟩ ⟨jm_blind, hrecv, jm_pre C Wd⟩ rfl (by simp [hk]) Ld.1.1 (by simp [jm_cv]) hS' hd C.2.2.2.2.2.2.2.2
  refine jm_call hrun Wd.2.2 (fun q _ h => jm_free Wd C.2.2.2.2.1 q h) (jm_free Wd C.2.2.2.2.1) (fun v μ' H1 locs1 hQ hP1 hD1 hS1 => ?_)
  rw [jm_push_map]
  exact hQ D ad cI cZ A p l e R s m args below meth c cells slots Qw H1 locs1 ls C ⟨hP1, hD1.weaken (fun _ q _ h => jm_free Wd C.2.2.2.2.1 q.1 h), hS1⟩ Ld K
end JmCalls
