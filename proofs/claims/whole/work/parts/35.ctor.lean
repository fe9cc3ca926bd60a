/-! constructors: a world that grows -/
def k_Cx (M : jm_MI) (D : va_G) (cI cZ : ClassId) (A : Nat → Prop) (p : Program) (s : State) (m : MethodId) (args : Array Value) (meth : Method) (c : Code) : Prop :=
  (p.tables.exec = Jvm.exec ∧ c.code = M.2.1 ∧ c.maxLocals = M.2.2.1 ∧ s.vm.findClass M.1.cls = some m.cls ∧ meth.locks = false ∧ meth.sig.returnType = M.2.2.2) ∧
  (∀ w ∈ jm_gw, w.before args s = true) ∧ (∀ w ∈ jm_nw, va_Nw w s) ∧ va_K D vwCl [(cI, .int), (cZ, .boolean)] s ∧ (∀ q, s.heap.size ≤ q → A q)
def k_Wo (D : va_G) (A : Nat → Prop) (s : State) (ws : va_W) (H : Heap) (locs : List Loc) : Prop := va_P D vwCl ws H ∧ va_D A ws ∧ va_S A s.heap H locs
/-- from here the constructor M of the object at h0 comes to its end, over a world that Q allows; cells and slots: what it has made so far, mc and ms at its end -/
def k_J (D : va_G) (cI cZ : ClassId) (M : jm_MI) (d mc ms h0 cells slots pc : Nat) (S : List Value) (ws : va_W) (Q : va_W → Prop) : Prop :=
  ∀ (A : Nat → Prop) (p : Program) (l : Launch) (e : Env) (R : Room) (s : State) (m : MethodId) (args : Array Value) (below : List Frame) (meth : Method) (c : Code) (Qw : State → Prop) (H : Heap) (locs : List Loc) (ls : Array Slot),
    k_Cx M D cI cZ A p s m args meth c → meth.name = "<init>" → (d + 1 ≤ R.frames ∧ 64 * (d + 1) ≤ R.locals ∧ mc ≤ R.cells ∧ ms ≤ R.slots) → k_Wo D A s ws H locs → lv_has ls M.2.2.1 [(0, .ref h0)] →
    (∀ (ws' : va_W) (H' : Heap) (locs' : List Loc) (ls' : Array Slot) (pc' : Nat), Q ws' → k_Wo D A s ws' H' locs' → decode M.2.1 pc' = .ok (.return_, 1) → W p l e R s m args below meth c H' locs' mc ms Qw (F0 m pc' ls' [])) →
    W p l e R s m args below meth c H locs cells slots Qw (F0 m pc ls S)
def k_rm (d mc ms : Nat) : Room := { frames := d + 1, cells := mc, slots := ms, locals := 64 * (d + 1) }
def k_Pr (D : va_G) (cI cZ : ClassId) (sz : Nat) (ws : va_W) (U : State) : Prop :=
  U.heap.size = sz ∧ va_P D vwCl ws U.heap ∧ va_K D vwCl [(cI, .int), (cZ, .boolean)] U ∧ va_D (fun _ => True) ws ∧ ∀ w ∈ jm_nw, va_Nw w U
def k_Po (Q : va_W → Prop) (D : va_G) (A : Nat → Prop) : Array Value → State → Outcome → State → Prop := va_Qv Q (fun w t => va_P D vwCl w t.heap ∧ va_D A w) A
set_option maxHeartbeats 4000000 in
theorem k_met {D : va_G} {cI cZ : ClassId} {M : jm_MI} {d mc ms h0 : Nat} {w0 : va_W} {Q : va_W → Prop} (hJ : k_J D cI cZ M d mc ms h0 0 0 0 [] w0 Q) (hpl : plainName M.1.cls = true) (hlen : 1 ≤ M.2.2.1) (hret : M.2.2.2 = none) (hnm : M.1.name = "<init>") (l : Launch) (sz : Nat) :
    Met l M.1 (jm_wd M) (k_rm d mc ms) (va_Pc [.ref h0] (k_Pr D cI cZ sz w0)) (k_Po Q D (va_A w0 sz)) mc ms (va_A w0 sz) := by
  refine Met.ofW (cc := M.2.1) (maxL := M.2.2.1) (ret := M.2.2.2) hpl rfl ?_
  intro p e s m args below meth c s₁ B hml hv
  obtain ⟨rfl, hsz, hP, hK, hD0, hN⟩ := hv
  have hts := atoms_spec (ws := jm_wd M) B.pre
  have hown : s.vm.findClass M.1.cls = some m.cls := findClass_of_methodNamed B.named
  have hin : meth.name = "<init>" := (name_of_methodNamed B.named B.method).1.trans hnm
  subst hsz
  have hD := hD0.self (sz := s.heap.size)
  have hA : ∀ q : Nat, s.heap.size ≤ q → va_A w0 s.heap.size q := fun q h => Or.inr h
  have hS : va_S (va_A w0 s.heap.size) s.heap s.heap [] := va_S.rf
  have hl := lv_entry ([.ref h0]) (n := M.2.2.1) hlen
  rw [lg_entry_eq]
  generalize (lg_sl ([.ref h0]) ++ List.replicate (M.2.2.1 - (lg_sl ([.ref h0])).length) Slot.unset).toArray = ls at hl ⊢
  refine hJ (va_A w0 s.heap.size) p l e (headSpec (jm_wd M) (k_rm d mc ms)).room s m _ below meth c _ s.heap [] ls ⟨⟨B.exec, B.bytes, hml, hown, B.notSynchronized, B.returns⟩, fun w hw => hts w (List.mem_cons_of_mem _ hw), hN, hK, hA⟩ hin ⟨Nat.le_refl _, Nat.le_refl _, Nat.le_refl _, Nat.le_refl _⟩ ⟨hP, hD, hS⟩ hl ?_
  intro w' H' locs' ls' pc' hQ hW hd
  exact W.vret B.exec B.bytes (B.returns.trans hret) (fun t ht hw => ⟨⟨w', rfl, hQ, by rw [ht]; exact hW.1, hW.2.1⟩, hW.2.2.F ht⟩) hW.2.2.2.2 hd
theorem k_blind {D : va_G} {cI cZ : ClassId} {sz : Nat} {ws : va_W} {av : List Value} : FrameBlind (va_Pc av (k_Pr D cI cZ sz ws)) := by
  intro a U g mk q
  obtain ⟨q0, q1, qP, qK, qD, qN⟩ := q
  exact ⟨q0, q1, qP, va_K.moved (u := U) (U := U.calling g mk a) (Vm.Alike.refl U.vm) qK, qD, fun w hw => va_Nw.same (u := U) (U := U.calling g mk a) (jm_nw_tab hw) rfl (qN w hw)⟩
theorem ko_in : Cond.instanceMethod objectInit ∈ jm_gw := jm_g (i := 88) (by decide +kernel) rfl
theorem ko_cd : Cond.code objectInit ⟨#[0xb1]⟩ 1 none ∈ jm_gw := jm_g (i := 89) (by decide +kernel) rfl
theorem ka_I : Cond.arrayClass .int ∈ jm_gw := jm_g (i := 129) (by decide +kernel) rfl
theorem ka_Z : Cond.arrayClass .boolean ∈ jm_gw := jm_g (i := 756) (by decide +kernel) rfl
/-- a final field's evidence -/
def k_PF (own : String) (ix ci k : Nat) (ty : FieldType) : Prop := ∃ (C : String) (T : u_T) (N : Nat) (ty0 : Nat → FieldType), vwCl[ci]? = some (C, T, N) ∧ k < N ∧ (∀ w ∈ u_ws C T N, w ∈ jm_gw) ∧ (T k).1 = C ∧ Cond.fieldLink own ix C (T k).2.1 (T k).2.2.1 ∈ jm_gw ∧ (∀ k, k < N → parseFieldDescriptor (T k).2.2.1 = some (ty0 k)) ∧ (∀ a, a < N → ∀ b, b < N → a ≠ b → (T a).2.1 ≠ (T b).2.1) ∧ (T k).2.2.2 = true ∧ C = own ∧ parseFieldDescriptor (T k).2.2.1 = some ty
/-- a new object's evidence: own's pool names at ix the class number ci, of N fields, that begin as fs -/
def k_NE (own : String) (ix ci N : Nat) (fs : List Value) : Prop := ∃ (C : String) (T : u_T) (ty0 : Nat → FieldType), vwCl[ci]? = some (C, T, N) ∧ (∀ w ∈ u_ws C T N, w ∈ jm_gw) ∧ (∀ k, k < N → parseFieldDescriptor (T k).2.2.1 = some (ty0 k)) ∧ Cond.classLink own ix C ∈ jm_gw ∧ Cond.instantiable C N ∈ jm_gw ∧ Cond.initialized C ∈ jm_gw ∧ ∀ j, j < N → defaultValue (ty0 j) = vp_V fs j
section KRules
variable {D : va_G} {cI cZ : ClassId} {M : jm_MI} {d mc ms h0 cells slots pc n : Nat} {S : List Value} {ws : va_W} {Q : va_W → Prop}
theorem k_aload (hd : decode M.2.1 pc = .ok (.aload_n 0, 1)) (hn : pc + 1 = n) (k : k_J D cI cZ M d mc ms h0 cells slots n (.ref h0 :: S) ws Q) : k_J D cI cZ M d mc ms h0 cells slots pc S ws Q := by
  subst hn
  exact fun A p l e R s m args below meth c Qw H locs ls C hi hR Wd hl K => lv_aload_n C.1.1 C.1.2.1 hd rfl (lv_at hl 0 rfl) (k A p l e R s m args below meth c Qw H locs ls C hi hR Wd hl K)
theorem k_iconst {n0 : Int} (v : Int32) (hd : decode M.2.1 pc = .ok (.iconst n0, 1)) (hn : pc + 1 = n) (hv : Int32.ofInt n0 = v) (k : k_J D cI cZ M d mc ms h0 cells slots n (.int v :: S) ws Q) : k_J D cI cZ M d mc ms h0 cells slots pc S ws Q := by
  subst hn
  exact fun A p l e R s m args below meth c Qw H locs ls C hi hR Wd hl K => lv_iconst C.1.1 C.1.2.1 hd hv (k A p l e R s m args below meth c Qw H locs ls C hi hR Wd hl K)
theorem k_bipush {n0 : Int} (v : Int32) (hd : decode M.2.1 pc = .ok (.bipush n0, 2)) (hn : pc + 2 = n) (hv : (Int8.ofInt n0).toInt32 = v) (k : k_J D cI cZ M d mc ms h0 cells slots n (.int v :: S) ws Q) : k_J D cI cZ M d mc ms h0 cells slots pc S ws Q := by
  subst hn
  exact fun A p l e R s m args below meth c Qw H locs ls C hi hR Wd hl K => lv_bipush C.1.1 C.1.2.1 hd hv (k A p l e R s m args below meth c Qw H locs ls C hi hR Wd hl K)
theorem k_sipush {n0 : Int} (v : Int32) (hd : decode M.2.1 pc = .ok (.sipush n0, 3)) (hn : pc + 3 = n) (hv : (Int16.ofInt n0).toInt32 = v) (k : k_J D cI cZ M d mc ms h0 cells slots n (.int v :: S) ws Q) : k_J D cI cZ M d mc ms h0 cells slots pc S ws Q := by
  subst hn
  exact fun A p l e R s m args below meth c Qw H locs ls C hi hR Wd hl K => lv_sipush C.1.1 C.1.2.1 hd hv (k A p l e R s m args below meth c Qw H locs ls C hi hR Wd hl K)
theorem k_obj {ix : Nat} (hd : decode M.2.1 pc = .ok (.invokespecial ix, 3)) (hn : pc + 3 = n) (h1 : Cond.methodLink M.1.cls ix objectInit ∈ jm_gw) (k : k_J D cI cZ M d mc ms h0 cells slots n [] ws Q) : k_J D cI cZ M d mc ms h0 cells slots pc [.ref h0] ws Q := by
  subst hn
  intro A p l e R s m args below meth c Qw H locs ls C hi hR Wd hl K
  refine W.objInit C.1.1 C.1.2.1 C.1.2.2.2.1 (C.2.1 _ h1) (C.2.1 _ ko_in) (C.2.1 _ ko_cd) (rest := []) rfl (hl.1.trans C.1.2.2.1.symm) rfl hd (by omega) ?_ ?_
  · have := lv_room (m := m) (pc := pc) (ls := ls) (rest := [.ref h0]) (st := []) (Nat.zero_le _)
    omega
  · exact W.eq (g2 := F0 m (pc + 3) ls []) rfl (k A p l e R s m args below meth c Qw H locs ls C hi hR Wd hl K)
theorem k_newI {N : Nat} {v : Int32} {f : Nat → va_W} (hd : decode M.2.1 pc = .ok (.newarray .int, 2)) (hn : pc + 2 = n) (hv : v = nI N) (hN : N ≤ 1000) (hf : ∀ q, ws ++ [(q, .inl (cI, N, .inl (fun _ => 0)))] = f q) (hc : cells + 1 ≤ mc) (hs : slots + N ≤ ms) (k : ∀ q, k_J D cI cZ M d mc ms h0 (cells + 1) (slots + N) n (.ref q :: S) (f q) Q) : k_J D cI cZ M d mc ms h0 cells slots pc (.int v :: S) ws Q := by
  subst hn hv
  intro A p l e0 R s m args below meth c Qw H locs ls C hi hR Wd hl K
  refine va_newa C.1.1 C.1.2.1 (atype := .int) (C.2.1 _ ka_I) (ty := .int) rfl C.2.2.2.1 Wd.1 Wd.2.1 Wd.2.2 C.2.2.2.2 (N' := N) (a0 := (N, .inl (fun _ => 0))) (fun _ => rfl) (nI_pos (by omega)) (nI_clamp (by omega)) (Nat.le_trans (Nat.mul_le_mul_right _ hN) (by decide)) (by omega) (by omega) hd (fun q cA H1 hK2 hP hD hS => ?_)
  have e : cA = cI := Option.some.inj ((hK2.2 2 _ rfl).2.symm.trans (C.2.2.2.1.2 0 _ rfl).2)
  rw [e, hf q] at hP hD
  exact k q A p l e0 R s m args below meth c Qw H1 locs ls C hi hR ⟨hP, hD, hS⟩ hl K
theorem k_newZ {N : Nat} {v : Int32} {f : Nat → va_W} (hd : decode M.2.1 pc = .ok (.newarray .boolean, 2)) (hn : pc + 2 = n) (hv : v = nI N) (hN : N ≤ 1000) (hf : ∀ q, ws ++ [(q, .inl (cZ, N, .inl (fun _ => 0)))] = f q) (hc : cells + 1 ≤ mc) (hs : slots + N ≤ ms) (k : ∀ q, k_J D cI cZ M d mc ms h0 (cells + 1) (slots + N) n (.ref q :: S) (f q) Q) : k_J D cI cZ M d mc ms h0 cells slots pc (.int v :: S) ws Q := by
  subst hn hv
  intro A p l e0 R s m args below meth c Qw H locs ls C hi hR Wd hl K
  refine va_newa C.1.1 C.1.2.1 (atype := .boolean) (C.2.1 _ ka_Z) (ty := .boolean) rfl C.2.2.2.1 Wd.1 Wd.2.1 Wd.2.2 C.2.2.2.2 (N' := N) (a0 := (N, .inl (fun _ => 0))) (fun _ => rfl) (nI_pos (by omega)) (nI_clamp (by omega)) (Nat.le_trans (Nat.mul_le_mul_right _ hN) (by decide)) (by omega) (by omega) hd (fun q cA H1 hK2 hP hD hS => ?_)
  have e : cA = cZ := Option.some.inj ((hK2.2 2 _ rfl).2.symm.trans (C.2.2.2.1.2 1 _ rfl).2)
  rw [e, hf q] at hP hD
  exact k q A p l e0 R s m args below meth c Qw H1 locs ls C hi hR ⟨hP, hD, hS⟩ hl K
theorem k_putF {ix ci kf q : Nat} {fs fs' : List Value} {tl : va_W} {ty : FieldType} (hd : decode M.2.1 pc = .ok (.putfield ix, 3)) (hn : pc + 3 = n) (hf : k_PF M.1.cls ix ci kf ty) (hna : narrow ty (.ref q) = .ref q) (hfi : fits ty (.ref q) = true) (hlk : kf < fs.length) (hfs : fs.set kf (.ref q) = fs') (k : k_J D cI cZ M d mc ms h0 cells slots n S ((h0, .inr (ci, fs')) :: tl) Q) : k_J D cI cZ M d mc ms h0 cells slots pc (.ref q :: .ref h0 :: S) ((h0, .inr (ci, fs)) :: tl) Q := by
  subst hn hfs
  intro A p l e R s m args below meth c Qw H locs ls C hi hR Wd hl K
  obtain ⟨C0, T, N, ty0, hc, hk, hin, hT, hlink, hty, hnm, hfin, hCo, hpd⟩ := hf
  exact va_putF C.1.1 C.1.2.1 (Ts := jm_gw) C.2.1 hin ty0 hty hnm C.1.2.2.2.1 C.2.2.2.1 Wd.1 Wd.2.1 Wd.2.2 0 rfl hc kf hk (C.2.1 _ hlink) (fun x hx => by rw [hT] at hx; exact hx) hfin hi (hT.trans hCo) hpd hna hfi hlk hd (fun H1 locs1 p1 p2 p3 => k A p l e R s m args below meth c Qw H1 locs1 ls C hi hR ⟨p1, p2, p3⟩ hl K)
theorem k_puti {ix ci kf : Nat} {x : Int32} {fs fs' : List Value} {tl : va_W} (hd : decode M.2.1 pc = .ok (.putfield ix, 3)) (hn : pc + 3 = n) (hf : jm_PE M.1.cls ix ci kf) (hlk : kf < fs.length) (hfs : fs.set kf (.int x) = fs') (k : k_J D cI cZ M d mc ms h0 cells slots n S ((h0, .inr (ci, fs')) :: tl) Q) : k_J D cI cZ M d mc ms h0 cells slots pc (.int x :: .ref h0 :: S) ((h0, .inr (ci, fs)) :: tl) Q := by
  subst hn hfs
  intro A p l e R s m args below meth c Qw H locs ls C hi hR Wd hl K
  obtain ⟨C0, T, N, ty0, hc, hk, hin, hT, hlink, hty, hnm, hfin, hpd⟩ := hf
  rcases hlink with hlink | ⟨host, hlink⟩
  · exact va_put C.1.1 C.1.2.1 (Ts := jm_gw) C.2.1 hin ty0 hty hnm C.1.2.2.2.1 C.2.2.2.1 Wd.1 Wd.2.1 Wd.2.2 0 rfl hc kf hk (C.2.1 _ hlink) (fun x hx => by rw [hT] at hx; exact hx) hfin hpd rfl rfl hlk hd (fun H1 locs1 p1 p2 p3 => k A p l e R s m args below meth c Qw H1 locs1 ls C hi hR ⟨p1, p2, p3⟩ hl K)
  · exact va_putN C.1.1 C.1.2.1 (Ts := jm_gw) C.2.1 hin ty0 hty hnm C.1.2.2.2.1 C.2.2.2.1 Wd.1 Wd.2.1 Wd.2.2 0 rfl hc kf hk (va_Nw.use rfl (C.2.2.1 _ hlink)) (fun x hx => by rw [hT] at hx; exact hx) hfin hpd rfl rfl hlk hd (fun H1 locs1 p1 p2 p3 => k A p l e R s m args below meth c Qw H1 locs1 ls C hi hR ⟨p1, p2, p3⟩ hl K)
theorem k_ret (hd : decode M.2.1 pc = .ok (.return_, 1)) (hc : cells = mc) (hs : slots = ms) (hq : Q ws) : k_J D cI cZ M d mc ms h0 cells slots pc [] ws Q := by
  subst hc hs
  exact fun A p l e R s m args below meth c Qw H locs ls C hi hR Wd hl K => K ws H locs ls pc hq Wd hd
theorem k_jm {I : List Nat} {ad : Nat → Nat} {μ : jm_Mem} {a0 r : Nat} {Qj : Option Value → jm_Mem → Prop} (hw : ws = jm_ws I ad cI cZ μ) (ha : ad a0 = h0) (hr : r + 1 = M.2.2.1) (hc : cells = mc) (hs : slots = ms) (hJ : jm_J I [] d M pc (some (.ref a0) :: List.replicate r none) [] μ Qj) (hQ : ∀ v μ', Qj v μ' → v = none ∧ Q (jm_ws I ad cI cZ μ')) : k_J D cI cZ M d mc ms h0 cells slots pc [] ws Q := by
  subst hw ha hc hs
  intro A p l e R s m args below meth c Qw H locs ls C hi hR Wd hl K
  refine hJ D ad cI cZ A p l e R s m args below meth c cells slots Qw H locs ls ⟨C.1, C.2.1, C.2.2.1, C.2.2.2.1, C.2.2.2.2, fun q hq => by (cases hq), hR⟩ Wd ⟨⟨hl.1, hl.2.1, fun _ h => by cases h⟩, by simp [hr], fun i v hv => ?_⟩ (fun v μ' H' locs' ls' pc' hq hW' hre => ?_)
  · match i, hv with
    | 0, hv =>
      simp at hv
      subst hv
      exact lv_at hl 0 rfl
    | i + 1, hv =>
      simp only [List.getElem?_cons_succ, List.getElem?_replicate] at hv
      split at hv <;> simp at hv
  · obtain ⟨rfl, hq2⟩ := hQ v μ' hq
    rcases hre with ⟨-, -, hd⟩ | ⟨x, ty, hx, -⟩ | ⟨x, hx, -⟩
    · exact K _ H' locs' ls' pc' hq2 hW' hd
    · cases hx
    · cases hx
end KRules
section KCtor
variable {p : Program} {l : Launch} {e : Env} {R : Room} {s : State} {m : MethodId} {args : Array Value} {below : List Frame} {meth : Method} {c : Code} {H : Heap} {locs : List Loc} {cells slots : Nat} {Qw : State → Prop} {ls : Array Slot}
variable {D : va_G} {cI cZ : ClassId} {M M' : jm_MI} {d d' mc ms pc ix iy ci N n0 : Nat} {S fs : List Value} {ws : va_W} {Q : Nat → va_W → Prop} {A : Nat → Prop}
set_option maxHeartbeats 4000000 in
theorem kw_ctor (C : k_Cx M D cI cZ A p s m args meth c) (hR : d + 1 ≤ R.frames ∧ 64 * (d + 1) ≤ R.locals ∧ cells + 1 + mc ≤ R.cells ∧ slots + N + ms ≤ R.slots) (Wd : k_Wo D A s ws H locs) (hls : ls.size = M.2.2.1) (hd1 : decode M.2.1 pc = .ok (.new ix, 3)) (hd2 : decode M.2.1 (pc + 3) = .ok (.dup, 1)) (hd3 : decode M.2.1 (pc + 4) = .ok (.invokespecial iy, 3))
    (hE : k_NE M.1.cls ix ci N fs) (he : jm_CB M.1.cls iy M' 0) (hin : Cond.instanceMethod M'.1 ∈ jm_gw) (hnm : M'.1.name = "<init>") (hret : M'.2.2.2 = none) (hlen : 1 ≤ M'.2.2.1) (hdd : d' + 1 ≤ d) (hsum : (S.map fun v => v.category).sum ≤ 7)
    (isR : List Nat) (hl : ws.length = n0) (hRr : ∀ x : Nat × va_E, isR.map (fun i => (ws ++ [x])[i]?) = ws.map some) (hnd : va_nd isR = true) (hdis : ∀ i ∈ isR, i ∉ [n0])
    (hJ : ∀ q, k_J D cI cZ M' d' mc ms q 0 0 0 [] [(q, .inr (ci, fs))] (Q q))
    (kk : ∀ (q : Nat) (w1 : va_W) (H1 : Heap) (locs1 : List Loc), Q q w1 → k_Wo D A s (ws ++ w1) H1 locs1 → W p l e R s m args below meth c H1 locs1 (cells + 1 + mc) (slots + N + ms) Qw (F0 m (pc + 7) ls (.ref q :: S))) : W p l e R s m args below meth c H locs cells slots Qw (F0 m pc ls S) := by
  obtain ⟨C0, T, ty0, hc, hing, hty, h1, h2, h3, hfs⟩ := hE
  refine va_new C.1.1 C.1.2.1 (Ts := jm_gw) C.2.1 hing ty0 hty C.1.2.2.2.1 (C.2.1 _ h1) (C.2.1 _ h2) (C.2.1 _ h3) C.2.2.2.1 Wd.1 Wd.2.1 Wd.2.2 C.2.2.2.2 hc (fs := fs) hfs (by omega) (by omega) hd1 (fun q H1 hP hD hS => ?_)
  refine lv_dup C.1.1 C.1.2.1 hd2 rfl ?_
  obtain ⟨hpl, hcd, hini, hy, hL40, hlk⟩ := he
  have hG := jm_goodIn hcd
  have hfr : (k_rm d' mc ms).frames + 1 ≤ R.frames ∧ 8 + (M'.2.2.1 + 11) + (k_rm d' mc ms).locals ≤ R.locals := by
    simp only [k_rm]
    omega
  have hMet := k_met (hJ q) hpl hlen hret hnm l H1.size
  have hC : [n0].map (fun i => (ws ++ [(q, Sum.inr (ci, fs))])[i]?) = [((q, Sum.inr (ci, fs)) : Nat × va_E)].map some := by
    subst hl
    simp
  have hPc := hP.sub (ws' := [(q, .inr (ci, fs))]) [n0] (by
    subst hl
    simp)
  have hDc := hD.sub (ws' := [(q, .inr (ci, fs))]) [n0] (by simp [va_nd]) (by
    subst hl
    simp)
  have hFc := va_free (wc := [(q, .inr (ci, fs))]) hD hS C.2.2.2.2 [n0] hC
  have hpre : PreS s H1 (va_Pc [.ref q] (k_Pr D cI cZ H1.size [(q, .inr (ci, fs))])) [.ref q] := ⟨k_blind, fun U hU hW => ⟨rfl, by rw [hU], by rw [hU]; exact hPc, va_K.moved hW.alike C.2.2.2.1, hDc.weaken (fun _ _ _ _ => trivial), fun w hw => jm_nw_warm hw hW (C.2.2.1 w hw)⟩⟩
  have hsum' : (((.ref q :: S) : List Value).map fun v => v.category).sum ≤ 8 := by
    simp only [List.map_cons, List.sum_cons]
    have : (Value.ref q).category = 1 := rfl
    omega
  have hrun : va_Run p l e R s m args below meth c H1 locs (cells + 1) (slots + N) mc ms (F0 m (pc + 3 + 1) ls (.ref q :: .ref q :: S)) (.ref q :: S) (k_Po (Q q) D (va_A [(q, .inr (ci, fs))] H1.size) [Value.ref q].toArray) (va_A [(q, .inr (ci, fs))] H1.size) := by
    rcases hlk with hlk | ⟨host, hlk⟩
    · exact va_runI (As := []) (Ts := jm_gw) (n := 0) ⟨C.1.1, C.1.2.1, C.1.2.2.1, C.1.2.2.2.1, C.2.1⟩ hMet ⟨callB_of 0 C.2.1 hG (by rw [← hret]; rfl) rfl rfl (C.2.1 _ hini) (C.2.1 _ hlk) hy hfr, hnm, C.2.1 _ hin⟩ hpre rfl rfl hls rfl (lv_room hsum') hd3 ⟨hR.2.2.1, hR.2.2.2⟩
    · exact va_runIN (As := []) (Ts := jm_gw) (n := 0) ⟨C.1.1, C.1.2.1, C.1.2.2.1, C.1.2.2.2.1, C.2.1⟩ hMet ⟨va_cnB 0 C.2.1 hG (by rw [← hret]; rfl) rfl rfl (C.2.2.1 _ hlk) (C.2.1 _ hini) hy hfr, hnm, C.2.1 _ hin⟩ hpre rfl rfl hls rfl (lv_room hsum') hd3 ⟨hR.2.2.1, hR.2.2.2⟩
  refine va_callv hrun hS (fun q _ h => hFc q h) hFc (fun w1 t H2 locs2 ht hvm hq hB hz1 hk1 hS2 => ?_)
  obtain ⟨hP1, hD1⟩ := hB
  rw [ht] at hP1
  obtain ⟨hP2, hD2⟩ := va_join (wr := ws) (w1 := w1) hP hD [n0] isR hC (hRr _) hnd hdis hk1 hFc hP1 hD1
  exact kk q w1 H2 locs2 hq ⟨hP2, hD2, hS2⟩
end KCtor
theorem k_ctor {D : va_G} {cI cZ : ClassId} {M M' : jm_MI} {d d' mc ms mc' ms' h0 cells slots pc ix iy ci N n0 n : Nat} {S fs : List Value} {ws : va_W} {Q : va_W → Prop} {Q' : Nat → va_W → Prop} (hd1 : decode M.2.1 pc = .ok (.new ix, 3)) (hd2 : decode M.2.1 (pc + 3) = .ok (.dup, 1)) (hd3 : decode M.2.1 (pc + 4) = .ok (.invokespecial iy, 3)) (hn : pc + 7 = n) (hc : cells + 1 + mc' ≤ mc) (hs : slots + N + ms' ≤ ms)
    (hE : k_NE M.1.cls ix ci N fs) (he : jm_CB M.1.cls iy M' 0) (hin : Cond.instanceMethod M'.1 ∈ jm_gw) (hnm : M'.1.name = "<init>") (hret : M'.2.2.2 = none) (hlen : 1 ≤ M'.2.2.1) (hdd : d' + 1 ≤ d) (hsum : (S.map fun v => v.category).sum ≤ 7)
    (isR : List Nat) (hl : ws.length = n0) (hRr : ∀ x : Nat × va_E, isR.map (fun i => (ws ++ [x])[i]?) = ws.map some) (hnd : va_nd isR = true) (hdis : ∀ i ∈ isR, i ∉ [n0])
    (hJ : ∀ q, k_J D cI cZ M' d' mc' ms' q 0 0 0 [] [(q, .inr (ci, fs))] (Q' q))
    (k : ∀ (q : Nat) (w1 : va_W), Q' q w1 → k_J D cI cZ M d mc ms h0 (cells + 1 + mc') (slots + N + ms') n (.ref q :: S) (ws ++ w1) Q) : k_J D cI cZ M d mc ms h0 cells slots pc S ws Q := by
  subst hn
  intro A p l e R s m args below meth c Qw H locs ls C hi hR Wd hlv K
  exact kw_ctor (d := d) C ⟨hR.1, hR.2.1, by omega, by omega⟩ Wd hlv.1 hd1 hd2 hd3 hE he hin hnm hret hlen hdd hsum isR hl hRr hnd hdis hJ (fun q w1 H1 locs1 hq Wd1 => k q w1 hq A p l e R s m args below meth c Qw H1 locs1 ls C hi hR Wd1 hlv K)
