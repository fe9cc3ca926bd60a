/-! A SIMPLER MACHINE: memory is a number of cells, each a row of ints; the shape (which cell is what, which field points where) never changes behind the constructors -/
abbrev jm_Mem : Type := Nat → Nat → Int32
def jm_arr (μ : jm_Mem) (a : Nat) (f : Nat → Int32) : jm_Mem := fun b => if b = a then f else μ b
def jm_set (μ : jm_Mem) (a i : Nat) (v : Int32) : jm_Mem := jm_arr μ a (upd (μ a) i v)
abbrev jm_Kd : Type := (Bool × Nat) ⊕ (Nat × List (Option Nat))
abbrev jm_MI : Type := MethodName × ByteArray × Nat × Option FieldType
abbrev jm_Ex : Type := List (Nat × Option String × Nat × (Nat → Int32))
def jm_sh : Nat → jm_Kd := fun k => match k with
  | 0 => .inr (6, [some 1, some 4, some 8, some 11, some 14, some 22, none, none, none, none])
  | 1 => .inr (4, [some 2, some 3, none, none, none, none, none, none])
  | 2 => .inl (false, 12)
  | 3 => .inl (false, 12)
  | 4 => .inr (5, [some 5, some 6, some 7, none, none])
  | 5 => .inl (false, 3)
  | 6 => .inl (false, 3)
  | 7 => .inl (false, 3)
  | 8 => .inr (1, [some 9, some 10])
  | 9 => .inl (false, 96)
  | 10 => .inl (false, 12)
  | 11 => .inr (3, [some 12, some 13])
  | 12 => .inl (false, 48)
  | 13 => .inl (false, 48)
  | 14 => .inr (2, [some 15, some 16, some 17, some 18, none, some 19, some 20, some 21])
  | 15 => .inl (false, 8)
  | 16 => .inl (false, 8)
  | 17 => .inl (false, 8)
  | 18 => .inl (false, 64)
  | 19 => .inl (false, 8)
  | 20 => .inl (false, 8)
  | 21 => .inl (false, 8)
  | 22 => .inr (0, [some 23, none])
  | 23 => .inl (false, 100)
  | 24 => .inr (7, [some 25, some 26, some 27, some 28, some 29, some 30, some 31, none, none, none, some 32, some 33, none, some 34, some 35, some 36, some 37, some 38, none, some 39, none, none, none, none, none, some 40])
  | 25 => .inl (false, 12)
  | 26 => .inl (false, 12)
  | 27 => .inl (false, 12)
  | 28 => .inl (false, 12)
  | 29 => .inl (false, 12)
  | 30 => .inl (false, 96)
  | 31 => .inl (false, 48)
  | 32 => .inl (false, 3)
  | 33 => .inl (true, 48)
  | 34 => .inl (false, 8)
  | 35 => .inl (false, 8)
  | 36 => .inl (false, 8)
  | 37 => .inl (false, 64)
  | 38 => .inl (false, 8)
  | 39 => .inl (false, 8)
  | 40 => .inl (false, 100)
  | _ => .inl (false, 0)
def jm_cv (ad : Nat → Nat) (v : Value) : Value := match v with
  | .ref a => .ref (ad a)
  | v => v
def jm_fl (ad : Nat → Nat) (f : Nat → Int32) : Nat → List (Option Nat) → List Value
  | _, [] => []
  | k, some j :: t => .ref (ad j) :: jm_fl ad f (k + 1) t
  | k, none :: t => .int (f k) :: jm_fl ad f (k + 1) t
def jm_ce (ad : Nat → Nat) (cI cZ : ClassId) (μ : jm_Mem) (i : Nat) : va_E := match jm_sh i with
  | .inl (b, n) => .inl (bif b then cZ else cI, n, .inl (μ i))
  | .inr (ci, fl) => .inr (ci, jm_fl ad (μ i) 0 fl)
def jm_ws (I : List Nat) (ad : Nat → Nat) (cI cZ : ClassId) (μ : jm_Mem) : va_W := I.map fun i => (ad i, jm_ce ad cI cZ μ i)
def jm_isN : Cond → Bool
  | .fieldLinkNest .. => true
  | .methodLinkNest .. => true
  | _ => false
def jm_gw : List Cond := lw_tbl.filter goodWord
def jm_nw : List Cond := lw_tbl.filter jm_isN
def jm_wd (M : jm_MI) : List Cond := .code M.1 M.2.1 M.2.2.1 M.2.2.2 :: jm_gw
def jm_St (X : jm_Ex) (ad : Nat → Nat) (A : Nat → Prop) (U : State) (H : Heap) : Prop := ∀ q ∈ X, va_T .int (ad q.1) q.2.2.1 (fun j => .int (q.2.2.2 j)) A U H ∧ ∀ nm, q.2.1 = some nm → va_Z RX6 nm "[I" (.ref (ad q.1)) A U H
def jm_Cx (X : jm_Ex) (d : Nat) (M : jm_MI) (D : va_G) (ad : Nat → Nat) (cI cZ : ClassId) (A : Nat → Prop) (p : Program) (R : Room) (s : State) (m : MethodId) (args : Array Value) (meth : Method) (c : Code) (cells slots : Nat) : Prop :=
  (p.tables.exec = Jvm.exec ∧ c.code = M.2.1 ∧ c.maxLocals = M.2.2.1 ∧ s.vm.findClass M.1.cls = some m.cls ∧ meth.locks = false ∧ meth.sig.returnType = M.2.2.2) ∧
  (∀ w ∈ jm_gw, w.before args s = true) ∧ (∀ w ∈ jm_nw, va_Nw w s) ∧ va_K D vwCl [(cI, .int), (cZ, .boolean)] s ∧
  (∀ q, s.heap.size ≤ q → A q) ∧ jm_St X ad A s s.heap ∧ (d + 1 ≤ R.frames ∧ 64 * (d + 1) ≤ R.locals ∧ cells ≤ R.cells ∧ slots ≤ R.slots)
def jm_Wo (I : List Nat) (D : va_G) (ad : Nat → Nat) (cI cZ : ClassId) (A : Nat → Prop) (s : State) (μ : jm_Mem) (H : Heap) (locs : List Loc) : Prop :=
  va_P D vwCl (jm_ws I ad cI cZ μ) H ∧ va_D A (jm_ws I ad cI cZ μ) ∧ va_S A s.heap H locs
def jm_Lo (ad : Nat → Nat) (nL : Nat) (L : List (Option Value)) (ls : Array Slot) : Prop := lv_has ls nL [] ∧ L.length = nL ∧ ∀ (i : Nat) (v : Value), L[i]? = some (some v) → ls[i]? = some (.val (jm_cv ad v))
def jm_Re (M : jm_MI) (pc : Nat) (v : Option Value) : Prop :=
  (v = none ∧ M.2.2.2 = none ∧ decode M.2.1 pc = .ok (.return_, 1)) ∨ (∃ (x : Int32) (ty : FieldType), v = some (.int x) ∧ M.2.2.2 = some ty ∧ narrow ty (.int x) = .int x ∧ decode M.2.1 pc = .ok (.ireturn, 1)) ∨ (∃ x : Int64, v = some (.long x) ∧ M.2.2.2 = some .long ∧ decode M.2.1 pc = .ok (.lreturn, 1))
/-- the judgement: from here the method M, with these locals and stack, over any heap that holds μ, comes to an end that Q allows -/
def jm_J (I : List Nat) (X : jm_Ex) (d : Nat) (M : jm_MI) (pc : Nat) (L : List (Option Value)) (S : List Value) (μ : jm_Mem) (Q : Option Value → jm_Mem → Prop) : Prop :=
  ∀ (D : va_G) (ad : Nat → Nat) (cI cZ : ClassId) (A : Nat → Prop) (p : Program) (l : Launch) (e : Env) (R : Room) (s : State) (m : MethodId) (args : Array Value) (below : List Frame) (meth : Method) (c : Code) (cells slots : Nat) (Qw : State → Prop) (H : Heap) (locs : List Loc) (ls : Array Slot),
    jm_Cx X d M D ad cI cZ A p R s m args meth c cells slots → jm_Wo I D ad cI cZ A s μ H locs → jm_Lo ad M.2.2.1 L ls →
    (∀ (v : Option Value) (μ' : jm_Mem) (H' : Heap) (locs' : List Loc) (ls' : Array Slot) (pc' : Nat), Q v μ' → jm_Wo I D ad cI cZ A s μ' H' locs' → jm_Re M pc' v → W p l e R s m args below meth c H' locs' cells slots Qw (F0 m pc' ls' (v.toList.map (jm_cv ad)))) →
    W p l e R s m args below meth c H locs cells slots Qw (F0 m pc ls (S.map (jm_cv ad)))
-- locals
def jm_as (ad : Nat → Nat) : Nat → List (Option Value) → List (Nat × Value)
  | _, [] => []
  | k, some v :: t => (k, jm_cv ad v) :: jm_as ad (k + 1) t
  | k, none :: t => jm_as ad (k + 1) t
theorem jm_as_mem {ad : Nat → Nat} : ∀ (L : List (Option Value)) (k : Nat) (q : Nat × Value), q ∈ jm_as ad k L → ∃ i v, L[i]? = some (some v) ∧ q = (k + i, jm_cv ad v)
  | [], k, q, h => by cases h
  | some v :: t, k, q, h => by
    rcases List.mem_cons.mp h with h | h
    · exact ⟨0, v, rfl, h⟩
    · obtain ⟨i, w, h1, h2⟩ := jm_as_mem t (k + 1) q h
      exact ⟨i + 1, w, h1, by rw [h2]; congr 1; omega⟩
  | none :: t, k, q, h => by
    obtain ⟨i, w, h1, h2⟩ := jm_as_mem t (k + 1) q h
    exact ⟨i + 1, w, h1, by rw [h2]; congr 1; omega⟩
theorem jm_as_in {ad : Nat → Nat} : ∀ (L : List (Option Value)) (k i : Nat) (v : Value), L[i]? = some (some v) → (k + i, jm_cv ad v) ∈ jm_as ad k L
  | [], k, i, v, h => by simp at h
  | some w :: t, k, 0, v, h => by
    simp at h
    subst h
    exact List.mem_cons_self
  | some w :: t, k, i + 1, v, h => by
    have := jm_as_in (ad := ad) t (k + 1) i v (by simpa using h)
    rw [show k + (i + 1) = k + 1 + i by omega]
    exact List.mem_cons_of_mem _ this
  | none :: t, k, 0, v, h => by simp at h
  | none :: t, k, i + 1, v, h => by
    have := jm_as_in (ad := ad) t (k + 1) i v (by simpa using h)
    rw [show k + (i + 1) = k + 1 + i by omega]
    exact this
theorem jm_Lo.has {ad : Nat → Nat} {nL : Nat} {L : List (Option Value)} {ls : Array Slot} (h : jm_Lo ad nL L ls) : lv_has ls nL (jm_as ad 0 L) := by
  refine ⟨h.1.1, h.1.2.1, fun q hq => ?_⟩
  obtain ⟨i, v, h1, rfl⟩ := jm_as_mem L 0 q hq
  rw [Nat.zero_add]
  exact h.2.2 i v h1
theorem jm_cat (ad : Nat → Nat) (v : Value) : (jm_cv ad v).category = v.category := by cases v <;> rfl
def jm_ok (L : List (Option Value)) (i : Nat) : Bool := match i with
  | 0 => true
  | k + 1 => match L[k]? with
    | some (some w) => w.category != 2
    | _ => true
theorem jm_ok_ne {L : List (Option Value)} {i j : Nat} {w : Value} (h : jm_ok L i = true) (hj : L[j]? = some (some w)) (hij : j + 1 = i) : w.category ≠ 2 := by
  subst hij
  simp only [jm_ok, hj] at h
  simpa using h
theorem jm_Lo.st1 {ad : Nat → Nat} {nL i : Nat} {L : List (Option Value)} {ls ls' : Array Slot} {v : Value} (h : jm_Lo ad nL L ls) (hok : jm_ok L i = true) (hi : i < nL)
    (h' : lv_has ls' nL ((i, jm_cv ad v) :: (jm_as ad 0 L).filter (fun q => !(q.1 == i) && !(q.1 + 1 == i && q.2.category == 2)))) : jm_Lo ad nL (L.set i (some v)) ls' := by
  refine ⟨⟨h'.1, h'.2.1, fun _ h => by cases h⟩, by rw [List.length_set]; exact h.2.1, fun j w hj => ?_⟩
  rw [List.getElem?_set] at hj
  by_cases hij : i = j
  · subst hij
    rw [if_pos rfl, if_pos (by rw [h.2.1]; exact hi)] at hj
    cases hj
    exact h'.2.2 _ List.mem_cons_self
  · rw [if_neg hij] at hj
    have := jm_as_in (ad := ad) L 0 j w hj
    rw [Nat.zero_add] at this
    refine h'.2.2 (j, jm_cv ad w) (List.mem_cons_of_mem _ (List.mem_filter.mpr ⟨this, ?_⟩))
    simp only [jm_cat]
    by_cases h3 : j + 1 = i
    · have := jm_ok_ne hok hj h3
      simp [Ne.symm hij, this]
    · simp [Ne.symm hij, h3]
theorem jm_Lo.st2 {ad : Nat → Nat} {nL i : Nat} {L : List (Option Value)} {ls ls' : Array Slot} {v : Value} (h : jm_Lo ad nL L ls) (hok : jm_ok L i = true) (hi : i + 1 < nL)
    (h' : lv_has ls' nL ((i, jm_cv ad v) :: (jm_as ad 0 L).filter (fun q => !(q.1 == i) && (!(q.1 == i + 1) && !(q.1 + 1 == i && q.2.category == 2))))) : jm_Lo ad nL ((L.set i (some v)).set (i + 1) none) ls' := by
  refine ⟨⟨h'.1, h'.2.1, fun _ h => by cases h⟩, by rw [List.length_set, List.length_set]; exact h.2.1, fun j w hj => ?_⟩
  rw [List.getElem?_set] at hj
  by_cases hj1 : i + 1 = j
  · rw [if_pos hj1, if_pos (by rw [List.length_set, h.2.1]; omega)] at hj
    simp at hj
  rw [if_neg hj1, List.getElem?_set] at hj
  by_cases hij : i = j
  · subst hij
    rw [if_pos rfl, if_pos (by rw [h.2.1]; omega)] at hj
    cases hj
    exact h'.2.2 _ List.mem_cons_self
  · rw [if_neg hij] at hj
    have := jm_as_in (ad := ad) L 0 j w hj
    rw [Nat.zero_add] at this
    refine h'.2.2 (j, jm_cv ad w) (List.mem_cons_of_mem _ (List.mem_filter.mpr ⟨this, ?_⟩))
    simp only [jm_cat]
    by_cases h3 : j + 1 = i
    · have := jm_ok_ne hok hj h3
      simp [Ne.symm hij, Ne.symm hj1, this]
    · simp [Ne.symm hij, Ne.symm hj1, h3]
-- the world
theorem jm_ws_at {I : List Nat} {ad : Nat → Nat} {cI cZ : ClassId} {μ : jm_Mem} {a : Nat} (h : I.contains a = true) : ∃ q0 : Nat, I[q0]? = some a ∧ (jm_ws I ad cI cZ μ)[q0]? = some (ad a, jm_ce ad cI cZ μ a) := by
  obtain ⟨q0, hq⟩ := List.getElem?_of_mem (by simpa using h : a ∈ I)
  exact ⟨q0, hq, by simp [jm_ws, hq]⟩
theorem jm_ws_set {A : Nat → Prop} {I : List Nat} {ad : Nat → Nat} {cI cZ : ClassId} {μ μ' : jm_Mem} {a q0 : Nat} (hD : va_D A (jm_ws I ad cI cZ μ)) (h : I[q0]? = some a) (hm : ∀ b, b ≠ a → μ' b = μ b) : (jm_ws I ad cI cZ μ).set q0 (ad a, jm_ce ad cI cZ μ' a) = jm_ws I ad cI cZ μ' := by
  refine List.ext_getElem? fun k => ?_
  have hl : q0 < I.length := (List.getElem?_eq_some_iff.mp h).1
  rw [List.getElem?_set]
  by_cases hk : q0 = k
  · subst hk
    rw [if_pos rfl, if_pos (by simp [jm_ws]; exact hl)]
    simp [jm_ws, h]
  · rw [if_neg hk]
    cases hi : I[k]? with
    | none => simp [jm_ws, hi]
    | some b =>
      have hb : b ≠ a := by
        intro e
        subst e
        exact hk (hD.1 q0 k (ad b, jm_ce ad cI cZ μ b) (ad b, jm_ce ad cI cZ μ b) (by simp [jm_ws, h]) (by simp [jm_ws, hi]) rfl)
      simp [jm_ws, hi, jm_ce, hm b hb]
theorem jm_set_ne {μ : jm_Mem} {a i : Nat} {v : Int32} : ∀ b, b ≠ a → jm_set μ a i v b = μ b := fun b h => if_neg h
theorem jm_arr_ne {μ : jm_Mem} {a : Nat} {f : Nat → Int32} : ∀ b, b ≠ a → jm_arr μ a f b = μ b := fun b h => if_neg h
theorem jm_set_eq {μ : jm_Mem} {a i : Nat} {v : Int32} : jm_set μ a i v a = upd (μ a) i v := if_pos rfl
theorem jm_arr_eq {μ : jm_Mem} {a : Nat} {f : Nat → Int32} : jm_arr μ a f a = f := if_pos rfl
theorem jm_ce_arr {ad : Nat → Nat} {cI cZ : ClassId} {μ : jm_Mem} {a n : Nat} {b : Bool} (h : jm_sh a = .inl (b, n)) : jm_ce ad cI cZ μ a = .inl (bif b then cZ else cI, n, .inl (μ a)) := by
  simp only [jm_ce, h]
theorem jm_ce_obj {ad : Nat → Nat} {cI cZ : ClassId} {μ : jm_Mem} {a ci : Nat} {fl : List (Option Nat)} (h : jm_sh a = .inr (ci, fl)) : jm_ce ad cI cZ μ a = .inr (ci, jm_fl ad (μ a) 0 fl) := by
  simp only [jm_ce, h]
def jm_ov (ad : Nat → Nat) (x : Int32) (o : Option Nat) : Value := match o with
  | some j => .ref (ad j)
  | none => .int x
theorem jm_fl_get {ad : Nat → Nat} {f : Nat → Int32} : ∀ (fl : List (Option Nat)) (k0 k : Nat) (o : Option Nat), fl[k]? = some o → (jm_fl ad f k0 fl)[k]? = some (jm_ov ad (f (k0 + k)) o)
  | [], k0, k, o, h => by simp at h
  | some j :: t, k0, 0, o, h => by
    simp at h
    subst h
    rfl
  | none :: t, k0, 0, o, h => by
    simp at h
    subst h
    rfl
  | some j :: t, k0, k + 1, o, h => by
    have := jm_fl_get (ad := ad) (f := f) t (k0 + 1) k o (by simpa using h)
    rw [show k0 + 1 + k = k0 + (k + 1) by omega] at this
    simpa [jm_fl] using this
  | none :: t, k0, k + 1, o, h => by
    have := jm_fl_get (ad := ad) (f := f) t (k0 + 1) k o (by simpa using h)
    rw [show k0 + 1 + k = k0 + (k + 1) by omega] at this
    simpa [jm_fl] using this
theorem jm_fl_ne {ad : Nat → Nat} {f : Nat → Int32} {i : Nat} {v : Int32} : ∀ (fl : List (Option Nat)) (k0 : Nat), i < k0 → jm_fl ad (upd f i v) k0 fl = jm_fl ad f k0 fl
  | [], k0, h => rfl
  | some j :: t, k0, h => by
    show _ :: jm_fl ad (upd f i v) (k0 + 1) t = _ :: jm_fl ad f (k0 + 1) t
    rw [jm_fl_ne t (k0 + 1) (by omega)]
  | none :: t, k0, h => by
    show Value.int (upd f i v k0) :: jm_fl ad (upd f i v) (k0 + 1) t = Value.int (f k0) :: jm_fl ad f (k0 + 1) t
    rw [jm_fl_ne t (k0 + 1) (by omega)]
    have : upd f i v k0 = f k0 := by
      unfold upd
      rw [if_neg (by omega)]
    rw [this]
theorem jm_fl_set {ad : Nat → Nat} {f : Nat → Int32} {v : Int32} : ∀ (fl : List (Option Nat)) (k0 k : Nat), fl[k]? = some none → (jm_fl ad f k0 fl).set k (.int v) = jm_fl ad (upd f (k0 + k) v) k0 fl
  | [], k0, k, h => by simp at h
  | some j :: t, k0, 0, h => by simp at h
  | none :: t, k0, 0, h => by
    show Value.int v :: jm_fl ad f (k0 + 1) t = Value.int (upd f (k0 + 0) v k0) :: jm_fl ad (upd f (k0 + 0) v) (k0 + 1) t
    rw [jm_fl_ne t (k0 + 1) (by omega)]
    simp [upd]
  | some j :: t, k0, k + 1, h => by
    have := jm_fl_set (ad := ad) (f := f) (v := v) t (k0 + 1) k (by simpa using h)
    rw [show k0 + 1 + k = k0 + (k + 1) by omega] at this
    show _ :: (jm_fl ad f (k0 + 1) t).set k (.int v) = _ :: jm_fl ad (upd f (k0 + (k + 1)) v) (k0 + 1) t
    rw [this]
  | none :: t, k0, k + 1, h => by
    have := jm_fl_set (ad := ad) (f := f) (v := v) t (k0 + 1) k (by simpa using h)
    rw [show k0 + 1 + k = k0 + (k + 1) by omega] at this
    show Value.int (f k0) :: (jm_fl ad f (k0 + 1) t).set k (.int v) = Value.int (upd f (k0 + (k + 1)) v k0) :: jm_fl ad (upd f (k0 + (k + 1)) v) (k0 + 1) t
    rw [this]
    have : upd f (k0 + (k + 1)) v k0 = f k0 := by
      unfold upd
      rw [if_neg (by omega)]
    rw [this]
theorem jm_fl_len {ad : Nat → Nat} {f : Nat → Int32} : ∀ (fl : List (Option Nat)) (k0 : Nat), (jm_fl ad f k0 fl).length = fl.length
  | [], k0 => rfl
  | some j :: t, k0 => by simp [jm_fl, jm_fl_len t]
  | none :: t, k0 => by simp [jm_fl, jm_fl_len t]
