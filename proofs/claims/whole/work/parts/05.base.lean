/-! the worlds: whole numbers and rows by numbers -/
abbrev Wd : Type := (Nat → Int32) × (Nat → Nat → Int32) × (Nat → Nat → Int64) × (Nat → Int64)
def sI (w : Wd) (k : Nat) : Int32 := w.1 k
def aI (w : Wd) (k : Nat) : Nat → Int32 := w.2.1 k
def aL (w : Wd) (k : Nat) : Nat → Int64 := w.2.2.1 k
def sL (w : Wd) (k : Nat) : Int64 := w.2.2.2 k
def pI (w : Wd) (k : Nat) (v : Int32) : Wd := (fun j => if j = k then v else w.1 j, w.2)
def pA (w : Wd) (k : Nat) (f : Nat → Int32) : Wd := (w.1, fun j => if j = k then f else w.2.1 j, w.2.2)
def pB (w : Wd) (k : Nat) (f : Nat → Int64) : Wd := (w.1, w.2.1, fun j => if j = k then f else w.2.2.1 j, w.2.2.2)
def pL (w : Wd) (k : Nat) (v : Int64) : Wd := (w.1, w.2.1, w.2.2.1, fun j => if j = k then v else w.2.2.2 j)
/-! the programs' words -/
def c_nm {α Z : Type} (x : α) (K : α → Option Z) : Option Z := K x
def c_ld {Z : Type} (w : Wd) (k n : Nat) (i : Int32) (K : Int32 → Option Z) : Option Z := if i < 0 ∨ n ≤ i.toNatClampNeg then none else K (aI w k i.toNatClampNeg)
def c_ll {Z : Type} (w : Wd) (k n : Nat) (i : Int32) (K : Int64 → Option Z) : Option Z := if i < 0 ∨ n ≤ i.toNatClampNeg then none else K (aL w k i.toNatClampNeg)
def c_st {Z : Type} (w : Wd) (k n : Nat) (i x : Int32) (K : Wd → Option Z) : Option Z := if i < 0 ∨ n ≤ i.toNatClampNeg then none else K (pA w k (upd (aI w k) i.toNatClampNeg x))
def c_sz {Z : Type} (w : Wd) (k n : Nat) (i x : Int32) (K : Wd → Option Z) : Option Z := if i < 0 ∨ n ≤ i.toNatClampNeg then none else K (pA w k (upd (aI w k) i.toNatClampNeg (vp_nar .boolean x)))
def c_sl {Z : Type} (w : Wd) (k n : Nat) (i : Int32) (x : Int64) (K : Wd → Option Z) : Option Z := if i < 0 ∨ n ≤ i.toNatClampNeg then none else K (pB w k (vp_updL (aL w k) i.toNatClampNeg x))
def c_pi {Z : Type} (w : Wd) (k : Nat) (v : Int32) (K : Wd → Option Z) : Option Z := K (pI w k v)
def c_pl {Z : Type} (w : Wd) (k : Nat) (v : Int64) (K : Wd → Option Z) : Option Z := K (pL w k v)
def c_bo {Z : Type} (v : Int32) (K : Option Z) : Option Z := if v = 0 ∨ v = 1 then K else none
def c_nz {Z : Type} (v : Int32) (K : Option Z) : Option Z := if v = 0 then none else K
def c_cl {α Z : Type} (r : Option (Wd × α)) (K : Wd → α → Option Z) : Option Z := match r with
  | none => none
  | some q => K q.1 q.2
def c_cv {Z : Type} (r : Option Wd) (K : Wd → Option Z) : Option Z := match r with
  | none => none
  | some q => K q
def c_cp {Z : Type} (w : Wd) (k0 k1 n0 n1 : Nat) (n : Int32) (K : Wd → Option Z) : Option Z := if n < 0 ∨ n0 < n.toNatClampNeg ∨ n1 < n.toNatClampNeg then none else K (pA w k1 (va_cpy (aI w k0) (aI w k1) 0 0 n.toNatClampNeg))
def c_cq {Z : Type} (w : Wd) (k0 k1 n0 n1 : Nat) (n : Int32) (K : Wd → Option Z) : Option Z := if n < 0 ∨ n0 < n.toNatClampNeg ∨ n1 < n.toNatClampNeg then none else K (pB w k1 (va_cpy (aL w k0) (aL w k1) 0 0 n.toNatClampNeg))
theorem c_nm_ex {α Z : Type} {x : α} {K : α → Option Z} {z : Z} (h : c_nm x K = some z) : ∃ v, x = v ∧ K v = some z := ⟨x, rfl, h⟩
theorem c_none {Z : Type} {z : Z} {P : Prop} (h : (none : Option Z) = some z) : P := by cases h
/-! the worlds on the machine -/
abbrev Ev : Type := va_G × (Nat → ClassId) × (Nat → Nat)
abbrev clsAll : List vw_C := [(RX0, TX0, 2), (RX1, TX1, 13), (RX2, TX2, 9), (RX3, TX3, 9), (RX4, TX4, 4), (RX5, TX5, 9), (RX6, TX6, 3), (RX7, TX7, 6), (RX8, TX8, 13), (RX9, TX9, 8), (RX10, TX10, 7), (RX11, TX11, 51)]
abbrev tysV (V : Ev) : List (ClassId × FieldType) := [(V.2.1 0, .int), (V.2.1 1, .long), (V.2.1 2, .boolean)]
abbrev nst1 : Cond := .methodLinkNest RX3 124 yX10_placeOfPart RX10
abbrev nst2 : Cond := .methodLinkNest RX5 56 yX10_placeOfPart RX10
def KX (V : Ev) (U : State) : Prop := va_K V.1 clsAll (tysV V) U ∧ va_Nw nst1 U ∧ va_Nw nst2 U
theorem KX.warm {V : Ev} {s U : State} (h : KX V s) (hW : s.WarmedH U.vm) : KX V U := ⟨va_K.moved hW.alike h.1, va_Nw.warmM hW h.2.1, va_Nw.warmM hW h.2.2⟩
theorem KX.same {V : Ev} {s U : State} (h : KX V s) (hv : s.vm = U.vm) : KX V U := ⟨va_K.moved (by rw [hv]; exact Vm.Alike.refl _) h.1, va_Nw.same rfl hv h.2.1, va_Nw.same rfl hv h.2.2⟩
def rmD (d : Nat) : Room := { frames := d, cells := 0, slots := 0, locals := 46 * d }
def wH (V : Ev) (cw : Wd → va_W) (A : Nat → Prop) (s : State) (w : Wd) (H : Heap) (locs : List Loc) : Prop := va_P V.1 clsAll (cw w) H ∧ va_D A (cw w) ∧ va_S A s.heap H locs
def Ctr (V : Ev) (cw : Wd → va_W) (A : Nat → Prop) (av : List Value) (w : Wd) : Array Value → State → Prop := va_Pc av (fun U => va_P V.1 clsAll (cw w) U.heap ∧ va_D A (cw w) ∧ KX V U)
def CtI (V : Ev) (cw : Wd → va_W) (A : Nat → Prop) (z : Wd × Int32) : Array Value → State → Outcome → State → Prop := va_Qi (fun r (u : Wd) => r = z.2 ∧ u = z.1) (fun u t => va_P V.1 clsAll (cw u) t.heap ∧ va_D A (cw u)) A
def CtL (V : Ev) (cw : Wd → va_W) (A : Nat → Prop) (z : Wd × Int64) : Array Value → State → Outcome → State → Prop := va_Ql (fun r (u : Wd) => r = z.2 ∧ u = z.1) (fun u t => va_P V.1 clsAll (cw u) t.heap ∧ va_D A (cw u)) A
def CtV (V : Ev) (cw : Wd → va_W) (A : Nat → Prop) (z : Wd) : Array Value → State → Outcome → State → Prop := va_Qv (fun (u : Wd) => u = z) (fun u t => va_P V.1 clsAll (cw u) t.heap ∧ va_D A (cw u)) A
def MetI (l : Launch) (V : Ev) (cw : Wd → va_W) (A : Nat → Prop) (y : MethodName) (b : ByteArray) (mL : Nat) (rt : Option FieldType) (d : Nat) (av : List Value) (w : Wd) (z : Wd × Int32) : Prop := Met l y (.code y b mL rt :: gG) (rmD d) (Ctr V cw A av w) (CtI V cw A z) 0 0 A
def MetL (l : Launch) (V : Ev) (cw : Wd → va_W) (A : Nat → Prop) (y : MethodName) (b : ByteArray) (mL : Nat) (rt : Option FieldType) (d : Nat) (av : List Value) (w : Wd) (z : Wd × Int64) : Prop := Met l y (.code y b mL rt :: gG) (rmD d) (Ctr V cw A av w) (CtL V cw A z) 0 0 A
def MetV (l : Launch) (V : Ev) (cw : Wd → va_W) (A : Nat → Prop) (y : MethodName) (b : ByteArray) (mL : Nat) (rt : Option FieldType) (d : Nat) (av : List Value) (w : Wd) (z : Wd) : Prop := Met l y (.code y b mL rt :: gG) (rmD d) (Ctr V cw A av w) (CtV V cw A z) 0 0 A
theorem Ctr.blind {V : Ev} {cw : Wd → va_W} {A : Nat → Prop} {av : List Value} {w : Wd} : FrameBlind (Ctr V cw A av w) := fun _ _ _ _ h => ⟨h.1, h.2.1, h.2.2.1, h.2.2.2.same rfl⟩
/-- what holds all along a method's walk -/
def CX (V : Ev) (p : Program) (s : State) (m : MethodId) (args : Array Value) (meth : Method) (c : Code) (cc : ByteArray) (nL : Nat) (own : String) (rt : Option FieldType) : Prop :=
  p.tables.exec = Jvm.exec ∧ c.code = cc ∧ c.maxLocals = nL ∧ s.vm.findClass own = some m.cls ∧ (∀ w ∈ gG, w.before args s = true) ∧ meth.sig.returnType = rt ∧ meth.locks = false ∧ KX V s
theorem gi_code {y : MethodName} {b : ByteArray} {mL : Nat} {rt : Option FieldType} (h : Cond.code y b mL rt ∈ gG) : GoodIn gG (Cond.code y b mL rt :: gG) := fun w hw => by
  rcases List.mem_cons.mp hw with rfl | hw
  · exact ⟨h, gG_good h⟩
  · exact ⟨hw, gG_good hw⟩
theorem gi_V {own C : String} {i : Nat} {y : MethodName} {b : ByteArray} {mL : Nat} {rt : Option FieldType} (h1 : Cond.methodLink own i y ∈ gG) (h2 : Cond.instanceMethod y ∈ gG) (h3 : Cond.selects C y y ∈ gG) (h4 : Cond.initialized C ∈ gG) (h : Cond.code y b mL rt ∈ gG) : GoodIn gG (wsV own i C y (Cond.code y b mL rt :: gG)) := fun w hw => by
  rcases List.mem_append.mp hw with hw | hw
  · have hm : w ∈ gG := by
      rcases List.mem_cons.mp hw with rfl | hw
      · exact h1
      rcases List.mem_cons.mp hw with rfl | hw
      · exact h2
      rcases List.mem_cons.mp hw with rfl | hw
      · exact h3
      rcases List.mem_cons.mp hw with rfl | hw
      · exact h4
      cases hw
    exact ⟨hm, gG_good hm⟩
  · exact gi_code h w hw
theorem gi_S {own : String} {i : Nat} {y : MethodName} {b : ByteArray} {mL : Nat} {rt : Option FieldType} (h1 : Cond.methodLink own i y ∈ gG) (h2 : Cond.static y ∈ gG) (h4 : Cond.initialized y.cls ∈ gG) (h : Cond.code y b mL rt ∈ gG) : GoodIn gG (va_wsS own i y (Cond.code y b mL rt :: gG)) := fun w hw => by
  rcases List.mem_append.mp hw with hw | hw
  · have hm : w ∈ gG := by
      rcases List.mem_cons.mp hw with rfl | hw
      · exact h1
      rcases List.mem_cons.mp hw with rfl | hw
      · exact h2
      rcases List.mem_cons.mp hw with rfl | hw
      · exact h4
      cases hw
    exact ⟨hm, gG_good hm⟩
  · exact gi_code h w hw
section RB
variable {V : Ev} {cw : Wd → va_W} {A : Nat → Prop} {p : Program} {l : Launch} {e : Env} {R : Room} {s : State} {m : MethodId} {args : Array Value} {below : List Frame} {meth : Method} {c : Code} {H : Heap} {locs : List Loc} {cells slots d : Nat} {Q : State → Prop} {cc : ByteArray} {nL : Nat} {own : String} {rt : Option FieldType} {w : Wd} {Z : Type} {z : Z} {pc : Nat} {ls : Array Slot} {rest : List Value}
theorem r_nmi {x : Int32} {K : Int32 → Option Z} (h : c_nm x K = some z) (kk : ∀ v : Int32, K v = some z → W p l e R s m args below meth c H locs cells slots Q (F0 m pc ls (.int v :: rest))) : W p l e R s m args below meth c H locs cells slots Q (F0 m pc ls (.int x :: rest)) := kk x h
theorem r_nml {x : Int64} {K : Int64 → Option Z} (h : c_nm x K = some z) (kk : ∀ v : Int64, K v = some z → W p l e R s m args below meth c H locs cells slots Q (F0 m pc ls (.long v :: rest))) : W p l e R s m args below meth c H locs cells slots Q (F0 m pc ls (.long x :: rest)) := kk x h
theorem r_ld {q k n : Nat} {i : Int32} {K : Int32 → Option Z} (C : CX V p s m args meth c cc nL own rt) (he : (cw w)[q]? = some (V.2.2 q, .inl (V.2.1 0, n, .inl (aI w k)))) (hH : wH V cw A s w H locs) (h : c_ld w k n i K = some z) (dg : decode cc pc = .ok (.iaload, 1))
    (kk : ∀ v : Int32, K v = some z → W p l e R s m args below meth c H locs cells slots Q (F0 m (pc + 1) ls (.int v :: rest))) : W p l e R s m args below meth c H locs cells slots Q (F0 m pc ls (.int i :: .ref (V.2.2 q) :: rest)) := by
  unfold c_ld at h
  split at h
  · cases h
  · rename_i hin
    exact va_iald C.1 C.2.1 C.2.2.2.2.2.2.2.1 hH.1 q 0 he rfl hin dg (kk _ h)
theorem r_lz {q k n : Nat} {i : Int32} {K : Int32 → Option Z} (C : CX V p s m args meth c cc nL own rt) (he : (cw w)[q]? = some (V.2.2 q, .inl (V.2.1 2, n, .inl (aI w k)))) (hH : wH V cw A s w H locs) (h : c_ld w k n i K = some z) (dg : decode cc pc = .ok (.baload, 1))
    (kk : ∀ v : Int32, K v = some z → W p l e R s m args below meth c H locs cells slots Q (F0 m (pc + 1) ls (.int v :: rest))) : W p l e R s m args below meth c H locs cells slots Q (F0 m pc ls (.int i :: .ref (V.2.2 q) :: rest)) := by
  unfold c_ld at h
  split at h
  · cases h
  · rename_i hin
    exact va_zald C.1 C.2.1 C.2.2.2.2.2.2.2.1 hH.1 q 2 he rfl hin dg (kk _ h)
theorem r_ll {q k n : Nat} {i : Int32} {K : Int64 → Option Z} (C : CX V p s m args meth c cc nL own rt) (he : (cw w)[q]? = some (V.2.2 q, .inl (V.2.1 1, n, .inr (.inl (aL w k))))) (hH : wH V cw A s w H locs) (h : c_ll w k n i K = some z) (dg : decode cc pc = .ok (.laload, 1))
    (kk : ∀ v : Int64, K v = some z → W p l e R s m args below meth c H locs cells slots Q (F0 m (pc + 1) ls (.long v :: rest))) : W p l e R s m args below meth c H locs cells slots Q (F0 m pc ls (.int i :: .ref (V.2.2 q) :: rest)) := by
  unfold c_ll at h
  split at h
  · cases h
  · rename_i hin
    exact va_lald C.1 C.2.1 C.2.2.2.2.2.2.2.1 hH.1 q 1 he rfl hin dg (kk _ h)
theorem r_st {q k n : Nat} {i x : Int32} {K : Wd → Option Z} (C : CX V p s m args meth c cc nL own rt) (he : (cw w)[q]? = some (V.2.2 q, .inl (V.2.1 0, n, .inl (aI w k)))) (hs : ∀ f : Nat → Int32, (cw w).set q (V.2.2 q, .inl (V.2.1 0, n, .inl f)) = cw (pA w k f)) (hH : wH V cw A s w H locs) (h : c_st w k n i x K = some z) (dg : decode cc pc = .ok (.iastore, 1))
    (kk : ∀ (w1 : Wd) (H1 : Heap) (locs1 : List Loc), K w1 = some z → wH V cw A s w1 H1 locs1 → W p l e R s m args below meth c H1 locs1 cells slots Q (F0 m (pc + 1) ls rest)) : W p l e R s m args below meth c H locs cells slots Q (F0 m pc ls (.int x :: .int i :: .ref (V.2.2 q) :: rest)) := by
  unfold c_st at h
  split at h
  · cases h
  · rename_i hin
    exact va_iast C.1 C.2.1 C.2.2.2.2.2.2.2.1 hH.1 hH.2.1 hH.2.2 q 0 he rfl hin dg (fun H1 locs1 hP hD hS => kk _ H1 locs1 h ⟨hs _ ▸ hP, hs _ ▸ hD, hS⟩)
theorem r_sz {q k n : Nat} {i x : Int32} {K : Wd → Option Z} (C : CX V p s m args meth c cc nL own rt) (he : (cw w)[q]? = some (V.2.2 q, .inl (V.2.1 2, n, .inl (aI w k)))) (hs : ∀ f : Nat → Int32, (cw w).set q (V.2.2 q, .inl (V.2.1 2, n, .inl f)) = cw (pA w k f)) (hH : wH V cw A s w H locs) (h : c_sz w k n i x K = some z) (dg : decode cc pc = .ok (.bastore, 1))
    (kk : ∀ (w1 : Wd) (H1 : Heap) (locs1 : List Loc), K w1 = some z → wH V cw A s w1 H1 locs1 → W p l e R s m args below meth c H1 locs1 cells slots Q (F0 m (pc + 1) ls rest)) : W p l e R s m args below meth c H locs cells slots Q (F0 m pc ls (.int x :: .int i :: .ref (V.2.2 q) :: rest)) := by
  unfold c_sz at h
  split at h
  · cases h
  · rename_i hin
    exact va_zast C.1 C.2.1 C.2.2.2.2.2.2.2.1 hH.1 hH.2.1 hH.2.2 q 2 he rfl hin dg (fun H1 locs1 hP hD hS => kk _ H1 locs1 h ⟨hs _ ▸ hP, hs _ ▸ hD, hS⟩)
theorem r_sl {q k n : Nat} {i : Int32} {x : Int64} {K : Wd → Option Z} (C : CX V p s m args meth c cc nL own rt) (he : (cw w)[q]? = some (V.2.2 q, .inl (V.2.1 1, n, .inr (.inl (aL w k))))) (hs : ∀ f : Nat → Int64, (cw w).set q (V.2.2 q, .inl (V.2.1 1, n, .inr (.inl f))) = cw (pB w k f)) (hH : wH V cw A s w H locs) (h : c_sl w k n i x K = some z) (dg : decode cc pc = .ok (.lastore, 1))
    (kk : ∀ (w1 : Wd) (H1 : Heap) (locs1 : List Loc), K w1 = some z → wH V cw A s w1 H1 locs1 → W p l e R s m args below meth c H1 locs1 cells slots Q (F0 m (pc + 1) ls rest)) : W p l e R s m args below meth c H locs cells slots Q (F0 m pc ls (.long x :: .int i :: .ref (V.2.2 q) :: rest)) := by
  unfold c_sl at h
  split at h
  · cases h
  · rename_i hin
    exact va_last C.1 C.2.1 C.2.2.2.2.2.2.2.1 hH.1 hH.2.1 hH.2.2 q 1 he rfl hin dg (fun H1 locs1 hP hD hS => kk _ H1 locs1 h ⟨hs _ ▸ hP, hs _ ▸ hD, hS⟩)
theorem r_al {q n t0 : Nat} {x : (Nat → Int32) ⊕ (Nat → Int64) ⊕ (Nat → UInt32) ⊕ (Nat → UInt64) ⊕ (Nat → Option Nat)} {ty : FieldType} {cA : ClassId} {v : Int32} (C : CX V p s m args meth c cc nL own rt) (he : (cw w)[q]? = some (V.2.2 q, .inl (cA, n, x))) (ht : (tysV V)[t0]? = some (cA, ty)) (hH : wH V cw A s w H locs) (hv : Int32.ofNat n = v) (dg : decode cc pc = .ok (.arraylength, 1))
    (kk : W p l e R s m args below meth c H locs cells slots Q (F0 m (pc + 1) ls (.int v :: rest))) : W p l e R s m args below meth c H locs cells slots Q (F0 m pc ls (.ref (V.2.2 q) :: rest)) :=
  va_alen C.1 C.2.1 C.2.2.2.2.2.2.2.1 hH.1 q t0 he ht hv dg kk
theorem r_iret {x : Wd × Int32} {v : Int32} (C : CX V p s m args meth c cc nL own (some .int)) (hH : wH V cw A s w H locs) (h : some (w, v) = some x) (dg : decode cc pc = .ok (.ireturn, 1)) : W p l e R s m args below meth c H locs cells slots (MQ below (CtI V cw A x) args s cells slots A) (F0 m pc ls [.int v]) := by
  cases h
  exact W.iret C.1 C.2.1 C.2.2.2.2.2.1 (fun t ht _ => ⟨⟨v, w, rfl, ⟨rfl, rfl⟩, ht ▸ hH.1, hH.2.1⟩, hH.2.2.F ht⟩) hH.2.2.2.2 dg (hlocks := C.2.2.2.2.2.2.1)
theorem r_zretk {x : Wd × Int32} {v : Int32} (hv : v = 0 ∨ v = 1) (C : CX V p s m args meth c cc nL own (some .boolean)) (hH : wH V cw A s w H locs) (h : some (w, v) = some x) (dg : decode cc pc = .ok (.ireturn, 1)) : W p l e R s m args below meth c H locs cells slots (MQ below (CtI V cw A x) args s cells slots A) (F0 m pc ls [.int v]) := by
  cases h
  exact W.zret C.1 C.2.1 C.2.2.2.2.2.1 (by rcases hv with rfl | rfl <;> rfl) (fun t ht _ => ⟨⟨v, w, rfl, ⟨rfl, rfl⟩, ht ▸ hH.1, hH.2.1⟩, hH.2.2.F ht⟩) hH.2.2.2.2 dg (hlocks := C.2.2.2.2.2.2.1)
theorem r_zret {x : Wd × Int32} {v : Int32} (C : CX V p s m args meth c cc nL own (some .boolean)) (hH : wH V cw A s w H locs) (h : c_bo v (some (w, v)) = some x) (dg : decode cc pc = .ok (.ireturn, 1)) : W p l e R s m args below meth c H locs cells slots (MQ below (CtI V cw A x) args s cells slots A) (F0 m pc ls [.int v]) := by
  unfold c_bo at h
  split at h
  · rename_i hv
    exact r_zretk hv C hH h dg
  · cases h
theorem r_lret {x : Wd × Int64} {v : Int64} (C : CX V p s m args meth c cc nL own (some .long)) (hH : wH V cw A s w H locs) (h : some (w, v) = some x) (dg : decode cc pc = .ok (.lreturn, 1)) : W p l e R s m args below meth c H locs cells slots (MQ below (CtL V cw A x) args s cells slots A) (F0 m pc ls [.long v]) := by
  cases h
  exact W.lret C.1 C.2.1 C.2.2.2.2.2.1 (fun t ht _ => ⟨⟨v, w, rfl, ⟨rfl, rfl⟩, ht ▸ hH.1, hH.2.1⟩, hH.2.2.F ht⟩) hH.2.2.2.2 dg (hlocks := C.2.2.2.2.2.2.1)
theorem r_vret {x : Wd} (C : CX V p s m args meth c cc nL own none) (hH : wH V cw A s w H locs) (h : some w = some x) (dg : decode cc pc = .ok (.return_, 1)) : W p l e R s m args below meth c H locs cells slots (MQ below (CtV V cw A x) args s cells slots A) (F0 m pc ls []) := by
  cases h
  exact W.vret C.1 C.2.1 C.2.2.2.2.2.1 (fun t ht _ => ⟨⟨w, rfl, rfl, ht ▸ hH.1, hH.2.1⟩, hH.2.2.F ht⟩) hH.2.2.2.2 dg (hlocks := C.2.2.2.2.2.2.1)
end RB
