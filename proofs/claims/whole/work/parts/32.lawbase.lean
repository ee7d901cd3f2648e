theorem wW_813 : Cond.codeWith yL_part cL_part 5 (some .int) [(0, 10, 13, 13)] ∈ gG := gG_t 813 (by decide +kernel) (by first | rfl | decide +kernel)
theorem gi_SW {own : String} {i : Nat} {y : MethodName} {b : ByteArray} {mL : Nat} {rt : Option FieldType} {hh : List (Nat × Nat × Nat × Nat)} (h1 : Cond.methodLink own i y ∈ gG) (h2 : Cond.static y ∈ gG) (h4 : Cond.initialized y.cls ∈ gG) (h : Cond.codeWith y b mL rt hh ∈ gG) : GoodIn gG (va_wsS own i y (Cond.codeWith y b mL rt hh :: gG)) := fun w hw => by
  have hm : w ∈ gG := by
    rcases List.mem_append.mp hw with hw | hw
    · rcases List.mem_cons.mp hw with rfl | hw
      · exact h1
      rcases List.mem_cons.mp hw with rfl | hw
      · exact h2
      rcases List.mem_cons.mp hw with rfl | hw
      · exact h4
      cases hw
    · rcases List.mem_cons.mp hw with rfl | hw
      · exact h
      · exact hw
  exact ⟨hm, gG_good hm⟩
def Op_sign (N d : Nat) (I : Wd → Wd → Prop) : Prop := ∀ (wc wm : Wd) (a1 a2 : Int32) , I wc wm → ∃ (wc2 wm2 : Wd) (r : Int32), eX10_sign N d wc a1 a2 = some (wc2, r) ∧ eX11_sign N d wm a1 a2 = some (wm2, r) ∧ I wc2 wm2
def Op_variable (N d : Nat) (I : Wd → Wd → Prop) : Prop := ∀ (wc wm : Wd) (a1 : Int32) , I wc wm → ∃ (wc2 wm2 : Wd) (r : Int32), eX10_variable N d wc a1 = some (wc2, r) ∧ eX11_variable N d wm a1 = some (wm2, r) ∧ I wc2 wm2
def Op_term (N d : Nat) (I : Wd → Wd → Prop) : Prop := ∀ (wc wm : Wd) (a1 a2 a3 : Int32) , I wc wm → ∃ (wc2 wm2 : Wd) (r : Int32), eX10_term N d wc a1 a2 a3 = some (wc2, r) ∧ eX11_term N d wm a1 a2 a3 = some (wm2, r) ∧ I wc2 wm2
def Op_rule (N d : Nat) (I : Wd → Wd → Prop) : Prop := ∀ (wc wm : Wd) (a1 a2 : Int32) , I wc wm → ∃ (wc2 wm2 : Wd) (r : Int32), eX10_rule N d wc a1 a2 = some (wc2, r) ∧ eX11_rule N d wm a1 a2 = some (wm2, r) ∧ I wc2 wm2
def Op_on (N d : Nat) (I : Wd → Wd → Prop) : Prop := ∀ (wc wm : Wd) (a1 a2 : Int32) , (a2 = 0 ∨ a2 = 1) → I wc wm → ∃ (wc2 wm2 : Wd) (r : Int32), eX10_on N d wc a1 a2 = some (wc2, r) ∧ eX11_on N d wm a1 a2 = some (wm2, r) ∧ I wc2 wm2
def Op_step (N d : Nat) (I : Wd → Wd → Prop) : Prop := ∀ (wc wm : Wd) (a1 a2 : Int32) , I wc wm → ∃ (wc2 wm2 : Wd) (r : Int32), eX10_step N d wc a1 a2 = some (wc2, r) ∧ eX11_step N d wm a1 a2 = some (wm2, r) ∧ I wc2 wm2
def Op_normal (N d : Nat) (I : Wd → Wd → Prop) : Prop := ∀ (wc wm : Wd) (a1 a2 : Int32) , I wc wm → ∃ (wc2 wm2 : Wd) (r : Int32), eX10_normal N d wc a1 a2 = some (wc2, r) ∧ eX11_normal N d wm a1 a2 = some (wm2, r) ∧ I wc2 wm2
def Op_used (N d : Nat) (I : Wd → Wd → Prop) : Prop := ∀ (wc wm : Wd) (a1 a2 : Int32) , I wc wm → ∃ (wc2 wm2 : Wd) (r : Int64), eX10_used N d wc a1 a2 = some (wc2, r) ∧ eX11_used N d wm a1 a2 = some (wm2, r) ∧ I wc2 wm2
def Op_ends (N d : Nat) (I : Wd → Wd → Prop) : Prop := ∀ (wc wm : Wd) (a1 : Int32) , I wc wm → ∃ (wc2 wm2 : Wd) (r : Int32), eX10_ends N d wc a1 = some (wc2, r) ∧ eX11_ends N d wm a1 = some (wm2, r) ∧ I wc2 wm2
def Op_above (N d : Nat) (I : Wd → Wd → Prop) : Prop := ∀ (wc wm : Wd) (a1 a2 : Int32) , I wc wm → ∃ (wc2 wm2 : Wd) (r : Int32), eX10_above N d wc a1 a2 = some (wc2, r) ∧ eX11_above N d wm a1 a2 = some (wm2, r) ∧ I wc2 wm2
def Op_pairs (N d : Nat) (I : Wd → Wd → Prop) : Prop := ∀ (wc wm : Wd) , I wc wm → ∃ (wc2 wm2 : Wd) (r : Int32), eX10_pairs N d wc  = some (wc2, r) ∧ eX11_pairs N d wm  = some (wm2, r) ∧ I wc2 wm2
def Op_pair (N d : Nat) (I : Wd → Wd → Prop) : Prop := ∀ (wc wm : Wd) (a1 a2 : Int32) , I wc wm → ∃ (wc2 wm2 : Wd) (r : Int64), eX10_pair N d wc a1 a2 = some (wc2, r) ∧ eX11_pair N d wm a1 a2 = some (wm2, r) ∧ I wc2 wm2
def Op_tables (N d : Nat) (I : Wd → Wd → Prop) : Prop := ∀ (wc wm : Wd) (a1 : Int32) , I wc wm → ∃ (wc2 wm2 : Wd) (r : Int32), eX10_tables N d wc a1 = some (wc2, r) ∧ eX11_tables N d wm a1 = some (wm2, r) ∧ I wc2 wm2
def Op_cell (N d : Nat) (I : Wd → Wd → Prop) : Prop := ∀ (wc wm : Wd) (a1 a2 a3 a4 : Int32) , I wc wm → ∃ (wc2 wm2 : Wd) (r : Int32), eX10_cell N d wc a1 a2 a3 a4 = some (wc2, r) ∧ eX11_cell N d wm a1 a2 a3 a4 = some (wm2, r) ∧ I wc2 wm2
def Op_has (N d : Nat) (I : Wd → Wd → Prop) : Prop := ∀ (wc wm : Wd) (a1 a2 : Int32) , I wc wm → ∃ (wc2 wm2 : Wd) (r : Int32), eX10_has N d wc a1 a2 = some (wc2, r) ∧ eX11_has N d wm a1 a2 = some (wm2, r) ∧ I wc2 wm2
def Op_value (N d : Nat) (I : Wd → Wd → Prop) : Prop := ∀ (wc wm : Wd) (a1 : Int32) , I wc wm → ∃ (wc2 wm2 : Wd) (r : Int32), eX10_value N d wc a1 = some (wc2, r) ∧ eX11_value N d wm a1 = some (wm2, r) ∧ I wc2 wm2
def Op_judge (N d : Nat) (I : Wd → Wd → Prop) : Prop := ∀ (wc wm : Wd) (a1 : Int32) , I wc wm → ∃ (wc2 wm2 : Wd) (r : Int32), eX10_judge N d wc a1 = some (wc2, r) ∧ eX11_judge N d wm a1 = some (wm2, r) ∧ I wc2 wm2
def Op_refuted (N d : Nat) (I : Wd → Wd → Prop) : Prop := ∀ (wc wm : Wd) (a1 : Int32) , I wc wm → ∃ (wc2 wm2 : Wd) (r : Int32), eX10_refuted N d wc a1 = some (wc2, r) ∧ eX11_refuted N d wm a1 = some (wm2, r) ∧ I wc2 wm2
def Op_of (N d : Nat) (I : Wd → Wd → Prop) : Prop := ∀ (wc wm : Wd) (a1 a2 a3 : Int32) , I wc wm → ∃ (wc2 wm2 : Wd) (r : Int64), eX10_of N d wc a1 a2 a3 = some (wc2, r) ∧ eX11_of N d wm a1 a2 a3 = some (wm2, r) ∧ I wc2 wm2
def Op_part (N d : Nat) (I : Wd → Wd → Prop) : Prop := ∀ (wc wm : Wd) (a1 a2 : Int32), I wc wm → ∃ (wc2 wm2 wm3 : Wd) (o : Option Int32) (r k : Int32), eX10_part N d wc a1 a2 = some (wc2, o) ∧ eX11_part N d wm a1 a2 = some (wm2, r) ∧ eX11_thrown N d wm2 = some (wm3, k) ∧ (o = some r ∧ k = 0 ∨ o = none ∧ k = 1) ∧ I wc2 wm3
def Op_count (N d : Nat) (I : Wd → Wd → Prop) : Prop := ∀ (wc wm : Wd) (a1 : Int32) , I wc wm → ∃ (wc2 wm2 : Wd) (r : Int32), eX10_count N d wc a1 = some (wc2, r) ∧ eX11_count N d wm a1 = some (wm2, r) ∧ I wc2 wm2
def Op_clear (N d : Nat) (I : Wd → Wd → Prop) : Prop := ∀ (wc wm : Wd) , I wc wm → ∃ (wc2 wm2 : Wd) (r : Int32), eX10_clear N d wc  = some (wc2, r) ∧ eX11_clear N d wm  = some (wm2, r) ∧ I wc2 wm2
def OpsOK (N d : Nat) (I : Wd → Wd → Prop) : Prop := Op_sign N d I ∧ Op_variable N d I ∧ Op_term N d I ∧ Op_rule N d I ∧ Op_on N d I ∧ Op_step N d I ∧ Op_normal N d I ∧ Op_used N d I ∧ Op_ends N d I ∧ Op_above N d I ∧ Op_pairs N d I ∧ Op_pair N d I ∧ Op_tables N d I ∧ Op_cell N d I ∧ Op_has N d I ∧ Op_value N d I ∧ Op_judge N d I ∧ Op_refuted N d I ∧ Op_of N d I ∧ Op_part N d I ∧ Op_count N d I ∧ Op_clear N d I
def R_law : String := "RewriteChecksLaw"
def lw_At (p : Program) (s : State) (m : MethodId) (meth : Method) (c : Code) (b L : Nat) (xs : Nat → Int32) : Prop :=
  p.tables.exec = Jvm.exec ∧ c.code = code ∧ meth.sig.returnType = ret ∧ c.maxLocals = 7 ∧ s.vm.findClass R_law = some m.cls ∧ (∀ w ∈ lw_tbl, w.before #[Value.ref b] s = true) ∧ va_X b L xs s s.heap ∧ b < s.heap.size ∧ meth.locks = false ∧ (Jvm.Cond.and given_1 narrow_1).before #[Value.ref b] s = true
/-- what holds all along the law -/
def LwC (V V2 : Ev) (bo sa : Nat) (p : Program) (s : State) (m : MethodId) (b L : Nat) (xs : Nat → Int32) (meth : Method) (c : Code) : Prop :=
  CX V p s m #[Value.ref b] meth c code 7 RL (some .boolean) ∧ CX V2 p s m #[Value.ref b] meth c code 7 RL (some .boolean) ∧ V2.1 = V.1 ∧ V2.2.1 = V.2.1 ∧ (∀ w, va_D (AC V) (cC V w)) ∧ (∀ w, va_D (AM V2) (cM V2 w)) ∧ (∀ q, AC V q → ¬ AM V2 q) ∧ ¬ AC V bo ∧ ¬ AM V2 bo ∧ (∀ q, AC V q → s.heap.size ≤ q) ∧ (∀ q, AM V2 q → s.heap.size ≤ q) ∧ s.heap.size ≤ bo ∧ KP sa s ∧ zU (fun q => s.heap.size ≤ q) s s.heap ∧ va_X b L xs s s.heap ∧ b < s.heap.size
def LwS (V V2 : Ev) (bo : Nat) (s : State) (wc wm : Wd) (o : Nat → Int64) (H : Heap) (locs : List Loc) : Prop :=
  va_P V.1 clsAll (cC V wc) H ∧ va_P V.1 clsAll [ocell V bo o] H ∧ va_P V2.1 clsAll (cM V2 wm) H ∧ va_S (fun q => s.heap.size ≤ q) s.heap H locs
theorem va_P.past {D : va_G} {ws : va_W} {A B : Nat → Prop} {H H1 : Heap} (h : va_P D clsAll ws H) (hB : ∀ (k : Nat) (q : Nat × va_E), ws[k]? = some q → B q.1) (hd : ∀ q, B q → ¬ A q) (hk : ∀ q : Nat, q < H.size → ¬ A q → H1[q]? = H[q]?) : va_P D clsAll ws H1 :=
  h.kept (fun k q hq => hk q.1 ((h k q hq).lt) (hd _ (hB k q hq)))
section LW
variable {V V2 : Ev} {bo sa : Nat} {p : Program} {l : Launch} {e : Env} {s : State} {m : MethodId} {b L : Nat} {xs : Nat → Int32} {below : List Frame} {meth : Method} {c : Code} {H : Heap} {locs : List Loc} {cells slots : Nat} {Q : State → Prop} {wc wm : Wd} {o : Nat → Int64} {pc : Nat} {ls : Array Slot} {rest st0 : List Value}
variable {y : MethodName} {bb : ByteArray} {mL n idx : Nat} {As : List Value} {r2 : Option FieldType}
theorem oc_in {k : Nat} {q : Nat × va_E} (h : ([ocell V bo o] : va_W)[k]? = some q) : q.1 = bo := by
  have hz : k < 1 := (List.getElem?_eq_some_iff.mp h).1
  rw [show k = 0 by omega] at h
  cases h
  rfl
theorem LwS.afterC {x : Wd} {H1 : Heap} {locs1 : List Loc} (K : LwC V V2 bo sa p s m b L xs meth c) (h : LwS V V2 bo s wc wm o H locs) (hP : va_P V.1 clsAll (cC V x) H1) (hk : ∀ q : Nat, q < H.size → ¬ AC V q → H1[q]? = H[q]?) (hS : va_S (fun q => s.heap.size ≤ q) s.heap H1 locs1) : LwS V V2 bo s x wm o H1 locs1 :=
  ⟨hP, h.2.1.past (B := fun q => q = bo) (fun k q hq => oc_in hq) (fun q e h => K.2.2.2.2.2.2.2.1 (e ▸ h)) hk, h.2.2.1.past (B := AM V2) (fun k q hq => (K.2.2.2.2.2.1 wm).2 k q hq) (fun q h1 h2 => K.2.2.2.2.2.2.1 q h2 h1) hk, hS⟩
theorem LwS.afterM {x : Wd} {H1 : Heap} {locs1 : List Loc} (K : LwC V V2 bo sa p s m b L xs meth c) (h : LwS V V2 bo s wc wm o H locs) (hP : va_P V2.1 clsAll (cM V2 x) H1) (hk : ∀ q : Nat, q < H.size → ¬ AM V2 q → H1[q]? = H[q]?) (hS : va_S (fun q => s.heap.size ≤ q) s.heap H1 locs1) : LwS V V2 bo s wc x o H1 locs1 :=
  ⟨h.1.past (B := AC V) (fun k q hq => (K.2.2.2.2.1 wc).2 k q hq) (fun q h1 => K.2.2.2.2.2.2.1 q h1) hk, h.2.1.past (B := fun q => q = bo) (fun k q hq => oc_in hq) (fun q e h => K.2.2.2.2.2.2.2.2.1 (e ▸ h)) hk, hP, hS⟩
theorem lw_callCI {x : Wd × Int32} (K : LwC V V2 bo sa p s m b L xs meth c) (h : LwS V V2 bo s wc wm o H locs) (hM : MetI l V (cC V) (AC V) y bb mL r2 2000 (.ref (V.2.2 0) :: As) wc x) (hw : CWV RL idx RX10 y bb mL r2 n) (hn : As.length = n) (hst : st0 = As.reverse ++ .ref (V.2.2 0) :: rest) (hr : (rest.map fun v => v.category).sum ≤ 8) (hls : ls.size = 7) (hf : cells ≤ 603072 ∧ slots ≤ 7194730) (dg : decode code pc = .ok (.invokevirtual idx, 3))
    (kk : ∀ (H1 : Heap) (locs1 : List Loc), LwS V V2 bo s x.1 wm o H1 locs1 → W p l e room_1 s m #[Value.ref b] below meth c H1 locs1 cells slots Q (F0 m (pc + 3) ls (.int x.2 :: rest))) : W p l e room_1 s m #[Value.ref b] below meth c H locs cells slots Q (F0 m pc ls st0) :=
  q_kI (A1 := AC V) (A0 := fun q => s.heap.size ≤ q) (H0 := s.heap) (cw := cC V) (V := V) (rest := rest) (fun q h => K.2.2.2.2.2.2.2.2.2.1 q h) h.2.2.2 (q_run (q := 0) (As := As) (rest := rest) K.1 h.1 (K.2.2.2.2.1 wc) hM hw (heC_0 V wc) rfl hn hst hr hls ⟨Nat.le_of_ble_eq_true rfl, Nat.le_of_ble_eq_true rfl⟩ hf dg) (fun H1 locs1 hP _ _ hk hS => kk H1 locs1 (h.afterC K hP hk hS))
theorem lw_callMI {x : Wd × Int32} (K : LwC V V2 bo sa p s m b L xs meth c) (h : LwS V V2 bo s wc wm o H locs) (hM : MetI l V2 (cM V2) (AM V2) y bb mL r2 2000 (.ref (V2.2.2 0) :: As) wm x) (hw : CWV RL idx RX11 y bb mL r2 n) (hn : As.length = n) (hst : st0 = As.reverse ++ .ref (V2.2.2 0) :: rest) (hr : (rest.map fun v => v.category).sum ≤ 8) (hls : ls.size = 7) (hf : cells ≤ 603072 ∧ slots ≤ 7194730) (dg : decode code pc = .ok (.invokevirtual idx, 3))
    (kk : ∀ (H1 : Heap) (locs1 : List Loc), LwS V V2 bo s wc x.1 o H1 locs1 → W p l e room_1 s m #[Value.ref b] below meth c H1 locs1 cells slots Q (F0 m (pc + 3) ls (.int x.2 :: rest))) : W p l e room_1 s m #[Value.ref b] below meth c H locs cells slots Q (F0 m pc ls st0) :=
  q_kI (A1 := AM V2) (A0 := fun q => s.heap.size ≤ q) (H0 := s.heap) (cw := cM V2) (V := V2) (rest := rest) (fun q h => K.2.2.2.2.2.2.2.2.2.2.1 q h) h.2.2.2 (q_run (q := 0) (As := As) (rest := rest) K.2.1 h.2.2.1 (K.2.2.2.2.2.1 wm) hM hw (heM_0 V2 wm) rfl hn hst hr hls ⟨Nat.le_of_ble_eq_true rfl, Nat.le_of_ble_eq_true rfl⟩ hf dg) (fun H1 locs1 hP _ _ hk hS => kk H1 locs1 (h.afterM K hP hk hS))
theorem lw_callCL {x : Wd × Int64} (K : LwC V V2 bo sa p s m b L xs meth c) (h : LwS V V2 bo s wc wm o H locs) (hM : MetL l V (cC V) (AC V) y bb mL r2 2000 (.ref (V.2.2 0) :: As) wc x) (hw : CWV RL idx RX10 y bb mL r2 n) (hn : As.length = n) (hst : st0 = As.reverse ++ .ref (V.2.2 0) :: rest) (hr : (rest.map fun v => v.category).sum ≤ 8) (hls : ls.size = 7) (hf : cells ≤ 603072 ∧ slots ≤ 7194730) (dg : decode code pc = .ok (.invokevirtual idx, 3))
    (kk : ∀ (H1 : Heap) (locs1 : List Loc), LwS V V2 bo s x.1 wm o H1 locs1 → W p l e room_1 s m #[Value.ref b] below meth c H1 locs1 cells slots Q (F0 m (pc + 3) ls (.long x.2 :: rest))) : W p l e room_1 s m #[Value.ref b] below meth c H locs cells slots Q (F0 m pc ls st0) :=
  q_kL (A1 := AC V) (A0 := fun q => s.heap.size ≤ q) (H0 := s.heap) (cw := cC V) (V := V) (rest := rest) (fun q h => K.2.2.2.2.2.2.2.2.2.1 q h) h.2.2.2 (q_run (q := 0) (As := As) (rest := rest) K.1 h.1 (K.2.2.2.2.1 wc) hM hw (heC_0 V wc) rfl hn hst hr hls ⟨Nat.le_of_ble_eq_true rfl, Nat.le_of_ble_eq_true rfl⟩ hf dg) (fun H1 locs1 hP _ _ hk hS => kk H1 locs1 (h.afterC K hP hk hS))
theorem lw_callML {x : Wd × Int64} (K : LwC V V2 bo sa p s m b L xs meth c) (h : LwS V V2 bo s wc wm o H locs) (hM : MetL l V2 (cM V2) (AM V2) y bb mL r2 2000 (.ref (V2.2.2 0) :: As) wm x) (hw : CWV RL idx RX11 y bb mL r2 n) (hn : As.length = n) (hst : st0 = As.reverse ++ .ref (V2.2.2 0) :: rest) (hr : (rest.map fun v => v.category).sum ≤ 8) (hls : ls.size = 7) (hf : cells ≤ 603072 ∧ slots ≤ 7194730) (dg : decode code pc = .ok (.invokevirtual idx, 3))
    (kk : ∀ (H1 : Heap) (locs1 : List Loc), LwS V V2 bo s wc x.1 o H1 locs1 → W p l e room_1 s m #[Value.ref b] below meth c H1 locs1 cells slots Q (F0 m (pc + 3) ls (.long x.2 :: rest))) : W p l e room_1 s m #[Value.ref b] below meth c H locs cells slots Q (F0 m pc ls st0) :=
  q_kL (A1 := AM V2) (A0 := fun q => s.heap.size ≤ q) (H0 := s.heap) (cw := cM V2) (V := V2) (rest := rest) (fun q h => K.2.2.2.2.2.2.2.2.2.2.1 q h) h.2.2.2 (q_run (q := 0) (As := As) (rest := rest) K.2.1 h.2.2.1 (K.2.2.2.2.2.1 wm) hM hw (heM_0 V2 wm) rfl hn hst hr hls ⟨Nat.le_of_ble_eq_true rfl, Nat.le_of_ble_eq_true rfl⟩ hf dg) (fun H1 locs1 hP _ _ hk hS => kk H1 locs1 (h.afterM K hP hk hS))
theorem lw_partC {x : Wd × Option Int32} {N : Nat} {a1 a2 : Int32} (K : LwC V V2 bo sa p s m b L xs meth c) (htr : l.stackTraces = false) (h : LwS V V2 bo s wc wm o H locs) (he : eX10_part N 2000 wc a1 a2 = some x) (hst : st0 = .ref bo :: .int a2 :: .int a1 :: .ref (V.2.2 0) :: rest) (hr : (rest.map fun v => v.category).sum ≤ 8) (hls : ls.size = 7) (hf : cells + 1 ≤ 603072 ∧ slots + 6 ≤ 7194730) (dg : decode code pc = .ok (.invokestatic 102, 3))
    (kk : ∀ (H1 : Heap) (locs1 : List Loc) (o1 : Nat → Int64) (k : Int32), ((∃ r, x.2 = some r ∧ k = 0 ∧ o1 = vp_updL o 0 r.toInt64) ∨ (x.2 = none ∧ k = 1 ∧ o1 = o)) → LwS V V2 bo s x.1 wm o1 H1 locs1 → W p l e room_1 s m #[Value.ref b] below meth c H1 locs1 (cells + 1) (slots + 6) Q (F0 m (pc + 3) ls (.int k :: rest))) : W p l e room_1 s m #[Value.ref b] below meth c H locs cells slots Q (F0 m pc ls st0) := by
  have X := K.1
  have h8 : ∀ q, A8 V bo H.size q → s.heap.size ≤ q := fun q hq => hq.elim (K.2.2.2.2.2.2.2.2.2.1 q) (fun hq => hq.elim (fun e => by rw [e]; exact K.2.2.2.2.2.2.2.2.2.2.2.1) (fun h9 => Nat.le_trans h.2.2.2.1 h9))
  have hZ : zU (fun q => s.heap.size ≤ q) s H := ⟨K.2.2.2.2.2.2.2.2.2.2.2.2.2.1.1.kept (fun a h1 h2 => h.2.2.2.2.1 a h1 h2), K.2.2.2.2.2.2.2.2.2.2.2.2.2.1.2.kept (fun a h1 h2 => h.2.2.2.2.1 a h1 h2)⟩
  have hP8 := h.1.app h.2.1
  refine va_calli (vx_runSW (As := [.ref (V.2.2 0), .int a1, .int a2, .ref bo]) (rest := rest) ⟨X.1, X.2.1, X.2.2.1, X.2.2.2.1, X.2.2.2.2.1⟩ (mL_part (sa := sa) htr K.2.2.2.2.1 bo H.size K.2.2.2.2.2.2.2.1 o he) (vx_cwSW 4 X.2.2.2.2.1 (gi_SW wM_811 wS_812 wI_0 wW_813) rfl rfl rfl (by decide +kernel) ⟨Nat.le_of_ble_eq_true rfl, Nat.le_of_ble_eq_true rfl⟩) ⟨fun a U g mk q => ⟨q.1, q.2.1, q.2.2.1, q.2.2.2.1.same rfl, q.2.2.2.2.1.same rfl, q.2.2.2.2.2.1.moved (Vm.Alike.refl _), q.2.2.2.2.2.2.moved (Vm.Alike.refl _)⟩, fun U hU hW => ⟨rfl, by rw [hU], by rw [hU]; exact hP8, X.2.2.2.2.2.2.2.warm hW, K.2.2.2.2.2.2.2.2.2.2.2.2.1.warm hW, by rw [hU]; exact (hZ.1.narrow h8).moved hW.alike, by rw [hU]; exact (hZ.2.narrow h8).moved hW.alike⟩⟩ rfl rfl hls hst (lv_room hr) dg hf) h.2.2.2 (fun q _ h => h8 q h) h8 (fun k u t H1 locs1 ht hvm hw hB hz hk hS => ?_)
  have hP1 : va_P V.1 clsAll (cC V x.1 ++ [ocell V bo u]) H1 := by rw [← ht]; exact hB
  refine kk H1 locs1 u k hw ⟨fun k q hk9 => hP1 k q (by rw [List.getElem?_append_left (List.getElem?_eq_some_iff.mp hk9).1]; exact hk9), fun k q hk9 => hP1 (63 + k) q (by
    have hz9 : k < 1 := (List.getElem?_eq_some_iff.mp hk9).1
    rw [show k = 0 by omega] at hk9 ⊢
    cases hk9
    rfl), h.2.2.1.past (A := A8 V bo H.size) (B := fun q => AM V2 q ∧ q < H.size) (fun k q hq => ⟨(K.2.2.2.2.2.1 wm).2 k q hq, (h.2.2.1 k q hq).lt⟩) (fun q h1 h2 => h2.elim (fun h2 => K.2.2.2.2.2.2.1 q h2 h1.1) (fun h2 => h2.elim (fun e => K.2.2.2.2.2.2.2.2.1 (e ▸ h1.1)) (fun h2 => absurd h1.2 (Nat.not_lt.mpr h2)))) hk, hS⟩
end LW
