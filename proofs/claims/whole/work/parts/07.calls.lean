section RC
variable {V : Ev} {cw : Wd → va_W} {A : Nat → Prop} {p : Program} {l : Launch} {e : Env} {s : State} {m : MethodId} {args : Array Value} {below : List Frame} {meth : Method} {c : Code} {H : Heap} {locs : List Loc} {d : Nat} {Q : State → Prop} {cc : ByteArray} {nL : Nat} {own : String} {rt : Option FieldType} {w : Wd} {Z : Type} {z : Z} {pc : Nat} {ls : Array Slot} {rest st0 : List Value}
variable {y : MethodName} {b : ByteArray} {mL n idx q ci nf : Nat} {C : String} {T : u_T} {fs As : List Value} {r2 : Option FieldType}
/-- what a call of a method of an object needs of the tables -/
def CWV (own : String) (idx : Nat) (C : String) (y : MethodName) (b : ByteArray) (mL : Nat) (r2 : Option FieldType) (n : Nat) : Prop :=
  Cond.methodLink own idx y ∈ gG ∧ Cond.instanceMethod y ∈ gG ∧ Cond.selects C y y ∈ gG ∧ Cond.initialized C ∈ gG ∧ Cond.code y b mL r2 ∈ gG ∧ (y.cls = C ∧ y.cls ≠ "java/lang/invoke/MethodHandle" ∧ y.cls ≠ "java/lang/invoke/VarHandle" ∧ (parseMethodDescriptor y.desc).map (fun d => d.parameters.length) = some n) ∧ mL ≤ 27
def CWS (own : String) (idx : Nat) (y : MethodName) (b : ByteArray) (mL : Nat) (r2 : Option FieldType) (n : Nat) : Prop :=
  Cond.methodLink own idx y ∈ gG ∧ Cond.static y ∈ gG ∧ Cond.initialized y.cls ∈ gG ∧ Cond.code y b mL r2 ∈ gG ∧ (y.cls ≠ "java/lang/invoke/MethodHandle" ∧ y.cls ≠ "java/lang/invoke/VarHandle" ∧ (parseMethodDescriptor y.desc).map (fun d => d.parameters.length) = some n) ∧ mL ≤ 27
theorem rm_fit {mL d : Nat} (h : mL ≤ 27) : (rmD d).frames + 1 ≤ (rmD (d + 1)).frames ∧ 8 + (mL + 11) + (rmD d).locals ≤ (rmD (d + 1)).locals := ⟨Nat.le_refl _, by show 8 + (mL + 11) + 46 * d ≤ 46 * (d + 1); omega⟩
theorem r_run {Qc : Array Value → State → Outcome → State → Prop} (X : CX V p s m args meth c cc nL own rt) (hH : wH V cw A s w H locs) (hM : Met l y (.code y b mL r2 :: gG) (rmD d) (Ctr V cw A (.ref (V.2.2 q) :: As) w) Qc 0 0 A) (hw : CWV own idx C y b mL r2 n) (he : (cw w)[q]? = some (V.2.2 q, .inr (ci, fs))) (hc : clsAll[ci]? = some (C, T, nf)) (hn : As.length = n) (hst : st0 = As.reverse ++ .ref (V.2.2 q) :: rest) (hr : (rest.map fun v => v.category).sum ≤ 8) (hls : ls.size = nL) (dg : decode cc pc = .ok (.invokevirtual idx, 3)) :
    va_Run p l e (rmD (d + 1)) s m args below meth c H locs 0 0 0 0 (F0 m pc ls st0) rest (Qc (Value.ref (V.2.2 q) :: As).toArray) A := by
  obtain ⟨h1, h2, h3, h4, h5, h6, h7⟩ := hw
  exact va_runV (As := As) (rest := rest) ⟨X.1, X.2.1, X.2.2.1, X.2.2.2.1, X.2.2.2.2.1⟩ hM (cwV n X.2.2.2.2.1 (gi_V h1 h2 h3 h4 h5) rfl rfl rfl h6 (rm_fit h7)) ⟨Ctr.blind, va_recv X.2.2.2.2.2.2.2.1 hH.1 hc he, fun U hU hW => ⟨rfl, by rw [hU]; exact hH.1, hH.2.1, X.2.2.2.2.2.2.2.warm hW⟩⟩ rfl hn hls hst (lv_room hr) dg ⟨Nat.le_refl _, Nat.le_refl _⟩
theorem r_runS {Qc : Array Value → State → Outcome → State → Prop} (X : CX V p s m args meth c cc nL own rt) (hH : wH V cw A s w H locs) (hM : Met l y (.code y b mL r2 :: gG) (rmD d) (Ctr V cw A As w) Qc 0 0 A) (hw : CWS own idx y b mL r2 n) (hn : As.length = n) (hst : st0 = As.reverse ++ rest) (hr : (rest.map fun v => v.category).sum ≤ 8) (hls : ls.size = nL) (dg : decode cc pc = .ok (.invokestatic idx, 3)) :
    va_Run p l e (rmD (d + 1)) s m args below meth c H locs 0 0 0 0 (F0 m pc ls st0) rest (Qc As.toArray) A := by
  obtain ⟨h1, h2, h4, h5, h6, h7⟩ := hw
  exact va_runS (As := As) (rest := rest) ⟨X.1, X.2.1, X.2.2.1, X.2.2.2.1, X.2.2.2.2.1⟩ hM (va_cwS n X.2.2.2.2.1 (gi_S h1 h2 h4 h5) rfl rfl rfl h6 (rm_fit h7)) ⟨Ctr.blind, fun U hU hW => ⟨rfl, by rw [hU]; exact hH.1, hH.2.1, X.2.2.2.2.2.2.2.warm hW⟩⟩ rfl hn hls hst (lv_room hr) dg ⟨Nat.le_refl _, Nat.le_refl _⟩
theorem r_runN {host : String} {Qc : Array Value → State → Outcome → State → Prop} (X : CX V p s m args meth c cc nL own rt) (hH : wH V cw A s w H locs) (hM : Met l y (.code y b mL r2 :: gG) (rmD d) (Ctr V cw A As w) Qc 0 0 A) (hnw : va_Nw (.methodLinkNest own idx y host) s) (h2 : Cond.static y ∈ gG) (h4 : Cond.initialized y.cls ∈ gG) (h5 : Cond.code y b mL r2 ∈ gG) (h6 : y.cls ≠ "java/lang/invoke/MethodHandle" ∧ y.cls ≠ "java/lang/invoke/VarHandle" ∧ (parseMethodDescriptor y.desc).map (fun d => d.parameters.length) = some n) (h7 : mL ≤ 27) (hn : As.length = n) (hst : st0 = As.reverse ++ rest) (hr : (rest.map fun v => v.category).sum ≤ 8) (hls : ls.size = nL) (dg : decode cc pc = .ok (.invokestatic idx, 3)) :
    va_Run p l e (rmD (d + 1)) s m args below meth c H locs 0 0 0 0 (F0 m pc ls st0) rest (Qc As.toArray) A :=
  va_runSN (As := As) (rest := rest) ⟨X.1, X.2.1, X.2.2.1, X.2.2.2.1, X.2.2.2.2.1⟩ hM ⟨va_cnB n X.2.2.2.2.1 (gi_code h5) rfl rfl rfl hnw (X.2.2.2.2.1 _ h4) h6 (rm_fit h7), X.2.2.2.2.1 _ h2, trivial⟩ ⟨Ctr.blind, fun U hU hW => ⟨rfl, by rw [hU]; exact hH.1, hH.2.1, X.2.2.2.2.2.2.2.warm hW⟩⟩ rfl hn hls hst (lv_room hr) dg ⟨Nat.le_refl _, Nat.le_refl _⟩
theorem r_kI {a : Array Value} {x : Wd × Int32} {K : Wd → Int32 → Option Z} (hH : wH V cw A s w H locs) (hr : va_Run p l e (rmD (d + 1)) s m args below meth c H locs 0 0 0 0 (F0 m pc ls st0) rest (CtI V cw A x a) A) (h : K x.1 x.2 = some z)
    (kk : ∀ (w1 : Wd) (r : Int32) (H1 : Heap) (locs1 : List Loc), K w1 r = some z → wH V cw A s w1 H1 locs1 → W p l e (rmD (d + 1)) s m args below meth c H1 locs1 0 0 Q (F0 m (pc + 3) ls (.int r :: rest))) : W p l e (rmD (d + 1)) s m args below meth c H locs 0 0 Q (F0 m pc ls st0) := by
  refine va_calli hr hH.2.2 (fun q _ h => h) (fun q h => h) (fun r u t H1 locs1 ht hvm hw hB hz hk hS => ?_)
  obtain ⟨rfl, rfl⟩ := hw
  exact kk _ _ H1 locs1 h ⟨ht ▸ hB.1, hB.2, hS⟩
theorem r_kL {a : Array Value} {x : Wd × Int64} {K : Wd → Int64 → Option Z} (hH : wH V cw A s w H locs) (hr : va_Run p l e (rmD (d + 1)) s m args below meth c H locs 0 0 0 0 (F0 m pc ls st0) rest (CtL V cw A x a) A) (h : K x.1 x.2 = some z)
    (kk : ∀ (w1 : Wd) (r : Int64) (H1 : Heap) (locs1 : List Loc), K w1 r = some z → wH V cw A s w1 H1 locs1 → W p l e (rmD (d + 1)) s m args below meth c H1 locs1 0 0 Q (F0 m (pc + 3) ls (.long r :: rest))) : W p l e (rmD (d + 1)) s m args below meth c H locs 0 0 Q (F0 m pc ls st0) := by
  refine va_calll hr hH.2.2 (fun q _ h => h) (fun q h => h) (fun r u t H1 locs1 ht hvm hw hB hz hk hS => ?_)
  obtain ⟨rfl, rfl⟩ := hw
  exact kk _ _ H1 locs1 h ⟨ht ▸ hB.1, hB.2, hS⟩
theorem r_kV {a : Array Value} {x : Wd} {K : Wd → Option Z} (hH : wH V cw A s w H locs) (hr : va_Run p l e (rmD (d + 1)) s m args below meth c H locs 0 0 0 0 (F0 m pc ls st0) rest (CtV V cw A x a) A) (h : K x = some z)
    (kk : ∀ (w1 : Wd) (H1 : Heap) (locs1 : List Loc), K w1 = some z → wH V cw A s w1 H1 locs1 → W p l e (rmD (d + 1)) s m args below meth c H1 locs1 0 0 Q (F0 m (pc + 3) ls rest)) : W p l e (rmD (d + 1)) s m args below meth c H locs 0 0 Q (F0 m pc ls st0) := by
  refine va_callv hr hH.2.2 (fun q _ h => h) (fun q h => h) (fun u t H1 locs1 ht hvm hw hB hz hk hS => ?_)
  subst hw
  exact kk _ H1 locs1 h ⟨ht ▸ hB.1, hB.2, hS⟩
theorem c_cl_ex {α : Type} {f : Option (Wd × α)} {K : Wd → α → Option Z} (h : c_cl f K = some z) : ∃ x, f = some x ∧ K x.1 x.2 = some z := by
  cases f with
  | none => cases h
  | some x => exact ⟨x, rfl, h⟩
theorem c_cv_ex {f : Option Wd} {K : Wd → Option Z} (h : c_cv f K = some z) : ∃ x, f = some x ∧ K x = some z := by
  cases f with
  | none => cases h
  | some x => exact ⟨x, rfl, h⟩
/-- calls, step by step with the program: of an object's method (v), of a class's (s), of a nest mate's (n); int, long, void -/
theorem r_cvI {f : Option (Wd × Int32)} {K : Wd → Int32 → Option Z} (X : CX V p s m args meth c cc nL own rt) (hH : wH V cw A s w H locs) (hM : ∀ x, f = some x → MetI l V cw A y b mL r2 d (.ref (V.2.2 q) :: As) w x) (hw : CWV own idx C y b mL r2 n) (he : (cw w)[q]? = some (V.2.2 q, .inr (ci, fs))) (hc : clsAll[ci]? = some (C, T, nf)) (hn : As.length = n) (hst : st0 = As.reverse ++ .ref (V.2.2 q) :: rest) (hr : (rest.map fun v => v.category).sum ≤ 8) (hls : ls.size = nL) (h : c_cl f K = some z) (dg : decode cc pc = .ok (.invokevirtual idx, 3))
    (kk : ∀ (w1 : Wd) (r : Int32) (H1 : Heap) (locs1 : List Loc), K w1 r = some z → wH V cw A s w1 H1 locs1 → W p l e (rmD (d + 1)) s m args below meth c H1 locs1 0 0 Q (F0 m (pc + 3) ls (.int r :: rest))) : W p l e (rmD (d + 1)) s m args below meth c H locs 0 0 Q (F0 m pc ls st0) := by
  obtain ⟨x, hf, h⟩ := c_cl_ex h
  exact r_kI hH (r_run X hH (hM x hf) hw he hc hn hst hr hls dg) h kk
theorem r_cvL {f : Option (Wd × Int64)} {K : Wd → Int64 → Option Z} (X : CX V p s m args meth c cc nL own rt) (hH : wH V cw A s w H locs) (hM : ∀ x, f = some x → MetL l V cw A y b mL r2 d (.ref (V.2.2 q) :: As) w x) (hw : CWV own idx C y b mL r2 n) (he : (cw w)[q]? = some (V.2.2 q, .inr (ci, fs))) (hc : clsAll[ci]? = some (C, T, nf)) (hn : As.length = n) (hst : st0 = As.reverse ++ .ref (V.2.2 q) :: rest) (hr : (rest.map fun v => v.category).sum ≤ 8) (hls : ls.size = nL) (h : c_cl f K = some z) (dg : decode cc pc = .ok (.invokevirtual idx, 3))
    (kk : ∀ (w1 : Wd) (r : Int64) (H1 : Heap) (locs1 : List Loc), K w1 r = some z → wH V cw A s w1 H1 locs1 → W p l e (rmD (d + 1)) s m args below meth c H1 locs1 0 0 Q (F0 m (pc + 3) ls (.long r :: rest))) : W p l e (rmD (d + 1)) s m args below meth c H locs 0 0 Q (F0 m pc ls st0) := by
  obtain ⟨x, hf, h⟩ := c_cl_ex h
  exact r_kL hH (r_run X hH (hM x hf) hw he hc hn hst hr hls dg) h kk
theorem r_cvV {f : Option Wd} {K : Wd → Option Z} (X : CX V p s m args meth c cc nL own rt) (hH : wH V cw A s w H locs) (hM : ∀ x, f = some x → MetV l V cw A y b mL r2 d (.ref (V.2.2 q) :: As) w x) (hw : CWV own idx C y b mL r2 n) (he : (cw w)[q]? = some (V.2.2 q, .inr (ci, fs))) (hc : clsAll[ci]? = some (C, T, nf)) (hn : As.length = n) (hst : st0 = As.reverse ++ .ref (V.2.2 q) :: rest) (hr : (rest.map fun v => v.category).sum ≤ 8) (hls : ls.size = nL) (h : c_cv f K = some z) (dg : decode cc pc = .ok (.invokevirtual idx, 3))
    (kk : ∀ (w1 : Wd) (H1 : Heap) (locs1 : List Loc), K w1 = some z → wH V cw A s w1 H1 locs1 → W p l e (rmD (d + 1)) s m args below meth c H1 locs1 0 0 Q (F0 m (pc + 3) ls rest)) : W p l e (rmD (d + 1)) s m args below meth c H locs 0 0 Q (F0 m pc ls st0) := by
  obtain ⟨x, hf, h⟩ := c_cv_ex h
  exact r_kV hH (r_run X hH (hM x hf) hw he hc hn hst hr hls dg) h kk
theorem r_csI {f : Option (Wd × Int32)} {K : Wd → Int32 → Option Z} (X : CX V p s m args meth c cc nL own rt) (hH : wH V cw A s w H locs) (hM : ∀ x, f = some x → MetI l V cw A y b mL r2 d As w x) (hw : CWS own idx y b mL r2 n) (hn : As.length = n) (hst : st0 = As.reverse ++ rest) (hr : (rest.map fun v => v.category).sum ≤ 8) (hls : ls.size = nL) (h : c_cl f K = some z) (dg : decode cc pc = .ok (.invokestatic idx, 3))
    (kk : ∀ (w1 : Wd) (r : Int32) (H1 : Heap) (locs1 : List Loc), K w1 r = some z → wH V cw A s w1 H1 locs1 → W p l e (rmD (d + 1)) s m args below meth c H1 locs1 0 0 Q (F0 m (pc + 3) ls (.int r :: rest))) : W p l e (rmD (d + 1)) s m args below meth c H locs 0 0 Q (F0 m pc ls st0) := by
  obtain ⟨x, hf, h⟩ := c_cl_ex h
  exact r_kI hH (r_runS X hH (hM x hf) hw hn hst hr hls dg) h kk
theorem r_csL {f : Option (Wd × Int64)} {K : Wd → Int64 → Option Z} (X : CX V p s m args meth c cc nL own rt) (hH : wH V cw A s w H locs) (hM : ∀ x, f = some x → MetL l V cw A y b mL r2 d As w x) (hw : CWS own idx y b mL r2 n) (hn : As.length = n) (hst : st0 = As.reverse ++ rest) (hr : (rest.map fun v => v.category).sum ≤ 8) (hls : ls.size = nL) (h : c_cl f K = some z) (dg : decode cc pc = .ok (.invokestatic idx, 3))
    (kk : ∀ (w1 : Wd) (r : Int64) (H1 : Heap) (locs1 : List Loc), K w1 r = some z → wH V cw A s w1 H1 locs1 → W p l e (rmD (d + 1)) s m args below meth c H1 locs1 0 0 Q (F0 m (pc + 3) ls (.long r :: rest))) : W p l e (rmD (d + 1)) s m args below meth c H locs 0 0 Q (F0 m pc ls st0) := by
  obtain ⟨x, hf, h⟩ := c_cl_ex h
  exact r_kL hH (r_runS X hH (hM x hf) hw hn hst hr hls dg) h kk
theorem r_csV {f : Option Wd} {K : Wd → Option Z} (X : CX V p s m args meth c cc nL own rt) (hH : wH V cw A s w H locs) (hM : ∀ x, f = some x → MetV l V cw A y b mL r2 d As w x) (hw : CWS own idx y b mL r2 n) (hn : As.length = n) (hst : st0 = As.reverse ++ rest) (hr : (rest.map fun v => v.category).sum ≤ 8) (hls : ls.size = nL) (h : c_cv f K = some z) (dg : decode cc pc = .ok (.invokestatic idx, 3))
    (kk : ∀ (w1 : Wd) (H1 : Heap) (locs1 : List Loc), K w1 = some z → wH V cw A s w1 H1 locs1 → W p l e (rmD (d + 1)) s m args below meth c H1 locs1 0 0 Q (F0 m (pc + 3) ls rest)) : W p l e (rmD (d + 1)) s m args below meth c H locs 0 0 Q (F0 m pc ls st0) := by
  obtain ⟨x, hf, h⟩ := c_cv_ex h
  exact r_kV hH (r_runS X hH (hM x hf) hw hn hst hr hls dg) h kk
theorem r_cnL {host : String} {f : Option (Wd × Int64)} {K : Wd → Int64 → Option Z} (X : CX V p s m args meth c cc nL own rt) (hH : wH V cw A s w H locs) (hM : ∀ x, f = some x → MetL l V cw A y b mL r2 d As w x) (hnw : va_Nw (.methodLinkNest own idx y host) s) (h2 : Cond.static y ∈ gG) (h4 : Cond.initialized y.cls ∈ gG) (h5 : Cond.code y b mL r2 ∈ gG) (h6 : y.cls ≠ "java/lang/invoke/MethodHandle" ∧ y.cls ≠ "java/lang/invoke/VarHandle" ∧ (parseMethodDescriptor y.desc).map (fun d => d.parameters.length) = some n) (h7 : mL ≤ 27) (hn : As.length = n) (hst : st0 = As.reverse ++ rest) (hr : (rest.map fun v => v.category).sum ≤ 8) (hls : ls.size = nL) (h : c_cl f K = some z) (dg : decode cc pc = .ok (.invokestatic idx, 3))
    (kk : ∀ (w1 : Wd) (r : Int64) (H1 : Heap) (locs1 : List Loc), K w1 r = some z → wH V cw A s w1 H1 locs1 → W p l e (rmD (d + 1)) s m args below meth c H1 locs1 0 0 Q (F0 m (pc + 3) ls (.long r :: rest))) : W p l e (rmD (d + 1)) s m args below meth c H locs 0 0 Q (F0 m pc ls st0) := by
  obtain ⟨x, hf, h⟩ := c_cl_ex h
  exact r_kL hH (r_runN X hH (hM x hf) hnw h2 h4 h5 h6 h7 hn hst hr hls dg) h kk
/-- rows copied from one to another (from 0 to 0) -/
theorem r_cpi {k0 k1 j0 j1 n0 n1 : Nat} {n2 : Int32} {K : Wd → Option Z} (X : CX V p s m args meth c cc nL own rt) (hls : ls.size = nL) (h0 : (cw w)[k0]? = some (V.2.2 k0, .inl (V.2.1 0, n0, .inl (aI w j0)))) (h1 : (cw w)[k1]? = some (V.2.2 k1, .inl (V.2.1 0, n1, .inl (aI w j1)))) (hs : ∀ f : Nat → Int32, (cw w).set k1 (V.2.2 k1, .inl (V.2.1 0, n1, .inl f)) = cw (pA w j1 f)) (hH : wH V cw A s w H locs) (wl : Cond.methodLink own idx arraycopyName ∈ gG) (wn : Cond.native arraycopyName ∈ gG) (ws : Cond.static arraycopyName ∈ gG) (wi : Cond.initialized "java/lang/System" ∈ gG) (hrm : (rest.map fun v => v.category).sum + (nativeFrameWords "java/lang/System" "arraycopy" 5 + 11) ≤ 46) (h : c_cp w j0 j1 n0 n1 n2 K = some z) (dg : decode cc pc = .ok (.invokestatic idx, 3))
    (kk : ∀ (w1 : Wd) (H1 : Heap) (locs1 : List Loc), K w1 = some z → wH V cw A s w1 H1 locs1 → W p l e (rmD (d + 1)) s m args below meth c H1 locs1 0 0 Q (F0 m (pc + 3) ls rest)) : W p l e (rmD (d + 1)) s m args below meth c H locs 0 0 Q (F0 m pc ls (.int n2 :: .int 0 :: .ref (V.2.2 k1) :: .int 0 :: .ref (V.2.2 k0) :: rest)) := by
  unfold c_cp at h
  split at h
  · cases h
  · rename_i hin
    have g1 : ¬ n2 < 0 := fun q => hin (Or.inl q)
    have g2 : n2.toNatClampNeg ≤ n0 := Nat.not_lt.mp fun q => hin (Or.inr (Or.inl q))
    have g3 : n2.toNatClampNeg ≤ n1 := Nat.not_lt.mp fun q => hin (Or.inr (Or.inr q))
    exact va_copyi X.1 X.2.1 (by rw [X.2.2.1, hls]) X.2.2.2.1 (X.2.2.2.2.1 _ wl) (X.2.2.2.2.1 _ wn) (X.2.2.2.2.1 _ ws) (X.2.2.2.2.1 _ wi) X.2.2.2.2.2.2.2.1 hH.1 hH.2.1 hH.2.2 k0 k1 0 0 h0 h1 rfl rfl rfl (by decide) (by decide) g1 (by rw [show (0 : Int32).toNatClampNeg = 0 from rfl, Nat.zero_add]; exact g2) (by rw [show (0 : Int32).toNatClampNeg = 0 from rfl, Nat.zero_add]; exact g3) (fun _ _ => rfl) (by show 1 ≤ d + 1; omega) (by show _ ≤ 46 * (d + 1); omega) dg (fun H1 locs1 hP hD hS => kk _ H1 locs1 h ⟨hs _ ▸ hP, hs _ ▸ hD, hS⟩)
theorem r_cpl {k0 k1 j0 j1 n0 n1 : Nat} {n2 : Int32} {K : Wd → Option Z} (X : CX V p s m args meth c cc nL own rt) (hls : ls.size = nL) (h0 : (cw w)[k0]? = some (V.2.2 k0, .inl (V.2.1 1, n0, .inr (.inl (aL w j0))))) (h1 : (cw w)[k1]? = some (V.2.2 k1, .inl (V.2.1 1, n1, .inr (.inl (aL w j1))))) (hs : ∀ f : Nat → Int64, (cw w).set k1 (V.2.2 k1, .inl (V.2.1 1, n1, .inr (.inl f))) = cw (pB w j1 f)) (hH : wH V cw A s w H locs) (wl : Cond.methodLink own idx arraycopyName ∈ gG) (wn : Cond.native arraycopyName ∈ gG) (ws : Cond.static arraycopyName ∈ gG) (wi : Cond.initialized "java/lang/System" ∈ gG) (hrm : (rest.map fun v => v.category).sum + (nativeFrameWords "java/lang/System" "arraycopy" 5 + 11) ≤ 46) (h : c_cq w j0 j1 n0 n1 n2 K = some z) (dg : decode cc pc = .ok (.invokestatic idx, 3))
    (kk : ∀ (w1 : Wd) (H1 : Heap) (locs1 : List Loc), K w1 = some z → wH V cw A s w1 H1 locs1 → W p l e (rmD (d + 1)) s m args below meth c H1 locs1 0 0 Q (F0 m (pc + 3) ls rest)) : W p l e (rmD (d + 1)) s m args below meth c H locs 0 0 Q (F0 m pc ls (.int n2 :: .int 0 :: .ref (V.2.2 k1) :: .int 0 :: .ref (V.2.2 k0) :: rest)) := by
  unfold c_cq at h
  split at h
  · cases h
  · rename_i hin
    have g1 : ¬ n2 < 0 := fun q => hin (Or.inl q)
    have g2 : n2.toNatClampNeg ≤ n0 := Nat.not_lt.mp fun q => hin (Or.inr (Or.inl q))
    have g3 : n2.toNatClampNeg ≤ n1 := Nat.not_lt.mp fun q => hin (Or.inr (Or.inr q))
    exact va_copyl X.1 X.2.1 (by rw [X.2.2.1, hls]) X.2.2.2.1 (X.2.2.2.2.1 _ wl) (X.2.2.2.2.1 _ wn) (X.2.2.2.2.1 _ ws) (X.2.2.2.2.1 _ wi) X.2.2.2.2.2.2.2.1 hH.1 hH.2.1 hH.2.2 k0 k1 1 1 h0 h1 rfl rfl rfl (by decide) (by decide) g1 (by rw [show (0 : Int32).toNatClampNeg = 0 from rfl, Nat.zero_add]; exact g2) (by rw [show (0 : Int32).toNatClampNeg = 0 from rfl, Nat.zero_add]; exact g3) (fun _ _ => rfl) (by show 1 ≤ d + 1; omega) (by show _ ≤ 46 * (d + 1); omega) dg (fun H1 locs1 hP hD hS => kk _ H1 locs1 h ⟨hs _ ▸ hP, hs _ ▸ hD, hS⟩)
end RC
