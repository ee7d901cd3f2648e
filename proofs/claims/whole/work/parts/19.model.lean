theorem dX11_thrown_0 : decode cX11_thrown 0 = .ok (.aload_n 0, 1) := by decide +kernel
theorem dX11_thrown_1 : decode cX11_thrown 1 = .ok (.getfield 111, 3) := by decide +kernel
theorem dX11_thrown_4 : decode cX11_thrown 4 = .ok (.ireturn, 1) := by decide +kernel
def bX11_thrown_0 (N d : Nat)   (w : Wd)  : Option (Wd × Int32) :=
  some (w, sI w 0)
set_option maxHeartbeats 4000000 in
theorem kX11_thrown_0 {V : Ev} {p : Program} {l : Launch} {e : Env} {N d : Nat} {s : State} {m : MethodId} {args : Array Value} {below : List Frame} {meth : Method} {c : Code} {z : Wd × Int32} (X : CX V p s m args meth c cX11_thrown 1 RX11 (some .int))    {w : Wd}  {H : Heap} {locs : List Loc} {ls : Array Slot} (h : bX11_thrown_0 N d   w  = some z) (hH : wH V (cM V) (AM V) s w H locs) (hl : lv_has ls 1 [(0, .ref (V.2.2 0))]) : W p l e (rmD (d + 1)) s m args below meth c H locs 0 0 (MQ below (CtI V (cM V) (AM V) z) args s 0 0 (AM V)) (F0 m 0 ls []) := by
  unfold bX11_thrown_0 at h
  obtain ⟨hx, hb, hml, hown, hg, hrt, hlk, hK⟩ := id X
  refine lv_aload_n (pc := 0) hx hb dX11_thrown_0 rfl (lv_at hl 0 rfl) ?_
  refine gM_X11_111_0 (pc := 1) X hH dX11_thrown_1 ?_
  exact r_iret (pc := 4) X hH h dX11_thrown_4
def eX11_thrown (N : Nat) : Nat → Wd → Option (Wd × Int32)
  | 0 => fun _  => none
  | d + 1 => fun w  => bX11_thrown_0 N d  w 
set_option maxHeartbeats 4000000 in
set_option maxRecDepth 20000 in
theorem mX11_thrown {l : Launch} {V : Ev} {N d : Nat} {w : Wd}  {z : Wd × Int32} (h : eX11_thrown N d w  = some z) : MetI l V (cM V) (AM V) yX11_thrown cX11_thrown 1 (some .int) d [.ref (V.2.2 0)] w z := by
  cases d with
  | zero => exact c_none h
  | succ d =>
    refine Met.ofW (cc := cX11_thrown) (maxL := 1) (ret := (some .int)) (by decide) rfl ?_
    intro p e s m args below meth c s₁ B hml hv
    obtain ⟨rfl, hP, hD, hK⟩ := hv
    have hts := atoms_spec (ws := .code yX11_thrown cX11_thrown 1 (some .int) :: gG) B.pre
    have X : CX V p s m ([.ref (V.2.2 0)] : List Value).toArray meth c cX11_thrown 1 RX11 (some .int) := ⟨B.exec, B.bytes, hml, findClass_of_methodNamed B.named, fun w hw => hts w (List.mem_cons_of_mem _ hw), B.returns, B.notSynchronized, hK⟩
    have hl := lv_entry ([.ref (V.2.2 0)] : List Value) (n := 1) (Nat.le_of_ble_eq_true rfl)
    rw [lg_entry_eq]
    generalize (lg_sl ([.ref (V.2.2 0)] : List Value) ++ List.replicate (1 - (lg_sl ([.ref (V.2.2 0)] : List Value)).length) Slot.unset).toArray = ls at hl ⊢
    have hl : lv_has ls 1 [(0, .ref (V.2.2 0))] := hl
    exact kX11_thrown_0 (N := N) X  h ⟨hP, hD, va_S.rf⟩ hl
theorem dX11_isVariable_0 : decode cX11_isVariable 0 = .ok (.aload_n 0, 1) := by decide +kernel
theorem dX11_isVariable_1 : decode cX11_isVariable 1 = .ok (.getfield 16, 3) := by decide +kernel
theorem dX11_isVariable_4 : decode cX11_isVariable 4 = .ok (.iload_n 1, 1) := by decide +kernel
theorem dX11_isVariable_5 : decode cX11_isVariable 5 = .ok (.iaload, 1) := by decide +kernel
theorem dX11_isVariable_6 : decode cX11_isVariable 6 = .ok (.ifCond .ge 7, 3) := by decide +kernel
theorem dX11_isVariable_9 : decode cX11_isVariable 9 = .ok (.iconst 1, 1) := by decide +kernel
theorem dX11_isVariable_10 : decode cX11_isVariable 10 = .ok (.goto 4, 3) := by decide +kernel
theorem dX11_isVariable_13 : decode cX11_isVariable 13 = .ok (.iconst 0, 1) := by decide +kernel
theorem dX11_isVariable_14 : decode cX11_isVariable 14 = .ok (.ireturn, 1) := by decide +kernel
def bX11_isVariable_14 (N d : Nat)   (w : Wd) (y0 : Int32) : Option (Wd × Int32) :=
  c_bo y0 (some (w, y0))
set_option maxHeartbeats 4000000 in
theorem kX11_isVariable_14 {V : Ev} {p : Program} {l : Launch} {e : Env} {N d : Nat} {s : State} {m : MethodId} {args : Array Value} {below : List Frame} {meth : Method} {c : Code} {z : Wd × Int32} (X : CX V p s m args meth c cX11_isVariable 2 RX11 (some .boolean))    {w : Wd} {y0 : Int32} {H : Heap} {locs : List Loc} {ls : Array Slot} (h : bX11_isVariable_14 N d   w y0 = some z) (hH : wH V (cM V) (AM V) s w H locs) (hl : lv_has ls 2 []) : W p l e (rmD (d + 1)) s m args below meth c H locs 0 0 (MQ below (CtI V (cM V) (AM V) z) args s 0 0 (AM V)) (F0 m 14 ls [.int y0]) := by
  unfold bX11_isVariable_14 at h
  obtain ⟨hx, hb, hml, hown, hg, hrt, hlk, hK⟩ := id X
  exact r_zret (pc := 14) X hH h dX11_isVariable_14
def bX11_isVariable_0 (N d : Nat)   (w : Wd) (x1 : Int32) : Option (Wd × Int32) :=
  c_ld w 3 1000 x1 fun v1 =>
  if 0 ≤ v1 then (
    bX11_isVariable_14 N d   w 0
  ) else (
    bX11_isVariable_14 N d   w 1
  )
set_option maxHeartbeats 4000000 in
theorem kX11_isVariable_0 {V : Ev} {p : Program} {l : Launch} {e : Env} {N d : Nat} {s : State} {m : MethodId} {args : Array Value} {below : List Frame} {meth : Method} {c : Code} {z : Wd × Int32} (X : CX V p s m args meth c cX11_isVariable 2 RX11 (some .boolean))    {w : Wd} {x1 : Int32} {H : Heap} {locs : List Loc} {ls : Array Slot} (h : bX11_isVariable_0 N d   w x1 = some z) (hH : wH V (cM V) (AM V) s w H locs) (hl : lv_has ls 2 [(0, .ref (V.2.2 0)), (1, .int x1)]) : W p l e (rmD (d + 1)) s m args below meth c H locs 0 0 (MQ below (CtI V (cM V) (AM V) z) args s 0 0 (AM V)) (F0 m 0 ls []) := by
  unfold bX11_isVariable_0 at h
  obtain ⟨hx, hb, hml, hown, hg, hrt, hlk, hK⟩ := id X
  refine lv_aload_n (pc := 0) hx hb dX11_isVariable_0 rfl (lv_at hl 0 rfl) ?_
  refine gM_X11_16_0 (pc := 1) X hH dX11_isVariable_1 ?_
  refine lv_iload_n (pc := 4) hx hb dX11_isVariable_4 rfl (lv_at hl 1 rfl) ?_
  refine r_ld (pc := 5) X (heM_3 V w) hH h dX11_isVariable_5 (fun v1 h => ?_)
  refine b_if_ge (pc := 6) (tgt := 13) hx hb h dX11_isVariable_6 (by decide) (fun h => ?_) (fun h => ?_)
  · refine lv_iconst (pc := 13) (v := 0) hx hb dX11_isVariable_13 (by decide) ?_
    exact kX11_isVariable_14 X   h hH (lv_sub hl [] rfl)
  · refine lv_iconst (pc := 9) (v := 1) hx hb dX11_isVariable_9 (by decide) ?_
    refine lv_goto (pc := 10) (tgt := 14) hx hb dX11_isVariable_10 (by decide) ?_
    exact kX11_isVariable_14 X   h hH (lv_sub hl [] rfl)
def eX11_isVariable (N : Nat) : Nat → Wd → Int32 → Option (Wd × Int32)
  | 0 => fun _ _ => none
  | d + 1 => fun w x1 => bX11_isVariable_0 N d  w x1
set_option maxHeartbeats 4000000 in
set_option maxRecDepth 20000 in
theorem mX11_isVariable {l : Launch} {V : Ev} {N d : Nat} {w : Wd} {x1 : Int32} {z : Wd × Int32} (h : eX11_isVariable N d w x1 = some z) : MetI l V (cM V) (AM V) yX11_isVariable cX11_isVariable 2 (some .boolean) d [.ref (V.2.2 0), .int x1] w z := by
  cases d with
  | zero => exact c_none h
  | succ d =>
    refine Met.ofW (cc := cX11_isVariable) (maxL := 2) (ret := (some .boolean)) (by decide) rfl ?_
    intro p e s m args below meth c s₁ B hml hv
    obtain ⟨rfl, hP, hD, hK⟩ := hv
    have hts := atoms_spec (ws := .code yX11_isVariable cX11_isVariable 2 (some .boolean) :: gG) B.pre
    have X : CX V p s m ([.ref (V.2.2 0), .int x1] : List Value).toArray meth c cX11_isVariable 2 RX11 (some .boolean) := ⟨B.exec, B.bytes, hml, findClass_of_methodNamed B.named, fun w hw => hts w (List.mem_cons_of_mem _ hw), B.returns, B.notSynchronized, hK⟩
    have hl := lv_entry ([.ref (V.2.2 0), .int x1] : List Value) (n := 2) (Nat.le_of_ble_eq_true rfl)
    rw [lg_entry_eq]
    generalize (lg_sl ([.ref (V.2.2 0), .int x1] : List Value) ++ List.replicate (2 - (lg_sl ([.ref (V.2.2 0), .int x1] : List Value)).length) Slot.unset).toArray = ls at hl ⊢
    have hl : lv_has ls 2 [(0, .ref (V.2.2 0)), (1, .int x1)] := hl
    exact kX11_isVariable_0 (N := N) X  h ⟨hP, hD, va_S.rf⟩ hl
theorem dX11_variableOf_0 : decode cX11_variableOf 0 = .ok (.iconst (-1), 1) := by decide +kernel
theorem dX11_variableOf_1 : decode cX11_variableOf 1 = .ok (.aload_n 0, 1) := by decide +kernel
theorem dX11_variableOf_2 : decode cX11_variableOf 2 = .ok (.getfield 16, 3) := by decide +kernel
theorem dX11_variableOf_5 : decode cX11_variableOf 5 = .ok (.iload_n 1, 1) := by decide +kernel
theorem dX11_variableOf_6 : decode cX11_variableOf 6 = .ok (.iaload, 1) := by decide +kernel
theorem dX11_variableOf_7 : decode cX11_variableOf 7 = .ok (.isub, 1) := by decide +kernel
theorem dX11_variableOf_8 : decode cX11_variableOf 8 = .ok (.ireturn, 1) := by decide +kernel
def bX11_variableOf_0 (N d : Nat)   (w : Wd) (x1 : Int32) : Option (Wd × Int32) :=
  c_ld w 3 1000 x1 fun v1 =>
  some (w, (-1) - v1)
set_option maxHeartbeats 4000000 in
theorem kX11_variableOf_0 {V : Ev} {p : Program} {l : Launch} {e : Env} {N d : Nat} {s : State} {m : MethodId} {args : Array Value} {below : List Frame} {meth : Method} {c : Code} {z : Wd × Int32} (X : CX V p s m args meth c cX11_variableOf 2 RX11 (some .int))    {w : Wd} {x1 : Int32} {H : Heap} {locs : List Loc} {ls : Array Slot} (h : bX11_variableOf_0 N d   w x1 = some z) (hH : wH V (cM V) (AM V) s w H locs) (hl : lv_has ls 2 [(0, .ref (V.2.2 0)), (1, .int x1)]) : W p l e (rmD (d + 1)) s m args below meth c H locs 0 0 (MQ below (CtI V (cM V) (AM V) z) args s 0 0 (AM V)) (F0 m 0 ls []) := by
  unfold bX11_variableOf_0 at h
  obtain ⟨hx, hb, hml, hown, hg, hrt, hlk, hK⟩ := id X
  refine lv_iconst (pc := 0) (v := -1) hx hb dX11_variableOf_0 (by decide) ?_
  refine lv_aload_n (pc := 1) hx hb dX11_variableOf_1 rfl (lv_at hl 0 rfl) ?_
  refine gM_X11_16_0 (pc := 2) X hH dX11_variableOf_2 ?_
  refine lv_iload_n (pc := 5) hx hb dX11_variableOf_5 rfl (lv_at hl 1 rfl) ?_
  refine r_ld (pc := 6) X (heM_3 V w) hH h dX11_variableOf_6 (fun v1 h => ?_)
  refine lv_isub (pc := 7) hx hb dX11_variableOf_7 ?_
  exact r_iret (pc := 8) X hH h dX11_variableOf_8
def eX11_variableOf (N : Nat) : Nat → Wd → Int32 → Option (Wd × Int32)
  | 0 => fun _ _ => none
  | d + 1 => fun w x1 => bX11_variableOf_0 N d  w x1
set_option maxHeartbeats 4000000 in
set_option maxRecDepth 20000 in
theorem mX11_variableOf {l : Launch} {V : Ev} {N d : Nat} {w : Wd} {x1 : Int32} {z : Wd × Int32} (h : eX11_variableOf N d w x1 = some z) : MetI l V (cM V) (AM V) yX11_variableOf cX11_variableOf 2 (some .int) d [.ref (V.2.2 0), .int x1] w z := by
  cases d with
  | zero => exact c_none h
  | succ d =>
    refine Met.ofW (cc := cX11_variableOf) (maxL := 2) (ret := (some .int)) (by decide) rfl ?_
    intro p e s m args below meth c s₁ B hml hv
    obtain ⟨rfl, hP, hD, hK⟩ := hv
    have hts := atoms_spec (ws := .code yX11_variableOf cX11_variableOf 2 (some .int) :: gG) B.pre
    have X : CX V p s m ([.ref (V.2.2 0), .int x1] : List Value).toArray meth c cX11_variableOf 2 RX11 (some .int) := ⟨B.exec, B.bytes, hml, findClass_of_methodNamed B.named, fun w hw => hts w (List.mem_cons_of_mem _ hw), B.returns, B.notSynchronized, hK⟩
    have hl := lv_entry ([.ref (V.2.2 0), .int x1] : List Value) (n := 2) (Nat.le_of_ble_eq_true rfl)
    rw [lg_entry_eq]
    generalize (lg_sl ([.ref (V.2.2 0), .int x1] : List Value) ++ List.replicate (2 - (lg_sl ([.ref (V.2.2 0), .int x1] : List Value)).length) Slot.unset).toArray = ls at hl ⊢
    have hl : lv_has ls 2 [(0, .ref (V.2.2 0)), (1, .int x1)] := hl
    exact kX11_variableOf_0 (N := N) X  h ⟨hP, hD, va_S.rf⟩ hl
theorem dX11_parts_0 : decode cX11_parts 0 = .ok (.aload_n 0, 1) := by decide +kernel
theorem dX11_parts_1 : decode cX11_parts 1 = .ok (.iload_n 1, 1) := by decide +kernel
theorem dX11_parts_2 : decode cX11_parts 2 = .ok (.invokevirtual 117, 3) := by decide +kernel
theorem dX11_parts_5 : decode cX11_parts 5 = .ok (.ifCond .eq 7, 3) := by decide +kernel
theorem dX11_parts_8 : decode cX11_parts 8 = .ok (.iconst 0, 1) := by decide +kernel
theorem dX11_parts_9 : decode cX11_parts 9 = .ok (.goto 14, 3) := by decide +kernel
theorem dX11_parts_12 : decode cX11_parts 12 = .ok (.aload_n 0, 1) := by decide +kernel
theorem dX11_parts_13 : decode cX11_parts 13 = .ok (.getfield 7, 3) := by decide +kernel
theorem dX11_parts_16 : decode cX11_parts 16 = .ok (.aload_n 0, 1) := by decide +kernel
theorem dX11_parts_17 : decode cX11_parts 17 = .ok (.getfield 16, 3) := by decide +kernel
theorem dX11_parts_20 : decode cX11_parts 20 = .ok (.iload_n 1, 1) := by decide +kernel
theorem dX11_parts_21 : decode cX11_parts 21 = .ok (.iaload, 1) := by decide +kernel
theorem dX11_parts_22 : decode cX11_parts 22 = .ok (.iaload, 1) := by decide +kernel
theorem dX11_parts_23 : decode cX11_parts 23 = .ok (.ireturn, 1) := by decide +kernel
def bX11_parts_23 (N d : Nat)   (w : Wd) (y0 : Int32) : Option (Wd × Int32) :=
  some (w, y0)
set_option maxHeartbeats 4000000 in
theorem kX11_parts_23 {V : Ev} {p : Program} {l : Launch} {e : Env} {N d : Nat} {s : State} {m : MethodId} {args : Array Value} {below : List Frame} {meth : Method} {c : Code} {z : Wd × Int32} (X : CX V p s m args meth c cX11_parts 2 RX11 (some .int))    {w : Wd} {y0 : Int32} {H : Heap} {locs : List Loc} {ls : Array Slot} (h : bX11_parts_23 N d   w y0 = some z) (hH : wH V (cM V) (AM V) s w H locs) (hl : lv_has ls 2 []) : W p l e (rmD (d + 1)) s m args below meth c H locs 0 0 (MQ below (CtI V (cM V) (AM V) z) args s 0 0 (AM V)) (F0 m 23 ls [.int y0]) := by
  unfold bX11_parts_23 at h
  obtain ⟨hx, hb, hml, hown, hg, hrt, hlk, hK⟩ := id X
  exact r_iret (pc := 23) X hH h dX11_parts_23
def bX11_parts_0 (N d : Nat)   (w : Wd) (x1 : Int32) : Option (Wd × Int32) :=
  c_cl (eX11_isVariable N d w x1) fun w1 v2 =>
  if v2 = 0 then (
    c_ld w1 3 1000 x1 fun v3 =>
    c_ld w1 1 10 v3 fun v4 =>
    bX11_parts_23 N d   w1 v4
  ) else (
    bX11_parts_23 N d   w1 0
  )
set_option maxHeartbeats 4000000 in
theorem kX11_parts_0 {V : Ev} {p : Program} {l : Launch} {e : Env} {N d : Nat} {s : State} {m : MethodId} {args : Array Value} {below : List Frame} {meth : Method} {c : Code} {z : Wd × Int32} (X : CX V p s m args meth c cX11_parts 2 RX11 (some .int))    {w : Wd} {x1 : Int32} {H : Heap} {locs : List Loc} {ls : Array Slot} (h : bX11_parts_0 N d   w x1 = some z) (hH : wH V (cM V) (AM V) s w H locs) (hl : lv_has ls 2 [(0, .ref (V.2.2 0)), (1, .int x1)]) : W p l e (rmD (d + 1)) s m args below meth c H locs 0 0 (MQ below (CtI V (cM V) (AM V) z) args s 0 0 (AM V)) (F0 m 0 ls []) := by
  unfold bX11_parts_0 at h
  obtain ⟨hx, hb, hml, hown, hg, hrt, hlk, hK⟩ := id X
  refine lv_aload_n (pc := 0) hx hb dX11_parts_0 rfl (lv_at hl 0 rfl) ?_
  refine lv_iload_n (pc := 1) hx hb dX11_parts_1 rfl (lv_at hl 1 rfl) ?_
  refine r_cvI (pc := 2) (As := [.int x1]) (rest := []) X hH (fun x hx => mX11_isVariable hx) cw_X11_117 (heM_0 V w) rfl rfl rfl (Nat.le_of_ble_eq_true rfl) hl.1 h dX11_parts_2 (fun w1 v2 H locs h hH => ?_)
  refine b_if_eq (pc := 5) (tgt := 12) hx hb h dX11_parts_5 (by decide) (fun h => ?_) (fun h => ?_)
  · refine lv_aload_n (pc := 12) hx hb dX11_parts_12 rfl (lv_at hl 0 rfl) ?_
    refine gM_X11_7_0 (pc := 13) X hH dX11_parts_13 ?_
    refine lv_aload_n (pc := 16) hx hb dX11_parts_16 rfl (lv_at hl 0 rfl) ?_
    refine gM_X11_16_0 (pc := 17) X hH dX11_parts_17 ?_
    refine lv_iload_n (pc := 20) hx hb dX11_parts_20 rfl (lv_at hl 1 rfl) ?_
    refine r_ld (pc := 21) X (heM_3 V w1) hH h dX11_parts_21 (fun v3 h => ?_)
    refine r_ld (pc := 22) X (heM_1 V w1) hH h dX11_parts_22 (fun v4 h => ?_)
    exact kX11_parts_23 X   h hH (lv_sub hl [] rfl)
  · refine lv_iconst (pc := 8) (v := 0) hx hb dX11_parts_8 (by decide) ?_
    refine lv_goto (pc := 9) (tgt := 23) hx hb dX11_parts_9 (by decide) ?_
    exact kX11_parts_23 X   h hH (lv_sub hl [] rfl)
def eX11_parts (N : Nat) : Nat → Wd → Int32 → Option (Wd × Int32)
  | 0 => fun _ _ => none
  | d + 1 => fun w x1 => bX11_parts_0 N d  w x1
set_option maxHeartbeats 4000000 in
set_option maxRecDepth 20000 in
theorem mX11_parts {l : Launch} {V : Ev} {N d : Nat} {w : Wd} {x1 : Int32} {z : Wd × Int32} (h : eX11_parts N d w x1 = some z) : MetI l V (cM V) (AM V) yX11_parts cX11_parts 2 (some .int) d [.ref (V.2.2 0), .int x1] w z := by
  cases d with
  | zero => exact c_none h
  | succ d =>
    refine Met.ofW (cc := cX11_parts) (maxL := 2) (ret := (some .int)) (by decide) rfl ?_
    intro p e s m args below meth c s₁ B hml hv
    obtain ⟨rfl, hP, hD, hK⟩ := hv
    have hts := atoms_spec (ws := .code yX11_parts cX11_parts 2 (some .int) :: gG) B.pre
    have X : CX V p s m ([.ref (V.2.2 0), .int x1] : List Value).toArray meth c cX11_parts 2 RX11 (some .int) := ⟨B.exec, B.bytes, hml, findClass_of_methodNamed B.named, fun w hw => hts w (List.mem_cons_of_mem _ hw), B.returns, B.notSynchronized, hK⟩
    have hl := lv_entry ([.ref (V.2.2 0), .int x1] : List Value) (n := 2) (Nat.le_of_ble_eq_true rfl)
    rw [lg_entry_eq]
    generalize (lg_sl ([.ref (V.2.2 0), .int x1] : List Value) ++ List.replicate (2 - (lg_sl ([.ref (V.2.2 0), .int x1] : List Value)).length) Slot.unset).toArray = ls at hl ⊢
    have hl : lv_has ls 2 [(0, .ref (V.2.2 0)), (1, .int x1)] := hl
    exact kX11_parts_0 (N := N) X  h ⟨hP, hD, va_S.rf⟩ hl
theorem dX11_partOf_0 : decode cX11_partOf 0 = .ok (.iload_n 2, 1) := by decide +kernel
theorem dX11_partOf_1 : decode cX11_partOf 1 = .ok (.ifCond .ne 12, 3) := by decide +kernel
theorem dX11_partOf_4 : decode cX11_partOf 4 = .ok (.aload_n 0, 1) := by decide +kernel
theorem dX11_partOf_5 : decode cX11_partOf 5 = .ok (.getfield 19, 3) := by decide +kernel
theorem dX11_partOf_8 : decode cX11_partOf 8 = .ok (.iload_n 1, 1) := by decide +kernel
theorem dX11_partOf_9 : decode cX11_partOf 9 = .ok (.iaload, 1) := by decide +kernel
theorem dX11_partOf_10 : decode cX11_partOf 10 = .ok (.goto 9, 3) := by decide +kernel
theorem dX11_partOf_13 : decode cX11_partOf 13 = .ok (.aload_n 0, 1) := by decide +kernel
theorem dX11_partOf_14 : decode cX11_partOf 14 = .ok (.getfield 22, 3) := by decide +kernel
theorem dX11_partOf_17 : decode cX11_partOf 17 = .ok (.iload_n 1, 1) := by decide +kernel
theorem dX11_partOf_18 : decode cX11_partOf 18 = .ok (.iaload, 1) := by decide +kernel
theorem dX11_partOf_19 : decode cX11_partOf 19 = .ok (.ireturn, 1) := by decide +kernel
def bX11_partOf_19 (N d : Nat)   (w : Wd) (y0 : Int32) : Option (Wd × Int32) :=
  some (w, y0)
set_option maxHeartbeats 4000000 in
theorem kX11_partOf_19 {V : Ev} {p : Program} {l : Launch} {e : Env} {N d : Nat} {s : State} {m : MethodId} {args : Array Value} {below : List Frame} {meth : Method} {c : Code} {z : Wd × Int32} (X : CX V p s m args meth c cX11_partOf 3 RX11 (some .int))    {w : Wd} {y0 : Int32} {H : Heap} {locs : List Loc} {ls : Array Slot} (h : bX11_partOf_19 N d   w y0 = some z) (hH : wH V (cM V) (AM V) s w H locs) (hl : lv_has ls 3 []) : W p l e (rmD (d + 1)) s m args below meth c H locs 0 0 (MQ below (CtI V (cM V) (AM V) z) args s 0 0 (AM V)) (F0 m 19 ls [.int y0]) := by
  unfold bX11_partOf_19 at h
  obtain ⟨hx, hb, hml, hown, hg, hrt, hlk, hK⟩ := id X
  exact r_iret (pc := 19) X hH h dX11_partOf_19
def bX11_partOf_0 (N d : Nat)   (w : Wd) (x1 : Int32) (x2 : Int32) : Option (Wd × Int32) :=
  if x2 = 0 then (
    c_ld w 4 1000 x1 fun v2 =>
    bX11_partOf_19 N d   w v2
  ) else (
    c_ld w 5 1000 x1 fun v1 =>
    bX11_partOf_19 N d   w v1
  )
set_option maxHeartbeats 4000000 in
theorem kX11_partOf_0 {V : Ev} {p : Program} {l : Launch} {e : Env} {N d : Nat} {s : State} {m : MethodId} {args : Array Value} {below : List Frame} {meth : Method} {c : Code} {z : Wd × Int32} (X : CX V p s m args meth c cX11_partOf 3 RX11 (some .int))    {w : Wd} {x1 : Int32} {x2 : Int32} {H : Heap} {locs : List Loc} {ls : Array Slot} (h : bX11_partOf_0 N d   w x1 x2 = some z) (hH : wH V (cM V) (AM V) s w H locs) (hl : lv_has ls 3 [(0, .ref (V.2.2 0)), (1, .int x1), (2, .int x2)]) : W p l e (rmD (d + 1)) s m args below meth c H locs 0 0 (MQ below (CtI V (cM V) (AM V) z) args s 0 0 (AM V)) (F0 m 0 ls []) := by
  unfold bX11_partOf_0 at h
  obtain ⟨hx, hb, hml, hown, hg, hrt, hlk, hK⟩ := id X
  refine lv_iload_n (pc := 0) hx hb dX11_partOf_0 rfl (lv_at hl 2 rfl) ?_
  refine b_if_ne (pc := 1) (tgt := 13) hx hb h dX11_partOf_1 (by decide) (fun h => ?_) (fun h => ?_)
  · refine lv_aload_n (pc := 13) hx hb dX11_partOf_13 rfl (lv_at hl 0 rfl) ?_
    refine gM_X11_22_0 (pc := 14) X hH dX11_partOf_14 ?_
    refine lv_iload_n (pc := 17) hx hb dX11_partOf_17 rfl (lv_at hl 1 rfl) ?_
    refine r_ld (pc := 18) X (heM_5 V w) hH h dX11_partOf_18 (fun v1 h => ?_)
    exact kX11_partOf_19 X   h hH (lv_sub hl [] rfl)
  · refine lv_aload_n (pc := 4) hx hb dX11_partOf_4 rfl (lv_at hl 0 rfl) ?_
    refine gM_X11_19_0 (pc := 5) X hH dX11_partOf_5 ?_
    refine lv_iload_n (pc := 8) hx hb dX11_partOf_8 rfl (lv_at hl 1 rfl) ?_
    refine r_ld (pc := 9) X (heM_4 V w) hH h dX11_partOf_9 (fun v2 h => ?_)
    refine lv_goto (pc := 10) (tgt := 19) hx hb dX11_partOf_10 (by decide) ?_
    exact kX11_partOf_19 X   h hH (lv_sub hl [] rfl)
def eX11_partOf (N : Nat) : Nat → Wd → Int32 → Int32 → Option (Wd × Int32)
  | 0 => fun _ _ _ => none
  | d + 1 => fun w x1 x2 => bX11_partOf_0 N d  w x1 x2
set_option maxHeartbeats 4000000 in
set_option maxRecDepth 20000 in
theorem mX11_partOf {l : Launch} {V : Ev} {N d : Nat} {w : Wd} {x1 : Int32} {x2 : Int32} {z : Wd × Int32} (h : eX11_partOf N d w x1 x2 = some z) : MetI l V (cM V) (AM V) yX11_partOf cX11_partOf 3 (some .int) d [.ref (V.2.2 0), .int x1, .int x2] w z := by
  cases d with
  | zero => exact c_none h
  | succ d =>
    refine Met.ofW (cc := cX11_partOf) (maxL := 3) (ret := (some .int)) (by decide) rfl ?_
    intro p e s m args below meth c s₁ B hml hv
    obtain ⟨rfl, hP, hD, hK⟩ := hv
    have hts := atoms_spec (ws := .code yX11_partOf cX11_partOf 3 (some .int) :: gG) B.pre
    have X : CX V p s m ([.ref (V.2.2 0), .int x1, .int x2] : List Value).toArray meth c cX11_partOf 3 RX11 (some .int) := ⟨B.exec, B.bytes, hml, findClass_of_methodNamed B.named, fun w hw => hts w (List.mem_cons_of_mem _ hw), B.returns, B.notSynchronized, hK⟩
    have hl := lv_entry ([.ref (V.2.2 0), .int x1, .int x2] : List Value) (n := 3) (Nat.le_of_ble_eq_true rfl)
    rw [lg_entry_eq]
    generalize (lg_sl ([.ref (V.2.2 0), .int x1, .int x2] : List Value) ++ List.replicate (3 - (lg_sl ([.ref (V.2.2 0), .int x1, .int x2] : List Value)).length) Slot.unset).toArray = ls at hl ⊢
    have hl : lv_has ls 3 [(0, .ref (V.2.2 0)), (1, .int x1), (2, .int x2)] := hl
    exact kX11_partOf_0 (N := N) X  h ⟨hP, hD, va_S.rf⟩ hl
theorem dX11_cap_0 : decode cX11_cap 0 = .ok (.lload_n 0, 1) := by decide +kernel
theorem dX11_cap_1 : decode cX11_cap 1 = .ok (.ldc2_w 115, 3) := by decide +kernel
theorem dX11_cap_4 : decode cX11_cap 4 = .ok (.lcmp, 1) := by decide +kernel
theorem dX11_cap_5 : decode cX11_cap 5 = .ok (.ifCond .le 9, 3) := by decide +kernel
theorem dX11_cap_8 : decode cX11_cap 8 = .ok (.ldc2_w 115, 3) := by decide +kernel
theorem dX11_cap_11 : decode cX11_cap 11 = .ok (.goto 4, 3) := by decide +kernel
theorem dX11_cap_14 : decode cX11_cap 14 = .ok (.lload_n 0, 1) := by decide +kernel
theorem dX11_cap_15 : decode cX11_cap 15 = .ok (.lreturn, 1) := by decide +kernel
def bX11_cap_15 (N d : Nat)   (w : Wd) (y0 : Int64) : Option (Wd × Int64) :=
  some (w, y0)
set_option maxHeartbeats 4000000 in
theorem kX11_cap_15 {V : Ev} {p : Program} {l : Launch} {e : Env} {N d : Nat} {s : State} {m : MethodId} {args : Array Value} {below : List Frame} {meth : Method} {c : Code} {z : Wd × Int64} (X : CX V p s m args meth c cX11_cap 2 RX11 (some .long))    {w : Wd} {y0 : Int64} {H : Heap} {locs : List Loc} {ls : Array Slot} (h : bX11_cap_15 N d   w y0 = some z) (hH : wH V (cM V) (AM V) s w H locs) (hl : lv_has ls 2 []) : W p l e (rmD (d + 1)) s m args below meth c H locs 0 0 (MQ below (CtL V (cM V) (AM V) z) args s 0 0 (AM V)) (F0 m 15 ls [.long y0]) := by
  unfold bX11_cap_15 at h
  obtain ⟨hx, hb, hml, hown, hg, hrt, hlk, hK⟩ := id X
  exact r_lret (pc := 15) X hH h dX11_cap_15
def bX11_cap_0 (N d : Nat)   (w : Wd) (x0 : Int64) : Option (Wd × Int64) :=
  if (lg_cmp x0 1000000000000000) ≤ 0 then (
    bX11_cap_15 N d   w x0
  ) else (
    bX11_cap_15 N d   w 1000000000000000
  )
set_option maxHeartbeats 4000000 in
theorem kX11_cap_0 {V : Ev} {p : Program} {l : Launch} {e : Env} {N d : Nat} {s : State} {m : MethodId} {args : Array Value} {below : List Frame} {meth : Method} {c : Code} {z : Wd × Int64} (X : CX V p s m args meth c cX11_cap 2 RX11 (some .long))    {w : Wd} {x0 : Int64} {H : Heap} {locs : List Loc} {ls : Array Slot} (h : bX11_cap_0 N d   w x0 = some z) (hH : wH V (cM V) (AM V) s w H locs) (hl : lv_has ls 2 [(0, .long x0)]) : W p l e (rmD (d + 1)) s m args below meth c H locs 0 0 (MQ below (CtL V (cM V) (AM V) z) args s 0 0 (AM V)) (F0 m 0 ls []) := by
  unfold bX11_cap_0 at h
  obtain ⟨hx, hb, hml, hown, hg, hrt, hlk, hK⟩ := id X
  refine lv_lload_n (pc := 0) hx hb dX11_cap_0 rfl (lv_at hl 0 rfl) ?_
  refine lv_ldc2 (pc := 1) hx hb hown (hg _ wL_1115) dX11_cap_1 ?_
  refine W.lcmp (pc := 4) hx hb dX11_cap_4 ?_
  refine b_if_le (pc := 5) (tgt := 14) hx hb h dX11_cap_5 (by decide) (fun h => ?_) (fun h => ?_)
  · refine lv_lload_n (pc := 14) hx hb dX11_cap_14 rfl (lv_at hl 0 rfl) ?_
    exact kX11_cap_15 X   h hH (lv_sub hl [] rfl)
  · refine lv_ldc2 (pc := 8) hx hb hown (hg _ wL_1115) dX11_cap_8 ?_
    refine lv_goto (pc := 11) (tgt := 15) hx hb dX11_cap_11 (by decide) ?_
    exact kX11_cap_15 X   h hH (lv_sub hl [] rfl)
def eX11_cap (N : Nat) : Nat → Wd → Int64 → Option (Wd × Int64)
  | 0 => fun _ _ => none
  | d + 1 => fun w x0 => bX11_cap_0 N d  w x0
set_option maxHeartbeats 4000000 in
set_option maxRecDepth 20000 in
theorem mX11_cap {l : Launch} {V : Ev} {N d : Nat} {w : Wd} {x0 : Int64} {z : Wd × Int64} (h : eX11_cap N d w x0 = some z) : MetL l V (cM V) (AM V) yX11_cap cX11_cap 2 (some .long) d [.long x0] w z := by
  cases d with
  | zero => exact c_none h
  | succ d =>
    refine Met.ofW (cc := cX11_cap) (maxL := 2) (ret := (some .long)) (by decide) rfl ?_
    intro p e s m args below meth c s₁ B hml hv
    obtain ⟨rfl, hP, hD, hK⟩ := hv
    have hts := atoms_spec (ws := .code yX11_cap cX11_cap 2 (some .long) :: gG) B.pre
    have X : CX V p s m ([.long x0] : List Value).toArray meth c cX11_cap 2 RX11 (some .long) := ⟨B.exec, B.bytes, hml, findClass_of_methodNamed B.named, fun w hw => hts w (List.mem_cons_of_mem _ hw), B.returns, B.notSynchronized, hK⟩
    have hl := lv_entry ([.long x0] : List Value) (n := 2) (Nat.le_of_ble_eq_true rfl)
    rw [lg_entry_eq]
    generalize (lg_sl ([.long x0] : List Value) ++ List.replicate (2 - (lg_sl ([.long x0] : List Value)).length) Slot.unset).toArray = ls at hl ⊢
    have hl : lv_has ls 2 [(0, .long x0)] := hl
    exact kX11_cap_0 (N := N) X  h ⟨hP, hD, va_S.rf⟩ hl
theorem dX11_make_0 : decode cX11_make 0 = .ok (.aload_n 0, 1) := by decide +kernel
theorem dX11_make_1 : decode cX11_make 1 = .ok (.getfield 121, 3) := by decide +kernel
theorem dX11_make_4 : decode cX11_make 4 = .ok (.ifCond .eq 5, 3) := by decide +kernel
theorem dX11_make_7 : decode cX11_make 7 = .ok (.iconst (-1), 1) := by decide +kernel
theorem dX11_make_8 : decode cX11_make 8 = .ok (.ireturn, 1) := by decide +kernel
theorem dX11_make_9 : decode cX11_make 9 = .ok (.iload_n 1, 1) := by decide +kernel
theorem dX11_make_10 : decode cX11_make 10 = .ok (.ifCond .ge 7, 3) := by decide +kernel
theorem dX11_make_13 : decode cX11_make 13 = .ok (.iconst 0, 1) := by decide +kernel
theorem dX11_make_14 : decode cX11_make 14 = .ok (.goto 9, 3) := by decide +kernel
theorem dX11_make_17 : decode cX11_make 17 = .ok (.aload_n 0, 1) := by decide +kernel
theorem dX11_make_18 : decode cX11_make 18 = .ok (.getfield 7, 3) := by decide +kernel
theorem dX11_make_21 : decode cX11_make 21 = .ok (.iload_n 1, 1) := by decide +kernel
theorem dX11_make_22 : decode cX11_make 22 = .ok (.iaload, 1) := by decide +kernel
theorem dX11_make_23 : decode cX11_make 23 = .ok (.istore 4, 2) := by decide +kernel
theorem dX11_make_25 : decode cX11_make 25 = .ok (.iload 4, 2) := by decide +kernel
theorem dX11_make_27 : decode cX11_make 27 = .ok (.ifCond .le 7, 3) := by decide +kernel
theorem dX11_make_30 : decode cX11_make 30 = .ok (.iload_n 2, 1) := by decide +kernel
theorem dX11_make_31 : decode cX11_make 31 = .ok (.goto 4, 3) := by decide +kernel
theorem dX11_make_34 : decode cX11_make 34 = .ok (.iconst (-1), 1) := by decide +kernel
theorem dX11_make_35 : decode cX11_make 35 = .ok (.istore 5, 2) := by decide +kernel
theorem dX11_make_37 : decode cX11_make 37 = .ok (.iload 4, 2) := by decide +kernel
theorem dX11_make_39 : decode cX11_make 39 = .ok (.iconst 1, 1) := by decide +kernel
theorem dX11_make_40 : decode cX11_make 40 = .ok (.if_icmp .le 7, 3) := by decide +kernel
theorem dX11_make_43 : decode cX11_make 43 = .ok (.iload_n 3, 1) := by decide +kernel
theorem dX11_make_44 : decode cX11_make 44 = .ok (.goto 4, 3) := by decide +kernel
theorem dX11_make_47 : decode cX11_make 47 = .ok (.iconst (-1), 1) := by decide +kernel
theorem dX11_make_48 : decode cX11_make 48 = .ok (.istore 6, 2) := by decide +kernel
theorem dX11_make_50 : decode cX11_make 50 = .ok (.iconst 0, 1) := by decide +kernel
theorem dX11_make_51 : decode cX11_make 51 = .ok (.istore 7, 2) := by decide +kernel
theorem dX11_make_53 : decode cX11_make 53 = .ok (.iload 7, 2) := by decide +kernel
theorem dX11_make_55 : decode cX11_make 55 = .ok (.aload_n 0, 1) := by decide +kernel
theorem dX11_make_56 : decode cX11_make 56 = .ok (.getfield 125, 3) := by decide +kernel
theorem dX11_make_59 : decode cX11_make 59 = .ok (.if_icmp .ge 47, 3) := by decide +kernel
theorem dX11_make_62 : decode cX11_make 62 = .ok (.aload_n 0, 1) := by decide +kernel
theorem dX11_make_63 : decode cX11_make 63 = .ok (.getfield 16, 3) := by decide +kernel
theorem dX11_make_66 : decode cX11_make 66 = .ok (.iload 7, 2) := by decide +kernel
theorem dX11_make_68 : decode cX11_make 68 = .ok (.iaload, 1) := by decide +kernel
theorem dX11_make_69 : decode cX11_make 69 = .ok (.iload_n 1, 1) := by decide +kernel
theorem dX11_make_70 : decode cX11_make 70 = .ok (.if_icmp .ne 30, 3) := by decide +kernel
theorem dX11_make_73 : decode cX11_make 73 = .ok (.aload_n 0, 1) := by decide +kernel
theorem dX11_make_74 : decode cX11_make 74 = .ok (.getfield 19, 3) := by decide +kernel
theorem dX11_make_77 : decode cX11_make 77 = .ok (.iload 7, 2) := by decide +kernel
theorem dX11_make_79 : decode cX11_make 79 = .ok (.iaload, 1) := by decide +kernel
theorem dX11_make_80 : decode cX11_make 80 = .ok (.iload 5, 2) := by decide +kernel
theorem dX11_make_82 : decode cX11_make 82 = .ok (.if_icmp .ne 18, 3) := by decide +kernel
theorem dX11_make_85 : decode cX11_make 85 = .ok (.aload_n 0, 1) := by decide +kernel
theorem dX11_make_86 : decode cX11_make 86 = .ok (.getfield 22, 3) := by decide +kernel
theorem dX11_make_89 : decode cX11_make 89 = .ok (.iload 7, 2) := by decide +kernel
theorem dX11_make_91 : decode cX11_make 91 = .ok (.iaload, 1) := by decide +kernel
theorem dX11_make_92 : decode cX11_make 92 = .ok (.iload 6, 2) := by decide +kernel
theorem dX11_make_94 : decode cX11_make 94 = .ok (.if_icmp .ne 6, 3) := by decide +kernel
theorem dX11_make_97 : decode cX11_make 97 = .ok (.iload 7, 2) := by decide +kernel
theorem dX11_make_99 : decode cX11_make 99 = .ok (.ireturn, 1) := by decide +kernel
theorem dX11_make_100 : decode cX11_make 100 = .ok (.iinc 7 1, 3) := by decide +kernel
theorem dX11_make_103 : decode cX11_make 103 = .ok (.goto (-50), 3) := by decide +kernel
theorem dX11_make_106 : decode cX11_make 106 = .ok (.aload_n 0, 1) := by decide +kernel
theorem dX11_make_107 : decode cX11_make 107 = .ok (.getfield 125, 3) := by decide +kernel
theorem dX11_make_110 : decode cX11_make 110 = .ok (.sipush 1000, 3) := by decide +kernel
theorem dX11_make_113 : decode cX11_make 113 = .ok (.if_icmp .ne 10, 3) := by decide +kernel
theorem dX11_make_116 : decode cX11_make 116 = .ok (.aload_n 0, 1) := by decide +kernel
theorem dX11_make_117 : decode cX11_make 117 = .ok (.iconst 1, 1) := by decide +kernel
theorem dX11_make_118 : decode cX11_make 118 = .ok (.putfield 121, 3) := by decide +kernel
theorem dX11_make_121 : decode cX11_make 121 = .ok (.iconst (-1), 1) := by decide +kernel
theorem dX11_make_122 : decode cX11_make 122 = .ok (.ireturn, 1) := by decide +kernel
theorem dX11_make_123 : decode cX11_make 123 = .ok (.aload_n 0, 1) := by decide +kernel
theorem dX11_make_124 : decode cX11_make 124 = .ok (.getfield 125, 3) := by decide +kernel
theorem dX11_make_127 : decode cX11_make 127 = .ok (.istore 7, 2) := by decide +kernel
theorem dX11_make_129 : decode cX11_make 129 = .ok (.aload_n 0, 1) := by decide +kernel
theorem dX11_make_130 : decode cX11_make 130 = .ok (.dup, 1) := by decide +kernel
theorem dX11_make_131 : decode cX11_make 131 = .ok (.getfield 125, 3) := by decide +kernel
theorem dX11_make_134 : decode cX11_make 134 = .ok (.iconst 1, 1) := by decide +kernel
theorem dX11_make_135 : decode cX11_make 135 = .ok (.iadd, 1) := by decide +kernel
theorem dX11_make_136 : decode cX11_make 136 = .ok (.putfield 125, 3) := by decide +kernel
theorem dX11_make_139 : decode cX11_make 139 = .ok (.aload_n 0, 1) := by decide +kernel
theorem dX11_make_140 : decode cX11_make 140 = .ok (.getfield 16, 3) := by decide +kernel
theorem dX11_make_143 : decode cX11_make 143 = .ok (.iload 7, 2) := by decide +kernel
theorem dX11_make_145 : decode cX11_make 145 = .ok (.iload_n 1, 1) := by decide +kernel
theorem dX11_make_146 : decode cX11_make 146 = .ok (.iastore, 1) := by decide +kernel
theorem dX11_make_147 : decode cX11_make 147 = .ok (.aload_n 0, 1) := by decide +kernel
theorem dX11_make_148 : decode cX11_make 148 = .ok (.getfield 19, 3) := by decide +kernel
theorem dX11_make_151 : decode cX11_make 151 = .ok (.iload 7, 2) := by decide +kernel
theorem dX11_make_153 : decode cX11_make 153 = .ok (.iload 5, 2) := by decide +kernel
theorem dX11_make_155 : decode cX11_make 155 = .ok (.iastore, 1) := by decide +kernel
theorem dX11_make_156 : decode cX11_make 156 = .ok (.aload_n 0, 1) := by decide +kernel
theorem dX11_make_157 : decode cX11_make 157 = .ok (.getfield 22, 3) := by decide +kernel
theorem dX11_make_160 : decode cX11_make 160 = .ok (.iload 7, 2) := by decide +kernel
theorem dX11_make_162 : decode cX11_make 162 = .ok (.iload 6, 2) := by decide +kernel
theorem dX11_make_164 : decode cX11_make 164 = .ok (.iastore, 1) := by decide +kernel
theorem dX11_make_165 : decode cX11_make 165 = .ok (.aload_n 0, 1) := by decide +kernel
theorem dX11_make_166 : decode cX11_make 166 = .ok (.getfield 25, 3) := by decide +kernel
theorem dX11_make_169 : decode cX11_make 169 = .ok (.iload 7, 2) := by decide +kernel
theorem dX11_make_171 : decode cX11_make 171 = .ok (.lconst 1, 1) := by decide +kernel
theorem dX11_make_172 : decode cX11_make 172 = .ok (.iload 4, 2) := by decide +kernel
theorem dX11_make_174 : decode cX11_make 174 = .ok (.ifCond .le 13, 3) := by decide +kernel
theorem dX11_make_177 : decode cX11_make 177 = .ok (.aload_n 0, 1) := by decide +kernel
theorem dX11_make_178 : decode cX11_make 178 = .ok (.getfield 25, 3) := by decide +kernel
theorem dX11_make_181 : decode cX11_make 181 = .ok (.iload 5, 2) := by decide +kernel
theorem dX11_make_183 : decode cX11_make 183 = .ok (.laload, 1) := by decide +kernel
theorem dX11_make_184 : decode cX11_make 184 = .ok (.goto 4, 3) := by decide +kernel
theorem dX11_make_187 : decode cX11_make 187 = .ok (.lconst 0, 1) := by decide +kernel
theorem dX11_make_188 : decode cX11_make 188 = .ok (.ladd, 1) := by decide +kernel
theorem dX11_make_189 : decode cX11_make 189 = .ok (.iload 4, 2) := by decide +kernel
theorem dX11_make_191 : decode cX11_make 191 = .ok (.iconst 1, 1) := by decide +kernel
theorem dX11_make_192 : decode cX11_make 192 = .ok (.if_icmp .le 13, 3) := by decide +kernel
theorem dX11_make_195 : decode cX11_make 195 = .ok (.aload_n 0, 1) := by decide +kernel
theorem dX11_make_196 : decode cX11_make 196 = .ok (.getfield 25, 3) := by decide +kernel
theorem dX11_make_199 : decode cX11_make 199 = .ok (.iload 6, 2) := by decide +kernel
theorem dX11_make_201 : decode cX11_make 201 = .ok (.laload, 1) := by decide +kernel
theorem dX11_make_202 : decode cX11_make 202 = .ok (.goto 4, 3) := by decide +kernel
theorem dX11_make_205 : decode cX11_make 205 = .ok (.lconst 0, 1) := by decide +kernel
theorem dX11_make_206 : decode cX11_make 206 = .ok (.ladd, 1) := by decide +kernel
theorem dX11_make_207 : decode cX11_make 207 = .ok (.invokestatic 128, 3) := by decide +kernel
theorem dX11_make_210 : decode cX11_make 210 = .ok (.lastore, 1) := by decide +kernel
theorem dX11_make_211 : decode cX11_make 211 = .ok (.aload_n 0, 1) := by decide +kernel
theorem dX11_make_212 : decode cX11_make 212 = .ok (.getfield 29, 3) := by decide +kernel
theorem dX11_make_215 : decode cX11_make 215 = .ok (.iload 7, 2) := by decide +kernel
theorem dX11_make_217 : decode cX11_make 217 = .ok (.iload_n 1, 1) := by decide +kernel
theorem dX11_make_218 : decode cX11_make 218 = .ok (.ifCond .ge 7, 3) := by decide +kernel
theorem dX11_make_221 : decode cX11_make 221 = .ok (.lconst 1, 1) := by decide +kernel
theorem dX11_make_222 : decode cX11_make 222 = .ok (.goto 10, 3) := by decide +kernel
theorem dX11_make_225 : decode cX11_make 225 = .ok (.aload_n 0, 1) := by decide +kernel
theorem dX11_make_226 : decode cX11_make 226 = .ok (.getfield 13, 3) := by decide +kernel
theorem dX11_make_229 : decode cX11_make 229 = .ok (.iload_n 1, 1) := by decide +kernel
theorem dX11_make_230 : decode cX11_make 230 = .ok (.iaload, 1) := by decide +kernel
theorem dX11_make_231 : decode cX11_make 231 = .ok (.i2l, 1) := by decide +kernel
theorem dX11_make_232 : decode cX11_make 232 = .ok (.iload 4, 2) := by decide +kernel
theorem dX11_make_234 : decode cX11_make 234 = .ok (.ifCond .le 13, 3) := by decide +kernel
theorem dX11_make_237 : decode cX11_make 237 = .ok (.aload_n 0, 1) := by decide +kernel
theorem dX11_make_238 : decode cX11_make 238 = .ok (.getfield 29, 3) := by decide +kernel
theorem dX11_make_241 : decode cX11_make 241 = .ok (.iload 5, 2) := by decide +kernel
theorem dX11_make_243 : decode cX11_make 243 = .ok (.laload, 1) := by decide +kernel
theorem dX11_make_244 : decode cX11_make 244 = .ok (.goto 4, 3) := by decide +kernel
theorem dX11_make_247 : decode cX11_make 247 = .ok (.lconst 0, 1) := by decide +kernel
theorem dX11_make_248 : decode cX11_make 248 = .ok (.ladd, 1) := by decide +kernel
theorem dX11_make_249 : decode cX11_make 249 = .ok (.iload 4, 2) := by decide +kernel
theorem dX11_make_251 : decode cX11_make 251 = .ok (.iconst 1, 1) := by decide +kernel
theorem dX11_make_252 : decode cX11_make 252 = .ok (.if_icmp .le 13, 3) := by decide +kernel
theorem dX11_make_255 : decode cX11_make 255 = .ok (.aload_n 0, 1) := by decide +kernel
theorem dX11_make_256 : decode cX11_make 256 = .ok (.getfield 29, 3) := by decide +kernel
theorem dX11_make_259 : decode cX11_make 259 = .ok (.iload 6, 2) := by decide +kernel
theorem dX11_make_261 : decode cX11_make 261 = .ok (.laload, 1) := by decide +kernel
theorem dX11_make_262 : decode cX11_make 262 = .ok (.goto 4, 3) := by decide +kernel
theorem dX11_make_265 : decode cX11_make 265 = .ok (.lconst 0, 1) := by decide +kernel
theorem dX11_make_266 : decode cX11_make 266 = .ok (.ladd, 1) := by decide +kernel
theorem dX11_make_267 : decode cX11_make 267 = .ok (.invokestatic 128, 3) := by decide +kernel
theorem dX11_make_270 : decode cX11_make 270 = .ok (.lastore, 1) := by decide +kernel
theorem dX11_make_271 : decode cX11_make 271 = .ok (.iconst 0, 1) := by decide +kernel
theorem dX11_make_272 : decode cX11_make 272 = .ok (.istore 8, 2) := by decide +kernel
theorem dX11_make_274 : decode cX11_make 274 = .ok (.iload 8, 2) := by decide +kernel
theorem dX11_make_276 : decode cX11_make 276 = .ok (.bipush 8, 2) := by decide +kernel
theorem dX11_make_278 : decode cX11_make 278 = .ok (.if_icmp .ge 85, 3) := by decide +kernel
theorem dX11_make_281 : decode cX11_make 281 = .ok (.aload_n 0, 1) := by decide +kernel
theorem dX11_make_282 : decode cX11_make 282 = .ok (.getfield 32, 3) := by decide +kernel
theorem dX11_make_285 : decode cX11_make 285 = .ok (.bipush 8, 2) := by decide +kernel
theorem dX11_make_287 : decode cX11_make 287 = .ok (.iload 7, 2) := by decide +kernel
theorem dX11_make_289 : decode cX11_make 289 = .ok (.imul, 1) := by decide +kernel
theorem dX11_make_290 : decode cX11_make 290 = .ok (.iload 8, 2) := by decide +kernel
theorem dX11_make_292 : decode cX11_make 292 = .ok (.iadd, 1) := by decide +kernel
theorem dX11_make_293 : decode cX11_make 293 = .ok (.iload_n 1, 1) := by decide +kernel
theorem dX11_make_294 : decode cX11_make 294 = .ok (.iconst (-1), 1) := by decide +kernel
theorem dX11_make_295 : decode cX11_make 295 = .ok (.iload 8, 2) := by decide +kernel
theorem dX11_make_297 : decode cX11_make 297 = .ok (.isub, 1) := by decide +kernel
theorem dX11_make_298 : decode cX11_make 298 = .ok (.if_icmp .ne 7, 3) := by decide +kernel
theorem dX11_make_301 : decode cX11_make 301 = .ok (.lconst 1, 1) := by decide +kernel
theorem dX11_make_302 : decode cX11_make 302 = .ok (.goto 4, 3) := by decide +kernel
theorem dX11_make_305 : decode cX11_make 305 = .ok (.lconst 0, 1) := by decide +kernel
theorem dX11_make_306 : decode cX11_make 306 = .ok (.iload 4, 2) := by decide +kernel
theorem dX11_make_308 : decode cX11_make 308 = .ok (.ifCond .le 19, 3) := by decide +kernel
theorem dX11_make_311 : decode cX11_make 311 = .ok (.aload_n 0, 1) := by decide +kernel
theorem dX11_make_312 : decode cX11_make 312 = .ok (.getfield 32, 3) := by decide +kernel
theorem dX11_make_315 : decode cX11_make 315 = .ok (.bipush 8, 2) := by decide +kernel
theorem dX11_make_317 : decode cX11_make 317 = .ok (.iload 5, 2) := by decide +kernel
theorem dX11_make_319 : decode cX11_make 319 = .ok (.imul, 1) := by decide +kernel
theorem dX11_make_320 : decode cX11_make 320 = .ok (.iload 8, 2) := by decide +kernel
theorem dX11_make_322 : decode cX11_make 322 = .ok (.iadd, 1) := by decide +kernel
theorem dX11_make_323 : decode cX11_make 323 = .ok (.laload, 1) := by decide +kernel
theorem dX11_make_324 : decode cX11_make 324 = .ok (.goto 4, 3) := by decide +kernel
theorem dX11_make_327 : decode cX11_make 327 = .ok (.lconst 0, 1) := by decide +kernel
theorem dX11_make_328 : decode cX11_make 328 = .ok (.ladd, 1) := by decide +kernel
theorem dX11_make_329 : decode cX11_make 329 = .ok (.iload 4, 2) := by decide +kernel
theorem dX11_make_331 : decode cX11_make 331 = .ok (.iconst 1, 1) := by decide +kernel
theorem dX11_make_332 : decode cX11_make 332 = .ok (.if_icmp .le 19, 3) := by decide +kernel
theorem dX11_make_335 : decode cX11_make 335 = .ok (.aload_n 0, 1) := by decide +kernel
theorem dX11_make_336 : decode cX11_make 336 = .ok (.getfield 32, 3) := by decide +kernel
theorem dX11_make_339 : decode cX11_make 339 = .ok (.bipush 8, 2) := by decide +kernel
theorem dX11_make_341 : decode cX11_make 341 = .ok (.iload 6, 2) := by decide +kernel
theorem dX11_make_343 : decode cX11_make 343 = .ok (.imul, 1) := by decide +kernel
theorem dX11_make_344 : decode cX11_make 344 = .ok (.iload 8, 2) := by decide +kernel
theorem dX11_make_346 : decode cX11_make 346 = .ok (.iadd, 1) := by decide +kernel
theorem dX11_make_347 : decode cX11_make 347 = .ok (.laload, 1) := by decide +kernel
theorem dX11_make_348 : decode cX11_make 348 = .ok (.goto 4, 3) := by decide +kernel
theorem dX11_make_351 : decode cX11_make 351 = .ok (.lconst 0, 1) := by decide +kernel
theorem dX11_make_352 : decode cX11_make 352 = .ok (.ladd, 1) := by decide +kernel
theorem dX11_make_353 : decode cX11_make 353 = .ok (.invokestatic 128, 3) := by decide +kernel
theorem dX11_make_356 : decode cX11_make 356 = .ok (.lastore, 1) := by decide +kernel
theorem dX11_make_357 : decode cX11_make 357 = .ok (.iinc 8 1, 3) := by decide +kernel
theorem dX11_make_360 : decode cX11_make 360 = .ok (.goto (-86), 3) := by decide +kernel
theorem dX11_make_363 : decode cX11_make 363 = .ok (.iload 7, 2) := by decide +kernel
theorem dX11_make_365 : decode cX11_make 365 = .ok (.ireturn, 1) := by decide +kernel
def bX11_make_352 (N d : Nat)  (rec274 : Wd → Int32 → Int32 → Int32 → Int32 → Int32 → Int32 → Option (Wd × Int32)) (w : Wd) (x1 : Int32) (x4 : Int32) (x5 : Int32) (x6 : Int32) (x7 : Int32) (x8 : Int32) (y1 : Int32) (y2 : Int64) (y3 : Int64) : Option (Wd × Int32) :=
  c_cl (eX11_cap N d w (y2 + y3)) fun w14 v15 =>
  c_sl w14 8 8000 y1 v15 fun w16 =>
  c_nm (x8 + 1) fun x8_17 =>
  rec274 w16 x1 x4 x5 x6 x7 x8_17
set_option maxHeartbeats 4000000 in
theorem kX11_make_352 {V : Ev} {p : Program} {l : Launch} {e : Env} {N d : Nat} {s : State} {m : MethodId} {args : Array Value} {below : List Frame} {meth : Method} {c : Code} {z : Wd × Int32} (X : CX V p s m args meth c cX11_make 9 RX11 (some .int))   {rec274 : Wd → Int32 → Int32 → Int32 → Int32 → Int32 → Int32 → Option (Wd × Int32)} (hr274 : ∀ (w : Wd) (x1 : Int32) (x4 : Int32) (x5 : Int32) (x6 : Int32) (x7 : Int32) (x8 : Int32) (H : Heap) (locs : List Loc) (ls : Array Slot), rec274 w x1 x4 x5 x6 x7 x8 = some z → wH V (cM V) (AM V) s w H locs → lv_has ls 9 [(0, .ref (V.2.2 0)), (1, .int x1), (4, .int x4), (5, .int x5), (6, .int x6), (7, .int x7), (8, .int x8)] → W p l e (rmD (d + 1)) s m args below meth c H locs 0 0 (MQ below (CtI V (cM V) (AM V) z) args s 0 0 (AM V)) (F0 m 274 ls [])) {w : Wd} {x1 : Int32} {x4 : Int32} {x5 : Int32} {x6 : Int32} {x7 : Int32} {x8 : Int32} {y1 : Int32} {y2 : Int64} {y3 : Int64} {H : Heap} {locs : List Loc} {ls : Array Slot} (h : bX11_make_352 N d  rec274 w x1 x4 x5 x6 x7 x8 y1 y2 y3 = some z) (hH : wH V (cM V) (AM V) s w H locs) (hl : lv_has ls 9 [(0, .ref (V.2.2 0)), (1, .int x1), (4, .int x4), (5, .int x5), (6, .int x6), (7, .int x7), (8, .int x8)]) : W p l e (rmD (d + 1)) s m args below meth c H locs 0 0 (MQ below (CtI V (cM V) (AM V) z) args s 0 0 (AM V)) (F0 m 352 ls [.long y3, .long y2, .int y1, .ref (V.2.2 8)]) := by
  unfold bX11_make_352 at h
  obtain ⟨hx, hb, hml, hown, hg, hrt, hlk, hK⟩ := id X
  refine lv_ladd (pc := 352) hx hb dX11_make_352 ?_
  refine r_csL (pc := 353) (As := [.long (y2 + y3)]) (rest := [.int y1, .ref (V.2.2 8)]) X hH (fun x hx => mX11_cap hx) cs_X11_128 rfl rfl (Nat.le_of_ble_eq_true rfl) hl.1 h dX11_make_353 (fun w14 v15 H locs h hH => ?_)
  refine r_sl (pc := 356) X (heM_8 V w14) (hsM_8 V w14) hH h dX11_make_356 (fun w16 H locs h hH => ?_)
  obtain ⟨x8_17, ex8_17, h⟩ := c_nm_ex h
  refine lv_iinc (pc := 357) (v := x8_17) (lv' := [(8, .int x8_17), (0, .ref (V.2.2 0)), (1, .int x1), (4, .int x4), (5, .int x5), (6, .int x6), (7, .int x7)]) hx hb dX11_make_357 hl (k := 6) rfl (by rw [← ex8_17]; rfl) (by decide) rfl (fun ls hl => ?_)
  refine lv_goto (pc := 360) (tgt := 274) hx hb dX11_make_360 (by decide) ?_
  exact hr274 _ _ _ _ _ _ _ _ _ _ h hH (lv_sub hl [1, 2, 3, 4, 5, 6, 0] rfl)
def bX11_make_328 (N d : Nat)  (rec274 : Wd → Int32 → Int32 → Int32 → Int32 → Int32 → Int32 → Option (Wd × Int32)) (w : Wd) (x1 : Int32) (x4 : Int32) (x5 : Int32) (x6 : Int32) (x7 : Int32) (x8 : Int32) (y1 : Int32) (y2 : Int64) (y3 : Int64) : Option (Wd × Int32) :=
  if x4 ≤ 1 then (
    bX11_make_352 N d  rec274 w x1 x4 x5 x6 x7 x8 y1 (y2 + y3) 0
  ) else (
    c_ll w 8 8000 ((8 * x6) + x8) fun v18 =>
    bX11_make_352 N d  rec274 w x1 x4 x5 x6 x7 x8 y1 (y2 + y3) v18
  )
set_option maxHeartbeats 4000000 in
theorem kX11_make_328 {V : Ev} {p : Program} {l : Launch} {e : Env} {N d : Nat} {s : State} {m : MethodId} {args : Array Value} {below : List Frame} {meth : Method} {c : Code} {z : Wd × Int32} (X : CX V p s m args meth c cX11_make 9 RX11 (some .int))   {rec274 : Wd → Int32 → Int32 → Int32 → Int32 → Int32 → Int32 → Option (Wd × Int32)} (hr274 : ∀ (w : Wd) (x1 : Int32) (x4 : Int32) (x5 : Int32) (x6 : Int32) (x7 : Int32) (x8 : Int32) (H : Heap) (locs : List Loc) (ls : Array Slot), rec274 w x1 x4 x5 x6 x7 x8 = some z → wH V (cM V) (AM V) s w H locs → lv_has ls 9 [(0, .ref (V.2.2 0)), (1, .int x1), (4, .int x4), (5, .int x5), (6, .int x6), (7, .int x7), (8, .int x8)] → W p l e (rmD (d + 1)) s m args below meth c H locs 0 0 (MQ below (CtI V (cM V) (AM V) z) args s 0 0 (AM V)) (F0 m 274 ls [])) {w : Wd} {x1 : Int32} {x4 : Int32} {x5 : Int32} {x6 : Int32} {x7 : Int32} {x8 : Int32} {y1 : Int32} {y2 : Int64} {y3 : Int64} {H : Heap} {locs : List Loc} {ls : Array Slot} (h : bX11_make_328 N d  rec274 w x1 x4 x5 x6 x7 x8 y1 y2 y3 = some z) (hH : wH V (cM V) (AM V) s w H locs) (hl : lv_has ls 9 [(0, .ref (V.2.2 0)), (1, .int x1), (4, .int x4), (5, .int x5), (6, .int x6), (7, .int x7), (8, .int x8)]) : W p l e (rmD (d + 1)) s m args below meth c H locs 0 0 (MQ below (CtI V (cM V) (AM V) z) args s 0 0 (AM V)) (F0 m 328 ls [.long y3, .long y2, .int y1, .ref (V.2.2 8)]) := by
  unfold bX11_make_328 at h
  obtain ⟨hx, hb, hml, hown, hg, hrt, hlk, hK⟩ := id X
  refine lv_ladd (pc := 328) hx hb dX11_make_328 ?_
  refine lv_iload (pc := 329) hx hb dX11_make_329 (lv_at hl 2 rfl) ?_
  refine lv_iconst (pc := 331) (v := 1) hx hb dX11_make_331 (by decide) ?_
  refine b_icmp_le (pc := 332) (tgt := 351) hx hb h dX11_make_332 (by decide) (fun h => ?_) (fun h => ?_)
  · refine lv_lconst (pc := 351) (v := 0) hx hb dX11_make_351 (by decide) ?_
    exact kX11_make_352 X  hr274 h hH (lv_sub hl [0, 1, 2, 3, 4, 5, 6] rfl)
  · refine lv_aload_n (pc := 335) hx hb dX11_make_335 rfl (lv_at hl 0 rfl) ?_
    refine gM_X11_32_0 (pc := 336) X hH dX11_make_336 ?_
    refine lv_bipush (pc := 339) (v := 8) hx hb dX11_make_339 (by decide) ?_
    refine lv_iload (pc := 341) hx hb dX11_make_341 (lv_at hl 4 rfl) ?_
    refine lv_imul (pc := 343) hx hb dX11_make_343 ?_
    refine lv_iload (pc := 344) hx hb dX11_make_344 (lv_at hl 6 rfl) ?_
    refine lv_iadd (pc := 346) hx hb dX11_make_346 ?_
    refine r_ll (pc := 347) X (heM_8 V w) hH h dX11_make_347 (fun v18 h => ?_)
    refine lv_goto (pc := 348) (tgt := 352) hx hb dX11_make_348 (by decide) ?_
    exact kX11_make_352 X  hr274 h hH (lv_sub hl [0, 1, 2, 3, 4, 5, 6] rfl)
def bX11_make_306 (N d : Nat)  (rec274 : Wd → Int32 → Int32 → Int32 → Int32 → Int32 → Int32 → Option (Wd × Int32)) (w : Wd) (x1 : Int32) (x4 : Int32) (x5 : Int32) (x6 : Int32) (x7 : Int32) (x8 : Int32) (y1 : Int32) (y2 : Int64) : Option (Wd × Int32) :=
  if x4 ≤ 0 then (
    bX11_make_328 N d  rec274 w x1 x4 x5 x6 x7 x8 y1 y2 0
  ) else (
    c_ll w 8 8000 ((8 * x5) + x8) fun v19 =>
    bX11_make_328 N d  rec274 w x1 x4 x5 x6 x7 x8 y1 y2 v19
  )
set_option maxHeartbeats 4000000 in
theorem kX11_make_306 {V : Ev} {p : Program} {l : Launch} {e : Env} {N d : Nat} {s : State} {m : MethodId} {args : Array Value} {below : List Frame} {meth : Method} {c : Code} {z : Wd × Int32} (X : CX V p s m args meth c cX11_make 9 RX11 (some .int))   {rec274 : Wd → Int32 → Int32 → Int32 → Int32 → Int32 → Int32 → Option (Wd × Int32)} (hr274 : ∀ (w : Wd) (x1 : Int32) (x4 : Int32) (x5 : Int32) (x6 : Int32) (x7 : Int32) (x8 : Int32) (H : Heap) (locs : List Loc) (ls : Array Slot), rec274 w x1 x4 x5 x6 x7 x8 = some z → wH V (cM V) (AM V) s w H locs → lv_has ls 9 [(0, .ref (V.2.2 0)), (1, .int x1), (4, .int x4), (5, .int x5), (6, .int x6), (7, .int x7), (8, .int x8)] → W p l e (rmD (d + 1)) s m args below meth c H locs 0 0 (MQ below (CtI V (cM V) (AM V) z) args s 0 0 (AM V)) (F0 m 274 ls [])) {w : Wd} {x1 : Int32} {x4 : Int32} {x5 : Int32} {x6 : Int32} {x7 : Int32} {x8 : Int32} {y1 : Int32} {y2 : Int64} {H : Heap} {locs : List Loc} {ls : Array Slot} (h : bX11_make_306 N d  rec274 w x1 x4 x5 x6 x7 x8 y1 y2 = some z) (hH : wH V (cM V) (AM V) s w H locs) (hl : lv_has ls 9 [(0, .ref (V.2.2 0)), (1, .int x1), (4, .int x4), (5, .int x5), (6, .int x6), (7, .int x7), (8, .int x8)]) : W p l e (rmD (d + 1)) s m args below meth c H locs 0 0 (MQ below (CtI V (cM V) (AM V) z) args s 0 0 (AM V)) (F0 m 306 ls [.long y2, .int y1, .ref (V.2.2 8)]) := by
  unfold bX11_make_306 at h
  obtain ⟨hx, hb, hml, hown, hg, hrt, hlk, hK⟩ := id X
  refine lv_iload (pc := 306) hx hb dX11_make_306 (lv_at hl 2 rfl) ?_
  refine b_if_le (pc := 308) (tgt := 327) hx hb h dX11_make_308 (by decide) (fun h => ?_) (fun h => ?_)
  · refine lv_lconst (pc := 327) (v := 0) hx hb dX11_make_327 (by decide) ?_
    exact kX11_make_328 X  hr274 h hH (lv_sub hl [0, 1, 2, 3, 4, 5, 6] rfl)
  · refine lv_aload_n (pc := 311) hx hb dX11_make_311 rfl (lv_at hl 0 rfl) ?_
    refine gM_X11_32_0 (pc := 312) X hH dX11_make_312 ?_
    refine lv_bipush (pc := 315) (v := 8) hx hb dX11_make_315 (by decide) ?_
    refine lv_iload (pc := 317) hx hb dX11_make_317 (lv_at hl 3 rfl) ?_
    refine lv_imul (pc := 319) hx hb dX11_make_319 ?_
    refine lv_iload (pc := 320) hx hb dX11_make_320 (lv_at hl 6 rfl) ?_
    refine lv_iadd (pc := 322) hx hb dX11_make_322 ?_
    refine r_ll (pc := 323) X (heM_8 V w) hH h dX11_make_323 (fun v19 h => ?_)
    refine lv_goto (pc := 324) (tgt := 328) hx hb dX11_make_324 (by decide) ?_
    exact kX11_make_328 X  hr274 h hH (lv_sub hl [0, 1, 2, 3, 4, 5, 6] rfl)
def bX11_make_274 (N d : Nat)  (rec274 : Wd → Int32 → Int32 → Int32 → Int32 → Int32 → Int32 → Option (Wd × Int32)) (w : Wd) (x1 : Int32) (x4 : Int32) (x5 : Int32) (x6 : Int32) (x7 : Int32) (x8 : Int32) : Option (Wd × Int32) :=
  if 8 ≤ x8 then (
    some (w, x7)
  ) else (
    if x1 = ((-1) - x8) then (
      bX11_make_306 N d  rec274 w x1 x4 x5 x6 x7 x8 ((8 * x7) + x8) 1
    ) else (
      bX11_make_306 N d  rec274 w x1 x4 x5 x6 x7 x8 ((8 * x7) + x8) 0
    )
  )
set_option maxHeartbeats 4000000 in
theorem kX11_make_274 {V : Ev} {p : Program} {l : Launch} {e : Env} {N d : Nat} {s : State} {m : MethodId} {args : Array Value} {below : List Frame} {meth : Method} {c : Code} {z : Wd × Int32} (X : CX V p s m args meth c cX11_make 9 RX11 (some .int))   {rec274 : Wd → Int32 → Int32 → Int32 → Int32 → Int32 → Int32 → Option (Wd × Int32)} (hr274 : ∀ (w : Wd) (x1 : Int32) (x4 : Int32) (x5 : Int32) (x6 : Int32) (x7 : Int32) (x8 : Int32) (H : Heap) (locs : List Loc) (ls : Array Slot), rec274 w x1 x4 x5 x6 x7 x8 = some z → wH V (cM V) (AM V) s w H locs → lv_has ls 9 [(0, .ref (V.2.2 0)), (1, .int x1), (4, .int x4), (5, .int x5), (6, .int x6), (7, .int x7), (8, .int x8)] → W p l e (rmD (d + 1)) s m args below meth c H locs 0 0 (MQ below (CtI V (cM V) (AM V) z) args s 0 0 (AM V)) (F0 m 274 ls [])) {w : Wd} {x1 : Int32} {x4 : Int32} {x5 : Int32} {x6 : Int32} {x7 : Int32} {x8 : Int32} {H : Heap} {locs : List Loc} {ls : Array Slot} (h : bX11_make_274 N d  rec274 w x1 x4 x5 x6 x7 x8 = some z) (hH : wH V (cM V) (AM V) s w H locs) (hl : lv_has ls 9 [(0, .ref (V.2.2 0)), (1, .int x1), (4, .int x4), (5, .int x5), (6, .int x6), (7, .int x7), (8, .int x8)]) : W p l e (rmD (d + 1)) s m args below meth c H locs 0 0 (MQ below (CtI V (cM V) (AM V) z) args s 0 0 (AM V)) (F0 m 274 ls []) := by
  unfold bX11_make_274 at h
  obtain ⟨hx, hb, hml, hown, hg, hrt, hlk, hK⟩ := id X
  refine lv_iload (pc := 274) hx hb dX11_make_274 (lv_at hl 6 rfl) ?_
  refine lv_bipush (pc := 276) (v := 8) hx hb dX11_make_276 (by decide) ?_
  refine b_icmp_ge (pc := 278) (tgt := 363) hx hb h dX11_make_278 (by decide) (fun h => ?_) (fun h => ?_)
  · refine lv_iload (pc := 363) hx hb dX11_make_363 (lv_at hl 5 rfl) ?_
    exact r_iret (pc := 365) X hH h dX11_make_365
  · refine lv_aload_n (pc := 281) hx hb dX11_make_281 rfl (lv_at hl 0 rfl) ?_
    refine gM_X11_32_0 (pc := 282) X hH dX11_make_282 ?_
    refine lv_bipush (pc := 285) (v := 8) hx hb dX11_make_285 (by decide) ?_
    refine lv_iload (pc := 287) hx hb dX11_make_287 (lv_at hl 5 rfl) ?_
    refine lv_imul (pc := 289) hx hb dX11_make_289 ?_
    refine lv_iload (pc := 290) hx hb dX11_make_290 (lv_at hl 6 rfl) ?_
    refine lv_iadd (pc := 292) hx hb dX11_make_292 ?_
    refine lv_iload_n (pc := 293) hx hb dX11_make_293 rfl (lv_at hl 1 rfl) ?_
    refine lv_iconst (pc := 294) (v := -1) hx hb dX11_make_294 (by decide) ?_
    refine lv_iload (pc := 295) hx hb dX11_make_295 (lv_at hl 6 rfl) ?_
    refine lv_isub (pc := 297) hx hb dX11_make_297 ?_
    refine b_icmp_ne (pc := 298) (tgt := 305) hx hb h dX11_make_298 (by decide) (fun h => ?_) (fun h => ?_)
    · refine lv_lconst (pc := 305) (v := 0) hx hb dX11_make_305 (by decide) ?_
      exact kX11_make_306 X  hr274 h hH (lv_sub hl [0, 1, 2, 3, 4, 5, 6] rfl)
    · refine lv_lconst (pc := 301) (v := 1) hx hb dX11_make_301 (by decide) ?_
      refine lv_goto (pc := 302) (tgt := 306) hx hb dX11_make_302 (by decide) ?_
      exact kX11_make_306 X  hr274 h hH (lv_sub hl [0, 1, 2, 3, 4, 5, 6] rfl)
def fX11_make_274 (N d : Nat)   : Nat → Wd → Int32 → Int32 → Int32 → Int32 → Int32 → Int32 → Option (Wd × Int32)
  | 0 => fun _ _ _ _ _ _ _ => none
  | n + 1 => fun w x1 x4 x5 x6 x7 x8 => bX11_make_274 N d   (fX11_make_274 N d   n) w x1 x4 x5 x6 x7 x8
theorem lX11_make_274 {V : Ev} {p : Program} {l : Launch} {e : Env} {N d : Nat} {s : State} {m : MethodId} {args : Array Value} {below : List Frame} {meth : Method} {c : Code} {z : Wd × Int32} (X : CX V p s m args meth c cX11_make 9 RX11 (some .int))    (n : Nat) {w : Wd} {x1 : Int32} {x4 : Int32} {x5 : Int32} {x6 : Int32} {x7 : Int32} {x8 : Int32} {H : Heap} {locs : List Loc} {ls : Array Slot} (h : fX11_make_274 N d   n w x1 x4 x5 x6 x7 x8 = some z) (hH : wH V (cM V) (AM V) s w H locs) (hl : lv_has ls 9 [(0, .ref (V.2.2 0)), (1, .int x1), (4, .int x4), (5, .int x5), (6, .int x6), (7, .int x7), (8, .int x8)]) : W p l e (rmD (d + 1)) s m args below meth c H locs 0 0 (MQ below (CtI V (cM V) (AM V) z) args s 0 0 (AM V)) (F0 m 274 ls []) := by
  induction n generalizing w x1 x4 x5 x6 x7 x8 H locs ls with
  | zero => exact c_none h
  | succ n ih => exact kX11_make_274 (N := N) X  (fun _ _ _ _ _ _ _ _ _ _ h hH hl => ih h hH hl) h hH hl
def bX11_make_266 (N d : Nat)   (w : Wd) (x1 : Int32) (x4 : Int32) (x5 : Int32) (x6 : Int32) (x7 : Int32) (y1 : Int32) (y2 : Int64) (y3 : Int64) : Option (Wd × Int32) :=
  c_cl (eX11_cap N d w (y2 + y3)) fun w11 v12 =>
  c_sl w11 7 1000 y1 v12 fun w13 =>
  fX11_make_274 N d   N w13 x1 x4 x5 x6 x7 ((0 : Int32))
set_option maxHeartbeats 4000000 in
theorem kX11_make_266 {V : Ev} {p : Program} {l : Launch} {e : Env} {N d : Nat} {s : State} {m : MethodId} {args : Array Value} {below : List Frame} {meth : Method} {c : Code} {z : Wd × Int32} (X : CX V p s m args meth c cX11_make 9 RX11 (some .int))    {w : Wd} {x1 : Int32} {x4 : Int32} {x5 : Int32} {x6 : Int32} {x7 : Int32} {y1 : Int32} {y2 : Int64} {y3 : Int64} {H : Heap} {locs : List Loc} {ls : Array Slot} (h : bX11_make_266 N d   w x1 x4 x5 x6 x7 y1 y2 y3 = some z) (hH : wH V (cM V) (AM V) s w H locs) (hl : lv_has ls 9 [(0, .ref (V.2.2 0)), (1, .int x1), (4, .int x4), (5, .int x5), (6, .int x6), (7, .int x7)]) : W p l e (rmD (d + 1)) s m args below meth c H locs 0 0 (MQ below (CtI V (cM V) (AM V) z) args s 0 0 (AM V)) (F0 m 266 ls [.long y3, .long y2, .int y1, .ref (V.2.2 7)]) := by
  unfold bX11_make_266 at h
  obtain ⟨hx, hb, hml, hown, hg, hrt, hlk, hK⟩ := id X
  refine lv_ladd (pc := 266) hx hb dX11_make_266 ?_
  refine r_csL (pc := 267) (As := [.long (y2 + y3)]) (rest := [.int y1, .ref (V.2.2 7)]) X hH (fun x hx => mX11_cap hx) cs_X11_128 rfl rfl (Nat.le_of_ble_eq_true rfl) hl.1 h dX11_make_267 (fun w11 v12 H locs h hH => ?_)
  refine r_sl (pc := 270) X (heM_7 V w11) (hsM_7 V w11) hH h dX11_make_270 (fun w13 H locs h hH => ?_)
  refine lv_iconst (pc := 271) (v := 0) hx hb dX11_make_271 (by decide) ?_
  refine lv_istore (pc := 272) (lv' := [(8, .int ((0 : Int32))), (0, .ref (V.2.2 0)), (1, .int x1), (4, .int x4), (5, .int x5), (6, .int x6), (7, .int x7)]) hx hb dX11_make_272 hl (by decide) rfl (fun ls hl => ?_)
  exact lX11_make_274 X   N h hH (lv_sub hl [1, 2, 3, 4, 5, 6, 0] rfl)
def bX11_make_248 (N d : Nat)   (w : Wd) (x1 : Int32) (x4 : Int32) (x5 : Int32) (x6 : Int32) (x7 : Int32) (y1 : Int32) (y2 : Int64) (y3 : Int64) : Option (Wd × Int32) :=
  if x4 ≤ 1 then (
    bX11_make_266 N d   w x1 x4 x5 x6 x7 y1 (y2 + y3) 0
  ) else (
    c_ll w 7 1000 x6 fun v20 =>
    bX11_make_266 N d   w x1 x4 x5 x6 x7 y1 (y2 + y3) v20
  )
set_option maxHeartbeats 4000000 in
theorem kX11_make_248 {V : Ev} {p : Program} {l : Launch} {e : Env} {N d : Nat} {s : State} {m : MethodId} {args : Array Value} {below : List Frame} {meth : Method} {c : Code} {z : Wd × Int32} (X : CX V p s m args meth c cX11_make 9 RX11 (some .int))    {w : Wd} {x1 : Int32} {x4 : Int32} {x5 : Int32} {x6 : Int32} {x7 : Int32} {y1 : Int32} {y2 : Int64} {y3 : Int64} {H : Heap} {locs : List Loc} {ls : Array Slot} (h : bX11_make_248 N d   w x1 x4 x5 x6 x7 y1 y2 y3 = some z) (hH : wH V (cM V) (AM V) s w H locs) (hl : lv_has ls 9 [(0, .ref (V.2.2 0)), (1, .int x1), (4, .int x4), (5, .int x5), (6, .int x6), (7, .int x7)]) : W p l e (rmD (d + 1)) s m args below meth c H locs 0 0 (MQ below (CtI V (cM V) (AM V) z) args s 0 0 (AM V)) (F0 m 248 ls [.long y3, .long y2, .int y1, .ref (V.2.2 7)]) := by
  unfold bX11_make_248 at h
  obtain ⟨hx, hb, hml, hown, hg, hrt, hlk, hK⟩ := id X
  refine lv_ladd (pc := 248) hx hb dX11_make_248 ?_
  refine lv_iload (pc := 249) hx hb dX11_make_249 (lv_at hl 2 rfl) ?_
  refine lv_iconst (pc := 251) (v := 1) hx hb dX11_make_251 (by decide) ?_
  refine b_icmp_le (pc := 252) (tgt := 265) hx hb h dX11_make_252 (by decide) (fun h => ?_) (fun h => ?_)
  · refine lv_lconst (pc := 265) (v := 0) hx hb dX11_make_265 (by decide) ?_
    exact kX11_make_266 X   h hH (lv_sub hl [0, 1, 2, 3, 4, 5] rfl)
  · refine lv_aload_n (pc := 255) hx hb dX11_make_255 rfl (lv_at hl 0 rfl) ?_
    refine gM_X11_29_0 (pc := 256) X hH dX11_make_256 ?_
    refine lv_iload (pc := 259) hx hb dX11_make_259 (lv_at hl 4 rfl) ?_
    refine r_ll (pc := 261) X (heM_7 V w) hH h dX11_make_261 (fun v20 h => ?_)
    refine lv_goto (pc := 262) (tgt := 266) hx hb dX11_make_262 (by decide) ?_
    exact kX11_make_266 X   h hH (lv_sub hl [0, 1, 2, 3, 4, 5] rfl)
def bX11_make_232 (N d : Nat)   (w : Wd) (x1 : Int32) (x4 : Int32) (x5 : Int32) (x6 : Int32) (x7 : Int32) (y1 : Int32) (y2 : Int64) : Option (Wd × Int32) :=
  if x4 ≤ 0 then (
    bX11_make_248 N d   w x1 x4 x5 x6 x7 y1 y2 0
  ) else (
    c_ll w 7 1000 x5 fun v21 =>
    bX11_make_248 N d   w x1 x4 x5 x6 x7 y1 y2 v21
  )
set_option maxHeartbeats 4000000 in
theorem kX11_make_232 {V : Ev} {p : Program} {l : Launch} {e : Env} {N d : Nat} {s : State} {m : MethodId} {args : Array Value} {below : List Frame} {meth : Method} {c : Code} {z : Wd × Int32} (X : CX V p s m args meth c cX11_make 9 RX11 (some .int))    {w : Wd} {x1 : Int32} {x4 : Int32} {x5 : Int32} {x6 : Int32} {x7 : Int32} {y1 : Int32} {y2 : Int64} {H : Heap} {locs : List Loc} {ls : Array Slot} (h : bX11_make_232 N d   w x1 x4 x5 x6 x7 y1 y2 = some z) (hH : wH V (cM V) (AM V) s w H locs) (hl : lv_has ls 9 [(0, .ref (V.2.2 0)), (1, .int x1), (4, .int x4), (5, .int x5), (6, .int x6), (7, .int x7)]) : W p l e (rmD (d + 1)) s m args below meth c H locs 0 0 (MQ below (CtI V (cM V) (AM V) z) args s 0 0 (AM V)) (F0 m 232 ls [.long y2, .int y1, .ref (V.2.2 7)]) := by
  unfold bX11_make_232 at h
  obtain ⟨hx, hb, hml, hown, hg, hrt, hlk, hK⟩ := id X
  refine lv_iload (pc := 232) hx hb dX11_make_232 (lv_at hl 2 rfl) ?_
  refine b_if_le (pc := 234) (tgt := 247) hx hb h dX11_make_234 (by decide) (fun h => ?_) (fun h => ?_)
  · refine lv_lconst (pc := 247) (v := 0) hx hb dX11_make_247 (by decide) ?_
    exact kX11_make_248 X   h hH (lv_sub hl [0, 1, 2, 3, 4, 5] rfl)
  · refine lv_aload_n (pc := 237) hx hb dX11_make_237 rfl (lv_at hl 0 rfl) ?_
    refine gM_X11_29_0 (pc := 238) X hH dX11_make_238 ?_
    refine lv_iload (pc := 241) hx hb dX11_make_241 (lv_at hl 3 rfl) ?_
    refine r_ll (pc := 243) X (heM_7 V w) hH h dX11_make_243 (fun v21 h => ?_)
    refine lv_goto (pc := 244) (tgt := 248) hx hb dX11_make_244 (by decide) ?_
    exact kX11_make_248 X   h hH (lv_sub hl [0, 1, 2, 3, 4, 5] rfl)
def bX11_make_206 (N d : Nat)   (w : Wd) (x1 : Int32) (x4 : Int32) (x5 : Int32) (x6 : Int32) (x7 : Int32) (y1 : Int32) (y2 : Int64) (y3 : Int64) : Option (Wd × Int32) :=
  c_cl (eX11_cap N d w (y2 + y3)) fun w7 v8 =>
  c_sl w7 6 1000 y1 v8 fun w9 =>
  if 0 ≤ x1 then (
    c_ld w9 2 10 x1 fun v10 =>
    bX11_make_232 N d   w9 x1 x4 x5 x6 x7 x7 (Int32.toInt64 v10)
  ) else (
    bX11_make_232 N d   w9 x1 x4 x5 x6 x7 x7 1
  )
set_option maxHeartbeats 4000000 in
theorem kX11_make_206 {V : Ev} {p : Program} {l : Launch} {e : Env} {N d : Nat} {s : State} {m : MethodId} {args : Array Value} {below : List Frame} {meth : Method} {c : Code} {z : Wd × Int32} (X : CX V p s m args meth c cX11_make 9 RX11 (some .int))    {w : Wd} {x1 : Int32} {x4 : Int32} {x5 : Int32} {x6 : Int32} {x7 : Int32} {y1 : Int32} {y2 : Int64} {y3 : Int64} {H : Heap} {locs : List Loc} {ls : Array Slot} (h : bX11_make_206 N d   w x1 x4 x5 x6 x7 y1 y2 y3 = some z) (hH : wH V (cM V) (AM V) s w H locs) (hl : lv_has ls 9 [(0, .ref (V.2.2 0)), (1, .int x1), (4, .int x4), (5, .int x5), (6, .int x6), (7, .int x7)]) : W p l e (rmD (d + 1)) s m args below meth c H locs 0 0 (MQ below (CtI V (cM V) (AM V) z) args s 0 0 (AM V)) (F0 m 206 ls [.long y3, .long y2, .int y1, .ref (V.2.2 6)]) := by
  unfold bX11_make_206 at h
  obtain ⟨hx, hb, hml, hown, hg, hrt, hlk, hK⟩ := id X
  refine lv_ladd (pc := 206) hx hb dX11_make_206 ?_
  refine r_csL (pc := 207) (As := [.long (y2 + y3)]) (rest := [.int y1, .ref (V.2.2 6)]) X hH (fun x hx => mX11_cap hx) cs_X11_128 rfl rfl (Nat.le_of_ble_eq_true rfl) hl.1 h dX11_make_207 (fun w7 v8 H locs h hH => ?_)
  refine r_sl (pc := 210) X (heM_6 V w7) (hsM_6 V w7) hH h dX11_make_210 (fun w9 H locs h hH => ?_)
  refine lv_aload_n (pc := 211) hx hb dX11_make_211 rfl (lv_at hl 0 rfl) ?_
  refine gM_X11_29_0 (pc := 212) X hH dX11_make_212 ?_
  refine lv_iload (pc := 215) hx hb dX11_make_215 (lv_at hl 5 rfl) ?_
  refine lv_iload_n (pc := 217) hx hb dX11_make_217 rfl (lv_at hl 1 rfl) ?_
  refine b_if_ge (pc := 218) (tgt := 225) hx hb h dX11_make_218 (by decide) (fun h => ?_) (fun h => ?_)
  · refine lv_aload_n (pc := 225) hx hb dX11_make_225 rfl (lv_at hl 0 rfl) ?_
    refine gM_X11_13_0 (pc := 226) X hH dX11_make_226 ?_
    refine lv_iload_n (pc := 229) hx hb dX11_make_229 rfl (lv_at hl 1 rfl) ?_
    refine r_ld (pc := 230) X (heM_2 V w9) hH h dX11_make_230 (fun v10 h => ?_)
    refine lv_i2l (pc := 231) hx hb dX11_make_231 rfl ?_
    exact kX11_make_232 X   h hH (lv_sub hl [0, 1, 2, 3, 4, 5] rfl)
  · refine lv_lconst (pc := 221) (v := 1) hx hb dX11_make_221 (by decide) ?_
    refine lv_goto (pc := 222) (tgt := 232) hx hb dX11_make_222 (by decide) ?_
    exact kX11_make_232 X   h hH (lv_sub hl [0, 1, 2, 3, 4, 5] rfl)
def bX11_make_188 (N d : Nat)   (w : Wd) (x1 : Int32) (x4 : Int32) (x5 : Int32) (x6 : Int32) (x7 : Int32) (y1 : Int32) (y2 : Int64) (y3 : Int64) : Option (Wd × Int32) :=
  if x4 ≤ 1 then (
    bX11_make_206 N d   w x1 x4 x5 x6 x7 y1 (y2 + y3) 0
  ) else (
    c_ll w 6 1000 x6 fun v22 =>
    bX11_make_206 N d   w x1 x4 x5 x6 x7 y1 (y2 + y3) v22
  )
set_option maxHeartbeats 4000000 in
theorem kX11_make_188 {V : Ev} {p : Program} {l : Launch} {e : Env} {N d : Nat} {s : State} {m : MethodId} {args : Array Value} {below : List Frame} {meth : Method} {c : Code} {z : Wd × Int32} (X : CX V p s m args meth c cX11_make 9 RX11 (some .int))    {w : Wd} {x1 : Int32} {x4 : Int32} {x5 : Int32} {x6 : Int32} {x7 : Int32} {y1 : Int32} {y2 : Int64} {y3 : Int64} {H : Heap} {locs : List Loc} {ls : Array Slot} (h : bX11_make_188 N d   w x1 x4 x5 x6 x7 y1 y2 y3 = some z) (hH : wH V (cM V) (AM V) s w H locs) (hl : lv_has ls 9 [(0, .ref (V.2.2 0)), (1, .int x1), (4, .int x4), (5, .int x5), (6, .int x6), (7, .int x7)]) : W p l e (rmD (d + 1)) s m args below meth c H locs 0 0 (MQ below (CtI V (cM V) (AM V) z) args s 0 0 (AM V)) (F0 m 188 ls [.long y3, .long y2, .int y1, .ref (V.2.2 6)]) := by
  unfold bX11_make_188 at h
  obtain ⟨hx, hb, hml, hown, hg, hrt, hlk, hK⟩ := id X
  refine lv_ladd (pc := 188) hx hb dX11_make_188 ?_
  refine lv_iload (pc := 189) hx hb dX11_make_189 (lv_at hl 2 rfl) ?_
  refine lv_iconst (pc := 191) (v := 1) hx hb dX11_make_191 (by decide) ?_
  refine b_icmp_le (pc := 192) (tgt := 205) hx hb h dX11_make_192 (by decide) (fun h => ?_) (fun h => ?_)
  · refine lv_lconst (pc := 205) (v := 0) hx hb dX11_make_205 (by decide) ?_
    exact kX11_make_206 X   h hH (lv_sub hl [0, 1, 2, 3, 4, 5] rfl)
  · refine lv_aload_n (pc := 195) hx hb dX11_make_195 rfl (lv_at hl 0 rfl) ?_
    refine gM_X11_25_0 (pc := 196) X hH dX11_make_196 ?_
    refine lv_iload (pc := 199) hx hb dX11_make_199 (lv_at hl 4 rfl) ?_
    refine r_ll (pc := 201) X (heM_6 V w) hH h dX11_make_201 (fun v22 h => ?_)
    refine lv_goto (pc := 202) (tgt := 206) hx hb dX11_make_202 (by decide) ?_
    exact kX11_make_206 X   h hH (lv_sub hl [0, 1, 2, 3, 4, 5] rfl)
def bX11_make_100 (N d : Nat)  (rec53 : Wd → Int32 → Int32 → Int32 → Int32 → Int32 → Option (Wd × Int32)) (w : Wd) (x1 : Int32) (x4 : Int32) (x5 : Int32) (x6 : Int32) (x7 : Int32) : Option (Wd × Int32) :=
  c_nm (x7 + 1) fun x7_26 =>
  rec53 w x1 x4 x5 x6 x7_26
set_option maxHeartbeats 4000000 in
theorem kX11_make_100 {V : Ev} {p : Program} {l : Launch} {e : Env} {N d : Nat} {s : State} {m : MethodId} {args : Array Value} {below : List Frame} {meth : Method} {c : Code} {z : Wd × Int32} (X : CX V p s m args meth c cX11_make 9 RX11 (some .int))   {rec53 : Wd → Int32 → Int32 → Int32 → Int32 → Int32 → Option (Wd × Int32)} (hr53 : ∀ (w : Wd) (x1 : Int32) (x4 : Int32) (x5 : Int32) (x6 : Int32) (x7 : Int32) (H : Heap) (locs : List Loc) (ls : Array Slot), rec53 w x1 x4 x5 x6 x7 = some z → wH V (cM V) (AM V) s w H locs → lv_has ls 9 [(0, .ref (V.2.2 0)), (1, .int x1), (4, .int x4), (5, .int x5), (6, .int x6), (7, .int x7)] → W p l e (rmD (d + 1)) s m args below meth c H locs 0 0 (MQ below (CtI V (cM V) (AM V) z) args s 0 0 (AM V)) (F0 m 53 ls [])) {w : Wd} {x1 : Int32} {x4 : Int32} {x5 : Int32} {x6 : Int32} {x7 : Int32} {H : Heap} {locs : List Loc} {ls : Array Slot} (h : bX11_make_100 N d  rec53 w x1 x4 x5 x6 x7 = some z) (hH : wH V (cM V) (AM V) s w H locs) (hl : lv_has ls 9 [(0, .ref (V.2.2 0)), (1, .int x1), (4, .int x4), (5, .int x5), (6, .int x6), (7, .int x7)]) : W p l e (rmD (d + 1)) s m args below meth c H locs 0 0 (MQ below (CtI V (cM V) (AM V) z) args s 0 0 (AM V)) (F0 m 100 ls []) := by
  unfold bX11_make_100 at h
  obtain ⟨hx, hb, hml, hown, hg, hrt, hlk, hK⟩ := id X
  obtain ⟨x7_26, ex7_26, h⟩ := c_nm_ex h
  refine lv_iinc (pc := 100) (v := x7_26) (lv' := [(7, .int x7_26), (0, .ref (V.2.2 0)), (1, .int x1), (4, .int x4), (5, .int x5), (6, .int x6)]) hx hb dX11_make_100 hl (k := 5) rfl (by rw [← ex7_26]; rfl) (by decide) rfl (fun ls hl => ?_)
  refine lv_goto (pc := 103) (tgt := 53) hx hb dX11_make_103 (by decide) ?_
  exact hr53 _ _ _ _ _ _ _ _ _ h hH (lv_sub hl [1, 2, 3, 4, 5, 0] rfl)
def bX11_make_53 (N d : Nat)  (rec53 : Wd → Int32 → Int32 → Int32 → Int32 → Int32 → Option (Wd × Int32)) (w : Wd) (x1 : Int32) (x4 : Int32) (x5 : Int32) (x6 : Int32) (x7 : Int32) : Option (Wd × Int32) :=
  if (sI w 2) ≤ x7 then (
    if (sI w 2) = 1000 then (
      c_pi w 4 1 fun w24 =>
      some (w24, -1)
    ) else (
      c_nm (sI w 2) fun x7_2 =>
      c_pi w 2 ((sI w 2) + 1) fun w3 =>
      c_st w3 3 1000 x7_2 x1 fun w4 =>
      c_st w4 4 1000 x7_2 x5 fun w5 =>
      c_st w5 5 1000 x7_2 x6 fun w6 =>
      if x4 ≤ 0 then (
        bX11_make_188 N d   w6 x1 x4 x5 x6 x7_2 x7_2 1 0
      ) else (
        c_ll w6 6 1000 x5 fun v23 =>
        bX11_make_188 N d   w6 x1 x4 x5 x6 x7_2 x7_2 1 v23
      )
    )
  ) else (
    c_ld w 3 1000 x7 fun v25 =>
    if v25 = x1 then (
      c_ld w 4 1000 x7 fun v27 =>
      if v27 = x5 then (
        c_ld w 5 1000 x7 fun v28 =>
        if v28 = x6 then (
          some (w, x7)
        ) else (
          bX11_make_100 N d  rec53 w x1 x4 x5 x6 x7
        )
      ) else (
        bX11_make_100 N d  rec53 w x1 x4 x5 x6 x7
      )
    ) else (
      bX11_make_100 N d  rec53 w x1 x4 x5 x6 x7
    )
  )
set_option maxHeartbeats 4000000 in
theorem kX11_make_53 {V : Ev} {p : Program} {l : Launch} {e : Env} {N d : Nat} {s : State} {m : MethodId} {args : Array Value} {below : List Frame} {meth : Method} {c : Code} {z : Wd × Int32} (X : CX V p s m args meth c cX11_make 9 RX11 (some .int))   {rec53 : Wd → Int32 → Int32 → Int32 → Int32 → Int32 → Option (Wd × Int32)} (hr53 : ∀ (w : Wd) (x1 : Int32) (x4 : Int32) (x5 : Int32) (x6 : Int32) (x7 : Int32) (H : Heap) (locs : List Loc) (ls : Array Slot), rec53 w x1 x4 x5 x6 x7 = some z → wH V (cM V) (AM V) s w H locs → lv_has ls 9 [(0, .ref (V.2.2 0)), (1, .int x1), (4, .int x4), (5, .int x5), (6, .int x6), (7, .int x7)] → W p l e (rmD (d + 1)) s m args below meth c H locs 0 0 (MQ below (CtI V (cM V) (AM V) z) args s 0 0 (AM V)) (F0 m 53 ls [])) {w : Wd} {x1 : Int32} {x4 : Int32} {x5 : Int32} {x6 : Int32} {x7 : Int32} {H : Heap} {locs : List Loc} {ls : Array Slot} (h : bX11_make_53 N d  rec53 w x1 x4 x5 x6 x7 = some z) (hH : wH V (cM V) (AM V) s w H locs) (hl : lv_has ls 9 [(0, .ref (V.2.2 0)), (1, .int x1), (4, .int x4), (5, .int x5), (6, .int x6), (7, .int x7)]) : W p l e (rmD (d + 1)) s m args below meth c H locs 0 0 (MQ below (CtI V (cM V) (AM V) z) args s 0 0 (AM V)) (F0 m 53 ls []) := by
  unfold bX11_make_53 at h
  obtain ⟨hx, hb, hml, hown, hg, hrt, hlk, hK⟩ := id X
  refine lv_iload (pc := 53) hx hb dX11_make_53 (lv_at hl 5 rfl) ?_
  refine lv_aload_n (pc := 55) hx hb dX11_make_55 rfl (lv_at hl 0 rfl) ?_
  refine gM_X11_125_0 (pc := 56) X hH dX11_make_56 ?_
  refine b_icmp_ge (pc := 59) (tgt := 106) hx hb h dX11_make_59 (by decide) (fun h => ?_) (fun h => ?_)
  · refine lv_aload_n (pc := 106) hx hb dX11_make_106 rfl (lv_at hl 0 rfl) ?_
    refine gM_X11_125_0 (pc := 107) X hH dX11_make_107 ?_
    refine lv_sipush (pc := 110) (v := 1000) hx hb dX11_make_110 (by decide) ?_
    refine b_icmp_ne (pc := 113) (tgt := 123) hx hb h dX11_make_113 (by decide) (fun h => ?_) (fun h => ?_)
    · refine lv_aload_n (pc := 123) hx hb dX11_make_123 rfl (lv_at hl 0 rfl) ?_
      refine gM_X11_125_0 (pc := 124) X hH dX11_make_124 ?_
      refine r_nmi h (fun x7_2 h => ?_)
      refine lv_istore (pc := 127) (lv' := [(7, .int x7_2), (0, .ref (V.2.2 0)), (1, .int x1), (4, .int x4), (5, .int x5), (6, .int x6)]) hx hb dX11_make_127 hl (by decide) rfl (fun ls hl => ?_)
      refine lv_aload_n (pc := 129) hx hb dX11_make_129 rfl (lv_at hl 1 rfl) ?_
      refine lv_dup (pc := 130) hx hb dX11_make_130 rfl ?_
      refine gM_X11_125_0 (pc := 131) X hH dX11_make_131 ?_
      refine lv_iconst (pc := 134) (v := 1) hx hb dX11_make_134 (by decide) ?_
      refine lv_iadd (pc := 135) hx hb dX11_make_135 ?_
      refine pM_X11_125_0 (pc := 136) X hH h dX11_make_136 (fun w3 H locs h hH => ?_)
      refine lv_aload_n (pc := 139) hx hb dX11_make_139 rfl (lv_at hl 1 rfl) ?_
      refine gM_X11_16_0 (pc := 140) X hH dX11_make_140 ?_
      refine lv_iload (pc := 143) hx hb dX11_make_143 (lv_at hl 0 rfl) ?_
      refine lv_iload_n (pc := 145) hx hb dX11_make_145 rfl (lv_at hl 2 rfl) ?_
      refine r_st (pc := 146) X (heM_3 V w3) (hsM_3 V w3) hH h dX11_make_146 (fun w4 H locs h hH => ?_)
      refine lv_aload_n (pc := 147) hx hb dX11_make_147 rfl (lv_at hl 1 rfl) ?_
      refine gM_X11_19_0 (pc := 148) X hH dX11_make_148 ?_
      refine lv_iload (pc := 151) hx hb dX11_make_151 (lv_at hl 0 rfl) ?_
      refine lv_iload (pc := 153) hx hb dX11_make_153 (lv_at hl 4 rfl) ?_
      refine r_st (pc := 155) X (heM_4 V w4) (hsM_4 V w4) hH h dX11_make_155 (fun w5 H locs h hH => ?_)
      refine lv_aload_n (pc := 156) hx hb dX11_make_156 rfl (lv_at hl 1 rfl) ?_
      refine gM_X11_22_0 (pc := 157) X hH dX11_make_157 ?_
      refine lv_iload (pc := 160) hx hb dX11_make_160 (lv_at hl 0 rfl) ?_
      refine lv_iload (pc := 162) hx hb dX11_make_162 (lv_at hl 5 rfl) ?_
      refine r_st (pc := 164) X (heM_5 V w5) (hsM_5 V w5) hH h dX11_make_164 (fun w6 H locs h hH => ?_)
      refine lv_aload_n (pc := 165) hx hb dX11_make_165 rfl (lv_at hl 1 rfl) ?_
      refine gM_X11_25_0 (pc := 166) X hH dX11_make_166 ?_
      refine lv_iload (pc := 169) hx hb dX11_make_169 (lv_at hl 0 rfl) ?_
      refine lv_lconst (pc := 171) (v := 1) hx hb dX11_make_171 (by decide) ?_
      refine lv_iload (pc := 172) hx hb dX11_make_172 (lv_at hl 3 rfl) ?_
      refine b_if_le (pc := 174) (tgt := 187) hx hb h dX11_make_174 (by decide) (fun h => ?_) (fun h => ?_)
      · refine lv_lconst (pc := 187) (v := 0) hx hb dX11_make_187 (by decide) ?_
        exact kX11_make_188 X   h hH (lv_sub hl [1, 2, 3, 4, 5, 0] rfl)
      · refine lv_aload_n (pc := 177) hx hb dX11_make_177 rfl (lv_at hl 1 rfl) ?_
        refine gM_X11_25_0 (pc := 178) X hH dX11_make_178 ?_
        refine lv_iload (pc := 181) hx hb dX11_make_181 (lv_at hl 4 rfl) ?_
        refine r_ll (pc := 183) X (heM_6 V w6) hH h dX11_make_183 (fun v23 h => ?_)
        refine lv_goto (pc := 184) (tgt := 188) hx hb dX11_make_184 (by decide) ?_
        exact kX11_make_188 X   h hH (lv_sub hl [1, 2, 3, 4, 5, 0] rfl)
    · refine lv_aload_n (pc := 116) hx hb dX11_make_116 rfl (lv_at hl 0 rfl) ?_
      refine lv_iconst (pc := 117) (v := 1) hx hb dX11_make_117 (by decide) ?_
      refine pM_X11_121_0 (pc := 118) X hH (Or.inr rfl) h dX11_make_118 (fun w24 H locs h hH => ?_)
      refine lv_iconst (pc := 121) (v := -1) hx hb dX11_make_121 (by decide) ?_
      exact r_iret (pc := 122) X hH h dX11_make_122
  · refine lv_aload_n (pc := 62) hx hb dX11_make_62 rfl (lv_at hl 0 rfl) ?_
    refine gM_X11_16_0 (pc := 63) X hH dX11_make_63 ?_
    refine lv_iload (pc := 66) hx hb dX11_make_66 (lv_at hl 5 rfl) ?_
    refine r_ld (pc := 68) X (heM_3 V w) hH h dX11_make_68 (fun v25 h => ?_)
    refine lv_iload_n (pc := 69) hx hb dX11_make_69 rfl (lv_at hl 1 rfl) ?_
    refine b_icmp_ne (pc := 70) (tgt := 100) hx hb h dX11_make_70 (by decide) (fun h => ?_) (fun h => ?_)
    · exact kX11_make_100 X  hr53 h hH (lv_sub hl [0, 1, 2, 3, 4, 5] rfl)
    · refine lv_aload_n (pc := 73) hx hb dX11_make_73 rfl (lv_at hl 0 rfl) ?_
      refine gM_X11_19_0 (pc := 74) X hH dX11_make_74 ?_
      refine lv_iload (pc := 77) hx hb dX11_make_77 (lv_at hl 5 rfl) ?_
      refine r_ld (pc := 79) X (heM_4 V w) hH h dX11_make_79 (fun v27 h => ?_)
      refine lv_iload (pc := 80) hx hb dX11_make_80 (lv_at hl 3 rfl) ?_
      refine b_icmp_ne (pc := 82) (tgt := 100) hx hb h dX11_make_82 (by decide) (fun h => ?_) (fun h => ?_)
      · exact kX11_make_100 X  hr53 h hH (lv_sub hl [0, 1, 2, 3, 4, 5] rfl)
      · refine lv_aload_n (pc := 85) hx hb dX11_make_85 rfl (lv_at hl 0 rfl) ?_
        refine gM_X11_22_0 (pc := 86) X hH dX11_make_86 ?_
        refine lv_iload (pc := 89) hx hb dX11_make_89 (lv_at hl 5 rfl) ?_
        refine r_ld (pc := 91) X (heM_5 V w) hH h dX11_make_91 (fun v28 h => ?_)
        refine lv_iload (pc := 92) hx hb dX11_make_92 (lv_at hl 4 rfl) ?_
        refine b_icmp_ne (pc := 94) (tgt := 100) hx hb h dX11_make_94 (by decide) (fun h => ?_) (fun h => ?_)
        · exact kX11_make_100 X  hr53 h hH (lv_sub hl [0, 1, 2, 3, 4, 5] rfl)
        · refine lv_iload (pc := 97) hx hb dX11_make_97 (lv_at hl 5 rfl) ?_
          exact r_iret (pc := 99) X hH h dX11_make_99
def fX11_make_53 (N d : Nat)   : Nat → Wd → Int32 → Int32 → Int32 → Int32 → Int32 → Option (Wd × Int32)
  | 0 => fun _ _ _ _ _ _ => none
  | n + 1 => fun w x1 x4 x5 x6 x7 => bX11_make_53 N d   (fX11_make_53 N d   n) w x1 x4 x5 x6 x7
theorem lX11_make_53 {V : Ev} {p : Program} {l : Launch} {e : Env} {N d : Nat} {s : State} {m : MethodId} {args : Array Value} {below : List Frame} {meth : Method} {c : Code} {z : Wd × Int32} (X : CX V p s m args meth c cX11_make 9 RX11 (some .int))    (n : Nat) {w : Wd} {x1 : Int32} {x4 : Int32} {x5 : Int32} {x6 : Int32} {x7 : Int32} {H : Heap} {locs : List Loc} {ls : Array Slot} (h : fX11_make_53 N d   n w x1 x4 x5 x6 x7 = some z) (hH : wH V (cM V) (AM V) s w H locs) (hl : lv_has ls 9 [(0, .ref (V.2.2 0)), (1, .int x1), (4, .int x4), (5, .int x5), (6, .int x6), (7, .int x7)]) : W p l e (rmD (d + 1)) s m args below meth c H locs 0 0 (MQ below (CtI V (cM V) (AM V) z) args s 0 0 (AM V)) (F0 m 53 ls []) := by
  induction n generalizing w x1 x4 x5 x6 x7 H locs ls with
  | zero => exact c_none h
  | succ n ih => exact kX11_make_53 (N := N) X  (fun _ _ _ _ _ _ _ _ _ h hH hl => ih h hH hl) h hH hl
def bX11_make_48 (N d : Nat)   (w : Wd) (x1 : Int32) (x4 : Int32) (x5 : Int32) (y0 : Int32) : Option (Wd × Int32) :=
  fX11_make_53 N d   N w x1 x4 x5 y0 ((0 : Int32))
set_option maxHeartbeats 4000000 in
theorem kX11_make_48 {V : Ev} {p : Program} {l : Launch} {e : Env} {N d : Nat} {s : State} {m : MethodId} {args : Array Value} {below : List Frame} {meth : Method} {c : Code} {z : Wd × Int32} (X : CX V p s m args meth c cX11_make 9 RX11 (some .int))    {w : Wd} {x1 : Int32} {x4 : Int32} {x5 : Int32} {y0 : Int32} {H : Heap} {locs : List Loc} {ls : Array Slot} (h : bX11_make_48 N d   w x1 x4 x5 y0 = some z) (hH : wH V (cM V) (AM V) s w H locs) (hl : lv_has ls 9 [(0, .ref (V.2.2 0)), (1, .int x1), (4, .int x4), (5, .int x5)]) : W p l e (rmD (d + 1)) s m args below meth c H locs 0 0 (MQ below (CtI V (cM V) (AM V) z) args s 0 0 (AM V)) (F0 m 48 ls [.int y0]) := by
  unfold bX11_make_48 at h
  obtain ⟨hx, hb, hml, hown, hg, hrt, hlk, hK⟩ := id X
  refine lv_istore (pc := 48) (lv' := [(6, .int y0), (0, .ref (V.2.2 0)), (1, .int x1), (4, .int x4), (5, .int x5)]) hx hb dX11_make_48 hl (by decide) rfl (fun ls hl => ?_)
  refine lv_iconst (pc := 50) (v := 0) hx hb dX11_make_50 (by decide) ?_
  refine lv_istore (pc := 51) (lv' := [(7, .int ((0 : Int32))), (6, .int y0), (0, .ref (V.2.2 0)), (1, .int x1), (4, .int x4), (5, .int x5)]) hx hb dX11_make_51 hl (by decide) rfl (fun ls hl => ?_)
  exact lX11_make_53 X   N h hH (lv_sub hl [2, 3, 4, 5, 1, 0] rfl)
def bX11_make_35 (N d : Nat)   (w : Wd) (x1 : Int32) (x3 : Int32) (x4 : Int32) (y0 : Int32) : Option (Wd × Int32) :=
  if x4 ≤ 1 then (
    bX11_make_48 N d   w x1 x4 y0 (-1)
  ) else (
    bX11_make_48 N d   w x1 x4 y0 x3
  )
set_option maxHeartbeats 4000000 in
theorem kX11_make_35 {V : Ev} {p : Program} {l : Launch} {e : Env} {N d : Nat} {s : State} {m : MethodId} {args : Array Value} {below : List Frame} {meth : Method} {c : Code} {z : Wd × Int32} (X : CX V p s m args meth c cX11_make 9 RX11 (some .int))    {w : Wd} {x1 : Int32} {x3 : Int32} {x4 : Int32} {y0 : Int32} {H : Heap} {locs : List Loc} {ls : Array Slot} (h : bX11_make_35 N d   w x1 x3 x4 y0 = some z) (hH : wH V (cM V) (AM V) s w H locs) (hl : lv_has ls 9 [(0, .ref (V.2.2 0)), (1, .int x1), (3, .int x3), (4, .int x4)]) : W p l e (rmD (d + 1)) s m args below meth c H locs 0 0 (MQ below (CtI V (cM V) (AM V) z) args s 0 0 (AM V)) (F0 m 35 ls [.int y0]) := by
  unfold bX11_make_35 at h
  obtain ⟨hx, hb, hml, hown, hg, hrt, hlk, hK⟩ := id X
  refine lv_istore (pc := 35) (lv' := [(5, .int y0), (0, .ref (V.2.2 0)), (1, .int x1), (3, .int x3), (4, .int x4)]) hx hb dX11_make_35 hl (by decide) rfl (fun ls hl => ?_)
  refine lv_iload (pc := 37) hx hb dX11_make_37 (lv_at hl 4 rfl) ?_
  refine lv_iconst (pc := 39) (v := 1) hx hb dX11_make_39 (by decide) ?_
  refine b_icmp_le (pc := 40) (tgt := 47) hx hb h dX11_make_40 (by decide) (fun h => ?_) (fun h => ?_)
  · refine lv_iconst (pc := 47) (v := -1) hx hb dX11_make_47 (by decide) ?_
    exact kX11_make_48 X   h hH (lv_sub hl [1, 2, 4, 0] rfl)
  · refine lv_iload_n (pc := 43) hx hb dX11_make_43 rfl (lv_at hl 3 rfl) ?_
    refine lv_goto (pc := 44) (tgt := 48) hx hb dX11_make_44 (by decide) ?_
    exact kX11_make_48 X   h hH (lv_sub hl [1, 2, 4, 0] rfl)
def bX11_make_23 (N d : Nat)   (w : Wd) (x1 : Int32) (x2 : Int32) (x3 : Int32) (y0 : Int32) : Option (Wd × Int32) :=
  if y0 ≤ 0 then (
    bX11_make_35 N d   w x1 x3 y0 (-1)
  ) else (
    bX11_make_35 N d   w x1 x3 y0 x2
  )
set_option maxHeartbeats 4000000 in
theorem kX11_make_23 {V : Ev} {p : Program} {l : Launch} {e : Env} {N d : Nat} {s : State} {m : MethodId} {args : Array Value} {below : List Frame} {meth : Method} {c : Code} {z : Wd × Int32} (X : CX V p s m args meth c cX11_make 9 RX11 (some .int))    {w : Wd} {x1 : Int32} {x2 : Int32} {x3 : Int32} {y0 : Int32} {H : Heap} {locs : List Loc} {ls : Array Slot} (h : bX11_make_23 N d   w x1 x2 x3 y0 = some z) (hH : wH V (cM V) (AM V) s w H locs) (hl : lv_has ls 9 [(0, .ref (V.2.2 0)), (1, .int x1), (2, .int x2), (3, .int x3)]) : W p l e (rmD (d + 1)) s m args below meth c H locs 0 0 (MQ below (CtI V (cM V) (AM V) z) args s 0 0 (AM V)) (F0 m 23 ls [.int y0]) := by
  unfold bX11_make_23 at h
  obtain ⟨hx, hb, hml, hown, hg, hrt, hlk, hK⟩ := id X
  refine lv_istore (pc := 23) (lv' := [(4, .int y0), (0, .ref (V.2.2 0)), (1, .int x1), (2, .int x2), (3, .int x3)]) hx hb dX11_make_23 hl (by decide) rfl (fun ls hl => ?_)
  refine lv_iload (pc := 25) hx hb dX11_make_25 (lv_at hl 0 rfl) ?_
  refine b_if_le (pc := 27) (tgt := 34) hx hb h dX11_make_27 (by decide) (fun h => ?_) (fun h => ?_)
  · refine lv_iconst (pc := 34) (v := -1) hx hb dX11_make_34 (by decide) ?_
    exact kX11_make_35 X   h hH (lv_sub hl [1, 2, 4, 0] rfl)
  · refine lv_iload_n (pc := 30) hx hb dX11_make_30 rfl (lv_at hl 3 rfl) ?_
    refine lv_goto (pc := 31) (tgt := 35) hx hb dX11_make_31 (by decide) ?_
    exact kX11_make_35 X   h hH (lv_sub hl [1, 2, 4, 0] rfl)
def bX11_make_0 (N d : Nat)   (w : Wd) (x1 : Int32) (x2 : Int32) (x3 : Int32) : Option (Wd × Int32) :=
  if (sI w 4) = 0 then (
    if 0 ≤ x1 then (
      c_ld w 1 10 x1 fun v1 =>
      bX11_make_23 N d   w x1 x2 x3 v1
    ) else (
      bX11_make_23 N d   w x1 x2 x3 0
    )
  ) else (
    some (w, -1)
  )
set_option maxHeartbeats 4000000 in
theorem kX11_make_0 {V : Ev} {p : Program} {l : Launch} {e : Env} {N d : Nat} {s : State} {m : MethodId} {args : Array Value} {below : List Frame} {meth : Method} {c : Code} {z : Wd × Int32} (X : CX V p s m args meth c cX11_make 9 RX11 (some .int))    {w : Wd} {x1 : Int32} {x2 : Int32} {x3 : Int32} {H : Heap} {locs : List Loc} {ls : Array Slot} (h : bX11_make_0 N d   w x1 x2 x3 = some z) (hH : wH V (cM V) (AM V) s w H locs) (hl : lv_has ls 9 [(0, .ref (V.2.2 0)), (1, .int x1), (2, .int x2), (3, .int x3)]) : W p l e (rmD (d + 1)) s m args below meth c H locs 0 0 (MQ below (CtI V (cM V) (AM V) z) args s 0 0 (AM V)) (F0 m 0 ls []) := by
  unfold bX11_make_0 at h
  obtain ⟨hx, hb, hml, hown, hg, hrt, hlk, hK⟩ := id X
  refine lv_aload_n (pc := 0) hx hb dX11_make_0 rfl (lv_at hl 0 rfl) ?_
  refine gM_X11_121_0 (pc := 1) X hH dX11_make_1 ?_
  refine b_if_eq (pc := 4) (tgt := 9) hx hb h dX11_make_4 (by decide) (fun h => ?_) (fun h => ?_)
  · refine lv_iload_n (pc := 9) hx hb dX11_make_9 rfl (lv_at hl 1 rfl) ?_
    refine b_if_ge (pc := 10) (tgt := 17) hx hb h dX11_make_10 (by decide) (fun h => ?_) (fun h => ?_)
    · refine lv_aload_n (pc := 17) hx hb dX11_make_17 rfl (lv_at hl 0 rfl) ?_
      refine gM_X11_7_0 (pc := 18) X hH dX11_make_18 ?_
      refine lv_iload_n (pc := 21) hx hb dX11_make_21 rfl (lv_at hl 1 rfl) ?_
      refine r_ld (pc := 22) X (heM_1 V w) hH h dX11_make_22 (fun v1 h => ?_)
      exact kX11_make_23 X   h hH (lv_sub hl [0, 1, 2, 3] rfl)
    · refine lv_iconst (pc := 13) (v := 0) hx hb dX11_make_13 (by decide) ?_
      refine lv_goto (pc := 14) (tgt := 23) hx hb dX11_make_14 (by decide) ?_
      exact kX11_make_23 X   h hH (lv_sub hl [0, 1, 2, 3] rfl)
  · refine lv_iconst (pc := 7) (v := -1) hx hb dX11_make_7 (by decide) ?_
    exact r_iret (pc := 8) X hH h dX11_make_8
def eX11_make (N : Nat) : Nat → Wd → Int32 → Int32 → Int32 → Option (Wd × Int32)
  | 0 => fun _ _ _ _ => none
  | d + 1 => fun w x1 x2 x3 => bX11_make_0 N d  w x1 x2 x3
set_option maxHeartbeats 4000000 in
set_option maxRecDepth 20000 in
theorem mX11_make {l : Launch} {V : Ev} {N d : Nat} {w : Wd} {x1 : Int32} {x2 : Int32} {x3 : Int32} {z : Wd × Int32} (h : eX11_make N d w x1 x2 x3 = some z) : MetI l V (cM V) (AM V) yX11_make cX11_make 9 (some .int) d [.ref (V.2.2 0), .int x1, .int x2, .int x3] w z := by
  cases d with
  | zero => exact c_none h
  | succ d =>
    refine Met.ofW (cc := cX11_make) (maxL := 9) (ret := (some .int)) (by decide) rfl ?_
    intro p e s m args below meth c s₁ B hml hv
    obtain ⟨rfl, hP, hD, hK⟩ := hv
    have hts := atoms_spec (ws := .code yX11_make cX11_make 9 (some .int) :: gG) B.pre
    have X : CX V p s m ([.ref (V.2.2 0), .int x1, .int x2, .int x3] : List Value).toArray meth c cX11_make 9 RX11 (some .int) := ⟨B.exec, B.bytes, hml, findClass_of_methodNamed B.named, fun w hw => hts w (List.mem_cons_of_mem _ hw), B.returns, B.notSynchronized, hK⟩
    have hl := lv_entry ([.ref (V.2.2 0), .int x1, .int x2, .int x3] : List Value) (n := 9) (Nat.le_of_ble_eq_true rfl)
    rw [lg_entry_eq]
    generalize (lg_sl ([.ref (V.2.2 0), .int x1, .int x2, .int x3] : List Value) ++ List.replicate (9 - (lg_sl ([.ref (V.2.2 0), .int x1, .int x2, .int x3] : List Value)).length) Slot.unset).toArray = ls at hl ⊢
    have hl : lv_has ls 9 [(0, .ref (V.2.2 0)), (1, .int x1), (2, .int x2), (3, .int x3)] := hl
    exact kX11_make_0 (N := N) X  h ⟨hP, hD, va_S.rf⟩ hl
theorem dX11_in_0 : decode cX11_in 0 = .ok (.lload_n 0, 1) := by decide +kernel
theorem dX11_in_1 : decode cX11_in 1 = .ok (.lload_n 2, 1) := by decide +kernel
theorem dX11_in_2 : decode cX11_in 2 = .ok (.lcmp, 1) := by decide +kernel
theorem dX11_in_3 : decode cX11_in 3 = .ok (.ifCond .lt 14, 3) := by decide +kernel
theorem dX11_in_6 : decode cX11_in 6 = .ok (.lload_n 0, 1) := by decide +kernel
theorem dX11_in_7 : decode cX11_in 7 = .ok (.lload 4, 2) := by decide +kernel
theorem dX11_in_9 : decode cX11_in 9 = .ok (.lcmp, 1) := by decide +kernel
theorem dX11_in_10 : decode cX11_in 10 = .ok (.ifCond .gt 7, 3) := by decide +kernel
theorem dX11_in_13 : decode cX11_in 13 = .ok (.iconst 1, 1) := by decide +kernel
theorem dX11_in_14 : decode cX11_in 14 = .ok (.goto 4, 3) := by decide +kernel
theorem dX11_in_17 : decode cX11_in 17 = .ok (.iconst 0, 1) := by decide +kernel
theorem dX11_in_18 : decode cX11_in 18 = .ok (.ireturn, 1) := by decide +kernel
def bX11_in_18 (N d : Nat)   (w : Wd) (y0 : Int32) : Option (Wd × Int32) :=
  c_bo y0 (some (w, y0))
set_option maxHeartbeats 4000000 in
theorem kX11_in_18 {V : Ev} {p : Program} {l : Launch} {e : Env} {N d : Nat} {s : State} {m : MethodId} {args : Array Value} {below : List Frame} {meth : Method} {c : Code} {z : Wd × Int32} (X : CX V p s m args meth c cX11_in 6 RX11 (some .boolean))    {w : Wd} {y0 : Int32} {H : Heap} {locs : List Loc} {ls : Array Slot} (h : bX11_in_18 N d   w y0 = some z) (hH : wH V (cM V) (AM V) s w H locs) (hl : lv_has ls 6 []) : W p l e (rmD (d + 1)) s m args below meth c H locs 0 0 (MQ below (CtI V (cM V) (AM V) z) args s 0 0 (AM V)) (F0 m 18 ls [.int y0]) := by
  unfold bX11_in_18 at h
  obtain ⟨hx, hb, hml, hown, hg, hrt, hlk, hK⟩ := id X
  exact r_zret (pc := 18) X hH h dX11_in_18
def bX11_in_17 (N d : Nat)   (w : Wd)  : Option (Wd × Int32) :=
  bX11_in_18 N d   w 0
set_option maxHeartbeats 4000000 in
theorem kX11_in_17 {V : Ev} {p : Program} {l : Launch} {e : Env} {N d : Nat} {s : State} {m : MethodId} {args : Array Value} {below : List Frame} {meth : Method} {c : Code} {z : Wd × Int32} (X : CX V p s m args meth c cX11_in 6 RX11 (some .boolean))    {w : Wd}  {H : Heap} {locs : List Loc} {ls : Array Slot} (h : bX11_in_17 N d   w  = some z) (hH : wH V (cM V) (AM V) s w H locs) (hl : lv_has ls 6 []) : W p l e (rmD (d + 1)) s m args below meth c H locs 0 0 (MQ below (CtI V (cM V) (AM V) z) args s 0 0 (AM V)) (F0 m 17 ls []) := by
  unfold bX11_in_17 at h
  obtain ⟨hx, hb, hml, hown, hg, hrt, hlk, hK⟩ := id X
  refine lv_iconst (pc := 17) (v := 0) hx hb dX11_in_17 (by decide) ?_
  exact kX11_in_18 X   h hH (lv_sub hl [] rfl)
def bX11_in_0 (N d : Nat)   (w : Wd) (x0 : Int64) (x2 : Int64) (x4 : Int64) : Option (Wd × Int32) :=
  if (lg_cmp x0 x2) < 0 then (
    bX11_in_17 N d   w 
  ) else (
    if 0 < (lg_cmp x0 x4) then (
      bX11_in_17 N d   w 
    ) else (
      bX11_in_18 N d   w 1
    )
  )
set_option maxHeartbeats 4000000 in
theorem kX11_in_0 {V : Ev} {p : Program} {l : Launch} {e : Env} {N d : Nat} {s : State} {m : MethodId} {args : Array Value} {below : List Frame} {meth : Method} {c : Code} {z : Wd × Int32} (X : CX V p s m args meth c cX11_in 6 RX11 (some .boolean))    {w : Wd} {x0 : Int64} {x2 : Int64} {x4 : Int64} {H : Heap} {locs : List Loc} {ls : Array Slot} (h : bX11_in_0 N d   w x0 x2 x4 = some z) (hH : wH V (cM V) (AM V) s w H locs) (hl : lv_has ls 6 [(0, .long x0), (2, .long x2), (4, .long x4)]) : W p l e (rmD (d + 1)) s m args below meth c H locs 0 0 (MQ below (CtI V (cM V) (AM V) z) args s 0 0 (AM V)) (F0 m 0 ls []) := by
  unfold bX11_in_0 at h
  obtain ⟨hx, hb, hml, hown, hg, hrt, hlk, hK⟩ := id X
  refine lv_lload_n (pc := 0) hx hb dX11_in_0 rfl (lv_at hl 0 rfl) ?_
  refine lv_lload_n (pc := 1) hx hb dX11_in_1 rfl (lv_at hl 1 rfl) ?_
  refine W.lcmp (pc := 2) hx hb dX11_in_2 ?_
  refine b_if_lt (pc := 3) (tgt := 17) hx hb h dX11_in_3 (by decide) (fun h => ?_) (fun h => ?_)
  · exact kX11_in_17 X   h hH (lv_sub hl [] rfl)
  · refine lv_lload_n (pc := 6) hx hb dX11_in_6 rfl (lv_at hl 0 rfl) ?_
    refine lv_lload (pc := 7) hx hb dX11_in_7 (lv_at hl 2 rfl) ?_
    refine W.lcmp (pc := 9) hx hb dX11_in_9 ?_
    refine b_if_gt (pc := 10) (tgt := 17) hx hb h dX11_in_10 (by decide) (fun h => ?_) (fun h => ?_)
    · exact kX11_in_17 X   h hH (lv_sub hl [] rfl)
    · refine lv_iconst (pc := 13) (v := 1) hx hb dX11_in_13 (by decide) ?_
      refine lv_goto (pc := 14) (tgt := 18) hx hb dX11_in_14 (by decide) ?_
      exact kX11_in_18 X   h hH (lv_sub hl [] rfl)
def eX11_in (N : Nat) : Nat → Wd → Int64 → Int64 → Int64 → Option (Wd × Int32)
  | 0 => fun _ _ _ _ => none
  | d + 1 => fun w x0 x2 x4 => bX11_in_0 N d  w x0 x2 x4
set_option maxHeartbeats 4000000 in
set_option maxRecDepth 20000 in
theorem mX11_in {l : Launch} {V : Ev} {N d : Nat} {w : Wd} {x0 : Int64} {x2 : Int64} {x4 : Int64} {z : Wd × Int32} (h : eX11_in N d w x0 x2 x4 = some z) : MetI l V (cM V) (AM V) yX11_in cX11_in 6 (some .boolean) d [.long x0, .long x2, .long x4] w z := by
  cases d with
  | zero => exact c_none h
  | succ d =>
    refine Met.ofW (cc := cX11_in) (maxL := 6) (ret := (some .boolean)) (by decide) rfl ?_
    intro p e s m args below meth c s₁ B hml hv
    obtain ⟨rfl, hP, hD, hK⟩ := hv
    have hts := atoms_spec (ws := .code yX11_in cX11_in 6 (some .boolean) :: gG) B.pre
    have X : CX V p s m ([.long x0, .long x2, .long x4] : List Value).toArray meth c cX11_in 6 RX11 (some .boolean) := ⟨B.exec, B.bytes, hml, findClass_of_methodNamed B.named, fun w hw => hts w (List.mem_cons_of_mem _ hw), B.returns, B.notSynchronized, hK⟩
    have hl := lv_entry ([.long x0, .long x2, .long x4] : List Value) (n := 6) (Nat.le_of_ble_eq_true rfl)
    rw [lg_entry_eq]
    generalize (lg_sl ([.long x0, .long x2, .long x4] : List Value) ++ List.replicate (6 - (lg_sl ([.long x0, .long x2, .long x4] : List Value)).length) Slot.unset).toArray = ls at hl ⊢
    have hl : lv_has ls 6 [(0, .long x0), (2, .long x2), (4, .long x4)] := hl
    exact kX11_in_0 (N := N) X  h ⟨hP, hD, va_S.rf⟩ hl
theorem dX11_isTerm_0 : decode cX11_isTerm 0 = .ok (.iload_n 1, 1) := by decide +kernel
theorem dX11_isTerm_1 : decode cX11_isTerm 1 = .ok (.i2l, 1) := by decide +kernel
theorem dX11_isTerm_2 : decode cX11_isTerm 2 = .ok (.lconst 0, 1) := by decide +kernel
theorem dX11_isTerm_3 : decode cX11_isTerm 3 = .ok (.aload_n 0, 1) := by decide +kernel
theorem dX11_isTerm_4 : decode cX11_isTerm 4 = .ok (.getfield 125, 3) := by decide +kernel
theorem dX11_isTerm_7 : decode cX11_isTerm 7 = .ok (.iconst 1, 1) := by decide +kernel
theorem dX11_isTerm_8 : decode cX11_isTerm 8 = .ok (.isub, 1) := by decide +kernel
theorem dX11_isTerm_9 : decode cX11_isTerm 9 = .ok (.i2l, 1) := by decide +kernel
theorem dX11_isTerm_10 : decode cX11_isTerm 10 = .ok (.invokestatic 132, 3) := by decide +kernel
theorem dX11_isTerm_13 : decode cX11_isTerm 13 = .ok (.ireturn, 1) := by decide +kernel
def bX11_isTerm_0 (N d : Nat)   (w : Wd) (x1 : Int32) : Option (Wd × Int32) :=
  c_cl (eX11_in N d w (Int32.toInt64 x1) 0 (Int32.toInt64 ((sI w 2) - 1))) fun w1 v2 =>
  c_bo v2 (some (w1, v2))
set_option maxHeartbeats 4000000 in
theorem kX11_isTerm_0 {V : Ev} {p : Program} {l : Launch} {e : Env} {N d : Nat} {s : State} {m : MethodId} {args : Array Value} {below : List Frame} {meth : Method} {c : Code} {z : Wd × Int32} (X : CX V p s m args meth c cX11_isTerm 2 RX11 (some .boolean))    {w : Wd} {x1 : Int32} {H : Heap} {locs : List Loc} {ls : Array Slot} (h : bX11_isTerm_0 N d   w x1 = some z) (hH : wH V (cM V) (AM V) s w H locs) (hl : lv_has ls 2 [(0, .ref (V.2.2 0)), (1, .int x1)]) : W p l e (rmD (d + 1)) s m args below meth c H locs 0 0 (MQ below (CtI V (cM V) (AM V) z) args s 0 0 (AM V)) (F0 m 0 ls []) := by
  unfold bX11_isTerm_0 at h
  obtain ⟨hx, hb, hml, hown, hg, hrt, hlk, hK⟩ := id X
  refine lv_iload_n (pc := 0) hx hb dX11_isTerm_0 rfl (lv_at hl 1 rfl) ?_
  refine lv_i2l (pc := 1) hx hb dX11_isTerm_1 rfl ?_
  refine lv_lconst (pc := 2) (v := 0) hx hb dX11_isTerm_2 (by decide) ?_
  refine lv_aload_n (pc := 3) hx hb dX11_isTerm_3 rfl (lv_at hl 0 rfl) ?_
  refine gM_X11_125_0 (pc := 4) X hH dX11_isTerm_4 ?_
  refine lv_iconst (pc := 7) (v := 1) hx hb dX11_isTerm_7 (by decide) ?_
  refine lv_isub (pc := 8) hx hb dX11_isTerm_8 ?_
  refine lv_i2l (pc := 9) hx hb dX11_isTerm_9 rfl ?_
  refine r_csI (pc := 10) (As := [.long (Int32.toInt64 x1), .long 0, .long (Int32.toInt64 ((sI w 2) - 1))]) (rest := []) X hH (fun x hx => mX11_in hx) cs_X11_132 rfl rfl (Nat.le_of_ble_eq_true rfl) hl.1 h dX11_isTerm_10 (fun w1 v2 H locs h hH => ?_)
  exact r_zret (pc := 13) X hH h dX11_isTerm_13
def eX11_isTerm (N : Nat) : Nat → Wd → Int32 → Option (Wd × Int32)
  | 0 => fun _ _ => none
  | d + 1 => fun w x1 => bX11_isTerm_0 N d  w x1
set_option maxHeartbeats 4000000 in
set_option maxRecDepth 20000 in
theorem mX11_isTerm {l : Launch} {V : Ev} {N d : Nat} {w : Wd} {x1 : Int32} {z : Wd × Int32} (h : eX11_isTerm N d w x1 = some z) : MetI l V (cM V) (AM V) yX11_isTerm cX11_isTerm 2 (some .boolean) d [.ref (V.2.2 0), .int x1] w z := by
  cases d with
  | zero => exact c_none h
  | succ d =>
    refine Met.ofW (cc := cX11_isTerm) (maxL := 2) (ret := (some .boolean)) (by decide) rfl ?_
    intro p e s m args below meth c s₁ B hml hv
    obtain ⟨rfl, hP, hD, hK⟩ := hv
    have hts := atoms_spec (ws := .code yX11_isTerm cX11_isTerm 2 (some .boolean) :: gG) B.pre
    have X : CX V p s m ([.ref (V.2.2 0), .int x1] : List Value).toArray meth c cX11_isTerm 2 RX11 (some .boolean) := ⟨B.exec, B.bytes, hml, findClass_of_methodNamed B.named, fun w hw => hts w (List.mem_cons_of_mem _ hw), B.returns, B.notSynchronized, hK⟩
    have hl := lv_entry ([.ref (V.2.2 0), .int x1] : List Value) (n := 2) (Nat.le_of_ble_eq_true rfl)
    rw [lg_entry_eq]
    generalize (lg_sl ([.ref (V.2.2 0), .int x1] : List Value) ++ List.replicate (2 - (lg_sl ([.ref (V.2.2 0), .int x1] : List Value)).length) Slot.unset).toArray = ls at hl ⊢
    have hl : lv_has ls 2 [(0, .ref (V.2.2 0)), (1, .int x1)] := hl
    exact kX11_isTerm_0 (N := N) X  h ⟨hP, hD, va_S.rf⟩ hl
theorem dX11_binds_0 : decode cX11_binds 0 = .ok (.aload_n 0, 1) := by decide +kernel
theorem dX11_binds_1 : decode cX11_binds 1 = .ok (.iload_n 1, 1) := by decide +kernel
theorem dX11_binds_2 : decode cX11_binds 2 = .ok (.invokevirtual 117, 3) := by decide +kernel
theorem dX11_binds_5 : decode cX11_binds 5 = .ok (.ifCond .eq 42, 3) := by decide +kernel
theorem dX11_binds_8 : decode cX11_binds 8 = .ok (.aload_n 0, 1) := by decide +kernel
theorem dX11_binds_9 : decode cX11_binds 9 = .ok (.iload_n 1, 1) := by decide +kernel
theorem dX11_binds_10 : decode cX11_binds 10 = .ok (.invokevirtual 136, 3) := by decide +kernel
theorem dX11_binds_13 : decode cX11_binds 13 = .ok (.istore_n 3, 1) := by decide +kernel
theorem dX11_binds_14 : decode cX11_binds 14 = .ok (.aload_n 0, 1) := by decide +kernel
theorem dX11_binds_15 : decode cX11_binds 15 = .ok (.getfield 45, 3) := by decide +kernel
theorem dX11_binds_18 : decode cX11_binds 18 = .ok (.iload_n 3, 1) := by decide +kernel
theorem dX11_binds_19 : decode cX11_binds 19 = .ok (.iaload, 1) := by decide +kernel
theorem dX11_binds_20 : decode cX11_binds 20 = .ok (.iconst (-1), 1) := by decide +kernel
theorem dX11_binds_21 : decode cX11_binds 21 = .ok (.if_icmp .ne 10, 3) := by decide +kernel
theorem dX11_binds_24 : decode cX11_binds 24 = .ok (.aload_n 0, 1) := by decide +kernel
theorem dX11_binds_25 : decode cX11_binds 25 = .ok (.getfield 45, 3) := by decide +kernel
theorem dX11_binds_28 : decode cX11_binds 28 = .ok (.iload_n 3, 1) := by decide +kernel
theorem dX11_binds_29 : decode cX11_binds 29 = .ok (.iload_n 2, 1) := by decide +kernel
theorem dX11_binds_30 : decode cX11_binds 30 = .ok (.iastore, 1) := by decide +kernel
theorem dX11_binds_31 : decode cX11_binds 31 = .ok (.aload_n 0, 1) := by decide +kernel
theorem dX11_binds_32 : decode cX11_binds 32 = .ok (.getfield 45, 3) := by decide +kernel
theorem dX11_binds_35 : decode cX11_binds 35 = .ok (.iload_n 3, 1) := by decide +kernel
theorem dX11_binds_36 : decode cX11_binds 36 = .ok (.iaload, 1) := by decide +kernel
theorem dX11_binds_37 : decode cX11_binds 37 = .ok (.iload_n 2, 1) := by decide +kernel
theorem dX11_binds_38 : decode cX11_binds 38 = .ok (.if_icmp .ne 7, 3) := by decide +kernel
theorem dX11_binds_41 : decode cX11_binds 41 = .ok (.iconst 1, 1) := by decide +kernel
theorem dX11_binds_42 : decode cX11_binds 42 = .ok (.goto 4, 3) := by decide +kernel
theorem dX11_binds_45 : decode cX11_binds 45 = .ok (.iconst 0, 1) := by decide +kernel
theorem dX11_binds_46 : decode cX11_binds 46 = .ok (.ireturn, 1) := by decide +kernel
theorem dX11_binds_47 : decode cX11_binds 47 = .ok (.aload_n 0, 1) := by decide +kernel
theorem dX11_binds_48 : decode cX11_binds 48 = .ok (.getfield 16, 3) := by decide +kernel
theorem dX11_binds_51 : decode cX11_binds 51 = .ok (.iload_n 1, 1) := by decide +kernel
theorem dX11_binds_52 : decode cX11_binds 52 = .ok (.iaload, 1) := by decide +kernel
theorem dX11_binds_53 : decode cX11_binds 53 = .ok (.aload_n 0, 1) := by decide +kernel
theorem dX11_binds_54 : decode cX11_binds 54 = .ok (.getfield 16, 3) := by decide +kernel
theorem dX11_binds_57 : decode cX11_binds 57 = .ok (.iload_n 2, 1) := by decide +kernel
theorem dX11_binds_58 : decode cX11_binds 58 = .ok (.iaload, 1) := by decide +kernel
theorem dX11_binds_59 : decode cX11_binds 59 = .ok (.if_icmp .eq 5, 3) := by decide +kernel
theorem dX11_binds_62 : decode cX11_binds 62 = .ok (.iconst 0, 1) := by decide +kernel
theorem dX11_binds_63 : decode cX11_binds 63 = .ok (.ireturn, 1) := by decide +kernel
theorem dX11_binds_64 : decode cX11_binds 64 = .ok (.iconst 0, 1) := by decide +kernel
theorem dX11_binds_65 : decode cX11_binds 65 = .ok (.istore_n 3, 1) := by decide +kernel
theorem dX11_binds_66 : decode cX11_binds 66 = .ok (.iload_n 3, 1) := by decide +kernel
theorem dX11_binds_67 : decode cX11_binds 67 = .ok (.aload_n 0, 1) := by decide +kernel
theorem dX11_binds_68 : decode cX11_binds 68 = .ok (.iload_n 1, 1) := by decide +kernel
theorem dX11_binds_69 : decode cX11_binds 69 = .ok (.invokevirtual 140, 3) := by decide +kernel
theorem dX11_binds_72 : decode cX11_binds 72 = .ok (.if_icmp .ge 30, 3) := by decide +kernel
theorem dX11_binds_75 : decode cX11_binds 75 = .ok (.aload_n 0, 1) := by decide +kernel
theorem dX11_binds_76 : decode cX11_binds 76 = .ok (.aload_n 0, 1) := by decide +kernel
theorem dX11_binds_77 : decode cX11_binds 77 = .ok (.iload_n 1, 1) := by decide +kernel
theorem dX11_binds_78 : decode cX11_binds 78 = .ok (.iload_n 3, 1) := by decide +kernel
theorem dX11_binds_79 : decode cX11_binds 79 = .ok (.invokevirtual 143, 3) := by decide +kernel
theorem dX11_binds_82 : decode cX11_binds 82 = .ok (.aload_n 0, 1) := by decide +kernel
theorem dX11_binds_83 : decode cX11_binds 83 = .ok (.iload_n 2, 1) := by decide +kernel
theorem dX11_binds_84 : decode cX11_binds 84 = .ok (.iload_n 3, 1) := by decide +kernel
theorem dX11_binds_85 : decode cX11_binds 85 = .ok (.invokevirtual 143, 3) := by decide +kernel
theorem dX11_binds_88 : decode cX11_binds 88 = .ok (.invokevirtual 147, 3) := by decide +kernel
theorem dX11_binds_91 : decode cX11_binds 91 = .ok (.ifCond .ne 5, 3) := by decide +kernel
theorem dX11_binds_94 : decode cX11_binds 94 = .ok (.iconst 0, 1) := by decide +kernel
theorem dX11_binds_95 : decode cX11_binds 95 = .ok (.ireturn, 1) := by decide +kernel
theorem dX11_binds_96 : decode cX11_binds 96 = .ok (.iinc 3 1, 3) := by decide +kernel
theorem dX11_binds_99 : decode cX11_binds 99 = .ok (.goto (-33), 3) := by decide +kernel
theorem dX11_binds_102 : decode cX11_binds 102 = .ok (.iconst 1, 1) := by decide +kernel
theorem dX11_binds_103 : decode cX11_binds 103 = .ok (.ireturn, 1) := by decide +kernel
def bX11_binds_66 (N d : Nat) (self_X11_binds : Wd → Int32 → Int32 → Option (Wd × Int32)) (rec66 : Wd → Int32 → Int32 → Int32 → Option (Wd × Int32)) (w : Wd) (x1 : Int32) (x2 : Int32) (x3 : Int32) : Option (Wd × Int32) :=
  c_cl (eX11_parts N d w x1) fun w5 v6 =>
  if v6 ≤ x3 then (
    some (w5, 1)
  ) else (
    c_cl (eX11_partOf N d w5 x1 x3) fun w7 v8 =>
    c_cl (eX11_partOf N d w7 x2 x3) fun w9 v10 =>
    c_cl (self_X11_binds w9 v8 v10) fun w11 v12 =>
    if v12 = 0 then (
      some (w11, 0)
    ) else (
      c_nm (x3 + 1) fun x3_13 =>
      rec66 w11 x1 x2 x3_13
    )
  )
set_option maxHeartbeats 4000000 in
theorem kX11_binds_66 {V : Ev} {p : Program} {l : Launch} {e : Env} {N d : Nat} {s : State} {m : MethodId} {args : Array Value} {below : List Frame} {meth : Method} {c : Code} {z : Wd × Int32} (X : CX V p s m args meth c cX11_binds 4 RX11 (some .boolean)) {self_X11_binds : Wd → Int32 → Int32 → Option (Wd × Int32)} (hs_X11_binds : ∀ (w : Wd) (a0 : Int32) (a1 : Int32) (x : Wd × Int32), self_X11_binds w a0 a1 = some x → MetI l V (cM V) (AM V) yX11_binds cX11_binds 4 (some .boolean) d [.ref (V.2.2 0), .int a0, .int a1] w x) {rec66 : Wd → Int32 → Int32 → Int32 → Option (Wd × Int32)} (hr66 : ∀ (w : Wd) (x1 : Int32) (x2 : Int32) (x3 : Int32) (H : Heap) (locs : List Loc) (ls : Array Slot), rec66 w x1 x2 x3 = some z → wH V (cM V) (AM V) s w H locs → lv_has ls 4 [(0, .ref (V.2.2 0)), (1, .int x1), (2, .int x2), (3, .int x3)] → W p l e (rmD (d + 1)) s m args below meth c H locs 0 0 (MQ below (CtI V (cM V) (AM V) z) args s 0 0 (AM V)) (F0 m 66 ls [])) {w : Wd} {x1 : Int32} {x2 : Int32} {x3 : Int32} {H : Heap} {locs : List Loc} {ls : Array Slot} (h : bX11_binds_66 N d self_X11_binds rec66 w x1 x2 x3 = some z) (hH : wH V (cM V) (AM V) s w H locs) (hl : lv_has ls 4 [(0, .ref (V.2.2 0)), (1, .int x1), (2, .int x2), (3, .int x3)]) : W p l e (rmD (d + 1)) s m args below meth c H locs 0 0 (MQ below (CtI V (cM V) (AM V) z) args s 0 0 (AM V)) (F0 m 66 ls []) := by
  unfold bX11_binds_66 at h
  obtain ⟨hx, hb, hml, hown, hg, hrt, hlk, hK⟩ := id X
  refine lv_iload_n (pc := 66) hx hb dX11_binds_66 rfl (lv_at hl 3 rfl) ?_
  refine lv_aload_n (pc := 67) hx hb dX11_binds_67 rfl (lv_at hl 0 rfl) ?_
  refine lv_iload_n (pc := 68) hx hb dX11_binds_68 rfl (lv_at hl 1 rfl) ?_
  refine r_cvI (pc := 69) (As := [.int x1]) (rest := [.int x3]) X hH (fun x hx => mX11_parts hx) cw_X11_140 (heM_0 V w) rfl rfl rfl (Nat.le_of_ble_eq_true rfl) hl.1 h dX11_binds_69 (fun w5 v6 H locs h hH => ?_)
  refine b_icmp_ge (pc := 72) (tgt := 102) hx hb h dX11_binds_72 (by decide) (fun h => ?_) (fun h => ?_)
  · refine lv_iconst (pc := 102) (v := 1) hx hb dX11_binds_102 (by decide) ?_
    exact r_zretk (pc := 103) (by decide) X hH h dX11_binds_103
  · refine lv_aload_n (pc := 75) hx hb dX11_binds_75 rfl (lv_at hl 0 rfl) ?_
    refine lv_aload_n (pc := 76) hx hb dX11_binds_76 rfl (lv_at hl 0 rfl) ?_
    refine lv_iload_n (pc := 77) hx hb dX11_binds_77 rfl (lv_at hl 1 rfl) ?_
    refine lv_iload_n (pc := 78) hx hb dX11_binds_78 rfl (lv_at hl 3 rfl) ?_
    refine r_cvI (pc := 79) (As := [.int x1, .int x3]) (rest := [.ref (V.2.2 0)]) X hH (fun x hx => mX11_partOf hx) cw_X11_143 (heM_0 V w5) rfl rfl rfl (Nat.le_of_ble_eq_true rfl) hl.1 h dX11_binds_79 (fun w7 v8 H locs h hH => ?_)
    refine lv_aload_n (pc := 82) hx hb dX11_binds_82 rfl (lv_at hl 0 rfl) ?_
    refine lv_iload_n (pc := 83) hx hb dX11_binds_83 rfl (lv_at hl 2 rfl) ?_
    refine lv_iload_n (pc := 84) hx hb dX11_binds_84 rfl (lv_at hl 3 rfl) ?_
    refine r_cvI (pc := 85) (As := [.int x2, .int x3]) (rest := [.int v8, .ref (V.2.2 0)]) X hH (fun x hx => mX11_partOf hx) cw_X11_143 (heM_0 V w7) rfl rfl rfl (Nat.le_of_ble_eq_true rfl) hl.1 h dX11_binds_85 (fun w9 v10 H locs h hH => ?_)
    refine r_cvI (pc := 88) (As := [.int v8, .int v10]) (rest := []) X hH (fun x hx => hs_X11_binds _ _ _ _ hx) cw_X11_147 (heM_0 V w9) rfl rfl rfl (Nat.le_of_ble_eq_true rfl) hl.1 h dX11_binds_88 (fun w11 v12 H locs h hH => ?_)
    refine b_if_ne (pc := 91) (tgt := 96) hx hb h dX11_binds_91 (by decide) (fun h => ?_) (fun h => ?_)
    · obtain ⟨x3_13, ex3_13, h⟩ := c_nm_ex h
      refine lv_iinc (pc := 96) (v := x3_13) (lv' := [(3, .int x3_13), (0, .ref (V.2.2 0)), (1, .int x1), (2, .int x2)]) hx hb dX11_binds_96 hl (k := 3) rfl (by rw [← ex3_13]; rfl) (by decide) rfl (fun ls hl => ?_)
      refine lv_goto (pc := 99) (tgt := 66) hx hb dX11_binds_99 (by decide) ?_
      exact hr66 _ _ _ _ _ _ _ h hH (lv_sub hl [1, 2, 3, 0] rfl)
    · refine lv_iconst (pc := 94) (v := 0) hx hb dX11_binds_94 (by decide) ?_
      exact r_zretk (pc := 95) (by decide) X hH h dX11_binds_95
def fX11_binds_66 (N d : Nat) (self_X11_binds : Wd → Int32 → Int32 → Option (Wd × Int32))  : Nat → Wd → Int32 → Int32 → Int32 → Option (Wd × Int32)
  | 0 => fun _ _ _ _ => none
  | n + 1 => fun w x1 x2 x3 => bX11_binds_66 N d self_X11_binds  (fX11_binds_66 N d self_X11_binds  n) w x1 x2 x3
theorem lX11_binds_66 {V : Ev} {p : Program} {l : Launch} {e : Env} {N d : Nat} {s : State} {m : MethodId} {args : Array Value} {below : List Frame} {meth : Method} {c : Code} {z : Wd × Int32} (X : CX V p s m args meth c cX11_binds 4 RX11 (some .boolean)) {self_X11_binds : Wd → Int32 → Int32 → Option (Wd × Int32)} (hs_X11_binds : ∀ (w : Wd) (a0 : Int32) (a1 : Int32) (x : Wd × Int32), self_X11_binds w a0 a1 = some x → MetI l V (cM V) (AM V) yX11_binds cX11_binds 4 (some .boolean) d [.ref (V.2.2 0), .int a0, .int a1] w x)  (n : Nat) {w : Wd} {x1 : Int32} {x2 : Int32} {x3 : Int32} {H : Heap} {locs : List Loc} {ls : Array Slot} (h : fX11_binds_66 N d self_X11_binds  n w x1 x2 x3 = some z) (hH : wH V (cM V) (AM V) s w H locs) (hl : lv_has ls 4 [(0, .ref (V.2.2 0)), (1, .int x1), (2, .int x2), (3, .int x3)]) : W p l e (rmD (d + 1)) s m args below meth c H locs 0 0 (MQ below (CtI V (cM V) (AM V) z) args s 0 0 (AM V)) (F0 m 66 ls []) := by
  induction n generalizing w x1 x2 x3 H locs ls with
  | zero => exact c_none h
  | succ n ih => exact kX11_binds_66 (N := N) X hs_X11_binds (fun _ _ _ _ _ _ _ h hH hl => ih h hH hl) h hH hl
def bX11_binds_46 (N d : Nat) (self_X11_binds : Wd → Int32 → Int32 → Option (Wd × Int32))  (w : Wd) (y0 : Int32) : Option (Wd × Int32) :=
  c_bo y0 (some (w, y0))
set_option maxHeartbeats 4000000 in
theorem kX11_binds_46 {V : Ev} {p : Program} {l : Launch} {e : Env} {N d : Nat} {s : State} {m : MethodId} {args : Array Value} {below : List Frame} {meth : Method} {c : Code} {z : Wd × Int32} (X : CX V p s m args meth c cX11_binds 4 RX11 (some .boolean)) {self_X11_binds : Wd → Int32 → Int32 → Option (Wd × Int32)} (hs_X11_binds : ∀ (w : Wd) (a0 : Int32) (a1 : Int32) (x : Wd × Int32), self_X11_binds w a0 a1 = some x → MetI l V (cM V) (AM V) yX11_binds cX11_binds 4 (some .boolean) d [.ref (V.2.2 0), .int a0, .int a1] w x)  {w : Wd} {y0 : Int32} {H : Heap} {locs : List Loc} {ls : Array Slot} (h : bX11_binds_46 N d self_X11_binds  w y0 = some z) (hH : wH V (cM V) (AM V) s w H locs) (hl : lv_has ls 4 []) : W p l e (rmD (d + 1)) s m args below meth c H locs 0 0 (MQ below (CtI V (cM V) (AM V) z) args s 0 0 (AM V)) (F0 m 46 ls [.int y0]) := by
  unfold bX11_binds_46 at h
  obtain ⟨hx, hb, hml, hown, hg, hrt, hlk, hK⟩ := id X
  exact r_zret (pc := 46) X hH h dX11_binds_46
def bX11_binds_31 (N d : Nat) (self_X11_binds : Wd → Int32 → Int32 → Option (Wd × Int32))  (w : Wd) (x2 : Int32) (x3 : Int32) : Option (Wd × Int32) :=
  c_ld w 12 8 x3 fun v17 =>
  if v17 = x2 then (
    bX11_binds_46 N d self_X11_binds  w 1
  ) else (
    bX11_binds_46 N d self_X11_binds  w 0
  )
set_option maxHeartbeats 4000000 in
theorem kX11_binds_31 {V : Ev} {p : Program} {l : Launch} {e : Env} {N d : Nat} {s : State} {m : MethodId} {args : Array Value} {below : List Frame} {meth : Method} {c : Code} {z : Wd × Int32} (X : CX V p s m args meth c cX11_binds 4 RX11 (some .boolean)) {self_X11_binds : Wd → Int32 → Int32 → Option (Wd × Int32)} (hs_X11_binds : ∀ (w : Wd) (a0 : Int32) (a1 : Int32) (x : Wd × Int32), self_X11_binds w a0 a1 = some x → MetI l V (cM V) (AM V) yX11_binds cX11_binds 4 (some .boolean) d [.ref (V.2.2 0), .int a0, .int a1] w x)  {w : Wd} {x2 : Int32} {x3 : Int32} {H : Heap} {locs : List Loc} {ls : Array Slot} (h : bX11_binds_31 N d self_X11_binds  w x2 x3 = some z) (hH : wH V (cM V) (AM V) s w H locs) (hl : lv_has ls 4 [(0, .ref (V.2.2 0)), (2, .int x2), (3, .int x3)]) : W p l e (rmD (d + 1)) s m args below meth c H locs 0 0 (MQ below (CtI V (cM V) (AM V) z) args s 0 0 (AM V)) (F0 m 31 ls []) := by
  unfold bX11_binds_31 at h
  obtain ⟨hx, hb, hml, hown, hg, hrt, hlk, hK⟩ := id X
  refine lv_aload_n (pc := 31) hx hb dX11_binds_31 rfl (lv_at hl 0 rfl) ?_
  refine gM_X11_45_0 (pc := 32) X hH dX11_binds_32 ?_
  refine lv_iload_n (pc := 35) hx hb dX11_binds_35 rfl (lv_at hl 2 rfl) ?_
  refine r_ld (pc := 36) X (heM_12 V w) hH h dX11_binds_36 (fun v17 h => ?_)
  refine lv_iload_n (pc := 37) hx hb dX11_binds_37 rfl (lv_at hl 1 rfl) ?_
  refine b_icmp_ne (pc := 38) (tgt := 45) hx hb h dX11_binds_38 (by decide) (fun h => ?_) (fun h => ?_)
  · refine lv_iconst (pc := 45) (v := 0) hx hb dX11_binds_45 (by decide) ?_
    exact kX11_binds_46 X hs_X11_binds  h hH (lv_sub hl [] rfl)
  · refine lv_iconst (pc := 41) (v := 1) hx hb dX11_binds_41 (by decide) ?_
    refine lv_goto (pc := 42) (tgt := 46) hx hb dX11_binds_42 (by decide) ?_
    exact kX11_binds_46 X hs_X11_binds  h hH (lv_sub hl [] rfl)
def bX11_binds_0 (N d : Nat) (self_X11_binds : Wd → Int32 → Int32 → Option (Wd × Int32))  (w : Wd) (x1 : Int32) (x2 : Int32) : Option (Wd × Int32) :=
  c_cl (eX11_isVariable N d w x1) fun w1 v2 =>
  if v2 = 0 then (
    c_ld w1 3 1000 x1 fun v3 =>
    c_ld w1 3 1000 x2 fun v4 =>
    if v3 = v4 then (
      fX11_binds_66 N d self_X11_binds  N w1 x1 x2 ((0 : Int32))
    ) else (
      some (w1, 0)
    )
  ) else (
    c_cl (eX11_variableOf N d w1 x1) fun w14 v15 =>
    c_ld w14 12 8 v15 fun v16 =>
    if v16 = (-1) then (
      c_st w14 12 8 v15 x2 fun w18 =>
      bX11_binds_31 N d self_X11_binds  w18 x2 v15
    ) else (
      bX11_binds_31 N d self_X11_binds  w14 x2 v15
    )
  )
set_option maxHeartbeats 4000000 in
theorem kX11_binds_0 {V : Ev} {p : Program} {l : Launch} {e : Env} {N d : Nat} {s : State} {m : MethodId} {args : Array Value} {below : List Frame} {meth : Method} {c : Code} {z : Wd × Int32} (X : CX V p s m args meth c cX11_binds 4 RX11 (some .boolean)) {self_X11_binds : Wd → Int32 → Int32 → Option (Wd × Int32)} (hs_X11_binds : ∀ (w : Wd) (a0 : Int32) (a1 : Int32) (x : Wd × Int32), self_X11_binds w a0 a1 = some x → MetI l V (cM V) (AM V) yX11_binds cX11_binds 4 (some .boolean) d [.ref (V.2.2 0), .int a0, .int a1] w x)  {w : Wd} {x1 : Int32} {x2 : Int32} {H : Heap} {locs : List Loc} {ls : Array Slot} (h : bX11_binds_0 N d self_X11_binds  w x1 x2 = some z) (hH : wH V (cM V) (AM V) s w H locs) (hl : lv_has ls 4 [(0, .ref (V.2.2 0)), (1, .int x1), (2, .int x2)]) : W p l e (rmD (d + 1)) s m args below meth c H locs 0 0 (MQ below (CtI V (cM V) (AM V) z) args s 0 0 (AM V)) (F0 m 0 ls []) := by
  unfold bX11_binds_0 at h
  obtain ⟨hx, hb, hml, hown, hg, hrt, hlk, hK⟩ := id X
  refine lv_aload_n (pc := 0) hx hb dX11_binds_0 rfl (lv_at hl 0 rfl) ?_
  refine lv_iload_n (pc := 1) hx hb dX11_binds_1 rfl (lv_at hl 1 rfl) ?_
  refine r_cvI (pc := 2) (As := [.int x1]) (rest := []) X hH (fun x hx => mX11_isVariable hx) cw_X11_117 (heM_0 V w) rfl rfl rfl (Nat.le_of_ble_eq_true rfl) hl.1 h dX11_binds_2 (fun w1 v2 H locs h hH => ?_)
  refine b_if_eq (pc := 5) (tgt := 47) hx hb h dX11_binds_5 (by decide) (fun h => ?_) (fun h => ?_)
  · refine lv_aload_n (pc := 47) hx hb dX11_binds_47 rfl (lv_at hl 0 rfl) ?_
    refine gM_X11_16_0 (pc := 48) X hH dX11_binds_48 ?_
    refine lv_iload_n (pc := 51) hx hb dX11_binds_51 rfl (lv_at hl 1 rfl) ?_
    refine r_ld (pc := 52) X (heM_3 V w1) hH h dX11_binds_52 (fun v3 h => ?_)
    refine lv_aload_n (pc := 53) hx hb dX11_binds_53 rfl (lv_at hl 0 rfl) ?_
    refine gM_X11_16_0 (pc := 54) X hH dX11_binds_54 ?_
    refine lv_iload_n (pc := 57) hx hb dX11_binds_57 rfl (lv_at hl 2 rfl) ?_
    refine r_ld (pc := 58) X (heM_3 V w1) hH h dX11_binds_58 (fun v4 h => ?_)
    refine b_icmp_eq (pc := 59) (tgt := 64) hx hb h dX11_binds_59 (by decide) (fun h => ?_) (fun h => ?_)
    · refine lv_iconst (pc := 64) (v := 0) hx hb dX11_binds_64 (by decide) ?_
      refine lv_istore_n (pc := 65) (lv' := [(3, .int ((0 : Int32))), (0, .ref (V.2.2 0)), (1, .int x1), (2, .int x2)]) hx hb dX11_binds_65 rfl hl (by decide) rfl (fun ls hl => ?_)
      exact lX11_binds_66 X hs_X11_binds  N h hH (lv_sub hl [1, 2, 3, 0] rfl)
    · refine lv_iconst (pc := 62) (v := 0) hx hb dX11_binds_62 (by decide) ?_
      exact r_zretk (pc := 63) (by decide) X hH h dX11_binds_63
  · refine lv_aload_n (pc := 8) hx hb dX11_binds_8 rfl (lv_at hl 0 rfl) ?_
    refine lv_iload_n (pc := 9) hx hb dX11_binds_9 rfl (lv_at hl 1 rfl) ?_
    refine r_cvI (pc := 10) (As := [.int x1]) (rest := []) X hH (fun x hx => mX11_variableOf hx) cw_X11_136 (heM_0 V w1) rfl rfl rfl (Nat.le_of_ble_eq_true rfl) hl.1 h dX11_binds_10 (fun w14 v15 H locs h hH => ?_)
    refine lv_istore_n (pc := 13) (lv' := [(3, .int v15), (0, .ref (V.2.2 0)), (1, .int x1), (2, .int x2)]) hx hb dX11_binds_13 rfl hl (by decide) rfl (fun ls hl => ?_)
    refine lv_aload_n (pc := 14) hx hb dX11_binds_14 rfl (lv_at hl 1 rfl) ?_
    refine gM_X11_45_0 (pc := 15) X hH dX11_binds_15 ?_
    refine lv_iload_n (pc := 18) hx hb dX11_binds_18 rfl (lv_at hl 0 rfl) ?_
    refine r_ld (pc := 19) X (heM_12 V w14) hH h dX11_binds_19 (fun v16 h => ?_)
    refine lv_iconst (pc := 20) (v := -1) hx hb dX11_binds_20 (by decide) ?_
    refine b_icmp_ne (pc := 21) (tgt := 31) hx hb h dX11_binds_21 (by decide) (fun h => ?_) (fun h => ?_)
    · exact kX11_binds_31 X hs_X11_binds  h hH (lv_sub hl [1, 3, 0] rfl)
    · refine lv_aload_n (pc := 24) hx hb dX11_binds_24 rfl (lv_at hl 1 rfl) ?_
      refine gM_X11_45_0 (pc := 25) X hH dX11_binds_25 ?_
      refine lv_iload_n (pc := 28) hx hb dX11_binds_28 rfl (lv_at hl 0 rfl) ?_
      refine lv_iload_n (pc := 29) hx hb dX11_binds_29 rfl (lv_at hl 3 rfl) ?_
      refine r_st (pc := 30) X (heM_12 V w14) (hsM_12 V w14) hH h dX11_binds_30 (fun w18 H locs h hH => ?_)
      exact kX11_binds_31 X hs_X11_binds  h hH (lv_sub hl [1, 3, 0] rfl)
def eX11_binds (N : Nat) : Nat → Wd → Int32 → Int32 → Option (Wd × Int32)
  | 0 => fun _ _ _ => none
  | d + 1 => fun w x1 x2 => bX11_binds_0 N d (eX11_binds N d) w x1 x2
set_option maxHeartbeats 4000000 in
set_option maxRecDepth 20000 in
theorem mX11_binds {l : Launch} {V : Ev} {N d : Nat} {w : Wd} {x1 : Int32} {x2 : Int32} {z : Wd × Int32} (h : eX11_binds N d w x1 x2 = some z) : MetI l V (cM V) (AM V) yX11_binds cX11_binds 4 (some .boolean) d [.ref (V.2.2 0), .int x1, .int x2] w z := by
  induction d generalizing w x1 x2 z with
  | zero => exact c_none h
  | succ d ih =>
    refine Met.ofW (cc := cX11_binds) (maxL := 4) (ret := (some .boolean)) (by decide) rfl ?_
    intro p e s m args below meth c s₁ B hml hv
    obtain ⟨rfl, hP, hD, hK⟩ := hv
    have hts := atoms_spec (ws := .code yX11_binds cX11_binds 4 (some .boolean) :: gG) B.pre
    have X : CX V p s m ([.ref (V.2.2 0), .int x1, .int x2] : List Value).toArray meth c cX11_binds 4 RX11 (some .boolean) := ⟨B.exec, B.bytes, hml, findClass_of_methodNamed B.named, fun w hw => hts w (List.mem_cons_of_mem _ hw), B.returns, B.notSynchronized, hK⟩
    have hl := lv_entry ([.ref (V.2.2 0), .int x1, .int x2] : List Value) (n := 4) (Nat.le_of_ble_eq_true rfl)
    rw [lg_entry_eq]
    generalize (lg_sl ([.ref (V.2.2 0), .int x1, .int x2] : List Value) ++ List.replicate (4 - (lg_sl ([.ref (V.2.2 0), .int x1, .int x2] : List Value)).length) Slot.unset).toArray = ls at hl ⊢
    have hl : lv_has ls 4 [(0, .ref (V.2.2 0)), (1, .int x1), (2, .int x2)] := hl
    exact kX11_binds_0 (N := N) X (fun _ _ _ _ h => ih h) h ⟨hP, hD, va_S.rf⟩ hl
theorem dX11_fits_0 : decode cX11_fits 0 = .ok (.iconst 0, 1) := by decide +kernel
theorem dX11_fits_1 : decode cX11_fits 1 = .ok (.istore_n 3, 1) := by decide +kernel
theorem dX11_fits_2 : decode cX11_fits 2 = .ok (.iload_n 3, 1) := by decide +kernel
theorem dX11_fits_3 : decode cX11_fits 3 = .ok (.bipush 8, 2) := by decide +kernel
theorem dX11_fits_5 : decode cX11_fits 5 = .ok (.if_icmp .ge 16, 3) := by decide +kernel
theorem dX11_fits_8 : decode cX11_fits 8 = .ok (.aload_n 0, 1) := by decide +kernel
theorem dX11_fits_9 : decode cX11_fits 9 = .ok (.getfield 45, 3) := by decide +kernel
theorem dX11_fits_12 : decode cX11_fits 12 = .ok (.iload_n 3, 1) := by decide +kernel
theorem dX11_fits_13 : decode cX11_fits 13 = .ok (.iconst (-1), 1) := by decide +kernel
theorem dX11_fits_14 : decode cX11_fits 14 = .ok (.iastore, 1) := by decide +kernel
theorem dX11_fits_15 : decode cX11_fits 15 = .ok (.iinc 3 1, 3) := by decide +kernel
theorem dX11_fits_18 : decode cX11_fits 18 = .ok (.goto (-16), 3) := by decide +kernel
theorem dX11_fits_21 : decode cX11_fits 21 = .ok (.aload_n 0, 1) := by decide +kernel
theorem dX11_fits_22 : decode cX11_fits 22 = .ok (.iload_n 1, 1) := by decide +kernel
theorem dX11_fits_23 : decode cX11_fits 23 = .ok (.iload_n 2, 1) := by decide +kernel
theorem dX11_fits_24 : decode cX11_fits 24 = .ok (.invokevirtual 147, 3) := by decide +kernel
theorem dX11_fits_27 : decode cX11_fits 27 = .ok (.ireturn, 1) := by decide +kernel
def bX11_fits_2 (N d : Nat)  (rec2 : Wd → Int32 → Int32 → Int32 → Option (Wd × Int32)) (w : Wd) (x1 : Int32) (x2 : Int32) (x3 : Int32) : Option (Wd × Int32) :=
  if 8 ≤ x3 then (
    c_cl (eX11_binds N d w x1 x2) fun w1 v2 =>
    c_bo v2 (some (w1, v2))
  ) else (
    c_st w 12 8 x3 (-1) fun w3 =>
    c_nm (x3 + 1) fun x3_4 =>
    rec2 w3 x1 x2 x3_4
  )
set_option maxHeartbeats 4000000 in
theorem kX11_fits_2 {V : Ev} {p : Program} {l : Launch} {e : Env} {N d : Nat} {s : State} {m : MethodId} {args : Array Value} {below : List Frame} {meth : Method} {c : Code} {z : Wd × Int32} (X : CX V p s m args meth c cX11_fits 4 RX11 (some .boolean))   {rec2 : Wd → Int32 → Int32 → Int32 → Option (Wd × Int32)} (hr2 : ∀ (w : Wd) (x1 : Int32) (x2 : Int32) (x3 : Int32) (H : Heap) (locs : List Loc) (ls : Array Slot), rec2 w x1 x2 x3 = some z → wH V (cM V) (AM V) s w H locs → lv_has ls 4 [(0, .ref (V.2.2 0)), (1, .int x1), (2, .int x2), (3, .int x3)] → W p l e (rmD (d + 1)) s m args below meth c H locs 0 0 (MQ below (CtI V (cM V) (AM V) z) args s 0 0 (AM V)) (F0 m 2 ls [])) {w : Wd} {x1 : Int32} {x2 : Int32} {x3 : Int32} {H : Heap} {locs : List Loc} {ls : Array Slot} (h : bX11_fits_2 N d  rec2 w x1 x2 x3 = some z) (hH : wH V (cM V) (AM V) s w H locs) (hl : lv_has ls 4 [(0, .ref (V.2.2 0)), (1, .int x1), (2, .int x2), (3, .int x3)]) : W p l e (rmD (d + 1)) s m args below meth c H locs 0 0 (MQ below (CtI V (cM V) (AM V) z) args s 0 0 (AM V)) (F0 m 2 ls []) := by
  unfold bX11_fits_2 at h
  obtain ⟨hx, hb, hml, hown, hg, hrt, hlk, hK⟩ := id X
  refine lv_iload_n (pc := 2) hx hb dX11_fits_2 rfl (lv_at hl 3 rfl) ?_
  refine lv_bipush (pc := 3) (v := 8) hx hb dX11_fits_3 (by decide) ?_
  refine b_icmp_ge (pc := 5) (tgt := 21) hx hb h dX11_fits_5 (by decide) (fun h => ?_) (fun h => ?_)
  · refine lv_aload_n (pc := 21) hx hb dX11_fits_21 rfl (lv_at hl 0 rfl) ?_
    refine lv_iload_n (pc := 22) hx hb dX11_fits_22 rfl (lv_at hl 1 rfl) ?_
    refine lv_iload_n (pc := 23) hx hb dX11_fits_23 rfl (lv_at hl 2 rfl) ?_
    refine r_cvI (pc := 24) (As := [.int x1, .int x2]) (rest := []) X hH (fun x hx => mX11_binds hx) cw_X11_147 (heM_0 V w) rfl rfl rfl (Nat.le_of_ble_eq_true rfl) hl.1 h dX11_fits_24 (fun w1 v2 H locs h hH => ?_)
    exact r_zret (pc := 27) X hH h dX11_fits_27
  · refine lv_aload_n (pc := 8) hx hb dX11_fits_8 rfl (lv_at hl 0 rfl) ?_
    refine gM_X11_45_0 (pc := 9) X hH dX11_fits_9 ?_
    refine lv_iload_n (pc := 12) hx hb dX11_fits_12 rfl (lv_at hl 3 rfl) ?_
    refine lv_iconst (pc := 13) (v := -1) hx hb dX11_fits_13 (by decide) ?_
    refine r_st (pc := 14) X (heM_12 V w) (hsM_12 V w) hH h dX11_fits_14 (fun w3 H locs h hH => ?_)
    obtain ⟨x3_4, ex3_4, h⟩ := c_nm_ex h
    refine lv_iinc (pc := 15) (v := x3_4) (lv' := [(3, .int x3_4), (0, .ref (V.2.2 0)), (1, .int x1), (2, .int x2)]) hx hb dX11_fits_15 hl (k := 3) rfl (by rw [← ex3_4]; rfl) (by decide) rfl (fun ls hl => ?_)
    refine lv_goto (pc := 18) (tgt := 2) hx hb dX11_fits_18 (by decide) ?_
    exact hr2 _ _ _ _ _ _ _ h hH (lv_sub hl [1, 2, 3, 0] rfl)
def fX11_fits_2 (N d : Nat)   : Nat → Wd → Int32 → Int32 → Int32 → Option (Wd × Int32)
  | 0 => fun _ _ _ _ => none
  | n + 1 => fun w x1 x2 x3 => bX11_fits_2 N d   (fX11_fits_2 N d   n) w x1 x2 x3
theorem lX11_fits_2 {V : Ev} {p : Program} {l : Launch} {e : Env} {N d : Nat} {s : State} {m : MethodId} {args : Array Value} {below : List Frame} {meth : Method} {c : Code} {z : Wd × Int32} (X : CX V p s m args meth c cX11_fits 4 RX11 (some .boolean))    (n : Nat) {w : Wd} {x1 : Int32} {x2 : Int32} {x3 : Int32} {H : Heap} {locs : List Loc} {ls : Array Slot} (h : fX11_fits_2 N d   n w x1 x2 x3 = some z) (hH : wH V (cM V) (AM V) s w H locs) (hl : lv_has ls 4 [(0, .ref (V.2.2 0)), (1, .int x1), (2, .int x2), (3, .int x3)]) : W p l e (rmD (d + 1)) s m args below meth c H locs 0 0 (MQ below (CtI V (cM V) (AM V) z) args s 0 0 (AM V)) (F0 m 2 ls []) := by
  induction n generalizing w x1 x2 x3 H locs ls with
  | zero => exact c_none h
  | succ n ih => exact kX11_fits_2 (N := N) X  (fun _ _ _ _ _ _ _ h hH hl => ih h hH hl) h hH hl
def bX11_fits_0 (N d : Nat)   (w : Wd) (x1 : Int32) (x2 : Int32) : Option (Wd × Int32) :=
  fX11_fits_2 N d   N w x1 x2 ((0 : Int32))
set_option maxHeartbeats 4000000 in
theorem kX11_fits_0 {V : Ev} {p : Program} {l : Launch} {e : Env} {N d : Nat} {s : State} {m : MethodId} {args : Array Value} {below : List Frame} {meth : Method} {c : Code} {z : Wd × Int32} (X : CX V p s m args meth c cX11_fits 4 RX11 (some .boolean))    {w : Wd} {x1 : Int32} {x2 : Int32} {H : Heap} {locs : List Loc} {ls : Array Slot} (h : bX11_fits_0 N d   w x1 x2 = some z) (hH : wH V (cM V) (AM V) s w H locs) (hl : lv_has ls 4 [(0, .ref (V.2.2 0)), (1, .int x1), (2, .int x2)]) : W p l e (rmD (d + 1)) s m args below meth c H locs 0 0 (MQ below (CtI V (cM V) (AM V) z) args s 0 0 (AM V)) (F0 m 0 ls []) := by
  unfold bX11_fits_0 at h
  obtain ⟨hx, hb, hml, hown, hg, hrt, hlk, hK⟩ := id X
  refine lv_iconst (pc := 0) (v := 0) hx hb dX11_fits_0 (by decide) ?_
  refine lv_istore_n (pc := 1) (lv' := [(3, .int ((0 : Int32))), (0, .ref (V.2.2 0)), (1, .int x1), (2, .int x2)]) hx hb dX11_fits_1 rfl hl (by decide) rfl (fun ls hl => ?_)
  exact lX11_fits_2 X   N h hH (lv_sub hl [1, 2, 3, 0] rfl)
def eX11_fits (N : Nat) : Nat → Wd → Int32 → Int32 → Option (Wd × Int32)
  | 0 => fun _ _ _ => none
  | d + 1 => fun w x1 x2 => bX11_fits_0 N d  w x1 x2
set_option maxHeartbeats 4000000 in
set_option maxRecDepth 20000 in
theorem mX11_fits {l : Launch} {V : Ev} {N d : Nat} {w : Wd} {x1 : Int32} {x2 : Int32} {z : Wd × Int32} (h : eX11_fits N d w x1 x2 = some z) : MetI l V (cM V) (AM V) yX11_fits cX11_fits 4 (some .boolean) d [.ref (V.2.2 0), .int x1, .int x2] w z := by
  cases d with
  | zero => exact c_none h
  | succ d =>
    refine Met.ofW (cc := cX11_fits) (maxL := 4) (ret := (some .boolean)) (by decide) rfl ?_
    intro p e s m args below meth c s₁ B hml hv
    obtain ⟨rfl, hP, hD, hK⟩ := hv
    have hts := atoms_spec (ws := .code yX11_fits cX11_fits 4 (some .boolean) :: gG) B.pre
    have X : CX V p s m ([.ref (V.2.2 0), .int x1, .int x2] : List Value).toArray meth c cX11_fits 4 RX11 (some .boolean) := ⟨B.exec, B.bytes, hml, findClass_of_methodNamed B.named, fun w hw => hts w (List.mem_cons_of_mem _ hw), B.returns, B.notSynchronized, hK⟩
    have hl := lv_entry ([.ref (V.2.2 0), .int x1, .int x2] : List Value) (n := 4) (Nat.le_of_ble_eq_true rfl)
    rw [lg_entry_eq]
    generalize (lg_sl ([.ref (V.2.2 0), .int x1, .int x2] : List Value) ++ List.replicate (4 - (lg_sl ([.ref (V.2.2 0), .int x1, .int x2] : List Value)).length) Slot.unset).toArray = ls at hl ⊢
    have hl : lv_has ls 4 [(0, .ref (V.2.2 0)), (1, .int x1), (2, .int x2)] := hl
    exact kX11_fits_0 (N := N) X  h ⟨hP, hD, va_S.rf⟩ hl
theorem dX11_filled_0 : decode cX11_filled 0 = .ok (.aload_n 0, 1) := by decide +kernel
theorem dX11_filled_1 : decode cX11_filled 1 = .ok (.iload_n 1, 1) := by decide +kernel
theorem dX11_filled_2 : decode cX11_filled 2 = .ok (.invokevirtual 117, 3) := by decide +kernel
theorem dX11_filled_5 : decode cX11_filled 5 = .ok (.ifCond .eq 14, 3) := by decide +kernel
theorem dX11_filled_8 : decode cX11_filled 8 = .ok (.aload_n 0, 1) := by decide +kernel
theorem dX11_filled_9 : decode cX11_filled 9 = .ok (.getfield 45, 3) := by decide +kernel
theorem dX11_filled_12 : decode cX11_filled 12 = .ok (.aload_n 0, 1) := by decide +kernel
theorem dX11_filled_13 : decode cX11_filled 13 = .ok (.iload_n 1, 1) := by decide +kernel
theorem dX11_filled_14 : decode cX11_filled 14 = .ok (.invokevirtual 136, 3) := by decide +kernel
theorem dX11_filled_17 : decode cX11_filled 17 = .ok (.iaload, 1) := by decide +kernel
theorem dX11_filled_18 : decode cX11_filled 18 = .ok (.ireturn, 1) := by decide +kernel
theorem dX11_filled_19 : decode cX11_filled 19 = .ok (.aload_n 0, 1) := by decide +kernel
theorem dX11_filled_20 : decode cX11_filled 20 = .ok (.iload_n 1, 1) := by decide +kernel
theorem dX11_filled_21 : decode cX11_filled 21 = .ok (.invokevirtual 140, 3) := by decide +kernel
theorem dX11_filled_24 : decode cX11_filled 24 = .ok (.ifCond .le 16, 3) := by decide +kernel
theorem dX11_filled_27 : decode cX11_filled 27 = .ok (.aload_n 0, 1) := by decide +kernel
theorem dX11_filled_28 : decode cX11_filled 28 = .ok (.aload_n 0, 1) := by decide +kernel
theorem dX11_filled_29 : decode cX11_filled 29 = .ok (.getfield 19, 3) := by decide +kernel
theorem dX11_filled_32 : decode cX11_filled 32 = .ok (.iload_n 1, 1) := by decide +kernel
theorem dX11_filled_33 : decode cX11_filled 33 = .ok (.iaload, 1) := by decide +kernel
theorem dX11_filled_34 : decode cX11_filled 34 = .ok (.invokevirtual 151, 3) := by decide +kernel
theorem dX11_filled_37 : decode cX11_filled 37 = .ok (.goto 4, 3) := by decide +kernel
theorem dX11_filled_40 : decode cX11_filled 40 = .ok (.iconst (-1), 1) := by decide +kernel
theorem dX11_filled_41 : decode cX11_filled 41 = .ok (.istore_n 2, 1) := by decide +kernel
theorem dX11_filled_42 : decode cX11_filled 42 = .ok (.aload_n 0, 1) := by decide +kernel
theorem dX11_filled_43 : decode cX11_filled 43 = .ok (.iload_n 1, 1) := by decide +kernel
theorem dX11_filled_44 : decode cX11_filled 44 = .ok (.invokevirtual 140, 3) := by decide +kernel
theorem dX11_filled_47 : decode cX11_filled 47 = .ok (.iconst 1, 1) := by decide +kernel
theorem dX11_filled_48 : decode cX11_filled 48 = .ok (.if_icmp .le 16, 3) := by decide +kernel
theorem dX11_filled_51 : decode cX11_filled 51 = .ok (.aload_n 0, 1) := by decide +kernel
theorem dX11_filled_52 : decode cX11_filled 52 = .ok (.aload_n 0, 1) := by decide +kernel
theorem dX11_filled_53 : decode cX11_filled 53 = .ok (.getfield 22, 3) := by decide +kernel
theorem dX11_filled_56 : decode cX11_filled 56 = .ok (.iload_n 1, 1) := by decide +kernel
theorem dX11_filled_57 : decode cX11_filled 57 = .ok (.iaload, 1) := by decide +kernel
theorem dX11_filled_58 : decode cX11_filled 58 = .ok (.invokevirtual 151, 3) := by decide +kernel
theorem dX11_filled_61 : decode cX11_filled 61 = .ok (.goto 4, 3) := by decide +kernel
theorem dX11_filled_64 : decode cX11_filled 64 = .ok (.iconst (-1), 1) := by decide +kernel
theorem dX11_filled_65 : decode cX11_filled 65 = .ok (.istore_n 3, 1) := by decide +kernel
theorem dX11_filled_66 : decode cX11_filled 66 = .ok (.aload_n 0, 1) := by decide +kernel
theorem dX11_filled_67 : decode cX11_filled 67 = .ok (.aload_n 0, 1) := by decide +kernel
theorem dX11_filled_68 : decode cX11_filled 68 = .ok (.getfield 16, 3) := by decide +kernel
theorem dX11_filled_71 : decode cX11_filled 71 = .ok (.iload_n 1, 1) := by decide +kernel
theorem dX11_filled_72 : decode cX11_filled 72 = .ok (.iaload, 1) := by decide +kernel
theorem dX11_filled_73 : decode cX11_filled 73 = .ok (.iload_n 2, 1) := by decide +kernel
theorem dX11_filled_74 : decode cX11_filled 74 = .ok (.iload_n 3, 1) := by decide +kernel
theorem dX11_filled_75 : decode cX11_filled 75 = .ok (.invokevirtual 154, 3) := by decide +kernel
theorem dX11_filled_78 : decode cX11_filled 78 = .ok (.ireturn, 1) := by decide +kernel
def bX11_filled_65 (N d : Nat) (self_X11_filled : Wd → Int32 → Option (Wd × Int32))  (w : Wd) (x1 : Int32) (x2 : Int32) (y0 : Int32) : Option (Wd × Int32) :=
  c_ld w 3 1000 x1 fun v7 =>
  c_cl (eX11_make N d w v7 x2 y0) fun w8 v9 =>
  some (w8, v9)
set_option maxHeartbeats 4000000 in
theorem kX11_filled_65 {V : Ev} {p : Program} {l : Launch} {e : Env} {N d : Nat} {s : State} {m : MethodId} {args : Array Value} {below : List Frame} {meth : Method} {c : Code} {z : Wd × Int32} (X : CX V p s m args meth c cX11_filled 4 RX11 (some .int)) {self_X11_filled : Wd → Int32 → Option (Wd × Int32)} (hs_X11_filled : ∀ (w : Wd) (a0 : Int32) (x : Wd × Int32), self_X11_filled w a0 = some x → MetI l V (cM V) (AM V) yX11_filled cX11_filled 4 (some .int) d [.ref (V.2.2 0), .int a0] w x)  {w : Wd} {x1 : Int32} {x2 : Int32} {y0 : Int32} {H : Heap} {locs : List Loc} {ls : Array Slot} (h : bX11_filled_65 N d self_X11_filled  w x1 x2 y0 = some z) (hH : wH V (cM V) (AM V) s w H locs) (hl : lv_has ls 4 [(0, .ref (V.2.2 0)), (1, .int x1), (2, .int x2)]) : W p l e (rmD (d + 1)) s m args below meth c H locs 0 0 (MQ below (CtI V (cM V) (AM V) z) args s 0 0 (AM V)) (F0 m 65 ls [.int y0]) := by
  unfold bX11_filled_65 at h
  obtain ⟨hx, hb, hml, hown, hg, hrt, hlk, hK⟩ := id X
  refine lv_istore_n (pc := 65) (lv' := [(3, .int y0), (0, .ref (V.2.2 0)), (1, .int x1), (2, .int x2)]) hx hb dX11_filled_65 rfl hl (by decide) rfl (fun ls hl => ?_)
  refine lv_aload_n (pc := 66) hx hb dX11_filled_66 rfl (lv_at hl 1 rfl) ?_
  refine lv_aload_n (pc := 67) hx hb dX11_filled_67 rfl (lv_at hl 1 rfl) ?_
  refine gM_X11_16_0 (pc := 68) X hH dX11_filled_68 ?_
  refine lv_iload_n (pc := 71) hx hb dX11_filled_71 rfl (lv_at hl 2 rfl) ?_
  refine r_ld (pc := 72) X (heM_3 V w) hH h dX11_filled_72 (fun v7 h => ?_)
  refine lv_iload_n (pc := 73) hx hb dX11_filled_73 rfl (lv_at hl 3 rfl) ?_
  refine lv_iload_n (pc := 74) hx hb dX11_filled_74 rfl (lv_at hl 0 rfl) ?_
  refine r_cvI (pc := 75) (As := [.int v7, .int x2, .int y0]) (rest := []) X hH (fun x hx => mX11_make hx) cw_X11_154 (heM_0 V w) rfl rfl rfl (Nat.le_of_ble_eq_true rfl) hl.1 h dX11_filled_75 (fun w8 v9 H locs h hH => ?_)
  exact r_iret (pc := 78) X hH h dX11_filled_78
def bX11_filled_41 (N d : Nat) (self_X11_filled : Wd → Int32 → Option (Wd × Int32))  (w : Wd) (x1 : Int32) (y0 : Int32) : Option (Wd × Int32) :=
  c_cl (eX11_parts N d w x1) fun w5 v6 =>
  if v6 ≤ 1 then (
    bX11_filled_65 N d self_X11_filled  w5 x1 y0 (-1)
  ) else (
    c_ld w5 5 1000 x1 fun v10 =>
    c_cl (self_X11_filled w5 v10) fun w11 v12 =>
    bX11_filled_65 N d self_X11_filled  w11 x1 y0 v12
  )
set_option maxHeartbeats 4000000 in
theorem kX11_filled_41 {V : Ev} {p : Program} {l : Launch} {e : Env} {N d : Nat} {s : State} {m : MethodId} {args : Array Value} {below : List Frame} {meth : Method} {c : Code} {z : Wd × Int32} (X : CX V p s m args meth c cX11_filled 4 RX11 (some .int)) {self_X11_filled : Wd → Int32 → Option (Wd × Int32)} (hs_X11_filled : ∀ (w : Wd) (a0 : Int32) (x : Wd × Int32), self_X11_filled w a0 = some x → MetI l V (cM V) (AM V) yX11_filled cX11_filled 4 (some .int) d [.ref (V.2.2 0), .int a0] w x)  {w : Wd} {x1 : Int32} {y0 : Int32} {H : Heap} {locs : List Loc} {ls : Array Slot} (h : bX11_filled_41 N d self_X11_filled  w x1 y0 = some z) (hH : wH V (cM V) (AM V) s w H locs) (hl : lv_has ls 4 [(0, .ref (V.2.2 0)), (1, .int x1)]) : W p l e (rmD (d + 1)) s m args below meth c H locs 0 0 (MQ below (CtI V (cM V) (AM V) z) args s 0 0 (AM V)) (F0 m 41 ls [.int y0]) := by
  unfold bX11_filled_41 at h
  obtain ⟨hx, hb, hml, hown, hg, hrt, hlk, hK⟩ := id X
  refine lv_istore_n (pc := 41) (lv' := [(2, .int y0), (0, .ref (V.2.2 0)), (1, .int x1)]) hx hb dX11_filled_41 rfl hl (by decide) rfl (fun ls hl => ?_)
  refine lv_aload_n (pc := 42) hx hb dX11_filled_42 rfl (lv_at hl 1 rfl) ?_
  refine lv_iload_n (pc := 43) hx hb dX11_filled_43 rfl (lv_at hl 2 rfl) ?_
  refine r_cvI (pc := 44) (As := [.int x1]) (rest := []) X hH (fun x hx => mX11_parts hx) cw_X11_140 (heM_0 V w) rfl rfl rfl (Nat.le_of_ble_eq_true rfl) hl.1 h dX11_filled_44 (fun w5 v6 H locs h hH => ?_)
  refine lv_iconst (pc := 47) (v := 1) hx hb dX11_filled_47 (by decide) ?_
  refine b_icmp_le (pc := 48) (tgt := 64) hx hb h dX11_filled_48 (by decide) (fun h => ?_) (fun h => ?_)
  · refine lv_iconst (pc := 64) (v := -1) hx hb dX11_filled_64 (by decide) ?_
    exact kX11_filled_65 X hs_X11_filled  h hH (lv_sub hl [1, 2, 0] rfl)
  · refine lv_aload_n (pc := 51) hx hb dX11_filled_51 rfl (lv_at hl 1 rfl) ?_
    refine lv_aload_n (pc := 52) hx hb dX11_filled_52 rfl (lv_at hl 1 rfl) ?_
    refine gM_X11_22_0 (pc := 53) X hH dX11_filled_53 ?_
    refine lv_iload_n (pc := 56) hx hb dX11_filled_56 rfl (lv_at hl 2 rfl) ?_
    refine r_ld (pc := 57) X (heM_5 V w5) hH h dX11_filled_57 (fun v10 h => ?_)
    refine r_cvI (pc := 58) (As := [.int v10]) (rest := []) X hH (fun x hx => hs_X11_filled _ _ _ hx) cw_X11_151 (heM_0 V w5) rfl rfl rfl (Nat.le_of_ble_eq_true rfl) hl.1 h dX11_filled_58 (fun w11 v12 H locs h hH => ?_)
    refine lv_goto (pc := 61) (tgt := 65) hx hb dX11_filled_61 (by decide) ?_
    exact kX11_filled_65 X hs_X11_filled  h hH (lv_sub hl [1, 2, 0] rfl)
def bX11_filled_0 (N d : Nat) (self_X11_filled : Wd → Int32 → Option (Wd × Int32))  (w : Wd) (x1 : Int32) : Option (Wd × Int32) :=
  c_cl (eX11_isVariable N d w x1) fun w1 v2 =>
  if v2 = 0 then (
    c_cl (eX11_parts N d w1 x1) fun w3 v4 =>
    if v4 ≤ 0 then (
      bX11_filled_41 N d self_X11_filled  w3 x1 (-1)
    ) else (
      c_ld w3 4 1000 x1 fun v13 =>
      c_cl (self_X11_filled w3 v13) fun w14 v15 =>
      bX11_filled_41 N d self_X11_filled  w14 x1 v15
    )
  ) else (
    c_cl (eX11_variableOf N d w1 x1) fun w16 v17 =>
    c_ld w16 12 8 v17 fun v18 =>
    some (w16, v18)
  )
set_option maxHeartbeats 4000000 in
theorem kX11_filled_0 {V : Ev} {p : Program} {l : Launch} {e : Env} {N d : Nat} {s : State} {m : MethodId} {args : Array Value} {below : List Frame} {meth : Method} {c : Code} {z : Wd × Int32} (X : CX V p s m args meth c cX11_filled 4 RX11 (some .int)) {self_X11_filled : Wd → Int32 → Option (Wd × Int32)} (hs_X11_filled : ∀ (w : Wd) (a0 : Int32) (x : Wd × Int32), self_X11_filled w a0 = some x → MetI l V (cM V) (AM V) yX11_filled cX11_filled 4 (some .int) d [.ref (V.2.2 0), .int a0] w x)  {w : Wd} {x1 : Int32} {H : Heap} {locs : List Loc} {ls : Array Slot} (h : bX11_filled_0 N d self_X11_filled  w x1 = some z) (hH : wH V (cM V) (AM V) s w H locs) (hl : lv_has ls 4 [(0, .ref (V.2.2 0)), (1, .int x1)]) : W p l e (rmD (d + 1)) s m args below meth c H locs 0 0 (MQ below (CtI V (cM V) (AM V) z) args s 0 0 (AM V)) (F0 m 0 ls []) := by
  unfold bX11_filled_0 at h
  obtain ⟨hx, hb, hml, hown, hg, hrt, hlk, hK⟩ := id X
  refine lv_aload_n (pc := 0) hx hb dX11_filled_0 rfl (lv_at hl 0 rfl) ?_
  refine lv_iload_n (pc := 1) hx hb dX11_filled_1 rfl (lv_at hl 1 rfl) ?_
  refine r_cvI (pc := 2) (As := [.int x1]) (rest := []) X hH (fun x hx => mX11_isVariable hx) cw_X11_117 (heM_0 V w) rfl rfl rfl (Nat.le_of_ble_eq_true rfl) hl.1 h dX11_filled_2 (fun w1 v2 H locs h hH => ?_)
  refine b_if_eq (pc := 5) (tgt := 19) hx hb h dX11_filled_5 (by decide) (fun h => ?_) (fun h => ?_)
  · refine lv_aload_n (pc := 19) hx hb dX11_filled_19 rfl (lv_at hl 0 rfl) ?_
    refine lv_iload_n (pc := 20) hx hb dX11_filled_20 rfl (lv_at hl 1 rfl) ?_
    refine r_cvI (pc := 21) (As := [.int x1]) (rest := []) X hH (fun x hx => mX11_parts hx) cw_X11_140 (heM_0 V w1) rfl rfl rfl (Nat.le_of_ble_eq_true rfl) hl.1 h dX11_filled_21 (fun w3 v4 H locs h hH => ?_)
    refine b_if_le (pc := 24) (tgt := 40) hx hb h dX11_filled_24 (by decide) (fun h => ?_) (fun h => ?_)
    · refine lv_iconst (pc := 40) (v := -1) hx hb dX11_filled_40 (by decide) ?_
      exact kX11_filled_41 X hs_X11_filled  h hH (lv_sub hl [0, 1] rfl)
    · refine lv_aload_n (pc := 27) hx hb dX11_filled_27 rfl (lv_at hl 0 rfl) ?_
      refine lv_aload_n (pc := 28) hx hb dX11_filled_28 rfl (lv_at hl 0 rfl) ?_
      refine gM_X11_19_0 (pc := 29) X hH dX11_filled_29 ?_
      refine lv_iload_n (pc := 32) hx hb dX11_filled_32 rfl (lv_at hl 1 rfl) ?_
      refine r_ld (pc := 33) X (heM_4 V w3) hH h dX11_filled_33 (fun v13 h => ?_)
      refine r_cvI (pc := 34) (As := [.int v13]) (rest := []) X hH (fun x hx => hs_X11_filled _ _ _ hx) cw_X11_151 (heM_0 V w3) rfl rfl rfl (Nat.le_of_ble_eq_true rfl) hl.1 h dX11_filled_34 (fun w14 v15 H locs h hH => ?_)
      refine lv_goto (pc := 37) (tgt := 41) hx hb dX11_filled_37 (by decide) ?_
      exact kX11_filled_41 X hs_X11_filled  h hH (lv_sub hl [0, 1] rfl)
  · refine lv_aload_n (pc := 8) hx hb dX11_filled_8 rfl (lv_at hl 0 rfl) ?_
    refine gM_X11_45_0 (pc := 9) X hH dX11_filled_9 ?_
    refine lv_aload_n (pc := 12) hx hb dX11_filled_12 rfl (lv_at hl 0 rfl) ?_
    refine lv_iload_n (pc := 13) hx hb dX11_filled_13 rfl (lv_at hl 1 rfl) ?_
    refine r_cvI (pc := 14) (As := [.int x1]) (rest := [.ref (V.2.2 12)]) X hH (fun x hx => mX11_variableOf hx) cw_X11_136 (heM_0 V w1) rfl rfl rfl (Nat.le_of_ble_eq_true rfl) hl.1 h dX11_filled_14 (fun w16 v17 H locs h hH => ?_)
    refine r_ld (pc := 17) X (heM_12 V w16) hH h dX11_filled_17 (fun v18 h => ?_)
    exact r_iret (pc := 18) X hH h dX11_filled_18
def eX11_filled (N : Nat) : Nat → Wd → Int32 → Option (Wd × Int32)
  | 0 => fun _ _ => none
  | d + 1 => fun w x1 => bX11_filled_0 N d (eX11_filled N d) w x1
set_option maxHeartbeats 4000000 in
set_option maxRecDepth 20000 in
theorem mX11_filled {l : Launch} {V : Ev} {N d : Nat} {w : Wd} {x1 : Int32} {z : Wd × Int32} (h : eX11_filled N d w x1 = some z) : MetI l V (cM V) (AM V) yX11_filled cX11_filled 4 (some .int) d [.ref (V.2.2 0), .int x1] w z := by
  induction d generalizing w x1 z with
  | zero => exact c_none h
  | succ d ih =>
    refine Met.ofW (cc := cX11_filled) (maxL := 4) (ret := (some .int)) (by decide) rfl ?_
    intro p e s m args below meth c s₁ B hml hv
    obtain ⟨rfl, hP, hD, hK⟩ := hv
    have hts := atoms_spec (ws := .code yX11_filled cX11_filled 4 (some .int) :: gG) B.pre
    have X : CX V p s m ([.ref (V.2.2 0), .int x1] : List Value).toArray meth c cX11_filled 4 RX11 (some .int) := ⟨B.exec, B.bytes, hml, findClass_of_methodNamed B.named, fun w hw => hts w (List.mem_cons_of_mem _ hw), B.returns, B.notSynchronized, hK⟩
    have hl := lv_entry ([.ref (V.2.2 0), .int x1] : List Value) (n := 4) (Nat.le_of_ble_eq_true rfl)
    rw [lg_entry_eq]
    generalize (lg_sl ([.ref (V.2.2 0), .int x1] : List Value) ++ List.replicate (4 - (lg_sl ([.ref (V.2.2 0), .int x1] : List Value)).length) Slot.unset).toArray = ls at hl ⊢
    have hl : lv_has ls 4 [(0, .ref (V.2.2 0)), (1, .int x1)] := hl
    exact kX11_filled_0 (N := N) X (fun _ _ _ h => ih h) h ⟨hP, hD, va_S.rf⟩ hl
theorem dX11_ruleAt_0 : decode cX11_ruleAt 0 = .ok (.iconst 0, 1) := by decide +kernel
theorem dX11_ruleAt_1 : decode cX11_ruleAt 1 = .ok (.istore_n 2, 1) := by decide +kernel
theorem dX11_ruleAt_2 : decode cX11_ruleAt 2 = .ok (.iload_n 2, 1) := by decide +kernel
theorem dX11_ruleAt_3 : decode cX11_ruleAt 3 = .ok (.aload_n 0, 1) := by decide +kernel
theorem dX11_ruleAt_4 : decode cX11_ruleAt 4 = .ok (.getfield 158, 3) := by decide +kernel
theorem dX11_ruleAt_7 : decode cX11_ruleAt 7 = .ok (.if_icmp .ge 42, 3) := by decide +kernel
theorem dX11_ruleAt_10 : decode cX11_ruleAt 10 = .ok (.aload_n 0, 1) := by decide +kernel
theorem dX11_ruleAt_11 : decode cX11_ruleAt 11 = .ok (.getfield 41, 3) := by decide +kernel
theorem dX11_ruleAt_14 : decode cX11_ruleAt 14 = .ok (.iload_n 2, 1) := by decide +kernel
theorem dX11_ruleAt_15 : decode cX11_ruleAt 15 = .ok (.baload, 1) := by decide +kernel
theorem dX11_ruleAt_16 : decode cX11_ruleAt 16 = .ok (.ifCond .eq 27, 3) := by decide +kernel
theorem dX11_ruleAt_19 : decode cX11_ruleAt 19 = .ok (.iload_n 2, 1) := by decide +kernel
theorem dX11_ruleAt_20 : decode cX11_ruleAt 20 = .ok (.aload_n 0, 1) := by decide +kernel
theorem dX11_ruleAt_21 : decode cX11_ruleAt 21 = .ok (.getfield 161, 3) := by decide +kernel
theorem dX11_ruleAt_24 : decode cX11_ruleAt 24 = .ok (.if_icmp .eq 19, 3) := by decide +kernel
theorem dX11_ruleAt_27 : decode cX11_ruleAt 27 = .ok (.aload_n 0, 1) := by decide +kernel
theorem dX11_ruleAt_28 : decode cX11_ruleAt 28 = .ok (.aload_n 0, 1) := by decide +kernel
theorem dX11_ruleAt_29 : decode cX11_ruleAt 29 = .ok (.getfield 35, 3) := by decide +kernel
theorem dX11_ruleAt_32 : decode cX11_ruleAt 32 = .ok (.iload_n 2, 1) := by decide +kernel
theorem dX11_ruleAt_33 : decode cX11_ruleAt 33 = .ok (.iaload, 1) := by decide +kernel
theorem dX11_ruleAt_34 : decode cX11_ruleAt 34 = .ok (.iload_n 1, 1) := by decide +kernel
theorem dX11_ruleAt_35 : decode cX11_ruleAt 35 = .ok (.invokevirtual 164, 3) := by decide +kernel
theorem dX11_ruleAt_38 : decode cX11_ruleAt 38 = .ok (.ifCond .eq 5, 3) := by decide +kernel
theorem dX11_ruleAt_41 : decode cX11_ruleAt 41 = .ok (.iload_n 2, 1) := by decide +kernel
theorem dX11_ruleAt_42 : decode cX11_ruleAt 42 = .ok (.ireturn, 1) := by decide +kernel
theorem dX11_ruleAt_43 : decode cX11_ruleAt 43 = .ok (.iinc 2 1, 3) := by decide +kernel
theorem dX11_ruleAt_46 : decode cX11_ruleAt 46 = .ok (.goto (-44), 3) := by decide +kernel
theorem dX11_ruleAt_49 : decode cX11_ruleAt 49 = .ok (.iconst (-1), 1) := by decide +kernel
theorem dX11_ruleAt_50 : decode cX11_ruleAt 50 = .ok (.ireturn, 1) := by decide +kernel
def bX11_ruleAt_43 (N d : Nat)  (rec2 : Wd → Int32 → Int32 → Option (Wd × Int32)) (w : Wd) (x1 : Int32) (x2 : Int32) : Option (Wd × Int32) :=
  c_nm (x2 + 1) fun x2_2 =>
  rec2 w x1 x2_2
set_option maxHeartbeats 4000000 in
theorem kX11_ruleAt_43 {V : Ev} {p : Program} {l : Launch} {e : Env} {N d : Nat} {s : State} {m : MethodId} {args : Array Value} {below : List Frame} {meth : Method} {c : Code} {z : Wd × Int32} (X : CX V p s m args meth c cX11_ruleAt 3 RX11 (some .int))   {rec2 : Wd → Int32 → Int32 → Option (Wd × Int32)} (hr2 : ∀ (w : Wd) (x1 : Int32) (x2 : Int32) (H : Heap) (locs : List Loc) (ls : Array Slot), rec2 w x1 x2 = some z → wH V (cM V) (AM V) s w H locs → lv_has ls 3 [(0, .ref (V.2.2 0)), (1, .int x1), (2, .int x2)] → W p l e (rmD (d + 1)) s m args below meth c H locs 0 0 (MQ below (CtI V (cM V) (AM V) z) args s 0 0 (AM V)) (F0 m 2 ls [])) {w : Wd} {x1 : Int32} {x2 : Int32} {H : Heap} {locs : List Loc} {ls : Array Slot} (h : bX11_ruleAt_43 N d  rec2 w x1 x2 = some z) (hH : wH V (cM V) (AM V) s w H locs) (hl : lv_has ls 3 [(0, .ref (V.2.2 0)), (1, .int x1), (2, .int x2)]) : W p l e (rmD (d + 1)) s m args below meth c H locs 0 0 (MQ below (CtI V (cM V) (AM V) z) args s 0 0 (AM V)) (F0 m 43 ls []) := by
  unfold bX11_ruleAt_43 at h
  obtain ⟨hx, hb, hml, hown, hg, hrt, hlk, hK⟩ := id X
  obtain ⟨x2_2, ex2_2, h⟩ := c_nm_ex h
  refine lv_iinc (pc := 43) (v := x2_2) (lv' := [(2, .int x2_2), (0, .ref (V.2.2 0)), (1, .int x1)]) hx hb dX11_ruleAt_43 hl (k := 2) rfl (by rw [← ex2_2]; rfl) (by decide) rfl (fun ls hl => ?_)
  refine lv_goto (pc := 46) (tgt := 2) hx hb dX11_ruleAt_46 (by decide) ?_
  exact hr2 _ _ _ _ _ _ h hH (lv_sub hl [1, 2, 0] rfl)
def bX11_ruleAt_2 (N d : Nat)  (rec2 : Wd → Int32 → Int32 → Option (Wd × Int32)) (w : Wd) (x1 : Int32) (x2 : Int32) : Option (Wd × Int32) :=
  if (sI w 3) ≤ x2 then (
    some (w, -1)
  ) else (
    c_ld w 11 16 x2 fun v1 =>
    if v1 = 0 then (
      bX11_ruleAt_43 N d  rec2 w x1 x2
    ) else (
      if x2 = (sI w 5) then (
        bX11_ruleAt_43 N d  rec2 w x1 x2
      ) else (
        c_ld w 9 16 x2 fun v3 =>
        c_cl (eX11_fits N d w v3 x1) fun w4 v5 =>
        if v5 = 0 then (
          bX11_ruleAt_43 N d  rec2 w4 x1 x2
        ) else (
          some (w4, x2)
        )
      )
    )
  )
set_option maxHeartbeats 4000000 in
theorem kX11_ruleAt_2 {V : Ev} {p : Program} {l : Launch} {e : Env} {N d : Nat} {s : State} {m : MethodId} {args : Array Value} {below : List Frame} {meth : Method} {c : Code} {z : Wd × Int32} (X : CX V p s m args meth c cX11_ruleAt 3 RX11 (some .int))   {rec2 : Wd → Int32 → Int32 → Option (Wd × Int32)} (hr2 : ∀ (w : Wd) (x1 : Int32) (x2 : Int32) (H : Heap) (locs : List Loc) (ls : Array Slot), rec2 w x1 x2 = some z → wH V (cM V) (AM V) s w H locs → lv_has ls 3 [(0, .ref (V.2.2 0)), (1, .int x1), (2, .int x2)] → W p l e (rmD (d + 1)) s m args below meth c H locs 0 0 (MQ below (CtI V (cM V) (AM V) z) args s 0 0 (AM V)) (F0 m 2 ls [])) {w : Wd} {x1 : Int32} {x2 : Int32} {H : Heap} {locs : List Loc} {ls : Array Slot} (h : bX11_ruleAt_2 N d  rec2 w x1 x2 = some z) (hH : wH V (cM V) (AM V) s w H locs) (hl : lv_has ls 3 [(0, .ref (V.2.2 0)), (1, .int x1), (2, .int x2)]) : W p l e (rmD (d + 1)) s m args below meth c H locs 0 0 (MQ below (CtI V (cM V) (AM V) z) args s 0 0 (AM V)) (F0 m 2 ls []) := by
  unfold bX11_ruleAt_2 at h
  obtain ⟨hx, hb, hml, hown, hg, hrt, hlk, hK⟩ := id X
  refine lv_iload_n (pc := 2) hx hb dX11_ruleAt_2 rfl (lv_at hl 2 rfl) ?_
  refine lv_aload_n (pc := 3) hx hb dX11_ruleAt_3 rfl (lv_at hl 0 rfl) ?_
  refine gM_X11_158_0 (pc := 4) X hH dX11_ruleAt_4 ?_
  refine b_icmp_ge (pc := 7) (tgt := 49) hx hb h dX11_ruleAt_7 (by decide) (fun h => ?_) (fun h => ?_)
  · refine lv_iconst (pc := 49) (v := -1) hx hb dX11_ruleAt_49 (by decide) ?_
    exact r_iret (pc := 50) X hH h dX11_ruleAt_50
  · refine lv_aload_n (pc := 10) hx hb dX11_ruleAt_10 rfl (lv_at hl 0 rfl) ?_
    refine gM_X11_41_0 (pc := 11) X hH dX11_ruleAt_11 ?_
    refine lv_iload_n (pc := 14) hx hb dX11_ruleAt_14 rfl (lv_at hl 2 rfl) ?_
    refine r_lz (pc := 15) X (heM_11 V w) hH h dX11_ruleAt_15 (fun v1 h => ?_)
    refine b_if_eq (pc := 16) (tgt := 43) hx hb h dX11_ruleAt_16 (by decide) (fun h => ?_) (fun h => ?_)
    · exact kX11_ruleAt_43 X  hr2 h hH (lv_sub hl [0, 1, 2] rfl)
    · refine lv_iload_n (pc := 19) hx hb dX11_ruleAt_19 rfl (lv_at hl 2 rfl) ?_
      refine lv_aload_n (pc := 20) hx hb dX11_ruleAt_20 rfl (lv_at hl 0 rfl) ?_
      refine gM_X11_161_0 (pc := 21) X hH dX11_ruleAt_21 ?_
      refine b_icmp_eq (pc := 24) (tgt := 43) hx hb h dX11_ruleAt_24 (by decide) (fun h => ?_) (fun h => ?_)
      · exact kX11_ruleAt_43 X  hr2 h hH (lv_sub hl [0, 1, 2] rfl)
      · refine lv_aload_n (pc := 27) hx hb dX11_ruleAt_27 rfl (lv_at hl 0 rfl) ?_
        refine lv_aload_n (pc := 28) hx hb dX11_ruleAt_28 rfl (lv_at hl 0 rfl) ?_
        refine gM_X11_35_0 (pc := 29) X hH dX11_ruleAt_29 ?_
        refine lv_iload_n (pc := 32) hx hb dX11_ruleAt_32 rfl (lv_at hl 2 rfl) ?_
        refine r_ld (pc := 33) X (heM_9 V w) hH h dX11_ruleAt_33 (fun v3 h => ?_)
        refine lv_iload_n (pc := 34) hx hb dX11_ruleAt_34 rfl (lv_at hl 1 rfl) ?_
        refine r_cvI (pc := 35) (As := [.int v3, .int x1]) (rest := []) X hH (fun x hx => mX11_fits hx) cw_X11_164 (heM_0 V w) rfl rfl rfl (Nat.le_of_ble_eq_true rfl) hl.1 h dX11_ruleAt_35 (fun w4 v5 H locs h hH => ?_)
        refine b_if_eq (pc := 38) (tgt := 43) hx hb h dX11_ruleAt_38 (by decide) (fun h => ?_) (fun h => ?_)
        · exact kX11_ruleAt_43 X  hr2 h hH (lv_sub hl [0, 1, 2] rfl)
        · refine lv_iload_n (pc := 41) hx hb dX11_ruleAt_41 rfl (lv_at hl 2 rfl) ?_
          exact r_iret (pc := 42) X hH h dX11_ruleAt_42
def fX11_ruleAt_2 (N d : Nat)   : Nat → Wd → Int32 → Int32 → Option (Wd × Int32)
  | 0 => fun _ _ _ => none
  | n + 1 => fun w x1 x2 => bX11_ruleAt_2 N d   (fX11_ruleAt_2 N d   n) w x1 x2
theorem lX11_ruleAt_2 {V : Ev} {p : Program} {l : Launch} {e : Env} {N d : Nat} {s : State} {m : MethodId} {args : Array Value} {below : List Frame} {meth : Method} {c : Code} {z : Wd × Int32} (X : CX V p s m args meth c cX11_ruleAt 3 RX11 (some .int))    (n : Nat) {w : Wd} {x1 : Int32} {x2 : Int32} {H : Heap} {locs : List Loc} {ls : Array Slot} (h : fX11_ruleAt_2 N d   n w x1 x2 = some z) (hH : wH V (cM V) (AM V) s w H locs) (hl : lv_has ls 3 [(0, .ref (V.2.2 0)), (1, .int x1), (2, .int x2)]) : W p l e (rmD (d + 1)) s m args below meth c H locs 0 0 (MQ below (CtI V (cM V) (AM V) z) args s 0 0 (AM V)) (F0 m 2 ls []) := by
  induction n generalizing w x1 x2 H locs ls with
  | zero => exact c_none h
  | succ n ih => exact kX11_ruleAt_2 (N := N) X  (fun _ _ _ _ _ _ h hH hl => ih h hH hl) h hH hl
def bX11_ruleAt_0 (N d : Nat)   (w : Wd) (x1 : Int32) : Option (Wd × Int32) :=
  fX11_ruleAt_2 N d   N w x1 ((0 : Int32))
set_option maxHeartbeats 4000000 in
theorem kX11_ruleAt_0 {V : Ev} {p : Program} {l : Launch} {e : Env} {N d : Nat} {s : State} {m : MethodId} {args : Array Value} {below : List Frame} {meth : Method} {c : Code} {z : Wd × Int32} (X : CX V p s m args meth c cX11_ruleAt 3 RX11 (some .int))    {w : Wd} {x1 : Int32} {H : Heap} {locs : List Loc} {ls : Array Slot} (h : bX11_ruleAt_0 N d   w x1 = some z) (hH : wH V (cM V) (AM V) s w H locs) (hl : lv_has ls 3 [(0, .ref (V.2.2 0)), (1, .int x1)]) : W p l e (rmD (d + 1)) s m args below meth c H locs 0 0 (MQ below (CtI V (cM V) (AM V) z) args s 0 0 (AM V)) (F0 m 0 ls []) := by
  unfold bX11_ruleAt_0 at h
  obtain ⟨hx, hb, hml, hown, hg, hrt, hlk, hK⟩ := id X
  refine lv_iconst (pc := 0) (v := 0) hx hb dX11_ruleAt_0 (by decide) ?_
  refine lv_istore_n (pc := 1) (lv' := [(2, .int ((0 : Int32))), (0, .ref (V.2.2 0)), (1, .int x1)]) hx hb dX11_ruleAt_1 rfl hl (by decide) rfl (fun ls hl => ?_)
  exact lX11_ruleAt_2 X   N h hH (lv_sub hl [1, 2, 0] rfl)
def eX11_ruleAt (N : Nat) : Nat → Wd → Int32 → Option (Wd × Int32)
  | 0 => fun _ _ => none
  | d + 1 => fun w x1 => bX11_ruleAt_0 N d  w x1
set_option maxHeartbeats 4000000 in
set_option maxRecDepth 20000 in
theorem mX11_ruleAt {l : Launch} {V : Ev} {N d : Nat} {w : Wd} {x1 : Int32} {z : Wd × Int32} (h : eX11_ruleAt N d w x1 = some z) : MetI l V (cM V) (AM V) yX11_ruleAt cX11_ruleAt 3 (some .int) d [.ref (V.2.2 0), .int x1] w z := by
  cases d with
  | zero => exact c_none h
  | succ d =>
    refine Met.ofW (cc := cX11_ruleAt) (maxL := 3) (ret := (some .int)) (by decide) rfl ?_
    intro p e s m args below meth c s₁ B hml hv
    obtain ⟨rfl, hP, hD, hK⟩ := hv
    have hts := atoms_spec (ws := .code yX11_ruleAt cX11_ruleAt 3 (some .int) :: gG) B.pre
    have X : CX V p s m ([.ref (V.2.2 0), .int x1] : List Value).toArray meth c cX11_ruleAt 3 RX11 (some .int) := ⟨B.exec, B.bytes, hml, findClass_of_methodNamed B.named, fun w hw => hts w (List.mem_cons_of_mem _ hw), B.returns, B.notSynchronized, hK⟩
    have hl := lv_entry ([.ref (V.2.2 0), .int x1] : List Value) (n := 3) (Nat.le_of_ble_eq_true rfl)
    rw [lg_entry_eq]
    generalize (lg_sl ([.ref (V.2.2 0), .int x1] : List Value) ++ List.replicate (3 - (lg_sl ([.ref (V.2.2 0), .int x1] : List Value)).length) Slot.unset).toArray = ls at hl ⊢
    have hl : lv_has ls 3 [(0, .ref (V.2.2 0)), (1, .int x1)] := hl
    exact kX11_ruleAt_0 (N := N) X  h ⟨hP, hD, va_S.rf⟩ hl
theorem dX11_can_0 : decode cX11_can 0 = .ok (.aload_n 0, 1) := by decide +kernel
theorem dX11_can_1 : decode cX11_can 1 = .ok (.getfield 48, 3) := by decide +kernel
theorem dX11_can_4 : decode cX11_can 4 = .ok (.iload_n 1, 1) := by decide +kernel
theorem dX11_can_5 : decode cX11_can 5 = .ok (.iaload, 1) := by decide +kernel
theorem dX11_can_6 : decode cX11_can 6 = .ok (.ifCond .ne 85, 3) := by decide +kernel
theorem dX11_can_9 : decode cX11_can 9 = .ok (.aload_n 0, 1) := by decide +kernel
theorem dX11_can_10 : decode cX11_can 10 = .ok (.getfield 51, 3) := by decide +kernel
theorem dX11_can_13 : decode cX11_can 13 = .ok (.iload_n 1, 1) := by decide +kernel
theorem dX11_can_14 : decode cX11_can 14 = .ok (.aload_n 0, 1) := by decide +kernel
theorem dX11_can_15 : decode cX11_can 15 = .ok (.iload_n 1, 1) := by decide +kernel
theorem dX11_can_16 : decode cX11_can 16 = .ok (.invokevirtual 167, 3) := by decide +kernel
theorem dX11_can_19 : decode cX11_can 19 = .ok (.iastore, 1) := by decide +kernel
theorem dX11_can_20 : decode cX11_can 20 = .ok (.aload_n 0, 1) := by decide +kernel
theorem dX11_can_21 : decode cX11_can 21 = .ok (.getfield 51, 3) := by decide +kernel
theorem dX11_can_24 : decode cX11_can 24 = .ok (.iload_n 1, 1) := by decide +kernel
theorem dX11_can_25 : decode cX11_can 25 = .ok (.iaload, 1) := by decide +kernel
theorem dX11_can_26 : decode cX11_can 26 = .ok (.iconst (-1), 1) := by decide +kernel
theorem dX11_can_27 : decode cX11_can 27 = .ok (.if_icmp .eq 7, 3) := by decide +kernel
theorem dX11_can_30 : decode cX11_can 30 = .ok (.iconst 1, 1) := by decide +kernel
theorem dX11_can_31 : decode cX11_can 31 = .ok (.goto 4, 3) := by decide +kernel
theorem dX11_can_34 : decode cX11_can 34 = .ok (.iconst 0, 1) := by decide +kernel
theorem dX11_can_35 : decode cX11_can 35 = .ok (.istore_n 2, 1) := by decide +kernel
theorem dX11_can_36 : decode cX11_can 36 = .ok (.iconst 0, 1) := by decide +kernel
theorem dX11_can_37 : decode cX11_can 37 = .ok (.istore_n 3, 1) := by decide +kernel
theorem dX11_can_38 : decode cX11_can 38 = .ok (.iload_n 3, 1) := by decide +kernel
theorem dX11_can_39 : decode cX11_can 39 = .ok (.aload_n 0, 1) := by decide +kernel
theorem dX11_can_40 : decode cX11_can 40 = .ok (.iload_n 1, 1) := by decide +kernel
theorem dX11_can_41 : decode cX11_can 41 = .ok (.invokevirtual 140, 3) := by decide +kernel
theorem dX11_can_44 : decode cX11_can 44 = .ok (.if_icmp .ge 32, 3) := by decide +kernel
theorem dX11_can_47 : decode cX11_can 47 = .ok (.aload_n 0, 1) := by decide +kernel
theorem dX11_can_48 : decode cX11_can 48 = .ok (.aload_n 0, 1) := by decide +kernel
theorem dX11_can_49 : decode cX11_can 49 = .ok (.iload_n 1, 1) := by decide +kernel
theorem dX11_can_50 : decode cX11_can 50 = .ok (.iload_n 3, 1) := by decide +kernel
theorem dX11_can_51 : decode cX11_can 51 = .ok (.invokevirtual 143, 3) := by decide +kernel
theorem dX11_can_54 : decode cX11_can 54 = .ok (.invokevirtual 170, 3) := by decide +kernel
theorem dX11_can_57 : decode cX11_can 57 = .ok (.ifCond .ne 7, 3) := by decide +kernel
theorem dX11_can_60 : decode cX11_can 60 = .ok (.iload_n 2, 1) := by decide +kernel
theorem dX11_can_61 : decode cX11_can 61 = .ok (.ifCond .eq 7, 3) := by decide +kernel
theorem dX11_can_64 : decode cX11_can 64 = .ok (.iconst 1, 1) := by decide +kernel
theorem dX11_can_65 : decode cX11_can 65 = .ok (.goto 4, 3) := by decide +kernel
theorem dX11_can_68 : decode cX11_can 68 = .ok (.iconst 0, 1) := by decide +kernel
theorem dX11_can_69 : decode cX11_can 69 = .ok (.istore_n 2, 1) := by decide +kernel
theorem dX11_can_70 : decode cX11_can 70 = .ok (.iinc 3 1, 3) := by decide +kernel
theorem dX11_can_73 : decode cX11_can 73 = .ok (.goto (-35), 3) := by decide +kernel
theorem dX11_can_76 : decode cX11_can 76 = .ok (.aload_n 0, 1) := by decide +kernel
theorem dX11_can_77 : decode cX11_can 77 = .ok (.getfield 48, 3) := by decide +kernel
theorem dX11_can_80 : decode cX11_can 80 = .ok (.iload_n 1, 1) := by decide +kernel
theorem dX11_can_81 : decode cX11_can 81 = .ok (.iload_n 2, 1) := by decide +kernel
theorem dX11_can_82 : decode cX11_can 82 = .ok (.ifCond .eq 7, 3) := by decide +kernel
theorem dX11_can_85 : decode cX11_can 85 = .ok (.iconst 1, 1) := by decide +kernel
theorem dX11_can_86 : decode cX11_can 86 = .ok (.goto 4, 3) := by decide +kernel
theorem dX11_can_89 : decode cX11_can 89 = .ok (.iconst 2, 1) := by decide +kernel
theorem dX11_can_90 : decode cX11_can 90 = .ok (.iastore, 1) := by decide +kernel
theorem dX11_can_91 : decode cX11_can 91 = .ok (.aload_n 0, 1) := by decide +kernel
theorem dX11_can_92 : decode cX11_can 92 = .ok (.getfield 48, 3) := by decide +kernel
theorem dX11_can_95 : decode cX11_can 95 = .ok (.iload_n 1, 1) := by decide +kernel
theorem dX11_can_96 : decode cX11_can 96 = .ok (.iaload, 1) := by decide +kernel
theorem dX11_can_97 : decode cX11_can 97 = .ok (.iconst 1, 1) := by decide +kernel
theorem dX11_can_98 : decode cX11_can 98 = .ok (.if_icmp .ne 7, 3) := by decide +kernel
theorem dX11_can_101 : decode cX11_can 101 = .ok (.iconst 1, 1) := by decide +kernel
theorem dX11_can_102 : decode cX11_can 102 = .ok (.goto 4, 3) := by decide +kernel
theorem dX11_can_105 : decode cX11_can 105 = .ok (.iconst 0, 1) := by decide +kernel
theorem dX11_can_106 : decode cX11_can 106 = .ok (.ireturn, 1) := by decide +kernel
def bX11_can_106 (N d : Nat) (self_X11_can : Wd → Int32 → Option (Wd × Int32))  (w : Wd) (y0 : Int32) : Option (Wd × Int32) :=
  c_bo y0 (some (w, y0))
set_option maxHeartbeats 4000000 in
theorem kX11_can_106 {V : Ev} {p : Program} {l : Launch} {e : Env} {N d : Nat} {s : State} {m : MethodId} {args : Array Value} {below : List Frame} {meth : Method} {c : Code} {z : Wd × Int32} (X : CX V p s m args meth c cX11_can 4 RX11 (some .boolean)) {self_X11_can : Wd → Int32 → Option (Wd × Int32)} (hs_X11_can : ∀ (w : Wd) (a0 : Int32) (x : Wd × Int32), self_X11_can w a0 = some x → MetI l V (cM V) (AM V) yX11_can cX11_can 4 (some .boolean) d [.ref (V.2.2 0), .int a0] w x)  {w : Wd} {y0 : Int32} {H : Heap} {locs : List Loc} {ls : Array Slot} (h : bX11_can_106 N d self_X11_can  w y0 = some z) (hH : wH V (cM V) (AM V) s w H locs) (hl : lv_has ls 4 []) : W p l e (rmD (d + 1)) s m args below meth c H locs 0 0 (MQ below (CtI V (cM V) (AM V) z) args s 0 0 (AM V)) (F0 m 106 ls [.int y0]) := by
  unfold bX11_can_106 at h
  obtain ⟨hx, hb, hml, hown, hg, hrt, hlk, hK⟩ := id X
  exact r_zret (pc := 106) X hH h dX11_can_106
def bX11_can_91 (N d : Nat) (self_X11_can : Wd → Int32 → Option (Wd × Int32))  (w : Wd) (x1 : Int32) : Option (Wd × Int32) :=
  c_ld w 13 1000 x1 fun v2 =>
  if v2 = 1 then (
    bX11_can_106 N d self_X11_can  w 1
  ) else (
    bX11_can_106 N d self_X11_can  w 0
  )
set_option maxHeartbeats 4000000 in
theorem kX11_can_91 {V : Ev} {p : Program} {l : Launch} {e : Env} {N d : Nat} {s : State} {m : MethodId} {args : Array Value} {below : List Frame} {meth : Method} {c : Code} {z : Wd × Int32} (X : CX V p s m args meth c cX11_can 4 RX11 (some .boolean)) {self_X11_can : Wd → Int32 → Option (Wd × Int32)} (hs_X11_can : ∀ (w : Wd) (a0 : Int32) (x : Wd × Int32), self_X11_can w a0 = some x → MetI l V (cM V) (AM V) yX11_can cX11_can 4 (some .boolean) d [.ref (V.2.2 0), .int a0] w x)  {w : Wd} {x1 : Int32} {H : Heap} {locs : List Loc} {ls : Array Slot} (h : bX11_can_91 N d self_X11_can  w x1 = some z) (hH : wH V (cM V) (AM V) s w H locs) (hl : lv_has ls 4 [(0, .ref (V.2.2 0)), (1, .int x1)]) : W p l e (rmD (d + 1)) s m args below meth c H locs 0 0 (MQ below (CtI V (cM V) (AM V) z) args s 0 0 (AM V)) (F0 m 91 ls []) := by
  unfold bX11_can_91 at h
  obtain ⟨hx, hb, hml, hown, hg, hrt, hlk, hK⟩ := id X
  refine lv_aload_n (pc := 91) hx hb dX11_can_91 rfl (lv_at hl 0 rfl) ?_
  refine gM_X11_48_0 (pc := 92) X hH dX11_can_92 ?_
  refine lv_iload_n (pc := 95) hx hb dX11_can_95 rfl (lv_at hl 1 rfl) ?_
  refine r_ld (pc := 96) X (heM_13 V w) hH h dX11_can_96 (fun v2 h => ?_)
  refine lv_iconst (pc := 97) (v := 1) hx hb dX11_can_97 (by decide) ?_
  refine b_icmp_ne (pc := 98) (tgt := 105) hx hb h dX11_can_98 (by decide) (fun h => ?_) (fun h => ?_)
  · refine lv_iconst (pc := 105) (v := 0) hx hb dX11_can_105 (by decide) ?_
    exact kX11_can_106 X hs_X11_can  h hH (lv_sub hl [] rfl)
  · refine lv_iconst (pc := 101) (v := 1) hx hb dX11_can_101 (by decide) ?_
    refine lv_goto (pc := 102) (tgt := 106) hx hb dX11_can_102 (by decide) ?_
    exact kX11_can_106 X hs_X11_can  h hH (lv_sub hl [] rfl)
def bX11_can_90 (N d : Nat) (self_X11_can : Wd → Int32 → Option (Wd × Int32))  (w : Wd) (x1 : Int32) (y1 : Int32) (y2 : Int32) : Option (Wd × Int32) :=
  c_st w 13 1000 y1 y2 fun w9 =>
  bX11_can_91 N d self_X11_can  w9 x1
set_option maxHeartbeats 4000000 in
theorem kX11_can_90 {V : Ev} {p : Program} {l : Launch} {e : Env} {N d : Nat} {s : State} {m : MethodId} {args : Array Value} {below : List Frame} {meth : Method} {c : Code} {z : Wd × Int32} (X : CX V p s m args meth c cX11_can 4 RX11 (some .boolean)) {self_X11_can : Wd → Int32 → Option (Wd × Int32)} (hs_X11_can : ∀ (w : Wd) (a0 : Int32) (x : Wd × Int32), self_X11_can w a0 = some x → MetI l V (cM V) (AM V) yX11_can cX11_can 4 (some .boolean) d [.ref (V.2.2 0), .int a0] w x)  {w : Wd} {x1 : Int32} {y1 : Int32} {y2 : Int32} {H : Heap} {locs : List Loc} {ls : Array Slot} (h : bX11_can_90 N d self_X11_can  w x1 y1 y2 = some z) (hH : wH V (cM V) (AM V) s w H locs) (hl : lv_has ls 4 [(0, .ref (V.2.2 0)), (1, .int x1)]) : W p l e (rmD (d + 1)) s m args below meth c H locs 0 0 (MQ below (CtI V (cM V) (AM V) z) args s 0 0 (AM V)) (F0 m 90 ls [.int y2, .int y1, .ref (V.2.2 13)]) := by
  unfold bX11_can_90 at h
  obtain ⟨hx, hb, hml, hown, hg, hrt, hlk, hK⟩ := id X
  refine r_st (pc := 90) X (heM_13 V w) (hsM_13 V w) hH h dX11_can_90 (fun w9 H locs h hH => ?_)
  exact kX11_can_91 X hs_X11_can  h hH (lv_sub hl [0, 1] rfl)
def bX11_can_69 (N d : Nat) (self_X11_can : Wd → Int32 → Option (Wd × Int32)) (rec38 : Wd → Int32 → Int32 → Int32 → Option (Wd × Int32)) (w : Wd) (x1 : Int32) (x3 : Int32) (y0 : Int32) : Option (Wd × Int32) :=
  c_nm (x3 + 1) fun x3_14 =>
  rec38 w x1 y0 x3_14
set_option maxHeartbeats 4000000 in
theorem kX11_can_69 {V : Ev} {p : Program} {l : Launch} {e : Env} {N d : Nat} {s : State} {m : MethodId} {args : Array Value} {below : List Frame} {meth : Method} {c : Code} {z : Wd × Int32} (X : CX V p s m args meth c cX11_can 4 RX11 (some .boolean)) {self_X11_can : Wd → Int32 → Option (Wd × Int32)} (hs_X11_can : ∀ (w : Wd) (a0 : Int32) (x : Wd × Int32), self_X11_can w a0 = some x → MetI l V (cM V) (AM V) yX11_can cX11_can 4 (some .boolean) d [.ref (V.2.2 0), .int a0] w x) {rec38 : Wd → Int32 → Int32 → Int32 → Option (Wd × Int32)} (hr38 : ∀ (w : Wd) (x1 : Int32) (x2 : Int32) (x3 : Int32) (H : Heap) (locs : List Loc) (ls : Array Slot), rec38 w x1 x2 x3 = some z → wH V (cM V) (AM V) s w H locs → lv_has ls 4 [(0, .ref (V.2.2 0)), (1, .int x1), (2, .int x2), (3, .int x3)] → W p l e (rmD (d + 1)) s m args below meth c H locs 0 0 (MQ below (CtI V (cM V) (AM V) z) args s 0 0 (AM V)) (F0 m 38 ls [])) {w : Wd} {x1 : Int32} {x3 : Int32} {y0 : Int32} {H : Heap} {locs : List Loc} {ls : Array Slot} (h : bX11_can_69 N d self_X11_can rec38 w x1 x3 y0 = some z) (hH : wH V (cM V) (AM V) s w H locs) (hl : lv_has ls 4 [(0, .ref (V.2.2 0)), (1, .int x1), (3, .int x3)]) : W p l e (rmD (d + 1)) s m args below meth c H locs 0 0 (MQ below (CtI V (cM V) (AM V) z) args s 0 0 (AM V)) (F0 m 69 ls [.int y0]) := by
  unfold bX11_can_69 at h
  obtain ⟨hx, hb, hml, hown, hg, hrt, hlk, hK⟩ := id X
  refine lv_istore_n (pc := 69) (lv' := [(2, .int y0), (0, .ref (V.2.2 0)), (1, .int x1), (3, .int x3)]) hx hb dX11_can_69 rfl hl (by decide) rfl (fun ls hl => ?_)
  obtain ⟨x3_14, ex3_14, h⟩ := c_nm_ex h
  refine lv_iinc (pc := 70) (v := x3_14) (lv' := [(3, .int x3_14), (2, .int y0), (0, .ref (V.2.2 0)), (1, .int x1)]) hx hb dX11_can_70 hl (k := 3) rfl (by rw [← ex3_14]; rfl) (by decide) rfl (fun ls hl => ?_)
  refine lv_goto (pc := 73) (tgt := 38) hx hb dX11_can_73 (by decide) ?_
  exact hr38 _ _ _ _ _ _ _ h hH (lv_sub hl [2, 3, 1, 0] rfl)
def bX11_can_64 (N d : Nat) (self_X11_can : Wd → Int32 → Option (Wd × Int32)) (rec38 : Wd → Int32 → Int32 → Int32 → Option (Wd × Int32)) (w : Wd) (x1 : Int32) (x3 : Int32) : Option (Wd × Int32) :=
  bX11_can_69 N d self_X11_can rec38 w x1 x3 1
set_option maxHeartbeats 4000000 in
theorem kX11_can_64 {V : Ev} {p : Program} {l : Launch} {e : Env} {N d : Nat} {s : State} {m : MethodId} {args : Array Value} {below : List Frame} {meth : Method} {c : Code} {z : Wd × Int32} (X : CX V p s m args meth c cX11_can 4 RX11 (some .boolean)) {self_X11_can : Wd → Int32 → Option (Wd × Int32)} (hs_X11_can : ∀ (w : Wd) (a0 : Int32) (x : Wd × Int32), self_X11_can w a0 = some x → MetI l V (cM V) (AM V) yX11_can cX11_can 4 (some .boolean) d [.ref (V.2.2 0), .int a0] w x) {rec38 : Wd → Int32 → Int32 → Int32 → Option (Wd × Int32)} (hr38 : ∀ (w : Wd) (x1 : Int32) (x2 : Int32) (x3 : Int32) (H : Heap) (locs : List Loc) (ls : Array Slot), rec38 w x1 x2 x3 = some z → wH V (cM V) (AM V) s w H locs → lv_has ls 4 [(0, .ref (V.2.2 0)), (1, .int x1), (2, .int x2), (3, .int x3)] → W p l e (rmD (d + 1)) s m args below meth c H locs 0 0 (MQ below (CtI V (cM V) (AM V) z) args s 0 0 (AM V)) (F0 m 38 ls [])) {w : Wd} {x1 : Int32} {x3 : Int32} {H : Heap} {locs : List Loc} {ls : Array Slot} (h : bX11_can_64 N d self_X11_can rec38 w x1 x3 = some z) (hH : wH V (cM V) (AM V) s w H locs) (hl : lv_has ls 4 [(0, .ref (V.2.2 0)), (1, .int x1), (3, .int x3)]) : W p l e (rmD (d + 1)) s m args below meth c H locs 0 0 (MQ below (CtI V (cM V) (AM V) z) args s 0 0 (AM V)) (F0 m 64 ls []) := by
  unfold bX11_can_64 at h
  obtain ⟨hx, hb, hml, hown, hg, hrt, hlk, hK⟩ := id X
  refine lv_iconst (pc := 64) (v := 1) hx hb dX11_can_64 (by decide) ?_
  refine lv_goto (pc := 65) (tgt := 69) hx hb dX11_can_65 (by decide) ?_
  exact kX11_can_69 X hs_X11_can hr38 h hH (lv_sub hl [0, 1, 2] rfl)
def bX11_can_38 (N d : Nat) (self_X11_can : Wd → Int32 → Option (Wd × Int32)) (rec38 : Wd → Int32 → Int32 → Int32 → Option (Wd × Int32)) (w : Wd) (x1 : Int32) (x2 : Int32) (x3 : Int32) : Option (Wd × Int32) :=
  c_cl (eX11_parts N d w x1) fun w7 v8 =>
  if v8 ≤ x3 then (
    if x2 = 0 then (
      bX11_can_90 N d self_X11_can  w7 x1 x1 2
    ) else (
      bX11_can_90 N d self_X11_can  w7 x1 x1 1
    )
  ) else (
    c_cl (eX11_partOf N d w7 x1 x3) fun w10 v11 =>
    c_cl (self_X11_can w10 v11) fun w12 v13 =>
    if v13 = 0 then (
      if x2 = 0 then (
        bX11_can_69 N d self_X11_can rec38 w12 x1 x3 0
      ) else (
        bX11_can_64 N d self_X11_can rec38 w12 x1 x3
      )
    ) else (
      bX11_can_64 N d self_X11_can rec38 w12 x1 x3
    )
  )
set_option maxHeartbeats 4000000 in
theorem kX11_can_38 {V : Ev} {p : Program} {l : Launch} {e : Env} {N d : Nat} {s : State} {m : MethodId} {args : Array Value} {below : List Frame} {meth : Method} {c : Code} {z : Wd × Int32} (X : CX V p s m args meth c cX11_can 4 RX11 (some .boolean)) {self_X11_can : Wd → Int32 → Option (Wd × Int32)} (hs_X11_can : ∀ (w : Wd) (a0 : Int32) (x : Wd × Int32), self_X11_can w a0 = some x → MetI l V (cM V) (AM V) yX11_can cX11_can 4 (some .boolean) d [.ref (V.2.2 0), .int a0] w x) {rec38 : Wd → Int32 → Int32 → Int32 → Option (Wd × Int32)} (hr38 : ∀ (w : Wd) (x1 : Int32) (x2 : Int32) (x3 : Int32) (H : Heap) (locs : List Loc) (ls : Array Slot), rec38 w x1 x2 x3 = some z → wH V (cM V) (AM V) s w H locs → lv_has ls 4 [(0, .ref (V.2.2 0)), (1, .int x1), (2, .int x2), (3, .int x3)] → W p l e (rmD (d + 1)) s m args below meth c H locs 0 0 (MQ below (CtI V (cM V) (AM V) z) args s 0 0 (AM V)) (F0 m 38 ls [])) {w : Wd} {x1 : Int32} {x2 : Int32} {x3 : Int32} {H : Heap} {locs : List Loc} {ls : Array Slot} (h : bX11_can_38 N d self_X11_can rec38 w x1 x2 x3 = some z) (hH : wH V (cM V) (AM V) s w H locs) (hl : lv_has ls 4 [(0, .ref (V.2.2 0)), (1, .int x1), (2, .int x2), (3, .int x3)]) : W p l e (rmD (d + 1)) s m args below meth c H locs 0 0 (MQ below (CtI V (cM V) (AM V) z) args s 0 0 (AM V)) (F0 m 38 ls []) := by
  unfold bX11_can_38 at h
  obtain ⟨hx, hb, hml, hown, hg, hrt, hlk, hK⟩ := id X
  refine lv_iload_n (pc := 38) hx hb dX11_can_38 rfl (lv_at hl 3 rfl) ?_
  refine lv_aload_n (pc := 39) hx hb dX11_can_39 rfl (lv_at hl 0 rfl) ?_
  refine lv_iload_n (pc := 40) hx hb dX11_can_40 rfl (lv_at hl 1 rfl) ?_
  refine r_cvI (pc := 41) (As := [.int x1]) (rest := [.int x3]) X hH (fun x hx => mX11_parts hx) cw_X11_140 (heM_0 V w) rfl rfl rfl (Nat.le_of_ble_eq_true rfl) hl.1 h dX11_can_41 (fun w7 v8 H locs h hH => ?_)
  refine b_icmp_ge (pc := 44) (tgt := 76) hx hb h dX11_can_44 (by decide) (fun h => ?_) (fun h => ?_)
  · refine lv_aload_n (pc := 76) hx hb dX11_can_76 rfl (lv_at hl 0 rfl) ?_
    refine gM_X11_48_0 (pc := 77) X hH dX11_can_77 ?_
    refine lv_iload_n (pc := 80) hx hb dX11_can_80 rfl (lv_at hl 1 rfl) ?_
    refine lv_iload_n (pc := 81) hx hb dX11_can_81 rfl (lv_at hl 2 rfl) ?_
    refine b_if_eq (pc := 82) (tgt := 89) hx hb h dX11_can_82 (by decide) (fun h => ?_) (fun h => ?_)
    · refine lv_iconst (pc := 89) (v := 2) hx hb dX11_can_89 (by decide) ?_
      exact kX11_can_90 X hs_X11_can  h hH (lv_sub hl [0, 1] rfl)
    · refine lv_iconst (pc := 85) (v := 1) hx hb dX11_can_85 (by decide) ?_
      refine lv_goto (pc := 86) (tgt := 90) hx hb dX11_can_86 (by decide) ?_
      exact kX11_can_90 X hs_X11_can  h hH (lv_sub hl [0, 1] rfl)
  · refine lv_aload_n (pc := 47) hx hb dX11_can_47 rfl (lv_at hl 0 rfl) ?_
    refine lv_aload_n (pc := 48) hx hb dX11_can_48 rfl (lv_at hl 0 rfl) ?_
    refine lv_iload_n (pc := 49) hx hb dX11_can_49 rfl (lv_at hl 1 rfl) ?_
    refine lv_iload_n (pc := 50) hx hb dX11_can_50 rfl (lv_at hl 3 rfl) ?_
    refine r_cvI (pc := 51) (As := [.int x1, .int x3]) (rest := [.ref (V.2.2 0)]) X hH (fun x hx => mX11_partOf hx) cw_X11_143 (heM_0 V w7) rfl rfl rfl (Nat.le_of_ble_eq_true rfl) hl.1 h dX11_can_51 (fun w10 v11 H locs h hH => ?_)
    refine r_cvI (pc := 54) (As := [.int v11]) (rest := []) X hH (fun x hx => hs_X11_can _ _ _ hx) cw_X11_170 (heM_0 V w10) rfl rfl rfl (Nat.le_of_ble_eq_true rfl) hl.1 h dX11_can_54 (fun w12 v13 H locs h hH => ?_)
    refine b_if_ne (pc := 57) (tgt := 64) hx hb h dX11_can_57 (by decide) (fun h => ?_) (fun h => ?_)
    · exact kX11_can_64 X hs_X11_can hr38 h hH (lv_sub hl [0, 1, 3] rfl)
    · refine lv_iload_n (pc := 60) hx hb dX11_can_60 rfl (lv_at hl 2 rfl) ?_
      refine b_if_eq (pc := 61) (tgt := 68) hx hb h dX11_can_61 (by decide) (fun h => ?_) (fun h => ?_)
      · refine lv_iconst (pc := 68) (v := 0) hx hb dX11_can_68 (by decide) ?_
        exact kX11_can_69 X hs_X11_can hr38 h hH (lv_sub hl [0, 1, 3] rfl)
      · exact kX11_can_64 X hs_X11_can hr38 h hH (lv_sub hl [0, 1, 3] rfl)
def fX11_can_38 (N d : Nat) (self_X11_can : Wd → Int32 → Option (Wd × Int32))  : Nat → Wd → Int32 → Int32 → Int32 → Option (Wd × Int32)
  | 0 => fun _ _ _ _ => none
  | n + 1 => fun w x1 x2 x3 => bX11_can_38 N d self_X11_can  (fX11_can_38 N d self_X11_can  n) w x1 x2 x3
theorem lX11_can_38 {V : Ev} {p : Program} {l : Launch} {e : Env} {N d : Nat} {s : State} {m : MethodId} {args : Array Value} {below : List Frame} {meth : Method} {c : Code} {z : Wd × Int32} (X : CX V p s m args meth c cX11_can 4 RX11 (some .boolean)) {self_X11_can : Wd → Int32 → Option (Wd × Int32)} (hs_X11_can : ∀ (w : Wd) (a0 : Int32) (x : Wd × Int32), self_X11_can w a0 = some x → MetI l V (cM V) (AM V) yX11_can cX11_can 4 (some .boolean) d [.ref (V.2.2 0), .int a0] w x)  (n : Nat) {w : Wd} {x1 : Int32} {x2 : Int32} {x3 : Int32} {H : Heap} {locs : List Loc} {ls : Array Slot} (h : fX11_can_38 N d self_X11_can  n w x1 x2 x3 = some z) (hH : wH V (cM V) (AM V) s w H locs) (hl : lv_has ls 4 [(0, .ref (V.2.2 0)), (1, .int x1), (2, .int x2), (3, .int x3)]) : W p l e (rmD (d + 1)) s m args below meth c H locs 0 0 (MQ below (CtI V (cM V) (AM V) z) args s 0 0 (AM V)) (F0 m 38 ls []) := by
  induction n generalizing w x1 x2 x3 H locs ls with
  | zero => exact c_none h
  | succ n ih => exact kX11_can_38 (N := N) X hs_X11_can (fun _ _ _ _ _ _ _ h hH hl => ih h hH hl) h hH hl
def bX11_can_35 (N d : Nat) (self_X11_can : Wd → Int32 → Option (Wd × Int32))  (w : Wd) (x1 : Int32) (y0 : Int32) : Option (Wd × Int32) :=
  fX11_can_38 N d self_X11_can  N w x1 y0 ((0 : Int32))
set_option maxHeartbeats 4000000 in
theorem kX11_can_35 {V : Ev} {p : Program} {l : Launch} {e : Env} {N d : Nat} {s : State} {m : MethodId} {args : Array Value} {below : List Frame} {meth : Method} {c : Code} {z : Wd × Int32} (X : CX V p s m args meth c cX11_can 4 RX11 (some .boolean)) {self_X11_can : Wd → Int32 → Option (Wd × Int32)} (hs_X11_can : ∀ (w : Wd) (a0 : Int32) (x : Wd × Int32), self_X11_can w a0 = some x → MetI l V (cM V) (AM V) yX11_can cX11_can 4 (some .boolean) d [.ref (V.2.2 0), .int a0] w x)  {w : Wd} {x1 : Int32} {y0 : Int32} {H : Heap} {locs : List Loc} {ls : Array Slot} (h : bX11_can_35 N d self_X11_can  w x1 y0 = some z) (hH : wH V (cM V) (AM V) s w H locs) (hl : lv_has ls 4 [(0, .ref (V.2.2 0)), (1, .int x1)]) : W p l e (rmD (d + 1)) s m args below meth c H locs 0 0 (MQ below (CtI V (cM V) (AM V) z) args s 0 0 (AM V)) (F0 m 35 ls [.int y0]) := by
  unfold bX11_can_35 at h
  obtain ⟨hx, hb, hml, hown, hg, hrt, hlk, hK⟩ := id X
  refine lv_istore_n (pc := 35) (lv' := [(2, .int y0), (0, .ref (V.2.2 0)), (1, .int x1)]) hx hb dX11_can_35 rfl hl (by decide) rfl (fun ls hl => ?_)
  refine lv_iconst (pc := 36) (v := 0) hx hb dX11_can_36 (by decide) ?_
  refine lv_istore_n (pc := 37) (lv' := [(3, .int ((0 : Int32))), (2, .int y0), (0, .ref (V.2.2 0)), (1, .int x1)]) hx hb dX11_can_37 rfl hl (by decide) rfl (fun ls hl => ?_)
  exact lX11_can_38 X hs_X11_can  N h hH (lv_sub hl [2, 3, 1, 0] rfl)
def bX11_can_0 (N d : Nat) (self_X11_can : Wd → Int32 → Option (Wd × Int32))  (w : Wd) (x1 : Int32) : Option (Wd × Int32) :=
  c_ld w 13 1000 x1 fun v1 =>
  if v1 = 0 then (
    c_cl (eX11_ruleAt N d w x1) fun w3 v4 =>
    c_st w3 14 1000 x1 v4 fun w5 =>
    c_ld w5 14 1000 x1 fun v6 =>
    if v6 = (-1) then (
      bX11_can_35 N d self_X11_can  w5 x1 0
    ) else (
      bX11_can_35 N d self_X11_can  w5 x1 1
    )
  ) else (
    bX11_can_91 N d self_X11_can  w x1
  )
set_option maxHeartbeats 4000000 in
theorem kX11_can_0 {V : Ev} {p : Program} {l : Launch} {e : Env} {N d : Nat} {s : State} {m : MethodId} {args : Array Value} {below : List Frame} {meth : Method} {c : Code} {z : Wd × Int32} (X : CX V p s m args meth c cX11_can 4 RX11 (some .boolean)) {self_X11_can : Wd → Int32 → Option (Wd × Int32)} (hs_X11_can : ∀ (w : Wd) (a0 : Int32) (x : Wd × Int32), self_X11_can w a0 = some x → MetI l V (cM V) (AM V) yX11_can cX11_can 4 (some .boolean) d [.ref (V.2.2 0), .int a0] w x)  {w : Wd} {x1 : Int32} {H : Heap} {locs : List Loc} {ls : Array Slot} (h : bX11_can_0 N d self_X11_can  w x1 = some z) (hH : wH V (cM V) (AM V) s w H locs) (hl : lv_has ls 4 [(0, .ref (V.2.2 0)), (1, .int x1)]) : W p l e (rmD (d + 1)) s m args below meth c H locs 0 0 (MQ below (CtI V (cM V) (AM V) z) args s 0 0 (AM V)) (F0 m 0 ls []) := by
  unfold bX11_can_0 at h
  obtain ⟨hx, hb, hml, hown, hg, hrt, hlk, hK⟩ := id X
  refine lv_aload_n (pc := 0) hx hb dX11_can_0 rfl (lv_at hl 0 rfl) ?_
  refine gM_X11_48_0 (pc := 1) X hH dX11_can_1 ?_
  refine lv_iload_n (pc := 4) hx hb dX11_can_4 rfl (lv_at hl 1 rfl) ?_
  refine r_ld (pc := 5) X (heM_13 V w) hH h dX11_can_5 (fun v1 h => ?_)
  refine b_if_ne (pc := 6) (tgt := 91) hx hb h dX11_can_6 (by decide) (fun h => ?_) (fun h => ?_)
  · exact kX11_can_91 X hs_X11_can  h hH (lv_sub hl [0, 1] rfl)
  · refine lv_aload_n (pc := 9) hx hb dX11_can_9 rfl (lv_at hl 0 rfl) ?_
    refine gM_X11_51_0 (pc := 10) X hH dX11_can_10 ?_
    refine lv_iload_n (pc := 13) hx hb dX11_can_13 rfl (lv_at hl 1 rfl) ?_
    refine lv_aload_n (pc := 14) hx hb dX11_can_14 rfl (lv_at hl 0 rfl) ?_
    refine lv_iload_n (pc := 15) hx hb dX11_can_15 rfl (lv_at hl 1 rfl) ?_
    refine r_cvI (pc := 16) (As := [.int x1]) (rest := [.int x1, .ref (V.2.2 14)]) X hH (fun x hx => mX11_ruleAt hx) cw_X11_167 (heM_0 V w) rfl rfl rfl (Nat.le_of_ble_eq_true rfl) hl.1 h dX11_can_16 (fun w3 v4 H locs h hH => ?_)
    refine r_st (pc := 19) X (heM_14 V w3) (hsM_14 V w3) hH h dX11_can_19 (fun w5 H locs h hH => ?_)
    refine lv_aload_n (pc := 20) hx hb dX11_can_20 rfl (lv_at hl 0 rfl) ?_
    refine gM_X11_51_0 (pc := 21) X hH dX11_can_21 ?_
    refine lv_iload_n (pc := 24) hx hb dX11_can_24 rfl (lv_at hl 1 rfl) ?_
    refine r_ld (pc := 25) X (heM_14 V w5) hH h dX11_can_25 (fun v6 h => ?_)
    refine lv_iconst (pc := 26) (v := -1) hx hb dX11_can_26 (by decide) ?_
    refine b_icmp_eq (pc := 27) (tgt := 34) hx hb h dX11_can_27 (by decide) (fun h => ?_) (fun h => ?_)
    · refine lv_iconst (pc := 34) (v := 0) hx hb dX11_can_34 (by decide) ?_
      exact kX11_can_35 X hs_X11_can  h hH (lv_sub hl [0, 1] rfl)
    · refine lv_iconst (pc := 30) (v := 1) hx hb dX11_can_30 (by decide) ?_
      refine lv_goto (pc := 31) (tgt := 35) hx hb dX11_can_31 (by decide) ?_
      exact kX11_can_35 X hs_X11_can  h hH (lv_sub hl [0, 1] rfl)
def eX11_can (N : Nat) : Nat → Wd → Int32 → Option (Wd × Int32)
  | 0 => fun _ _ => none
  | d + 1 => fun w x1 => bX11_can_0 N d (eX11_can N d) w x1
set_option maxHeartbeats 4000000 in
set_option maxRecDepth 20000 in
theorem mX11_can {l : Launch} {V : Ev} {N d : Nat} {w : Wd} {x1 : Int32} {z : Wd × Int32} (h : eX11_can N d w x1 = some z) : MetI l V (cM V) (AM V) yX11_can cX11_can 4 (some .boolean) d [.ref (V.2.2 0), .int x1] w z := by
  induction d generalizing w x1 z with
  | zero => exact c_none h
  | succ d ih =>
    refine Met.ofW (cc := cX11_can) (maxL := 4) (ret := (some .boolean)) (by decide) rfl ?_
    intro p e s m args below meth c s₁ B hml hv
    obtain ⟨rfl, hP, hD, hK⟩ := hv
    have hts := atoms_spec (ws := .code yX11_can cX11_can 4 (some .boolean) :: gG) B.pre
    have X : CX V p s m ([.ref (V.2.2 0), .int x1] : List Value).toArray meth c cX11_can 4 RX11 (some .boolean) := ⟨B.exec, B.bytes, hml, findClass_of_methodNamed B.named, fun w hw => hts w (List.mem_cons_of_mem _ hw), B.returns, B.notSynchronized, hK⟩
    have hl := lv_entry ([.ref (V.2.2 0), .int x1] : List Value) (n := 4) (Nat.le_of_ble_eq_true rfl)
    rw [lg_entry_eq]
    generalize (lg_sl ([.ref (V.2.2 0), .int x1] : List Value) ++ List.replicate (4 - (lg_sl ([.ref (V.2.2 0), .int x1] : List Value)).length) Slot.unset).toArray = ls at hl ⊢
    have hl : lv_has ls 4 [(0, .ref (V.2.2 0)), (1, .int x1)] := hl
    exact kX11_can_0 (N := N) X (fun _ _ _ h => ih h) h ⟨hP, hD, va_S.rf⟩ hl
