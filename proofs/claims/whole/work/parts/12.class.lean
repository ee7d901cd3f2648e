theorem dX10_on_0 : decode cX10_on 0 = .ok (.aload_n 0, 1) := by decide +kernel
theorem dX10_on_1 : decode cX10_on 1 = .ok (.iload_n 1, 1) := by decide +kernel
theorem dX10_on_2 : decode cX10_on 2 = .ok (.invokevirtual 92, 3) := by decide +kernel
theorem dX10_on_5 : decode cX10_on 5 = .ok (.ifCond .ne 6, 3) := by decide +kernel
theorem dX10_on_8 : decode cX10_on 8 = .ok (.bipush (-2), 2) := by decide +kernel
theorem dX10_on_10 : decode cX10_on 10 = .ok (.ireturn, 1) := by decide +kernel
theorem dX10_on_11 : decode cX10_on 11 = .ok (.aload_n 0, 1) := by decide +kernel
theorem dX10_on_12 : decode cX10_on 12 = .ok (.getfield 19, 3) := by decide +kernel
theorem dX10_on_15 : decode cX10_on 15 = .ok (.getfield 95, 3) := by decide +kernel
theorem dX10_on_18 : decode cX10_on 18 = .ok (.iload_n 1, 1) := by decide +kernel
theorem dX10_on_19 : decode cX10_on 19 = .ok (.baload, 1) := by decide +kernel
theorem dX10_on_20 : decode cX10_on 20 = .ok (.istore_n 3, 1) := by decide +kernel
theorem dX10_on_21 : decode cX10_on 21 = .ok (.aload_n 0, 1) := by decide +kernel
theorem dX10_on_22 : decode cX10_on 22 = .ok (.getfield 19, 3) := by decide +kernel
theorem dX10_on_25 : decode cX10_on 25 = .ok (.getfield 95, 3) := by decide +kernel
theorem dX10_on_28 : decode cX10_on 28 = .ok (.iload_n 1, 1) := by decide +kernel
theorem dX10_on_29 : decode cX10_on 29 = .ok (.iload_n 2, 1) := by decide +kernel
theorem dX10_on_30 : decode cX10_on 30 = .ok (.bastore, 1) := by decide +kernel
theorem dX10_on_31 : decode cX10_on 31 = .ok (.iload_n 3, 1) := by decide +kernel
theorem dX10_on_32 : decode cX10_on 32 = .ok (.ifCond .eq 7, 3) := by decide +kernel
theorem dX10_on_35 : decode cX10_on 35 = .ok (.iconst 1, 1) := by decide +kernel
theorem dX10_on_36 : decode cX10_on 36 = .ok (.goto 4, 3) := by decide +kernel
theorem dX10_on_39 : decode cX10_on 39 = .ok (.iconst 0, 1) := by decide +kernel
theorem dX10_on_40 : decode cX10_on 40 = .ok (.ireturn, 1) := by decide +kernel
def bX10_on_40 (N d : Nat)   (w : Wd) (y0 : Int32) : Option (Wd × Int32) :=
  some (w, y0)
set_option maxHeartbeats 4000000 in
theorem kX10_on_40 {V : Ev} {p : Program} {l : Launch} {e : Env} {N d : Nat} {s : State} {m : MethodId} {args : Array Value} {below : List Frame} {meth : Method} {c : Code} {z : Wd × Int32} (X : CX V p s m args meth c cX10_on 4 RX10 (some .int))    {w : Wd} {y0 : Int32} {H : Heap} {locs : List Loc} {ls : Array Slot} (h : bX10_on_40 N d   w y0 = some z) (hH : wH V (cC V) (AC V) s w H locs) (hl : lv_has ls 4 []) : W p l e (rmD (d + 1)) s m args below meth c H locs 0 0 (MQ below (CtI V (cC V) (AC V) z) args s 0 0 (AC V)) (F0 m 40 ls [.int y0]) := by
  unfold bX10_on_40 at h
  obtain ⟨hx, hb, hml, hown, hg, hrt, hlk, hK⟩ := id X
  exact r_iret (pc := 40) X hH h dX10_on_40
def bX10_on_0 (N d : Nat)   (w : Wd) (x1 : Int32) (x2 : Int32) : Option (Wd × Int32) :=
  c_cl (eX10_isRule N d w x1) fun w1 v2 =>
  if v2 = 0 then (
    some (w1, -2)
  ) else (
    c_ld w1 25 16 x1 fun v3 =>
    c_sz w1 25 16 x1 x2 fun w4 =>
    if v3 = 0 then (
      bX10_on_40 N d   w4 0
    ) else (
      bX10_on_40 N d   w4 1
    )
  )
set_option maxHeartbeats 4000000 in
theorem kX10_on_0 {V : Ev} {p : Program} {l : Launch} {e : Env} {N d : Nat} {s : State} {m : MethodId} {args : Array Value} {below : List Frame} {meth : Method} {c : Code} {z : Wd × Int32} (X : CX V p s m args meth c cX10_on 4 RX10 (some .int))    {w : Wd} {x1 : Int32} {x2 : Int32} {H : Heap} {locs : List Loc} {ls : Array Slot} (h : bX10_on_0 N d   w x1 x2 = some z) (hH : wH V (cC V) (AC V) s w H locs) (hl : lv_has ls 4 [(0, .ref (V.2.2 0)), (1, .int x1), (2, .int x2)]) : W p l e (rmD (d + 1)) s m args below meth c H locs 0 0 (MQ below (CtI V (cC V) (AC V) z) args s 0 0 (AC V)) (F0 m 0 ls []) := by
  unfold bX10_on_0 at h
  obtain ⟨hx, hb, hml, hown, hg, hrt, hlk, hK⟩ := id X
  refine lv_aload_n (pc := 0) hx hb dX10_on_0 rfl (lv_at hl 0 rfl) ?_
  refine lv_iload_n (pc := 1) hx hb dX10_on_1 rfl (lv_at hl 1 rfl) ?_
  refine r_cvI (pc := 2) (As := [.int x1]) (rest := []) X hH (fun x hx => mX10_isRule hx) cw_X10_92 (heC_0 V w) rfl rfl rfl (Nat.le_of_ble_eq_true rfl) hl.1 h dX10_on_2 (fun w1 v2 H locs h hH => ?_)
  refine b_if_ne (pc := 5) (tgt := 11) hx hb h dX10_on_5 (by decide) (fun h => ?_) (fun h => ?_)
  · refine lv_aload_n (pc := 11) hx hb dX10_on_11 rfl (lv_at hl 0 rfl) ?_
    refine gC_X10_19_0 (pc := 12) X hH dX10_on_12 ?_
    refine gC_X10_95_2 (pc := 15) X hH dX10_on_15 ?_
    refine lv_iload_n (pc := 18) hx hb dX10_on_18 rfl (lv_at hl 1 rfl) ?_
    refine r_lz (pc := 19) X (heC_25 V w1) hH h dX10_on_19 (fun v3 h => ?_)
    refine lv_istore_n (pc := 20) (lv' := [(3, .int v3), (0, .ref (V.2.2 0)), (1, .int x1), (2, .int x2)]) hx hb dX10_on_20 rfl hl (by decide) rfl (fun ls hl => ?_)
    refine lv_aload_n (pc := 21) hx hb dX10_on_21 rfl (lv_at hl 1 rfl) ?_
    refine gC_X10_19_0 (pc := 22) X hH dX10_on_22 ?_
    refine gC_X10_95_2 (pc := 25) X hH dX10_on_25 ?_
    refine lv_iload_n (pc := 28) hx hb dX10_on_28 rfl (lv_at hl 2 rfl) ?_
    refine lv_iload_n (pc := 29) hx hb dX10_on_29 rfl (lv_at hl 3 rfl) ?_
    refine r_sz (pc := 30) X (heC_25 V w1) (hsC_25 V w1) hH h dX10_on_30 (fun w4 H locs h hH => ?_)
    refine lv_iload_n (pc := 31) hx hb dX10_on_31 rfl (lv_at hl 0 rfl) ?_
    refine b_if_eq (pc := 32) (tgt := 39) hx hb h dX10_on_32 (by decide) (fun h => ?_) (fun h => ?_)
    · refine lv_iconst (pc := 39) (v := 0) hx hb dX10_on_39 (by decide) ?_
      exact kX10_on_40 X   h hH (lv_sub hl [] rfl)
    · refine lv_iconst (pc := 35) (v := 1) hx hb dX10_on_35 (by decide) ?_
      refine lv_goto (pc := 36) (tgt := 40) hx hb dX10_on_36 (by decide) ?_
      exact kX10_on_40 X   h hH (lv_sub hl [] rfl)
  · refine lv_bipush (pc := 8) (v := -2) hx hb dX10_on_8 (by decide) ?_
    exact r_iret (pc := 10) X hH h dX10_on_10
def eX10_on (N : Nat) : Nat → Wd → Int32 → Int32 → Option (Wd × Int32)
  | 0 => fun _ _ _ => none
  | d + 1 => fun w x1 x2 => bX10_on_0 N d  w x1 x2
set_option maxHeartbeats 4000000 in
set_option maxRecDepth 20000 in
theorem mX10_on {l : Launch} {V : Ev} {N d : Nat} {w : Wd} {x1 : Int32} {x2 : Int32} {z : Wd × Int32} (h : eX10_on N d w x1 x2 = some z) : MetI l V (cC V) (AC V) yX10_on cX10_on 4 (some .int) d [.ref (V.2.2 0), .int x1, .int x2] w z := by
  cases d with
  | zero => exact c_none h
  | succ d =>
    refine Met.ofW (cc := cX10_on) (maxL := 4) (ret := (some .int)) (by decide) rfl ?_
    intro p e s m args below meth c s₁ B hml hv
    obtain ⟨rfl, hP, hD, hK⟩ := hv
    have hts := atoms_spec (ws := .code yX10_on cX10_on 4 (some .int) :: gG) B.pre
    have X : CX V p s m ([.ref (V.2.2 0), .int x1, .int x2] : List Value).toArray meth c cX10_on 4 RX10 (some .int) := ⟨B.exec, B.bytes, hml, findClass_of_methodNamed B.named, fun w hw => hts w (List.mem_cons_of_mem _ hw), B.returns, B.notSynchronized, hK⟩
    have hl := lv_entry ([.ref (V.2.2 0), .int x1, .int x2] : List Value) (n := 4) (Nat.le_of_ble_eq_true rfl)
    rw [lg_entry_eq]
    generalize (lg_sl ([.ref (V.2.2 0), .int x1, .int x2] : List Value) ++ List.replicate (4 - (lg_sl ([.ref (V.2.2 0), .int x1, .int x2] : List Value)).length) Slot.unset).toArray = ls at hl ⊢
    have hl : lv_has ls 4 [(0, .ref (V.2.2 0)), (1, .int x1), (2, .int x2)] := hl
    exact kX10_on_0 (N := N) X  h ⟨hP, hD, va_S.rf⟩ hl
theorem dX3_begin_0 : decode cX3_begin 0 = .ok (.aload_n 0, 1) := by decide +kernel
theorem dX3_begin_1 : decode cX3_begin 1 = .ok (.dup, 1) := by decide +kernel
theorem dX3_begin_2 : decode cX3_begin 2 = .ok (.getfield 36, 3) := by decide +kernel
theorem dX3_begin_5 : decode cX3_begin 5 = .ok (.iconst 1, 1) := by decide +kernel
theorem dX3_begin_6 : decode cX3_begin 6 = .ok (.iadd, 1) := by decide +kernel
theorem dX3_begin_7 : decode cX3_begin 7 = .ok (.putfield 36, 3) := by decide +kernel
theorem dX3_begin_10 : decode cX3_begin 10 = .ok (.aload_n 0, 1) := by decide +kernel
theorem dX3_begin_11 : decode cX3_begin 11 = .ok (.iload_n 1, 1) := by decide +kernel
theorem dX3_begin_12 : decode cX3_begin 12 = .ok (.putfield 40, 3) := by decide +kernel
theorem dX3_begin_15 : decode cX3_begin 15 = .ok (.return_, 1) := by decide +kernel
def bX3_begin_0 (N d : Nat)   (w : Wd) (x1 : Int32) : Option (Wd) :=
  c_pi w 4 ((sI w 4) + 1) fun w1 =>
  c_pi w1 5 x1 fun w2 =>
  some w2
set_option maxHeartbeats 4000000 in
theorem kX3_begin_0 {V : Ev} {p : Program} {l : Launch} {e : Env} {N d : Nat} {s : State} {m : MethodId} {args : Array Value} {below : List Frame} {meth : Method} {c : Code} {z : Wd} (X : CX V p s m args meth c cX3_begin 2 RX3 none)    {w : Wd} {x1 : Int32} {H : Heap} {locs : List Loc} {ls : Array Slot} (h : bX3_begin_0 N d   w x1 = some z) (hH : wH V (cC V) (AC V) s w H locs) (hl : lv_has ls 2 [(0, .ref (V.2.2 3)), (1, .int x1)]) : W p l e (rmD (d + 1)) s m args below meth c H locs 0 0 (MQ below (CtV V (cC V) (AC V) z) args s 0 0 (AC V)) (F0 m 0 ls []) := by
  unfold bX3_begin_0 at h
  obtain ⟨hx, hb, hml, hown, hg, hrt, hlk, hK⟩ := id X
  refine lv_aload_n (pc := 0) hx hb dX3_begin_0 rfl (lv_at hl 0 rfl) ?_
  refine lv_dup (pc := 1) hx hb dX3_begin_1 rfl ?_
  refine gC_X3_36_3 (pc := 2) X hH dX3_begin_2 ?_
  refine lv_iconst (pc := 5) (v := 1) hx hb dX3_begin_5 (by decide) ?_
  refine lv_iadd (pc := 6) hx hb dX3_begin_6 ?_
  refine pC_X3_36_3 (pc := 7) X hH h dX3_begin_7 (fun w1 H locs h hH => ?_)
  refine lv_aload_n (pc := 10) hx hb dX3_begin_10 rfl (lv_at hl 0 rfl) ?_
  refine lv_iload_n (pc := 11) hx hb dX3_begin_11 rfl (lv_at hl 1 rfl) ?_
  refine pC_X3_40_3 (pc := 12) X hH h dX3_begin_12 (fun w2 H locs h hH => ?_)
  exact r_vret (pc := 15) X hH h dX3_begin_15
def eX3_begin (N : Nat) : Nat → Wd → Int32 → Option (Wd)
  | 0 => fun _ _ => none
  | d + 1 => fun w x1 => bX3_begin_0 N d  w x1
set_option maxHeartbeats 4000000 in
set_option maxRecDepth 20000 in
theorem mX3_begin {l : Launch} {V : Ev} {N d : Nat} {w : Wd} {x1 : Int32} {z : Wd} (h : eX3_begin N d w x1 = some z) : MetV l V (cC V) (AC V) yX3_begin cX3_begin 2 none d [.ref (V.2.2 3), .int x1] w z := by
  cases d with
  | zero => exact c_none h
  | succ d =>
    refine Met.ofW (cc := cX3_begin) (maxL := 2) (ret := none) (by decide) rfl ?_
    intro p e s m args below meth c s₁ B hml hv
    obtain ⟨rfl, hP, hD, hK⟩ := hv
    have hts := atoms_spec (ws := .code yX3_begin cX3_begin 2 none :: gG) B.pre
    have X : CX V p s m ([.ref (V.2.2 3), .int x1] : List Value).toArray meth c cX3_begin 2 RX3 none := ⟨B.exec, B.bytes, hml, findClass_of_methodNamed B.named, fun w hw => hts w (List.mem_cons_of_mem _ hw), B.returns, B.notSynchronized, hK⟩
    have hl := lv_entry ([.ref (V.2.2 3), .int x1] : List Value) (n := 2) (Nat.le_of_ble_eq_true rfl)
    rw [lg_entry_eq]
    generalize (lg_sl ([.ref (V.2.2 3), .int x1] : List Value) ++ List.replicate (2 - (lg_sl ([.ref (V.2.2 3), .int x1] : List Value)).length) Slot.unset).toArray = ls at hl ⊢
    have hl : lv_has ls 2 [(0, .ref (V.2.2 3)), (1, .int x1)] := hl
    exact kX3_begin_0 (N := N) X  h ⟨hP, hD, va_S.rf⟩ hl
theorem dJ7_fill_53178_0 : decode cJ7_fill_53178 0 = .ok (.iconst 0, 1) := by decide +kernel
theorem dJ7_fill_53178_1 : decode cJ7_fill_53178 1 = .ok (.istore_n 2, 1) := by decide +kernel
theorem dJ7_fill_53178_2 : decode cJ7_fill_53178 2 = .ok (.aload_n 0, 1) := by decide +kernel
theorem dJ7_fill_53178_3 : decode cJ7_fill_53178 3 = .ok (.arraylength, 1) := by decide +kernel
theorem dJ7_fill_53178_4 : decode cJ7_fill_53178 4 = .ok (.istore_n 3, 1) := by decide +kernel
theorem dJ7_fill_53178_5 : decode cJ7_fill_53178 5 = .ok (.iload_n 2, 1) := by decide +kernel
theorem dJ7_fill_53178_6 : decode cJ7_fill_53178 6 = .ok (.iload_n 3, 1) := by decide +kernel
theorem dJ7_fill_53178_7 : decode cJ7_fill_53178 7 = .ok (.if_icmp .ge 13, 3) := by decide +kernel
theorem dJ7_fill_53178_10 : decode cJ7_fill_53178 10 = .ok (.aload_n 0, 1) := by decide +kernel
theorem dJ7_fill_53178_11 : decode cJ7_fill_53178 11 = .ok (.iload_n 2, 1) := by decide +kernel
theorem dJ7_fill_53178_12 : decode cJ7_fill_53178 12 = .ok (.iload_n 1, 1) := by decide +kernel
theorem dJ7_fill_53178_13 : decode cJ7_fill_53178 13 = .ok (.iastore, 1) := by decide +kernel
theorem dJ7_fill_53178_14 : decode cJ7_fill_53178 14 = .ok (.iinc 2 1, 3) := by decide +kernel
theorem dJ7_fill_53178_17 : decode cJ7_fill_53178 17 = .ok (.goto (-12), 3) := by decide +kernel
theorem dJ7_fill_53178_20 : decode cJ7_fill_53178 20 = .ok (.return_, 1) := by decide +kernel
def bJ7_fill_53178_r29_5 (N d : Nat)  (rec5 : Wd → Int32 → Int32 → Int32 → Option (Wd)) (w : Wd) (x1 : Int32) (x2 : Int32) (x3 : Int32) : Option (Wd) :=
  if x3 ≤ x2 then (
    some w
  ) else (
    c_st w 29 4 x2 x1 fun w1 =>
    c_nm (x2 + 1) fun x2_2 =>
    rec5 w1 x1 x2_2 x3
  )
set_option maxHeartbeats 4000000 in
theorem kJ7_fill_53178_r29_5 {V : Ev} {p : Program} {l : Launch} {e : Env} {N d : Nat} {s : State} {m : MethodId} {args : Array Value} {below : List Frame} {meth : Method} {c : Code} {z : Wd} (X : CX V p s m args meth c cJ7_fill_53178 4 RJ7 none)   {rec5 : Wd → Int32 → Int32 → Int32 → Option (Wd)} (hr5 : ∀ (w : Wd) (x1 : Int32) (x2 : Int32) (x3 : Int32) (H : Heap) (locs : List Loc) (ls : Array Slot), rec5 w x1 x2 x3 = some z → wH V (cC V) (AC V) s w H locs → lv_has ls 4 [(0, .ref (V.2.2 28)), (1, .int x1), (2, .int x2), (3, .int x3)] → W p l e (rmD (d + 1)) s m args below meth c H locs 0 0 (MQ below (CtV V (cC V) (AC V) z) args s 0 0 (AC V)) (F0 m 5 ls [])) {w : Wd} {x1 : Int32} {x2 : Int32} {x3 : Int32} {H : Heap} {locs : List Loc} {ls : Array Slot} (h : bJ7_fill_53178_r29_5 N d  rec5 w x1 x2 x3 = some z) (hH : wH V (cC V) (AC V) s w H locs) (hl : lv_has ls 4 [(0, .ref (V.2.2 28)), (1, .int x1), (2, .int x2), (3, .int x3)]) : W p l e (rmD (d + 1)) s m args below meth c H locs 0 0 (MQ below (CtV V (cC V) (AC V) z) args s 0 0 (AC V)) (F0 m 5 ls []) := by
  unfold bJ7_fill_53178_r29_5 at h
  obtain ⟨hx, hb, hml, hown, hg, hrt, hlk, hK⟩ := id X
  refine lv_iload_n (pc := 5) hx hb dJ7_fill_53178_5 rfl (lv_at hl 2 rfl) ?_
  refine lv_iload_n (pc := 6) hx hb dJ7_fill_53178_6 rfl (lv_at hl 3 rfl) ?_
  refine b_icmp_ge (pc := 7) (tgt := 20) hx hb h dJ7_fill_53178_7 (by decide) (fun h => ?_) (fun h => ?_)
  · exact r_vret (pc := 20) X hH h dJ7_fill_53178_20
  · refine lv_aload_n (pc := 10) hx hb dJ7_fill_53178_10 rfl (lv_at hl 0 rfl) ?_
    refine lv_iload_n (pc := 11) hx hb dJ7_fill_53178_11 rfl (lv_at hl 2 rfl) ?_
    refine lv_iload_n (pc := 12) hx hb dJ7_fill_53178_12 rfl (lv_at hl 1 rfl) ?_
    refine r_st (pc := 13) X (heC_28 V w) (hsC_28 V w) hH h dJ7_fill_53178_13 (fun w1 H locs h hH => ?_)
    obtain ⟨x2_2, ex2_2, h⟩ := c_nm_ex h
    refine lv_iinc (pc := 14) (v := x2_2) (lv' := [(2, .int x2_2), (0, .ref (V.2.2 28)), (1, .int x1), (3, .int x3)]) hx hb dJ7_fill_53178_14 hl (k := 2) rfl (by rw [← ex2_2]; rfl) (by decide) rfl (fun ls hl => ?_)
    refine lv_goto (pc := 17) (tgt := 5) hx hb dJ7_fill_53178_17 (by decide) ?_
    exact hr5 _ _ _ _ _ _ _ h hH (lv_sub hl [1, 2, 0, 3] rfl)
def fJ7_fill_53178_r29_5 (N d : Nat)   : Nat → Wd → Int32 → Int32 → Int32 → Option (Wd)
  | 0 => fun _ _ _ _ => none
  | n + 1 => fun w x1 x2 x3 => bJ7_fill_53178_r29_5 N d   (fJ7_fill_53178_r29_5 N d   n) w x1 x2 x3
theorem lJ7_fill_53178_r29_5 {V : Ev} {p : Program} {l : Launch} {e : Env} {N d : Nat} {s : State} {m : MethodId} {args : Array Value} {below : List Frame} {meth : Method} {c : Code} {z : Wd} (X : CX V p s m args meth c cJ7_fill_53178 4 RJ7 none)    (n : Nat) {w : Wd} {x1 : Int32} {x2 : Int32} {x3 : Int32} {H : Heap} {locs : List Loc} {ls : Array Slot} (h : fJ7_fill_53178_r29_5 N d   n w x1 x2 x3 = some z) (hH : wH V (cC V) (AC V) s w H locs) (hl : lv_has ls 4 [(0, .ref (V.2.2 28)), (1, .int x1), (2, .int x2), (3, .int x3)]) : W p l e (rmD (d + 1)) s m args below meth c H locs 0 0 (MQ below (CtV V (cC V) (AC V) z) args s 0 0 (AC V)) (F0 m 5 ls []) := by
  induction n generalizing w x1 x2 x3 H locs ls with
  | zero => exact c_none h
  | succ n ih => exact kJ7_fill_53178_r29_5 (N := N) X  (fun _ _ _ _ _ _ _ h hH hl => ih h hH hl) h hH hl
def bJ7_fill_53178_r29_0 (N d : Nat)   (w : Wd) (x1 : Int32) : Option (Wd) :=
  fJ7_fill_53178_r29_5 N d   N w x1 ((0 : Int32)) ((4 : Int32))
set_option maxHeartbeats 4000000 in
theorem kJ7_fill_53178_r29_0 {V : Ev} {p : Program} {l : Launch} {e : Env} {N d : Nat} {s : State} {m : MethodId} {args : Array Value} {below : List Frame} {meth : Method} {c : Code} {z : Wd} (X : CX V p s m args meth c cJ7_fill_53178 4 RJ7 none)    {w : Wd} {x1 : Int32} {H : Heap} {locs : List Loc} {ls : Array Slot} (h : bJ7_fill_53178_r29_0 N d   w x1 = some z) (hH : wH V (cC V) (AC V) s w H locs) (hl : lv_has ls 4 [(0, .ref (V.2.2 28)), (1, .int x1)]) : W p l e (rmD (d + 1)) s m args below meth c H locs 0 0 (MQ below (CtV V (cC V) (AC V) z) args s 0 0 (AC V)) (F0 m 0 ls []) := by
  unfold bJ7_fill_53178_r29_0 at h
  obtain ⟨hx, hb, hml, hown, hg, hrt, hlk, hK⟩ := id X
  refine lv_iconst (pc := 0) (v := 0) hx hb dJ7_fill_53178_0 (by decide) ?_
  refine lv_istore_n (pc := 1) (lv' := [(2, .int ((0 : Int32))), (0, .ref (V.2.2 28)), (1, .int x1)]) hx hb dJ7_fill_53178_1 rfl hl (by decide) rfl (fun ls hl => ?_)
  refine lv_aload_n (pc := 2) hx hb dJ7_fill_53178_2 rfl (lv_at hl 1 rfl) ?_
  refine r_al (pc := 3) (t0 := 0) (v := 4) X (heC_28 V w) rfl hH (by decide) dJ7_fill_53178_3 ?_
  refine lv_istore_n (pc := 4) (lv' := [(3, .int ((4 : Int32))), (2, .int ((0 : Int32))), (0, .ref (V.2.2 28)), (1, .int x1)]) hx hb dJ7_fill_53178_4 rfl hl (by decide) rfl (fun ls hl => ?_)
  exact lJ7_fill_53178_r29_5 X   N h hH (lv_sub hl [2, 3, 1, 0] rfl)
def eJ7_fill_53178_r29 (N : Nat) : Nat → Wd → Int32 → Option (Wd)
  | 0 => fun _ _ => none
  | d + 1 => fun w x1 => bJ7_fill_53178_r29_0 N d  w x1
set_option maxHeartbeats 4000000 in
set_option maxRecDepth 20000 in
theorem mJ7_fill_53178_r29 {l : Launch} {V : Ev} {N d : Nat} {w : Wd} {x1 : Int32} {z : Wd} (h : eJ7_fill_53178_r29 N d w x1 = some z) : MetV l V (cC V) (AC V) yJ7_fill_53178 cJ7_fill_53178 4 none d [.ref (V.2.2 28), .int x1] w z := by
  cases d with
  | zero => exact c_none h
  | succ d =>
    refine Met.ofW (cc := cJ7_fill_53178) (maxL := 4) (ret := none) (by decide) rfl ?_
    intro p e s m args below meth c s₁ B hml hv
    obtain ⟨rfl, hP, hD, hK⟩ := hv
    have hts := atoms_spec (ws := .code yJ7_fill_53178 cJ7_fill_53178 4 none :: gG) B.pre
    have X : CX V p s m ([.ref (V.2.2 28), .int x1] : List Value).toArray meth c cJ7_fill_53178 4 RJ7 none := ⟨B.exec, B.bytes, hml, findClass_of_methodNamed B.named, fun w hw => hts w (List.mem_cons_of_mem _ hw), B.returns, B.notSynchronized, hK⟩
    have hl := lv_entry ([.ref (V.2.2 28), .int x1] : List Value) (n := 4) (Nat.le_of_ble_eq_true rfl)
    rw [lg_entry_eq]
    generalize (lg_sl ([.ref (V.2.2 28), .int x1] : List Value) ++ List.replicate (4 - (lg_sl ([.ref (V.2.2 28), .int x1] : List Value)).length) Slot.unset).toArray = ls at hl ⊢
    have hl : lv_has ls 4 [(0, .ref (V.2.2 28)), (1, .int x1)] := hl
    exact kJ7_fill_53178_r29_0 (N := N) X  h ⟨hP, hD, va_S.rf⟩ hl
theorem dX3_fits_0 : decode cX3_fits 0 = .ok (.aload_n 0, 1) := by decide +kernel
theorem dX3_fits_1 : decode cX3_fits 1 = .ok (.getfield 28, 3) := by decide +kernel
theorem dX3_fits_4 : decode cX3_fits 4 = .ok (.getfield 108, 3) := by decide +kernel
theorem dX3_fits_7 : decode cX3_fits 7 = .ok (.iload_n 1, 1) := by decide +kernel
theorem dX3_fits_8 : decode cX3_fits 8 = .ok (.iaload, 1) := by decide +kernel
theorem dX3_fits_9 : decode cX3_fits 9 = .ok (.ifCond .ne 14, 3) := by decide +kernel
theorem dX3_fits_12 : decode cX3_fits 12 = .ok (.iload_n 1, 1) := by decide +kernel
theorem dX3_fits_13 : decode cX3_fits 13 = .ok (.iload_n 2, 1) := by decide +kernel
theorem dX3_fits_14 : decode cX3_fits 14 = .ok (.if_icmp .ne 7, 3) := by decide +kernel
theorem dX3_fits_17 : decode cX3_fits 17 = .ok (.iconst 1, 1) := by decide +kernel
theorem dX3_fits_18 : decode cX3_fits 18 = .ok (.goto 4, 3) := by decide +kernel
theorem dX3_fits_21 : decode cX3_fits 21 = .ok (.iconst 0, 1) := by decide +kernel
theorem dX3_fits_22 : decode cX3_fits 22 = .ok (.ireturn, 1) := by decide +kernel
theorem dX3_fits_23 : decode cX3_fits 23 = .ok (.aload_n 0, 1) := by decide +kernel
theorem dX3_fits_24 : decode cX3_fits 24 = .ok (.getfield 28, 3) := by decide +kernel
theorem dX3_fits_27 : decode cX3_fits 27 = .ok (.iload_n 1, 1) := by decide +kernel
theorem dX3_fits_28 : decode cX3_fits 28 = .ok (.invokevirtual 111, 3) := by decide +kernel
theorem dX3_fits_31 : decode cX3_fits 31 = .ok (.ifCond .eq 53, 3) := by decide +kernel
theorem dX3_fits_34 : decode cX3_fits 34 = .ok (.aload_n 0, 1) := by decide +kernel
theorem dX3_fits_35 : decode cX3_fits 35 = .ok (.getfield 28, 3) := by decide +kernel
theorem dX3_fits_38 : decode cX3_fits 38 = .ok (.getfield 95, 3) := by decide +kernel
theorem dX3_fits_41 : decode cX3_fits 41 = .ok (.iload_n 1, 1) := by decide +kernel
theorem dX3_fits_42 : decode cX3_fits 42 = .ok (.iaload, 1) := by decide +kernel
theorem dX3_fits_43 : decode cX3_fits 43 = .ok (.bipush 10, 2) := by decide +kernel
theorem dX3_fits_45 : decode cX3_fits 45 = .ok (.isub, 1) := by decide +kernel
theorem dX3_fits_46 : decode cX3_fits 46 = .ok (.istore 4, 2) := by decide +kernel
theorem dX3_fits_48 : decode cX3_fits 48 = .ok (.aload_n 0, 1) := by decide +kernel
theorem dX3_fits_49 : decode cX3_fits 49 = .ok (.getfield 25, 3) := by decide +kernel
theorem dX3_fits_52 : decode cX3_fits 52 = .ok (.iload 4, 2) := by decide +kernel
theorem dX3_fits_54 : decode cX3_fits 54 = .ok (.iaload, 1) := by decide +kernel
theorem dX3_fits_55 : decode cX3_fits 55 = .ok (.iconst (-1), 1) := by decide +kernel
theorem dX3_fits_56 : decode cX3_fits 56 = .ok (.if_icmp .ne 11, 3) := by decide +kernel
theorem dX3_fits_59 : decode cX3_fits 59 = .ok (.aload_n 0, 1) := by decide +kernel
theorem dX3_fits_60 : decode cX3_fits 60 = .ok (.getfield 25, 3) := by decide +kernel
theorem dX3_fits_63 : decode cX3_fits 63 = .ok (.iload 4, 2) := by decide +kernel
theorem dX3_fits_65 : decode cX3_fits 65 = .ok (.iload_n 2, 1) := by decide +kernel
theorem dX3_fits_66 : decode cX3_fits 66 = .ok (.iastore, 1) := by decide +kernel
theorem dX3_fits_67 : decode cX3_fits 67 = .ok (.aload_n 0, 1) := by decide +kernel
theorem dX3_fits_68 : decode cX3_fits 68 = .ok (.getfield 25, 3) := by decide +kernel
theorem dX3_fits_71 : decode cX3_fits 71 = .ok (.iload 4, 2) := by decide +kernel
theorem dX3_fits_73 : decode cX3_fits 73 = .ok (.iaload, 1) := by decide +kernel
theorem dX3_fits_74 : decode cX3_fits 74 = .ok (.iload_n 2, 1) := by decide +kernel
theorem dX3_fits_75 : decode cX3_fits 75 = .ok (.if_icmp .ne 7, 3) := by decide +kernel
theorem dX3_fits_78 : decode cX3_fits 78 = .ok (.iconst 1, 1) := by decide +kernel
theorem dX3_fits_79 : decode cX3_fits 79 = .ok (.goto 4, 3) := by decide +kernel
theorem dX3_fits_82 : decode cX3_fits 82 = .ok (.iconst 0, 1) := by decide +kernel
theorem dX3_fits_83 : decode cX3_fits 83 = .ok (.ireturn, 1) := by decide +kernel
theorem dX3_fits_84 : decode cX3_fits 84 = .ok (.aload_n 0, 1) := by decide +kernel
theorem dX3_fits_85 : decode cX3_fits 85 = .ok (.getfield 28, 3) := by decide +kernel
theorem dX3_fits_88 : decode cX3_fits 88 = .ok (.getfield 95, 3) := by decide +kernel
theorem dX3_fits_91 : decode cX3_fits 91 = .ok (.iload_n 1, 1) := by decide +kernel
theorem dX3_fits_92 : decode cX3_fits 92 = .ok (.iaload, 1) := by decide +kernel
theorem dX3_fits_93 : decode cX3_fits 93 = .ok (.aload_n 0, 1) := by decide +kernel
theorem dX3_fits_94 : decode cX3_fits 94 = .ok (.getfield 28, 3) := by decide +kernel
theorem dX3_fits_97 : decode cX3_fits 97 = .ok (.getfield 95, 3) := by decide +kernel
theorem dX3_fits_100 : decode cX3_fits 100 = .ok (.iload_n 2, 1) := by decide +kernel
theorem dX3_fits_101 : decode cX3_fits 101 = .ok (.iaload, 1) := by decide +kernel
theorem dX3_fits_102 : decode cX3_fits 102 = .ok (.if_icmp .ne 9, 3) := by decide +kernel
theorem dX3_fits_105 : decode cX3_fits 105 = .ok (.iload_n 3, 1) := by decide +kernel
theorem dX3_fits_106 : decode cX3_fits 106 = .ok (.bipush 30, 2) := by decide +kernel
theorem dX3_fits_108 : decode cX3_fits 108 = .ok (.if_icmp .le 5, 3) := by decide +kernel
theorem dX3_fits_111 : decode cX3_fits 111 = .ok (.iconst 0, 1) := by decide +kernel
theorem dX3_fits_112 : decode cX3_fits 112 = .ok (.ireturn, 1) := by decide +kernel
theorem dX3_fits_113 : decode cX3_fits 113 = .ok (.aload_n 0, 1) := by decide +kernel
theorem dX3_fits_114 : decode cX3_fits 114 = .ok (.aload_n 0, 1) := by decide +kernel
theorem dX3_fits_115 : decode cX3_fits 115 = .ok (.getfield 28, 3) := by decide +kernel
theorem dX3_fits_118 : decode cX3_fits 118 = .ok (.getfield 74, 3) := by decide +kernel
theorem dX3_fits_121 : decode cX3_fits 121 = .ok (.iload_n 1, 1) := by decide +kernel
theorem dX3_fits_122 : decode cX3_fits 122 = .ok (.iaload, 1) := by decide +kernel
theorem dX3_fits_123 : decode cX3_fits 123 = .ok (.aload_n 0, 1) := by decide +kernel
theorem dX3_fits_124 : decode cX3_fits 124 = .ok (.getfield 28, 3) := by decide +kernel
theorem dX3_fits_127 : decode cX3_fits 127 = .ok (.getfield 74, 3) := by decide +kernel
theorem dX3_fits_130 : decode cX3_fits 130 = .ok (.iload_n 2, 1) := by decide +kernel
theorem dX3_fits_131 : decode cX3_fits 131 = .ok (.iaload, 1) := by decide +kernel
theorem dX3_fits_132 : decode cX3_fits 132 = .ok (.iload_n 3, 1) := by decide +kernel
theorem dX3_fits_133 : decode cX3_fits 133 = .ok (.iconst 1, 1) := by decide +kernel
theorem dX3_fits_134 : decode cX3_fits 134 = .ok (.iadd, 1) := by decide +kernel
theorem dX3_fits_135 : decode cX3_fits 135 = .ok (.invokevirtual 104, 3) := by decide +kernel
theorem dX3_fits_138 : decode cX3_fits 138 = .ok (.ifCond .eq 48, 3) := by decide +kernel
theorem dX3_fits_141 : decode cX3_fits 141 = .ok (.aload_n 0, 1) := by decide +kernel
theorem dX3_fits_142 : decode cX3_fits 142 = .ok (.getfield 28, 3) := by decide +kernel
theorem dX3_fits_145 : decode cX3_fits 145 = .ok (.getfield 79, 3) := by decide +kernel
theorem dX3_fits_148 : decode cX3_fits 148 = .ok (.iload_n 1, 1) := by decide +kernel
theorem dX3_fits_149 : decode cX3_fits 149 = .ok (.iaload, 1) := by decide +kernel
theorem dX3_fits_150 : decode cX3_fits 150 = .ok (.iconst (-1), 1) := by decide +kernel
theorem dX3_fits_151 : decode cX3_fits 151 = .ok (.if_icmp .eq 31, 3) := by decide +kernel
theorem dX3_fits_154 : decode cX3_fits 154 = .ok (.aload_n 0, 1) := by decide +kernel
theorem dX3_fits_155 : decode cX3_fits 155 = .ok (.aload_n 0, 1) := by decide +kernel
theorem dX3_fits_156 : decode cX3_fits 156 = .ok (.getfield 28, 3) := by decide +kernel
theorem dX3_fits_159 : decode cX3_fits 159 = .ok (.getfield 79, 3) := by decide +kernel
theorem dX3_fits_162 : decode cX3_fits 162 = .ok (.iload_n 1, 1) := by decide +kernel
theorem dX3_fits_163 : decode cX3_fits 163 = .ok (.iaload, 1) := by decide +kernel
theorem dX3_fits_164 : decode cX3_fits 164 = .ok (.aload_n 0, 1) := by decide +kernel
theorem dX3_fits_165 : decode cX3_fits 165 = .ok (.getfield 28, 3) := by decide +kernel
theorem dX3_fits_168 : decode cX3_fits 168 = .ok (.getfield 79, 3) := by decide +kernel
theorem dX3_fits_171 : decode cX3_fits 171 = .ok (.iload_n 2, 1) := by decide +kernel
theorem dX3_fits_172 : decode cX3_fits 172 = .ok (.iaload, 1) := by decide +kernel
theorem dX3_fits_173 : decode cX3_fits 173 = .ok (.iload_n 3, 1) := by decide +kernel
theorem dX3_fits_174 : decode cX3_fits 174 = .ok (.iconst 1, 1) := by decide +kernel
theorem dX3_fits_175 : decode cX3_fits 175 = .ok (.iadd, 1) := by decide +kernel
theorem dX3_fits_176 : decode cX3_fits 176 = .ok (.invokevirtual 104, 3) := by decide +kernel
theorem dX3_fits_179 : decode cX3_fits 179 = .ok (.ifCond .eq 7, 3) := by decide +kernel
theorem dX3_fits_182 : decode cX3_fits 182 = .ok (.iconst 1, 1) := by decide +kernel
theorem dX3_fits_183 : decode cX3_fits 183 = .ok (.goto 4, 3) := by decide +kernel
theorem dX3_fits_186 : decode cX3_fits 186 = .ok (.iconst 0, 1) := by decide +kernel
theorem dX3_fits_187 : decode cX3_fits 187 = .ok (.ireturn, 1) := by decide +kernel
def bX3_fits_111 (N d : Nat) (self_X3_fits : Wd → Int32 → Int32 → Int32 → Option (Wd × Int32))  (w : Wd)  : Option (Wd × Int32) :=
  some (w, 0)
set_option maxHeartbeats 4000000 in
theorem kX3_fits_111 {V : Ev} {p : Program} {l : Launch} {e : Env} {N d : Nat} {s : State} {m : MethodId} {args : Array Value} {below : List Frame} {meth : Method} {c : Code} {z : Wd × Int32} (X : CX V p s m args meth c cX3_fits 5 RX3 (some .boolean)) {self_X3_fits : Wd → Int32 → Int32 → Int32 → Option (Wd × Int32)} (hs_X3_fits : ∀ (w : Wd) (a0 : Int32) (a1 : Int32) (a2 : Int32) (x : Wd × Int32), self_X3_fits w a0 a1 a2 = some x → MetI l V (cC V) (AC V) yX3_fits cX3_fits 5 (some .boolean) d [.ref (V.2.2 3), .int a0, .int a1, .int a2] w x)  {w : Wd}  {H : Heap} {locs : List Loc} {ls : Array Slot} (h : bX3_fits_111 N d self_X3_fits  w  = some z) (hH : wH V (cC V) (AC V) s w H locs) (hl : lv_has ls 5 []) : W p l e (rmD (d + 1)) s m args below meth c H locs 0 0 (MQ below (CtI V (cC V) (AC V) z) args s 0 0 (AC V)) (F0 m 111 ls []) := by
  unfold bX3_fits_111 at h
  obtain ⟨hx, hb, hml, hown, hg, hrt, hlk, hK⟩ := id X
  refine lv_iconst (pc := 111) (v := 0) hx hb dX3_fits_111 (by decide) ?_
  exact r_zretk (pc := 112) (by decide) X hH h dX3_fits_112
def bX3_fits_187 (N d : Nat) (self_X3_fits : Wd → Int32 → Int32 → Int32 → Option (Wd × Int32))  (w : Wd) (y0 : Int32) : Option (Wd × Int32) :=
  c_bo y0 (some (w, y0))
set_option maxHeartbeats 4000000 in
theorem kX3_fits_187 {V : Ev} {p : Program} {l : Launch} {e : Env} {N d : Nat} {s : State} {m : MethodId} {args : Array Value} {below : List Frame} {meth : Method} {c : Code} {z : Wd × Int32} (X : CX V p s m args meth c cX3_fits 5 RX3 (some .boolean)) {self_X3_fits : Wd → Int32 → Int32 → Int32 → Option (Wd × Int32)} (hs_X3_fits : ∀ (w : Wd) (a0 : Int32) (a1 : Int32) (a2 : Int32) (x : Wd × Int32), self_X3_fits w a0 a1 a2 = some x → MetI l V (cC V) (AC V) yX3_fits cX3_fits 5 (some .boolean) d [.ref (V.2.2 3), .int a0, .int a1, .int a2] w x)  {w : Wd} {y0 : Int32} {H : Heap} {locs : List Loc} {ls : Array Slot} (h : bX3_fits_187 N d self_X3_fits  w y0 = some z) (hH : wH V (cC V) (AC V) s w H locs) (hl : lv_has ls 5 []) : W p l e (rmD (d + 1)) s m args below meth c H locs 0 0 (MQ below (CtI V (cC V) (AC V) z) args s 0 0 (AC V)) (F0 m 187 ls [.int y0]) := by
  unfold bX3_fits_187 at h
  obtain ⟨hx, hb, hml, hown, hg, hrt, hlk, hK⟩ := id X
  exact r_zret (pc := 187) X hH h dX3_fits_187
def bX3_fits_186 (N d : Nat) (self_X3_fits : Wd → Int32 → Int32 → Int32 → Option (Wd × Int32))  (w : Wd)  : Option (Wd × Int32) :=
  bX3_fits_187 N d self_X3_fits  w 0
set_option maxHeartbeats 4000000 in
theorem kX3_fits_186 {V : Ev} {p : Program} {l : Launch} {e : Env} {N d : Nat} {s : State} {m : MethodId} {args : Array Value} {below : List Frame} {meth : Method} {c : Code} {z : Wd × Int32} (X : CX V p s m args meth c cX3_fits 5 RX3 (some .boolean)) {self_X3_fits : Wd → Int32 → Int32 → Int32 → Option (Wd × Int32)} (hs_X3_fits : ∀ (w : Wd) (a0 : Int32) (a1 : Int32) (a2 : Int32) (x : Wd × Int32), self_X3_fits w a0 a1 a2 = some x → MetI l V (cC V) (AC V) yX3_fits cX3_fits 5 (some .boolean) d [.ref (V.2.2 3), .int a0, .int a1, .int a2] w x)  {w : Wd}  {H : Heap} {locs : List Loc} {ls : Array Slot} (h : bX3_fits_186 N d self_X3_fits  w  = some z) (hH : wH V (cC V) (AC V) s w H locs) (hl : lv_has ls 5 []) : W p l e (rmD (d + 1)) s m args below meth c H locs 0 0 (MQ below (CtI V (cC V) (AC V) z) args s 0 0 (AC V)) (F0 m 186 ls []) := by
  unfold bX3_fits_186 at h
  obtain ⟨hx, hb, hml, hown, hg, hrt, hlk, hK⟩ := id X
  refine lv_iconst (pc := 186) (v := 0) hx hb dX3_fits_186 (by decide) ?_
  exact kX3_fits_187 X hs_X3_fits  h hH (lv_sub hl [] rfl)
def bX3_fits_182 (N d : Nat) (self_X3_fits : Wd → Int32 → Int32 → Int32 → Option (Wd × Int32))  (w : Wd)  : Option (Wd × Int32) :=
  bX3_fits_187 N d self_X3_fits  w 1
set_option maxHeartbeats 4000000 in
theorem kX3_fits_182 {V : Ev} {p : Program} {l : Launch} {e : Env} {N d : Nat} {s : State} {m : MethodId} {args : Array Value} {below : List Frame} {meth : Method} {c : Code} {z : Wd × Int32} (X : CX V p s m args meth c cX3_fits 5 RX3 (some .boolean)) {self_X3_fits : Wd → Int32 → Int32 → Int32 → Option (Wd × Int32)} (hs_X3_fits : ∀ (w : Wd) (a0 : Int32) (a1 : Int32) (a2 : Int32) (x : Wd × Int32), self_X3_fits w a0 a1 a2 = some x → MetI l V (cC V) (AC V) yX3_fits cX3_fits 5 (some .boolean) d [.ref (V.2.2 3), .int a0, .int a1, .int a2] w x)  {w : Wd}  {H : Heap} {locs : List Loc} {ls : Array Slot} (h : bX3_fits_182 N d self_X3_fits  w  = some z) (hH : wH V (cC V) (AC V) s w H locs) (hl : lv_has ls 5 []) : W p l e (rmD (d + 1)) s m args below meth c H locs 0 0 (MQ below (CtI V (cC V) (AC V) z) args s 0 0 (AC V)) (F0 m 182 ls []) := by
  unfold bX3_fits_182 at h
  obtain ⟨hx, hb, hml, hown, hg, hrt, hlk, hK⟩ := id X
  refine lv_iconst (pc := 182) (v := 1) hx hb dX3_fits_182 (by decide) ?_
  refine lv_goto (pc := 183) (tgt := 187) hx hb dX3_fits_183 (by decide) ?_
  exact kX3_fits_187 X hs_X3_fits  h hH (lv_sub hl [] rfl)
def bX3_fits_83 (N d : Nat) (self_X3_fits : Wd → Int32 → Int32 → Int32 → Option (Wd × Int32))  (w : Wd) (y0 : Int32) : Option (Wd × Int32) :=
  c_bo y0 (some (w, y0))
set_option maxHeartbeats 4000000 in
theorem kX3_fits_83 {V : Ev} {p : Program} {l : Launch} {e : Env} {N d : Nat} {s : State} {m : MethodId} {args : Array Value} {below : List Frame} {meth : Method} {c : Code} {z : Wd × Int32} (X : CX V p s m args meth c cX3_fits 5 RX3 (some .boolean)) {self_X3_fits : Wd → Int32 → Int32 → Int32 → Option (Wd × Int32)} (hs_X3_fits : ∀ (w : Wd) (a0 : Int32) (a1 : Int32) (a2 : Int32) (x : Wd × Int32), self_X3_fits w a0 a1 a2 = some x → MetI l V (cC V) (AC V) yX3_fits cX3_fits 5 (some .boolean) d [.ref (V.2.2 3), .int a0, .int a1, .int a2] w x)  {w : Wd} {y0 : Int32} {H : Heap} {locs : List Loc} {ls : Array Slot} (h : bX3_fits_83 N d self_X3_fits  w y0 = some z) (hH : wH V (cC V) (AC V) s w H locs) (hl : lv_has ls 5 []) : W p l e (rmD (d + 1)) s m args below meth c H locs 0 0 (MQ below (CtI V (cC V) (AC V) z) args s 0 0 (AC V)) (F0 m 83 ls [.int y0]) := by
  unfold bX3_fits_83 at h
  obtain ⟨hx, hb, hml, hown, hg, hrt, hlk, hK⟩ := id X
  exact r_zret (pc := 83) X hH h dX3_fits_83
def bX3_fits_67 (N d : Nat) (self_X3_fits : Wd → Int32 → Int32 → Int32 → Option (Wd × Int32))  (w : Wd) (x2 : Int32) (x4 : Int32) : Option (Wd × Int32) :=
  c_ld w 29 4 x4 fun v18 =>
  if v18 = x2 then (
    bX3_fits_83 N d self_X3_fits  w 1
  ) else (
    bX3_fits_83 N d self_X3_fits  w 0
  )
set_option maxHeartbeats 4000000 in
theorem kX3_fits_67 {V : Ev} {p : Program} {l : Launch} {e : Env} {N d : Nat} {s : State} {m : MethodId} {args : Array Value} {below : List Frame} {meth : Method} {c : Code} {z : Wd × Int32} (X : CX V p s m args meth c cX3_fits 5 RX3 (some .boolean)) {self_X3_fits : Wd → Int32 → Int32 → Int32 → Option (Wd × Int32)} (hs_X3_fits : ∀ (w : Wd) (a0 : Int32) (a1 : Int32) (a2 : Int32) (x : Wd × Int32), self_X3_fits w a0 a1 a2 = some x → MetI l V (cC V) (AC V) yX3_fits cX3_fits 5 (some .boolean) d [.ref (V.2.2 3), .int a0, .int a1, .int a2] w x)  {w : Wd} {x2 : Int32} {x4 : Int32} {H : Heap} {locs : List Loc} {ls : Array Slot} (h : bX3_fits_67 N d self_X3_fits  w x2 x4 = some z) (hH : wH V (cC V) (AC V) s w H locs) (hl : lv_has ls 5 [(0, .ref (V.2.2 3)), (2, .int x2), (4, .int x4)]) : W p l e (rmD (d + 1)) s m args below meth c H locs 0 0 (MQ below (CtI V (cC V) (AC V) z) args s 0 0 (AC V)) (F0 m 67 ls []) := by
  unfold bX3_fits_67 at h
  obtain ⟨hx, hb, hml, hown, hg, hrt, hlk, hK⟩ := id X
  refine lv_aload_n (pc := 67) hx hb dX3_fits_67 rfl (lv_at hl 0 rfl) ?_
  refine gC_X3_25_3 (pc := 68) X hH dX3_fits_68 ?_
  refine lv_iload (pc := 71) hx hb dX3_fits_71 (lv_at hl 2 rfl) ?_
  refine r_ld (pc := 73) X (heC_28 V w) hH h dX3_fits_73 (fun v18 h => ?_)
  refine lv_iload_n (pc := 74) hx hb dX3_fits_74 rfl (lv_at hl 1 rfl) ?_
  refine b_icmp_ne (pc := 75) (tgt := 82) hx hb h dX3_fits_75 (by decide) (fun h => ?_) (fun h => ?_)
  · refine lv_iconst (pc := 82) (v := 0) hx hb dX3_fits_82 (by decide) ?_
    exact kX3_fits_83 X hs_X3_fits  h hH (lv_sub hl [] rfl)
  · refine lv_iconst (pc := 78) (v := 1) hx hb dX3_fits_78 (by decide) ?_
    refine lv_goto (pc := 79) (tgt := 83) hx hb dX3_fits_79 (by decide) ?_
    exact kX3_fits_83 X hs_X3_fits  h hH (lv_sub hl [] rfl)
def bX3_fits_22 (N d : Nat) (self_X3_fits : Wd → Int32 → Int32 → Int32 → Option (Wd × Int32))  (w : Wd) (y0 : Int32) : Option (Wd × Int32) :=
  c_bo y0 (some (w, y0))
set_option maxHeartbeats 4000000 in
theorem kX3_fits_22 {V : Ev} {p : Program} {l : Launch} {e : Env} {N d : Nat} {s : State} {m : MethodId} {args : Array Value} {below : List Frame} {meth : Method} {c : Code} {z : Wd × Int32} (X : CX V p s m args meth c cX3_fits 5 RX3 (some .boolean)) {self_X3_fits : Wd → Int32 → Int32 → Int32 → Option (Wd × Int32)} (hs_X3_fits : ∀ (w : Wd) (a0 : Int32) (a1 : Int32) (a2 : Int32) (x : Wd × Int32), self_X3_fits w a0 a1 a2 = some x → MetI l V (cC V) (AC V) yX3_fits cX3_fits 5 (some .boolean) d [.ref (V.2.2 3), .int a0, .int a1, .int a2] w x)  {w : Wd} {y0 : Int32} {H : Heap} {locs : List Loc} {ls : Array Slot} (h : bX3_fits_22 N d self_X3_fits  w y0 = some z) (hH : wH V (cC V) (AC V) s w H locs) (hl : lv_has ls 5 []) : W p l e (rmD (d + 1)) s m args below meth c H locs 0 0 (MQ below (CtI V (cC V) (AC V) z) args s 0 0 (AC V)) (F0 m 22 ls [.int y0]) := by
  unfold bX3_fits_22 at h
  obtain ⟨hx, hb, hml, hown, hg, hrt, hlk, hK⟩ := id X
  exact r_zret (pc := 22) X hH h dX3_fits_22
def bX3_fits_0 (N d : Nat) (self_X3_fits : Wd → Int32 → Int32 → Int32 → Option (Wd × Int32))  (w : Wd) (x1 : Int32) (x2 : Int32) (x3 : Int32) : Option (Wd × Int32) :=
  c_ld w 19 1000 x1 fun v1 =>
  if v1 = 0 then (
    if x1 = x2 then (
      bX3_fits_22 N d self_X3_fits  w 1
    ) else (
      bX3_fits_22 N d self_X3_fits  w 0
    )
  ) else (
    c_cl (eX8_isVariable N d w x1) fun w2 v3 =>
    if v3 = 0 then (
      c_ld w2 14 1000 x1 fun v4 =>
      c_ld w2 14 1000 x2 fun v5 =>
      if v4 = v5 then (
        if x3 ≤ 30 then (
          c_ld w2 15 1000 x1 fun v6 =>
          c_ld w2 15 1000 x2 fun v7 =>
          c_cl (self_X3_fits w2 v6 v7 (x3 + 1)) fun w8 v9 =>
          if v9 = 0 then (
            bX3_fits_186 N d self_X3_fits  w8 
          ) else (
            c_ld w8 16 1000 x1 fun v10 =>
            if v10 = (-1) then (
              bX3_fits_182 N d self_X3_fits  w8 
            ) else (
              c_ld w8 16 1000 x1 fun v11 =>
              c_ld w8 16 1000 x2 fun v12 =>
              c_cl (self_X3_fits w8 v11 v12 (x3 + 1)) fun w13 v14 =>
              if v14 = 0 then (
                bX3_fits_186 N d self_X3_fits  w13 
              ) else (
                bX3_fits_182 N d self_X3_fits  w13 
              )
            )
          )
        ) else (
          bX3_fits_111 N d self_X3_fits  w2 
        )
      ) else (
        bX3_fits_111 N d self_X3_fits  w2 
      )
    ) else (
      c_ld w2 14 1000 x1 fun v15 =>
      c_nm (v15 - 10) fun x4_16 =>
      c_ld w2 29 4 x4_16 fun v17 =>
      if v17 = (-1) then (
        c_st w2 29 4 x4_16 x2 fun w19 =>
        bX3_fits_67 N d self_X3_fits  w19 x2 x4_16
      ) else (
        bX3_fits_67 N d self_X3_fits  w2 x2 x4_16
      )
    )
  )
set_option maxHeartbeats 4000000 in
theorem kX3_fits_0 {V : Ev} {p : Program} {l : Launch} {e : Env} {N d : Nat} {s : State} {m : MethodId} {args : Array Value} {below : List Frame} {meth : Method} {c : Code} {z : Wd × Int32} (X : CX V p s m args meth c cX3_fits 5 RX3 (some .boolean)) {self_X3_fits : Wd → Int32 → Int32 → Int32 → Option (Wd × Int32)} (hs_X3_fits : ∀ (w : Wd) (a0 : Int32) (a1 : Int32) (a2 : Int32) (x : Wd × Int32), self_X3_fits w a0 a1 a2 = some x → MetI l V (cC V) (AC V) yX3_fits cX3_fits 5 (some .boolean) d [.ref (V.2.2 3), .int a0, .int a1, .int a2] w x)  {w : Wd} {x1 : Int32} {x2 : Int32} {x3 : Int32} {H : Heap} {locs : List Loc} {ls : Array Slot} (h : bX3_fits_0 N d self_X3_fits  w x1 x2 x3 = some z) (hH : wH V (cC V) (AC V) s w H locs) (hl : lv_has ls 5 [(0, .ref (V.2.2 3)), (1, .int x1), (2, .int x2), (3, .int x3)]) : W p l e (rmD (d + 1)) s m args below meth c H locs 0 0 (MQ below (CtI V (cC V) (AC V) z) args s 0 0 (AC V)) (F0 m 0 ls []) := by
  unfold bX3_fits_0 at h
  obtain ⟨hx, hb, hml, hown, hg, hrt, hlk, hK⟩ := id X
  refine lv_aload_n (pc := 0) hx hb dX3_fits_0 rfl (lv_at hl 0 rfl) ?_
  refine gC_X3_28_3 (pc := 1) X hH dX3_fits_1 ?_
  refine gC_X3_108_1 (pc := 4) X hH dX3_fits_4 ?_
  refine lv_iload_n (pc := 7) hx hb dX3_fits_7 rfl (lv_at hl 1 rfl) ?_
  refine r_ld (pc := 8) X (heC_19 V w) hH h dX3_fits_8 (fun v1 h => ?_)
  refine b_if_ne (pc := 9) (tgt := 23) hx hb h dX3_fits_9 (by decide) (fun h => ?_) (fun h => ?_)
  · refine lv_aload_n (pc := 23) hx hb dX3_fits_23 rfl (lv_at hl 0 rfl) ?_
    refine gC_X3_28_3 (pc := 24) X hH dX3_fits_24 ?_
    refine lv_iload_n (pc := 27) hx hb dX3_fits_27 rfl (lv_at hl 1 rfl) ?_
    refine r_cvI (pc := 28) (As := [.int x1]) (rest := []) X hH (fun x hx => mX8_isVariable hx) cw_X3_111 (heC_1 V w) rfl rfl rfl (Nat.le_of_ble_eq_true rfl) hl.1 h dX3_fits_28 (fun w2 v3 H locs h hH => ?_)
    refine b_if_eq (pc := 31) (tgt := 84) hx hb h dX3_fits_31 (by decide) (fun h => ?_) (fun h => ?_)
    · refine lv_aload_n (pc := 84) hx hb dX3_fits_84 rfl (lv_at hl 0 rfl) ?_
      refine gC_X3_28_3 (pc := 85) X hH dX3_fits_85 ?_
      refine gC_X3_95_1 (pc := 88) X hH dX3_fits_88 ?_
      refine lv_iload_n (pc := 91) hx hb dX3_fits_91 rfl (lv_at hl 1 rfl) ?_
      refine r_ld (pc := 92) X (heC_14 V w2) hH h dX3_fits_92 (fun v4 h => ?_)
      refine lv_aload_n (pc := 93) hx hb dX3_fits_93 rfl (lv_at hl 0 rfl) ?_
      refine gC_X3_28_3 (pc := 94) X hH dX3_fits_94 ?_
      refine gC_X3_95_1 (pc := 97) X hH dX3_fits_97 ?_
      refine lv_iload_n (pc := 100) hx hb dX3_fits_100 rfl (lv_at hl 2 rfl) ?_
      refine r_ld (pc := 101) X (heC_14 V w2) hH h dX3_fits_101 (fun v5 h => ?_)
      refine b_icmp_ne (pc := 102) (tgt := 111) hx hb h dX3_fits_102 (by decide) (fun h => ?_) (fun h => ?_)
      · exact kX3_fits_111 X hs_X3_fits  h hH (lv_sub hl [] rfl)
      · refine lv_iload_n (pc := 105) hx hb dX3_fits_105 rfl (lv_at hl 3 rfl) ?_
        refine lv_bipush (pc := 106) (v := 30) hx hb dX3_fits_106 (by decide) ?_
        refine b_icmp_le (pc := 108) (tgt := 113) hx hb h dX3_fits_108 (by decide) (fun h => ?_) (fun h => ?_)
        · refine lv_aload_n (pc := 113) hx hb dX3_fits_113 rfl (lv_at hl 0 rfl) ?_
          refine lv_aload_n (pc := 114) hx hb dX3_fits_114 rfl (lv_at hl 0 rfl) ?_
          refine gC_X3_28_3 (pc := 115) X hH dX3_fits_115 ?_
          refine gC_X3_74_1 (pc := 118) X hH dX3_fits_118 ?_
          refine lv_iload_n (pc := 121) hx hb dX3_fits_121 rfl (lv_at hl 1 rfl) ?_
          refine r_ld (pc := 122) X (heC_15 V w2) hH h dX3_fits_122 (fun v6 h => ?_)
          refine lv_aload_n (pc := 123) hx hb dX3_fits_123 rfl (lv_at hl 0 rfl) ?_
          refine gC_X3_28_3 (pc := 124) X hH dX3_fits_124 ?_
          refine gC_X3_74_1 (pc := 127) X hH dX3_fits_127 ?_
          refine lv_iload_n (pc := 130) hx hb dX3_fits_130 rfl (lv_at hl 2 rfl) ?_
          refine r_ld (pc := 131) X (heC_15 V w2) hH h dX3_fits_131 (fun v7 h => ?_)
          refine lv_iload_n (pc := 132) hx hb dX3_fits_132 rfl (lv_at hl 3 rfl) ?_
          refine lv_iconst (pc := 133) (v := 1) hx hb dX3_fits_133 (by decide) ?_
          refine lv_iadd (pc := 134) hx hb dX3_fits_134 ?_
          refine r_cvI (pc := 135) (As := [.int v6, .int v7, .int (x3 + 1)]) (rest := []) X hH (fun x hx => hs_X3_fits _ _ _ _ _ hx) cw_X3_104 (heC_3 V w2) rfl rfl rfl (Nat.le_of_ble_eq_true rfl) hl.1 h dX3_fits_135 (fun w8 v9 H locs h hH => ?_)
          refine b_if_eq (pc := 138) (tgt := 186) hx hb h dX3_fits_138 (by decide) (fun h => ?_) (fun h => ?_)
          · exact kX3_fits_186 X hs_X3_fits  h hH (lv_sub hl [] rfl)
          · refine lv_aload_n (pc := 141) hx hb dX3_fits_141 rfl (lv_at hl 0 rfl) ?_
            refine gC_X3_28_3 (pc := 142) X hH dX3_fits_142 ?_
            refine gC_X3_79_1 (pc := 145) X hH dX3_fits_145 ?_
            refine lv_iload_n (pc := 148) hx hb dX3_fits_148 rfl (lv_at hl 1 rfl) ?_
            refine r_ld (pc := 149) X (heC_16 V w8) hH h dX3_fits_149 (fun v10 h => ?_)
            refine lv_iconst (pc := 150) (v := -1) hx hb dX3_fits_150 (by decide) ?_
            refine b_icmp_eq (pc := 151) (tgt := 182) hx hb h dX3_fits_151 (by decide) (fun h => ?_) (fun h => ?_)
            · exact kX3_fits_182 X hs_X3_fits  h hH (lv_sub hl [] rfl)
            · refine lv_aload_n (pc := 154) hx hb dX3_fits_154 rfl (lv_at hl 0 rfl) ?_
              refine lv_aload_n (pc := 155) hx hb dX3_fits_155 rfl (lv_at hl 0 rfl) ?_
              refine gC_X3_28_3 (pc := 156) X hH dX3_fits_156 ?_
              refine gC_X3_79_1 (pc := 159) X hH dX3_fits_159 ?_
              refine lv_iload_n (pc := 162) hx hb dX3_fits_162 rfl (lv_at hl 1 rfl) ?_
              refine r_ld (pc := 163) X (heC_16 V w8) hH h dX3_fits_163 (fun v11 h => ?_)
              refine lv_aload_n (pc := 164) hx hb dX3_fits_164 rfl (lv_at hl 0 rfl) ?_
              refine gC_X3_28_3 (pc := 165) X hH dX3_fits_165 ?_
              refine gC_X3_79_1 (pc := 168) X hH dX3_fits_168 ?_
              refine lv_iload_n (pc := 171) hx hb dX3_fits_171 rfl (lv_at hl 2 rfl) ?_
              refine r_ld (pc := 172) X (heC_16 V w8) hH h dX3_fits_172 (fun v12 h => ?_)
              refine lv_iload_n (pc := 173) hx hb dX3_fits_173 rfl (lv_at hl 3 rfl) ?_
              refine lv_iconst (pc := 174) (v := 1) hx hb dX3_fits_174 (by decide) ?_
              refine lv_iadd (pc := 175) hx hb dX3_fits_175 ?_
              refine r_cvI (pc := 176) (As := [.int v11, .int v12, .int (x3 + 1)]) (rest := []) X hH (fun x hx => hs_X3_fits _ _ _ _ _ hx) cw_X3_104 (heC_3 V w8) rfl rfl rfl (Nat.le_of_ble_eq_true rfl) hl.1 h dX3_fits_176 (fun w13 v14 H locs h hH => ?_)
              refine b_if_eq (pc := 179) (tgt := 186) hx hb h dX3_fits_179 (by decide) (fun h => ?_) (fun h => ?_)
              · exact kX3_fits_186 X hs_X3_fits  h hH (lv_sub hl [] rfl)
              · exact kX3_fits_182 X hs_X3_fits  h hH (lv_sub hl [] rfl)
        · exact kX3_fits_111 X hs_X3_fits  h hH (lv_sub hl [] rfl)
    · refine lv_aload_n (pc := 34) hx hb dX3_fits_34 rfl (lv_at hl 0 rfl) ?_
      refine gC_X3_28_3 (pc := 35) X hH dX3_fits_35 ?_
      refine gC_X3_95_1 (pc := 38) X hH dX3_fits_38 ?_
      refine lv_iload_n (pc := 41) hx hb dX3_fits_41 rfl (lv_at hl 1 rfl) ?_
      refine r_ld (pc := 42) X (heC_14 V w2) hH h dX3_fits_42 (fun v15 h => ?_)
      refine lv_bipush (pc := 43) (v := 10) hx hb dX3_fits_43 (by decide) ?_
      refine lv_isub (pc := 45) hx hb dX3_fits_45 ?_
      refine r_nmi h (fun x4_16 h => ?_)
      refine lv_istore (pc := 46) (lv' := [(4, .int x4_16), (0, .ref (V.2.2 3)), (1, .int x1), (2, .int x2), (3, .int x3)]) hx hb dX3_fits_46 hl (by decide) rfl (fun ls hl => ?_)
      refine lv_aload_n (pc := 48) hx hb dX3_fits_48 rfl (lv_at hl 1 rfl) ?_
      refine gC_X3_25_3 (pc := 49) X hH dX3_fits_49 ?_
      refine lv_iload (pc := 52) hx hb dX3_fits_52 (lv_at hl 0 rfl) ?_
      refine r_ld (pc := 54) X (heC_28 V w2) hH h dX3_fits_54 (fun v17 h => ?_)
      refine lv_iconst (pc := 55) (v := -1) hx hb dX3_fits_55 (by decide) ?_
      refine b_icmp_ne (pc := 56) (tgt := 67) hx hb h dX3_fits_56 (by decide) (fun h => ?_) (fun h => ?_)
      · exact kX3_fits_67 X hs_X3_fits  h hH (lv_sub hl [1, 3, 0] rfl)
      · refine lv_aload_n (pc := 59) hx hb dX3_fits_59 rfl (lv_at hl 1 rfl) ?_
        refine gC_X3_25_3 (pc := 60) X hH dX3_fits_60 ?_
        refine lv_iload (pc := 63) hx hb dX3_fits_63 (lv_at hl 0 rfl) ?_
        refine lv_iload_n (pc := 65) hx hb dX3_fits_65 rfl (lv_at hl 3 rfl) ?_
        refine r_st (pc := 66) X (heC_28 V w2) (hsC_28 V w2) hH h dX3_fits_66 (fun w19 H locs h hH => ?_)
        exact kX3_fits_67 X hs_X3_fits  h hH (lv_sub hl [1, 3, 0] rfl)
  · refine lv_iload_n (pc := 12) hx hb dX3_fits_12 rfl (lv_at hl 1 rfl) ?_
    refine lv_iload_n (pc := 13) hx hb dX3_fits_13 rfl (lv_at hl 2 rfl) ?_
    refine b_icmp_ne (pc := 14) (tgt := 21) hx hb h dX3_fits_14 (by decide) (fun h => ?_) (fun h => ?_)
    · refine lv_iconst (pc := 21) (v := 0) hx hb dX3_fits_21 (by decide) ?_
      exact kX3_fits_22 X hs_X3_fits  h hH (lv_sub hl [] rfl)
    · refine lv_iconst (pc := 17) (v := 1) hx hb dX3_fits_17 (by decide) ?_
      refine lv_goto (pc := 18) (tgt := 22) hx hb dX3_fits_18 (by decide) ?_
      exact kX3_fits_22 X hs_X3_fits  h hH (lv_sub hl [] rfl)
def eX3_fits (N : Nat) : Nat → Wd → Int32 → Int32 → Int32 → Option (Wd × Int32)
  | 0 => fun _ _ _ _ => none
  | d + 1 => fun w x1 x2 x3 => bX3_fits_0 N d (eX3_fits N d) w x1 x2 x3
set_option maxHeartbeats 4000000 in
set_option maxRecDepth 20000 in
theorem mX3_fits {l : Launch} {V : Ev} {N d : Nat} {w : Wd} {x1 : Int32} {x2 : Int32} {x3 : Int32} {z : Wd × Int32} (h : eX3_fits N d w x1 x2 x3 = some z) : MetI l V (cC V) (AC V) yX3_fits cX3_fits 5 (some .boolean) d [.ref (V.2.2 3), .int x1, .int x2, .int x3] w z := by
  induction d generalizing w x1 x2 x3 z with
  | zero => exact c_none h
  | succ d ih =>
    refine Met.ofW (cc := cX3_fits) (maxL := 5) (ret := (some .boolean)) (by decide) rfl ?_
    intro p e s m args below meth c s₁ B hml hv
    obtain ⟨rfl, hP, hD, hK⟩ := hv
    have hts := atoms_spec (ws := .code yX3_fits cX3_fits 5 (some .boolean) :: gG) B.pre
    have X : CX V p s m ([.ref (V.2.2 3), .int x1, .int x2, .int x3] : List Value).toArray meth c cX3_fits 5 RX3 (some .boolean) := ⟨B.exec, B.bytes, hml, findClass_of_methodNamed B.named, fun w hw => hts w (List.mem_cons_of_mem _ hw), B.returns, B.notSynchronized, hK⟩
    have hl := lv_entry ([.ref (V.2.2 3), .int x1, .int x2, .int x3] : List Value) (n := 5) (Nat.le_of_ble_eq_true rfl)
    rw [lg_entry_eq]
    generalize (lg_sl ([.ref (V.2.2 3), .int x1, .int x2, .int x3] : List Value) ++ List.replicate (5 - (lg_sl ([.ref (V.2.2 3), .int x1, .int x2, .int x3] : List Value)).length) Slot.unset).toArray = ls at hl ⊢
    have hl : lv_has ls 5 [(0, .ref (V.2.2 3)), (1, .int x1), (2, .int x2), (3, .int x3)] := hl
    exact kX3_fits_0 (N := N) X (fun _ _ _ _ _ h => ih h) h ⟨hP, hD, va_S.rf⟩ hl
theorem dX3_ruleFor_0 : decode cX3_ruleFor 0 = .ok (.iconst 0, 1) := by decide +kernel
theorem dX3_ruleFor_1 : decode cX3_ruleFor 1 = .ok (.istore_n 2, 1) := by decide +kernel
theorem dX3_ruleFor_2 : decode cX3_ruleFor 2 = .ok (.iload_n 2, 1) := by decide +kernel
theorem dX3_ruleFor_3 : decode cX3_ruleFor 3 = .ok (.aload_n 0, 1) := by decide +kernel
theorem dX3_ruleFor_4 : decode cX3_ruleFor 4 = .ok (.getfield 32, 3) := by decide +kernel
theorem dX3_ruleFor_7 : decode cX3_ruleFor 7 = .ok (.getfield 85, 3) := by decide +kernel
theorem dX3_ruleFor_10 : decode cX3_ruleFor 10 = .ok (.if_icmp .ge 80, 3) := by decide +kernel
theorem dX3_ruleFor_13 : decode cX3_ruleFor 13 = .ok (.aload_n 0, 1) := by decide +kernel
theorem dX3_ruleFor_14 : decode cX3_ruleFor 14 = .ok (.getfield 32, 3) := by decide +kernel
theorem dX3_ruleFor_17 : decode cX3_ruleFor 17 = .ok (.getfield 88, 3) := by decide +kernel
theorem dX3_ruleFor_20 : decode cX3_ruleFor 20 = .ok (.iload_n 2, 1) := by decide +kernel
theorem dX3_ruleFor_21 : decode cX3_ruleFor 21 = .ok (.iaload, 1) := by decide +kernel
theorem dX3_ruleFor_22 : decode cX3_ruleFor 22 = .ok (.istore_n 3, 1) := by decide +kernel
theorem dX3_ruleFor_23 : decode cX3_ruleFor 23 = .ok (.aload_n 0, 1) := by decide +kernel
theorem dX3_ruleFor_24 : decode cX3_ruleFor 24 = .ok (.getfield 32, 3) := by decide +kernel
theorem dX3_ruleFor_27 : decode cX3_ruleFor 27 = .ok (.getfield 91, 3) := by decide +kernel
theorem dX3_ruleFor_30 : decode cX3_ruleFor 30 = .ok (.iload_n 2, 1) := by decide +kernel
theorem dX3_ruleFor_31 : decode cX3_ruleFor 31 = .ok (.baload, 1) := by decide +kernel
theorem dX3_ruleFor_32 : decode cX3_ruleFor 32 = .ok (.ifCond .eq 52, 3) := by decide +kernel
theorem dX3_ruleFor_35 : decode cX3_ruleFor 35 = .ok (.iload_n 2, 1) := by decide +kernel
theorem dX3_ruleFor_36 : decode cX3_ruleFor 36 = .ok (.aload_n 0, 1) := by decide +kernel
theorem dX3_ruleFor_37 : decode cX3_ruleFor 37 = .ok (.getfield 40, 3) := by decide +kernel
theorem dX3_ruleFor_40 : decode cX3_ruleFor 40 = .ok (.if_icmp .eq 44, 3) := by decide +kernel
theorem dX3_ruleFor_43 : decode cX3_ruleFor 43 = .ok (.aload_n 0, 1) := by decide +kernel
theorem dX3_ruleFor_44 : decode cX3_ruleFor 44 = .ok (.getfield 28, 3) := by decide +kernel
theorem dX3_ruleFor_47 : decode cX3_ruleFor 47 = .ok (.getfield 95, 3) := by decide +kernel
theorem dX3_ruleFor_50 : decode cX3_ruleFor 50 = .ok (.iload_n 3, 1) := by decide +kernel
theorem dX3_ruleFor_51 : decode cX3_ruleFor 51 = .ok (.iaload, 1) := by decide +kernel
theorem dX3_ruleFor_52 : decode cX3_ruleFor 52 = .ok (.aload_n 0, 1) := by decide +kernel
theorem dX3_ruleFor_53 : decode cX3_ruleFor 53 = .ok (.getfield 28, 3) := by decide +kernel
theorem dX3_ruleFor_56 : decode cX3_ruleFor 56 = .ok (.getfield 95, 3) := by decide +kernel
theorem dX3_ruleFor_59 : decode cX3_ruleFor 59 = .ok (.iload_n 1, 1) := by decide +kernel
theorem dX3_ruleFor_60 : decode cX3_ruleFor 60 = .ok (.iaload, 1) := by decide +kernel
theorem dX3_ruleFor_61 : decode cX3_ruleFor 61 = .ok (.if_icmp .ne 23, 3) := by decide +kernel
theorem dX3_ruleFor_64 : decode cX3_ruleFor 64 = .ok (.aload_n 0, 1) := by decide +kernel
theorem dX3_ruleFor_65 : decode cX3_ruleFor 65 = .ok (.getfield 25, 3) := by decide +kernel
theorem dX3_ruleFor_68 : decode cX3_ruleFor 68 = .ok (.iconst (-1), 1) := by decide +kernel
theorem dX3_ruleFor_69 : decode cX3_ruleFor 69 = .ok (.invokestatic 98, 3) := by decide +kernel
theorem dX3_ruleFor_72 : decode cX3_ruleFor 72 = .ok (.aload_n 0, 1) := by decide +kernel
theorem dX3_ruleFor_73 : decode cX3_ruleFor 73 = .ok (.iload_n 3, 1) := by decide +kernel
theorem dX3_ruleFor_74 : decode cX3_ruleFor 74 = .ok (.iload_n 1, 1) := by decide +kernel
theorem dX3_ruleFor_75 : decode cX3_ruleFor 75 = .ok (.iconst 1, 1) := by decide +kernel
theorem dX3_ruleFor_76 : decode cX3_ruleFor 76 = .ok (.invokevirtual 104, 3) := by decide +kernel
theorem dX3_ruleFor_79 : decode cX3_ruleFor 79 = .ok (.ifCond .eq 5, 3) := by decide +kernel
theorem dX3_ruleFor_82 : decode cX3_ruleFor 82 = .ok (.iload_n 2, 1) := by decide +kernel
theorem dX3_ruleFor_83 : decode cX3_ruleFor 83 = .ok (.ireturn, 1) := by decide +kernel
theorem dX3_ruleFor_84 : decode cX3_ruleFor 84 = .ok (.iinc 2 1, 3) := by decide +kernel
theorem dX3_ruleFor_87 : decode cX3_ruleFor 87 = .ok (.goto (-85), 3) := by decide +kernel
theorem dX3_ruleFor_90 : decode cX3_ruleFor 90 = .ok (.iconst (-1), 1) := by decide +kernel
theorem dX3_ruleFor_91 : decode cX3_ruleFor 91 = .ok (.ireturn, 1) := by decide +kernel
def bX3_ruleFor_84 (N d : Nat)  (rec2 : Wd → Int32 → Int32 → Option (Wd × Int32)) (w : Wd) (x1 : Int32) (x2 : Int32) : Option (Wd × Int32) :=
  c_nm (x2 + 1) fun x2_3 =>
  rec2 w x1 x2_3
set_option maxHeartbeats 4000000 in
theorem kX3_ruleFor_84 {V : Ev} {p : Program} {l : Launch} {e : Env} {N d : Nat} {s : State} {m : MethodId} {args : Array Value} {below : List Frame} {meth : Method} {c : Code} {z : Wd × Int32} (X : CX V p s m args meth c cX3_ruleFor 4 RX3 (some .int))   {rec2 : Wd → Int32 → Int32 → Option (Wd × Int32)} (hr2 : ∀ (w : Wd) (x1 : Int32) (x2 : Int32) (H : Heap) (locs : List Loc) (ls : Array Slot), rec2 w x1 x2 = some z → wH V (cC V) (AC V) s w H locs → lv_has ls 4 [(0, .ref (V.2.2 3)), (1, .int x1), (2, .int x2)] → W p l e (rmD (d + 1)) s m args below meth c H locs 0 0 (MQ below (CtI V (cC V) (AC V) z) args s 0 0 (AC V)) (F0 m 2 ls [])) {w : Wd} {x1 : Int32} {x2 : Int32} {H : Heap} {locs : List Loc} {ls : Array Slot} (h : bX3_ruleFor_84 N d  rec2 w x1 x2 = some z) (hH : wH V (cC V) (AC V) s w H locs) (hl : lv_has ls 4 [(0, .ref (V.2.2 3)), (1, .int x1), (2, .int x2)]) : W p l e (rmD (d + 1)) s m args below meth c H locs 0 0 (MQ below (CtI V (cC V) (AC V) z) args s 0 0 (AC V)) (F0 m 84 ls []) := by
  unfold bX3_ruleFor_84 at h
  obtain ⟨hx, hb, hml, hown, hg, hrt, hlk, hK⟩ := id X
  obtain ⟨x2_3, ex2_3, h⟩ := c_nm_ex h
  refine lv_iinc (pc := 84) (v := x2_3) (lv' := [(2, .int x2_3), (0, .ref (V.2.2 3)), (1, .int x1)]) hx hb dX3_ruleFor_84 hl (k := 2) rfl (by rw [← ex2_3]; rfl) (by decide) rfl (fun ls hl => ?_)
  refine lv_goto (pc := 87) (tgt := 2) hx hb dX3_ruleFor_87 (by decide) ?_
  exact hr2 _ _ _ _ _ _ h hH (lv_sub hl [1, 2, 0] rfl)
def bX3_ruleFor_2 (N d : Nat)  (rec2 : Wd → Int32 → Int32 → Option (Wd × Int32)) (w : Wd) (x1 : Int32) (x2 : Int32) : Option (Wd × Int32) :=
  if (sI w 2) ≤ x2 then (
    some (w, -1)
  ) else (
    c_ld w 23 16 x2 fun v1 =>
    c_ld w 25 16 x2 fun v2 =>
    if v2 = 0 then (
      bX3_ruleFor_84 N d  rec2 w x1 x2
    ) else (
      if x2 = (sI w 5) then (
        bX3_ruleFor_84 N d  rec2 w x1 x2
      ) else (
        c_ld w 14 1000 v1 fun v4 =>
        c_ld w 14 1000 x1 fun v5 =>
        if v4 = v5 then (
          c_cv (eJ7_fill_53178_r29 N d w (-1)) fun w6 =>
          c_cl (eX3_fits N d w6 v1 x1 1) fun w7 v8 =>
          if v8 = 0 then (
            bX3_ruleFor_84 N d  rec2 w7 x1 x2
          ) else (
            some (w7, x2)
          )
        ) else (
          bX3_ruleFor_84 N d  rec2 w x1 x2
        )
      )
    )
  )
set_option maxHeartbeats 4000000 in
theorem kX3_ruleFor_2 {V : Ev} {p : Program} {l : Launch} {e : Env} {N d : Nat} {s : State} {m : MethodId} {args : Array Value} {below : List Frame} {meth : Method} {c : Code} {z : Wd × Int32} (X : CX V p s m args meth c cX3_ruleFor 4 RX3 (some .int))   {rec2 : Wd → Int32 → Int32 → Option (Wd × Int32)} (hr2 : ∀ (w : Wd) (x1 : Int32) (x2 : Int32) (H : Heap) (locs : List Loc) (ls : Array Slot), rec2 w x1 x2 = some z → wH V (cC V) (AC V) s w H locs → lv_has ls 4 [(0, .ref (V.2.2 3)), (1, .int x1), (2, .int x2)] → W p l e (rmD (d + 1)) s m args below meth c H locs 0 0 (MQ below (CtI V (cC V) (AC V) z) args s 0 0 (AC V)) (F0 m 2 ls [])) {w : Wd} {x1 : Int32} {x2 : Int32} {H : Heap} {locs : List Loc} {ls : Array Slot} (h : bX3_ruleFor_2 N d  rec2 w x1 x2 = some z) (hH : wH V (cC V) (AC V) s w H locs) (hl : lv_has ls 4 [(0, .ref (V.2.2 3)), (1, .int x1), (2, .int x2)]) : W p l e (rmD (d + 1)) s m args below meth c H locs 0 0 (MQ below (CtI V (cC V) (AC V) z) args s 0 0 (AC V)) (F0 m 2 ls []) := by
  unfold bX3_ruleFor_2 at h
  obtain ⟨hx, hb, hml, hown, hg, hrt, hlk, hK⟩ := id X
  refine lv_iload_n (pc := 2) hx hb dX3_ruleFor_2 rfl (lv_at hl 2 rfl) ?_
  refine lv_aload_n (pc := 3) hx hb dX3_ruleFor_3 rfl (lv_at hl 0 rfl) ?_
  refine gC_X3_32_3 (pc := 4) X hH dX3_ruleFor_4 ?_
  refine gC_X3_85_2 (pc := 7) X hH dX3_ruleFor_7 ?_
  refine b_icmp_ge (pc := 10) (tgt := 90) hx hb h dX3_ruleFor_10 (by decide) (fun h => ?_) (fun h => ?_)
  · refine lv_iconst (pc := 90) (v := -1) hx hb dX3_ruleFor_90 (by decide) ?_
    exact r_iret (pc := 91) X hH h dX3_ruleFor_91
  · refine lv_aload_n (pc := 13) hx hb dX3_ruleFor_13 rfl (lv_at hl 0 rfl) ?_
    refine gC_X3_32_3 (pc := 14) X hH dX3_ruleFor_14 ?_
    refine gC_X3_88_2 (pc := 17) X hH dX3_ruleFor_17 ?_
    refine lv_iload_n (pc := 20) hx hb dX3_ruleFor_20 rfl (lv_at hl 2 rfl) ?_
    refine r_ld (pc := 21) X (heC_23 V w) hH h dX3_ruleFor_21 (fun v1 h => ?_)
    refine lv_istore_n (pc := 22) (lv' := [(3, .int v1), (0, .ref (V.2.2 3)), (1, .int x1), (2, .int x2)]) hx hb dX3_ruleFor_22 rfl hl (by decide) rfl (fun ls hl => ?_)
    refine lv_aload_n (pc := 23) hx hb dX3_ruleFor_23 rfl (lv_at hl 1 rfl) ?_
    refine gC_X3_32_3 (pc := 24) X hH dX3_ruleFor_24 ?_
    refine gC_X3_91_2 (pc := 27) X hH dX3_ruleFor_27 ?_
    refine lv_iload_n (pc := 30) hx hb dX3_ruleFor_30 rfl (lv_at hl 3 rfl) ?_
    refine r_lz (pc := 31) X (heC_25 V w) hH h dX3_ruleFor_31 (fun v2 h => ?_)
    refine b_if_eq (pc := 32) (tgt := 84) hx hb h dX3_ruleFor_32 (by decide) (fun h => ?_) (fun h => ?_)
    · exact kX3_ruleFor_84 X  hr2 h hH (lv_sub hl [1, 2, 3] rfl)
    · refine lv_iload_n (pc := 35) hx hb dX3_ruleFor_35 rfl (lv_at hl 3 rfl) ?_
      refine lv_aload_n (pc := 36) hx hb dX3_ruleFor_36 rfl (lv_at hl 1 rfl) ?_
      refine gC_X3_40_3 (pc := 37) X hH dX3_ruleFor_37 ?_
      refine b_icmp_eq (pc := 40) (tgt := 84) hx hb h dX3_ruleFor_40 (by decide) (fun h => ?_) (fun h => ?_)
      · exact kX3_ruleFor_84 X  hr2 h hH (lv_sub hl [1, 2, 3] rfl)
      · refine lv_aload_n (pc := 43) hx hb dX3_ruleFor_43 rfl (lv_at hl 1 rfl) ?_
        refine gC_X3_28_3 (pc := 44) X hH dX3_ruleFor_44 ?_
        refine gC_X3_95_1 (pc := 47) X hH dX3_ruleFor_47 ?_
        refine lv_iload_n (pc := 50) hx hb dX3_ruleFor_50 rfl (lv_at hl 0 rfl) ?_
        refine r_ld (pc := 51) X (heC_14 V w) hH h dX3_ruleFor_51 (fun v4 h => ?_)
        refine lv_aload_n (pc := 52) hx hb dX3_ruleFor_52 rfl (lv_at hl 1 rfl) ?_
        refine gC_X3_28_3 (pc := 53) X hH dX3_ruleFor_53 ?_
        refine gC_X3_95_1 (pc := 56) X hH dX3_ruleFor_56 ?_
        refine lv_iload_n (pc := 59) hx hb dX3_ruleFor_59 rfl (lv_at hl 2 rfl) ?_
        refine r_ld (pc := 60) X (heC_14 V w) hH h dX3_ruleFor_60 (fun v5 h => ?_)
        refine b_icmp_ne (pc := 61) (tgt := 84) hx hb h dX3_ruleFor_61 (by decide) (fun h => ?_) (fun h => ?_)
        · exact kX3_ruleFor_84 X  hr2 h hH (lv_sub hl [1, 2, 3] rfl)
        · refine lv_aload_n (pc := 64) hx hb dX3_ruleFor_64 rfl (lv_at hl 1 rfl) ?_
          refine gC_X3_25_3 (pc := 65) X hH dX3_ruleFor_65 ?_
          refine lv_iconst (pc := 68) (v := -1) hx hb dX3_ruleFor_68 (by decide) ?_
          refine r_csV (pc := 69) (As := [.ref (V.2.2 28), .int (-1)]) (rest := []) X hH (fun x hx => mJ7_fill_53178_r29 hx) cs_X3_98 rfl rfl (Nat.le_of_ble_eq_true rfl) hl.1 h dX3_ruleFor_69 (fun w6 H locs h hH => ?_)
          refine lv_aload_n (pc := 72) hx hb dX3_ruleFor_72 rfl (lv_at hl 1 rfl) ?_
          refine lv_iload_n (pc := 73) hx hb dX3_ruleFor_73 rfl (lv_at hl 0 rfl) ?_
          refine lv_iload_n (pc := 74) hx hb dX3_ruleFor_74 rfl (lv_at hl 2 rfl) ?_
          refine lv_iconst (pc := 75) (v := 1) hx hb dX3_ruleFor_75 (by decide) ?_
          refine r_cvI (pc := 76) (As := [.int v1, .int x1, .int 1]) (rest := []) X hH (fun x hx => mX3_fits hx) cw_X3_104 (heC_3 V w6) rfl rfl rfl (Nat.le_of_ble_eq_true rfl) hl.1 h dX3_ruleFor_76 (fun w7 v8 H locs h hH => ?_)
          refine b_if_eq (pc := 79) (tgt := 84) hx hb h dX3_ruleFor_79 (by decide) (fun h => ?_) (fun h => ?_)
          · exact kX3_ruleFor_84 X  hr2 h hH (lv_sub hl [1, 2, 3] rfl)
          · refine lv_iload_n (pc := 82) hx hb dX3_ruleFor_82 rfl (lv_at hl 3 rfl) ?_
            exact r_iret (pc := 83) X hH h dX3_ruleFor_83
def fX3_ruleFor_2 (N d : Nat)   : Nat → Wd → Int32 → Int32 → Option (Wd × Int32)
  | 0 => fun _ _ _ => none
  | n + 1 => fun w x1 x2 => bX3_ruleFor_2 N d   (fX3_ruleFor_2 N d   n) w x1 x2
theorem lX3_ruleFor_2 {V : Ev} {p : Program} {l : Launch} {e : Env} {N d : Nat} {s : State} {m : MethodId} {args : Array Value} {below : List Frame} {meth : Method} {c : Code} {z : Wd × Int32} (X : CX V p s m args meth c cX3_ruleFor 4 RX3 (some .int))    (n : Nat) {w : Wd} {x1 : Int32} {x2 : Int32} {H : Heap} {locs : List Loc} {ls : Array Slot} (h : fX3_ruleFor_2 N d   n w x1 x2 = some z) (hH : wH V (cC V) (AC V) s w H locs) (hl : lv_has ls 4 [(0, .ref (V.2.2 3)), (1, .int x1), (2, .int x2)]) : W p l e (rmD (d + 1)) s m args below meth c H locs 0 0 (MQ below (CtI V (cC V) (AC V) z) args s 0 0 (AC V)) (F0 m 2 ls []) := by
  induction n generalizing w x1 x2 H locs ls with
  | zero => exact c_none h
  | succ n ih => exact kX3_ruleFor_2 (N := N) X  (fun _ _ _ _ _ _ h hH hl => ih h hH hl) h hH hl
def bX3_ruleFor_0 (N d : Nat)   (w : Wd) (x1 : Int32) : Option (Wd × Int32) :=
  fX3_ruleFor_2 N d   N w x1 ((0 : Int32))
set_option maxHeartbeats 4000000 in
theorem kX3_ruleFor_0 {V : Ev} {p : Program} {l : Launch} {e : Env} {N d : Nat} {s : State} {m : MethodId} {args : Array Value} {below : List Frame} {meth : Method} {c : Code} {z : Wd × Int32} (X : CX V p s m args meth c cX3_ruleFor 4 RX3 (some .int))    {w : Wd} {x1 : Int32} {H : Heap} {locs : List Loc} {ls : Array Slot} (h : bX3_ruleFor_0 N d   w x1 = some z) (hH : wH V (cC V) (AC V) s w H locs) (hl : lv_has ls 4 [(0, .ref (V.2.2 3)), (1, .int x1)]) : W p l e (rmD (d + 1)) s m args below meth c H locs 0 0 (MQ below (CtI V (cC V) (AC V) z) args s 0 0 (AC V)) (F0 m 0 ls []) := by
  unfold bX3_ruleFor_0 at h
  obtain ⟨hx, hb, hml, hown, hg, hrt, hlk, hK⟩ := id X
  refine lv_iconst (pc := 0) (v := 0) hx hb dX3_ruleFor_0 (by decide) ?_
  refine lv_istore_n (pc := 1) (lv' := [(2, .int ((0 : Int32))), (0, .ref (V.2.2 3)), (1, .int x1)]) hx hb dX3_ruleFor_1 rfl hl (by decide) rfl (fun ls hl => ?_)
  exact lX3_ruleFor_2 X   N h hH (lv_sub hl [1, 2, 0] rfl)
def eX3_ruleFor (N : Nat) : Nat → Wd → Int32 → Option (Wd × Int32)
  | 0 => fun _ _ => none
  | d + 1 => fun w x1 => bX3_ruleFor_0 N d  w x1
set_option maxHeartbeats 4000000 in
set_option maxRecDepth 20000 in
theorem mX3_ruleFor {l : Launch} {V : Ev} {N d : Nat} {w : Wd} {x1 : Int32} {z : Wd × Int32} (h : eX3_ruleFor N d w x1 = some z) : MetI l V (cC V) (AC V) yX3_ruleFor cX3_ruleFor 4 (some .int) d [.ref (V.2.2 3), .int x1] w z := by
  cases d with
  | zero => exact c_none h
  | succ d =>
    refine Met.ofW (cc := cX3_ruleFor) (maxL := 4) (ret := (some .int)) (by decide) rfl ?_
    intro p e s m args below meth c s₁ B hml hv
    obtain ⟨rfl, hP, hD, hK⟩ := hv
    have hts := atoms_spec (ws := .code yX3_ruleFor cX3_ruleFor 4 (some .int) :: gG) B.pre
    have X : CX V p s m ([.ref (V.2.2 3), .int x1] : List Value).toArray meth c cX3_ruleFor 4 RX3 (some .int) := ⟨B.exec, B.bytes, hml, findClass_of_methodNamed B.named, fun w hw => hts w (List.mem_cons_of_mem _ hw), B.returns, B.notSynchronized, hK⟩
    have hl := lv_entry ([.ref (V.2.2 3), .int x1] : List Value) (n := 4) (Nat.le_of_ble_eq_true rfl)
    rw [lg_entry_eq]
    generalize (lg_sl ([.ref (V.2.2 3), .int x1] : List Value) ++ List.replicate (4 - (lg_sl ([.ref (V.2.2 3), .int x1] : List Value)).length) Slot.unset).toArray = ls at hl ⊢
    have hl : lv_has ls 4 [(0, .ref (V.2.2 3)), (1, .int x1)] := hl
    exact kX3_ruleFor_0 (N := N) X  h ⟨hP, hD, va_S.rf⟩ hl
theorem dX3_enter_0 : decode cX3_enter 0 = .ok (.aload_n 0, 1) := by decide +kernel
theorem dX3_enter_1 : decode cX3_enter 1 = .ok (.getfield 61, 3) := by decide +kernel
theorem dX3_enter_4 : decode cX3_enter 4 = .ok (.sipush 1000, 3) := by decide +kernel
theorem dX3_enter_7 : decode cX3_enter 7 = .ok (.if_icmp .lt 5, 3) := by decide +kernel
theorem dX3_enter_10 : decode cX3_enter 10 = .ok (.iconst (-1), 1) := by decide +kernel
theorem dX3_enter_11 : decode cX3_enter 11 = .ok (.ireturn, 1) := by decide +kernel
theorem dX3_enter_12 : decode cX3_enter 12 = .ok (.aload_n 0, 1) := by decide +kernel
theorem dX3_enter_13 : decode cX3_enter 13 = .ok (.getfield 22, 3) := by decide +kernel
theorem dX3_enter_16 : decode cX3_enter 16 = .ok (.aload_n 0, 1) := by decide +kernel
theorem dX3_enter_17 : decode cX3_enter 17 = .ok (.getfield 61, 3) := by decide +kernel
theorem dX3_enter_20 : decode cX3_enter 20 = .ok (.iload_n 1, 1) := by decide +kernel
theorem dX3_enter_21 : decode cX3_enter 21 = .ok (.iastore, 1) := by decide +kernel
theorem dX3_enter_22 : decode cX3_enter 22 = .ok (.aload_n 0, 1) := by decide +kernel
theorem dX3_enter_23 : decode cX3_enter 23 = .ok (.dup, 1) := by decide +kernel
theorem dX3_enter_24 : decode cX3_enter 24 = .ok (.getfield 61, 3) := by decide +kernel
theorem dX3_enter_27 : decode cX3_enter 27 = .ok (.iconst 1, 1) := by decide +kernel
theorem dX3_enter_28 : decode cX3_enter 28 = .ok (.iadd, 1) := by decide +kernel
theorem dX3_enter_29 : decode cX3_enter 29 = .ok (.putfield 61, 3) := by decide +kernel
theorem dX3_enter_32 : decode cX3_enter 32 = .ok (.iload_n 2, 1) := by decide +kernel
theorem dX3_enter_33 : decode cX3_enter 33 = .ok (.ifCond .ne 11, 3) := by decide +kernel
theorem dX3_enter_36 : decode cX3_enter 36 = .ok (.aload_n 0, 1) := by decide +kernel
theorem dX3_enter_37 : decode cX3_enter 37 = .ok (.iload_n 1, 1) := by decide +kernel
theorem dX3_enter_38 : decode cX3_enter 38 = .ok (.invokevirtual 82, 3) := by decide +kernel
theorem dX3_enter_41 : decode cX3_enter 41 = .ok (.goto 4, 3) := by decide +kernel
theorem dX3_enter_44 : decode cX3_enter 44 = .ok (.iconst (-1), 1) := by decide +kernel
theorem dX3_enter_45 : decode cX3_enter 45 = .ok (.ireturn, 1) := by decide +kernel
def bX3_enter_45 (N d : Nat)   (w : Wd) (y0 : Int32) : Option (Wd × Int32) :=
  some (w, y0)
set_option maxHeartbeats 4000000 in
theorem kX3_enter_45 {V : Ev} {p : Program} {l : Launch} {e : Env} {N d : Nat} {s : State} {m : MethodId} {args : Array Value} {below : List Frame} {meth : Method} {c : Code} {z : Wd × Int32} (X : CX V p s m args meth c cX3_enter 3 RX3 (some .int))    {w : Wd} {y0 : Int32} {H : Heap} {locs : List Loc} {ls : Array Slot} (h : bX3_enter_45 N d   w y0 = some z) (hH : wH V (cC V) (AC V) s w H locs) (hl : lv_has ls 3 []) : W p l e (rmD (d + 1)) s m args below meth c H locs 0 0 (MQ below (CtI V (cC V) (AC V) z) args s 0 0 (AC V)) (F0 m 45 ls [.int y0]) := by
  unfold bX3_enter_45 at h
  obtain ⟨hx, hb, hml, hown, hg, hrt, hlk, hK⟩ := id X
  exact r_iret (pc := 45) X hH h dX3_enter_45
def bX3_enter_0 (N d : Nat)   (w : Wd) (x1 : Int32) (x2 : Int32) : Option (Wd × Int32) :=
  if (sI w 3) < 1000 then (
    c_st w 27 1000 (sI w 3) x1 fun w1 =>
    c_pi w1 3 ((sI w1 3) + 1) fun w2 =>
    if x2 = 0 then (
      c_cl (eX3_ruleFor N d w2 x1) fun w3 v4 =>
      bX3_enter_45 N d   w3 v4
    ) else (
      bX3_enter_45 N d   w2 (-1)
    )
  ) else (
    some (w, -1)
  )
set_option maxHeartbeats 4000000 in
theorem kX3_enter_0 {V : Ev} {p : Program} {l : Launch} {e : Env} {N d : Nat} {s : State} {m : MethodId} {args : Array Value} {below : List Frame} {meth : Method} {c : Code} {z : Wd × Int32} (X : CX V p s m args meth c cX3_enter 3 RX3 (some .int))    {w : Wd} {x1 : Int32} {x2 : Int32} {H : Heap} {locs : List Loc} {ls : Array Slot} (h : bX3_enter_0 N d   w x1 x2 = some z) (hH : wH V (cC V) (AC V) s w H locs) (hl : lv_has ls 3 [(0, .ref (V.2.2 3)), (1, .int x1), (2, .int x2)]) : W p l e (rmD (d + 1)) s m args below meth c H locs 0 0 (MQ below (CtI V (cC V) (AC V) z) args s 0 0 (AC V)) (F0 m 0 ls []) := by
  unfold bX3_enter_0 at h
  obtain ⟨hx, hb, hml, hown, hg, hrt, hlk, hK⟩ := id X
  refine lv_aload_n (pc := 0) hx hb dX3_enter_0 rfl (lv_at hl 0 rfl) ?_
  refine gC_X3_61_3 (pc := 1) X hH dX3_enter_1 ?_
  refine lv_sipush (pc := 4) (v := 1000) hx hb dX3_enter_4 (by decide) ?_
  refine b_icmp_lt (pc := 7) (tgt := 12) hx hb h dX3_enter_7 (by decide) (fun h => ?_) (fun h => ?_)
  · refine lv_aload_n (pc := 12) hx hb dX3_enter_12 rfl (lv_at hl 0 rfl) ?_
    refine gC_X3_22_3 (pc := 13) X hH dX3_enter_13 ?_
    refine lv_aload_n (pc := 16) hx hb dX3_enter_16 rfl (lv_at hl 0 rfl) ?_
    refine gC_X3_61_3 (pc := 17) X hH dX3_enter_17 ?_
    refine lv_iload_n (pc := 20) hx hb dX3_enter_20 rfl (lv_at hl 1 rfl) ?_
    refine r_st (pc := 21) X (heC_27 V w) (hsC_27 V w) hH h dX3_enter_21 (fun w1 H locs h hH => ?_)
    refine lv_aload_n (pc := 22) hx hb dX3_enter_22 rfl (lv_at hl 0 rfl) ?_
    refine lv_dup (pc := 23) hx hb dX3_enter_23 rfl ?_
    refine gC_X3_61_3 (pc := 24) X hH dX3_enter_24 ?_
    refine lv_iconst (pc := 27) (v := 1) hx hb dX3_enter_27 (by decide) ?_
    refine lv_iadd (pc := 28) hx hb dX3_enter_28 ?_
    refine pC_X3_61_3 (pc := 29) X hH h dX3_enter_29 (fun w2 H locs h hH => ?_)
    refine lv_iload_n (pc := 32) hx hb dX3_enter_32 rfl (lv_at hl 2 rfl) ?_
    refine b_if_ne (pc := 33) (tgt := 44) hx hb h dX3_enter_33 (by decide) (fun h => ?_) (fun h => ?_)
    · refine lv_iconst (pc := 44) (v := -1) hx hb dX3_enter_44 (by decide) ?_
      exact kX3_enter_45 X   h hH (lv_sub hl [] rfl)
    · refine lv_aload_n (pc := 36) hx hb dX3_enter_36 rfl (lv_at hl 0 rfl) ?_
      refine lv_iload_n (pc := 37) hx hb dX3_enter_37 rfl (lv_at hl 1 rfl) ?_
      refine r_cvI (pc := 38) (As := [.int x1]) (rest := []) X hH (fun x hx => mX3_ruleFor hx) cw_X3_82 (heC_3 V w2) rfl rfl rfl (Nat.le_of_ble_eq_true rfl) hl.1 h dX3_enter_38 (fun w3 v4 H locs h hH => ?_)
      refine lv_goto (pc := 41) (tgt := 45) hx hb dX3_enter_41 (by decide) ?_
      exact kX3_enter_45 X   h hH (lv_sub hl [] rfl)
  · refine lv_iconst (pc := 10) (v := -1) hx hb dX3_enter_10 (by decide) ?_
    exact r_iret (pc := 11) X hH h dX3_enter_11
def eX3_enter (N : Nat) : Nat → Wd → Int32 → Int32 → Option (Wd × Int32)
  | 0 => fun _ _ _ => none
  | d + 1 => fun w x1 x2 => bX3_enter_0 N d  w x1 x2
set_option maxHeartbeats 4000000 in
set_option maxRecDepth 20000 in
theorem mX3_enter {l : Launch} {V : Ev} {N d : Nat} {w : Wd} {x1 : Int32} {x2 : Int32} {z : Wd × Int32} (h : eX3_enter N d w x1 x2 = some z) : MetI l V (cC V) (AC V) yX3_enter cX3_enter 3 (some .int) d [.ref (V.2.2 3), .int x1, .int x2] w z := by
  cases d with
  | zero => exact c_none h
  | succ d =>
    refine Met.ofW (cc := cX3_enter) (maxL := 3) (ret := (some .int)) (by decide) rfl ?_
    intro p e s m args below meth c s₁ B hml hv
    obtain ⟨rfl, hP, hD, hK⟩ := hv
    have hts := atoms_spec (ws := .code yX3_enter cX3_enter 3 (some .int) :: gG) B.pre
    have X : CX V p s m ([.ref (V.2.2 3), .int x1, .int x2] : List Value).toArray meth c cX3_enter 3 RX3 (some .int) := ⟨B.exec, B.bytes, hml, findClass_of_methodNamed B.named, fun w hw => hts w (List.mem_cons_of_mem _ hw), B.returns, B.notSynchronized, hK⟩
    have hl := lv_entry ([.ref (V.2.2 3), .int x1, .int x2] : List Value) (n := 3) (Nat.le_of_ble_eq_true rfl)
    rw [lg_entry_eq]
    generalize (lg_sl ([.ref (V.2.2 3), .int x1, .int x2] : List Value) ++ List.replicate (3 - (lg_sl ([.ref (V.2.2 3), .int x1, .int x2] : List Value)).length) Slot.unset).toArray = ls at hl ⊢
    have hl : lv_has ls 3 [(0, .ref (V.2.2 3)), (1, .int x1), (2, .int x2)] := hl
    exact kX3_enter_0 (N := N) X  h ⟨hP, hD, va_S.rf⟩ hl
theorem dX3_nextPart_0 : decode cX3_nextPart 0 = .ok (.aload_n 0, 1) := by decide +kernel
theorem dX3_nextPart_1 : decode cX3_nextPart 1 = .ok (.getfield 28, 3) := by decide +kernel
theorem dX3_nextPart_4 : decode cX3_nextPart 4 = .ok (.getfield 74, 3) := by decide +kernel
theorem dX3_nextPart_7 : decode cX3_nextPart 7 = .ok (.iload_n 1, 1) := by decide +kernel
theorem dX3_nextPart_8 : decode cX3_nextPart 8 = .ok (.iaload, 1) := by decide +kernel
theorem dX3_nextPart_9 : decode cX3_nextPart 9 = .ok (.istore_n 2, 1) := by decide +kernel
theorem dX3_nextPart_10 : decode cX3_nextPart 10 = .ok (.iload_n 2, 1) := by decide +kernel
theorem dX3_nextPart_11 : decode cX3_nextPart 11 = .ok (.iconst (-1), 1) := by decide +kernel
theorem dX3_nextPart_12 : decode cX3_nextPart 12 = .ok (.if_icmp .eq 18, 3) := by decide +kernel
theorem dX3_nextPart_15 : decode cX3_nextPart 15 = .ok (.aload_n 0, 1) := by decide +kernel
theorem dX3_nextPart_16 : decode cX3_nextPart 16 = .ok (.getfield 18, 3) := by decide +kernel
theorem dX3_nextPart_19 : decode cX3_nextPart 19 = .ok (.iload_n 2, 1) := by decide +kernel
theorem dX3_nextPart_20 : decode cX3_nextPart 20 = .ok (.iaload, 1) := by decide +kernel
theorem dX3_nextPart_21 : decode cX3_nextPart 21 = .ok (.aload_n 0, 1) := by decide +kernel
theorem dX3_nextPart_22 : decode cX3_nextPart 22 = .ok (.getfield 36, 3) := by decide +kernel
theorem dX3_nextPart_25 : decode cX3_nextPart 25 = .ok (.if_icmp .eq 5, 3) := by decide +kernel
theorem dX3_nextPart_28 : decode cX3_nextPart 28 = .ok (.iload_n 2, 1) := by decide +kernel
theorem dX3_nextPart_29 : decode cX3_nextPart 29 = .ok (.ireturn, 1) := by decide +kernel
theorem dX3_nextPart_30 : decode cX3_nextPart 30 = .ok (.aload_n 0, 1) := by decide +kernel
theorem dX3_nextPart_31 : decode cX3_nextPart 31 = .ok (.getfield 28, 3) := by decide +kernel
theorem dX3_nextPart_34 : decode cX3_nextPart 34 = .ok (.getfield 79, 3) := by decide +kernel
theorem dX3_nextPart_37 : decode cX3_nextPart 37 = .ok (.iload_n 1, 1) := by decide +kernel
theorem dX3_nextPart_38 : decode cX3_nextPart 38 = .ok (.iaload, 1) := by decide +kernel
theorem dX3_nextPart_39 : decode cX3_nextPart 39 = .ok (.istore_n 3, 1) := by decide +kernel
theorem dX3_nextPart_40 : decode cX3_nextPart 40 = .ok (.iload_n 3, 1) := by decide +kernel
theorem dX3_nextPart_41 : decode cX3_nextPart 41 = .ok (.iconst (-1), 1) := by decide +kernel
theorem dX3_nextPart_42 : decode cX3_nextPart 42 = .ok (.if_icmp .eq 20, 3) := by decide +kernel
theorem dX3_nextPart_45 : decode cX3_nextPart 45 = .ok (.aload_n 0, 1) := by decide +kernel
theorem dX3_nextPart_46 : decode cX3_nextPart 46 = .ok (.getfield 18, 3) := by decide +kernel
theorem dX3_nextPart_49 : decode cX3_nextPart 49 = .ok (.iload_n 3, 1) := by decide +kernel
theorem dX3_nextPart_50 : decode cX3_nextPart 50 = .ok (.iaload, 1) := by decide +kernel
theorem dX3_nextPart_51 : decode cX3_nextPart 51 = .ok (.aload_n 0, 1) := by decide +kernel
theorem dX3_nextPart_52 : decode cX3_nextPart 52 = .ok (.getfield 36, 3) := by decide +kernel
theorem dX3_nextPart_55 : decode cX3_nextPart 55 = .ok (.if_icmp .eq 7, 3) := by decide +kernel
theorem dX3_nextPart_58 : decode cX3_nextPart 58 = .ok (.iload_n 3, 1) := by decide +kernel
theorem dX3_nextPart_59 : decode cX3_nextPart 59 = .ok (.goto 4, 3) := by decide +kernel
theorem dX3_nextPart_62 : decode cX3_nextPart 62 = .ok (.iconst (-1), 1) := by decide +kernel
theorem dX3_nextPart_63 : decode cX3_nextPart 63 = .ok (.ireturn, 1) := by decide +kernel
def bX3_nextPart_63 (N d : Nat)   (w : Wd) (y0 : Int32) : Option (Wd × Int32) :=
  some (w, y0)
set_option maxHeartbeats 4000000 in
theorem kX3_nextPart_63 {V : Ev} {p : Program} {l : Launch} {e : Env} {N d : Nat} {s : State} {m : MethodId} {args : Array Value} {below : List Frame} {meth : Method} {c : Code} {z : Wd × Int32} (X : CX V p s m args meth c cX3_nextPart 4 RX3 (some .int))    {w : Wd} {y0 : Int32} {H : Heap} {locs : List Loc} {ls : Array Slot} (h : bX3_nextPart_63 N d   w y0 = some z) (hH : wH V (cC V) (AC V) s w H locs) (hl : lv_has ls 4 []) : W p l e (rmD (d + 1)) s m args below meth c H locs 0 0 (MQ below (CtI V (cC V) (AC V) z) args s 0 0 (AC V)) (F0 m 63 ls [.int y0]) := by
  unfold bX3_nextPart_63 at h
  obtain ⟨hx, hb, hml, hown, hg, hrt, hlk, hK⟩ := id X
  exact r_iret (pc := 63) X hH h dX3_nextPart_63
def bX3_nextPart_62 (N d : Nat)   (w : Wd)  : Option (Wd × Int32) :=
  bX3_nextPart_63 N d   w (-1)
set_option maxHeartbeats 4000000 in
theorem kX3_nextPart_62 {V : Ev} {p : Program} {l : Launch} {e : Env} {N d : Nat} {s : State} {m : MethodId} {args : Array Value} {below : List Frame} {meth : Method} {c : Code} {z : Wd × Int32} (X : CX V p s m args meth c cX3_nextPart 4 RX3 (some .int))    {w : Wd}  {H : Heap} {locs : List Loc} {ls : Array Slot} (h : bX3_nextPart_62 N d   w  = some z) (hH : wH V (cC V) (AC V) s w H locs) (hl : lv_has ls 4 []) : W p l e (rmD (d + 1)) s m args below meth c H locs 0 0 (MQ below (CtI V (cC V) (AC V) z) args s 0 0 (AC V)) (F0 m 62 ls []) := by
  unfold bX3_nextPart_62 at h
  obtain ⟨hx, hb, hml, hown, hg, hrt, hlk, hK⟩ := id X
  refine lv_iconst (pc := 62) (v := -1) hx hb dX3_nextPart_62 (by decide) ?_
  exact kX3_nextPart_63 X   h hH (lv_sub hl [] rfl)
def bX3_nextPart_30 (N d : Nat)   (w : Wd) (x1 : Int32) : Option (Wd × Int32) :=
  c_ld w 16 1000 x1 fun v2 =>
  if v2 = (-1) then (
    bX3_nextPart_62 N d   w 
  ) else (
    c_ld w 26 1000 v2 fun v3 =>
    if v3 = (sI w 4) then (
      bX3_nextPart_62 N d   w 
    ) else (
      bX3_nextPart_63 N d   w v2
    )
  )
set_option maxHeartbeats 4000000 in
theorem kX3_nextPart_30 {V : Ev} {p : Program} {l : Launch} {e : Env} {N d : Nat} {s : State} {m : MethodId} {args : Array Value} {below : List Frame} {meth : Method} {c : Code} {z : Wd × Int32} (X : CX V p s m args meth c cX3_nextPart 4 RX3 (some .int))    {w : Wd} {x1 : Int32} {H : Heap} {locs : List Loc} {ls : Array Slot} (h : bX3_nextPart_30 N d   w x1 = some z) (hH : wH V (cC V) (AC V) s w H locs) (hl : lv_has ls 4 [(0, .ref (V.2.2 3)), (1, .int x1)]) : W p l e (rmD (d + 1)) s m args below meth c H locs 0 0 (MQ below (CtI V (cC V) (AC V) z) args s 0 0 (AC V)) (F0 m 30 ls []) := by
  unfold bX3_nextPart_30 at h
  obtain ⟨hx, hb, hml, hown, hg, hrt, hlk, hK⟩ := id X
  refine lv_aload_n (pc := 30) hx hb dX3_nextPart_30 rfl (lv_at hl 0 rfl) ?_
  refine gC_X3_28_3 (pc := 31) X hH dX3_nextPart_31 ?_
  refine gC_X3_79_1 (pc := 34) X hH dX3_nextPart_34 ?_
  refine lv_iload_n (pc := 37) hx hb dX3_nextPart_37 rfl (lv_at hl 1 rfl) ?_
  refine r_ld (pc := 38) X (heC_16 V w) hH h dX3_nextPart_38 (fun v2 h => ?_)
  refine lv_istore_n (pc := 39) (lv' := [(3, .int v2), (0, .ref (V.2.2 3)), (1, .int x1)]) hx hb dX3_nextPart_39 rfl hl (by decide) rfl (fun ls hl => ?_)
  refine lv_iload_n (pc := 40) hx hb dX3_nextPart_40 rfl (lv_at hl 0 rfl) ?_
  refine lv_iconst (pc := 41) (v := -1) hx hb dX3_nextPart_41 (by decide) ?_
  refine b_icmp_eq (pc := 42) (tgt := 62) hx hb h dX3_nextPart_42 (by decide) (fun h => ?_) (fun h => ?_)
  · exact kX3_nextPart_62 X   h hH (lv_sub hl [] rfl)
  · refine lv_aload_n (pc := 45) hx hb dX3_nextPart_45 rfl (lv_at hl 1 rfl) ?_
    refine gC_X3_18_3 (pc := 46) X hH dX3_nextPart_46 ?_
    refine lv_iload_n (pc := 49) hx hb dX3_nextPart_49 rfl (lv_at hl 0 rfl) ?_
    refine r_ld (pc := 50) X (heC_26 V w) hH h dX3_nextPart_50 (fun v3 h => ?_)
    refine lv_aload_n (pc := 51) hx hb dX3_nextPart_51 rfl (lv_at hl 1 rfl) ?_
    refine gC_X3_36_3 (pc := 52) X hH dX3_nextPart_52 ?_
    refine b_icmp_eq (pc := 55) (tgt := 62) hx hb h dX3_nextPart_55 (by decide) (fun h => ?_) (fun h => ?_)
    · exact kX3_nextPart_62 X   h hH (lv_sub hl [] rfl)
    · refine lv_iload_n (pc := 58) hx hb dX3_nextPart_58 rfl (lv_at hl 0 rfl) ?_
      refine lv_goto (pc := 59) (tgt := 63) hx hb dX3_nextPart_59 (by decide) ?_
      exact kX3_nextPart_63 X   h hH (lv_sub hl [] rfl)
def bX3_nextPart_0 (N d : Nat)   (w : Wd) (x1 : Int32) : Option (Wd × Int32) :=
  c_ld w 15 1000 x1 fun v1 =>
  if v1 = (-1) then (
    bX3_nextPart_30 N d   w x1
  ) else (
    c_ld w 26 1000 v1 fun v4 =>
    if v4 = (sI w 4) then (
      bX3_nextPart_30 N d   w x1
    ) else (
      some (w, v1)
    )
  )
set_option maxHeartbeats 4000000 in
theorem kX3_nextPart_0 {V : Ev} {p : Program} {l : Launch} {e : Env} {N d : Nat} {s : State} {m : MethodId} {args : Array Value} {below : List Frame} {meth : Method} {c : Code} {z : Wd × Int32} (X : CX V p s m args meth c cX3_nextPart 4 RX3 (some .int))    {w : Wd} {x1 : Int32} {H : Heap} {locs : List Loc} {ls : Array Slot} (h : bX3_nextPart_0 N d   w x1 = some z) (hH : wH V (cC V) (AC V) s w H locs) (hl : lv_has ls 4 [(0, .ref (V.2.2 3)), (1, .int x1)]) : W p l e (rmD (d + 1)) s m args below meth c H locs 0 0 (MQ below (CtI V (cC V) (AC V) z) args s 0 0 (AC V)) (F0 m 0 ls []) := by
  unfold bX3_nextPart_0 at h
  obtain ⟨hx, hb, hml, hown, hg, hrt, hlk, hK⟩ := id X
  refine lv_aload_n (pc := 0) hx hb dX3_nextPart_0 rfl (lv_at hl 0 rfl) ?_
  refine gC_X3_28_3 (pc := 1) X hH dX3_nextPart_1 ?_
  refine gC_X3_74_1 (pc := 4) X hH dX3_nextPart_4 ?_
  refine lv_iload_n (pc := 7) hx hb dX3_nextPart_7 rfl (lv_at hl 1 rfl) ?_
  refine r_ld (pc := 8) X (heC_15 V w) hH h dX3_nextPart_8 (fun v1 h => ?_)
  refine lv_istore_n (pc := 9) (lv' := [(2, .int v1), (0, .ref (V.2.2 3)), (1, .int x1)]) hx hb dX3_nextPart_9 rfl hl (by decide) rfl (fun ls hl => ?_)
  refine lv_iload_n (pc := 10) hx hb dX3_nextPart_10 rfl (lv_at hl 0 rfl) ?_
  refine lv_iconst (pc := 11) (v := -1) hx hb dX3_nextPart_11 (by decide) ?_
  refine b_icmp_eq (pc := 12) (tgt := 30) hx hb h dX3_nextPart_12 (by decide) (fun h => ?_) (fun h => ?_)
  · exact kX3_nextPart_30 X   h hH (lv_sub hl [1, 2] rfl)
  · refine lv_aload_n (pc := 15) hx hb dX3_nextPart_15 rfl (lv_at hl 1 rfl) ?_
    refine gC_X3_18_3 (pc := 16) X hH dX3_nextPart_16 ?_
    refine lv_iload_n (pc := 19) hx hb dX3_nextPart_19 rfl (lv_at hl 0 rfl) ?_
    refine r_ld (pc := 20) X (heC_26 V w) hH h dX3_nextPart_20 (fun v4 h => ?_)
    refine lv_aload_n (pc := 21) hx hb dX3_nextPart_21 rfl (lv_at hl 1 rfl) ?_
    refine gC_X3_36_3 (pc := 22) X hH dX3_nextPart_22 ?_
    refine b_icmp_eq (pc := 25) (tgt := 30) hx hb h dX3_nextPart_25 (by decide) (fun h => ?_) (fun h => ?_)
    · exact kX3_nextPart_30 X   h hH (lv_sub hl [1, 2] rfl)
    · refine lv_iload_n (pc := 28) hx hb dX3_nextPart_28 rfl (lv_at hl 0 rfl) ?_
      exact r_iret (pc := 29) X hH h dX3_nextPart_29
def eX3_nextPart (N : Nat) : Nat → Wd → Int32 → Option (Wd × Int32)
  | 0 => fun _ _ => none
  | d + 1 => fun w x1 => bX3_nextPart_0 N d  w x1
set_option maxHeartbeats 4000000 in
set_option maxRecDepth 20000 in
theorem mX3_nextPart {l : Launch} {V : Ev} {N d : Nat} {w : Wd} {x1 : Int32} {z : Wd × Int32} (h : eX3_nextPart N d w x1 = some z) : MetI l V (cC V) (AC V) yX3_nextPart cX3_nextPart 4 (some .int) d [.ref (V.2.2 3), .int x1] w z := by
  cases d with
  | zero => exact c_none h
  | succ d =>
    refine Met.ofW (cc := cX3_nextPart) (maxL := 4) (ret := (some .int)) (by decide) rfl ?_
    intro p e s m args below meth c s₁ B hml hv
    obtain ⟨rfl, hP, hD, hK⟩ := hv
    have hts := atoms_spec (ws := .code yX3_nextPart cX3_nextPart 4 (some .int) :: gG) B.pre
    have X : CX V p s m ([.ref (V.2.2 3), .int x1] : List Value).toArray meth c cX3_nextPart 4 RX3 (some .int) := ⟨B.exec, B.bytes, hml, findClass_of_methodNamed B.named, fun w hw => hts w (List.mem_cons_of_mem _ hw), B.returns, B.notSynchronized, hK⟩
    have hl := lv_entry ([.ref (V.2.2 3), .int x1] : List Value) (n := 4) (Nat.le_of_ble_eq_true rfl)
    rw [lg_entry_eq]
    generalize (lg_sl ([.ref (V.2.2 3), .int x1] : List Value) ++ List.replicate (4 - (lg_sl ([.ref (V.2.2 3), .int x1] : List Value)).length) Slot.unset).toArray = ls at hl ⊢
    have hl : lv_has ls 4 [(0, .ref (V.2.2 3)), (1, .int x1)] := hl
    exact kX3_nextPart_0 (N := N) X  h ⟨hP, hD, va_S.rf⟩ hl
theorem dX3_leave_0 : decode cX3_leave 0 = .ok (.iload_n 2, 1) := by decide +kernel
theorem dX3_leave_1 : decode cX3_leave 1 = .ok (.iconst 1, 1) := by decide +kernel
theorem dX3_leave_2 : decode cX3_leave 2 = .ok (.if_icmp .ne 11, 3) := by decide +kernel
theorem dX3_leave_5 : decode cX3_leave 5 = .ok (.aload_n 0, 1) := by decide +kernel
theorem dX3_leave_6 : decode cX3_leave 6 = .ok (.iload_n 1, 1) := by decide +kernel
theorem dX3_leave_7 : decode cX3_leave 7 = .ok (.invokevirtual 82, 3) := by decide +kernel
theorem dX3_leave_10 : decode cX3_leave 10 = .ok (.goto 4, 3) := by decide +kernel
theorem dX3_leave_13 : decode cX3_leave 13 = .ok (.iconst (-1), 1) := by decide +kernel
theorem dX3_leave_14 : decode cX3_leave 14 = .ok (.istore_n 3, 1) := by decide +kernel
theorem dX3_leave_15 : decode cX3_leave 15 = .ok (.iload_n 3, 1) := by decide +kernel
theorem dX3_leave_16 : decode cX3_leave 16 = .ok (.iconst (-1), 1) := by decide +kernel
theorem dX3_leave_17 : decode cX3_leave 17 = .ok (.if_icmp .ne 23, 3) := by decide +kernel
theorem dX3_leave_20 : decode cX3_leave 20 = .ok (.aload_n 0, 1) := by decide +kernel
theorem dX3_leave_21 : decode cX3_leave 21 = .ok (.getfield 18, 3) := by decide +kernel
theorem dX3_leave_24 : decode cX3_leave 24 = .ok (.iload_n 1, 1) := by decide +kernel
theorem dX3_leave_25 : decode cX3_leave 25 = .ok (.aload_n 0, 1) := by decide +kernel
theorem dX3_leave_26 : decode cX3_leave 26 = .ok (.getfield 36, 3) := by decide +kernel
theorem dX3_leave_29 : decode cX3_leave 29 = .ok (.iastore, 1) := by decide +kernel
theorem dX3_leave_30 : decode cX3_leave 30 = .ok (.aload_n 0, 1) := by decide +kernel
theorem dX3_leave_31 : decode cX3_leave 31 = .ok (.dup, 1) := by decide +kernel
theorem dX3_leave_32 : decode cX3_leave 32 = .ok (.getfield 61, 3) := by decide +kernel
theorem dX3_leave_35 : decode cX3_leave 35 = .ok (.iconst 1, 1) := by decide +kernel
theorem dX3_leave_36 : decode cX3_leave 36 = .ok (.isub, 1) := by decide +kernel
theorem dX3_leave_37 : decode cX3_leave 37 = .ok (.putfield 61, 3) := by decide +kernel
theorem dX3_leave_40 : decode cX3_leave 40 = .ok (.iload_n 3, 1) := by decide +kernel
theorem dX3_leave_41 : decode cX3_leave 41 = .ok (.ireturn, 1) := by decide +kernel
def bX3_leave_40 (N d : Nat)   (w : Wd) (x3 : Int32) : Option (Wd × Int32) :=
  some (w, x3)
set_option maxHeartbeats 4000000 in
theorem kX3_leave_40 {V : Ev} {p : Program} {l : Launch} {e : Env} {N d : Nat} {s : State} {m : MethodId} {args : Array Value} {below : List Frame} {meth : Method} {c : Code} {z : Wd × Int32} (X : CX V p s m args meth c cX3_leave 4 RX3 (some .int))    {w : Wd} {x3 : Int32} {H : Heap} {locs : List Loc} {ls : Array Slot} (h : bX3_leave_40 N d   w x3 = some z) (hH : wH V (cC V) (AC V) s w H locs) (hl : lv_has ls 4 [(3, .int x3)]) : W p l e (rmD (d + 1)) s m args below meth c H locs 0 0 (MQ below (CtI V (cC V) (AC V) z) args s 0 0 (AC V)) (F0 m 40 ls []) := by
  unfold bX3_leave_40 at h
  obtain ⟨hx, hb, hml, hown, hg, hrt, hlk, hK⟩ := id X
  refine lv_iload_n (pc := 40) hx hb dX3_leave_40 rfl (lv_at hl 0 rfl) ?_
  exact r_iret (pc := 41) X hH h dX3_leave_41
def bX3_leave_14 (N d : Nat)   (w : Wd) (x1 : Int32) (y0 : Int32) : Option (Wd × Int32) :=
  if y0 = (-1) then (
    c_st w 26 1000 x1 (sI w 4) fun w1 =>
    c_pi w1 3 ((sI w1 3) - 1) fun w2 =>
    bX3_leave_40 N d   w2 y0
  ) else (
    bX3_leave_40 N d   w y0
  )
set_option maxHeartbeats 4000000 in
theorem kX3_leave_14 {V : Ev} {p : Program} {l : Launch} {e : Env} {N d : Nat} {s : State} {m : MethodId} {args : Array Value} {below : List Frame} {meth : Method} {c : Code} {z : Wd × Int32} (X : CX V p s m args meth c cX3_leave 4 RX3 (some .int))    {w : Wd} {x1 : Int32} {y0 : Int32} {H : Heap} {locs : List Loc} {ls : Array Slot} (h : bX3_leave_14 N d   w x1 y0 = some z) (hH : wH V (cC V) (AC V) s w H locs) (hl : lv_has ls 4 [(0, .ref (V.2.2 3)), (1, .int x1)]) : W p l e (rmD (d + 1)) s m args below meth c H locs 0 0 (MQ below (CtI V (cC V) (AC V) z) args s 0 0 (AC V)) (F0 m 14 ls [.int y0]) := by
  unfold bX3_leave_14 at h
  obtain ⟨hx, hb, hml, hown, hg, hrt, hlk, hK⟩ := id X
  refine lv_istore_n (pc := 14) (lv' := [(3, .int y0), (0, .ref (V.2.2 3)), (1, .int x1)]) hx hb dX3_leave_14 rfl hl (by decide) rfl (fun ls hl => ?_)
  refine lv_iload_n (pc := 15) hx hb dX3_leave_15 rfl (lv_at hl 0 rfl) ?_
  refine lv_iconst (pc := 16) (v := -1) hx hb dX3_leave_16 (by decide) ?_
  refine b_icmp_ne (pc := 17) (tgt := 40) hx hb h dX3_leave_17 (by decide) (fun h => ?_) (fun h => ?_)
  · exact kX3_leave_40 X   h hH (lv_sub hl [0] rfl)
  · refine lv_aload_n (pc := 20) hx hb dX3_leave_20 rfl (lv_at hl 1 rfl) ?_
    refine gC_X3_18_3 (pc := 21) X hH dX3_leave_21 ?_
    refine lv_iload_n (pc := 24) hx hb dX3_leave_24 rfl (lv_at hl 2 rfl) ?_
    refine lv_aload_n (pc := 25) hx hb dX3_leave_25 rfl (lv_at hl 1 rfl) ?_
    refine gC_X3_36_3 (pc := 26) X hH dX3_leave_26 ?_
    refine r_st (pc := 29) X (heC_26 V w) (hsC_26 V w) hH h dX3_leave_29 (fun w1 H locs h hH => ?_)
    refine lv_aload_n (pc := 30) hx hb dX3_leave_30 rfl (lv_at hl 1 rfl) ?_
    refine lv_dup (pc := 31) hx hb dX3_leave_31 rfl ?_
    refine gC_X3_61_3 (pc := 32) X hH dX3_leave_32 ?_
    refine lv_iconst (pc := 35) (v := 1) hx hb dX3_leave_35 (by decide) ?_
    refine lv_isub (pc := 36) hx hb dX3_leave_36 ?_
    refine pC_X3_61_3 (pc := 37) X hH h dX3_leave_37 (fun w2 H locs h hH => ?_)
    exact kX3_leave_40 X   h hH (lv_sub hl [0] rfl)
def bX3_leave_0 (N d : Nat)   (w : Wd) (x1 : Int32) (x2 : Int32) : Option (Wd × Int32) :=
  if x2 = 1 then (
    c_cl (eX3_ruleFor N d w x1) fun w3 v4 =>
    bX3_leave_14 N d   w3 x1 v4
  ) else (
    bX3_leave_14 N d   w x1 (-1)
  )
set_option maxHeartbeats 4000000 in
theorem kX3_leave_0 {V : Ev} {p : Program} {l : Launch} {e : Env} {N d : Nat} {s : State} {m : MethodId} {args : Array Value} {below : List Frame} {meth : Method} {c : Code} {z : Wd × Int32} (X : CX V p s m args meth c cX3_leave 4 RX3 (some .int))    {w : Wd} {x1 : Int32} {x2 : Int32} {H : Heap} {locs : List Loc} {ls : Array Slot} (h : bX3_leave_0 N d   w x1 x2 = some z) (hH : wH V (cC V) (AC V) s w H locs) (hl : lv_has ls 4 [(0, .ref (V.2.2 3)), (1, .int x1), (2, .int x2)]) : W p l e (rmD (d + 1)) s m args below meth c H locs 0 0 (MQ below (CtI V (cC V) (AC V) z) args s 0 0 (AC V)) (F0 m 0 ls []) := by
  unfold bX3_leave_0 at h
  obtain ⟨hx, hb, hml, hown, hg, hrt, hlk, hK⟩ := id X
  refine lv_iload_n (pc := 0) hx hb dX3_leave_0 rfl (lv_at hl 2 rfl) ?_
  refine lv_iconst (pc := 1) (v := 1) hx hb dX3_leave_1 (by decide) ?_
  refine b_icmp_ne (pc := 2) (tgt := 13) hx hb h dX3_leave_2 (by decide) (fun h => ?_) (fun h => ?_)
  · refine lv_iconst (pc := 13) (v := -1) hx hb dX3_leave_13 (by decide) ?_
    exact kX3_leave_14 X   h hH (lv_sub hl [0, 1] rfl)
  · refine lv_aload_n (pc := 5) hx hb dX3_leave_5 rfl (lv_at hl 0 rfl) ?_
    refine lv_iload_n (pc := 6) hx hb dX3_leave_6 rfl (lv_at hl 1 rfl) ?_
    refine r_cvI (pc := 7) (As := [.int x1]) (rest := []) X hH (fun x hx => mX3_ruleFor hx) cw_X3_82 (heC_3 V w) rfl rfl rfl (Nat.le_of_ble_eq_true rfl) hl.1 h dX3_leave_7 (fun w3 v4 H locs h hH => ?_)
    refine lv_goto (pc := 10) (tgt := 14) hx hb dX3_leave_10 (by decide) ?_
    exact kX3_leave_14 X   h hH (lv_sub hl [0, 1] rfl)
def eX3_leave (N : Nat) : Nat → Wd → Int32 → Int32 → Option (Wd × Int32)
  | 0 => fun _ _ _ => none
  | d + 1 => fun w x1 x2 => bX3_leave_0 N d  w x1 x2
set_option maxHeartbeats 4000000 in
set_option maxRecDepth 20000 in
theorem mX3_leave {l : Launch} {V : Ev} {N d : Nat} {w : Wd} {x1 : Int32} {x2 : Int32} {z : Wd × Int32} (h : eX3_leave N d w x1 x2 = some z) : MetI l V (cC V) (AC V) yX3_leave cX3_leave 4 (some .int) d [.ref (V.2.2 3), .int x1, .int x2] w z := by
  cases d with
  | zero => exact c_none h
  | succ d =>
    refine Met.ofW (cc := cX3_leave) (maxL := 4) (ret := (some .int)) (by decide) rfl ?_
    intro p e s m args below meth c s₁ B hml hv
    obtain ⟨rfl, hP, hD, hK⟩ := hv
    have hts := atoms_spec (ws := .code yX3_leave cX3_leave 4 (some .int) :: gG) B.pre
    have X : CX V p s m ([.ref (V.2.2 3), .int x1, .int x2] : List Value).toArray meth c cX3_leave 4 RX3 (some .int) := ⟨B.exec, B.bytes, hml, findClass_of_methodNamed B.named, fun w hw => hts w (List.mem_cons_of_mem _ hw), B.returns, B.notSynchronized, hK⟩
    have hl := lv_entry ([.ref (V.2.2 3), .int x1, .int x2] : List Value) (n := 4) (Nat.le_of_ble_eq_true rfl)
    rw [lg_entry_eq]
    generalize (lg_sl ([.ref (V.2.2 3), .int x1, .int x2] : List Value) ++ List.replicate (4 - (lg_sl ([.ref (V.2.2 3), .int x1, .int x2] : List Value)).length) Slot.unset).toArray = ls at hl ⊢
    have hl : lv_has ls 4 [(0, .ref (V.2.2 3)), (1, .int x1), (2, .int x2)] := hl
    exact kX3_leave_0 (N := N) X  h ⟨hP, hD, va_S.rf⟩ hl
theorem dX3_search_0 : decode cX3_search 0 = .ok (.aload_n 0, 1) := by decide +kernel
theorem dX3_search_1 : decode cX3_search 1 = .ok (.iconst 0, 1) := by decide +kernel
theorem dX3_search_2 : decode cX3_search 2 = .ok (.putfield 61, 3) := by decide +kernel
theorem dX3_search_5 : decode cX3_search 5 = .ok (.aload_n 0, 1) := by decide +kernel
theorem dX3_search_6 : decode cX3_search 6 = .ok (.getfield 18, 3) := by decide +kernel
theorem dX3_search_9 : decode cX3_search 9 = .ok (.iload_n 1, 1) := by decide +kernel
theorem dX3_search_10 : decode cX3_search 10 = .ok (.iaload, 1) := by decide +kernel
theorem dX3_search_11 : decode cX3_search 11 = .ok (.aload_n 0, 1) := by decide +kernel
theorem dX3_search_12 : decode cX3_search 12 = .ok (.getfield 36, 3) := by decide +kernel
theorem dX3_search_15 : decode cX3_search 15 = .ok (.if_icmp .ne 7, 3) := by decide +kernel
theorem dX3_search_18 : decode cX3_search 18 = .ok (.iconst (-1), 1) := by decide +kernel
theorem dX3_search_19 : decode cX3_search 19 = .ok (.goto 9, 3) := by decide +kernel
theorem dX3_search_22 : decode cX3_search 22 = .ok (.aload_n 0, 1) := by decide +kernel
theorem dX3_search_23 : decode cX3_search 23 = .ok (.iload_n 1, 1) := by decide +kernel
theorem dX3_search_24 : decode cX3_search 24 = .ok (.iload_n 2, 1) := by decide +kernel
theorem dX3_search_25 : decode cX3_search 25 = .ok (.invokevirtual 64, 3) := by decide +kernel
theorem dX3_search_28 : decode cX3_search 28 = .ok (.istore_n 3, 1) := by decide +kernel
theorem dX3_search_29 : decode cX3_search 29 = .ok (.iconst 0, 1) := by decide +kernel
theorem dX3_search_30 : decode cX3_search 30 = .ok (.istore 4, 2) := by decide +kernel
theorem dX3_search_32 : decode cX3_search 32 = .ok (.iload 4, 2) := by decide +kernel
theorem dX3_search_34 : decode cX3_search 34 = .ok (.ldc 67, 2) := by decide +kernel
theorem dX3_search_36 : decode cX3_search 36 = .ok (.if_icmp .ge 66, 3) := by decide +kernel
theorem dX3_search_39 : decode cX3_search 39 = .ok (.aload_n 0, 1) := by decide +kernel
theorem dX3_search_40 : decode cX3_search 40 = .ok (.getfield 61, 3) := by decide +kernel
theorem dX3_search_43 : decode cX3_search 43 = .ok (.ifCond .le 59, 3) := by decide +kernel
theorem dX3_search_46 : decode cX3_search 46 = .ok (.iload_n 3, 1) := by decide +kernel
theorem dX3_search_47 : decode cX3_search 47 = .ok (.iconst (-1), 1) := by decide +kernel
theorem dX3_search_48 : decode cX3_search 48 = .ok (.if_icmp .ne 54, 3) := by decide +kernel
theorem dX3_search_51 : decode cX3_search 51 = .ok (.aload_n 0, 1) := by decide +kernel
theorem dX3_search_52 : decode cX3_search 52 = .ok (.getfield 22, 3) := by decide +kernel
theorem dX3_search_55 : decode cX3_search 55 = .ok (.aload_n 0, 1) := by decide +kernel
theorem dX3_search_56 : decode cX3_search 56 = .ok (.getfield 61, 3) := by decide +kernel
theorem dX3_search_59 : decode cX3_search 59 = .ok (.iconst 1, 1) := by decide +kernel
theorem dX3_search_60 : decode cX3_search 60 = .ok (.isub, 1) := by decide +kernel
theorem dX3_search_61 : decode cX3_search 61 = .ok (.iaload, 1) := by decide +kernel
theorem dX3_search_62 : decode cX3_search 62 = .ok (.istore 5, 2) := by decide +kernel
theorem dX3_search_64 : decode cX3_search 64 = .ok (.aload_n 0, 1) := by decide +kernel
theorem dX3_search_65 : decode cX3_search 65 = .ok (.iload 5, 2) := by decide +kernel
theorem dX3_search_67 : decode cX3_search 67 = .ok (.invokevirtual 68, 3) := by decide +kernel
theorem dX3_search_70 : decode cX3_search 70 = .ok (.istore 6, 2) := by decide +kernel
theorem dX3_search_72 : decode cX3_search 72 = .ok (.iload 6, 2) := by decide +kernel
theorem dX3_search_74 : decode cX3_search 74 = .ok (.iconst (-1), 1) := by decide +kernel
theorem dX3_search_75 : decode cX3_search 75 = .ok (.if_icmp .ne 13, 3) := by decide +kernel
theorem dX3_search_78 : decode cX3_search 78 = .ok (.aload_n 0, 1) := by decide +kernel
theorem dX3_search_79 : decode cX3_search 79 = .ok (.iload 5, 2) := by decide +kernel
theorem dX3_search_81 : decode cX3_search 81 = .ok (.iload_n 2, 1) := by decide +kernel
theorem dX3_search_82 : decode cX3_search 82 = .ok (.invokevirtual 71, 3) := by decide +kernel
theorem dX3_search_85 : decode cX3_search 85 = .ok (.goto 10, 3) := by decide +kernel
theorem dX3_search_88 : decode cX3_search 88 = .ok (.aload_n 0, 1) := by decide +kernel
theorem dX3_search_89 : decode cX3_search 89 = .ok (.iload 6, 2) := by decide +kernel
theorem dX3_search_91 : decode cX3_search 91 = .ok (.iload_n 2, 1) := by decide +kernel
theorem dX3_search_92 : decode cX3_search 92 = .ok (.invokevirtual 64, 3) := by decide +kernel
theorem dX3_search_95 : decode cX3_search 95 = .ok (.istore_n 3, 1) := by decide +kernel
theorem dX3_search_96 : decode cX3_search 96 = .ok (.iinc 4 1, 3) := by decide +kernel
theorem dX3_search_99 : decode cX3_search 99 = .ok (.goto (-67), 3) := by decide +kernel
theorem dX3_search_102 : decode cX3_search 102 = .ok (.iload_n 3, 1) := by decide +kernel
theorem dX3_search_103 : decode cX3_search 103 = .ok (.ireturn, 1) := by decide +kernel
def bX3_search_102 (N d : Nat)   (w : Wd) (x3 : Int32) : Option (Wd × Int32) :=
  some (w, x3)
set_option maxHeartbeats 4000000 in
theorem kX3_search_102 {V : Ev} {p : Program} {l : Launch} {e : Env} {N d : Nat} {s : State} {m : MethodId} {args : Array Value} {below : List Frame} {meth : Method} {c : Code} {z : Wd × Int32} (X : CX V p s m args meth c cX3_search 7 RX3 (some .int))    {w : Wd} {x3 : Int32} {H : Heap} {locs : List Loc} {ls : Array Slot} (h : bX3_search_102 N d   w x3 = some z) (hH : wH V (cC V) (AC V) s w H locs) (hl : lv_has ls 7 [(3, .int x3)]) : W p l e (rmD (d + 1)) s m args below meth c H locs 0 0 (MQ below (CtI V (cC V) (AC V) z) args s 0 0 (AC V)) (F0 m 102 ls []) := by
  unfold bX3_search_102 at h
  obtain ⟨hx, hb, hml, hown, hg, hrt, hlk, hK⟩ := id X
  refine lv_iload_n (pc := 102) hx hb dX3_search_102 rfl (lv_at hl 0 rfl) ?_
  exact r_iret (pc := 103) X hH h dX3_search_103
def bX3_search_95 (N d : Nat)  (rec32 : Wd → Int32 → Int32 → Int32 → Option (Wd × Int32)) (w : Wd) (x2 : Int32) (x4 : Int32) (y0 : Int32) : Option (Wd × Int32) :=
  c_nm (x4 + 1) fun x4_10 =>
  rec32 w x2 y0 x4_10
set_option maxHeartbeats 4000000 in
theorem kX3_search_95 {V : Ev} {p : Program} {l : Launch} {e : Env} {N d : Nat} {s : State} {m : MethodId} {args : Array Value} {below : List Frame} {meth : Method} {c : Code} {z : Wd × Int32} (X : CX V p s m args meth c cX3_search 7 RX3 (some .int))   {rec32 : Wd → Int32 → Int32 → Int32 → Option (Wd × Int32)} (hr32 : ∀ (w : Wd) (x2 : Int32) (x3 : Int32) (x4 : Int32) (H : Heap) (locs : List Loc) (ls : Array Slot), rec32 w x2 x3 x4 = some z → wH V (cC V) (AC V) s w H locs → lv_has ls 7 [(0, .ref (V.2.2 3)), (2, .int x2), (3, .int x3), (4, .int x4)] → W p l e (rmD (d + 1)) s m args below meth c H locs 0 0 (MQ below (CtI V (cC V) (AC V) z) args s 0 0 (AC V)) (F0 m 32 ls [])) {w : Wd} {x2 : Int32} {x4 : Int32} {y0 : Int32} {H : Heap} {locs : List Loc} {ls : Array Slot} (h : bX3_search_95 N d  rec32 w x2 x4 y0 = some z) (hH : wH V (cC V) (AC V) s w H locs) (hl : lv_has ls 7 [(0, .ref (V.2.2 3)), (2, .int x2), (4, .int x4)]) : W p l e (rmD (d + 1)) s m args below meth c H locs 0 0 (MQ below (CtI V (cC V) (AC V) z) args s 0 0 (AC V)) (F0 m 95 ls [.int y0]) := by
  unfold bX3_search_95 at h
  obtain ⟨hx, hb, hml, hown, hg, hrt, hlk, hK⟩ := id X
  refine lv_istore_n (pc := 95) (lv' := [(3, .int y0), (0, .ref (V.2.2 3)), (2, .int x2), (4, .int x4)]) hx hb dX3_search_95 rfl hl (by decide) rfl (fun ls hl => ?_)
  obtain ⟨x4_10, ex4_10, h⟩ := c_nm_ex h
  refine lv_iinc (pc := 96) (v := x4_10) (lv' := [(4, .int x4_10), (3, .int y0), (0, .ref (V.2.2 3)), (2, .int x2)]) hx hb dX3_search_96 hl (k := 3) rfl (by rw [← ex4_10]; rfl) (by decide) rfl (fun ls hl => ?_)
  refine lv_goto (pc := 99) (tgt := 32) hx hb dX3_search_99 (by decide) ?_
  exact hr32 _ _ _ _ _ _ _ h hH (lv_sub hl [2, 3, 1, 0] rfl)
def bX3_search_32 (N d : Nat)  (rec32 : Wd → Int32 → Int32 → Int32 → Option (Wd × Int32)) (w : Wd) (x2 : Int32) (x3 : Int32) (x4 : Int32) : Option (Wd × Int32) :=
  if 1000000 ≤ x4 then (
    bX3_search_102 N d   w x3
  ) else (
    if (sI w 3) ≤ 0 then (
      bX3_search_102 N d   w x3
    ) else (
      if x3 = (-1) then (
        c_ld w 27 1000 ((sI w 3) - 1) fun v5 =>
        c_cl (eX3_nextPart N d w v5) fun w6 v7 =>
        if v7 = (-1) then (
          c_cl (eX3_leave N d w6 v5 x2) fun w11 v12 =>
          bX3_search_95 N d  rec32 w11 x2 x4 v12
        ) else (
          c_cl (eX3_enter N d w6 v7 x2) fun w8 v9 =>
          bX3_search_95 N d  rec32 w8 x2 x4 v9
        )
      ) else (
        bX3_search_102 N d   w x3
      )
    )
  )
set_option maxHeartbeats 4000000 in
theorem kX3_search_32 {V : Ev} {p : Program} {l : Launch} {e : Env} {N d : Nat} {s : State} {m : MethodId} {args : Array Value} {below : List Frame} {meth : Method} {c : Code} {z : Wd × Int32} (X : CX V p s m args meth c cX3_search 7 RX3 (some .int))   {rec32 : Wd → Int32 → Int32 → Int32 → Option (Wd × Int32)} (hr32 : ∀ (w : Wd) (x2 : Int32) (x3 : Int32) (x4 : Int32) (H : Heap) (locs : List Loc) (ls : Array Slot), rec32 w x2 x3 x4 = some z → wH V (cC V) (AC V) s w H locs → lv_has ls 7 [(0, .ref (V.2.2 3)), (2, .int x2), (3, .int x3), (4, .int x4)] → W p l e (rmD (d + 1)) s m args below meth c H locs 0 0 (MQ below (CtI V (cC V) (AC V) z) args s 0 0 (AC V)) (F0 m 32 ls [])) {w : Wd} {x2 : Int32} {x3 : Int32} {x4 : Int32} {H : Heap} {locs : List Loc} {ls : Array Slot} (h : bX3_search_32 N d  rec32 w x2 x3 x4 = some z) (hH : wH V (cC V) (AC V) s w H locs) (hl : lv_has ls 7 [(0, .ref (V.2.2 3)), (2, .int x2), (3, .int x3), (4, .int x4)]) : W p l e (rmD (d + 1)) s m args below meth c H locs 0 0 (MQ below (CtI V (cC V) (AC V) z) args s 0 0 (AC V)) (F0 m 32 ls []) := by
  unfold bX3_search_32 at h
  obtain ⟨hx, hb, hml, hown, hg, hrt, hlk, hK⟩ := id X
  refine lv_iload (pc := 32) hx hb dX3_search_32 (lv_at hl 3 rfl) ?_
  refine lv_ldc (pc := 34) hx hb hown (hg _ wK_515) dX3_search_34 ?_
  refine b_icmp_ge (pc := 36) (tgt := 102) hx hb h dX3_search_36 (by decide) (fun h => ?_) (fun h => ?_)
  · exact kX3_search_102 X   h hH (lv_sub hl [2] rfl)
  · refine lv_aload_n (pc := 39) hx hb dX3_search_39 rfl (lv_at hl 0 rfl) ?_
    refine gC_X3_61_3 (pc := 40) X hH dX3_search_40 ?_
    refine b_if_le (pc := 43) (tgt := 102) hx hb h dX3_search_43 (by decide) (fun h => ?_) (fun h => ?_)
    · exact kX3_search_102 X   h hH (lv_sub hl [2] rfl)
    · refine lv_iload_n (pc := 46) hx hb dX3_search_46 rfl (lv_at hl 2 rfl) ?_
      refine lv_iconst (pc := 47) (v := -1) hx hb dX3_search_47 (by decide) ?_
      refine b_icmp_ne (pc := 48) (tgt := 102) hx hb h dX3_search_48 (by decide) (fun h => ?_) (fun h => ?_)
      · exact kX3_search_102 X   h hH (lv_sub hl [2] rfl)
      · refine lv_aload_n (pc := 51) hx hb dX3_search_51 rfl (lv_at hl 0 rfl) ?_
        refine gC_X3_22_3 (pc := 52) X hH dX3_search_52 ?_
        refine lv_aload_n (pc := 55) hx hb dX3_search_55 rfl (lv_at hl 0 rfl) ?_
        refine gC_X3_61_3 (pc := 56) X hH dX3_search_56 ?_
        refine lv_iconst (pc := 59) (v := 1) hx hb dX3_search_59 (by decide) ?_
        refine lv_isub (pc := 60) hx hb dX3_search_60 ?_
        refine r_ld (pc := 61) X (heC_27 V w) hH h dX3_search_61 (fun v5 h => ?_)
        refine lv_istore (pc := 62) (lv' := [(5, .int v5), (0, .ref (V.2.2 3)), (2, .int x2), (3, .int x3), (4, .int x4)]) hx hb dX3_search_62 hl (by decide) rfl (fun ls hl => ?_)
        refine lv_aload_n (pc := 64) hx hb dX3_search_64 rfl (lv_at hl 1 rfl) ?_
        refine lv_iload (pc := 65) hx hb dX3_search_65 (lv_at hl 0 rfl) ?_
        refine r_cvI (pc := 67) (As := [.int v5]) (rest := []) X hH (fun x hx => mX3_nextPart hx) cw_X3_68 (heC_3 V w) rfl rfl rfl (Nat.le_of_ble_eq_true rfl) hl.1 h dX3_search_67 (fun w6 v7 H locs h hH => ?_)
        refine lv_istore (pc := 70) (lv' := [(6, .int v7), (5, .int v5), (0, .ref (V.2.2 3)), (2, .int x2), (3, .int x3), (4, .int x4)]) hx hb dX3_search_70 hl (by decide) rfl (fun ls hl => ?_)
        refine lv_iload (pc := 72) hx hb dX3_search_72 (lv_at hl 0 rfl) ?_
        refine lv_iconst (pc := 74) (v := -1) hx hb dX3_search_74 (by decide) ?_
        refine b_icmp_ne (pc := 75) (tgt := 88) hx hb h dX3_search_75 (by decide) (fun h => ?_) (fun h => ?_)
        · refine lv_aload_n (pc := 88) hx hb dX3_search_88 rfl (lv_at hl 2 rfl) ?_
          refine lv_iload (pc := 89) hx hb dX3_search_89 (lv_at hl 0 rfl) ?_
          refine lv_iload_n (pc := 91) hx hb dX3_search_91 rfl (lv_at hl 3 rfl) ?_
          refine r_cvI (pc := 92) (As := [.int v7, .int x2]) (rest := []) X hH (fun x hx => mX3_enter hx) cw_X3_64 (heC_3 V w6) rfl rfl rfl (Nat.le_of_ble_eq_true rfl) hl.1 h dX3_search_92 (fun w8 v9 H locs h hH => ?_)
          exact kX3_search_95 X  hr32 h hH (lv_sub hl [2, 3, 5] rfl)
        · refine lv_aload_n (pc := 78) hx hb dX3_search_78 rfl (lv_at hl 2 rfl) ?_
          refine lv_iload (pc := 79) hx hb dX3_search_79 (lv_at hl 1 rfl) ?_
          refine lv_iload_n (pc := 81) hx hb dX3_search_81 rfl (lv_at hl 3 rfl) ?_
          refine r_cvI (pc := 82) (As := [.int v5, .int x2]) (rest := []) X hH (fun x hx => mX3_leave hx) cw_X3_71 (heC_3 V w6) rfl rfl rfl (Nat.le_of_ble_eq_true rfl) hl.1 h dX3_search_82 (fun w11 v12 H locs h hH => ?_)
          refine lv_goto (pc := 85) (tgt := 95) hx hb dX3_search_85 (by decide) ?_
          exact kX3_search_95 X  hr32 h hH (lv_sub hl [2, 3, 5] rfl)
def fX3_search_32 (N d : Nat)   : Nat → Wd → Int32 → Int32 → Int32 → Option (Wd × Int32)
  | 0 => fun _ _ _ _ => none
  | n + 1 => fun w x2 x3 x4 => bX3_search_32 N d   (fX3_search_32 N d   n) w x2 x3 x4
theorem lX3_search_32 {V : Ev} {p : Program} {l : Launch} {e : Env} {N d : Nat} {s : State} {m : MethodId} {args : Array Value} {below : List Frame} {meth : Method} {c : Code} {z : Wd × Int32} (X : CX V p s m args meth c cX3_search 7 RX3 (some .int))    (n : Nat) {w : Wd} {x2 : Int32} {x3 : Int32} {x4 : Int32} {H : Heap} {locs : List Loc} {ls : Array Slot} (h : fX3_search_32 N d   n w x2 x3 x4 = some z) (hH : wH V (cC V) (AC V) s w H locs) (hl : lv_has ls 7 [(0, .ref (V.2.2 3)), (2, .int x2), (3, .int x3), (4, .int x4)]) : W p l e (rmD (d + 1)) s m args below meth c H locs 0 0 (MQ below (CtI V (cC V) (AC V) z) args s 0 0 (AC V)) (F0 m 32 ls []) := by
  induction n generalizing w x2 x3 x4 H locs ls with
  | zero => exact c_none h
  | succ n ih => exact kX3_search_32 (N := N) X  (fun _ _ _ _ _ _ _ h hH hl => ih h hH hl) h hH hl
def bX3_search_28 (N d : Nat)   (w : Wd) (x2 : Int32) (y0 : Int32) : Option (Wd × Int32) :=
  fX3_search_32 N d   N w x2 y0 ((0 : Int32))
set_option maxHeartbeats 4000000 in
theorem kX3_search_28 {V : Ev} {p : Program} {l : Launch} {e : Env} {N d : Nat} {s : State} {m : MethodId} {args : Array Value} {below : List Frame} {meth : Method} {c : Code} {z : Wd × Int32} (X : CX V p s m args meth c cX3_search 7 RX3 (some .int))    {w : Wd} {x2 : Int32} {y0 : Int32} {H : Heap} {locs : List Loc} {ls : Array Slot} (h : bX3_search_28 N d   w x2 y0 = some z) (hH : wH V (cC V) (AC V) s w H locs) (hl : lv_has ls 7 [(0, .ref (V.2.2 3)), (2, .int x2)]) : W p l e (rmD (d + 1)) s m args below meth c H locs 0 0 (MQ below (CtI V (cC V) (AC V) z) args s 0 0 (AC V)) (F0 m 28 ls [.int y0]) := by
  unfold bX3_search_28 at h
  obtain ⟨hx, hb, hml, hown, hg, hrt, hlk, hK⟩ := id X
  refine lv_istore_n (pc := 28) (lv' := [(3, .int y0), (0, .ref (V.2.2 3)), (2, .int x2)]) hx hb dX3_search_28 rfl hl (by decide) rfl (fun ls hl => ?_)
  refine lv_iconst (pc := 29) (v := 0) hx hb dX3_search_29 (by decide) ?_
  refine lv_istore (pc := 30) (lv' := [(4, .int ((0 : Int32))), (3, .int y0), (0, .ref (V.2.2 3)), (2, .int x2)]) hx hb dX3_search_30 hl (by decide) rfl (fun ls hl => ?_)
  exact lX3_search_32 X   N h hH (lv_sub hl [2, 3, 1, 0] rfl)
def bX3_search_0 (N d : Nat)   (w : Wd) (x1 : Int32) (x2 : Int32) : Option (Wd × Int32) :=
  c_pi w 3 0 fun w1 =>
  c_ld w1 26 1000 x1 fun v2 =>
  if v2 = (sI w1 4) then (
    bX3_search_28 N d   w1 x2 (-1)
  ) else (
    c_cl (eX3_enter N d w1 x1 x2) fun w3 v4 =>
    bX3_search_28 N d   w3 x2 v4
  )
set_option maxHeartbeats 4000000 in
theorem kX3_search_0 {V : Ev} {p : Program} {l : Launch} {e : Env} {N d : Nat} {s : State} {m : MethodId} {args : Array Value} {below : List Frame} {meth : Method} {c : Code} {z : Wd × Int32} (X : CX V p s m args meth c cX3_search 7 RX3 (some .int))    {w : Wd} {x1 : Int32} {x2 : Int32} {H : Heap} {locs : List Loc} {ls : Array Slot} (h : bX3_search_0 N d   w x1 x2 = some z) (hH : wH V (cC V) (AC V) s w H locs) (hl : lv_has ls 7 [(0, .ref (V.2.2 3)), (1, .int x1), (2, .int x2)]) : W p l e (rmD (d + 1)) s m args below meth c H locs 0 0 (MQ below (CtI V (cC V) (AC V) z) args s 0 0 (AC V)) (F0 m 0 ls []) := by
  unfold bX3_search_0 at h
  obtain ⟨hx, hb, hml, hown, hg, hrt, hlk, hK⟩ := id X
  refine lv_aload_n (pc := 0) hx hb dX3_search_0 rfl (lv_at hl 0 rfl) ?_
  refine lv_iconst (pc := 1) (v := 0) hx hb dX3_search_1 (by decide) ?_
  refine pC_X3_61_3 (pc := 2) X hH h dX3_search_2 (fun w1 H locs h hH => ?_)
  refine lv_aload_n (pc := 5) hx hb dX3_search_5 rfl (lv_at hl 0 rfl) ?_
  refine gC_X3_18_3 (pc := 6) X hH dX3_search_6 ?_
  refine lv_iload_n (pc := 9) hx hb dX3_search_9 rfl (lv_at hl 1 rfl) ?_
  refine r_ld (pc := 10) X (heC_26 V w1) hH h dX3_search_10 (fun v2 h => ?_)
  refine lv_aload_n (pc := 11) hx hb dX3_search_11 rfl (lv_at hl 0 rfl) ?_
  refine gC_X3_36_3 (pc := 12) X hH dX3_search_12 ?_
  refine b_icmp_ne (pc := 15) (tgt := 22) hx hb h dX3_search_15 (by decide) (fun h => ?_) (fun h => ?_)
  · refine lv_aload_n (pc := 22) hx hb dX3_search_22 rfl (lv_at hl 0 rfl) ?_
    refine lv_iload_n (pc := 23) hx hb dX3_search_23 rfl (lv_at hl 1 rfl) ?_
    refine lv_iload_n (pc := 24) hx hb dX3_search_24 rfl (lv_at hl 2 rfl) ?_
    refine r_cvI (pc := 25) (As := [.int x1, .int x2]) (rest := []) X hH (fun x hx => mX3_enter hx) cw_X3_64 (heC_3 V w1) rfl rfl rfl (Nat.le_of_ble_eq_true rfl) hl.1 h dX3_search_25 (fun w3 v4 H locs h hH => ?_)
    exact kX3_search_28 X   h hH (lv_sub hl [0, 2] rfl)
  · refine lv_iconst (pc := 18) (v := -1) hx hb dX3_search_18 (by decide) ?_
    refine lv_goto (pc := 19) (tgt := 28) hx hb dX3_search_19 (by decide) ?_
    exact kX3_search_28 X   h hH (lv_sub hl [0, 2] rfl)
def eX3_search (N : Nat) : Nat → Wd → Int32 → Int32 → Option (Wd × Int32)
  | 0 => fun _ _ _ => none
  | d + 1 => fun w x1 x2 => bX3_search_0 N d  w x1 x2
set_option maxHeartbeats 4000000 in
set_option maxRecDepth 20000 in
theorem mX3_search {l : Launch} {V : Ev} {N d : Nat} {w : Wd} {x1 : Int32} {x2 : Int32} {z : Wd × Int32} (h : eX3_search N d w x1 x2 = some z) : MetI l V (cC V) (AC V) yX3_search cX3_search 7 (some .int) d [.ref (V.2.2 3), .int x1, .int x2] w z := by
  cases d with
  | zero => exact c_none h
  | succ d =>
    refine Met.ofW (cc := cX3_search) (maxL := 7) (ret := (some .int)) (by decide) rfl ?_
    intro p e s m args below meth c s₁ B hml hv
    obtain ⟨rfl, hP, hD, hK⟩ := hv
    have hts := atoms_spec (ws := .code yX3_search cX3_search 7 (some .int) :: gG) B.pre
    have X : CX V p s m ([.ref (V.2.2 3), .int x1, .int x2] : List Value).toArray meth c cX3_search 7 RX3 (some .int) := ⟨B.exec, B.bytes, hml, findClass_of_methodNamed B.named, fun w hw => hts w (List.mem_cons_of_mem _ hw), B.returns, B.notSynchronized, hK⟩
    have hl := lv_entry ([.ref (V.2.2 3), .int x1, .int x2] : List Value) (n := 7) (Nat.le_of_ble_eq_true rfl)
    rw [lg_entry_eq]
    generalize (lg_sl ([.ref (V.2.2 3), .int x1, .int x2] : List Value) ++ List.replicate (7 - (lg_sl ([.ref (V.2.2 3), .int x1, .int x2] : List Value)).length) Slot.unset).toArray = ls at hl ⊢
    have hl : lv_has ls 7 [(0, .ref (V.2.2 3)), (1, .int x1), (2, .int x2)] := hl
    exact kX3_search_0 (N := N) X  h ⟨hP, hD, va_S.rf⟩ hl
theorem dX3_instance_0 : decode cX3_instance 0 = .ok (.aload_n 0, 1) := by decide +kernel
theorem dX3_instance_1 : decode cX3_instance 1 = .ok (.getfield 28, 3) := by decide +kernel
theorem dX3_instance_4 : decode cX3_instance 4 = .ok (.getfield 108, 3) := by decide +kernel
theorem dX3_instance_7 : decode cX3_instance 7 = .ok (.iload_n 1, 1) := by decide +kernel
theorem dX3_instance_8 : decode cX3_instance 8 = .ok (.iaload, 1) := by decide +kernel
theorem dX3_instance_9 : decode cX3_instance 9 = .ok (.ifCond .ne 5, 3) := by decide +kernel
theorem dX3_instance_12 : decode cX3_instance 12 = .ok (.iload_n 1, 1) := by decide +kernel
theorem dX3_instance_13 : decode cX3_instance 13 = .ok (.ireturn, 1) := by decide +kernel
theorem dX3_instance_14 : decode cX3_instance 14 = .ok (.aload_n 0, 1) := by decide +kernel
theorem dX3_instance_15 : decode cX3_instance 15 = .ok (.getfield 28, 3) := by decide +kernel
theorem dX3_instance_18 : decode cX3_instance 18 = .ok (.iload_n 1, 1) := by decide +kernel
theorem dX3_instance_19 : decode cX3_instance 19 = .ok (.invokevirtual 111, 3) := by decide +kernel
theorem dX3_instance_22 : decode cX3_instance 22 = .ok (.ifCond .eq 21, 3) := by decide +kernel
theorem dX3_instance_25 : decode cX3_instance 25 = .ok (.aload_n 0, 1) := by decide +kernel
theorem dX3_instance_26 : decode cX3_instance 26 = .ok (.getfield 25, 3) := by decide +kernel
theorem dX3_instance_29 : decode cX3_instance 29 = .ok (.aload_n 0, 1) := by decide +kernel
theorem dX3_instance_30 : decode cX3_instance 30 = .ok (.getfield 28, 3) := by decide +kernel
theorem dX3_instance_33 : decode cX3_instance 33 = .ok (.getfield 95, 3) := by decide +kernel
theorem dX3_instance_36 : decode cX3_instance 36 = .ok (.iload_n 1, 1) := by decide +kernel
theorem dX3_instance_37 : decode cX3_instance 37 = .ok (.iaload, 1) := by decide +kernel
theorem dX3_instance_38 : decode cX3_instance 38 = .ok (.bipush 10, 2) := by decide +kernel
theorem dX3_instance_40 : decode cX3_instance 40 = .ok (.isub, 1) := by decide +kernel
theorem dX3_instance_41 : decode cX3_instance 41 = .ok (.iaload, 1) := by decide +kernel
theorem dX3_instance_42 : decode cX3_instance 42 = .ok (.ireturn, 1) := by decide +kernel
theorem dX3_instance_43 : decode cX3_instance 43 = .ok (.iload_n 2, 1) := by decide +kernel
theorem dX3_instance_44 : decode cX3_instance 44 = .ok (.bipush 30, 2) := by decide +kernel
theorem dX3_instance_46 : decode cX3_instance 46 = .ok (.if_icmp .le 6, 3) := by decide +kernel
theorem dX3_instance_49 : decode cX3_instance 49 = .ok (.bipush (-4), 2) := by decide +kernel
theorem dX3_instance_51 : decode cX3_instance 51 = .ok (.ireturn, 1) := by decide +kernel
theorem dX3_instance_52 : decode cX3_instance 52 = .ok (.aload_n 0, 1) := by decide +kernel
theorem dX3_instance_53 : decode cX3_instance 53 = .ok (.aload_n 0, 1) := by decide +kernel
theorem dX3_instance_54 : decode cX3_instance 54 = .ok (.getfield 28, 3) := by decide +kernel
theorem dX3_instance_57 : decode cX3_instance 57 = .ok (.getfield 74, 3) := by decide +kernel
theorem dX3_instance_60 : decode cX3_instance 60 = .ok (.iload_n 1, 1) := by decide +kernel
theorem dX3_instance_61 : decode cX3_instance 61 = .ok (.iaload, 1) := by decide +kernel
theorem dX3_instance_62 : decode cX3_instance 62 = .ok (.iload_n 2, 1) := by decide +kernel
theorem dX3_instance_63 : decode cX3_instance 63 = .ok (.iconst 1, 1) := by decide +kernel
theorem dX3_instance_64 : decode cX3_instance 64 = .ok (.iadd, 1) := by decide +kernel
theorem dX3_instance_65 : decode cX3_instance 65 = .ok (.invokevirtual 118, 3) := by decide +kernel
theorem dX3_instance_68 : decode cX3_instance 68 = .ok (.istore_n 3, 1) := by decide +kernel
theorem dX3_instance_69 : decode cX3_instance 69 = .ok (.iload_n 3, 1) := by decide +kernel
theorem dX3_instance_70 : decode cX3_instance 70 = .ok (.bipush (-4), 2) := by decide +kernel
theorem dX3_instance_72 : decode cX3_instance 72 = .ok (.if_icmp .ne 6, 3) := by decide +kernel
theorem dX3_instance_75 : decode cX3_instance 75 = .ok (.bipush (-4), 2) := by decide +kernel
theorem dX3_instance_77 : decode cX3_instance 77 = .ok (.ireturn, 1) := by decide +kernel
theorem dX3_instance_78 : decode cX3_instance 78 = .ok (.aload_n 0, 1) := by decide +kernel
theorem dX3_instance_79 : decode cX3_instance 79 = .ok (.getfield 28, 3) := by decide +kernel
theorem dX3_instance_82 : decode cX3_instance 82 = .ok (.getfield 79, 3) := by decide +kernel
theorem dX3_instance_85 : decode cX3_instance 85 = .ok (.iload_n 1, 1) := by decide +kernel
theorem dX3_instance_86 : decode cX3_instance 86 = .ok (.iaload, 1) := by decide +kernel
theorem dX3_instance_87 : decode cX3_instance 87 = .ok (.iconst (-1), 1) := by decide +kernel
theorem dX3_instance_88 : decode cX3_instance 88 = .ok (.if_icmp .ne 7, 3) := by decide +kernel
theorem dX3_instance_91 : decode cX3_instance 91 = .ok (.iconst (-1), 1) := by decide +kernel
theorem dX3_instance_92 : decode cX3_instance 92 = .ok (.goto 19, 3) := by decide +kernel
theorem dX3_instance_95 : decode cX3_instance 95 = .ok (.aload_n 0, 1) := by decide +kernel
theorem dX3_instance_96 : decode cX3_instance 96 = .ok (.aload_n 0, 1) := by decide +kernel
theorem dX3_instance_97 : decode cX3_instance 97 = .ok (.getfield 28, 3) := by decide +kernel
theorem dX3_instance_100 : decode cX3_instance 100 = .ok (.getfield 79, 3) := by decide +kernel
theorem dX3_instance_103 : decode cX3_instance 103 = .ok (.iload_n 1, 1) := by decide +kernel
theorem dX3_instance_104 : decode cX3_instance 104 = .ok (.iaload, 1) := by decide +kernel
theorem dX3_instance_105 : decode cX3_instance 105 = .ok (.iload_n 2, 1) := by decide +kernel
theorem dX3_instance_106 : decode cX3_instance 106 = .ok (.iconst 1, 1) := by decide +kernel
theorem dX3_instance_107 : decode cX3_instance 107 = .ok (.iadd, 1) := by decide +kernel
theorem dX3_instance_108 : decode cX3_instance 108 = .ok (.invokevirtual 118, 3) := by decide +kernel
theorem dX3_instance_111 : decode cX3_instance 111 = .ok (.istore 4, 2) := by decide +kernel
theorem dX3_instance_113 : decode cX3_instance 113 = .ok (.iload 4, 2) := by decide +kernel
theorem dX3_instance_115 : decode cX3_instance 115 = .ok (.bipush (-4), 2) := by decide +kernel
theorem dX3_instance_117 : decode cX3_instance 117 = .ok (.if_icmp .ne 8, 3) := by decide +kernel
theorem dX3_instance_120 : decode cX3_instance 120 = .ok (.bipush (-4), 2) := by decide +kernel
theorem dX3_instance_122 : decode cX3_instance 122 = .ok (.goto 22, 3) := by decide +kernel
theorem dX3_instance_125 : decode cX3_instance 125 = .ok (.aload_n 0, 1) := by decide +kernel
theorem dX3_instance_126 : decode cX3_instance 126 = .ok (.getfield 28, 3) := by decide +kernel
theorem dX3_instance_129 : decode cX3_instance 129 = .ok (.aload_n 0, 1) := by decide +kernel
theorem dX3_instance_130 : decode cX3_instance 130 = .ok (.getfield 28, 3) := by decide +kernel
theorem dX3_instance_133 : decode cX3_instance 133 = .ok (.getfield 95, 3) := by decide +kernel
theorem dX3_instance_136 : decode cX3_instance 136 = .ok (.iload_n 1, 1) := by decide +kernel
theorem dX3_instance_137 : decode cX3_instance 137 = .ok (.iaload, 1) := by decide +kernel
theorem dX3_instance_138 : decode cX3_instance 138 = .ok (.iload_n 3, 1) := by decide +kernel
theorem dX3_instance_139 : decode cX3_instance 139 = .ok (.iload 4, 2) := by decide +kernel
theorem dX3_instance_141 : decode cX3_instance 141 = .ok (.invokevirtual 128, 3) := by decide +kernel
theorem dX3_instance_144 : decode cX3_instance 144 = .ok (.ireturn, 1) := by decide +kernel
def bX3_instance_144 (N d : Nat) (self_X3_instance : Wd → Int32 → Int32 → Option (Wd × Int32))  (w : Wd) (y0 : Int32) : Option (Wd × Int32) :=
  some (w, y0)
set_option maxHeartbeats 4000000 in
theorem kX3_instance_144 {V : Ev} {p : Program} {l : Launch} {e : Env} {N d : Nat} {s : State} {m : MethodId} {args : Array Value} {below : List Frame} {meth : Method} {c : Code} {z : Wd × Int32} (X : CX V p s m args meth c cX3_instance 5 RX3 (some .int)) {self_X3_instance : Wd → Int32 → Int32 → Option (Wd × Int32)} (hs_X3_instance : ∀ (w : Wd) (a0 : Int32) (a1 : Int32) (x : Wd × Int32), self_X3_instance w a0 a1 = some x → MetI l V (cC V) (AC V) yX3_instance cX3_instance 5 (some .int) d [.ref (V.2.2 3), .int a0, .int a1] w x)  {w : Wd} {y0 : Int32} {H : Heap} {locs : List Loc} {ls : Array Slot} (h : bX3_instance_144 N d self_X3_instance  w y0 = some z) (hH : wH V (cC V) (AC V) s w H locs) (hl : lv_has ls 5 []) : W p l e (rmD (d + 1)) s m args below meth c H locs 0 0 (MQ below (CtI V (cC V) (AC V) z) args s 0 0 (AC V)) (F0 m 144 ls [.int y0]) := by
  unfold bX3_instance_144 at h
  obtain ⟨hx, hb, hml, hown, hg, hrt, hlk, hK⟩ := id X
  exact r_iret (pc := 144) X hH h dX3_instance_144
def bX3_instance_111 (N d : Nat) (self_X3_instance : Wd → Int32 → Int32 → Option (Wd × Int32))  (w : Wd) (x1 : Int32) (x3 : Int32) (y0 : Int32) : Option (Wd × Int32) :=
  if y0 = (-4) then (
    bX3_instance_144 N d self_X3_instance  w (-4)
  ) else (
    c_ld w 14 1000 x1 fun v11 =>
    c_cl (eX8_make N d w v11 x3 y0) fun w12 v13 =>
    bX3_instance_144 N d self_X3_instance  w12 v13
  )
set_option maxHeartbeats 4000000 in
theorem kX3_instance_111 {V : Ev} {p : Program} {l : Launch} {e : Env} {N d : Nat} {s : State} {m : MethodId} {args : Array Value} {below : List Frame} {meth : Method} {c : Code} {z : Wd × Int32} (X : CX V p s m args meth c cX3_instance 5 RX3 (some .int)) {self_X3_instance : Wd → Int32 → Int32 → Option (Wd × Int32)} (hs_X3_instance : ∀ (w : Wd) (a0 : Int32) (a1 : Int32) (x : Wd × Int32), self_X3_instance w a0 a1 = some x → MetI l V (cC V) (AC V) yX3_instance cX3_instance 5 (some .int) d [.ref (V.2.2 3), .int a0, .int a1] w x)  {w : Wd} {x1 : Int32} {x3 : Int32} {y0 : Int32} {H : Heap} {locs : List Loc} {ls : Array Slot} (h : bX3_instance_111 N d self_X3_instance  w x1 x3 y0 = some z) (hH : wH V (cC V) (AC V) s w H locs) (hl : lv_has ls 5 [(0, .ref (V.2.2 3)), (1, .int x1), (3, .int x3)]) : W p l e (rmD (d + 1)) s m args below meth c H locs 0 0 (MQ below (CtI V (cC V) (AC V) z) args s 0 0 (AC V)) (F0 m 111 ls [.int y0]) := by
  unfold bX3_instance_111 at h
  obtain ⟨hx, hb, hml, hown, hg, hrt, hlk, hK⟩ := id X
  refine lv_istore (pc := 111) (lv' := [(4, .int y0), (0, .ref (V.2.2 3)), (1, .int x1), (3, .int x3)]) hx hb dX3_instance_111 hl (by decide) rfl (fun ls hl => ?_)
  refine lv_iload (pc := 113) hx hb dX3_instance_113 (lv_at hl 0 rfl) ?_
  refine lv_bipush (pc := 115) (v := -4) hx hb dX3_instance_115 (by decide) ?_
  refine b_icmp_ne (pc := 117) (tgt := 125) hx hb h dX3_instance_117 (by decide) (fun h => ?_) (fun h => ?_)
  · refine lv_aload_n (pc := 125) hx hb dX3_instance_125 rfl (lv_at hl 1 rfl) ?_
    refine gC_X3_28_3 (pc := 126) X hH dX3_instance_126 ?_
    refine lv_aload_n (pc := 129) hx hb dX3_instance_129 rfl (lv_at hl 1 rfl) ?_
    refine gC_X3_28_3 (pc := 130) X hH dX3_instance_130 ?_
    refine gC_X3_95_1 (pc := 133) X hH dX3_instance_133 ?_
    refine lv_iload_n (pc := 136) hx hb dX3_instance_136 rfl (lv_at hl 2 rfl) ?_
    refine r_ld (pc := 137) X (heC_14 V w) hH h dX3_instance_137 (fun v11 h => ?_)
    refine lv_iload_n (pc := 138) hx hb dX3_instance_138 rfl (lv_at hl 3 rfl) ?_
    refine lv_iload (pc := 139) hx hb dX3_instance_139 (lv_at hl 0 rfl) ?_
    refine r_cvI (pc := 141) (As := [.int v11, .int x3, .int y0]) (rest := []) X hH (fun x hx => mX8_make hx) cw_X3_128 (heC_1 V w) rfl rfl rfl (Nat.le_of_ble_eq_true rfl) hl.1 h dX3_instance_141 (fun w12 v13 H locs h hH => ?_)
    exact kX3_instance_144 X hs_X3_instance  h hH (lv_sub hl [] rfl)
  · refine lv_bipush (pc := 120) (v := -4) hx hb dX3_instance_120 (by decide) ?_
    refine lv_goto (pc := 122) (tgt := 144) hx hb dX3_instance_122 (by decide) ?_
    exact kX3_instance_144 X hs_X3_instance  h hH (lv_sub hl [] rfl)
def bX3_instance_0 (N d : Nat) (self_X3_instance : Wd → Int32 → Int32 → Option (Wd × Int32))  (w : Wd) (x1 : Int32) (x2 : Int32) : Option (Wd × Int32) :=
  c_ld w 19 1000 x1 fun v1 =>
  if v1 = 0 then (
    some (w, x1)
  ) else (
    c_cl (eX8_isVariable N d w x1) fun w2 v3 =>
    if v3 = 0 then (
      if x2 ≤ 30 then (
        c_ld w2 15 1000 x1 fun v4 =>
        c_cl (self_X3_instance w2 v4 (x2 + 1)) fun w5 v6 =>
        if v6 = (-4) then (
          some (w5, -4)
        ) else (
          c_ld w5 16 1000 x1 fun v7 =>
          if v7 = (-1) then (
            bX3_instance_111 N d self_X3_instance  w5 x1 v6 (-1)
          ) else (
            c_ld w5 16 1000 x1 fun v8 =>
            c_cl (self_X3_instance w5 v8 (x2 + 1)) fun w9 v10 =>
            bX3_instance_111 N d self_X3_instance  w9 x1 v6 v10
          )
        )
      ) else (
        some (w2, -4)
      )
    ) else (
      c_ld w2 14 1000 x1 fun v14 =>
      c_ld w2 29 4 (v14 - 10) fun v15 =>
      some (w2, v15)
    )
  )
set_option maxHeartbeats 4000000 in
theorem kX3_instance_0 {V : Ev} {p : Program} {l : Launch} {e : Env} {N d : Nat} {s : State} {m : MethodId} {args : Array Value} {below : List Frame} {meth : Method} {c : Code} {z : Wd × Int32} (X : CX V p s m args meth c cX3_instance 5 RX3 (some .int)) {self_X3_instance : Wd → Int32 → Int32 → Option (Wd × Int32)} (hs_X3_instance : ∀ (w : Wd) (a0 : Int32) (a1 : Int32) (x : Wd × Int32), self_X3_instance w a0 a1 = some x → MetI l V (cC V) (AC V) yX3_instance cX3_instance 5 (some .int) d [.ref (V.2.2 3), .int a0, .int a1] w x)  {w : Wd} {x1 : Int32} {x2 : Int32} {H : Heap} {locs : List Loc} {ls : Array Slot} (h : bX3_instance_0 N d self_X3_instance  w x1 x2 = some z) (hH : wH V (cC V) (AC V) s w H locs) (hl : lv_has ls 5 [(0, .ref (V.2.2 3)), (1, .int x1), (2, .int x2)]) : W p l e (rmD (d + 1)) s m args below meth c H locs 0 0 (MQ below (CtI V (cC V) (AC V) z) args s 0 0 (AC V)) (F0 m 0 ls []) := by
  unfold bX3_instance_0 at h
  obtain ⟨hx, hb, hml, hown, hg, hrt, hlk, hK⟩ := id X
  refine lv_aload_n (pc := 0) hx hb dX3_instance_0 rfl (lv_at hl 0 rfl) ?_
  refine gC_X3_28_3 (pc := 1) X hH dX3_instance_1 ?_
  refine gC_X3_108_1 (pc := 4) X hH dX3_instance_4 ?_
  refine lv_iload_n (pc := 7) hx hb dX3_instance_7 rfl (lv_at hl 1 rfl) ?_
  refine r_ld (pc := 8) X (heC_19 V w) hH h dX3_instance_8 (fun v1 h => ?_)
  refine b_if_ne (pc := 9) (tgt := 14) hx hb h dX3_instance_9 (by decide) (fun h => ?_) (fun h => ?_)
  · refine lv_aload_n (pc := 14) hx hb dX3_instance_14 rfl (lv_at hl 0 rfl) ?_
    refine gC_X3_28_3 (pc := 15) X hH dX3_instance_15 ?_
    refine lv_iload_n (pc := 18) hx hb dX3_instance_18 rfl (lv_at hl 1 rfl) ?_
    refine r_cvI (pc := 19) (As := [.int x1]) (rest := []) X hH (fun x hx => mX8_isVariable hx) cw_X3_111 (heC_1 V w) rfl rfl rfl (Nat.le_of_ble_eq_true rfl) hl.1 h dX3_instance_19 (fun w2 v3 H locs h hH => ?_)
    refine b_if_eq (pc := 22) (tgt := 43) hx hb h dX3_instance_22 (by decide) (fun h => ?_) (fun h => ?_)
    · refine lv_iload_n (pc := 43) hx hb dX3_instance_43 rfl (lv_at hl 2 rfl) ?_
      refine lv_bipush (pc := 44) (v := 30) hx hb dX3_instance_44 (by decide) ?_
      refine b_icmp_le (pc := 46) (tgt := 52) hx hb h dX3_instance_46 (by decide) (fun h => ?_) (fun h => ?_)
      · refine lv_aload_n (pc := 52) hx hb dX3_instance_52 rfl (lv_at hl 0 rfl) ?_
        refine lv_aload_n (pc := 53) hx hb dX3_instance_53 rfl (lv_at hl 0 rfl) ?_
        refine gC_X3_28_3 (pc := 54) X hH dX3_instance_54 ?_
        refine gC_X3_74_1 (pc := 57) X hH dX3_instance_57 ?_
        refine lv_iload_n (pc := 60) hx hb dX3_instance_60 rfl (lv_at hl 1 rfl) ?_
        refine r_ld (pc := 61) X (heC_15 V w2) hH h dX3_instance_61 (fun v4 h => ?_)
        refine lv_iload_n (pc := 62) hx hb dX3_instance_62 rfl (lv_at hl 2 rfl) ?_
        refine lv_iconst (pc := 63) (v := 1) hx hb dX3_instance_63 (by decide) ?_
        refine lv_iadd (pc := 64) hx hb dX3_instance_64 ?_
        refine r_cvI (pc := 65) (As := [.int v4, .int (x2 + 1)]) (rest := []) X hH (fun x hx => hs_X3_instance _ _ _ _ hx) cw_X3_118 (heC_3 V w2) rfl rfl rfl (Nat.le_of_ble_eq_true rfl) hl.1 h dX3_instance_65 (fun w5 v6 H locs h hH => ?_)
        refine lv_istore_n (pc := 68) (lv' := [(3, .int v6), (0, .ref (V.2.2 3)), (1, .int x1), (2, .int x2)]) hx hb dX3_instance_68 rfl hl (by decide) rfl (fun ls hl => ?_)
        refine lv_iload_n (pc := 69) hx hb dX3_instance_69 rfl (lv_at hl 0 rfl) ?_
        refine lv_bipush (pc := 70) (v := -4) hx hb dX3_instance_70 (by decide) ?_
        refine b_icmp_ne (pc := 72) (tgt := 78) hx hb h dX3_instance_72 (by decide) (fun h => ?_) (fun h => ?_)
        · refine lv_aload_n (pc := 78) hx hb dX3_instance_78 rfl (lv_at hl 1 rfl) ?_
          refine gC_X3_28_3 (pc := 79) X hH dX3_instance_79 ?_
          refine gC_X3_79_1 (pc := 82) X hH dX3_instance_82 ?_
          refine lv_iload_n (pc := 85) hx hb dX3_instance_85 rfl (lv_at hl 2 rfl) ?_
          refine r_ld (pc := 86) X (heC_16 V w5) hH h dX3_instance_86 (fun v7 h => ?_)
          refine lv_iconst (pc := 87) (v := -1) hx hb dX3_instance_87 (by decide) ?_
          refine b_icmp_ne (pc := 88) (tgt := 95) hx hb h dX3_instance_88 (by decide) (fun h => ?_) (fun h => ?_)
          · refine lv_aload_n (pc := 95) hx hb dX3_instance_95 rfl (lv_at hl 1 rfl) ?_
            refine lv_aload_n (pc := 96) hx hb dX3_instance_96 rfl (lv_at hl 1 rfl) ?_
            refine gC_X3_28_3 (pc := 97) X hH dX3_instance_97 ?_
            refine gC_X3_79_1 (pc := 100) X hH dX3_instance_100 ?_
            refine lv_iload_n (pc := 103) hx hb dX3_instance_103 rfl (lv_at hl 2 rfl) ?_
            refine r_ld (pc := 104) X (heC_16 V w5) hH h dX3_instance_104 (fun v8 h => ?_)
            refine lv_iload_n (pc := 105) hx hb dX3_instance_105 rfl (lv_at hl 3 rfl) ?_
            refine lv_iconst (pc := 106) (v := 1) hx hb dX3_instance_106 (by decide) ?_
            refine lv_iadd (pc := 107) hx hb dX3_instance_107 ?_
            refine r_cvI (pc := 108) (As := [.int v8, .int (x2 + 1)]) (rest := []) X hH (fun x hx => hs_X3_instance _ _ _ _ hx) cw_X3_118 (heC_3 V w5) rfl rfl rfl (Nat.le_of_ble_eq_true rfl) hl.1 h dX3_instance_108 (fun w9 v10 H locs h hH => ?_)
            exact kX3_instance_111 X hs_X3_instance  h hH (lv_sub hl [1, 2, 0] rfl)
          · refine lv_iconst (pc := 91) (v := -1) hx hb dX3_instance_91 (by decide) ?_
            refine lv_goto (pc := 92) (tgt := 111) hx hb dX3_instance_92 (by decide) ?_
            exact kX3_instance_111 X hs_X3_instance  h hH (lv_sub hl [1, 2, 0] rfl)
        · refine lv_bipush (pc := 75) (v := -4) hx hb dX3_instance_75 (by decide) ?_
          exact r_iret (pc := 77) X hH h dX3_instance_77
      · refine lv_bipush (pc := 49) (v := -4) hx hb dX3_instance_49 (by decide) ?_
        exact r_iret (pc := 51) X hH h dX3_instance_51
    · refine lv_aload_n (pc := 25) hx hb dX3_instance_25 rfl (lv_at hl 0 rfl) ?_
      refine gC_X3_25_3 (pc := 26) X hH dX3_instance_26 ?_
      refine lv_aload_n (pc := 29) hx hb dX3_instance_29 rfl (lv_at hl 0 rfl) ?_
      refine gC_X3_28_3 (pc := 30) X hH dX3_instance_30 ?_
      refine gC_X3_95_1 (pc := 33) X hH dX3_instance_33 ?_
      refine lv_iload_n (pc := 36) hx hb dX3_instance_36 rfl (lv_at hl 1 rfl) ?_
      refine r_ld (pc := 37) X (heC_14 V w2) hH h dX3_instance_37 (fun v14 h => ?_)
      refine lv_bipush (pc := 38) (v := 10) hx hb dX3_instance_38 (by decide) ?_
      refine lv_isub (pc := 40) hx hb dX3_instance_40 ?_
      refine r_ld (pc := 41) X (heC_28 V w2) hH h dX3_instance_41 (fun v15 h => ?_)
      exact r_iret (pc := 42) X hH h dX3_instance_42
  · refine lv_iload_n (pc := 12) hx hb dX3_instance_12 rfl (lv_at hl 1 rfl) ?_
    exact r_iret (pc := 13) X hH h dX3_instance_13
def eX3_instance (N : Nat) : Nat → Wd → Int32 → Int32 → Option (Wd × Int32)
  | 0 => fun _ _ _ => none
  | d + 1 => fun w x1 x2 => bX3_instance_0 N d (eX3_instance N d) w x1 x2
set_option maxHeartbeats 4000000 in
set_option maxRecDepth 20000 in
theorem mX3_instance {l : Launch} {V : Ev} {N d : Nat} {w : Wd} {x1 : Int32} {x2 : Int32} {z : Wd × Int32} (h : eX3_instance N d w x1 x2 = some z) : MetI l V (cC V) (AC V) yX3_instance cX3_instance 5 (some .int) d [.ref (V.2.2 3), .int x1, .int x2] w z := by
  induction d generalizing w x1 x2 z with
  | zero => exact c_none h
  | succ d ih =>
    refine Met.ofW (cc := cX3_instance) (maxL := 5) (ret := (some .int)) (by decide) rfl ?_
    intro p e s m args below meth c s₁ B hml hv
    obtain ⟨rfl, hP, hD, hK⟩ := hv
    have hts := atoms_spec (ws := .code yX3_instance cX3_instance 5 (some .int) :: gG) B.pre
    have X : CX V p s m ([.ref (V.2.2 3), .int x1, .int x2] : List Value).toArray meth c cX3_instance 5 RX3 (some .int) := ⟨B.exec, B.bytes, hml, findClass_of_methodNamed B.named, fun w hw => hts w (List.mem_cons_of_mem _ hw), B.returns, B.notSynchronized, hK⟩
    have hl := lv_entry ([.ref (V.2.2 3), .int x1, .int x2] : List Value) (n := 5) (Nat.le_of_ble_eq_true rfl)
    rw [lg_entry_eq]
    generalize (lg_sl ([.ref (V.2.2 3), .int x1, .int x2] : List Value) ++ List.replicate (5 - (lg_sl ([.ref (V.2.2 3), .int x1, .int x2] : List Value)).length) Slot.unset).toArray = ls at hl ⊢
    have hl : lv_has ls 5 [(0, .ref (V.2.2 3)), (1, .int x1), (2, .int x2)] := hl
    exact kX3_instance_0 (N := N) X (fun _ _ _ _ h => ih h) h ⟨hP, hD, va_S.rf⟩ hl
theorem dX6_add_0 : decode cX6_add 0 = .ok (.aload_n 0, 1) := by decide +kernel
theorem dX6_add_1 : decode cX6_add 1 = .ok (.getfield 19, 3) := by decide +kernel
theorem dX6_add_4 : decode cX6_add 4 = .ok (.bipush 100, 2) := by decide +kernel
theorem dX6_add_6 : decode cX6_add 6 = .ok (.if_icmp .ge 33, 3) := by decide +kernel
theorem dX6_add_9 : decode cX6_add 9 = .ok (.aload_n 0, 1) := by decide +kernel
theorem dX6_add_10 : decode cX6_add 10 = .ok (.getfield 9, 3) := by decide +kernel
theorem dX6_add_13 : decode cX6_add 13 = .ok (.aload_n 0, 1) := by decide +kernel
theorem dX6_add_14 : decode cX6_add 14 = .ok (.getfield 19, 3) := by decide +kernel
theorem dX6_add_17 : decode cX6_add 17 = .ok (.iload_n 1, 1) := by decide +kernel
theorem dX6_add_18 : decode cX6_add 18 = .ok (.iastore, 1) := by decide +kernel
theorem dX6_add_19 : decode cX6_add 19 = .ok (.aload_n 0, 1) := by decide +kernel
theorem dX6_add_20 : decode cX6_add 20 = .ok (.getfield 15, 3) := by decide +kernel
theorem dX6_add_23 : decode cX6_add 23 = .ok (.aload_n 0, 1) := by decide +kernel
theorem dX6_add_24 : decode cX6_add 24 = .ok (.getfield 19, 3) := by decide +kernel
theorem dX6_add_27 : decode cX6_add 27 = .ok (.lload_n 2, 1) := by decide +kernel
theorem dX6_add_28 : decode cX6_add 28 = .ok (.lastore, 1) := by decide +kernel
theorem dX6_add_29 : decode cX6_add 29 = .ok (.aload_n 0, 1) := by decide +kernel
theorem dX6_add_30 : decode cX6_add 30 = .ok (.dup, 1) := by decide +kernel
theorem dX6_add_31 : decode cX6_add 31 = .ok (.getfield 19, 3) := by decide +kernel
theorem dX6_add_34 : decode cX6_add 34 = .ok (.iconst 1, 1) := by decide +kernel
theorem dX6_add_35 : decode cX6_add 35 = .ok (.iadd, 1) := by decide +kernel
theorem dX6_add_36 : decode cX6_add 36 = .ok (.putfield 19, 3) := by decide +kernel
theorem dX6_add_39 : decode cX6_add 39 = .ok (.return_, 1) := by decide +kernel
def bX6_add_39 (N d : Nat)   (w : Wd)  : Option (Wd) :=
  some w
set_option maxHeartbeats 4000000 in
theorem kX6_add_39 {V : Ev} {p : Program} {l : Launch} {e : Env} {N d : Nat} {s : State} {m : MethodId} {args : Array Value} {below : List Frame} {meth : Method} {c : Code} {z : Wd} (X : CX V p s m args meth c cX6_add 4 RX6 none)    {w : Wd}  {H : Heap} {locs : List Loc} {ls : Array Slot} (h : bX6_add_39 N d   w  = some z) (hH : wH V (cC V) (AC V) s w H locs) (hl : lv_has ls 4 []) : W p l e (rmD (d + 1)) s m args below meth c H locs 0 0 (MQ below (CtV V (cC V) (AC V) z) args s 0 0 (AC V)) (F0 m 39 ls []) := by
  unfold bX6_add_39 at h
  obtain ⟨hx, hb, hml, hown, hg, hrt, hlk, hK⟩ := id X
  exact r_vret (pc := 39) X hH h dX6_add_39
def bX6_add_0 (N d : Nat)   (w : Wd) (x1 : Int32) (x2 : Int64) : Option (Wd) :=
  if 100 ≤ (sI w 14) then (
    bX6_add_39 N d   w 
  ) else (
    c_st w 43 100 (sI w 14) x1 fun w1 =>
    c_sl w1 44 100 (sI w1 14) x2 fun w2 =>
    c_pi w2 14 ((sI w2 14) + 1) fun w3 =>
    bX6_add_39 N d   w3 
  )
set_option maxHeartbeats 4000000 in
theorem kX6_add_0 {V : Ev} {p : Program} {l : Launch} {e : Env} {N d : Nat} {s : State} {m : MethodId} {args : Array Value} {below : List Frame} {meth : Method} {c : Code} {z : Wd} (X : CX V p s m args meth c cX6_add 4 RX6 none)    {w : Wd} {x1 : Int32} {x2 : Int64} {H : Heap} {locs : List Loc} {ls : Array Slot} (h : bX6_add_0 N d   w x1 x2 = some z) (hH : wH V (cC V) (AC V) s w H locs) (hl : lv_has ls 4 [(0, .ref (V.2.2 8)), (1, .int x1), (2, .long x2)]) : W p l e (rmD (d + 1)) s m args below meth c H locs 0 0 (MQ below (CtV V (cC V) (AC V) z) args s 0 0 (AC V)) (F0 m 0 ls []) := by
  unfold bX6_add_0 at h
  obtain ⟨hx, hb, hml, hown, hg, hrt, hlk, hK⟩ := id X
  refine lv_aload_n (pc := 0) hx hb dX6_add_0 rfl (lv_at hl 0 rfl) ?_
  refine gC_X6_19_8 (pc := 1) X hH dX6_add_1 ?_
  refine lv_bipush (pc := 4) (v := 100) hx hb dX6_add_4 (by decide) ?_
  refine b_icmp_ge (pc := 6) (tgt := 39) hx hb h dX6_add_6 (by decide) (fun h => ?_) (fun h => ?_)
  · exact kX6_add_39 X   h hH (lv_sub hl [] rfl)
  · refine lv_aload_n (pc := 9) hx hb dX6_add_9 rfl (lv_at hl 0 rfl) ?_
    refine gC_X6_9_8 (pc := 10) X hH dX6_add_10 ?_
    refine lv_aload_n (pc := 13) hx hb dX6_add_13 rfl (lv_at hl 0 rfl) ?_
    refine gC_X6_19_8 (pc := 14) X hH dX6_add_14 ?_
    refine lv_iload_n (pc := 17) hx hb dX6_add_17 rfl (lv_at hl 1 rfl) ?_
    refine r_st (pc := 18) X (heC_39 V w) (hsC_39 V w) hH h dX6_add_18 (fun w1 H locs h hH => ?_)
    refine lv_aload_n (pc := 19) hx hb dX6_add_19 rfl (lv_at hl 0 rfl) ?_
    refine gC_X6_15_8 (pc := 20) X hH dX6_add_20 ?_
    refine lv_aload_n (pc := 23) hx hb dX6_add_23 rfl (lv_at hl 0 rfl) ?_
    refine gC_X6_19_8 (pc := 24) X hH dX6_add_24 ?_
    refine lv_lload_n (pc := 27) hx hb dX6_add_27 rfl (lv_at hl 2 rfl) ?_
    refine r_sl (pc := 28) X (heC_40 V w1) (hsC_40 V w1) hH h dX6_add_28 (fun w2 H locs h hH => ?_)
    refine lv_aload_n (pc := 29) hx hb dX6_add_29 rfl (lv_at hl 0 rfl) ?_
    refine lv_dup (pc := 30) hx hb dX6_add_30 rfl ?_
    refine gC_X6_19_8 (pc := 31) X hH dX6_add_31 ?_
    refine lv_iconst (pc := 34) (v := 1) hx hb dX6_add_34 (by decide) ?_
    refine lv_iadd (pc := 35) hx hb dX6_add_35 ?_
    refine pC_X6_19_8 (pc := 36) X hH h dX6_add_36 (fun w3 H locs h hH => ?_)
    exact kX6_add_39 X   h hH (lv_sub hl [] rfl)
def eX6_add (N : Nat) : Nat → Wd → Int32 → Int64 → Option (Wd)
  | 0 => fun _ _ _ => none
  | d + 1 => fun w x1 x2 => bX6_add_0 N d  w x1 x2
set_option maxHeartbeats 4000000 in
set_option maxRecDepth 20000 in
theorem mX6_add {l : Launch} {V : Ev} {N d : Nat} {w : Wd} {x1 : Int32} {x2 : Int64} {z : Wd} (h : eX6_add N d w x1 x2 = some z) : MetV l V (cC V) (AC V) yX6_add cX6_add 4 none d [.ref (V.2.2 8), .int x1, .long x2] w z := by
  cases d with
  | zero => exact c_none h
  | succ d =>
    refine Met.ofW (cc := cX6_add) (maxL := 4) (ret := none) (by decide) rfl ?_
    intro p e s m args below meth c s₁ B hml hv
    obtain ⟨rfl, hP, hD, hK⟩ := hv
    have hts := atoms_spec (ws := .code yX6_add cX6_add 4 none :: gG) B.pre
    have X : CX V p s m ([.ref (V.2.2 8), .int x1, .long x2] : List Value).toArray meth c cX6_add 4 RX6 none := ⟨B.exec, B.bytes, hml, findClass_of_methodNamed B.named, fun w hw => hts w (List.mem_cons_of_mem _ hw), B.returns, B.notSynchronized, hK⟩
    have hl := lv_entry ([.ref (V.2.2 8), .int x1, .long x2] : List Value) (n := 4) (Nat.le_of_ble_eq_true rfl)
    rw [lg_entry_eq]
    generalize (lg_sl ([.ref (V.2.2 8), .int x1, .long x2] : List Value) ++ List.replicate (4 - (lg_sl ([.ref (V.2.2 8), .int x1, .long x2] : List Value)).length) Slot.unset).toArray = ls at hl ⊢
    have hl : lv_has ls 4 [(0, .ref (V.2.2 8)), (1, .int x1), (2, .long x2)] := hl
    exact kX6_add_0 (N := N) X  h ⟨hP, hD, va_S.rf⟩ hl
theorem dX3_isInFirst_0 : decode cX3_isInFirst 0 = .ok (.aload_n 0, 1) := by decide +kernel
theorem dX3_isInFirst_1 : decode cX3_isInFirst 1 = .ok (.getfield 28, 3) := by decide +kernel
theorem dX3_isInFirst_4 : decode cX3_isInFirst 4 = .ok (.getfield 74, 3) := by decide +kernel
theorem dX3_isInFirst_7 : decode cX3_isInFirst 7 = .ok (.aload_n 0, 1) := by decide +kernel
theorem dX3_isInFirst_8 : decode cX3_isInFirst 8 = .ok (.getfield 22, 3) := by decide +kernel
theorem dX3_isInFirst_11 : decode cX3_isInFirst 11 = .ok (.iload_n 1, 1) := by decide +kernel
theorem dX3_isInFirst_12 : decode cX3_isInFirst 12 = .ok (.iaload, 1) := by decide +kernel
theorem dX3_isInFirst_13 : decode cX3_isInFirst 13 = .ok (.iaload, 1) := by decide +kernel
theorem dX3_isInFirst_14 : decode cX3_isInFirst 14 = .ok (.aload_n 0, 1) := by decide +kernel
theorem dX3_isInFirst_15 : decode cX3_isInFirst 15 = .ok (.getfield 22, 3) := by decide +kernel
theorem dX3_isInFirst_18 : decode cX3_isInFirst 18 = .ok (.iload_n 1, 1) := by decide +kernel
theorem dX3_isInFirst_19 : decode cX3_isInFirst 19 = .ok (.iconst 1, 1) := by decide +kernel
theorem dX3_isInFirst_20 : decode cX3_isInFirst 20 = .ok (.iadd, 1) := by decide +kernel
theorem dX3_isInFirst_21 : decode cX3_isInFirst 21 = .ok (.iaload, 1) := by decide +kernel
theorem dX3_isInFirst_22 : decode cX3_isInFirst 22 = .ok (.if_icmp .ne 7, 3) := by decide +kernel
theorem dX3_isInFirst_25 : decode cX3_isInFirst 25 = .ok (.iconst 1, 1) := by decide +kernel
theorem dX3_isInFirst_26 : decode cX3_isInFirst 26 = .ok (.goto 4, 3) := by decide +kernel
theorem dX3_isInFirst_29 : decode cX3_isInFirst 29 = .ok (.iconst 0, 1) := by decide +kernel
theorem dX3_isInFirst_30 : decode cX3_isInFirst 30 = .ok (.ireturn, 1) := by decide +kernel
def bX3_isInFirst_30 (N d : Nat)   (w : Wd) (y0 : Int32) : Option (Wd × Int32) :=
  c_bo y0 (some (w, y0))
set_option maxHeartbeats 4000000 in
theorem kX3_isInFirst_30 {V : Ev} {p : Program} {l : Launch} {e : Env} {N d : Nat} {s : State} {m : MethodId} {args : Array Value} {below : List Frame} {meth : Method} {c : Code} {z : Wd × Int32} (X : CX V p s m args meth c cX3_isInFirst 2 RX3 (some .boolean))    {w : Wd} {y0 : Int32} {H : Heap} {locs : List Loc} {ls : Array Slot} (h : bX3_isInFirst_30 N d   w y0 = some z) (hH : wH V (cC V) (AC V) s w H locs) (hl : lv_has ls 2 []) : W p l e (rmD (d + 1)) s m args below meth c H locs 0 0 (MQ below (CtI V (cC V) (AC V) z) args s 0 0 (AC V)) (F0 m 30 ls [.int y0]) := by
  unfold bX3_isInFirst_30 at h
  obtain ⟨hx, hb, hml, hown, hg, hrt, hlk, hK⟩ := id X
  exact r_zret (pc := 30) X hH h dX3_isInFirst_30
def bX3_isInFirst_0 (N d : Nat)   (w : Wd) (x1 : Int32) : Option (Wd × Int32) :=
  c_ld w 27 1000 x1 fun v1 =>
  c_ld w 15 1000 v1 fun v2 =>
  c_ld w 27 1000 (x1 + 1) fun v3 =>
  if v2 = v3 then (
    bX3_isInFirst_30 N d   w 1
  ) else (
    bX3_isInFirst_30 N d   w 0
  )
set_option maxHeartbeats 4000000 in
theorem kX3_isInFirst_0 {V : Ev} {p : Program} {l : Launch} {e : Env} {N d : Nat} {s : State} {m : MethodId} {args : Array Value} {below : List Frame} {meth : Method} {c : Code} {z : Wd × Int32} (X : CX V p s m args meth c cX3_isInFirst 2 RX3 (some .boolean))    {w : Wd} {x1 : Int32} {H : Heap} {locs : List Loc} {ls : Array Slot} (h : bX3_isInFirst_0 N d   w x1 = some z) (hH : wH V (cC V) (AC V) s w H locs) (hl : lv_has ls 2 [(0, .ref (V.2.2 3)), (1, .int x1)]) : W p l e (rmD (d + 1)) s m args below meth c H locs 0 0 (MQ below (CtI V (cC V) (AC V) z) args s 0 0 (AC V)) (F0 m 0 ls []) := by
  unfold bX3_isInFirst_0 at h
  obtain ⟨hx, hb, hml, hown, hg, hrt, hlk, hK⟩ := id X
  refine lv_aload_n (pc := 0) hx hb dX3_isInFirst_0 rfl (lv_at hl 0 rfl) ?_
  refine gC_X3_28_3 (pc := 1) X hH dX3_isInFirst_1 ?_
  refine gC_X3_74_1 (pc := 4) X hH dX3_isInFirst_4 ?_
  refine lv_aload_n (pc := 7) hx hb dX3_isInFirst_7 rfl (lv_at hl 0 rfl) ?_
  refine gC_X3_22_3 (pc := 8) X hH dX3_isInFirst_8 ?_
  refine lv_iload_n (pc := 11) hx hb dX3_isInFirst_11 rfl (lv_at hl 1 rfl) ?_
  refine r_ld (pc := 12) X (heC_27 V w) hH h dX3_isInFirst_12 (fun v1 h => ?_)
  refine r_ld (pc := 13) X (heC_15 V w) hH h dX3_isInFirst_13 (fun v2 h => ?_)
  refine lv_aload_n (pc := 14) hx hb dX3_isInFirst_14 rfl (lv_at hl 0 rfl) ?_
  refine gC_X3_22_3 (pc := 15) X hH dX3_isInFirst_15 ?_
  refine lv_iload_n (pc := 18) hx hb dX3_isInFirst_18 rfl (lv_at hl 1 rfl) ?_
  refine lv_iconst (pc := 19) (v := 1) hx hb dX3_isInFirst_19 (by decide) ?_
  refine lv_iadd (pc := 20) hx hb dX3_isInFirst_20 ?_
  refine r_ld (pc := 21) X (heC_27 V w) hH h dX3_isInFirst_21 (fun v3 h => ?_)
  refine b_icmp_ne (pc := 22) (tgt := 29) hx hb h dX3_isInFirst_22 (by decide) (fun h => ?_) (fun h => ?_)
  · refine lv_iconst (pc := 29) (v := 0) hx hb dX3_isInFirst_29 (by decide) ?_
    exact kX3_isInFirst_30 X   h hH (lv_sub hl [] rfl)
  · refine lv_iconst (pc := 25) (v := 1) hx hb dX3_isInFirst_25 (by decide) ?_
    refine lv_goto (pc := 26) (tgt := 30) hx hb dX3_isInFirst_26 (by decide) ?_
    exact kX3_isInFirst_30 X   h hH (lv_sub hl [] rfl)
def eX3_isInFirst (N : Nat) : Nat → Wd → Int32 → Option (Wd × Int32)
  | 0 => fun _ _ => none
  | d + 1 => fun w x1 => bX3_isInFirst_0 N d  w x1
set_option maxHeartbeats 4000000 in
set_option maxRecDepth 20000 in
theorem mX3_isInFirst {l : Launch} {V : Ev} {N d : Nat} {w : Wd} {x1 : Int32} {z : Wd × Int32} (h : eX3_isInFirst N d w x1 = some z) : MetI l V (cC V) (AC V) yX3_isInFirst cX3_isInFirst 2 (some .boolean) d [.ref (V.2.2 3), .int x1] w z := by
  cases d with
  | zero => exact c_none h
  | succ d =>
    refine Met.ofW (cc := cX3_isInFirst) (maxL := 2) (ret := (some .boolean)) (by decide) rfl ?_
    intro p e s m args below meth c s₁ B hml hv
    obtain ⟨rfl, hP, hD, hK⟩ := hv
    have hts := atoms_spec (ws := .code yX3_isInFirst cX3_isInFirst 2 (some .boolean) :: gG) B.pre
    have X : CX V p s m ([.ref (V.2.2 3), .int x1] : List Value).toArray meth c cX3_isInFirst 2 RX3 (some .boolean) := ⟨B.exec, B.bytes, hml, findClass_of_methodNamed B.named, fun w hw => hts w (List.mem_cons_of_mem _ hw), B.returns, B.notSynchronized, hK⟩
    have hl := lv_entry ([.ref (V.2.2 3), .int x1] : List Value) (n := 2) (Nat.le_of_ble_eq_true rfl)
    rw [lg_entry_eq]
    generalize (lg_sl ([.ref (V.2.2 3), .int x1] : List Value) ++ List.replicate (2 - (lg_sl ([.ref (V.2.2 3), .int x1] : List Value)).length) Slot.unset).toArray = ls at hl ⊢
    have hl : lv_has ls 2 [(0, .ref (V.2.2 3)), (1, .int x1)] := hl
    exact kX3_isInFirst_0 (N := N) X  h ⟨hP, hD, va_S.rf⟩ hl
theorem dX10_placeOfPart_0 : decode cX10_placeOfPart 0 = .ok (.ldc2_w 233, 3) := by decide +kernel
theorem dX10_placeOfPart_3 : decode cX10_placeOfPart 3 = .ok (.lload_n 0, 1) := by decide +kernel
theorem dX10_placeOfPart_4 : decode cX10_placeOfPart 4 = .ok (.lmul, 1) := by decide +kernel
theorem dX10_placeOfPart_5 : decode cX10_placeOfPart 5 = .ok (.iload_n 2, 1) := by decide +kernel
theorem dX10_placeOfPart_6 : decode cX10_placeOfPart 6 = .ok (.i2l, 1) := by decide +kernel
theorem dX10_placeOfPart_7 : decode cX10_placeOfPart 7 = .ok (.ladd, 1) := by decide +kernel
theorem dX10_placeOfPart_8 : decode cX10_placeOfPart 8 = .ok (.lstore_n 3, 1) := by decide +kernel
theorem dX10_placeOfPart_9 : decode cX10_placeOfPart 9 = .ok (.lload_n 0, 1) := by decide +kernel
theorem dX10_placeOfPart_10 : decode cX10_placeOfPart 10 = .ok (.lconst 0, 1) := by decide +kernel
theorem dX10_placeOfPart_11 : decode cX10_placeOfPart 11 = .ok (.lcmp, 1) := by decide +kernel
theorem dX10_placeOfPart_12 : decode cX10_placeOfPart 12 = .ok (.ifCond .eq 11, 3) := by decide +kernel
theorem dX10_placeOfPart_15 : decode cX10_placeOfPart 15 = .ok (.lload_n 3, 1) := by decide +kernel
theorem dX10_placeOfPart_16 : decode cX10_placeOfPart 16 = .ok (.ldc2_w 235, 3) := by decide +kernel
theorem dX10_placeOfPart_19 : decode cX10_placeOfPart 19 = .ok (.lcmp, 1) := by decide +kernel
theorem dX10_placeOfPart_20 : decode cX10_placeOfPart 20 = .ok (.ifCond .lt 7, 3) := by decide +kernel
theorem dX10_placeOfPart_23 : decode cX10_placeOfPart 23 = .ok (.lconst 0, 1) := by decide +kernel
theorem dX10_placeOfPart_24 : decode cX10_placeOfPart 24 = .ok (.goto 4, 3) := by decide +kernel
theorem dX10_placeOfPart_27 : decode cX10_placeOfPart 27 = .ok (.lload_n 3, 1) := by decide +kernel
theorem dX10_placeOfPart_28 : decode cX10_placeOfPart 28 = .ok (.lreturn, 1) := by decide +kernel
def bX10_placeOfPart_28 (N d : Nat)   (w : Wd) (y0 : Int64) : Option (Wd × Int64) :=
  some (w, y0)
set_option maxHeartbeats 4000000 in
theorem kX10_placeOfPart_28 {V : Ev} {p : Program} {l : Launch} {e : Env} {N d : Nat} {s : State} {m : MethodId} {args : Array Value} {below : List Frame} {meth : Method} {c : Code} {z : Wd × Int64} (X : CX V p s m args meth c cX10_placeOfPart 5 RX10 (some .long))    {w : Wd} {y0 : Int64} {H : Heap} {locs : List Loc} {ls : Array Slot} (h : bX10_placeOfPart_28 N d   w y0 = some z) (hH : wH V (cC V) (AC V) s w H locs) (hl : lv_has ls 5 []) : W p l e (rmD (d + 1)) s m args below meth c H locs 0 0 (MQ below (CtL V (cC V) (AC V) z) args s 0 0 (AC V)) (F0 m 28 ls [.long y0]) := by
  unfold bX10_placeOfPart_28 at h
  obtain ⟨hx, hb, hml, hown, hg, hrt, hlk, hK⟩ := id X
  exact r_lret (pc := 28) X hH h dX10_placeOfPart_28
def bX10_placeOfPart_23 (N d : Nat)   (w : Wd)  : Option (Wd × Int64) :=
  bX10_placeOfPart_28 N d   w 0
set_option maxHeartbeats 4000000 in
theorem kX10_placeOfPart_23 {V : Ev} {p : Program} {l : Launch} {e : Env} {N d : Nat} {s : State} {m : MethodId} {args : Array Value} {below : List Frame} {meth : Method} {c : Code} {z : Wd × Int64} (X : CX V p s m args meth c cX10_placeOfPart 5 RX10 (some .long))    {w : Wd}  {H : Heap} {locs : List Loc} {ls : Array Slot} (h : bX10_placeOfPart_23 N d   w  = some z) (hH : wH V (cC V) (AC V) s w H locs) (hl : lv_has ls 5 []) : W p l e (rmD (d + 1)) s m args below meth c H locs 0 0 (MQ below (CtL V (cC V) (AC V) z) args s 0 0 (AC V)) (F0 m 23 ls []) := by
  unfold bX10_placeOfPart_23 at h
  obtain ⟨hx, hb, hml, hown, hg, hrt, hlk, hK⟩ := id X
  refine lv_lconst (pc := 23) (v := 0) hx hb dX10_placeOfPart_23 (by decide) ?_
  refine lv_goto (pc := 24) (tgt := 28) hx hb dX10_placeOfPart_24 (by decide) ?_
  exact kX10_placeOfPart_28 X   h hH (lv_sub hl [] rfl)
def bX10_placeOfPart_0 (N d : Nat)   (w : Wd) (x0 : Int64) (x2 : Int32) : Option (Wd × Int64) :=
  c_nm ((3 * x0) + (Int32.toInt64 x2)) fun x3_1 =>
  if (lg_cmp x0 0) = 0 then (
    bX10_placeOfPart_23 N d   w 
  ) else (
    if (lg_cmp x3_1 100000000000000000) < 0 then (
      bX10_placeOfPart_28 N d   w x3_1
    ) else (
      bX10_placeOfPart_23 N d   w 
    )
  )
set_option maxHeartbeats 4000000 in
theorem kX10_placeOfPart_0 {V : Ev} {p : Program} {l : Launch} {e : Env} {N d : Nat} {s : State} {m : MethodId} {args : Array Value} {below : List Frame} {meth : Method} {c : Code} {z : Wd × Int64} (X : CX V p s m args meth c cX10_placeOfPart 5 RX10 (some .long))    {w : Wd} {x0 : Int64} {x2 : Int32} {H : Heap} {locs : List Loc} {ls : Array Slot} (h : bX10_placeOfPart_0 N d   w x0 x2 = some z) (hH : wH V (cC V) (AC V) s w H locs) (hl : lv_has ls 5 [(0, .long x0), (2, .int x2)]) : W p l e (rmD (d + 1)) s m args below meth c H locs 0 0 (MQ below (CtL V (cC V) (AC V) z) args s 0 0 (AC V)) (F0 m 0 ls []) := by
  unfold bX10_placeOfPart_0 at h
  obtain ⟨hx, hb, hml, hown, hg, hrt, hlk, hK⟩ := id X
  refine lv_ldc2 (pc := 0) hx hb hown (hg _ wL_540) dX10_placeOfPart_0 ?_
  refine lv_lload_n (pc := 3) hx hb dX10_placeOfPart_3 rfl (lv_at hl 0 rfl) ?_
  refine lv_lmul (pc := 4) hx hb dX10_placeOfPart_4 ?_
  refine lv_iload_n (pc := 5) hx hb dX10_placeOfPart_5 rfl (lv_at hl 1 rfl) ?_
  refine lv_i2l (pc := 6) hx hb dX10_placeOfPart_6 rfl ?_
  refine lv_ladd (pc := 7) hx hb dX10_placeOfPart_7 ?_
  refine r_nml h (fun x3_1 h => ?_)
  refine lv_lstore_n (pc := 8) (lv' := [(3, .long x3_1), (0, .long x0), (2, .int x2)]) hx hb dX10_placeOfPart_8 rfl hl (by decide) rfl (fun ls hl => ?_)
  refine lv_lload_n (pc := 9) hx hb dX10_placeOfPart_9 rfl (lv_at hl 1 rfl) ?_
  refine lv_lconst (pc := 10) (v := 0) hx hb dX10_placeOfPart_10 (by decide) ?_
  refine W.lcmp (pc := 11) hx hb dX10_placeOfPart_11 ?_
  refine b_if_eq (pc := 12) (tgt := 23) hx hb h dX10_placeOfPart_12 (by decide) (fun h => ?_) (fun h => ?_)
  · exact kX10_placeOfPart_23 X   h hH (lv_sub hl [] rfl)
  · refine lv_lload_n (pc := 15) hx hb dX10_placeOfPart_15 rfl (lv_at hl 0 rfl) ?_
    refine lv_ldc2 (pc := 16) hx hb hown (hg _ wL_541) dX10_placeOfPart_16 ?_
    refine W.lcmp (pc := 19) hx hb dX10_placeOfPart_19 ?_
    refine b_if_lt (pc := 20) (tgt := 27) hx hb h dX10_placeOfPart_20 (by decide) (fun h => ?_) (fun h => ?_)
    · refine lv_lload_n (pc := 27) hx hb dX10_placeOfPart_27 rfl (lv_at hl 0 rfl) ?_
      exact kX10_placeOfPart_28 X   h hH (lv_sub hl [] rfl)
    · exact kX10_placeOfPart_23 X   h hH (lv_sub hl [] rfl)
def eX10_placeOfPart (N : Nat) : Nat → Wd → Int64 → Int32 → Option (Wd × Int64)
  | 0 => fun _ _ _ => none
  | d + 1 => fun w x0 x2 => bX10_placeOfPart_0 N d  w x0 x2
set_option maxHeartbeats 4000000 in
set_option maxRecDepth 20000 in
theorem mX10_placeOfPart {l : Launch} {V : Ev} {N d : Nat} {w : Wd} {x0 : Int64} {x2 : Int32} {z : Wd × Int64} (h : eX10_placeOfPart N d w x0 x2 = some z) : MetL l V (cC V) (AC V) yX10_placeOfPart cX10_placeOfPart 5 (some .long) d [.long x0, .int x2] w z := by
  cases d with
  | zero => exact c_none h
  | succ d =>
    refine Met.ofW (cc := cX10_placeOfPart) (maxL := 5) (ret := (some .long)) (by decide) rfl ?_
    intro p e s m args below meth c s₁ B hml hv
    obtain ⟨rfl, hP, hD, hK⟩ := hv
    have hts := atoms_spec (ws := .code yX10_placeOfPart cX10_placeOfPart 5 (some .long) :: gG) B.pre
    have X : CX V p s m ([.long x0, .int x2] : List Value).toArray meth c cX10_placeOfPart 5 RX10 (some .long) := ⟨B.exec, B.bytes, hml, findClass_of_methodNamed B.named, fun w hw => hts w (List.mem_cons_of_mem _ hw), B.returns, B.notSynchronized, hK⟩
    have hl := lv_entry ([.long x0, .int x2] : List Value) (n := 5) (Nat.le_of_ble_eq_true rfl)
    rw [lg_entry_eq]
    generalize (lg_sl ([.long x0, .int x2] : List Value) ++ List.replicate (5 - (lg_sl ([.long x0, .int x2] : List Value)).length) Slot.unset).toArray = ls at hl ⊢
    have hl : lv_has ls 5 [(0, .long x0), (2, .int x2)] := hl
    exact kX10_placeOfPart_0 (N := N) X  h ⟨hP, hD, va_S.rf⟩ hl
