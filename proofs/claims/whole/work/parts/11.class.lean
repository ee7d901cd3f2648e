theorem dX8_addSign_0 : decode cX8_addSign 0 = .ok (.aload_n 0, 1) := by decide +kernel
theorem dX8_addSign_1 : decode cX8_addSign 1 = .ok (.getfield 46, 3) := by decide +kernel
theorem dX8_addSign_4 : decode cX8_addSign 4 = .ok (.bipush 10, 2) := by decide +kernel
theorem dX8_addSign_6 : decode cX8_addSign 6 = .ok (.if_icmp .lt 6, 3) := by decide +kernel
theorem dX8_addSign_9 : decode cX8_addSign 9 = .ok (.bipush (-4), 2) := by decide +kernel
theorem dX8_addSign_11 : decode cX8_addSign 11 = .ok (.ireturn, 1) := by decide +kernel
theorem dX8_addSign_12 : decode cX8_addSign 12 = .ok (.aload_n 0, 1) := by decide +kernel
theorem dX8_addSign_13 : decode cX8_addSign 13 = .ok (.getfield 9, 3) := by decide +kernel
theorem dX8_addSign_16 : decode cX8_addSign 16 = .ok (.aload_n 0, 1) := by decide +kernel
theorem dX8_addSign_17 : decode cX8_addSign 17 = .ok (.getfield 46, 3) := by decide +kernel
theorem dX8_addSign_20 : decode cX8_addSign 20 = .ok (.iload_n 1, 1) := by decide +kernel
theorem dX8_addSign_21 : decode cX8_addSign 21 = .ok (.iastore, 1) := by decide +kernel
theorem dX8_addSign_22 : decode cX8_addSign 22 = .ok (.aload_n 0, 1) := by decide +kernel
theorem dX8_addSign_23 : decode cX8_addSign 23 = .ok (.getfield 15, 3) := by decide +kernel
theorem dX8_addSign_26 : decode cX8_addSign 26 = .ok (.aload_n 0, 1) := by decide +kernel
theorem dX8_addSign_27 : decode cX8_addSign 27 = .ok (.getfield 46, 3) := by decide +kernel
theorem dX8_addSign_30 : decode cX8_addSign 30 = .ok (.iload_n 2, 1) := by decide +kernel
theorem dX8_addSign_31 : decode cX8_addSign 31 = .ok (.iastore, 1) := by decide +kernel
theorem dX8_addSign_32 : decode cX8_addSign 32 = .ok (.aload_n 0, 1) := by decide +kernel
theorem dX8_addSign_33 : decode cX8_addSign 33 = .ok (.dup, 1) := by decide +kernel
theorem dX8_addSign_34 : decode cX8_addSign 34 = .ok (.getfield 46, 3) := by decide +kernel
theorem dX8_addSign_37 : decode cX8_addSign 37 = .ok (.iconst 1, 1) := by decide +kernel
theorem dX8_addSign_38 : decode cX8_addSign 38 = .ok (.iadd, 1) := by decide +kernel
theorem dX8_addSign_39 : decode cX8_addSign 39 = .ok (.putfield 46, 3) := by decide +kernel
theorem dX8_addSign_42 : decode cX8_addSign 42 = .ok (.aload_n 0, 1) := by decide +kernel
theorem dX8_addSign_43 : decode cX8_addSign 43 = .ok (.getfield 46, 3) := by decide +kernel
theorem dX8_addSign_46 : decode cX8_addSign 46 = .ok (.iconst 1, 1) := by decide +kernel
theorem dX8_addSign_47 : decode cX8_addSign 47 = .ok (.isub, 1) := by decide +kernel
theorem dX8_addSign_48 : decode cX8_addSign 48 = .ok (.ireturn, 1) := by decide +kernel
def bX8_addSign_0 (N d : Nat)   (w : Wd) (x1 : Int32) (x2 : Int32) : Option (Wd × Int32) :=
  if (sI w 0) < 10 then (
    c_st w 12 18 (sI w 0) x1 fun w1 =>
    c_st w1 13 18 (sI w1 0) x2 fun w2 =>
    c_pi w2 0 ((sI w2 0) + 1) fun w3 =>
    some (w3, (sI w3 0) - 1)
  ) else (
    some (w, -4)
  )
set_option maxHeartbeats 4000000 in
theorem kX8_addSign_0 {V : Ev} {p : Program} {l : Launch} {e : Env} {N d : Nat} {s : State} {m : MethodId} {args : Array Value} {below : List Frame} {meth : Method} {c : Code} {z : Wd × Int32} (X : CX V p s m args meth c cX8_addSign 3 RX8 (some .int))    {w : Wd} {x1 : Int32} {x2 : Int32} {H : Heap} {locs : List Loc} {ls : Array Slot} (h : bX8_addSign_0 N d   w x1 x2 = some z) (hH : wH V (cC V) (AC V) s w H locs) (hl : lv_has ls 3 [(0, .ref (V.2.2 1)), (1, .int x1), (2, .int x2)]) : W p l e (rmD (d + 1)) s m args below meth c H locs 0 0 (MQ below (CtI V (cC V) (AC V) z) args s 0 0 (AC V)) (F0 m 0 ls []) := by
  unfold bX8_addSign_0 at h
  obtain ⟨hx, hb, hml, hown, hg, hrt, hlk, hK⟩ := id X
  refine lv_aload_n (pc := 0) hx hb dX8_addSign_0 rfl (lv_at hl 0 rfl) ?_
  refine gC_X8_46_1 (pc := 1) X hH dX8_addSign_1 ?_
  refine lv_bipush (pc := 4) (v := 10) hx hb dX8_addSign_4 (by decide) ?_
  refine b_icmp_lt (pc := 6) (tgt := 12) hx hb h dX8_addSign_6 (by decide) (fun h => ?_) (fun h => ?_)
  · refine lv_aload_n (pc := 12) hx hb dX8_addSign_12 rfl (lv_at hl 0 rfl) ?_
    refine gC_X8_9_1 (pc := 13) X hH dX8_addSign_13 ?_
    refine lv_aload_n (pc := 16) hx hb dX8_addSign_16 rfl (lv_at hl 0 rfl) ?_
    refine gC_X8_46_1 (pc := 17) X hH dX8_addSign_17 ?_
    refine lv_iload_n (pc := 20) hx hb dX8_addSign_20 rfl (lv_at hl 1 rfl) ?_
    refine r_st (pc := 21) X (heC_12 V w) (hsC_12 V w) hH h dX8_addSign_21 (fun w1 H locs h hH => ?_)
    refine lv_aload_n (pc := 22) hx hb dX8_addSign_22 rfl (lv_at hl 0 rfl) ?_
    refine gC_X8_15_1 (pc := 23) X hH dX8_addSign_23 ?_
    refine lv_aload_n (pc := 26) hx hb dX8_addSign_26 rfl (lv_at hl 0 rfl) ?_
    refine gC_X8_46_1 (pc := 27) X hH dX8_addSign_27 ?_
    refine lv_iload_n (pc := 30) hx hb dX8_addSign_30 rfl (lv_at hl 2 rfl) ?_
    refine r_st (pc := 31) X (heC_13 V w1) (hsC_13 V w1) hH h dX8_addSign_31 (fun w2 H locs h hH => ?_)
    refine lv_aload_n (pc := 32) hx hb dX8_addSign_32 rfl (lv_at hl 0 rfl) ?_
    refine lv_dup (pc := 33) hx hb dX8_addSign_33 rfl ?_
    refine gC_X8_46_1 (pc := 34) X hH dX8_addSign_34 ?_
    refine lv_iconst (pc := 37) (v := 1) hx hb dX8_addSign_37 (by decide) ?_
    refine lv_iadd (pc := 38) hx hb dX8_addSign_38 ?_
    refine pC_X8_46_1 (pc := 39) X hH h dX8_addSign_39 (fun w3 H locs h hH => ?_)
    refine lv_aload_n (pc := 42) hx hb dX8_addSign_42 rfl (lv_at hl 0 rfl) ?_
    refine gC_X8_46_1 (pc := 43) X hH dX8_addSign_43 ?_
    refine lv_iconst (pc := 46) (v := 1) hx hb dX8_addSign_46 (by decide) ?_
    refine lv_isub (pc := 47) hx hb dX8_addSign_47 ?_
    exact r_iret (pc := 48) X hH h dX8_addSign_48
  · refine lv_bipush (pc := 9) (v := -4) hx hb dX8_addSign_9 (by decide) ?_
    exact r_iret (pc := 11) X hH h dX8_addSign_11
def eX8_addSign (N : Nat) : Nat → Wd → Int32 → Int32 → Option (Wd × Int32)
  | 0 => fun _ _ _ => none
  | d + 1 => fun w x1 x2 => bX8_addSign_0 N d  w x1 x2
set_option maxHeartbeats 4000000 in
set_option maxRecDepth 20000 in
theorem mX8_addSign {l : Launch} {V : Ev} {N d : Nat} {w : Wd} {x1 : Int32} {x2 : Int32} {z : Wd × Int32} (h : eX8_addSign N d w x1 x2 = some z) : MetI l V (cC V) (AC V) yX8_addSign cX8_addSign 3 (some .int) d [.ref (V.2.2 1), .int x1, .int x2] w z := by
  cases d with
  | zero => exact c_none h
  | succ d =>
    refine Met.ofW (cc := cX8_addSign) (maxL := 3) (ret := (some .int)) (by decide) rfl ?_
    intro p e s m args below meth c s₁ B hml hv
    obtain ⟨rfl, hP, hD, hK⟩ := hv
    have hts := atoms_spec (ws := .code yX8_addSign cX8_addSign 3 (some .int) :: gG) B.pre
    have X : CX V p s m ([.ref (V.2.2 1), .int x1, .int x2] : List Value).toArray meth c cX8_addSign 3 RX8 (some .int) := ⟨B.exec, B.bytes, hml, findClass_of_methodNamed B.named, fun w hw => hts w (List.mem_cons_of_mem _ hw), B.returns, B.notSynchronized, hK⟩
    have hl := lv_entry ([.ref (V.2.2 1), .int x1, .int x2] : List Value) (n := 3) (Nat.le_of_ble_eq_true rfl)
    rw [lg_entry_eq]
    generalize (lg_sl ([.ref (V.2.2 1), .int x1, .int x2] : List Value) ++ List.replicate (3 - (lg_sl ([.ref (V.2.2 1), .int x1, .int x2] : List Value)).length) Slot.unset).toArray = ls at hl ⊢
    have hl : lv_has ls 3 [(0, .ref (V.2.2 1)), (1, .int x1), (2, .int x2)] := hl
    exact kX8_addSign_0 (N := N) X  h ⟨hP, hD, va_S.rf⟩ hl
theorem dX10_sign_0 : decode cX10_sign 0 = .ok (.iload_n 1, 1) := by decide +kernel
theorem dX10_sign_1 : decode cX10_sign 1 = .ok (.ifCond .lt 19, 3) := by decide +kernel
theorem dX10_sign_4 : decode cX10_sign 4 = .ok (.iload_n 1, 1) := by decide +kernel
theorem dX10_sign_5 : decode cX10_sign 5 = .ok (.iconst 2, 1) := by decide +kernel
theorem dX10_sign_6 : decode cX10_sign 6 = .ok (.if_icmp .gt 14, 3) := by decide +kernel
theorem dX10_sign_9 : decode cX10_sign 9 = .ok (.iload_n 2, 1) := by decide +kernel
theorem dX10_sign_10 : decode cX10_sign 10 = .ok (.iconst 1, 1) := by decide +kernel
theorem dX10_sign_11 : decode cX10_sign 11 = .ok (.if_icmp .lt 9, 3) := by decide +kernel
theorem dX10_sign_14 : decode cX10_sign 14 = .ok (.iload_n 2, 1) := by decide +kernel
theorem dX10_sign_15 : decode cX10_sign 15 = .ok (.bipush 9, 2) := by decide +kernel
theorem dX10_sign_17 : decode cX10_sign 17 = .ok (.if_icmp .le 6, 3) := by decide +kernel
theorem dX10_sign_20 : decode cX10_sign 20 = .ok (.bipush (-2), 2) := by decide +kernel
theorem dX10_sign_22 : decode cX10_sign 22 = .ok (.ireturn, 1) := by decide +kernel
theorem dX10_sign_23 : decode cX10_sign 23 = .ok (.aload_n 0, 1) := by decide +kernel
theorem dX10_sign_24 : decode cX10_sign 24 = .ok (.getfield 15, 3) := by decide +kernel
theorem dX10_sign_27 : decode cX10_sign 27 = .ok (.iload_n 1, 1) := by decide +kernel
theorem dX10_sign_28 : decode cX10_sign 28 = .ok (.iload_n 2, 1) := by decide +kernel
theorem dX10_sign_29 : decode cX10_sign 29 = .ok (.invokevirtual 62, 3) := by decide +kernel
theorem dX10_sign_32 : decode cX10_sign 32 = .ok (.ireturn, 1) := by decide +kernel
def bX10_sign_20 (N d : Nat)   (w : Wd)  : Option (Wd × Int32) :=
  some (w, -2)
set_option maxHeartbeats 4000000 in
theorem kX10_sign_20 {V : Ev} {p : Program} {l : Launch} {e : Env} {N d : Nat} {s : State} {m : MethodId} {args : Array Value} {below : List Frame} {meth : Method} {c : Code} {z : Wd × Int32} (X : CX V p s m args meth c cX10_sign 3 RX10 (some .int))    {w : Wd}  {H : Heap} {locs : List Loc} {ls : Array Slot} (h : bX10_sign_20 N d   w  = some z) (hH : wH V (cC V) (AC V) s w H locs) (hl : lv_has ls 3 []) : W p l e (rmD (d + 1)) s m args below meth c H locs 0 0 (MQ below (CtI V (cC V) (AC V) z) args s 0 0 (AC V)) (F0 m 20 ls []) := by
  unfold bX10_sign_20 at h
  obtain ⟨hx, hb, hml, hown, hg, hrt, hlk, hK⟩ := id X
  refine lv_bipush (pc := 20) (v := -2) hx hb dX10_sign_20 (by decide) ?_
  exact r_iret (pc := 22) X hH h dX10_sign_22
def bX10_sign_0 (N d : Nat)   (w : Wd) (x1 : Int32) (x2 : Int32) : Option (Wd × Int32) :=
  if x1 < 0 then (
    bX10_sign_20 N d   w 
  ) else (
    if 2 < x1 then (
      bX10_sign_20 N d   w 
    ) else (
      if x2 < 1 then (
        bX10_sign_20 N d   w 
      ) else (
        if x2 ≤ 9 then (
          c_cl (eX8_addSign N d w x1 x2) fun w1 v2 =>
          some (w1, v2)
        ) else (
          bX10_sign_20 N d   w 
        )
      )
    )
  )
set_option maxHeartbeats 4000000 in
theorem kX10_sign_0 {V : Ev} {p : Program} {l : Launch} {e : Env} {N d : Nat} {s : State} {m : MethodId} {args : Array Value} {below : List Frame} {meth : Method} {c : Code} {z : Wd × Int32} (X : CX V p s m args meth c cX10_sign 3 RX10 (some .int))    {w : Wd} {x1 : Int32} {x2 : Int32} {H : Heap} {locs : List Loc} {ls : Array Slot} (h : bX10_sign_0 N d   w x1 x2 = some z) (hH : wH V (cC V) (AC V) s w H locs) (hl : lv_has ls 3 [(0, .ref (V.2.2 0)), (1, .int x1), (2, .int x2)]) : W p l e (rmD (d + 1)) s m args below meth c H locs 0 0 (MQ below (CtI V (cC V) (AC V) z) args s 0 0 (AC V)) (F0 m 0 ls []) := by
  unfold bX10_sign_0 at h
  obtain ⟨hx, hb, hml, hown, hg, hrt, hlk, hK⟩ := id X
  refine lv_iload_n (pc := 0) hx hb dX10_sign_0 rfl (lv_at hl 1 rfl) ?_
  refine b_if_lt (pc := 1) (tgt := 20) hx hb h dX10_sign_1 (by decide) (fun h => ?_) (fun h => ?_)
  · exact kX10_sign_20 X   h hH (lv_sub hl [] rfl)
  · refine lv_iload_n (pc := 4) hx hb dX10_sign_4 rfl (lv_at hl 1 rfl) ?_
    refine lv_iconst (pc := 5) (v := 2) hx hb dX10_sign_5 (by decide) ?_
    refine b_icmp_gt (pc := 6) (tgt := 20) hx hb h dX10_sign_6 (by decide) (fun h => ?_) (fun h => ?_)
    · exact kX10_sign_20 X   h hH (lv_sub hl [] rfl)
    · refine lv_iload_n (pc := 9) hx hb dX10_sign_9 rfl (lv_at hl 2 rfl) ?_
      refine lv_iconst (pc := 10) (v := 1) hx hb dX10_sign_10 (by decide) ?_
      refine b_icmp_lt (pc := 11) (tgt := 20) hx hb h dX10_sign_11 (by decide) (fun h => ?_) (fun h => ?_)
      · exact kX10_sign_20 X   h hH (lv_sub hl [] rfl)
      · refine lv_iload_n (pc := 14) hx hb dX10_sign_14 rfl (lv_at hl 2 rfl) ?_
        refine lv_bipush (pc := 15) (v := 9) hx hb dX10_sign_15 (by decide) ?_
        refine b_icmp_le (pc := 17) (tgt := 23) hx hb h dX10_sign_17 (by decide) (fun h => ?_) (fun h => ?_)
        · refine lv_aload_n (pc := 23) hx hb dX10_sign_23 rfl (lv_at hl 0 rfl) ?_
          refine gC_X10_15_0 (pc := 24) X hH dX10_sign_24 ?_
          refine lv_iload_n (pc := 27) hx hb dX10_sign_27 rfl (lv_at hl 1 rfl) ?_
          refine lv_iload_n (pc := 28) hx hb dX10_sign_28 rfl (lv_at hl 2 rfl) ?_
          refine r_cvI (pc := 29) (As := [.int x1, .int x2]) (rest := []) X hH (fun x hx => mX8_addSign hx) cw_X10_62 (heC_1 V w) rfl rfl rfl (Nat.le_of_ble_eq_true rfl) hl.1 h dX10_sign_29 (fun w1 v2 H locs h hH => ?_)
          exact r_iret (pc := 32) X hH h dX10_sign_32
        · exact kX10_sign_20 X   h hH (lv_sub hl [] rfl)
def eX10_sign (N : Nat) : Nat → Wd → Int32 → Int32 → Option (Wd × Int32)
  | 0 => fun _ _ _ => none
  | d + 1 => fun w x1 x2 => bX10_sign_0 N d  w x1 x2
set_option maxHeartbeats 4000000 in
set_option maxRecDepth 20000 in
theorem mX10_sign {l : Launch} {V : Ev} {N d : Nat} {w : Wd} {x1 : Int32} {x2 : Int32} {z : Wd × Int32} (h : eX10_sign N d w x1 x2 = some z) : MetI l V (cC V) (AC V) yX10_sign cX10_sign 3 (some .int) d [.ref (V.2.2 0), .int x1, .int x2] w z := by
  cases d with
  | zero => exact c_none h
  | succ d =>
    refine Met.ofW (cc := cX10_sign) (maxL := 3) (ret := (some .int)) (by decide) rfl ?_
    intro p e s m args below meth c s₁ B hml hv
    obtain ⟨rfl, hP, hD, hK⟩ := hv
    have hts := atoms_spec (ws := .code yX10_sign cX10_sign 3 (some .int) :: gG) B.pre
    have X : CX V p s m ([.ref (V.2.2 0), .int x1, .int x2] : List Value).toArray meth c cX10_sign 3 RX10 (some .int) := ⟨B.exec, B.bytes, hml, findClass_of_methodNamed B.named, fun w hw => hts w (List.mem_cons_of_mem _ hw), B.returns, B.notSynchronized, hK⟩
    have hl := lv_entry ([.ref (V.2.2 0), .int x1, .int x2] : List Value) (n := 3) (Nat.le_of_ble_eq_true rfl)
    rw [lg_entry_eq]
    generalize (lg_sl ([.ref (V.2.2 0), .int x1, .int x2] : List Value) ++ List.replicate (3 - (lg_sl ([.ref (V.2.2 0), .int x1, .int x2] : List Value)).length) Slot.unset).toArray = ls at hl ⊢
    have hl : lv_has ls 3 [(0, .ref (V.2.2 0)), (1, .int x1), (2, .int x2)] := hl
    exact kX10_sign_0 (N := N) X  h ⟨hP, hD, va_S.rf⟩ hl
theorem dX10_isWithin_0 : decode cX10_isWithin 0 = .ok (.iload_n 0, 1) := by decide +kernel
theorem dX10_isWithin_1 : decode cX10_isWithin 1 = .ok (.ifCond .lt 12, 3) := by decide +kernel
theorem dX10_isWithin_4 : decode cX10_isWithin 4 = .ok (.iload_n 0, 1) := by decide +kernel
theorem dX10_isWithin_5 : decode cX10_isWithin 5 = .ok (.iload_n 1, 1) := by decide +kernel
theorem dX10_isWithin_6 : decode cX10_isWithin 6 = .ok (.if_icmp .ge 7, 3) := by decide +kernel
theorem dX10_isWithin_9 : decode cX10_isWithin 9 = .ok (.iconst 1, 1) := by decide +kernel
theorem dX10_isWithin_10 : decode cX10_isWithin 10 = .ok (.goto 4, 3) := by decide +kernel
theorem dX10_isWithin_13 : decode cX10_isWithin 13 = .ok (.iconst 0, 1) := by decide +kernel
theorem dX10_isWithin_14 : decode cX10_isWithin 14 = .ok (.ireturn, 1) := by decide +kernel
def bX10_isWithin_14 (N d : Nat)   (w : Wd) (y0 : Int32) : Option (Wd × Int32) :=
  c_bo y0 (some (w, y0))
set_option maxHeartbeats 4000000 in
theorem kX10_isWithin_14 {V : Ev} {p : Program} {l : Launch} {e : Env} {N d : Nat} {s : State} {m : MethodId} {args : Array Value} {below : List Frame} {meth : Method} {c : Code} {z : Wd × Int32} (X : CX V p s m args meth c cX10_isWithin 2 RX10 (some .boolean))    {w : Wd} {y0 : Int32} {H : Heap} {locs : List Loc} {ls : Array Slot} (h : bX10_isWithin_14 N d   w y0 = some z) (hH : wH V (cC V) (AC V) s w H locs) (hl : lv_has ls 2 []) : W p l e (rmD (d + 1)) s m args below meth c H locs 0 0 (MQ below (CtI V (cC V) (AC V) z) args s 0 0 (AC V)) (F0 m 14 ls [.int y0]) := by
  unfold bX10_isWithin_14 at h
  obtain ⟨hx, hb, hml, hown, hg, hrt, hlk, hK⟩ := id X
  exact r_zret (pc := 14) X hH h dX10_isWithin_14
def bX10_isWithin_13 (N d : Nat)   (w : Wd)  : Option (Wd × Int32) :=
  bX10_isWithin_14 N d   w 0
set_option maxHeartbeats 4000000 in
theorem kX10_isWithin_13 {V : Ev} {p : Program} {l : Launch} {e : Env} {N d : Nat} {s : State} {m : MethodId} {args : Array Value} {below : List Frame} {meth : Method} {c : Code} {z : Wd × Int32} (X : CX V p s m args meth c cX10_isWithin 2 RX10 (some .boolean))    {w : Wd}  {H : Heap} {locs : List Loc} {ls : Array Slot} (h : bX10_isWithin_13 N d   w  = some z) (hH : wH V (cC V) (AC V) s w H locs) (hl : lv_has ls 2 []) : W p l e (rmD (d + 1)) s m args below meth c H locs 0 0 (MQ below (CtI V (cC V) (AC V) z) args s 0 0 (AC V)) (F0 m 13 ls []) := by
  unfold bX10_isWithin_13 at h
  obtain ⟨hx, hb, hml, hown, hg, hrt, hlk, hK⟩ := id X
  refine lv_iconst (pc := 13) (v := 0) hx hb dX10_isWithin_13 (by decide) ?_
  exact kX10_isWithin_14 X   h hH (lv_sub hl [] rfl)
def bX10_isWithin_0 (N d : Nat)   (w : Wd) (x0 : Int32) (x1 : Int32) : Option (Wd × Int32) :=
  if x0 < 0 then (
    bX10_isWithin_13 N d   w 
  ) else (
    if x1 ≤ x0 then (
      bX10_isWithin_13 N d   w 
    ) else (
      bX10_isWithin_14 N d   w 1
    )
  )
set_option maxHeartbeats 4000000 in
theorem kX10_isWithin_0 {V : Ev} {p : Program} {l : Launch} {e : Env} {N d : Nat} {s : State} {m : MethodId} {args : Array Value} {below : List Frame} {meth : Method} {c : Code} {z : Wd × Int32} (X : CX V p s m args meth c cX10_isWithin 2 RX10 (some .boolean))    {w : Wd} {x0 : Int32} {x1 : Int32} {H : Heap} {locs : List Loc} {ls : Array Slot} (h : bX10_isWithin_0 N d   w x0 x1 = some z) (hH : wH V (cC V) (AC V) s w H locs) (hl : lv_has ls 2 [(0, .int x0), (1, .int x1)]) : W p l e (rmD (d + 1)) s m args below meth c H locs 0 0 (MQ below (CtI V (cC V) (AC V) z) args s 0 0 (AC V)) (F0 m 0 ls []) := by
  unfold bX10_isWithin_0 at h
  obtain ⟨hx, hb, hml, hown, hg, hrt, hlk, hK⟩ := id X
  refine lv_iload_n (pc := 0) hx hb dX10_isWithin_0 rfl (lv_at hl 0 rfl) ?_
  refine b_if_lt (pc := 1) (tgt := 13) hx hb h dX10_isWithin_1 (by decide) (fun h => ?_) (fun h => ?_)
  · exact kX10_isWithin_13 X   h hH (lv_sub hl [] rfl)
  · refine lv_iload_n (pc := 4) hx hb dX10_isWithin_4 rfl (lv_at hl 0 rfl) ?_
    refine lv_iload_n (pc := 5) hx hb dX10_isWithin_5 rfl (lv_at hl 1 rfl) ?_
    refine b_icmp_ge (pc := 6) (tgt := 13) hx hb h dX10_isWithin_6 (by decide) (fun h => ?_) (fun h => ?_)
    · exact kX10_isWithin_13 X   h hH (lv_sub hl [] rfl)
    · refine lv_iconst (pc := 9) (v := 1) hx hb dX10_isWithin_9 (by decide) ?_
      refine lv_goto (pc := 10) (tgt := 14) hx hb dX10_isWithin_10 (by decide) ?_
      exact kX10_isWithin_14 X   h hH (lv_sub hl [] rfl)
def eX10_isWithin (N : Nat) : Nat → Wd → Int32 → Int32 → Option (Wd × Int32)
  | 0 => fun _ _ _ => none
  | d + 1 => fun w x0 x1 => bX10_isWithin_0 N d  w x0 x1
set_option maxHeartbeats 4000000 in
set_option maxRecDepth 20000 in
theorem mX10_isWithin {l : Launch} {V : Ev} {N d : Nat} {w : Wd} {x0 : Int32} {x1 : Int32} {z : Wd × Int32} (h : eX10_isWithin N d w x0 x1 = some z) : MetI l V (cC V) (AC V) yX10_isWithin cX10_isWithin 2 (some .boolean) d [.int x0, .int x1] w z := by
  cases d with
  | zero => exact c_none h
  | succ d =>
    refine Met.ofW (cc := cX10_isWithin) (maxL := 2) (ret := (some .boolean)) (by decide) rfl ?_
    intro p e s m args below meth c s₁ B hml hv
    obtain ⟨rfl, hP, hD, hK⟩ := hv
    have hts := atoms_spec (ws := .code yX10_isWithin cX10_isWithin 2 (some .boolean) :: gG) B.pre
    have X : CX V p s m ([.int x0, .int x1] : List Value).toArray meth c cX10_isWithin 2 RX10 (some .boolean) := ⟨B.exec, B.bytes, hml, findClass_of_methodNamed B.named, fun w hw => hts w (List.mem_cons_of_mem _ hw), B.returns, B.notSynchronized, hK⟩
    have hl := lv_entry ([.int x0, .int x1] : List Value) (n := 2) (Nat.le_of_ble_eq_true rfl)
    rw [lg_entry_eq]
    generalize (lg_sl ([.int x0, .int x1] : List Value) ++ List.replicate (2 - (lg_sl ([.int x0, .int x1] : List Value)).length) Slot.unset).toArray = ls at hl ⊢
    have hl : lv_has ls 2 [(0, .int x0), (1, .int x1)] := hl
    exact kX10_isWithin_0 (N := N) X  h ⟨hP, hD, va_S.rf⟩ hl
theorem dX8_bucketOf_0 : decode cX8_bucketOf 0 = .ok (.iload_n 0, 1) := by decide +kernel
theorem dX8_bucketOf_1 : decode cX8_bucketOf 1 = .ok (.bipush 31, 2) := by decide +kernel
theorem dX8_bucketOf_3 : decode cX8_bucketOf 3 = .ok (.imul, 1) := by decide +kernel
theorem dX8_bucketOf_4 : decode cX8_bucketOf 4 = .ok (.iload_n 1, 1) := by decide +kernel
theorem dX8_bucketOf_5 : decode cX8_bucketOf 5 = .ok (.iadd, 1) := by decide +kernel
theorem dX8_bucketOf_6 : decode cX8_bucketOf 6 = .ok (.bipush 67, 2) := by decide +kernel
theorem dX8_bucketOf_8 : decode cX8_bucketOf 8 = .ok (.imul, 1) := by decide +kernel
theorem dX8_bucketOf_9 : decode cX8_bucketOf 9 = .ok (.iload_n 2, 1) := by decide +kernel
theorem dX8_bucketOf_10 : decode cX8_bucketOf 10 = .ok (.iadd, 1) := by decide +kernel
theorem dX8_bucketOf_11 : decode cX8_bucketOf 11 = .ok (.sipush 255, 3) := by decide +kernel
theorem dX8_bucketOf_14 : decode cX8_bucketOf 14 = .ok (.iand, 1) := by decide +kernel
theorem dX8_bucketOf_15 : decode cX8_bucketOf 15 = .ok (.ireturn, 1) := by decide +kernel
def bX8_bucketOf_0 (N d : Nat)   (w : Wd) (x0 : Int32) (x1 : Int32) (x2 : Int32) : Option (Wd × Int32) :=
  some (w, ((((x0 * 31) + x1) * 67) + x2) &&& 255)
set_option maxHeartbeats 4000000 in
theorem kX8_bucketOf_0 {V : Ev} {p : Program} {l : Launch} {e : Env} {N d : Nat} {s : State} {m : MethodId} {args : Array Value} {below : List Frame} {meth : Method} {c : Code} {z : Wd × Int32} (X : CX V p s m args meth c cX8_bucketOf 3 RX8 (some .int))    {w : Wd} {x0 : Int32} {x1 : Int32} {x2 : Int32} {H : Heap} {locs : List Loc} {ls : Array Slot} (h : bX8_bucketOf_0 N d   w x0 x1 x2 = some z) (hH : wH V (cC V) (AC V) s w H locs) (hl : lv_has ls 3 [(0, .int x0), (1, .int x1), (2, .int x2)]) : W p l e (rmD (d + 1)) s m args below meth c H locs 0 0 (MQ below (CtI V (cC V) (AC V) z) args s 0 0 (AC V)) (F0 m 0 ls []) := by
  unfold bX8_bucketOf_0 at h
  obtain ⟨hx, hb, hml, hown, hg, hrt, hlk, hK⟩ := id X
  refine lv_iload_n (pc := 0) hx hb dX8_bucketOf_0 rfl (lv_at hl 0 rfl) ?_
  refine lv_bipush (pc := 1) (v := 31) hx hb dX8_bucketOf_1 (by decide) ?_
  refine lv_imul (pc := 3) hx hb dX8_bucketOf_3 ?_
  refine lv_iload_n (pc := 4) hx hb dX8_bucketOf_4 rfl (lv_at hl 1 rfl) ?_
  refine lv_iadd (pc := 5) hx hb dX8_bucketOf_5 ?_
  refine lv_bipush (pc := 6) (v := 67) hx hb dX8_bucketOf_6 (by decide) ?_
  refine lv_imul (pc := 8) hx hb dX8_bucketOf_8 ?_
  refine lv_iload_n (pc := 9) hx hb dX8_bucketOf_9 rfl (lv_at hl 2 rfl) ?_
  refine lv_iadd (pc := 10) hx hb dX8_bucketOf_10 ?_
  refine lv_sipush (pc := 11) (v := 255) hx hb dX8_bucketOf_11 (by decide) ?_
  refine lv_iand (pc := 14) hx hb dX8_bucketOf_14 ?_
  exact r_iret (pc := 15) X hH h dX8_bucketOf_15
def eX8_bucketOf (N : Nat) : Nat → Wd → Int32 → Int32 → Int32 → Option (Wd × Int32)
  | 0 => fun _ _ _ _ => none
  | d + 1 => fun w x0 x1 x2 => bX8_bucketOf_0 N d  w x0 x1 x2
set_option maxHeartbeats 4000000 in
set_option maxRecDepth 20000 in
theorem mX8_bucketOf {l : Launch} {V : Ev} {N d : Nat} {w : Wd} {x0 : Int32} {x1 : Int32} {x2 : Int32} {z : Wd × Int32} (h : eX8_bucketOf N d w x0 x1 x2 = some z) : MetI l V (cC V) (AC V) yX8_bucketOf cX8_bucketOf 3 (some .int) d [.int x0, .int x1, .int x2] w z := by
  cases d with
  | zero => exact c_none h
  | succ d =>
    refine Met.ofW (cc := cX8_bucketOf) (maxL := 3) (ret := (some .int)) (by decide) rfl ?_
    intro p e s m args below meth c s₁ B hml hv
    obtain ⟨rfl, hP, hD, hK⟩ := hv
    have hts := atoms_spec (ws := .code yX8_bucketOf cX8_bucketOf 3 (some .int) :: gG) B.pre
    have X : CX V p s m ([.int x0, .int x1, .int x2] : List Value).toArray meth c cX8_bucketOf 3 RX8 (some .int) := ⟨B.exec, B.bytes, hml, findClass_of_methodNamed B.named, fun w hw => hts w (List.mem_cons_of_mem _ hw), B.returns, B.notSynchronized, hK⟩
    have hl := lv_entry ([.int x0, .int x1, .int x2] : List Value) (n := 3) (Nat.le_of_ble_eq_true rfl)
    rw [lg_entry_eq]
    generalize (lg_sl ([.int x0, .int x1, .int x2] : List Value) ++ List.replicate (3 - (lg_sl ([.int x0, .int x1, .int x2] : List Value)).length) Slot.unset).toArray = ls at hl ⊢
    have hl : lv_has ls 3 [(0, .int x0), (1, .int x1), (2, .int x2)] := hl
    exact kX8_bucketOf_0 (N := N) X  h ⟨hP, hD, va_S.rf⟩ hl
theorem dX8_find_0 : decode cX8_find 0 = .ok (.aload_n 0, 1) := by decide +kernel
theorem dX8_find_1 : decode cX8_find 1 = .ok (.getfield 37, 3) := by decide +kernel
theorem dX8_find_4 : decode cX8_find 4 = .ok (.iload_n 1, 1) := by decide +kernel
theorem dX8_find_5 : decode cX8_find 5 = .ok (.iaload, 1) := by decide +kernel
theorem dX8_find_6 : decode cX8_find 6 = .ok (.iconst 1, 1) := by decide +kernel
theorem dX8_find_7 : decode cX8_find 7 = .ok (.isub, 1) := by decide +kernel
theorem dX8_find_8 : decode cX8_find 8 = .ok (.istore 5, 2) := by decide +kernel
theorem dX8_find_10 : decode cX8_find 10 = .ok (.iconst 0, 1) := by decide +kernel
theorem dX8_find_11 : decode cX8_find 11 = .ok (.istore 6, 2) := by decide +kernel
theorem dX8_find_13 : decode cX8_find 13 = .ok (.iload 6, 2) := by decide +kernel
theorem dX8_find_15 : decode cX8_find 15 = .ok (.sipush 1000, 3) := by decide +kernel
theorem dX8_find_18 : decode cX8_find 18 = .ok (.if_icmp .ge 62, 3) := by decide +kernel
theorem dX8_find_21 : decode cX8_find 21 = .ok (.iload 5, 2) := by decide +kernel
theorem dX8_find_23 : decode cX8_find 23 = .ok (.ifCond .lt 57, 3) := by decide +kernel
theorem dX8_find_26 : decode cX8_find 26 = .ok (.aload_n 0, 1) := by decide +kernel
theorem dX8_find_27 : decode cX8_find 27 = .ok (.getfield 18, 3) := by decide +kernel
theorem dX8_find_30 : decode cX8_find 30 = .ok (.iload 5, 2) := by decide +kernel
theorem dX8_find_32 : decode cX8_find 32 = .ok (.iaload, 1) := by decide +kernel
theorem dX8_find_33 : decode cX8_find 33 = .ok (.iload_n 2, 1) := by decide +kernel
theorem dX8_find_34 : decode cX8_find 34 = .ok (.if_icmp .ne 29, 3) := by decide +kernel
theorem dX8_find_37 : decode cX8_find 37 = .ok (.aload_n 0, 1) := by decide +kernel
theorem dX8_find_38 : decode cX8_find 38 = .ok (.getfield 21, 3) := by decide +kernel
theorem dX8_find_41 : decode cX8_find 41 = .ok (.iload 5, 2) := by decide +kernel
theorem dX8_find_43 : decode cX8_find 43 = .ok (.iaload, 1) := by decide +kernel
theorem dX8_find_44 : decode cX8_find 44 = .ok (.iload_n 3, 1) := by decide +kernel
theorem dX8_find_45 : decode cX8_find 45 = .ok (.if_icmp .ne 18, 3) := by decide +kernel
theorem dX8_find_48 : decode cX8_find 48 = .ok (.aload_n 0, 1) := by decide +kernel
theorem dX8_find_49 : decode cX8_find 49 = .ok (.getfield 24, 3) := by decide +kernel
theorem dX8_find_52 : decode cX8_find 52 = .ok (.iload 5, 2) := by decide +kernel
theorem dX8_find_54 : decode cX8_find 54 = .ok (.iaload, 1) := by decide +kernel
theorem dX8_find_55 : decode cX8_find 55 = .ok (.iload 4, 2) := by decide +kernel
theorem dX8_find_57 : decode cX8_find 57 = .ok (.if_icmp .ne 6, 3) := by decide +kernel
theorem dX8_find_60 : decode cX8_find 60 = .ok (.iload 5, 2) := by decide +kernel
theorem dX8_find_62 : decode cX8_find 62 = .ok (.ireturn, 1) := by decide +kernel
theorem dX8_find_63 : decode cX8_find 63 = .ok (.aload_n 0, 1) := by decide +kernel
theorem dX8_find_64 : decode cX8_find 64 = .ok (.getfield 40, 3) := by decide +kernel
theorem dX8_find_67 : decode cX8_find 67 = .ok (.iload 5, 2) := by decide +kernel
theorem dX8_find_69 : decode cX8_find 69 = .ok (.iaload, 1) := by decide +kernel
theorem dX8_find_70 : decode cX8_find 70 = .ok (.iconst 1, 1) := by decide +kernel
theorem dX8_find_71 : decode cX8_find 71 = .ok (.isub, 1) := by decide +kernel
theorem dX8_find_72 : decode cX8_find 72 = .ok (.istore 5, 2) := by decide +kernel
theorem dX8_find_74 : decode cX8_find 74 = .ok (.iinc 6 1, 3) := by decide +kernel
theorem dX8_find_77 : decode cX8_find 77 = .ok (.goto (-64), 3) := by decide +kernel
theorem dX8_find_80 : decode cX8_find 80 = .ok (.iconst (-1), 1) := by decide +kernel
theorem dX8_find_81 : decode cX8_find 81 = .ok (.ireturn, 1) := by decide +kernel
def bX8_find_80 (N d : Nat)   (w : Wd)  : Option (Wd × Int32) :=
  some (w, -1)
set_option maxHeartbeats 4000000 in
theorem kX8_find_80 {V : Ev} {p : Program} {l : Launch} {e : Env} {N d : Nat} {s : State} {m : MethodId} {args : Array Value} {below : List Frame} {meth : Method} {c : Code} {z : Wd × Int32} (X : CX V p s m args meth c cX8_find 7 RX8 (some .int))    {w : Wd}  {H : Heap} {locs : List Loc} {ls : Array Slot} (h : bX8_find_80 N d   w  = some z) (hH : wH V (cC V) (AC V) s w H locs) (hl : lv_has ls 7 []) : W p l e (rmD (d + 1)) s m args below meth c H locs 0 0 (MQ below (CtI V (cC V) (AC V) z) args s 0 0 (AC V)) (F0 m 80 ls []) := by
  unfold bX8_find_80 at h
  obtain ⟨hx, hb, hml, hown, hg, hrt, hlk, hK⟩ := id X
  refine lv_iconst (pc := 80) (v := -1) hx hb dX8_find_80 (by decide) ?_
  exact r_iret (pc := 81) X hH h dX8_find_81
def bX8_find_63 (N d : Nat)  (rec13 : Wd → Int32 → Int32 → Int32 → Int32 → Int32 → Option (Wd × Int32)) (w : Wd) (x2 : Int32) (x3 : Int32) (x4 : Int32) (x5 : Int32) (x6 : Int32) : Option (Wd × Int32) :=
  c_ld w 21 1000 x5 fun v4 =>
  c_nm (v4 - 1) fun x5_5 =>
  c_nm (x6 + 1) fun x6_6 =>
  rec13 w x2 x3 x4 x5_5 x6_6
set_option maxHeartbeats 4000000 in
theorem kX8_find_63 {V : Ev} {p : Program} {l : Launch} {e : Env} {N d : Nat} {s : State} {m : MethodId} {args : Array Value} {below : List Frame} {meth : Method} {c : Code} {z : Wd × Int32} (X : CX V p s m args meth c cX8_find 7 RX8 (some .int))   {rec13 : Wd → Int32 → Int32 → Int32 → Int32 → Int32 → Option (Wd × Int32)} (hr13 : ∀ (w : Wd) (x2 : Int32) (x3 : Int32) (x4 : Int32) (x5 : Int32) (x6 : Int32) (H : Heap) (locs : List Loc) (ls : Array Slot), rec13 w x2 x3 x4 x5 x6 = some z → wH V (cC V) (AC V) s w H locs → lv_has ls 7 [(0, .ref (V.2.2 1)), (2, .int x2), (3, .int x3), (4, .int x4), (5, .int x5), (6, .int x6)] → W p l e (rmD (d + 1)) s m args below meth c H locs 0 0 (MQ below (CtI V (cC V) (AC V) z) args s 0 0 (AC V)) (F0 m 13 ls [])) {w : Wd} {x2 : Int32} {x3 : Int32} {x4 : Int32} {x5 : Int32} {x6 : Int32} {H : Heap} {locs : List Loc} {ls : Array Slot} (h : bX8_find_63 N d  rec13 w x2 x3 x4 x5 x6 = some z) (hH : wH V (cC V) (AC V) s w H locs) (hl : lv_has ls 7 [(0, .ref (V.2.2 1)), (2, .int x2), (3, .int x3), (4, .int x4), (5, .int x5), (6, .int x6)]) : W p l e (rmD (d + 1)) s m args below meth c H locs 0 0 (MQ below (CtI V (cC V) (AC V) z) args s 0 0 (AC V)) (F0 m 63 ls []) := by
  unfold bX8_find_63 at h
  obtain ⟨hx, hb, hml, hown, hg, hrt, hlk, hK⟩ := id X
  refine lv_aload_n (pc := 63) hx hb dX8_find_63 rfl (lv_at hl 0 rfl) ?_
  refine gC_X8_40_1 (pc := 64) X hH dX8_find_64 ?_
  refine lv_iload (pc := 67) hx hb dX8_find_67 (lv_at hl 4 rfl) ?_
  refine r_ld (pc := 69) X (heC_21 V w) hH h dX8_find_69 (fun v4 h => ?_)
  refine lv_iconst (pc := 70) (v := 1) hx hb dX8_find_70 (by decide) ?_
  refine lv_isub (pc := 71) hx hb dX8_find_71 ?_
  refine r_nmi h (fun x5_5 h => ?_)
  refine lv_istore (pc := 72) (lv' := [(5, .int x5_5), (0, .ref (V.2.2 1)), (2, .int x2), (3, .int x3), (4, .int x4), (6, .int x6)]) hx hb dX8_find_72 hl (by decide) rfl (fun ls hl => ?_)
  obtain ⟨x6_6, ex6_6, h⟩ := c_nm_ex h
  refine lv_iinc (pc := 74) (v := x6_6) (lv' := [(6, .int x6_6), (5, .int x5_5), (0, .ref (V.2.2 1)), (2, .int x2), (3, .int x3), (4, .int x4)]) hx hb dX8_find_74 hl (k := 5) rfl (by rw [← ex6_6]; rfl) (by decide) rfl (fun ls hl => ?_)
  refine lv_goto (pc := 77) (tgt := 13) hx hb dX8_find_77 (by decide) ?_
  exact hr13 _ _ _ _ _ _ _ _ _ h hH (lv_sub hl [2, 3, 4, 5, 1, 0] rfl)
def bX8_find_13 (N d : Nat)  (rec13 : Wd → Int32 → Int32 → Int32 → Int32 → Int32 → Option (Wd × Int32)) (w : Wd) (x2 : Int32) (x3 : Int32) (x4 : Int32) (x5 : Int32) (x6 : Int32) : Option (Wd × Int32) :=
  if 1000 ≤ x6 then (
    bX8_find_80 N d   w 
  ) else (
    if x5 < 0 then (
      bX8_find_80 N d   w 
    ) else (
      c_ld w 14 1000 x5 fun v3 =>
      if v3 = x2 then (
        c_ld w 15 1000 x5 fun v7 =>
        if v7 = x3 then (
          c_ld w 16 1000 x5 fun v8 =>
          if v8 = x4 then (
            some (w, x5)
          ) else (
            bX8_find_63 N d  rec13 w x2 x3 x4 x5 x6
          )
        ) else (
          bX8_find_63 N d  rec13 w x2 x3 x4 x5 x6
        )
      ) else (
        bX8_find_63 N d  rec13 w x2 x3 x4 x5 x6
      )
    )
  )
set_option maxHeartbeats 4000000 in
theorem kX8_find_13 {V : Ev} {p : Program} {l : Launch} {e : Env} {N d : Nat} {s : State} {m : MethodId} {args : Array Value} {below : List Frame} {meth : Method} {c : Code} {z : Wd × Int32} (X : CX V p s m args meth c cX8_find 7 RX8 (some .int))   {rec13 : Wd → Int32 → Int32 → Int32 → Int32 → Int32 → Option (Wd × Int32)} (hr13 : ∀ (w : Wd) (x2 : Int32) (x3 : Int32) (x4 : Int32) (x5 : Int32) (x6 : Int32) (H : Heap) (locs : List Loc) (ls : Array Slot), rec13 w x2 x3 x4 x5 x6 = some z → wH V (cC V) (AC V) s w H locs → lv_has ls 7 [(0, .ref (V.2.2 1)), (2, .int x2), (3, .int x3), (4, .int x4), (5, .int x5), (6, .int x6)] → W p l e (rmD (d + 1)) s m args below meth c H locs 0 0 (MQ below (CtI V (cC V) (AC V) z) args s 0 0 (AC V)) (F0 m 13 ls [])) {w : Wd} {x2 : Int32} {x3 : Int32} {x4 : Int32} {x5 : Int32} {x6 : Int32} {H : Heap} {locs : List Loc} {ls : Array Slot} (h : bX8_find_13 N d  rec13 w x2 x3 x4 x5 x6 = some z) (hH : wH V (cC V) (AC V) s w H locs) (hl : lv_has ls 7 [(0, .ref (V.2.2 1)), (2, .int x2), (3, .int x3), (4, .int x4), (5, .int x5), (6, .int x6)]) : W p l e (rmD (d + 1)) s m args below meth c H locs 0 0 (MQ below (CtI V (cC V) (AC V) z) args s 0 0 (AC V)) (F0 m 13 ls []) := by
  unfold bX8_find_13 at h
  obtain ⟨hx, hb, hml, hown, hg, hrt, hlk, hK⟩ := id X
  refine lv_iload (pc := 13) hx hb dX8_find_13 (lv_at hl 5 rfl) ?_
  refine lv_sipush (pc := 15) (v := 1000) hx hb dX8_find_15 (by decide) ?_
  refine b_icmp_ge (pc := 18) (tgt := 80) hx hb h dX8_find_18 (by decide) (fun h => ?_) (fun h => ?_)
  · exact kX8_find_80 X   h hH (lv_sub hl [] rfl)
  · refine lv_iload (pc := 21) hx hb dX8_find_21 (lv_at hl 4 rfl) ?_
    refine b_if_lt (pc := 23) (tgt := 80) hx hb h dX8_find_23 (by decide) (fun h => ?_) (fun h => ?_)
    · exact kX8_find_80 X   h hH (lv_sub hl [] rfl)
    · refine lv_aload_n (pc := 26) hx hb dX8_find_26 rfl (lv_at hl 0 rfl) ?_
      refine gC_X8_18_1 (pc := 27) X hH dX8_find_27 ?_
      refine lv_iload (pc := 30) hx hb dX8_find_30 (lv_at hl 4 rfl) ?_
      refine r_ld (pc := 32) X (heC_14 V w) hH h dX8_find_32 (fun v3 h => ?_)
      refine lv_iload_n (pc := 33) hx hb dX8_find_33 rfl (lv_at hl 1 rfl) ?_
      refine b_icmp_ne (pc := 34) (tgt := 63) hx hb h dX8_find_34 (by decide) (fun h => ?_) (fun h => ?_)
      · exact kX8_find_63 X  hr13 h hH (lv_sub hl [0, 1, 2, 3, 4, 5] rfl)
      · refine lv_aload_n (pc := 37) hx hb dX8_find_37 rfl (lv_at hl 0 rfl) ?_
        refine gC_X8_21_1 (pc := 38) X hH dX8_find_38 ?_
        refine lv_iload (pc := 41) hx hb dX8_find_41 (lv_at hl 4 rfl) ?_
        refine r_ld (pc := 43) X (heC_15 V w) hH h dX8_find_43 (fun v7 h => ?_)
        refine lv_iload_n (pc := 44) hx hb dX8_find_44 rfl (lv_at hl 2 rfl) ?_
        refine b_icmp_ne (pc := 45) (tgt := 63) hx hb h dX8_find_45 (by decide) (fun h => ?_) (fun h => ?_)
        · exact kX8_find_63 X  hr13 h hH (lv_sub hl [0, 1, 2, 3, 4, 5] rfl)
        · refine lv_aload_n (pc := 48) hx hb dX8_find_48 rfl (lv_at hl 0 rfl) ?_
          refine gC_X8_24_1 (pc := 49) X hH dX8_find_49 ?_
          refine lv_iload (pc := 52) hx hb dX8_find_52 (lv_at hl 4 rfl) ?_
          refine r_ld (pc := 54) X (heC_16 V w) hH h dX8_find_54 (fun v8 h => ?_)
          refine lv_iload (pc := 55) hx hb dX8_find_55 (lv_at hl 3 rfl) ?_
          refine b_icmp_ne (pc := 57) (tgt := 63) hx hb h dX8_find_57 (by decide) (fun h => ?_) (fun h => ?_)
          · exact kX8_find_63 X  hr13 h hH (lv_sub hl [0, 1, 2, 3, 4, 5] rfl)
          · refine lv_iload (pc := 60) hx hb dX8_find_60 (lv_at hl 4 rfl) ?_
            exact r_iret (pc := 62) X hH h dX8_find_62
def fX8_find_13 (N d : Nat)   : Nat → Wd → Int32 → Int32 → Int32 → Int32 → Int32 → Option (Wd × Int32)
  | 0 => fun _ _ _ _ _ _ => none
  | n + 1 => fun w x2 x3 x4 x5 x6 => bX8_find_13 N d   (fX8_find_13 N d   n) w x2 x3 x4 x5 x6
theorem lX8_find_13 {V : Ev} {p : Program} {l : Launch} {e : Env} {N d : Nat} {s : State} {m : MethodId} {args : Array Value} {below : List Frame} {meth : Method} {c : Code} {z : Wd × Int32} (X : CX V p s m args meth c cX8_find 7 RX8 (some .int))    (n : Nat) {w : Wd} {x2 : Int32} {x3 : Int32} {x4 : Int32} {x5 : Int32} {x6 : Int32} {H : Heap} {locs : List Loc} {ls : Array Slot} (h : fX8_find_13 N d   n w x2 x3 x4 x5 x6 = some z) (hH : wH V (cC V) (AC V) s w H locs) (hl : lv_has ls 7 [(0, .ref (V.2.2 1)), (2, .int x2), (3, .int x3), (4, .int x4), (5, .int x5), (6, .int x6)]) : W p l e (rmD (d + 1)) s m args below meth c H locs 0 0 (MQ below (CtI V (cC V) (AC V) z) args s 0 0 (AC V)) (F0 m 13 ls []) := by
  induction n generalizing w x2 x3 x4 x5 x6 H locs ls with
  | zero => exact c_none h
  | succ n ih => exact kX8_find_13 (N := N) X  (fun _ _ _ _ _ _ _ _ _ h hH hl => ih h hH hl) h hH hl
def bX8_find_0 (N d : Nat)   (w : Wd) (x1 : Int32) (x2 : Int32) (x3 : Int32) (x4 : Int32) : Option (Wd × Int32) :=
  c_ld w 20 256 x1 fun v1 =>
  c_nm (v1 - 1) fun x5_2 =>
  fX8_find_13 N d   N w x2 x3 x4 x5_2 ((0 : Int32))
set_option maxHeartbeats 4000000 in
theorem kX8_find_0 {V : Ev} {p : Program} {l : Launch} {e : Env} {N d : Nat} {s : State} {m : MethodId} {args : Array Value} {below : List Frame} {meth : Method} {c : Code} {z : Wd × Int32} (X : CX V p s m args meth c cX8_find 7 RX8 (some .int))    {w : Wd} {x1 : Int32} {x2 : Int32} {x3 : Int32} {x4 : Int32} {H : Heap} {locs : List Loc} {ls : Array Slot} (h : bX8_find_0 N d   w x1 x2 x3 x4 = some z) (hH : wH V (cC V) (AC V) s w H locs) (hl : lv_has ls 7 [(0, .ref (V.2.2 1)), (1, .int x1), (2, .int x2), (3, .int x3), (4, .int x4)]) : W p l e (rmD (d + 1)) s m args below meth c H locs 0 0 (MQ below (CtI V (cC V) (AC V) z) args s 0 0 (AC V)) (F0 m 0 ls []) := by
  unfold bX8_find_0 at h
  obtain ⟨hx, hb, hml, hown, hg, hrt, hlk, hK⟩ := id X
  refine lv_aload_n (pc := 0) hx hb dX8_find_0 rfl (lv_at hl 0 rfl) ?_
  refine gC_X8_37_1 (pc := 1) X hH dX8_find_1 ?_
  refine lv_iload_n (pc := 4) hx hb dX8_find_4 rfl (lv_at hl 1 rfl) ?_
  refine r_ld (pc := 5) X (heC_20 V w) hH h dX8_find_5 (fun v1 h => ?_)
  refine lv_iconst (pc := 6) (v := 1) hx hb dX8_find_6 (by decide) ?_
  refine lv_isub (pc := 7) hx hb dX8_find_7 ?_
  refine r_nmi h (fun x5_2 h => ?_)
  refine lv_istore (pc := 8) (lv' := [(5, .int x5_2), (0, .ref (V.2.2 1)), (1, .int x1), (2, .int x2), (3, .int x3), (4, .int x4)]) hx hb dX8_find_8 hl (by decide) rfl (fun ls hl => ?_)
  refine lv_iconst (pc := 10) (v := 0) hx hb dX8_find_10 (by decide) ?_
  refine lv_istore (pc := 11) (lv' := [(6, .int ((0 : Int32))), (5, .int x5_2), (0, .ref (V.2.2 1)), (1, .int x1), (2, .int x2), (3, .int x3), (4, .int x4)]) hx hb dX8_find_11 hl (by decide) rfl (fun ls hl => ?_)
  exact lX8_find_13 X   N h hH (lv_sub hl [2, 4, 5, 6, 1, 0] rfl)
def eX8_find (N : Nat) : Nat → Wd → Int32 → Int32 → Int32 → Int32 → Option (Wd × Int32)
  | 0 => fun _ _ _ _ _ => none
  | d + 1 => fun w x1 x2 x3 x4 => bX8_find_0 N d  w x1 x2 x3 x4
set_option maxHeartbeats 4000000 in
set_option maxRecDepth 20000 in
theorem mX8_find {l : Launch} {V : Ev} {N d : Nat} {w : Wd} {x1 : Int32} {x2 : Int32} {x3 : Int32} {x4 : Int32} {z : Wd × Int32} (h : eX8_find N d w x1 x2 x3 x4 = some z) : MetI l V (cC V) (AC V) yX8_find cX8_find 7 (some .int) d [.ref (V.2.2 1), .int x1, .int x2, .int x3, .int x4] w z := by
  cases d with
  | zero => exact c_none h
  | succ d =>
    refine Met.ofW (cc := cX8_find) (maxL := 7) (ret := (some .int)) (by decide) rfl ?_
    intro p e s m args below meth c s₁ B hml hv
    obtain ⟨rfl, hP, hD, hK⟩ := hv
    have hts := atoms_spec (ws := .code yX8_find cX8_find 7 (some .int) :: gG) B.pre
    have X : CX V p s m ([.ref (V.2.2 1), .int x1, .int x2, .int x3, .int x4] : List Value).toArray meth c cX8_find 7 RX8 (some .int) := ⟨B.exec, B.bytes, hml, findClass_of_methodNamed B.named, fun w hw => hts w (List.mem_cons_of_mem _ hw), B.returns, B.notSynchronized, hK⟩
    have hl := lv_entry ([.ref (V.2.2 1), .int x1, .int x2, .int x3, .int x4] : List Value) (n := 7) (Nat.le_of_ble_eq_true rfl)
    rw [lg_entry_eq]
    generalize (lg_sl ([.ref (V.2.2 1), .int x1, .int x2, .int x3, .int x4] : List Value) ++ List.replicate (7 - (lg_sl ([.ref (V.2.2 1), .int x1, .int x2, .int x3, .int x4] : List Value)).length) Slot.unset).toArray = ls at hl ⊢
    have hl : lv_has ls 7 [(0, .ref (V.2.2 1)), (1, .int x1), (2, .int x2), (3, .int x3), (4, .int x4)] := hl
    exact kX8_find_0 (N := N) X  h ⟨hP, hD, va_S.rf⟩ hl
theorem dX8_measure_0 : decode cX8_measure 0 = .ok (.lconst 1, 1) := by decide +kernel
theorem dX8_measure_1 : decode cX8_measure 1 = .ok (.lstore_n 2, 1) := by decide +kernel
theorem dX8_measure_2 : decode cX8_measure 2 = .ok (.aload_n 0, 1) := by decide +kernel
theorem dX8_measure_3 : decode cX8_measure 3 = .ok (.getfield 15, 3) := by decide +kernel
theorem dX8_measure_6 : decode cX8_measure 6 = .ok (.aload_n 0, 1) := by decide +kernel
theorem dX8_measure_7 : decode cX8_measure 7 = .ok (.getfield 18, 3) := by decide +kernel
theorem dX8_measure_10 : decode cX8_measure 10 = .ok (.iload_n 1, 1) := by decide +kernel
theorem dX8_measure_11 : decode cX8_measure 11 = .ok (.iaload, 1) := by decide +kernel
theorem dX8_measure_12 : decode cX8_measure 12 = .ok (.iaload, 1) := by decide +kernel
theorem dX8_measure_13 : decode cX8_measure 13 = .ok (.i2l, 1) := by decide +kernel
theorem dX8_measure_14 : decode cX8_measure 14 = .ok (.lstore 4, 2) := by decide +kernel
theorem dX8_measure_16 : decode cX8_measure 16 = .ok (.aload_n 0, 1) := by decide +kernel
theorem dX8_measure_17 : decode cX8_measure 17 = .ok (.getfield 18, 3) := by decide +kernel
theorem dX8_measure_20 : decode cX8_measure 20 = .ok (.iload_n 1, 1) := by decide +kernel
theorem dX8_measure_21 : decode cX8_measure 21 = .ok (.iaload, 1) := by decide +kernel
theorem dX8_measure_22 : decode cX8_measure 22 = .ok (.bipush 10, 2) := by decide +kernel
theorem dX8_measure_24 : decode cX8_measure 24 = .ok (.isub, 1) := by decide +kernel
theorem dX8_measure_25 : decode cX8_measure 25 = .ok (.istore 6, 2) := by decide +kernel
theorem dX8_measure_27 : decode cX8_measure 27 = .ok (.iload 6, 2) := by decide +kernel
theorem dX8_measure_29 : decode cX8_measure 29 = .ok (.ifCond .lt 10, 3) := by decide +kernel
theorem dX8_measure_32 : decode cX8_measure 32 = .ok (.iconst 1, 1) := by decide +kernel
theorem dX8_measure_33 : decode cX8_measure 33 = .ok (.iload 6, 2) := by decide +kernel
theorem dX8_measure_35 : decode cX8_measure 35 = .ok (.ishl, 1) := by decide +kernel
theorem dX8_measure_36 : decode cX8_measure 36 = .ok (.goto 4, 3) := by decide +kernel
theorem dX8_measure_39 : decode cX8_measure 39 = .ok (.iconst 0, 1) := by decide +kernel
theorem dX8_measure_40 : decode cX8_measure 40 = .ok (.istore 7, 2) := by decide +kernel
theorem dX8_measure_42 : decode cX8_measure 42 = .ok (.aload_n 0, 1) := by decide +kernel
theorem dX8_measure_43 : decode cX8_measure 43 = .ok (.getfield 21, 3) := by decide +kernel
theorem dX8_measure_46 : decode cX8_measure 46 = .ok (.iload_n 1, 1) := by decide +kernel
theorem dX8_measure_47 : decode cX8_measure 47 = .ok (.iaload, 1) := by decide +kernel
theorem dX8_measure_48 : decode cX8_measure 48 = .ok (.iconst (-1), 1) := by decide +kernel
theorem dX8_measure_49 : decode cX8_measure 49 = .ok (.if_icmp .eq 49, 3) := by decide +kernel
theorem dX8_measure_52 : decode cX8_measure 52 = .ok (.lload_n 2, 1) := by decide +kernel
theorem dX8_measure_53 : decode cX8_measure 53 = .ok (.aload_n 0, 1) := by decide +kernel
theorem dX8_measure_54 : decode cX8_measure 54 = .ok (.getfield 27, 3) := by decide +kernel
theorem dX8_measure_57 : decode cX8_measure 57 = .ok (.aload_n 0, 1) := by decide +kernel
theorem dX8_measure_58 : decode cX8_measure 58 = .ok (.getfield 21, 3) := by decide +kernel
theorem dX8_measure_61 : decode cX8_measure 61 = .ok (.iload_n 1, 1) := by decide +kernel
theorem dX8_measure_62 : decode cX8_measure 62 = .ok (.iaload, 1) := by decide +kernel
theorem dX8_measure_63 : decode cX8_measure 63 = .ok (.laload, 1) := by decide +kernel
theorem dX8_measure_64 : decode cX8_measure 64 = .ok (.ladd, 1) := by decide +kernel
theorem dX8_measure_65 : decode cX8_measure 65 = .ok (.lstore_n 2, 1) := by decide +kernel
theorem dX8_measure_66 : decode cX8_measure 66 = .ok (.lload 4, 2) := by decide +kernel
theorem dX8_measure_68 : decode cX8_measure 68 = .ok (.aload_n 0, 1) := by decide +kernel
theorem dX8_measure_69 : decode cX8_measure 69 = .ok (.getfield 31, 3) := by decide +kernel
theorem dX8_measure_72 : decode cX8_measure 72 = .ok (.aload_n 0, 1) := by decide +kernel
theorem dX8_measure_73 : decode cX8_measure 73 = .ok (.getfield 21, 3) := by decide +kernel
theorem dX8_measure_76 : decode cX8_measure 76 = .ok (.iload_n 1, 1) := by decide +kernel
theorem dX8_measure_77 : decode cX8_measure 77 = .ok (.iaload, 1) := by decide +kernel
theorem dX8_measure_78 : decode cX8_measure 78 = .ok (.laload, 1) := by decide +kernel
theorem dX8_measure_79 : decode cX8_measure 79 = .ok (.ladd, 1) := by decide +kernel
theorem dX8_measure_80 : decode cX8_measure 80 = .ok (.lstore 4, 2) := by decide +kernel
theorem dX8_measure_82 : decode cX8_measure 82 = .ok (.iload 7, 2) := by decide +kernel
theorem dX8_measure_84 : decode cX8_measure 84 = .ok (.aload_n 0, 1) := by decide +kernel
theorem dX8_measure_85 : decode cX8_measure 85 = .ok (.getfield 34, 3) := by decide +kernel
theorem dX8_measure_88 : decode cX8_measure 88 = .ok (.aload_n 0, 1) := by decide +kernel
theorem dX8_measure_89 : decode cX8_measure 89 = .ok (.getfield 21, 3) := by decide +kernel
theorem dX8_measure_92 : decode cX8_measure 92 = .ok (.iload_n 1, 1) := by decide +kernel
theorem dX8_measure_93 : decode cX8_measure 93 = .ok (.iaload, 1) := by decide +kernel
theorem dX8_measure_94 : decode cX8_measure 94 = .ok (.iaload, 1) := by decide +kernel
theorem dX8_measure_95 : decode cX8_measure 95 = .ok (.ior, 1) := by decide +kernel
theorem dX8_measure_96 : decode cX8_measure 96 = .ok (.istore 7, 2) := by decide +kernel
theorem dX8_measure_98 : decode cX8_measure 98 = .ok (.aload_n 0, 1) := by decide +kernel
theorem dX8_measure_99 : decode cX8_measure 99 = .ok (.getfield 24, 3) := by decide +kernel
theorem dX8_measure_102 : decode cX8_measure 102 = .ok (.iload_n 1, 1) := by decide +kernel
theorem dX8_measure_103 : decode cX8_measure 103 = .ok (.iaload, 1) := by decide +kernel
theorem dX8_measure_104 : decode cX8_measure 104 = .ok (.iconst (-1), 1) := by decide +kernel
theorem dX8_measure_105 : decode cX8_measure 105 = .ok (.if_icmp .eq 49, 3) := by decide +kernel
theorem dX8_measure_108 : decode cX8_measure 108 = .ok (.lload_n 2, 1) := by decide +kernel
theorem dX8_measure_109 : decode cX8_measure 109 = .ok (.aload_n 0, 1) := by decide +kernel
theorem dX8_measure_110 : decode cX8_measure 110 = .ok (.getfield 27, 3) := by decide +kernel
theorem dX8_measure_113 : decode cX8_measure 113 = .ok (.aload_n 0, 1) := by decide +kernel
theorem dX8_measure_114 : decode cX8_measure 114 = .ok (.getfield 24, 3) := by decide +kernel
theorem dX8_measure_117 : decode cX8_measure 117 = .ok (.iload_n 1, 1) := by decide +kernel
theorem dX8_measure_118 : decode cX8_measure 118 = .ok (.iaload, 1) := by decide +kernel
theorem dX8_measure_119 : decode cX8_measure 119 = .ok (.laload, 1) := by decide +kernel
theorem dX8_measure_120 : decode cX8_measure 120 = .ok (.ladd, 1) := by decide +kernel
theorem dX8_measure_121 : decode cX8_measure 121 = .ok (.lstore_n 2, 1) := by decide +kernel
theorem dX8_measure_122 : decode cX8_measure 122 = .ok (.lload 4, 2) := by decide +kernel
theorem dX8_measure_124 : decode cX8_measure 124 = .ok (.aload_n 0, 1) := by decide +kernel
theorem dX8_measure_125 : decode cX8_measure 125 = .ok (.getfield 31, 3) := by decide +kernel
theorem dX8_measure_128 : decode cX8_measure 128 = .ok (.aload_n 0, 1) := by decide +kernel
theorem dX8_measure_129 : decode cX8_measure 129 = .ok (.getfield 24, 3) := by decide +kernel
theorem dX8_measure_132 : decode cX8_measure 132 = .ok (.iload_n 1, 1) := by decide +kernel
theorem dX8_measure_133 : decode cX8_measure 133 = .ok (.iaload, 1) := by decide +kernel
theorem dX8_measure_134 : decode cX8_measure 134 = .ok (.laload, 1) := by decide +kernel
theorem dX8_measure_135 : decode cX8_measure 135 = .ok (.ladd, 1) := by decide +kernel
theorem dX8_measure_136 : decode cX8_measure 136 = .ok (.lstore 4, 2) := by decide +kernel
theorem dX8_measure_138 : decode cX8_measure 138 = .ok (.iload 7, 2) := by decide +kernel
theorem dX8_measure_140 : decode cX8_measure 140 = .ok (.aload_n 0, 1) := by decide +kernel
theorem dX8_measure_141 : decode cX8_measure 141 = .ok (.getfield 34, 3) := by decide +kernel
theorem dX8_measure_144 : decode cX8_measure 144 = .ok (.aload_n 0, 1) := by decide +kernel
theorem dX8_measure_145 : decode cX8_measure 145 = .ok (.getfield 24, 3) := by decide +kernel
theorem dX8_measure_148 : decode cX8_measure 148 = .ok (.iload_n 1, 1) := by decide +kernel
theorem dX8_measure_149 : decode cX8_measure 149 = .ok (.iaload, 1) := by decide +kernel
theorem dX8_measure_150 : decode cX8_measure 150 = .ok (.iaload, 1) := by decide +kernel
theorem dX8_measure_151 : decode cX8_measure 151 = .ok (.ior, 1) := by decide +kernel
theorem dX8_measure_152 : decode cX8_measure 152 = .ok (.istore 7, 2) := by decide +kernel
theorem dX8_measure_154 : decode cX8_measure 154 = .ok (.aload_n 0, 1) := by decide +kernel
theorem dX8_measure_155 : decode cX8_measure 155 = .ok (.getfield 27, 3) := by decide +kernel
theorem dX8_measure_158 : decode cX8_measure 158 = .ok (.iload_n 1, 1) := by decide +kernel
theorem dX8_measure_159 : decode cX8_measure 159 = .ok (.lload_n 2, 1) := by decide +kernel
theorem dX8_measure_160 : decode cX8_measure 160 = .ok (.ldc2_w 74, 3) := by decide +kernel
theorem dX8_measure_163 : decode cX8_measure 163 = .ok (.lcmp, 1) := by decide +kernel
theorem dX8_measure_164 : decode cX8_measure 164 = .ok (.ifCond .le 9, 3) := by decide +kernel
theorem dX8_measure_167 : decode cX8_measure 167 = .ok (.ldc2_w 74, 3) := by decide +kernel
theorem dX8_measure_170 : decode cX8_measure 170 = .ok (.goto 4, 3) := by decide +kernel
theorem dX8_measure_173 : decode cX8_measure 173 = .ok (.lload_n 2, 1) := by decide +kernel
theorem dX8_measure_174 : decode cX8_measure 174 = .ok (.lastore, 1) := by decide +kernel
theorem dX8_measure_175 : decode cX8_measure 175 = .ok (.aload_n 0, 1) := by decide +kernel
theorem dX8_measure_176 : decode cX8_measure 176 = .ok (.getfield 31, 3) := by decide +kernel
theorem dX8_measure_179 : decode cX8_measure 179 = .ok (.iload_n 1, 1) := by decide +kernel
theorem dX8_measure_180 : decode cX8_measure 180 = .ok (.lload 4, 2) := by decide +kernel
theorem dX8_measure_182 : decode cX8_measure 182 = .ok (.ldc2_w 74, 3) := by decide +kernel
theorem dX8_measure_185 : decode cX8_measure 185 = .ok (.lcmp, 1) := by decide +kernel
theorem dX8_measure_186 : decode cX8_measure 186 = .ok (.ifCond .le 9, 3) := by decide +kernel
theorem dX8_measure_189 : decode cX8_measure 189 = .ok (.ldc2_w 74, 3) := by decide +kernel
theorem dX8_measure_192 : decode cX8_measure 192 = .ok (.goto 5, 3) := by decide +kernel
theorem dX8_measure_195 : decode cX8_measure 195 = .ok (.lload 4, 2) := by decide +kernel
theorem dX8_measure_197 : decode cX8_measure 197 = .ok (.lastore, 1) := by decide +kernel
theorem dX8_measure_198 : decode cX8_measure 198 = .ok (.aload_n 0, 1) := by decide +kernel
theorem dX8_measure_199 : decode cX8_measure 199 = .ok (.getfield 34, 3) := by decide +kernel
theorem dX8_measure_202 : decode cX8_measure 202 = .ok (.iload_n 1, 1) := by decide +kernel
theorem dX8_measure_203 : decode cX8_measure 203 = .ok (.iload 7, 2) := by decide +kernel
theorem dX8_measure_205 : decode cX8_measure 205 = .ok (.iastore, 1) := by decide +kernel
theorem dX8_measure_206 : decode cX8_measure 206 = .ok (.return_, 1) := by decide +kernel
def bX8_measure_197 (N d : Nat)   (w : Wd) (x1 : Int32) (x7 : Int32) (y1 : Int32) (y2 : Int64) : Option (Wd) :=
  c_sl w 18 1000 y1 y2 fun w9 =>
  c_st w9 19 1000 x1 x7 fun w10 =>
  some w10
set_option maxHeartbeats 4000000 in
theorem kX8_measure_197 {V : Ev} {p : Program} {l : Launch} {e : Env} {N d : Nat} {s : State} {m : MethodId} {args : Array Value} {below : List Frame} {meth : Method} {c : Code} {z : Wd} (X : CX V p s m args meth c cX8_measure 8 RX8 none)    {w : Wd} {x1 : Int32} {x7 : Int32} {y1 : Int32} {y2 : Int64} {H : Heap} {locs : List Loc} {ls : Array Slot} (h : bX8_measure_197 N d   w x1 x7 y1 y2 = some z) (hH : wH V (cC V) (AC V) s w H locs) (hl : lv_has ls 8 [(0, .ref (V.2.2 1)), (1, .int x1), (7, .int x7)]) : W p l e (rmD (d + 1)) s m args below meth c H locs 0 0 (MQ below (CtV V (cC V) (AC V) z) args s 0 0 (AC V)) (F0 m 197 ls [.long y2, .int y1, .ref (V.2.2 18)]) := by
  unfold bX8_measure_197 at h
  obtain ⟨hx, hb, hml, hown, hg, hrt, hlk, hK⟩ := id X
  refine r_sl (pc := 197) X (heC_18 V w) (hsC_18 V w) hH h dX8_measure_197 (fun w9 H locs h hH => ?_)
  refine lv_aload_n (pc := 198) hx hb dX8_measure_198 rfl (lv_at hl 0 rfl) ?_
  refine gC_X8_34_1 (pc := 199) X hH dX8_measure_199 ?_
  refine lv_iload_n (pc := 202) hx hb dX8_measure_202 rfl (lv_at hl 1 rfl) ?_
  refine lv_iload (pc := 203) hx hb dX8_measure_203 (lv_at hl 2 rfl) ?_
  refine r_st (pc := 205) X (heC_19 V w9) (hsC_19 V w9) hH h dX8_measure_205 (fun w10 H locs h hH => ?_)
  exact r_vret (pc := 206) X hH h dX8_measure_206
def bX8_measure_174 (N d : Nat)   (w : Wd) (x1 : Int32) (x4 : Int64) (x7 : Int32) (y1 : Int32) (y2 : Int64) : Option (Wd) :=
  c_sl w 17 1000 y1 y2 fun w8 =>
  if (lg_cmp x4 1000000000000000) ≤ 0 then (
    bX8_measure_197 N d   w8 x1 x7 x1 x4
  ) else (
    bX8_measure_197 N d   w8 x1 x7 x1 1000000000000000
  )
set_option maxHeartbeats 4000000 in
theorem kX8_measure_174 {V : Ev} {p : Program} {l : Launch} {e : Env} {N d : Nat} {s : State} {m : MethodId} {args : Array Value} {below : List Frame} {meth : Method} {c : Code} {z : Wd} (X : CX V p s m args meth c cX8_measure 8 RX8 none)    {w : Wd} {x1 : Int32} {x4 : Int64} {x7 : Int32} {y1 : Int32} {y2 : Int64} {H : Heap} {locs : List Loc} {ls : Array Slot} (h : bX8_measure_174 N d   w x1 x4 x7 y1 y2 = some z) (hH : wH V (cC V) (AC V) s w H locs) (hl : lv_has ls 8 [(0, .ref (V.2.2 1)), (1, .int x1), (4, .long x4), (7, .int x7)]) : W p l e (rmD (d + 1)) s m args below meth c H locs 0 0 (MQ below (CtV V (cC V) (AC V) z) args s 0 0 (AC V)) (F0 m 174 ls [.long y2, .int y1, .ref (V.2.2 17)]) := by
  unfold bX8_measure_174 at h
  obtain ⟨hx, hb, hml, hown, hg, hrt, hlk, hK⟩ := id X
  refine r_sl (pc := 174) X (heC_17 V w) (hsC_17 V w) hH h dX8_measure_174 (fun w8 H locs h hH => ?_)
  refine lv_aload_n (pc := 175) hx hb dX8_measure_175 rfl (lv_at hl 0 rfl) ?_
  refine gC_X8_31_1 (pc := 176) X hH dX8_measure_176 ?_
  refine lv_iload_n (pc := 179) hx hb dX8_measure_179 rfl (lv_at hl 1 rfl) ?_
  refine lv_lload (pc := 180) hx hb dX8_measure_180 (lv_at hl 2 rfl) ?_
  refine lv_ldc2 (pc := 182) hx hb hown (hg _ wL_445) dX8_measure_182 ?_
  refine W.lcmp (pc := 185) hx hb dX8_measure_185 ?_
  refine b_if_le (pc := 186) (tgt := 195) hx hb h dX8_measure_186 (by decide) (fun h => ?_) (fun h => ?_)
  · refine lv_lload (pc := 195) hx hb dX8_measure_195 (lv_at hl 2 rfl) ?_
    exact kX8_measure_197 X   h hH (lv_sub hl [0, 1, 3] rfl)
  · refine lv_ldc2 (pc := 189) hx hb hown (hg _ wL_445) dX8_measure_189 ?_
    refine lv_goto (pc := 192) (tgt := 197) hx hb dX8_measure_192 (by decide) ?_
    exact kX8_measure_197 X   h hH (lv_sub hl [0, 1, 3] rfl)
def bX8_measure_154 (N d : Nat)   (w : Wd) (x1 : Int32) (x2 : Int64) (x4 : Int64) (x7 : Int32) : Option (Wd) :=
  if (lg_cmp x2 1000000000000000) ≤ 0 then (
    bX8_measure_174 N d   w x1 x4 x7 x1 x2
  ) else (
    bX8_measure_174 N d   w x1 x4 x7 x1 1000000000000000
  )
set_option maxHeartbeats 4000000 in
theorem kX8_measure_154 {V : Ev} {p : Program} {l : Launch} {e : Env} {N d : Nat} {s : State} {m : MethodId} {args : Array Value} {below : List Frame} {meth : Method} {c : Code} {z : Wd} (X : CX V p s m args meth c cX8_measure 8 RX8 none)    {w : Wd} {x1 : Int32} {x2 : Int64} {x4 : Int64} {x7 : Int32} {H : Heap} {locs : List Loc} {ls : Array Slot} (h : bX8_measure_154 N d   w x1 x2 x4 x7 = some z) (hH : wH V (cC V) (AC V) s w H locs) (hl : lv_has ls 8 [(0, .ref (V.2.2 1)), (1, .int x1), (2, .long x2), (4, .long x4), (7, .int x7)]) : W p l e (rmD (d + 1)) s m args below meth c H locs 0 0 (MQ below (CtV V (cC V) (AC V) z) args s 0 0 (AC V)) (F0 m 154 ls []) := by
  unfold bX8_measure_154 at h
  obtain ⟨hx, hb, hml, hown, hg, hrt, hlk, hK⟩ := id X
  refine lv_aload_n (pc := 154) hx hb dX8_measure_154 rfl (lv_at hl 0 rfl) ?_
  refine gC_X8_27_1 (pc := 155) X hH dX8_measure_155 ?_
  refine lv_iload_n (pc := 158) hx hb dX8_measure_158 rfl (lv_at hl 1 rfl) ?_
  refine lv_lload_n (pc := 159) hx hb dX8_measure_159 rfl (lv_at hl 2 rfl) ?_
  refine lv_ldc2 (pc := 160) hx hb hown (hg _ wL_445) dX8_measure_160 ?_
  refine W.lcmp (pc := 163) hx hb dX8_measure_163 ?_
  refine b_if_le (pc := 164) (tgt := 173) hx hb h dX8_measure_164 (by decide) (fun h => ?_) (fun h => ?_)
  · refine lv_lload_n (pc := 173) hx hb dX8_measure_173 rfl (lv_at hl 2 rfl) ?_
    exact kX8_measure_174 X   h hH (lv_sub hl [0, 1, 3, 4] rfl)
  · refine lv_ldc2 (pc := 167) hx hb hown (hg _ wL_445) dX8_measure_167 ?_
    refine lv_goto (pc := 170) (tgt := 174) hx hb dX8_measure_170 (by decide) ?_
    exact kX8_measure_174 X   h hH (lv_sub hl [0, 1, 3, 4] rfl)
def bX8_measure_98 (N d : Nat)   (w : Wd) (x1 : Int32) (x2 : Int64) (x4 : Int64) (x7 : Int32) : Option (Wd) :=
  c_ld w 16 1000 x1 fun v7 =>
  if v7 = (-1) then (
    bX8_measure_154 N d   w x1 x2 x4 x7
  ) else (
    c_ld w 16 1000 x1 fun v11 =>
    c_ll w 17 1000 v11 fun v12 =>
    c_nm (x2 + v12) fun x2_13 =>
    c_ld w 16 1000 x1 fun v14 =>
    c_ll w 18 1000 v14 fun v15 =>
    c_nm (x4 + v15) fun x4_16 =>
    c_ld w 16 1000 x1 fun v17 =>
    c_ld w 19 1000 v17 fun v18 =>
    c_nm (x7 ||| v18) fun x7_19 =>
    bX8_measure_154 N d   w x1 x2_13 x4_16 x7_19
  )
set_option maxHeartbeats 4000000 in
theorem kX8_measure_98 {V : Ev} {p : Program} {l : Launch} {e : Env} {N d : Nat} {s : State} {m : MethodId} {args : Array Value} {below : List Frame} {meth : Method} {c : Code} {z : Wd} (X : CX V p s m args meth c cX8_measure 8 RX8 none)    {w : Wd} {x1 : Int32} {x2 : Int64} {x4 : Int64} {x7 : Int32} {H : Heap} {locs : List Loc} {ls : Array Slot} (h : bX8_measure_98 N d   w x1 x2 x4 x7 = some z) (hH : wH V (cC V) (AC V) s w H locs) (hl : lv_has ls 8 [(0, .ref (V.2.2 1)), (1, .int x1), (2, .long x2), (4, .long x4), (7, .int x7)]) : W p l e (rmD (d + 1)) s m args below meth c H locs 0 0 (MQ below (CtV V (cC V) (AC V) z) args s 0 0 (AC V)) (F0 m 98 ls []) := by
  unfold bX8_measure_98 at h
  obtain ⟨hx, hb, hml, hown, hg, hrt, hlk, hK⟩ := id X
  refine lv_aload_n (pc := 98) hx hb dX8_measure_98 rfl (lv_at hl 0 rfl) ?_
  refine gC_X8_24_1 (pc := 99) X hH dX8_measure_99 ?_
  refine lv_iload_n (pc := 102) hx hb dX8_measure_102 rfl (lv_at hl 1 rfl) ?_
  refine r_ld (pc := 103) X (heC_16 V w) hH h dX8_measure_103 (fun v7 h => ?_)
  refine lv_iconst (pc := 104) (v := -1) hx hb dX8_measure_104 (by decide) ?_
  refine b_icmp_eq (pc := 105) (tgt := 154) hx hb h dX8_measure_105 (by decide) (fun h => ?_) (fun h => ?_)
  · exact kX8_measure_154 X   h hH (lv_sub hl [0, 1, 2, 3, 4] rfl)
  · refine lv_lload_n (pc := 108) hx hb dX8_measure_108 rfl (lv_at hl 2 rfl) ?_
    refine lv_aload_n (pc := 109) hx hb dX8_measure_109 rfl (lv_at hl 0 rfl) ?_
    refine gC_X8_27_1 (pc := 110) X hH dX8_measure_110 ?_
    refine lv_aload_n (pc := 113) hx hb dX8_measure_113 rfl (lv_at hl 0 rfl) ?_
    refine gC_X8_24_1 (pc := 114) X hH dX8_measure_114 ?_
    refine lv_iload_n (pc := 117) hx hb dX8_measure_117 rfl (lv_at hl 1 rfl) ?_
    refine r_ld (pc := 118) X (heC_16 V w) hH h dX8_measure_118 (fun v11 h => ?_)
    refine r_ll (pc := 119) X (heC_17 V w) hH h dX8_measure_119 (fun v12 h => ?_)
    refine lv_ladd (pc := 120) hx hb dX8_measure_120 ?_
    refine r_nml h (fun x2_13 h => ?_)
    refine lv_lstore_n (pc := 121) (lv' := [(2, .long x2_13), (0, .ref (V.2.2 1)), (1, .int x1), (4, .long x4), (7, .int x7)]) hx hb dX8_measure_121 rfl hl (by decide) rfl (fun ls hl => ?_)
    refine lv_lload (pc := 122) hx hb dX8_measure_122 (lv_at hl 3 rfl) ?_
    refine lv_aload_n (pc := 124) hx hb dX8_measure_124 rfl (lv_at hl 1 rfl) ?_
    refine gC_X8_31_1 (pc := 125) X hH dX8_measure_125 ?_
    refine lv_aload_n (pc := 128) hx hb dX8_measure_128 rfl (lv_at hl 1 rfl) ?_
    refine gC_X8_24_1 (pc := 129) X hH dX8_measure_129 ?_
    refine lv_iload_n (pc := 132) hx hb dX8_measure_132 rfl (lv_at hl 2 rfl) ?_
    refine r_ld (pc := 133) X (heC_16 V w) hH h dX8_measure_133 (fun v14 h => ?_)
    refine r_ll (pc := 134) X (heC_18 V w) hH h dX8_measure_134 (fun v15 h => ?_)
    refine lv_ladd (pc := 135) hx hb dX8_measure_135 ?_
    refine r_nml h (fun x4_16 h => ?_)
    refine lv_lstore (pc := 136) (lv' := [(4, .long x4_16), (2, .long x2_13), (0, .ref (V.2.2 1)), (1, .int x1), (7, .int x7)]) hx hb dX8_measure_136 hl (by decide) rfl (fun ls hl => ?_)
    refine lv_iload (pc := 138) hx hb dX8_measure_138 (lv_at hl 4 rfl) ?_
    refine lv_aload_n (pc := 140) hx hb dX8_measure_140 rfl (lv_at hl 2 rfl) ?_
    refine gC_X8_34_1 (pc := 141) X hH dX8_measure_141 ?_
    refine lv_aload_n (pc := 144) hx hb dX8_measure_144 rfl (lv_at hl 2 rfl) ?_
    refine gC_X8_24_1 (pc := 145) X hH dX8_measure_145 ?_
    refine lv_iload_n (pc := 148) hx hb dX8_measure_148 rfl (lv_at hl 3 rfl) ?_
    refine r_ld (pc := 149) X (heC_16 V w) hH h dX8_measure_149 (fun v17 h => ?_)
    refine r_ld (pc := 150) X (heC_19 V w) hH h dX8_measure_150 (fun v18 h => ?_)
    refine lv_ior (pc := 151) hx hb dX8_measure_151 ?_
    refine r_nmi h (fun x7_19 h => ?_)
    refine lv_istore (pc := 152) (lv' := [(7, .int x7_19), (4, .long x4_16), (2, .long x2_13), (0, .ref (V.2.2 1)), (1, .int x1)]) hx hb dX8_measure_152 hl (by decide) rfl (fun ls hl => ?_)
    exact kX8_measure_154 X   h hH (lv_sub hl [3, 4, 2, 1, 0] rfl)
def bX8_measure_40 (N d : Nat)   (w : Wd) (x1 : Int32) (x2 : Int64) (x4 : Int64) (y0 : Int32) : Option (Wd) :=
  c_ld w 15 1000 x1 fun v6 =>
  if v6 = (-1) then (
    bX8_measure_98 N d   w x1 x2 x4 y0
  ) else (
    c_ld w 15 1000 x1 fun v20 =>
    c_ll w 17 1000 v20 fun v21 =>
    c_nm (x2 + v21) fun x2_22 =>
    c_ld w 15 1000 x1 fun v23 =>
    c_ll w 18 1000 v23 fun v24 =>
    c_nm (x4 + v24) fun x4_25 =>
    c_ld w 15 1000 x1 fun v26 =>
    c_ld w 19 1000 v26 fun v27 =>
    c_nm (y0 ||| v27) fun x7_28 =>
    bX8_measure_98 N d   w x1 x2_22 x4_25 x7_28
  )
set_option maxHeartbeats 4000000 in
theorem kX8_measure_40 {V : Ev} {p : Program} {l : Launch} {e : Env} {N d : Nat} {s : State} {m : MethodId} {args : Array Value} {below : List Frame} {meth : Method} {c : Code} {z : Wd} (X : CX V p s m args meth c cX8_measure 8 RX8 none)    {w : Wd} {x1 : Int32} {x2 : Int64} {x4 : Int64} {y0 : Int32} {H : Heap} {locs : List Loc} {ls : Array Slot} (h : bX8_measure_40 N d   w x1 x2 x4 y0 = some z) (hH : wH V (cC V) (AC V) s w H locs) (hl : lv_has ls 8 [(0, .ref (V.2.2 1)), (1, .int x1), (2, .long x2), (4, .long x4)]) : W p l e (rmD (d + 1)) s m args below meth c H locs 0 0 (MQ below (CtV V (cC V) (AC V) z) args s 0 0 (AC V)) (F0 m 40 ls [.int y0]) := by
  unfold bX8_measure_40 at h
  obtain ⟨hx, hb, hml, hown, hg, hrt, hlk, hK⟩ := id X
  refine lv_istore (pc := 40) (lv' := [(7, .int y0), (0, .ref (V.2.2 1)), (1, .int x1), (2, .long x2), (4, .long x4)]) hx hb dX8_measure_40 hl (by decide) rfl (fun ls hl => ?_)
  refine lv_aload_n (pc := 42) hx hb dX8_measure_42 rfl (lv_at hl 1 rfl) ?_
  refine gC_X8_21_1 (pc := 43) X hH dX8_measure_43 ?_
  refine lv_iload_n (pc := 46) hx hb dX8_measure_46 rfl (lv_at hl 2 rfl) ?_
  refine r_ld (pc := 47) X (heC_15 V w) hH h dX8_measure_47 (fun v6 h => ?_)
  refine lv_iconst (pc := 48) (v := -1) hx hb dX8_measure_48 (by decide) ?_
  refine b_icmp_eq (pc := 49) (tgt := 98) hx hb h dX8_measure_49 (by decide) (fun h => ?_) (fun h => ?_)
  · exact kX8_measure_98 X   h hH (lv_sub hl [1, 2, 3, 4, 0] rfl)
  · refine lv_lload_n (pc := 52) hx hb dX8_measure_52 rfl (lv_at hl 3 rfl) ?_
    refine lv_aload_n (pc := 53) hx hb dX8_measure_53 rfl (lv_at hl 1 rfl) ?_
    refine gC_X8_27_1 (pc := 54) X hH dX8_measure_54 ?_
    refine lv_aload_n (pc := 57) hx hb dX8_measure_57 rfl (lv_at hl 1 rfl) ?_
    refine gC_X8_21_1 (pc := 58) X hH dX8_measure_58 ?_
    refine lv_iload_n (pc := 61) hx hb dX8_measure_61 rfl (lv_at hl 2 rfl) ?_
    refine r_ld (pc := 62) X (heC_15 V w) hH h dX8_measure_62 (fun v20 h => ?_)
    refine r_ll (pc := 63) X (heC_17 V w) hH h dX8_measure_63 (fun v21 h => ?_)
    refine lv_ladd (pc := 64) hx hb dX8_measure_64 ?_
    refine r_nml h (fun x2_22 h => ?_)
    refine lv_lstore_n (pc := 65) (lv' := [(2, .long x2_22), (7, .int y0), (0, .ref (V.2.2 1)), (1, .int x1), (4, .long x4)]) hx hb dX8_measure_65 rfl hl (by decide) rfl (fun ls hl => ?_)
    refine lv_lload (pc := 66) hx hb dX8_measure_66 (lv_at hl 4 rfl) ?_
    refine lv_aload_n (pc := 68) hx hb dX8_measure_68 rfl (lv_at hl 2 rfl) ?_
    refine gC_X8_31_1 (pc := 69) X hH dX8_measure_69 ?_
    refine lv_aload_n (pc := 72) hx hb dX8_measure_72 rfl (lv_at hl 2 rfl) ?_
    refine gC_X8_21_1 (pc := 73) X hH dX8_measure_73 ?_
    refine lv_iload_n (pc := 76) hx hb dX8_measure_76 rfl (lv_at hl 3 rfl) ?_
    refine r_ld (pc := 77) X (heC_15 V w) hH h dX8_measure_77 (fun v23 h => ?_)
    refine r_ll (pc := 78) X (heC_18 V w) hH h dX8_measure_78 (fun v24 h => ?_)
    refine lv_ladd (pc := 79) hx hb dX8_measure_79 ?_
    refine r_nml h (fun x4_25 h => ?_)
    refine lv_lstore (pc := 80) (lv' := [(4, .long x4_25), (2, .long x2_22), (7, .int y0), (0, .ref (V.2.2 1)), (1, .int x1)]) hx hb dX8_measure_80 hl (by decide) rfl (fun ls hl => ?_)
    refine lv_iload (pc := 82) hx hb dX8_measure_82 (lv_at hl 2 rfl) ?_
    refine lv_aload_n (pc := 84) hx hb dX8_measure_84 rfl (lv_at hl 3 rfl) ?_
    refine gC_X8_34_1 (pc := 85) X hH dX8_measure_85 ?_
    refine lv_aload_n (pc := 88) hx hb dX8_measure_88 rfl (lv_at hl 3 rfl) ?_
    refine gC_X8_21_1 (pc := 89) X hH dX8_measure_89 ?_
    refine lv_iload_n (pc := 92) hx hb dX8_measure_92 rfl (lv_at hl 4 rfl) ?_
    refine r_ld (pc := 93) X (heC_15 V w) hH h dX8_measure_93 (fun v26 h => ?_)
    refine r_ld (pc := 94) X (heC_19 V w) hH h dX8_measure_94 (fun v27 h => ?_)
    refine lv_ior (pc := 95) hx hb dX8_measure_95 ?_
    refine r_nmi h (fun x7_28 h => ?_)
    refine lv_istore (pc := 96) (lv' := [(7, .int x7_28), (4, .long x4_25), (2, .long x2_22), (0, .ref (V.2.2 1)), (1, .int x1)]) hx hb dX8_measure_96 hl (by decide) rfl (fun ls hl => ?_)
    exact kX8_measure_98 X   h hH (lv_sub hl [3, 4, 2, 1, 0] rfl)
def bX8_measure_0 (N d : Nat)   (w : Wd) (x1 : Int32) : Option (Wd) :=
  c_ld w 14 1000 x1 fun v1 =>
  c_ld w 13 18 v1 fun v2 =>
  c_nm (Int32.toInt64 v2) fun x4_3 =>
  c_ld w 14 1000 x1 fun v4 =>
  c_nm (v4 - 10) fun x6_5 =>
  if x6_5 < 0 then (
    bX8_measure_40 N d   w x1 ((1 : Int64)) x4_3 0
  ) else (
    bX8_measure_40 N d   w x1 ((1 : Int64)) x4_3 (1 <<< (x6_5 &&& 31))
  )
set_option maxHeartbeats 4000000 in
theorem kX8_measure_0 {V : Ev} {p : Program} {l : Launch} {e : Env} {N d : Nat} {s : State} {m : MethodId} {args : Array Value} {below : List Frame} {meth : Method} {c : Code} {z : Wd} (X : CX V p s m args meth c cX8_measure 8 RX8 none)    {w : Wd} {x1 : Int32} {H : Heap} {locs : List Loc} {ls : Array Slot} (h : bX8_measure_0 N d   w x1 = some z) (hH : wH V (cC V) (AC V) s w H locs) (hl : lv_has ls 8 [(0, .ref (V.2.2 1)), (1, .int x1)]) : W p l e (rmD (d + 1)) s m args below meth c H locs 0 0 (MQ below (CtV V (cC V) (AC V) z) args s 0 0 (AC V)) (F0 m 0 ls []) := by
  unfold bX8_measure_0 at h
  obtain ⟨hx, hb, hml, hown, hg, hrt, hlk, hK⟩ := id X
  refine lv_lconst (pc := 0) (v := 1) hx hb dX8_measure_0 (by decide) ?_
  refine lv_lstore_n (pc := 1) (lv' := [(2, .long ((1 : Int64))), (0, .ref (V.2.2 1)), (1, .int x1)]) hx hb dX8_measure_1 rfl hl (by decide) rfl (fun ls hl => ?_)
  refine lv_aload_n (pc := 2) hx hb dX8_measure_2 rfl (lv_at hl 1 rfl) ?_
  refine gC_X8_15_1 (pc := 3) X hH dX8_measure_3 ?_
  refine lv_aload_n (pc := 6) hx hb dX8_measure_6 rfl (lv_at hl 1 rfl) ?_
  refine gC_X8_18_1 (pc := 7) X hH dX8_measure_7 ?_
  refine lv_iload_n (pc := 10) hx hb dX8_measure_10 rfl (lv_at hl 2 rfl) ?_
  refine r_ld (pc := 11) X (heC_14 V w) hH h dX8_measure_11 (fun v1 h => ?_)
  refine r_ld (pc := 12) X (heC_13 V w) hH h dX8_measure_12 (fun v2 h => ?_)
  refine lv_i2l (pc := 13) hx hb dX8_measure_13 rfl ?_
  refine r_nml h (fun x4_3 h => ?_)
  refine lv_lstore (pc := 14) (lv' := [(4, .long x4_3), (2, .long ((1 : Int64))), (0, .ref (V.2.2 1)), (1, .int x1)]) hx hb dX8_measure_14 hl (by decide) rfl (fun ls hl => ?_)
  refine lv_aload_n (pc := 16) hx hb dX8_measure_16 rfl (lv_at hl 2 rfl) ?_
  refine gC_X8_18_1 (pc := 17) X hH dX8_measure_17 ?_
  refine lv_iload_n (pc := 20) hx hb dX8_measure_20 rfl (lv_at hl 3 rfl) ?_
  refine r_ld (pc := 21) X (heC_14 V w) hH h dX8_measure_21 (fun v4 h => ?_)
  refine lv_bipush (pc := 22) (v := 10) hx hb dX8_measure_22 (by decide) ?_
  refine lv_isub (pc := 24) hx hb dX8_measure_24 ?_
  refine r_nmi h (fun x6_5 h => ?_)
  refine lv_istore (pc := 25) (lv' := [(6, .int x6_5), (4, .long x4_3), (2, .long ((1 : Int64))), (0, .ref (V.2.2 1)), (1, .int x1)]) hx hb dX8_measure_25 hl (by decide) rfl (fun ls hl => ?_)
  refine lv_iload (pc := 27) hx hb dX8_measure_27 (lv_at hl 0 rfl) ?_
  refine b_if_lt (pc := 29) (tgt := 39) hx hb h dX8_measure_29 (by decide) (fun h => ?_) (fun h => ?_)
  · refine lv_iconst (pc := 39) (v := 0) hx hb dX8_measure_39 (by decide) ?_
    exact kX8_measure_40 X   h hH (lv_sub hl [3, 4, 2, 1] rfl)
  · refine lv_iconst (pc := 32) (v := 1) hx hb dX8_measure_32 (by decide) ?_
    refine lv_iload (pc := 33) hx hb dX8_measure_33 (lv_at hl 0 rfl) ?_
    refine lv_ishl (pc := 35) hx hb dX8_measure_35 ?_
    refine lv_goto (pc := 36) (tgt := 40) hx hb dX8_measure_36 (by decide) ?_
    exact kX8_measure_40 X   h hH (lv_sub hl [3, 4, 2, 1] rfl)
def eX8_measure (N : Nat) : Nat → Wd → Int32 → Option (Wd)
  | 0 => fun _ _ => none
  | d + 1 => fun w x1 => bX8_measure_0 N d  w x1
set_option maxHeartbeats 4000000 in
set_option maxRecDepth 20000 in
theorem mX8_measure {l : Launch} {V : Ev} {N d : Nat} {w : Wd} {x1 : Int32} {z : Wd} (h : eX8_measure N d w x1 = some z) : MetV l V (cC V) (AC V) yX8_measure cX8_measure 8 none d [.ref (V.2.2 1), .int x1] w z := by
  cases d with
  | zero => exact c_none h
  | succ d =>
    refine Met.ofW (cc := cX8_measure) (maxL := 8) (ret := none) (by decide) rfl ?_
    intro p e s m args below meth c s₁ B hml hv
    obtain ⟨rfl, hP, hD, hK⟩ := hv
    have hts := atoms_spec (ws := .code yX8_measure cX8_measure 8 none :: gG) B.pre
    have X : CX V p s m ([.ref (V.2.2 1), .int x1] : List Value).toArray meth c cX8_measure 8 RX8 none := ⟨B.exec, B.bytes, hml, findClass_of_methodNamed B.named, fun w hw => hts w (List.mem_cons_of_mem _ hw), B.returns, B.notSynchronized, hK⟩
    have hl := lv_entry ([.ref (V.2.2 1), .int x1] : List Value) (n := 8) (Nat.le_of_ble_eq_true rfl)
    rw [lg_entry_eq]
    generalize (lg_sl ([.ref (V.2.2 1), .int x1] : List Value) ++ List.replicate (8 - (lg_sl ([.ref (V.2.2 1), .int x1] : List Value)).length) Slot.unset).toArray = ls at hl ⊢
    have hl : lv_has ls 8 [(0, .ref (V.2.2 1)), (1, .int x1)] := hl
    exact kX8_measure_0 (N := N) X  h ⟨hP, hD, va_S.rf⟩ hl
theorem dX8_make_0 : decode cX8_make 0 = .ok (.iload_n 1, 1) := by decide +kernel
theorem dX8_make_1 : decode cX8_make 1 = .ok (.iload_n 2, 1) := by decide +kernel
theorem dX8_make_2 : decode cX8_make 2 = .ok (.iload_n 3, 1) := by decide +kernel
theorem dX8_make_3 : decode cX8_make 3 = .ok (.invokestatic 59, 3) := by decide +kernel
theorem dX8_make_6 : decode cX8_make 6 = .ok (.istore 4, 2) := by decide +kernel
theorem dX8_make_8 : decode cX8_make 8 = .ok (.aload_n 0, 1) := by decide +kernel
theorem dX8_make_9 : decode cX8_make 9 = .ok (.iload 4, 2) := by decide +kernel
theorem dX8_make_11 : decode cX8_make 11 = .ok (.iload_n 1, 1) := by decide +kernel
theorem dX8_make_12 : decode cX8_make 12 = .ok (.iload_n 2, 1) := by decide +kernel
theorem dX8_make_13 : decode cX8_make 13 = .ok (.iload_n 3, 1) := by decide +kernel
theorem dX8_make_14 : decode cX8_make 14 = .ok (.invokevirtual 63, 3) := by decide +kernel
theorem dX8_make_17 : decode cX8_make 17 = .ok (.istore 5, 2) := by decide +kernel
theorem dX8_make_19 : decode cX8_make 19 = .ok (.iload 5, 2) := by decide +kernel
theorem dX8_make_21 : decode cX8_make 21 = .ok (.iconst (-1), 1) := by decide +kernel
theorem dX8_make_22 : decode cX8_make 22 = .ok (.if_icmp .eq 6, 3) := by decide +kernel
theorem dX8_make_25 : decode cX8_make 25 = .ok (.iload 5, 2) := by decide +kernel
theorem dX8_make_27 : decode cX8_make 27 = .ok (.ireturn, 1) := by decide +kernel
theorem dX8_make_28 : decode cX8_make 28 = .ok (.aload_n 0, 1) := by decide +kernel
theorem dX8_make_29 : decode cX8_make 29 = .ok (.getfield 67, 3) := by decide +kernel
theorem dX8_make_32 : decode cX8_make 32 = .ok (.sipush 1000, 3) := by decide +kernel
theorem dX8_make_35 : decode cX8_make 35 = .ok (.if_icmp .lt 6, 3) := by decide +kernel
theorem dX8_make_38 : decode cX8_make 38 = .ok (.bipush (-4), 2) := by decide +kernel
theorem dX8_make_40 : decode cX8_make 40 = .ok (.ireturn, 1) := by decide +kernel
theorem dX8_make_41 : decode cX8_make 41 = .ok (.aload_n 0, 1) := by decide +kernel
theorem dX8_make_42 : decode cX8_make 42 = .ok (.getfield 67, 3) := by decide +kernel
theorem dX8_make_45 : decode cX8_make 45 = .ok (.istore 6, 2) := by decide +kernel
theorem dX8_make_47 : decode cX8_make 47 = .ok (.aload_n 0, 1) := by decide +kernel
theorem dX8_make_48 : decode cX8_make 48 = .ok (.dup, 1) := by decide +kernel
theorem dX8_make_49 : decode cX8_make 49 = .ok (.getfield 67, 3) := by decide +kernel
theorem dX8_make_52 : decode cX8_make 52 = .ok (.iconst 1, 1) := by decide +kernel
theorem dX8_make_53 : decode cX8_make 53 = .ok (.iadd, 1) := by decide +kernel
theorem dX8_make_54 : decode cX8_make 54 = .ok (.putfield 67, 3) := by decide +kernel
theorem dX8_make_57 : decode cX8_make 57 = .ok (.aload_n 0, 1) := by decide +kernel
theorem dX8_make_58 : decode cX8_make 58 = .ok (.getfield 18, 3) := by decide +kernel
theorem dX8_make_61 : decode cX8_make 61 = .ok (.iload 6, 2) := by decide +kernel
theorem dX8_make_63 : decode cX8_make 63 = .ok (.iload_n 1, 1) := by decide +kernel
theorem dX8_make_64 : decode cX8_make 64 = .ok (.iastore, 1) := by decide +kernel
theorem dX8_make_65 : decode cX8_make 65 = .ok (.aload_n 0, 1) := by decide +kernel
theorem dX8_make_66 : decode cX8_make 66 = .ok (.getfield 21, 3) := by decide +kernel
theorem dX8_make_69 : decode cX8_make 69 = .ok (.iload 6, 2) := by decide +kernel
theorem dX8_make_71 : decode cX8_make 71 = .ok (.iload_n 2, 1) := by decide +kernel
theorem dX8_make_72 : decode cX8_make 72 = .ok (.iastore, 1) := by decide +kernel
theorem dX8_make_73 : decode cX8_make 73 = .ok (.aload_n 0, 1) := by decide +kernel
theorem dX8_make_74 : decode cX8_make 74 = .ok (.getfield 24, 3) := by decide +kernel
theorem dX8_make_77 : decode cX8_make 77 = .ok (.iload 6, 2) := by decide +kernel
theorem dX8_make_79 : decode cX8_make 79 = .ok (.iload_n 3, 1) := by decide +kernel
theorem dX8_make_80 : decode cX8_make 80 = .ok (.iastore, 1) := by decide +kernel
theorem dX8_make_81 : decode cX8_make 81 = .ok (.aload_n 0, 1) := by decide +kernel
theorem dX8_make_82 : decode cX8_make 82 = .ok (.getfield 40, 3) := by decide +kernel
theorem dX8_make_85 : decode cX8_make 85 = .ok (.iload 6, 2) := by decide +kernel
theorem dX8_make_87 : decode cX8_make 87 = .ok (.aload_n 0, 1) := by decide +kernel
theorem dX8_make_88 : decode cX8_make 88 = .ok (.getfield 37, 3) := by decide +kernel
theorem dX8_make_91 : decode cX8_make 91 = .ok (.iload 4, 2) := by decide +kernel
theorem dX8_make_93 : decode cX8_make 93 = .ok (.iaload, 1) := by decide +kernel
theorem dX8_make_94 : decode cX8_make 94 = .ok (.iastore, 1) := by decide +kernel
theorem dX8_make_95 : decode cX8_make 95 = .ok (.aload_n 0, 1) := by decide +kernel
theorem dX8_make_96 : decode cX8_make 96 = .ok (.getfield 37, 3) := by decide +kernel
theorem dX8_make_99 : decode cX8_make 99 = .ok (.iload 4, 2) := by decide +kernel
theorem dX8_make_101 : decode cX8_make 101 = .ok (.iload 6, 2) := by decide +kernel
theorem dX8_make_103 : decode cX8_make 103 = .ok (.iconst 1, 1) := by decide +kernel
theorem dX8_make_104 : decode cX8_make 104 = .ok (.iadd, 1) := by decide +kernel
theorem dX8_make_105 : decode cX8_make 105 = .ok (.iastore, 1) := by decide +kernel
theorem dX8_make_106 : decode cX8_make 106 = .ok (.aload_n 0, 1) := by decide +kernel
theorem dX8_make_107 : decode cX8_make 107 = .ok (.iload 6, 2) := by decide +kernel
theorem dX8_make_109 : decode cX8_make 109 = .ok (.invokevirtual 70, 3) := by decide +kernel
theorem dX8_make_112 : decode cX8_make 112 = .ok (.iload 6, 2) := by decide +kernel
theorem dX8_make_114 : decode cX8_make 114 = .ok (.ireturn, 1) := by decide +kernel
def bX8_make_0 (N d : Nat)   (w : Wd) (x1 : Int32) (x2 : Int32) (x3 : Int32) : Option (Wd × Int32) :=
  c_cl (eX8_bucketOf N d w x1 x2 x3) fun w1 v2 =>
  c_cl (eX8_find N d w1 v2 x1 x2 x3) fun w3 v4 =>
  if v4 = (-1) then (
    if (sI w3 1) < 1000 then (
      c_nm (sI w3 1) fun x6_5 =>
      c_pi w3 1 ((sI w3 1) + 1) fun w6 =>
      c_st w6 14 1000 x6_5 x1 fun w7 =>
      c_st w7 15 1000 x6_5 x2 fun w8 =>
      c_st w8 16 1000 x6_5 x3 fun w9 =>
      c_ld w9 20 256 v2 fun v10 =>
      c_st w9 21 1000 x6_5 v10 fun w11 =>
      c_st w11 20 256 v2 (x6_5 + 1) fun w12 =>
      c_cv (eX8_measure N d w12 x6_5) fun w13 =>
      some (w13, x6_5)
    ) else (
      some (w3, -4)
    )
  ) else (
    some (w3, v4)
  )
set_option maxHeartbeats 4000000 in
theorem kX8_make_0 {V : Ev} {p : Program} {l : Launch} {e : Env} {N d : Nat} {s : State} {m : MethodId} {args : Array Value} {below : List Frame} {meth : Method} {c : Code} {z : Wd × Int32} (X : CX V p s m args meth c cX8_make 7 RX8 (some .int))    {w : Wd} {x1 : Int32} {x2 : Int32} {x3 : Int32} {H : Heap} {locs : List Loc} {ls : Array Slot} (h : bX8_make_0 N d   w x1 x2 x3 = some z) (hH : wH V (cC V) (AC V) s w H locs) (hl : lv_has ls 7 [(0, .ref (V.2.2 1)), (1, .int x1), (2, .int x2), (3, .int x3)]) : W p l e (rmD (d + 1)) s m args below meth c H locs 0 0 (MQ below (CtI V (cC V) (AC V) z) args s 0 0 (AC V)) (F0 m 0 ls []) := by
  unfold bX8_make_0 at h
  obtain ⟨hx, hb, hml, hown, hg, hrt, hlk, hK⟩ := id X
  refine lv_iload_n (pc := 0) hx hb dX8_make_0 rfl (lv_at hl 1 rfl) ?_
  refine lv_iload_n (pc := 1) hx hb dX8_make_1 rfl (lv_at hl 2 rfl) ?_
  refine lv_iload_n (pc := 2) hx hb dX8_make_2 rfl (lv_at hl 3 rfl) ?_
  refine r_csI (pc := 3) (As := [.int x1, .int x2, .int x3]) (rest := []) X hH (fun x hx => mX8_bucketOf hx) cs_X8_59 rfl rfl (Nat.le_of_ble_eq_true rfl) hl.1 h dX8_make_3 (fun w1 v2 H locs h hH => ?_)
  refine lv_istore (pc := 6) (lv' := [(4, .int v2), (0, .ref (V.2.2 1)), (1, .int x1), (2, .int x2), (3, .int x3)]) hx hb dX8_make_6 hl (by decide) rfl (fun ls hl => ?_)
  refine lv_aload_n (pc := 8) hx hb dX8_make_8 rfl (lv_at hl 1 rfl) ?_
  refine lv_iload (pc := 9) hx hb dX8_make_9 (lv_at hl 0 rfl) ?_
  refine lv_iload_n (pc := 11) hx hb dX8_make_11 rfl (lv_at hl 2 rfl) ?_
  refine lv_iload_n (pc := 12) hx hb dX8_make_12 rfl (lv_at hl 3 rfl) ?_
  refine lv_iload_n (pc := 13) hx hb dX8_make_13 rfl (lv_at hl 4 rfl) ?_
  refine r_cvI (pc := 14) (As := [.int v2, .int x1, .int x2, .int x3]) (rest := []) X hH (fun x hx => mX8_find hx) cw_X8_63 (heC_1 V w1) rfl rfl rfl (Nat.le_of_ble_eq_true rfl) hl.1 h dX8_make_14 (fun w3 v4 H locs h hH => ?_)
  refine lv_istore (pc := 17) (lv' := [(5, .int v4), (4, .int v2), (0, .ref (V.2.2 1)), (1, .int x1), (2, .int x2), (3, .int x3)]) hx hb dX8_make_17 hl (by decide) rfl (fun ls hl => ?_)
  refine lv_iload (pc := 19) hx hb dX8_make_19 (lv_at hl 0 rfl) ?_
  refine lv_iconst (pc := 21) (v := -1) hx hb dX8_make_21 (by decide) ?_
  refine b_icmp_eq (pc := 22) (tgt := 28) hx hb h dX8_make_22 (by decide) (fun h => ?_) (fun h => ?_)
  · refine lv_aload_n (pc := 28) hx hb dX8_make_28 rfl (lv_at hl 2 rfl) ?_
    refine gC_X8_67_1 (pc := 29) X hH dX8_make_29 ?_
    refine lv_sipush (pc := 32) (v := 1000) hx hb dX8_make_32 (by decide) ?_
    refine b_icmp_lt (pc := 35) (tgt := 41) hx hb h dX8_make_35 (by decide) (fun h => ?_) (fun h => ?_)
    · refine lv_aload_n (pc := 41) hx hb dX8_make_41 rfl (lv_at hl 2 rfl) ?_
      refine gC_X8_67_1 (pc := 42) X hH dX8_make_42 ?_
      refine r_nmi h (fun x6_5 h => ?_)
      refine lv_istore (pc := 45) (lv' := [(6, .int x6_5), (5, .int v4), (4, .int v2), (0, .ref (V.2.2 1)), (1, .int x1), (2, .int x2), (3, .int x3)]) hx hb dX8_make_45 hl (by decide) rfl (fun ls hl => ?_)
      refine lv_aload_n (pc := 47) hx hb dX8_make_47 rfl (lv_at hl 3 rfl) ?_
      refine lv_dup (pc := 48) hx hb dX8_make_48 rfl ?_
      refine gC_X8_67_1 (pc := 49) X hH dX8_make_49 ?_
      refine lv_iconst (pc := 52) (v := 1) hx hb dX8_make_52 (by decide) ?_
      refine lv_iadd (pc := 53) hx hb dX8_make_53 ?_
      refine pC_X8_67_1 (pc := 54) X hH h dX8_make_54 (fun w6 H locs h hH => ?_)
      refine lv_aload_n (pc := 57) hx hb dX8_make_57 rfl (lv_at hl 3 rfl) ?_
      refine gC_X8_18_1 (pc := 58) X hH dX8_make_58 ?_
      refine lv_iload (pc := 61) hx hb dX8_make_61 (lv_at hl 0 rfl) ?_
      refine lv_iload_n (pc := 63) hx hb dX8_make_63 rfl (lv_at hl 4 rfl) ?_
      refine r_st (pc := 64) X (heC_14 V w6) (hsC_14 V w6) hH h dX8_make_64 (fun w7 H locs h hH => ?_)
      refine lv_aload_n (pc := 65) hx hb dX8_make_65 rfl (lv_at hl 3 rfl) ?_
      refine gC_X8_21_1 (pc := 66) X hH dX8_make_66 ?_
      refine lv_iload (pc := 69) hx hb dX8_make_69 (lv_at hl 0 rfl) ?_
      refine lv_iload_n (pc := 71) hx hb dX8_make_71 rfl (lv_at hl 5 rfl) ?_
      refine r_st (pc := 72) X (heC_15 V w7) (hsC_15 V w7) hH h dX8_make_72 (fun w8 H locs h hH => ?_)
      refine lv_aload_n (pc := 73) hx hb dX8_make_73 rfl (lv_at hl 3 rfl) ?_
      refine gC_X8_24_1 (pc := 74) X hH dX8_make_74 ?_
      refine lv_iload (pc := 77) hx hb dX8_make_77 (lv_at hl 0 rfl) ?_
      refine lv_iload_n (pc := 79) hx hb dX8_make_79 rfl (lv_at hl 6 rfl) ?_
      refine r_st (pc := 80) X (heC_16 V w8) (hsC_16 V w8) hH h dX8_make_80 (fun w9 H locs h hH => ?_)
      refine lv_aload_n (pc := 81) hx hb dX8_make_81 rfl (lv_at hl 3 rfl) ?_
      refine gC_X8_40_1 (pc := 82) X hH dX8_make_82 ?_
      refine lv_iload (pc := 85) hx hb dX8_make_85 (lv_at hl 0 rfl) ?_
      refine lv_aload_n (pc := 87) hx hb dX8_make_87 rfl (lv_at hl 3 rfl) ?_
      refine gC_X8_37_1 (pc := 88) X hH dX8_make_88 ?_
      refine lv_iload (pc := 91) hx hb dX8_make_91 (lv_at hl 2 rfl) ?_
      refine r_ld (pc := 93) X (heC_20 V w9) hH h dX8_make_93 (fun v10 h => ?_)
      refine r_st (pc := 94) X (heC_21 V w9) (hsC_21 V w9) hH h dX8_make_94 (fun w11 H locs h hH => ?_)
      refine lv_aload_n (pc := 95) hx hb dX8_make_95 rfl (lv_at hl 3 rfl) ?_
      refine gC_X8_37_1 (pc := 96) X hH dX8_make_96 ?_
      refine lv_iload (pc := 99) hx hb dX8_make_99 (lv_at hl 2 rfl) ?_
      refine lv_iload (pc := 101) hx hb dX8_make_101 (lv_at hl 0 rfl) ?_
      refine lv_iconst (pc := 103) (v := 1) hx hb dX8_make_103 (by decide) ?_
      refine lv_iadd (pc := 104) hx hb dX8_make_104 ?_
      refine r_st (pc := 105) X (heC_20 V w11) (hsC_20 V w11) hH h dX8_make_105 (fun w12 H locs h hH => ?_)
      refine lv_aload_n (pc := 106) hx hb dX8_make_106 rfl (lv_at hl 3 rfl) ?_
      refine lv_iload (pc := 107) hx hb dX8_make_107 (lv_at hl 0 rfl) ?_
      refine r_cvV (pc := 109) (As := [.int x6_5]) (rest := []) X hH (fun x hx => mX8_measure hx) cw_X8_70 (heC_1 V w12) rfl rfl rfl (Nat.le_of_ble_eq_true rfl) hl.1 h dX8_make_109 (fun w13 H locs h hH => ?_)
      refine lv_iload (pc := 112) hx hb dX8_make_112 (lv_at hl 0 rfl) ?_
      exact r_iret (pc := 114) X hH h dX8_make_114
    · refine lv_bipush (pc := 38) (v := -4) hx hb dX8_make_38 (by decide) ?_
      exact r_iret (pc := 40) X hH h dX8_make_40
  · refine lv_iload (pc := 25) hx hb dX8_make_25 (lv_at hl 0 rfl) ?_
    exact r_iret (pc := 27) X hH h dX8_make_27
def eX8_make (N : Nat) : Nat → Wd → Int32 → Int32 → Int32 → Option (Wd × Int32)
  | 0 => fun _ _ _ _ => none
  | d + 1 => fun w x1 x2 x3 => bX8_make_0 N d  w x1 x2 x3
set_option maxHeartbeats 4000000 in
set_option maxRecDepth 20000 in
theorem mX8_make {l : Launch} {V : Ev} {N d : Nat} {w : Wd} {x1 : Int32} {x2 : Int32} {x3 : Int32} {z : Wd × Int32} (h : eX8_make N d w x1 x2 x3 = some z) : MetI l V (cC V) (AC V) yX8_make cX8_make 7 (some .int) d [.ref (V.2.2 1), .int x1, .int x2, .int x3] w z := by
  cases d with
  | zero => exact c_none h
  | succ d =>
    refine Met.ofW (cc := cX8_make) (maxL := 7) (ret := (some .int)) (by decide) rfl ?_
    intro p e s m args below meth c s₁ B hml hv
    obtain ⟨rfl, hP, hD, hK⟩ := hv
    have hts := atoms_spec (ws := .code yX8_make cX8_make 7 (some .int) :: gG) B.pre
    have X : CX V p s m ([.ref (V.2.2 1), .int x1, .int x2, .int x3] : List Value).toArray meth c cX8_make 7 RX8 (some .int) := ⟨B.exec, B.bytes, hml, findClass_of_methodNamed B.named, fun w hw => hts w (List.mem_cons_of_mem _ hw), B.returns, B.notSynchronized, hK⟩
    have hl := lv_entry ([.ref (V.2.2 1), .int x1, .int x2, .int x3] : List Value) (n := 7) (Nat.le_of_ble_eq_true rfl)
    rw [lg_entry_eq]
    generalize (lg_sl ([.ref (V.2.2 1), .int x1, .int x2, .int x3] : List Value) ++ List.replicate (7 - (lg_sl ([.ref (V.2.2 1), .int x1, .int x2, .int x3] : List Value)).length) Slot.unset).toArray = ls at hl ⊢
    have hl : lv_has ls 7 [(0, .ref (V.2.2 1)), (1, .int x1), (2, .int x2), (3, .int x3)] := hl
    exact kX8_make_0 (N := N) X  h ⟨hP, hD, va_S.rf⟩ hl
theorem dX10_variable_0 : decode cX10_variable 0 = .ok (.iload_n 1, 1) := by decide +kernel
theorem dX10_variable_1 : decode cX10_variable 1 = .ok (.bipush 8, 2) := by decide +kernel
theorem dX10_variable_3 : decode cX10_variable 3 = .ok (.invokestatic 66, 3) := by decide +kernel
theorem dX10_variable_6 : decode cX10_variable 6 = .ok (.ifCond .eq 19, 3) := by decide +kernel
theorem dX10_variable_9 : decode cX10_variable 9 = .ok (.aload_n 0, 1) := by decide +kernel
theorem dX10_variable_10 : decode cX10_variable 10 = .ok (.getfield 15, 3) := by decide +kernel
theorem dX10_variable_13 : decode cX10_variable 13 = .ok (.bipush 10, 2) := by decide +kernel
theorem dX10_variable_15 : decode cX10_variable 15 = .ok (.iload_n 1, 1) := by decide +kernel
theorem dX10_variable_16 : decode cX10_variable 16 = .ok (.iadd, 1) := by decide +kernel
theorem dX10_variable_17 : decode cX10_variable 17 = .ok (.iconst (-1), 1) := by decide +kernel
theorem dX10_variable_18 : decode cX10_variable 18 = .ok (.iconst (-1), 1) := by decide +kernel
theorem dX10_variable_19 : decode cX10_variable 19 = .ok (.invokevirtual 70, 3) := by decide +kernel
theorem dX10_variable_22 : decode cX10_variable 22 = .ok (.goto 5, 3) := by decide +kernel
theorem dX10_variable_25 : decode cX10_variable 25 = .ok (.bipush (-2), 2) := by decide +kernel
theorem dX10_variable_27 : decode cX10_variable 27 = .ok (.ireturn, 1) := by decide +kernel
def bX10_variable_27 (N d : Nat)   (w : Wd) (y0 : Int32) : Option (Wd × Int32) :=
  some (w, y0)
set_option maxHeartbeats 4000000 in
theorem kX10_variable_27 {V : Ev} {p : Program} {l : Launch} {e : Env} {N d : Nat} {s : State} {m : MethodId} {args : Array Value} {below : List Frame} {meth : Method} {c : Code} {z : Wd × Int32} (X : CX V p s m args meth c cX10_variable 2 RX10 (some .int))    {w : Wd} {y0 : Int32} {H : Heap} {locs : List Loc} {ls : Array Slot} (h : bX10_variable_27 N d   w y0 = some z) (hH : wH V (cC V) (AC V) s w H locs) (hl : lv_has ls 2 []) : W p l e (rmD (d + 1)) s m args below meth c H locs 0 0 (MQ below (CtI V (cC V) (AC V) z) args s 0 0 (AC V)) (F0 m 27 ls [.int y0]) := by
  unfold bX10_variable_27 at h
  obtain ⟨hx, hb, hml, hown, hg, hrt, hlk, hK⟩ := id X
  exact r_iret (pc := 27) X hH h dX10_variable_27
def bX10_variable_0 (N d : Nat)   (w : Wd) (x1 : Int32) : Option (Wd × Int32) :=
  c_cl (eX10_isWithin N d w x1 8) fun w1 v2 =>
  if v2 = 0 then (
    bX10_variable_27 N d   w1 (-2)
  ) else (
    c_cl (eX8_make N d w1 (10 + x1) (-1) (-1)) fun w3 v4 =>
    bX10_variable_27 N d   w3 v4
  )
set_option maxHeartbeats 4000000 in
theorem kX10_variable_0 {V : Ev} {p : Program} {l : Launch} {e : Env} {N d : Nat} {s : State} {m : MethodId} {args : Array Value} {below : List Frame} {meth : Method} {c : Code} {z : Wd × Int32} (X : CX V p s m args meth c cX10_variable 2 RX10 (some .int))    {w : Wd} {x1 : Int32} {H : Heap} {locs : List Loc} {ls : Array Slot} (h : bX10_variable_0 N d   w x1 = some z) (hH : wH V (cC V) (AC V) s w H locs) (hl : lv_has ls 2 [(0, .ref (V.2.2 0)), (1, .int x1)]) : W p l e (rmD (d + 1)) s m args below meth c H locs 0 0 (MQ below (CtI V (cC V) (AC V) z) args s 0 0 (AC V)) (F0 m 0 ls []) := by
  unfold bX10_variable_0 at h
  obtain ⟨hx, hb, hml, hown, hg, hrt, hlk, hK⟩ := id X
  refine lv_iload_n (pc := 0) hx hb dX10_variable_0 rfl (lv_at hl 1 rfl) ?_
  refine lv_bipush (pc := 1) (v := 8) hx hb dX10_variable_1 (by decide) ?_
  refine r_csI (pc := 3) (As := [.int x1, .int 8]) (rest := []) X hH (fun x hx => mX10_isWithin hx) cs_X10_66 rfl rfl (Nat.le_of_ble_eq_true rfl) hl.1 h dX10_variable_3 (fun w1 v2 H locs h hH => ?_)
  refine b_if_eq (pc := 6) (tgt := 25) hx hb h dX10_variable_6 (by decide) (fun h => ?_) (fun h => ?_)
  · refine lv_bipush (pc := 25) (v := -2) hx hb dX10_variable_25 (by decide) ?_
    exact kX10_variable_27 X   h hH (lv_sub hl [] rfl)
  · refine lv_aload_n (pc := 9) hx hb dX10_variable_9 rfl (lv_at hl 0 rfl) ?_
    refine gC_X10_15_0 (pc := 10) X hH dX10_variable_10 ?_
    refine lv_bipush (pc := 13) (v := 10) hx hb dX10_variable_13 (by decide) ?_
    refine lv_iload_n (pc := 15) hx hb dX10_variable_15 rfl (lv_at hl 1 rfl) ?_
    refine lv_iadd (pc := 16) hx hb dX10_variable_16 ?_
    refine lv_iconst (pc := 17) (v := -1) hx hb dX10_variable_17 (by decide) ?_
    refine lv_iconst (pc := 18) (v := -1) hx hb dX10_variable_18 (by decide) ?_
    refine r_cvI (pc := 19) (As := [.int (10 + x1), .int (-1), .int (-1)]) (rest := []) X hH (fun x hx => mX8_make hx) cw_X10_70 (heC_1 V w1) rfl rfl rfl (Nat.le_of_ble_eq_true rfl) hl.1 h dX10_variable_19 (fun w3 v4 H locs h hH => ?_)
    refine lv_goto (pc := 22) (tgt := 27) hx hb dX10_variable_22 (by decide) ?_
    exact kX10_variable_27 X   h hH (lv_sub hl [] rfl)
def eX10_variable (N : Nat) : Nat → Wd → Int32 → Option (Wd × Int32)
  | 0 => fun _ _ => none
  | d + 1 => fun w x1 => bX10_variable_0 N d  w x1
set_option maxHeartbeats 4000000 in
set_option maxRecDepth 20000 in
theorem mX10_variable {l : Launch} {V : Ev} {N d : Nat} {w : Wd} {x1 : Int32} {z : Wd × Int32} (h : eX10_variable N d w x1 = some z) : MetI l V (cC V) (AC V) yX10_variable cX10_variable 2 (some .int) d [.ref (V.2.2 0), .int x1] w z := by
  cases d with
  | zero => exact c_none h
  | succ d =>
    refine Met.ofW (cc := cX10_variable) (maxL := 2) (ret := (some .int)) (by decide) rfl ?_
    intro p e s m args below meth c s₁ B hml hv
    obtain ⟨rfl, hP, hD, hK⟩ := hv
    have hts := atoms_spec (ws := .code yX10_variable cX10_variable 2 (some .int) :: gG) B.pre
    have X : CX V p s m ([.ref (V.2.2 0), .int x1] : List Value).toArray meth c cX10_variable 2 RX10 (some .int) := ⟨B.exec, B.bytes, hml, findClass_of_methodNamed B.named, fun w hw => hts w (List.mem_cons_of_mem _ hw), B.returns, B.notSynchronized, hK⟩
    have hl := lv_entry ([.ref (V.2.2 0), .int x1] : List Value) (n := 2) (Nat.le_of_ble_eq_true rfl)
    rw [lg_entry_eq]
    generalize (lg_sl ([.ref (V.2.2 0), .int x1] : List Value) ++ List.replicate (2 - (lg_sl ([.ref (V.2.2 0), .int x1] : List Value)).length) Slot.unset).toArray = ls at hl ⊢
    have hl : lv_has ls 2 [(0, .ref (V.2.2 0)), (1, .int x1)] := hl
    exact kX10_variable_0 (N := N) X  h ⟨hP, hD, va_S.rf⟩ hl
theorem dX10_isTerm_0 : decode cX10_isTerm 0 = .ok (.iload_n 1, 1) := by decide +kernel
theorem dX10_isTerm_1 : decode cX10_isTerm 1 = .ok (.aload_n 0, 1) := by decide +kernel
theorem dX10_isTerm_2 : decode cX10_isTerm 2 = .ok (.getfield 15, 3) := by decide +kernel
theorem dX10_isTerm_5 : decode cX10_isTerm 5 = .ok (.getfield 99, 3) := by decide +kernel
theorem dX10_isTerm_8 : decode cX10_isTerm 8 = .ok (.invokestatic 66, 3) := by decide +kernel
theorem dX10_isTerm_11 : decode cX10_isTerm 11 = .ok (.ireturn, 1) := by decide +kernel
def bX10_isTerm_0 (N d : Nat)   (w : Wd) (x1 : Int32) : Option (Wd × Int32) :=
  c_cl (eX10_isWithin N d w x1 (sI w 1)) fun w1 v2 =>
  c_bo v2 (some (w1, v2))
set_option maxHeartbeats 4000000 in
theorem kX10_isTerm_0 {V : Ev} {p : Program} {l : Launch} {e : Env} {N d : Nat} {s : State} {m : MethodId} {args : Array Value} {below : List Frame} {meth : Method} {c : Code} {z : Wd × Int32} (X : CX V p s m args meth c cX10_isTerm 2 RX10 (some .boolean))    {w : Wd} {x1 : Int32} {H : Heap} {locs : List Loc} {ls : Array Slot} (h : bX10_isTerm_0 N d   w x1 = some z) (hH : wH V (cC V) (AC V) s w H locs) (hl : lv_has ls 2 [(0, .ref (V.2.2 0)), (1, .int x1)]) : W p l e (rmD (d + 1)) s m args below meth c H locs 0 0 (MQ below (CtI V (cC V) (AC V) z) args s 0 0 (AC V)) (F0 m 0 ls []) := by
  unfold bX10_isTerm_0 at h
  obtain ⟨hx, hb, hml, hown, hg, hrt, hlk, hK⟩ := id X
  refine lv_iload_n (pc := 0) hx hb dX10_isTerm_0 rfl (lv_at hl 1 rfl) ?_
  refine lv_aload_n (pc := 1) hx hb dX10_isTerm_1 rfl (lv_at hl 0 rfl) ?_
  refine gC_X10_15_0 (pc := 2) X hH dX10_isTerm_2 ?_
  refine gC_X10_99_1 (pc := 5) X hH dX10_isTerm_5 ?_
  refine r_csI (pc := 8) (As := [.int x1, .int (sI w 1)]) (rest := []) X hH (fun x hx => mX10_isWithin hx) cs_X10_66 rfl rfl (Nat.le_of_ble_eq_true rfl) hl.1 h dX10_isTerm_8 (fun w1 v2 H locs h hH => ?_)
  exact r_zret (pc := 11) X hH h dX10_isTerm_11
def eX10_isTerm (N : Nat) : Nat → Wd → Int32 → Option (Wd × Int32)
  | 0 => fun _ _ => none
  | d + 1 => fun w x1 => bX10_isTerm_0 N d  w x1
set_option maxHeartbeats 4000000 in
set_option maxRecDepth 20000 in
theorem mX10_isTerm {l : Launch} {V : Ev} {N d : Nat} {w : Wd} {x1 : Int32} {z : Wd × Int32} (h : eX10_isTerm N d w x1 = some z) : MetI l V (cC V) (AC V) yX10_isTerm cX10_isTerm 2 (some .boolean) d [.ref (V.2.2 0), .int x1] w z := by
  cases d with
  | zero => exact c_none h
  | succ d =>
    refine Met.ofW (cc := cX10_isTerm) (maxL := 2) (ret := (some .boolean)) (by decide) rfl ?_
    intro p e s m args below meth c s₁ B hml hv
    obtain ⟨rfl, hP, hD, hK⟩ := hv
    have hts := atoms_spec (ws := .code yX10_isTerm cX10_isTerm 2 (some .boolean) :: gG) B.pre
    have X : CX V p s m ([.ref (V.2.2 0), .int x1] : List Value).toArray meth c cX10_isTerm 2 RX10 (some .boolean) := ⟨B.exec, B.bytes, hml, findClass_of_methodNamed B.named, fun w hw => hts w (List.mem_cons_of_mem _ hw), B.returns, B.notSynchronized, hK⟩
    have hl := lv_entry ([.ref (V.2.2 0), .int x1] : List Value) (n := 2) (Nat.le_of_ble_eq_true rfl)
    rw [lg_entry_eq]
    generalize (lg_sl ([.ref (V.2.2 0), .int x1] : List Value) ++ List.replicate (2 - (lg_sl ([.ref (V.2.2 0), .int x1] : List Value)).length) Slot.unset).toArray = ls at hl ⊢
    have hl : lv_has ls 2 [(0, .ref (V.2.2 0)), (1, .int x1)] := hl
    exact kX10_isTerm_0 (N := N) X  h ⟨hP, hD, va_S.rf⟩ hl
theorem dX10_term_0 : decode cX10_term 0 = .ok (.iload_n 1, 1) := by decide +kernel
theorem dX10_term_1 : decode cX10_term 1 = .ok (.aload_n 0, 1) := by decide +kernel
theorem dX10_term_2 : decode cX10_term 2 = .ok (.getfield 15, 3) := by decide +kernel
theorem dX10_term_5 : decode cX10_term 5 = .ok (.getfield 74, 3) := by decide +kernel
theorem dX10_term_8 : decode cX10_term 8 = .ok (.invokestatic 66, 3) := by decide +kernel
theorem dX10_term_11 : decode cX10_term 11 = .ok (.ifCond .ne 6, 3) := by decide +kernel
theorem dX10_term_14 : decode cX10_term 14 = .ok (.bipush (-2), 2) := by decide +kernel
theorem dX10_term_16 : decode cX10_term 16 = .ok (.ireturn, 1) := by decide +kernel
theorem dX10_term_17 : decode cX10_term 17 = .ok (.aload_n 0, 1) := by decide +kernel
theorem dX10_term_18 : decode cX10_term 18 = .ok (.getfield 15, 3) := by decide +kernel
theorem dX10_term_21 : decode cX10_term 21 = .ok (.getfield 78, 3) := by decide +kernel
theorem dX10_term_24 : decode cX10_term 24 = .ok (.iload_n 1, 1) := by decide +kernel
theorem dX10_term_25 : decode cX10_term 25 = .ok (.iaload, 1) := by decide +kernel
theorem dX10_term_26 : decode cX10_term 26 = .ok (.istore 4, 2) := by decide +kernel
theorem dX10_term_28 : decode cX10_term 28 = .ok (.iload 4, 2) := by decide +kernel
theorem dX10_term_30 : decode cX10_term 30 = .ok (.ifCond .le 11, 3) := by decide +kernel
theorem dX10_term_33 : decode cX10_term 33 = .ok (.aload_n 0, 1) := by decide +kernel
theorem dX10_term_34 : decode cX10_term 34 = .ok (.iload_n 2, 1) := by decide +kernel
theorem dX10_term_35 : decode cX10_term 35 = .ok (.invokevirtual 82, 3) := by decide +kernel
theorem dX10_term_38 : decode cX10_term 38 = .ok (.ifCond .eq 17, 3) := by decide +kernel
theorem dX10_term_41 : decode cX10_term 41 = .ok (.iload 4, 2) := by decide +kernel
theorem dX10_term_43 : decode cX10_term 43 = .ok (.iconst 1, 1) := by decide +kernel
theorem dX10_term_44 : decode cX10_term 44 = .ok (.if_icmp .le 14, 3) := by decide +kernel
theorem dX10_term_47 : decode cX10_term 47 = .ok (.aload_n 0, 1) := by decide +kernel
theorem dX10_term_48 : decode cX10_term 48 = .ok (.iload_n 3, 1) := by decide +kernel
theorem dX10_term_49 : decode cX10_term 49 = .ok (.invokevirtual 82, 3) := by decide +kernel
theorem dX10_term_52 : decode cX10_term 52 = .ok (.ifCond .ne 6, 3) := by decide +kernel
theorem dX10_term_55 : decode cX10_term 55 = .ok (.bipush (-2), 2) := by decide +kernel
theorem dX10_term_57 : decode cX10_term 57 = .ok (.ireturn, 1) := by decide +kernel
theorem dX10_term_58 : decode cX10_term 58 = .ok (.aload_n 0, 1) := by decide +kernel
theorem dX10_term_59 : decode cX10_term 59 = .ok (.getfield 15, 3) := by decide +kernel
theorem dX10_term_62 : decode cX10_term 62 = .ok (.iload_n 1, 1) := by decide +kernel
theorem dX10_term_63 : decode cX10_term 63 = .ok (.iload 4, 2) := by decide +kernel
theorem dX10_term_65 : decode cX10_term 65 = .ok (.ifCond .le 7, 3) := by decide +kernel
theorem dX10_term_68 : decode cX10_term 68 = .ok (.iload_n 2, 1) := by decide +kernel
theorem dX10_term_69 : decode cX10_term 69 = .ok (.goto 4, 3) := by decide +kernel
theorem dX10_term_72 : decode cX10_term 72 = .ok (.iconst (-1), 1) := by decide +kernel
theorem dX10_term_73 : decode cX10_term 73 = .ok (.iload 4, 2) := by decide +kernel
theorem dX10_term_75 : decode cX10_term 75 = .ok (.iconst 1, 1) := by decide +kernel
theorem dX10_term_76 : decode cX10_term 76 = .ok (.if_icmp .le 7, 3) := by decide +kernel
theorem dX10_term_79 : decode cX10_term 79 = .ok (.iload_n 3, 1) := by decide +kernel
theorem dX10_term_80 : decode cX10_term 80 = .ok (.goto 4, 3) := by decide +kernel
theorem dX10_term_83 : decode cX10_term 83 = .ok (.iconst (-1), 1) := by decide +kernel
theorem dX10_term_84 : decode cX10_term 84 = .ok (.invokevirtual 70, 3) := by decide +kernel
theorem dX10_term_87 : decode cX10_term 87 = .ok (.ireturn, 1) := by decide +kernel
def bX10_term_84 (N d : Nat)   (w : Wd) (y1 : Int32) (y2 : Int32) (y3 : Int32) : Option (Wd × Int32) :=
  c_cl (eX8_make N d w y1 y2 y3) fun w4 v5 =>
  some (w4, v5)
set_option maxHeartbeats 4000000 in
theorem kX10_term_84 {V : Ev} {p : Program} {l : Launch} {e : Env} {N d : Nat} {s : State} {m : MethodId} {args : Array Value} {below : List Frame} {meth : Method} {c : Code} {z : Wd × Int32} (X : CX V p s m args meth c cX10_term 5 RX10 (some .int))    {w : Wd} {y1 : Int32} {y2 : Int32} {y3 : Int32} {H : Heap} {locs : List Loc} {ls : Array Slot} (h : bX10_term_84 N d   w y1 y2 y3 = some z) (hH : wH V (cC V) (AC V) s w H locs) (hl : lv_has ls 5 []) : W p l e (rmD (d + 1)) s m args below meth c H locs 0 0 (MQ below (CtI V (cC V) (AC V) z) args s 0 0 (AC V)) (F0 m 84 ls [.int y3, .int y2, .int y1, .ref (V.2.2 1)]) := by
  unfold bX10_term_84 at h
  obtain ⟨hx, hb, hml, hown, hg, hrt, hlk, hK⟩ := id X
  refine r_cvI (pc := 84) (As := [.int y1, .int y2, .int y3]) (rest := []) X hH (fun x hx => mX8_make hx) cw_X10_70 (heC_1 V w) rfl rfl rfl (Nat.le_of_ble_eq_true rfl) hl.1 h dX10_term_84 (fun w4 v5 H locs h hH => ?_)
  exact r_iret (pc := 87) X hH h dX10_term_87
def bX10_term_73 (N d : Nat)   (w : Wd) (x3 : Int32) (x4 : Int32) (y1 : Int32) (y2 : Int32) : Option (Wd × Int32) :=
  if x4 ≤ 1 then (
    bX10_term_84 N d   w y1 y2 (-1)
  ) else (
    bX10_term_84 N d   w y1 y2 x3
  )
set_option maxHeartbeats 4000000 in
theorem kX10_term_73 {V : Ev} {p : Program} {l : Launch} {e : Env} {N d : Nat} {s : State} {m : MethodId} {args : Array Value} {below : List Frame} {meth : Method} {c : Code} {z : Wd × Int32} (X : CX V p s m args meth c cX10_term 5 RX10 (some .int))    {w : Wd} {x3 : Int32} {x4 : Int32} {y1 : Int32} {y2 : Int32} {H : Heap} {locs : List Loc} {ls : Array Slot} (h : bX10_term_73 N d   w x3 x4 y1 y2 = some z) (hH : wH V (cC V) (AC V) s w H locs) (hl : lv_has ls 5 [(3, .int x3), (4, .int x4)]) : W p l e (rmD (d + 1)) s m args below meth c H locs 0 0 (MQ below (CtI V (cC V) (AC V) z) args s 0 0 (AC V)) (F0 m 73 ls [.int y2, .int y1, .ref (V.2.2 1)]) := by
  unfold bX10_term_73 at h
  obtain ⟨hx, hb, hml, hown, hg, hrt, hlk, hK⟩ := id X
  refine lv_iload (pc := 73) hx hb dX10_term_73 (lv_at hl 1 rfl) ?_
  refine lv_iconst (pc := 75) (v := 1) hx hb dX10_term_75 (by decide) ?_
  refine b_icmp_le (pc := 76) (tgt := 83) hx hb h dX10_term_76 (by decide) (fun h => ?_) (fun h => ?_)
  · refine lv_iconst (pc := 83) (v := -1) hx hb dX10_term_83 (by decide) ?_
    exact kX10_term_84 X   h hH (lv_sub hl [] rfl)
  · refine lv_iload_n (pc := 79) hx hb dX10_term_79 rfl (lv_at hl 0 rfl) ?_
    refine lv_goto (pc := 80) (tgt := 84) hx hb dX10_term_80 (by decide) ?_
    exact kX10_term_84 X   h hH (lv_sub hl [] rfl)
def bX10_term_58 (N d : Nat)   (w : Wd) (x1 : Int32) (x2 : Int32) (x3 : Int32) (x4 : Int32) : Option (Wd × Int32) :=
  if x4 ≤ 0 then (
    bX10_term_73 N d   w x3 x4 x1 (-1)
  ) else (
    bX10_term_73 N d   w x3 x4 x1 x2
  )
set_option maxHeartbeats 4000000 in
theorem kX10_term_58 {V : Ev} {p : Program} {l : Launch} {e : Env} {N d : Nat} {s : State} {m : MethodId} {args : Array Value} {below : List Frame} {meth : Method} {c : Code} {z : Wd × Int32} (X : CX V p s m args meth c cX10_term 5 RX10 (some .int))    {w : Wd} {x1 : Int32} {x2 : Int32} {x3 : Int32} {x4 : Int32} {H : Heap} {locs : List Loc} {ls : Array Slot} (h : bX10_term_58 N d   w x1 x2 x3 x4 = some z) (hH : wH V (cC V) (AC V) s w H locs) (hl : lv_has ls 5 [(0, .ref (V.2.2 0)), (1, .int x1), (2, .int x2), (3, .int x3), (4, .int x4)]) : W p l e (rmD (d + 1)) s m args below meth c H locs 0 0 (MQ below (CtI V (cC V) (AC V) z) args s 0 0 (AC V)) (F0 m 58 ls []) := by
  unfold bX10_term_58 at h
  obtain ⟨hx, hb, hml, hown, hg, hrt, hlk, hK⟩ := id X
  refine lv_aload_n (pc := 58) hx hb dX10_term_58 rfl (lv_at hl 0 rfl) ?_
  refine gC_X10_15_0 (pc := 59) X hH dX10_term_59 ?_
  refine lv_iload_n (pc := 62) hx hb dX10_term_62 rfl (lv_at hl 1 rfl) ?_
  refine lv_iload (pc := 63) hx hb dX10_term_63 (lv_at hl 4 rfl) ?_
  refine b_if_le (pc := 65) (tgt := 72) hx hb h dX10_term_65 (by decide) (fun h => ?_) (fun h => ?_)
  · refine lv_iconst (pc := 72) (v := -1) hx hb dX10_term_72 (by decide) ?_
    exact kX10_term_73 X   h hH (lv_sub hl [3, 4] rfl)
  · refine lv_iload_n (pc := 68) hx hb dX10_term_68 rfl (lv_at hl 2 rfl) ?_
    refine lv_goto (pc := 69) (tgt := 73) hx hb dX10_term_69 (by decide) ?_
    exact kX10_term_73 X   h hH (lv_sub hl [3, 4] rfl)
def bX10_term_55 (N d : Nat)   (w : Wd)  : Option (Wd × Int32) :=
  some (w, -2)
set_option maxHeartbeats 4000000 in
theorem kX10_term_55 {V : Ev} {p : Program} {l : Launch} {e : Env} {N d : Nat} {s : State} {m : MethodId} {args : Array Value} {below : List Frame} {meth : Method} {c : Code} {z : Wd × Int32} (X : CX V p s m args meth c cX10_term 5 RX10 (some .int))    {w : Wd}  {H : Heap} {locs : List Loc} {ls : Array Slot} (h : bX10_term_55 N d   w  = some z) (hH : wH V (cC V) (AC V) s w H locs) (hl : lv_has ls 5 []) : W p l e (rmD (d + 1)) s m args below meth c H locs 0 0 (MQ below (CtI V (cC V) (AC V) z) args s 0 0 (AC V)) (F0 m 55 ls []) := by
  unfold bX10_term_55 at h
  obtain ⟨hx, hb, hml, hown, hg, hrt, hlk, hK⟩ := id X
  refine lv_bipush (pc := 55) (v := -2) hx hb dX10_term_55 (by decide) ?_
  exact r_iret (pc := 57) X hH h dX10_term_57
def bX10_term_41 (N d : Nat)   (w : Wd) (x1 : Int32) (x2 : Int32) (x3 : Int32) (x4 : Int32) : Option (Wd × Int32) :=
  if x4 ≤ 1 then (
    bX10_term_58 N d   w x1 x2 x3 x4
  ) else (
    c_cl (eX10_isTerm N d w x3) fun w6 v7 =>
    if v7 = 0 then (
      bX10_term_55 N d   w6 
    ) else (
      bX10_term_58 N d   w6 x1 x2 x3 x4
    )
  )
set_option maxHeartbeats 4000000 in
theorem kX10_term_41 {V : Ev} {p : Program} {l : Launch} {e : Env} {N d : Nat} {s : State} {m : MethodId} {args : Array Value} {below : List Frame} {meth : Method} {c : Code} {z : Wd × Int32} (X : CX V p s m args meth c cX10_term 5 RX10 (some .int))    {w : Wd} {x1 : Int32} {x2 : Int32} {x3 : Int32} {x4 : Int32} {H : Heap} {locs : List Loc} {ls : Array Slot} (h : bX10_term_41 N d   w x1 x2 x3 x4 = some z) (hH : wH V (cC V) (AC V) s w H locs) (hl : lv_has ls 5 [(0, .ref (V.2.2 0)), (1, .int x1), (2, .int x2), (3, .int x3), (4, .int x4)]) : W p l e (rmD (d + 1)) s m args below meth c H locs 0 0 (MQ below (CtI V (cC V) (AC V) z) args s 0 0 (AC V)) (F0 m 41 ls []) := by
  unfold bX10_term_41 at h
  obtain ⟨hx, hb, hml, hown, hg, hrt, hlk, hK⟩ := id X
  refine lv_iload (pc := 41) hx hb dX10_term_41 (lv_at hl 4 rfl) ?_
  refine lv_iconst (pc := 43) (v := 1) hx hb dX10_term_43 (by decide) ?_
  refine b_icmp_le (pc := 44) (tgt := 58) hx hb h dX10_term_44 (by decide) (fun h => ?_) (fun h => ?_)
  · exact kX10_term_58 X   h hH (lv_sub hl [0, 1, 2, 3, 4] rfl)
  · refine lv_aload_n (pc := 47) hx hb dX10_term_47 rfl (lv_at hl 0 rfl) ?_
    refine lv_iload_n (pc := 48) hx hb dX10_term_48 rfl (lv_at hl 3 rfl) ?_
    refine r_cvI (pc := 49) (As := [.int x3]) (rest := []) X hH (fun x hx => mX10_isTerm hx) cw_X10_82 (heC_0 V w) rfl rfl rfl (Nat.le_of_ble_eq_true rfl) hl.1 h dX10_term_49 (fun w6 v7 H locs h hH => ?_)
    refine b_if_ne (pc := 52) (tgt := 58) hx hb h dX10_term_52 (by decide) (fun h => ?_) (fun h => ?_)
    · exact kX10_term_58 X   h hH (lv_sub hl [0, 1, 2, 3, 4] rfl)
    · exact kX10_term_55 X   h hH (lv_sub hl [] rfl)
def bX10_term_0 (N d : Nat)   (w : Wd) (x1 : Int32) (x2 : Int32) (x3 : Int32) : Option (Wd × Int32) :=
  c_cl (eX10_isWithin N d w x1 (sI w 0)) fun w1 v2 =>
  if v2 = 0 then (
    some (w1, -2)
  ) else (
    c_ld w1 12 18 x1 fun v3 =>
    if v3 ≤ 0 then (
      bX10_term_41 N d   w1 x1 x2 x3 v3
    ) else (
      c_cl (eX10_isTerm N d w1 x2) fun w8 v9 =>
      if v9 = 0 then (
        bX10_term_55 N d   w8 
      ) else (
        bX10_term_41 N d   w8 x1 x2 x3 v3
      )
    )
  )
set_option maxHeartbeats 4000000 in
theorem kX10_term_0 {V : Ev} {p : Program} {l : Launch} {e : Env} {N d : Nat} {s : State} {m : MethodId} {args : Array Value} {below : List Frame} {meth : Method} {c : Code} {z : Wd × Int32} (X : CX V p s m args meth c cX10_term 5 RX10 (some .int))    {w : Wd} {x1 : Int32} {x2 : Int32} {x3 : Int32} {H : Heap} {locs : List Loc} {ls : Array Slot} (h : bX10_term_0 N d   w x1 x2 x3 = some z) (hH : wH V (cC V) (AC V) s w H locs) (hl : lv_has ls 5 [(0, .ref (V.2.2 0)), (1, .int x1), (2, .int x2), (3, .int x3)]) : W p l e (rmD (d + 1)) s m args below meth c H locs 0 0 (MQ below (CtI V (cC V) (AC V) z) args s 0 0 (AC V)) (F0 m 0 ls []) := by
  unfold bX10_term_0 at h
  obtain ⟨hx, hb, hml, hown, hg, hrt, hlk, hK⟩ := id X
  refine lv_iload_n (pc := 0) hx hb dX10_term_0 rfl (lv_at hl 1 rfl) ?_
  refine lv_aload_n (pc := 1) hx hb dX10_term_1 rfl (lv_at hl 0 rfl) ?_
  refine gC_X10_15_0 (pc := 2) X hH dX10_term_2 ?_
  refine gC_X10_74_1 (pc := 5) X hH dX10_term_5 ?_
  refine r_csI (pc := 8) (As := [.int x1, .int (sI w 0)]) (rest := []) X hH (fun x hx => mX10_isWithin hx) cs_X10_66 rfl rfl (Nat.le_of_ble_eq_true rfl) hl.1 h dX10_term_8 (fun w1 v2 H locs h hH => ?_)
  refine b_if_ne (pc := 11) (tgt := 17) hx hb h dX10_term_11 (by decide) (fun h => ?_) (fun h => ?_)
  · refine lv_aload_n (pc := 17) hx hb dX10_term_17 rfl (lv_at hl 0 rfl) ?_
    refine gC_X10_15_0 (pc := 18) X hH dX10_term_18 ?_
    refine gC_X10_78_1 (pc := 21) X hH dX10_term_21 ?_
    refine lv_iload_n (pc := 24) hx hb dX10_term_24 rfl (lv_at hl 1 rfl) ?_
    refine r_ld (pc := 25) X (heC_12 V w1) hH h dX10_term_25 (fun v3 h => ?_)
    refine lv_istore (pc := 26) (lv' := [(4, .int v3), (0, .ref (V.2.2 0)), (1, .int x1), (2, .int x2), (3, .int x3)]) hx hb dX10_term_26 hl (by decide) rfl (fun ls hl => ?_)
    refine lv_iload (pc := 28) hx hb dX10_term_28 (lv_at hl 0 rfl) ?_
    refine b_if_le (pc := 30) (tgt := 41) hx hb h dX10_term_30 (by decide) (fun h => ?_) (fun h => ?_)
    · exact kX10_term_41 X   h hH (lv_sub hl [1, 2, 3, 4, 0] rfl)
    · refine lv_aload_n (pc := 33) hx hb dX10_term_33 rfl (lv_at hl 1 rfl) ?_
      refine lv_iload_n (pc := 34) hx hb dX10_term_34 rfl (lv_at hl 3 rfl) ?_
      refine r_cvI (pc := 35) (As := [.int x2]) (rest := []) X hH (fun x hx => mX10_isTerm hx) cw_X10_82 (heC_0 V w1) rfl rfl rfl (Nat.le_of_ble_eq_true rfl) hl.1 h dX10_term_35 (fun w8 v9 H locs h hH => ?_)
      refine b_if_eq (pc := 38) (tgt := 55) hx hb h dX10_term_38 (by decide) (fun h => ?_) (fun h => ?_)
      · exact kX10_term_55 X   h hH (lv_sub hl [] rfl)
      · exact kX10_term_41 X   h hH (lv_sub hl [1, 2, 3, 4, 0] rfl)
  · refine lv_bipush (pc := 14) (v := -2) hx hb dX10_term_14 (by decide) ?_
    exact r_iret (pc := 16) X hH h dX10_term_16
def eX10_term (N : Nat) : Nat → Wd → Int32 → Int32 → Int32 → Option (Wd × Int32)
  | 0 => fun _ _ _ _ => none
  | d + 1 => fun w x1 x2 x3 => bX10_term_0 N d  w x1 x2 x3
set_option maxHeartbeats 4000000 in
set_option maxRecDepth 20000 in
theorem mX10_term {l : Launch} {V : Ev} {N d : Nat} {w : Wd} {x1 : Int32} {x2 : Int32} {x3 : Int32} {z : Wd × Int32} (h : eX10_term N d w x1 x2 x3 = some z) : MetI l V (cC V) (AC V) yX10_term cX10_term 5 (some .int) d [.ref (V.2.2 0), .int x1, .int x2, .int x3] w z := by
  cases d with
  | zero => exact c_none h
  | succ d =>
    refine Met.ofW (cc := cX10_term) (maxL := 5) (ret := (some .int)) (by decide) rfl ?_
    intro p e s m args below meth c s₁ B hml hv
    obtain ⟨rfl, hP, hD, hK⟩ := hv
    have hts := atoms_spec (ws := .code yX10_term cX10_term 5 (some .int) :: gG) B.pre
    have X : CX V p s m ([.ref (V.2.2 0), .int x1, .int x2, .int x3] : List Value).toArray meth c cX10_term 5 RX10 (some .int) := ⟨B.exec, B.bytes, hml, findClass_of_methodNamed B.named, fun w hw => hts w (List.mem_cons_of_mem _ hw), B.returns, B.notSynchronized, hK⟩
    have hl := lv_entry ([.ref (V.2.2 0), .int x1, .int x2, .int x3] : List Value) (n := 5) (Nat.le_of_ble_eq_true rfl)
    rw [lg_entry_eq]
    generalize (lg_sl ([.ref (V.2.2 0), .int x1, .int x2, .int x3] : List Value) ++ List.replicate (5 - (lg_sl ([.ref (V.2.2 0), .int x1, .int x2, .int x3] : List Value)).length) Slot.unset).toArray = ls at hl ⊢
    have hl : lv_has ls 5 [(0, .ref (V.2.2 0)), (1, .int x1), (2, .int x2), (3, .int x3)] := hl
    exact kX10_term_0 (N := N) X  h ⟨hP, hD, va_S.rf⟩ hl
theorem dX8_isVariable_0 : decode cX8_isVariable 0 = .ok (.aload_n 0, 1) := by decide +kernel
theorem dX8_isVariable_1 : decode cX8_isVariable 1 = .ok (.getfield 18, 3) := by decide +kernel
theorem dX8_isVariable_4 : decode cX8_isVariable 4 = .ok (.iload_n 1, 1) := by decide +kernel
theorem dX8_isVariable_5 : decode cX8_isVariable 5 = .ok (.iaload, 1) := by decide +kernel
theorem dX8_isVariable_6 : decode cX8_isVariable 6 = .ok (.bipush 10, 2) := by decide +kernel
theorem dX8_isVariable_8 : decode cX8_isVariable 8 = .ok (.if_icmp .lt 7, 3) := by decide +kernel
theorem dX8_isVariable_11 : decode cX8_isVariable 11 = .ok (.iconst 1, 1) := by decide +kernel
theorem dX8_isVariable_12 : decode cX8_isVariable 12 = .ok (.goto 4, 3) := by decide +kernel
theorem dX8_isVariable_15 : decode cX8_isVariable 15 = .ok (.iconst 0, 1) := by decide +kernel
theorem dX8_isVariable_16 : decode cX8_isVariable 16 = .ok (.ireturn, 1) := by decide +kernel
def bX8_isVariable_16 (N d : Nat)   (w : Wd) (y0 : Int32) : Option (Wd × Int32) :=
  c_bo y0 (some (w, y0))
set_option maxHeartbeats 4000000 in
theorem kX8_isVariable_16 {V : Ev} {p : Program} {l : Launch} {e : Env} {N d : Nat} {s : State} {m : MethodId} {args : Array Value} {below : List Frame} {meth : Method} {c : Code} {z : Wd × Int32} (X : CX V p s m args meth c cX8_isVariable 2 RX8 (some .boolean))    {w : Wd} {y0 : Int32} {H : Heap} {locs : List Loc} {ls : Array Slot} (h : bX8_isVariable_16 N d   w y0 = some z) (hH : wH V (cC V) (AC V) s w H locs) (hl : lv_has ls 2 []) : W p l e (rmD (d + 1)) s m args below meth c H locs 0 0 (MQ below (CtI V (cC V) (AC V) z) args s 0 0 (AC V)) (F0 m 16 ls [.int y0]) := by
  unfold bX8_isVariable_16 at h
  obtain ⟨hx, hb, hml, hown, hg, hrt, hlk, hK⟩ := id X
  exact r_zret (pc := 16) X hH h dX8_isVariable_16
def bX8_isVariable_0 (N d : Nat)   (w : Wd) (x1 : Int32) : Option (Wd × Int32) :=
  c_ld w 14 1000 x1 fun v1 =>
  if v1 < 10 then (
    bX8_isVariable_16 N d   w 0
  ) else (
    bX8_isVariable_16 N d   w 1
  )
set_option maxHeartbeats 4000000 in
theorem kX8_isVariable_0 {V : Ev} {p : Program} {l : Launch} {e : Env} {N d : Nat} {s : State} {m : MethodId} {args : Array Value} {below : List Frame} {meth : Method} {c : Code} {z : Wd × Int32} (X : CX V p s m args meth c cX8_isVariable 2 RX8 (some .boolean))    {w : Wd} {x1 : Int32} {H : Heap} {locs : List Loc} {ls : Array Slot} (h : bX8_isVariable_0 N d   w x1 = some z) (hH : wH V (cC V) (AC V) s w H locs) (hl : lv_has ls 2 [(0, .ref (V.2.2 1)), (1, .int x1)]) : W p l e (rmD (d + 1)) s m args below meth c H locs 0 0 (MQ below (CtI V (cC V) (AC V) z) args s 0 0 (AC V)) (F0 m 0 ls []) := by
  unfold bX8_isVariable_0 at h
  obtain ⟨hx, hb, hml, hown, hg, hrt, hlk, hK⟩ := id X
  refine lv_aload_n (pc := 0) hx hb dX8_isVariable_0 rfl (lv_at hl 0 rfl) ?_
  refine gC_X8_18_1 (pc := 1) X hH dX8_isVariable_1 ?_
  refine lv_iload_n (pc := 4) hx hb dX8_isVariable_4 rfl (lv_at hl 1 rfl) ?_
  refine r_ld (pc := 5) X (heC_14 V w) hH h dX8_isVariable_5 (fun v1 h => ?_)
  refine lv_bipush (pc := 6) (v := 10) hx hb dX8_isVariable_6 (by decide) ?_
  refine b_icmp_lt (pc := 8) (tgt := 15) hx hb h dX8_isVariable_8 (by decide) (fun h => ?_) (fun h => ?_)
  · refine lv_iconst (pc := 15) (v := 0) hx hb dX8_isVariable_15 (by decide) ?_
    exact kX8_isVariable_16 X   h hH (lv_sub hl [] rfl)
  · refine lv_iconst (pc := 11) (v := 1) hx hb dX8_isVariable_11 (by decide) ?_
    refine lv_goto (pc := 12) (tgt := 16) hx hb dX8_isVariable_12 (by decide) ?_
    exact kX8_isVariable_16 X   h hH (lv_sub hl [] rfl)
def eX8_isVariable (N : Nat) : Nat → Wd → Int32 → Option (Wd × Int32)
  | 0 => fun _ _ => none
  | d + 1 => fun w x1 => bX8_isVariable_0 N d  w x1
set_option maxHeartbeats 4000000 in
set_option maxRecDepth 20000 in
theorem mX8_isVariable {l : Launch} {V : Ev} {N d : Nat} {w : Wd} {x1 : Int32} {z : Wd × Int32} (h : eX8_isVariable N d w x1 = some z) : MetI l V (cC V) (AC V) yX8_isVariable cX8_isVariable 2 (some .boolean) d [.ref (V.2.2 1), .int x1] w z := by
  cases d with
  | zero => exact c_none h
  | succ d =>
    refine Met.ofW (cc := cX8_isVariable) (maxL := 2) (ret := (some .boolean)) (by decide) rfl ?_
    intro p e s m args below meth c s₁ B hml hv
    obtain ⟨rfl, hP, hD, hK⟩ := hv
    have hts := atoms_spec (ws := .code yX8_isVariable cX8_isVariable 2 (some .boolean) :: gG) B.pre
    have X : CX V p s m ([.ref (V.2.2 1), .int x1] : List Value).toArray meth c cX8_isVariable 2 RX8 (some .boolean) := ⟨B.exec, B.bytes, hml, findClass_of_methodNamed B.named, fun w hw => hts w (List.mem_cons_of_mem _ hw), B.returns, B.notSynchronized, hK⟩
    have hl := lv_entry ([.ref (V.2.2 1), .int x1] : List Value) (n := 2) (Nat.le_of_ble_eq_true rfl)
    rw [lg_entry_eq]
    generalize (lg_sl ([.ref (V.2.2 1), .int x1] : List Value) ++ List.replicate (2 - (lg_sl ([.ref (V.2.2 1), .int x1] : List Value)).length) Slot.unset).toArray = ls at hl ⊢
    have hl : lv_has ls 2 [(0, .ref (V.2.2 1)), (1, .int x1)] := hl
    exact kX8_isVariable_0 (N := N) X  h ⟨hP, hD, va_S.rf⟩ hl
theorem dX8_isSmall_0 : decode cX8_isSmall 0 = .ok (.aload_n 0, 1) := by decide +kernel
theorem dX8_isSmall_1 : decode cX8_isSmall 1 = .ok (.getfield 27, 3) := by decide +kernel
theorem dX8_isSmall_4 : decode cX8_isSmall 4 = .ok (.iload_n 1, 1) := by decide +kernel
theorem dX8_isSmall_5 : decode cX8_isSmall 5 = .ok (.laload, 1) := by decide +kernel
theorem dX8_isSmall_6 : decode cX8_isSmall 6 = .ok (.ldc2_w 50, 3) := by decide +kernel
theorem dX8_isSmall_9 : decode cX8_isSmall 9 = .ok (.lcmp, 1) := by decide +kernel
theorem dX8_isSmall_10 : decode cX8_isSmall 10 = .ok (.ifCond .gt 7, 3) := by decide +kernel
theorem dX8_isSmall_13 : decode cX8_isSmall 13 = .ok (.iconst 1, 1) := by decide +kernel
theorem dX8_isSmall_14 : decode cX8_isSmall 14 = .ok (.goto 4, 3) := by decide +kernel
theorem dX8_isSmall_17 : decode cX8_isSmall 17 = .ok (.iconst 0, 1) := by decide +kernel
theorem dX8_isSmall_18 : decode cX8_isSmall 18 = .ok (.ireturn, 1) := by decide +kernel
def bX8_isSmall_18 (N d : Nat)   (w : Wd) (y0 : Int32) : Option (Wd × Int32) :=
  c_bo y0 (some (w, y0))
set_option maxHeartbeats 4000000 in
theorem kX8_isSmall_18 {V : Ev} {p : Program} {l : Launch} {e : Env} {N d : Nat} {s : State} {m : MethodId} {args : Array Value} {below : List Frame} {meth : Method} {c : Code} {z : Wd × Int32} (X : CX V p s m args meth c cX8_isSmall 2 RX8 (some .boolean))    {w : Wd} {y0 : Int32} {H : Heap} {locs : List Loc} {ls : Array Slot} (h : bX8_isSmall_18 N d   w y0 = some z) (hH : wH V (cC V) (AC V) s w H locs) (hl : lv_has ls 2 []) : W p l e (rmD (d + 1)) s m args below meth c H locs 0 0 (MQ below (CtI V (cC V) (AC V) z) args s 0 0 (AC V)) (F0 m 18 ls [.int y0]) := by
  unfold bX8_isSmall_18 at h
  obtain ⟨hx, hb, hml, hown, hg, hrt, hlk, hK⟩ := id X
  exact r_zret (pc := 18) X hH h dX8_isSmall_18
def bX8_isSmall_0 (N d : Nat)   (w : Wd) (x1 : Int32) : Option (Wd × Int32) :=
  c_ll w 17 1000 x1 fun v1 =>
  if 0 < (lg_cmp v1 30) then (
    bX8_isSmall_18 N d   w 0
  ) else (
    bX8_isSmall_18 N d   w 1
  )
set_option maxHeartbeats 4000000 in
theorem kX8_isSmall_0 {V : Ev} {p : Program} {l : Launch} {e : Env} {N d : Nat} {s : State} {m : MethodId} {args : Array Value} {below : List Frame} {meth : Method} {c : Code} {z : Wd × Int32} (X : CX V p s m args meth c cX8_isSmall 2 RX8 (some .boolean))    {w : Wd} {x1 : Int32} {H : Heap} {locs : List Loc} {ls : Array Slot} (h : bX8_isSmall_0 N d   w x1 = some z) (hH : wH V (cC V) (AC V) s w H locs) (hl : lv_has ls 2 [(0, .ref (V.2.2 1)), (1, .int x1)]) : W p l e (rmD (d + 1)) s m args below meth c H locs 0 0 (MQ below (CtI V (cC V) (AC V) z) args s 0 0 (AC V)) (F0 m 0 ls []) := by
  unfold bX8_isSmall_0 at h
  obtain ⟨hx, hb, hml, hown, hg, hrt, hlk, hK⟩ := id X
  refine lv_aload_n (pc := 0) hx hb dX8_isSmall_0 rfl (lv_at hl 0 rfl) ?_
  refine gC_X8_27_1 (pc := 1) X hH dX8_isSmall_1 ?_
  refine lv_iload_n (pc := 4) hx hb dX8_isSmall_4 rfl (lv_at hl 1 rfl) ?_
  refine r_ll (pc := 5) X (heC_17 V w) hH h dX8_isSmall_5 (fun v1 h => ?_)
  refine lv_ldc2 (pc := 6) hx hb hown (hg _ wL_470) dX8_isSmall_6 ?_
  refine W.lcmp (pc := 9) hx hb dX8_isSmall_9 ?_
  refine b_if_gt (pc := 10) (tgt := 17) hx hb h dX8_isSmall_10 (by decide) (fun h => ?_) (fun h => ?_)
  · refine lv_iconst (pc := 17) (v := 0) hx hb dX8_isSmall_17 (by decide) ?_
    exact kX8_isSmall_18 X   h hH (lv_sub hl [] rfl)
  · refine lv_iconst (pc := 13) (v := 1) hx hb dX8_isSmall_13 (by decide) ?_
    refine lv_goto (pc := 14) (tgt := 18) hx hb dX8_isSmall_14 (by decide) ?_
    exact kX8_isSmall_18 X   h hH (lv_sub hl [] rfl)
def eX8_isSmall (N : Nat) : Nat → Wd → Int32 → Option (Wd × Int32)
  | 0 => fun _ _ => none
  | d + 1 => fun w x1 => bX8_isSmall_0 N d  w x1
set_option maxHeartbeats 4000000 in
set_option maxRecDepth 20000 in
theorem mX8_isSmall {l : Launch} {V : Ev} {N d : Nat} {w : Wd} {x1 : Int32} {z : Wd × Int32} (h : eX8_isSmall N d w x1 = some z) : MetI l V (cC V) (AC V) yX8_isSmall cX8_isSmall 2 (some .boolean) d [.ref (V.2.2 1), .int x1] w z := by
  cases d with
  | zero => exact c_none h
  | succ d =>
    refine Met.ofW (cc := cX8_isSmall) (maxL := 2) (ret := (some .boolean)) (by decide) rfl ?_
    intro p e s m args below meth c s₁ B hml hv
    obtain ⟨rfl, hP, hD, hK⟩ := hv
    have hts := atoms_spec (ws := .code yX8_isSmall cX8_isSmall 2 (some .boolean) :: gG) B.pre
    have X : CX V p s m ([.ref (V.2.2 1), .int x1] : List Value).toArray meth c cX8_isSmall 2 RX8 (some .boolean) := ⟨B.exec, B.bytes, hml, findClass_of_methodNamed B.named, fun w hw => hts w (List.mem_cons_of_mem _ hw), B.returns, B.notSynchronized, hK⟩
    have hl := lv_entry ([.ref (V.2.2 1), .int x1] : List Value) (n := 2) (Nat.le_of_ble_eq_true rfl)
    rw [lg_entry_eq]
    generalize (lg_sl ([.ref (V.2.2 1), .int x1] : List Value) ++ List.replicate (2 - (lg_sl ([.ref (V.2.2 1), .int x1] : List Value)).length) Slot.unset).toArray = ls at hl ⊢
    have hl : lv_has ls 2 [(0, .ref (V.2.2 1)), (1, .int x1)] := hl
    exact kX8_isSmall_0 (N := N) X  h ⟨hP, hD, va_S.rf⟩ hl
theorem dX8_makesRule_0 : decode cX8_makesRule 0 = .ok (.bipush (-16), 2) := by decide +kernel
theorem dX8_makesRule_2 : decode cX8_makesRule 2 = .ok (.istore_n 3, 1) := by decide +kernel
theorem dX8_makesRule_3 : decode cX8_makesRule 3 = .ok (.aload_n 0, 1) := by decide +kernel
theorem dX8_makesRule_4 : decode cX8_makesRule 4 = .ok (.iload_n 1, 1) := by decide +kernel
theorem dX8_makesRule_5 : decode cX8_makesRule 5 = .ok (.invokevirtual 52, 3) := by decide +kernel
theorem dX8_makesRule_8 : decode cX8_makesRule 8 = .ok (.ifCond .ne 52, 3) := by decide +kernel
theorem dX8_makesRule_11 : decode cX8_makesRule 11 = .ok (.aload_n 0, 1) := by decide +kernel
theorem dX8_makesRule_12 : decode cX8_makesRule 12 = .ok (.getfield 34, 3) := by decide +kernel
theorem dX8_makesRule_15 : decode cX8_makesRule 15 = .ok (.iload_n 1, 1) := by decide +kernel
theorem dX8_makesRule_16 : decode cX8_makesRule 16 = .ok (.iaload, 1) := by decide +kernel
theorem dX8_makesRule_17 : decode cX8_makesRule 17 = .ok (.iload_n 3, 1) := by decide +kernel
theorem dX8_makesRule_18 : decode cX8_makesRule 18 = .ok (.iand, 1) := by decide +kernel
theorem dX8_makesRule_19 : decode cX8_makesRule 19 = .ok (.ifCond .ne 41, 3) := by decide +kernel
theorem dX8_makesRule_22 : decode cX8_makesRule 22 = .ok (.aload_n 0, 1) := by decide +kernel
theorem dX8_makesRule_23 : decode cX8_makesRule 23 = .ok (.getfield 34, 3) := by decide +kernel
theorem dX8_makesRule_26 : decode cX8_makesRule 26 = .ok (.iload_n 2, 1) := by decide +kernel
theorem dX8_makesRule_27 : decode cX8_makesRule 27 = .ok (.iaload, 1) := by decide +kernel
theorem dX8_makesRule_28 : decode cX8_makesRule 28 = .ok (.aload_n 0, 1) := by decide +kernel
theorem dX8_makesRule_29 : decode cX8_makesRule 29 = .ok (.getfield 34, 3) := by decide +kernel
theorem dX8_makesRule_32 : decode cX8_makesRule 32 = .ok (.iload_n 1, 1) := by decide +kernel
theorem dX8_makesRule_33 : decode cX8_makesRule 33 = .ok (.iaload, 1) := by decide +kernel
theorem dX8_makesRule_34 : decode cX8_makesRule 34 = .ok (.iconst (-1), 1) := by decide +kernel
theorem dX8_makesRule_35 : decode cX8_makesRule 35 = .ok (.ixor, 1) := by decide +kernel
theorem dX8_makesRule_36 : decode cX8_makesRule 36 = .ok (.iand, 1) := by decide +kernel
theorem dX8_makesRule_37 : decode cX8_makesRule 37 = .ok (.ifCond .ne 23, 3) := by decide +kernel
theorem dX8_makesRule_40 : decode cX8_makesRule 40 = .ok (.aload_n 0, 1) := by decide +kernel
theorem dX8_makesRule_41 : decode cX8_makesRule 41 = .ok (.iload_n 1, 1) := by decide +kernel
theorem dX8_makesRule_42 : decode cX8_makesRule 42 = .ok (.invokevirtual 56, 3) := by decide +kernel
theorem dX8_makesRule_45 : decode cX8_makesRule 45 = .ok (.ifCond .eq 15, 3) := by decide +kernel
theorem dX8_makesRule_48 : decode cX8_makesRule 48 = .ok (.aload_n 0, 1) := by decide +kernel
theorem dX8_makesRule_49 : decode cX8_makesRule 49 = .ok (.iload_n 2, 1) := by decide +kernel
theorem dX8_makesRule_50 : decode cX8_makesRule 50 = .ok (.invokevirtual 56, 3) := by decide +kernel
theorem dX8_makesRule_53 : decode cX8_makesRule 53 = .ok (.ifCond .eq 7, 3) := by decide +kernel
theorem dX8_makesRule_56 : decode cX8_makesRule 56 = .ok (.iconst 1, 1) := by decide +kernel
theorem dX8_makesRule_57 : decode cX8_makesRule 57 = .ok (.goto 4, 3) := by decide +kernel
theorem dX8_makesRule_60 : decode cX8_makesRule 60 = .ok (.iconst 0, 1) := by decide +kernel
theorem dX8_makesRule_61 : decode cX8_makesRule 61 = .ok (.ireturn, 1) := by decide +kernel
def bX8_makesRule_61 (N d : Nat)   (w : Wd) (y0 : Int32) : Option (Wd × Int32) :=
  c_bo y0 (some (w, y0))
set_option maxHeartbeats 4000000 in
theorem kX8_makesRule_61 {V : Ev} {p : Program} {l : Launch} {e : Env} {N d : Nat} {s : State} {m : MethodId} {args : Array Value} {below : List Frame} {meth : Method} {c : Code} {z : Wd × Int32} (X : CX V p s m args meth c cX8_makesRule 4 RX8 (some .boolean))    {w : Wd} {y0 : Int32} {H : Heap} {locs : List Loc} {ls : Array Slot} (h : bX8_makesRule_61 N d   w y0 = some z) (hH : wH V (cC V) (AC V) s w H locs) (hl : lv_has ls 4 []) : W p l e (rmD (d + 1)) s m args below meth c H locs 0 0 (MQ below (CtI V (cC V) (AC V) z) args s 0 0 (AC V)) (F0 m 61 ls [.int y0]) := by
  unfold bX8_makesRule_61 at h
  obtain ⟨hx, hb, hml, hown, hg, hrt, hlk, hK⟩ := id X
  exact r_zret (pc := 61) X hH h dX8_makesRule_61
def bX8_makesRule_60 (N d : Nat)   (w : Wd)  : Option (Wd × Int32) :=
  bX8_makesRule_61 N d   w 0
set_option maxHeartbeats 4000000 in
theorem kX8_makesRule_60 {V : Ev} {p : Program} {l : Launch} {e : Env} {N d : Nat} {s : State} {m : MethodId} {args : Array Value} {below : List Frame} {meth : Method} {c : Code} {z : Wd × Int32} (X : CX V p s m args meth c cX8_makesRule 4 RX8 (some .boolean))    {w : Wd}  {H : Heap} {locs : List Loc} {ls : Array Slot} (h : bX8_makesRule_60 N d   w  = some z) (hH : wH V (cC V) (AC V) s w H locs) (hl : lv_has ls 4 []) : W p l e (rmD (d + 1)) s m args below meth c H locs 0 0 (MQ below (CtI V (cC V) (AC V) z) args s 0 0 (AC V)) (F0 m 60 ls []) := by
  unfold bX8_makesRule_60 at h
  obtain ⟨hx, hb, hml, hown, hg, hrt, hlk, hK⟩ := id X
  refine lv_iconst (pc := 60) (v := 0) hx hb dX8_makesRule_60 (by decide) ?_
  exact kX8_makesRule_61 X   h hH (lv_sub hl [] rfl)
def bX8_makesRule_0 (N d : Nat)   (w : Wd) (x1 : Int32) (x2 : Int32) : Option (Wd × Int32) :=
  c_nm (-16 : Int32) fun x3_1 =>
  c_cl (eX8_isVariable N d w x1) fun w2 v3 =>
  if v3 = 0 then (
    c_ld w2 19 1000 x1 fun v4 =>
    if (v4 &&& x3_1) = 0 then (
      c_ld w2 19 1000 x2 fun v5 =>
      c_ld w2 19 1000 x1 fun v6 =>
      if (v5 &&& (v6 ^^^ (-1))) = 0 then (
        c_cl (eX8_isSmall N d w2 x1) fun w7 v8 =>
        if v8 = 0 then (
          bX8_makesRule_60 N d   w7 
        ) else (
          c_cl (eX8_isSmall N d w7 x2) fun w9 v10 =>
          if v10 = 0 then (
            bX8_makesRule_60 N d   w9 
          ) else (
            bX8_makesRule_61 N d   w9 1
          )
        )
      ) else (
        bX8_makesRule_60 N d   w2 
      )
    ) else (
      bX8_makesRule_60 N d   w2 
    )
  ) else (
    bX8_makesRule_60 N d   w2 
  )
set_option maxHeartbeats 4000000 in
theorem kX8_makesRule_0 {V : Ev} {p : Program} {l : Launch} {e : Env} {N d : Nat} {s : State} {m : MethodId} {args : Array Value} {below : List Frame} {meth : Method} {c : Code} {z : Wd × Int32} (X : CX V p s m args meth c cX8_makesRule 4 RX8 (some .boolean))    {w : Wd} {x1 : Int32} {x2 : Int32} {H : Heap} {locs : List Loc} {ls : Array Slot} (h : bX8_makesRule_0 N d   w x1 x2 = some z) (hH : wH V (cC V) (AC V) s w H locs) (hl : lv_has ls 4 [(0, .ref (V.2.2 1)), (1, .int x1), (2, .int x2)]) : W p l e (rmD (d + 1)) s m args below meth c H locs 0 0 (MQ below (CtI V (cC V) (AC V) z) args s 0 0 (AC V)) (F0 m 0 ls []) := by
  unfold bX8_makesRule_0 at h
  obtain ⟨hx, hb, hml, hown, hg, hrt, hlk, hK⟩ := id X
  refine lv_bipush (pc := 0) (v := -16) hx hb dX8_makesRule_0 (by decide) ?_
  refine r_nmi h (fun x3_1 h => ?_)
  refine lv_istore_n (pc := 2) (lv' := [(3, .int x3_1), (0, .ref (V.2.2 1)), (1, .int x1), (2, .int x2)]) hx hb dX8_makesRule_2 rfl hl (by decide) rfl (fun ls hl => ?_)
  refine lv_aload_n (pc := 3) hx hb dX8_makesRule_3 rfl (lv_at hl 1 rfl) ?_
  refine lv_iload_n (pc := 4) hx hb dX8_makesRule_4 rfl (lv_at hl 2 rfl) ?_
  refine r_cvI (pc := 5) (As := [.int x1]) (rest := []) X hH (fun x hx => mX8_isVariable hx) cw_X8_52 (heC_1 V w) rfl rfl rfl (Nat.le_of_ble_eq_true rfl) hl.1 h dX8_makesRule_5 (fun w2 v3 H locs h hH => ?_)
  refine b_if_ne (pc := 8) (tgt := 60) hx hb h dX8_makesRule_8 (by decide) (fun h => ?_) (fun h => ?_)
  · exact kX8_makesRule_60 X   h hH (lv_sub hl [] rfl)
  · refine lv_aload_n (pc := 11) hx hb dX8_makesRule_11 rfl (lv_at hl 1 rfl) ?_
    refine gC_X8_34_1 (pc := 12) X hH dX8_makesRule_12 ?_
    refine lv_iload_n (pc := 15) hx hb dX8_makesRule_15 rfl (lv_at hl 2 rfl) ?_
    refine r_ld (pc := 16) X (heC_19 V w2) hH h dX8_makesRule_16 (fun v4 h => ?_)
    refine lv_iload_n (pc := 17) hx hb dX8_makesRule_17 rfl (lv_at hl 0 rfl) ?_
    refine lv_iand (pc := 18) hx hb dX8_makesRule_18 ?_
    refine b_if_ne (pc := 19) (tgt := 60) hx hb h dX8_makesRule_19 (by decide) (fun h => ?_) (fun h => ?_)
    · exact kX8_makesRule_60 X   h hH (lv_sub hl [] rfl)
    · refine lv_aload_n (pc := 22) hx hb dX8_makesRule_22 rfl (lv_at hl 1 rfl) ?_
      refine gC_X8_34_1 (pc := 23) X hH dX8_makesRule_23 ?_
      refine lv_iload_n (pc := 26) hx hb dX8_makesRule_26 rfl (lv_at hl 3 rfl) ?_
      refine r_ld (pc := 27) X (heC_19 V w2) hH h dX8_makesRule_27 (fun v5 h => ?_)
      refine lv_aload_n (pc := 28) hx hb dX8_makesRule_28 rfl (lv_at hl 1 rfl) ?_
      refine gC_X8_34_1 (pc := 29) X hH dX8_makesRule_29 ?_
      refine lv_iload_n (pc := 32) hx hb dX8_makesRule_32 rfl (lv_at hl 2 rfl) ?_
      refine r_ld (pc := 33) X (heC_19 V w2) hH h dX8_makesRule_33 (fun v6 h => ?_)
      refine lv_iconst (pc := 34) (v := -1) hx hb dX8_makesRule_34 (by decide) ?_
      refine lv_ixor (pc := 35) hx hb dX8_makesRule_35 ?_
      refine lv_iand (pc := 36) hx hb dX8_makesRule_36 ?_
      refine b_if_ne (pc := 37) (tgt := 60) hx hb h dX8_makesRule_37 (by decide) (fun h => ?_) (fun h => ?_)
      · exact kX8_makesRule_60 X   h hH (lv_sub hl [] rfl)
      · refine lv_aload_n (pc := 40) hx hb dX8_makesRule_40 rfl (lv_at hl 1 rfl) ?_
        refine lv_iload_n (pc := 41) hx hb dX8_makesRule_41 rfl (lv_at hl 2 rfl) ?_
        refine r_cvI (pc := 42) (As := [.int x1]) (rest := []) X hH (fun x hx => mX8_isSmall hx) cw_X8_56 (heC_1 V w2) rfl rfl rfl (Nat.le_of_ble_eq_true rfl) hl.1 h dX8_makesRule_42 (fun w7 v8 H locs h hH => ?_)
        refine b_if_eq (pc := 45) (tgt := 60) hx hb h dX8_makesRule_45 (by decide) (fun h => ?_) (fun h => ?_)
        · exact kX8_makesRule_60 X   h hH (lv_sub hl [] rfl)
        · refine lv_aload_n (pc := 48) hx hb dX8_makesRule_48 rfl (lv_at hl 1 rfl) ?_
          refine lv_iload_n (pc := 49) hx hb dX8_makesRule_49 rfl (lv_at hl 3 rfl) ?_
          refine r_cvI (pc := 50) (As := [.int x2]) (rest := []) X hH (fun x hx => mX8_isSmall hx) cw_X8_56 (heC_1 V w7) rfl rfl rfl (Nat.le_of_ble_eq_true rfl) hl.1 h dX8_makesRule_50 (fun w9 v10 H locs h hH => ?_)
          refine b_if_eq (pc := 53) (tgt := 60) hx hb h dX8_makesRule_53 (by decide) (fun h => ?_) (fun h => ?_)
          · exact kX8_makesRule_60 X   h hH (lv_sub hl [] rfl)
          · refine lv_iconst (pc := 56) (v := 1) hx hb dX8_makesRule_56 (by decide) ?_
            refine lv_goto (pc := 57) (tgt := 61) hx hb dX8_makesRule_57 (by decide) ?_
            exact kX8_makesRule_61 X   h hH (lv_sub hl [] rfl)
def eX8_makesRule (N : Nat) : Nat → Wd → Int32 → Int32 → Option (Wd × Int32)
  | 0 => fun _ _ _ => none
  | d + 1 => fun w x1 x2 => bX8_makesRule_0 N d  w x1 x2
set_option maxHeartbeats 4000000 in
set_option maxRecDepth 20000 in
theorem mX8_makesRule {l : Launch} {V : Ev} {N d : Nat} {w : Wd} {x1 : Int32} {x2 : Int32} {z : Wd × Int32} (h : eX8_makesRule N d w x1 x2 = some z) : MetI l V (cC V) (AC V) yX8_makesRule cX8_makesRule 4 (some .boolean) d [.ref (V.2.2 1), .int x1, .int x2] w z := by
  cases d with
  | zero => exact c_none h
  | succ d =>
    refine Met.ofW (cc := cX8_makesRule) (maxL := 4) (ret := (some .boolean)) (by decide) rfl ?_
    intro p e s m args below meth c s₁ B hml hv
    obtain ⟨rfl, hP, hD, hK⟩ := hv
    have hts := atoms_spec (ws := .code yX8_makesRule cX8_makesRule 4 (some .boolean) :: gG) B.pre
    have X : CX V p s m ([.ref (V.2.2 1), .int x1, .int x2] : List Value).toArray meth c cX8_makesRule 4 RX8 (some .boolean) := ⟨B.exec, B.bytes, hml, findClass_of_methodNamed B.named, fun w hw => hts w (List.mem_cons_of_mem _ hw), B.returns, B.notSynchronized, hK⟩
    have hl := lv_entry ([.ref (V.2.2 1), .int x1, .int x2] : List Value) (n := 4) (Nat.le_of_ble_eq_true rfl)
    rw [lg_entry_eq]
    generalize (lg_sl ([.ref (V.2.2 1), .int x1, .int x2] : List Value) ++ List.replicate (4 - (lg_sl ([.ref (V.2.2 1), .int x1, .int x2] : List Value)).length) Slot.unset).toArray = ls at hl ⊢
    have hl : lv_has ls 4 [(0, .ref (V.2.2 1)), (1, .int x1), (2, .int x2)] := hl
    exact kX8_makesRule_0 (N := N) X  h ⟨hP, hD, va_S.rf⟩ hl
theorem dX4_add_0 : decode cX4_add 0 = .ok (.aload_n 0, 1) := by decide +kernel
theorem dX4_add_1 : decode cX4_add 1 = .ok (.getfield 22, 3) := by decide +kernel
theorem dX4_add_4 : decode cX4_add 4 = .ok (.bipush 16, 2) := by decide +kernel
theorem dX4_add_6 : decode cX4_add 6 = .ok (.if_icmp .lt 6, 3) := by decide +kernel
theorem dX4_add_9 : decode cX4_add 9 = .ok (.bipush (-4), 2) := by decide +kernel
theorem dX4_add_11 : decode cX4_add 11 = .ok (.ireturn, 1) := by decide +kernel
theorem dX4_add_12 : decode cX4_add 12 = .ok (.aload_n 0, 1) := by decide +kernel
theorem dX4_add_13 : decode cX4_add 13 = .ok (.getfield 9, 3) := by decide +kernel
theorem dX4_add_16 : decode cX4_add 16 = .ok (.aload_n 0, 1) := by decide +kernel
theorem dX4_add_17 : decode cX4_add 17 = .ok (.getfield 22, 3) := by decide +kernel
theorem dX4_add_20 : decode cX4_add 20 = .ok (.iload_n 1, 1) := by decide +kernel
theorem dX4_add_21 : decode cX4_add 21 = .ok (.iastore, 1) := by decide +kernel
theorem dX4_add_22 : decode cX4_add 22 = .ok (.aload_n 0, 1) := by decide +kernel
theorem dX4_add_23 : decode cX4_add 23 = .ok (.getfield 15, 3) := by decide +kernel
theorem dX4_add_26 : decode cX4_add 26 = .ok (.aload_n 0, 1) := by decide +kernel
theorem dX4_add_27 : decode cX4_add 27 = .ok (.getfield 22, 3) := by decide +kernel
theorem dX4_add_30 : decode cX4_add 30 = .ok (.iload_n 2, 1) := by decide +kernel
theorem dX4_add_31 : decode cX4_add 31 = .ok (.iastore, 1) := by decide +kernel
theorem dX4_add_32 : decode cX4_add 32 = .ok (.aload_n 0, 1) := by decide +kernel
theorem dX4_add_33 : decode cX4_add 33 = .ok (.getfield 18, 3) := by decide +kernel
theorem dX4_add_36 : decode cX4_add 36 = .ok (.aload_n 0, 1) := by decide +kernel
theorem dX4_add_37 : decode cX4_add 37 = .ok (.getfield 22, 3) := by decide +kernel
theorem dX4_add_40 : decode cX4_add 40 = .ok (.iconst 1, 1) := by decide +kernel
theorem dX4_add_41 : decode cX4_add 41 = .ok (.bastore, 1) := by decide +kernel
theorem dX4_add_42 : decode cX4_add 42 = .ok (.aload_n 0, 1) := by decide +kernel
theorem dX4_add_43 : decode cX4_add 43 = .ok (.dup, 1) := by decide +kernel
theorem dX4_add_44 : decode cX4_add 44 = .ok (.getfield 22, 3) := by decide +kernel
theorem dX4_add_47 : decode cX4_add 47 = .ok (.iconst 1, 1) := by decide +kernel
theorem dX4_add_48 : decode cX4_add 48 = .ok (.iadd, 1) := by decide +kernel
theorem dX4_add_49 : decode cX4_add 49 = .ok (.putfield 22, 3) := by decide +kernel
theorem dX4_add_52 : decode cX4_add 52 = .ok (.aload_n 0, 1) := by decide +kernel
theorem dX4_add_53 : decode cX4_add 53 = .ok (.getfield 22, 3) := by decide +kernel
theorem dX4_add_56 : decode cX4_add 56 = .ok (.iconst 1, 1) := by decide +kernel
theorem dX4_add_57 : decode cX4_add 57 = .ok (.isub, 1) := by decide +kernel
theorem dX4_add_58 : decode cX4_add 58 = .ok (.ireturn, 1) := by decide +kernel
def bX4_add_0 (N d : Nat)   (w : Wd) (x1 : Int32) (x2 : Int32) : Option (Wd × Int32) :=
  if (sI w 2) < 16 then (
    c_st w 23 16 (sI w 2) x1 fun w1 =>
    c_st w1 24 16 (sI w1 2) x2 fun w2 =>
    c_sz w2 25 16 (sI w2 2) 1 fun w3 =>
    c_pi w3 2 ((sI w3 2) + 1) fun w4 =>
    some (w4, (sI w4 2) - 1)
  ) else (
    some (w, -4)
  )
set_option maxHeartbeats 4000000 in
theorem kX4_add_0 {V : Ev} {p : Program} {l : Launch} {e : Env} {N d : Nat} {s : State} {m : MethodId} {args : Array Value} {below : List Frame} {meth : Method} {c : Code} {z : Wd × Int32} (X : CX V p s m args meth c cX4_add 3 RX4 (some .int))    {w : Wd} {x1 : Int32} {x2 : Int32} {H : Heap} {locs : List Loc} {ls : Array Slot} (h : bX4_add_0 N d   w x1 x2 = some z) (hH : wH V (cC V) (AC V) s w H locs) (hl : lv_has ls 3 [(0, .ref (V.2.2 2)), (1, .int x1), (2, .int x2)]) : W p l e (rmD (d + 1)) s m args below meth c H locs 0 0 (MQ below (CtI V (cC V) (AC V) z) args s 0 0 (AC V)) (F0 m 0 ls []) := by
  unfold bX4_add_0 at h
  obtain ⟨hx, hb, hml, hown, hg, hrt, hlk, hK⟩ := id X
  refine lv_aload_n (pc := 0) hx hb dX4_add_0 rfl (lv_at hl 0 rfl) ?_
  refine gC_X4_22_2 (pc := 1) X hH dX4_add_1 ?_
  refine lv_bipush (pc := 4) (v := 16) hx hb dX4_add_4 (by decide) ?_
  refine b_icmp_lt (pc := 6) (tgt := 12) hx hb h dX4_add_6 (by decide) (fun h => ?_) (fun h => ?_)
  · refine lv_aload_n (pc := 12) hx hb dX4_add_12 rfl (lv_at hl 0 rfl) ?_
    refine gC_X4_9_2 (pc := 13) X hH dX4_add_13 ?_
    refine lv_aload_n (pc := 16) hx hb dX4_add_16 rfl (lv_at hl 0 rfl) ?_
    refine gC_X4_22_2 (pc := 17) X hH dX4_add_17 ?_
    refine lv_iload_n (pc := 20) hx hb dX4_add_20 rfl (lv_at hl 1 rfl) ?_
    refine r_st (pc := 21) X (heC_23 V w) (hsC_23 V w) hH h dX4_add_21 (fun w1 H locs h hH => ?_)
    refine lv_aload_n (pc := 22) hx hb dX4_add_22 rfl (lv_at hl 0 rfl) ?_
    refine gC_X4_15_2 (pc := 23) X hH dX4_add_23 ?_
    refine lv_aload_n (pc := 26) hx hb dX4_add_26 rfl (lv_at hl 0 rfl) ?_
    refine gC_X4_22_2 (pc := 27) X hH dX4_add_27 ?_
    refine lv_iload_n (pc := 30) hx hb dX4_add_30 rfl (lv_at hl 2 rfl) ?_
    refine r_st (pc := 31) X (heC_24 V w1) (hsC_24 V w1) hH h dX4_add_31 (fun w2 H locs h hH => ?_)
    refine lv_aload_n (pc := 32) hx hb dX4_add_32 rfl (lv_at hl 0 rfl) ?_
    refine gC_X4_18_2 (pc := 33) X hH dX4_add_33 ?_
    refine lv_aload_n (pc := 36) hx hb dX4_add_36 rfl (lv_at hl 0 rfl) ?_
    refine gC_X4_22_2 (pc := 37) X hH dX4_add_37 ?_
    refine lv_iconst (pc := 40) (v := 1) hx hb dX4_add_40 (by decide) ?_
    refine r_sz (pc := 41) X (heC_25 V w2) (hsC_25 V w2) hH h dX4_add_41 (fun w3 H locs h hH => ?_)
    refine lv_aload_n (pc := 42) hx hb dX4_add_42 rfl (lv_at hl 0 rfl) ?_
    refine lv_dup (pc := 43) hx hb dX4_add_43 rfl ?_
    refine gC_X4_22_2 (pc := 44) X hH dX4_add_44 ?_
    refine lv_iconst (pc := 47) (v := 1) hx hb dX4_add_47 (by decide) ?_
    refine lv_iadd (pc := 48) hx hb dX4_add_48 ?_
    refine pC_X4_22_2 (pc := 49) X hH h dX4_add_49 (fun w4 H locs h hH => ?_)
    refine lv_aload_n (pc := 52) hx hb dX4_add_52 rfl (lv_at hl 0 rfl) ?_
    refine gC_X4_22_2 (pc := 53) X hH dX4_add_53 ?_
    refine lv_iconst (pc := 56) (v := 1) hx hb dX4_add_56 (by decide) ?_
    refine lv_isub (pc := 57) hx hb dX4_add_57 ?_
    exact r_iret (pc := 58) X hH h dX4_add_58
  · refine lv_bipush (pc := 9) (v := -4) hx hb dX4_add_9 (by decide) ?_
    exact r_iret (pc := 11) X hH h dX4_add_11
def eX4_add (N : Nat) : Nat → Wd → Int32 → Int32 → Option (Wd × Int32)
  | 0 => fun _ _ _ => none
  | d + 1 => fun w x1 x2 => bX4_add_0 N d  w x1 x2
set_option maxHeartbeats 4000000 in
set_option maxRecDepth 20000 in
theorem mX4_add {l : Launch} {V : Ev} {N d : Nat} {w : Wd} {x1 : Int32} {x2 : Int32} {z : Wd × Int32} (h : eX4_add N d w x1 x2 = some z) : MetI l V (cC V) (AC V) yX4_add cX4_add 3 (some .int) d [.ref (V.2.2 2), .int x1, .int x2] w z := by
  cases d with
  | zero => exact c_none h
  | succ d =>
    refine Met.ofW (cc := cX4_add) (maxL := 3) (ret := (some .int)) (by decide) rfl ?_
    intro p e s m args below meth c s₁ B hml hv
    obtain ⟨rfl, hP, hD, hK⟩ := hv
    have hts := atoms_spec (ws := .code yX4_add cX4_add 3 (some .int) :: gG) B.pre
    have X : CX V p s m ([.ref (V.2.2 2), .int x1, .int x2] : List Value).toArray meth c cX4_add 3 RX4 (some .int) := ⟨B.exec, B.bytes, hml, findClass_of_methodNamed B.named, fun w hw => hts w (List.mem_cons_of_mem _ hw), B.returns, B.notSynchronized, hK⟩
    have hl := lv_entry ([.ref (V.2.2 2), .int x1, .int x2] : List Value) (n := 3) (Nat.le_of_ble_eq_true rfl)
    rw [lg_entry_eq]
    generalize (lg_sl ([.ref (V.2.2 2), .int x1, .int x2] : List Value) ++ List.replicate (3 - (lg_sl ([.ref (V.2.2 2), .int x1, .int x2] : List Value)).length) Slot.unset).toArray = ls at hl ⊢
    have hl : lv_has ls 3 [(0, .ref (V.2.2 2)), (1, .int x1), (2, .int x2)] := hl
    exact kX4_add_0 (N := N) X  h ⟨hP, hD, va_S.rf⟩ hl
theorem dX10_rule_0 : decode cX10_rule 0 = .ok (.aload_n 0, 1) := by decide +kernel
theorem dX10_rule_1 : decode cX10_rule 1 = .ok (.iload_n 1, 1) := by decide +kernel
theorem dX10_rule_2 : decode cX10_rule 2 = .ok (.invokevirtual 82, 3) := by decide +kernel
theorem dX10_rule_5 : decode cX10_rule 5 = .ok (.ifCond .eq 11, 3) := by decide +kernel
theorem dX10_rule_8 : decode cX10_rule 8 = .ok (.aload_n 0, 1) := by decide +kernel
theorem dX10_rule_9 : decode cX10_rule 9 = .ok (.iload_n 2, 1) := by decide +kernel
theorem dX10_rule_10 : decode cX10_rule 10 = .ok (.invokevirtual 82, 3) := by decide +kernel
theorem dX10_rule_13 : decode cX10_rule 13 = .ok (.ifCond .ne 6, 3) := by decide +kernel
theorem dX10_rule_16 : decode cX10_rule 16 = .ok (.bipush (-2), 2) := by decide +kernel
theorem dX10_rule_18 : decode cX10_rule 18 = .ok (.ireturn, 1) := by decide +kernel
theorem dX10_rule_19 : decode cX10_rule 19 = .ok (.aload_n 0, 1) := by decide +kernel
theorem dX10_rule_20 : decode cX10_rule 20 = .ok (.getfield 15, 3) := by decide +kernel
theorem dX10_rule_23 : decode cX10_rule 23 = .ok (.iload_n 1, 1) := by decide +kernel
theorem dX10_rule_24 : decode cX10_rule 24 = .ok (.iload_n 2, 1) := by decide +kernel
theorem dX10_rule_25 : decode cX10_rule 25 = .ok (.invokevirtual 86, 3) := by decide +kernel
theorem dX10_rule_28 : decode cX10_rule 28 = .ok (.ifCond .ne 6, 3) := by decide +kernel
theorem dX10_rule_31 : decode cX10_rule 31 = .ok (.bipush (-3), 2) := by decide +kernel
theorem dX10_rule_33 : decode cX10_rule 33 = .ok (.ireturn, 1) := by decide +kernel
theorem dX10_rule_34 : decode cX10_rule 34 = .ok (.aload_n 0, 1) := by decide +kernel
theorem dX10_rule_35 : decode cX10_rule 35 = .ok (.getfield 19, 3) := by decide +kernel
theorem dX10_rule_38 : decode cX10_rule 38 = .ok (.iload_n 1, 1) := by decide +kernel
theorem dX10_rule_39 : decode cX10_rule 39 = .ok (.iload_n 2, 1) := by decide +kernel
theorem dX10_rule_40 : decode cX10_rule 40 = .ok (.invokevirtual 89, 3) := by decide +kernel
theorem dX10_rule_43 : decode cX10_rule 43 = .ok (.ireturn, 1) := by decide +kernel
def bX10_rule_16 (N d : Nat)   (w : Wd)  : Option (Wd × Int32) :=
  some (w, -2)
set_option maxHeartbeats 4000000 in
theorem kX10_rule_16 {V : Ev} {p : Program} {l : Launch} {e : Env} {N d : Nat} {s : State} {m : MethodId} {args : Array Value} {below : List Frame} {meth : Method} {c : Code} {z : Wd × Int32} (X : CX V p s m args meth c cX10_rule 3 RX10 (some .int))    {w : Wd}  {H : Heap} {locs : List Loc} {ls : Array Slot} (h : bX10_rule_16 N d   w  = some z) (hH : wH V (cC V) (AC V) s w H locs) (hl : lv_has ls 3 []) : W p l e (rmD (d + 1)) s m args below meth c H locs 0 0 (MQ below (CtI V (cC V) (AC V) z) args s 0 0 (AC V)) (F0 m 16 ls []) := by
  unfold bX10_rule_16 at h
  obtain ⟨hx, hb, hml, hown, hg, hrt, hlk, hK⟩ := id X
  refine lv_bipush (pc := 16) (v := -2) hx hb dX10_rule_16 (by decide) ?_
  exact r_iret (pc := 18) X hH h dX10_rule_18
def bX10_rule_0 (N d : Nat)   (w : Wd) (x1 : Int32) (x2 : Int32) : Option (Wd × Int32) :=
  c_cl (eX10_isTerm N d w x1) fun w1 v2 =>
  if v2 = 0 then (
    bX10_rule_16 N d   w1 
  ) else (
    c_cl (eX10_isTerm N d w1 x2) fun w3 v4 =>
    if v4 = 0 then (
      bX10_rule_16 N d   w3 
    ) else (
      c_cl (eX8_makesRule N d w3 x1 x2) fun w5 v6 =>
      if v6 = 0 then (
        some (w5, -3)
      ) else (
        c_cl (eX4_add N d w5 x1 x2) fun w7 v8 =>
        some (w7, v8)
      )
    )
  )
set_option maxHeartbeats 4000000 in
theorem kX10_rule_0 {V : Ev} {p : Program} {l : Launch} {e : Env} {N d : Nat} {s : State} {m : MethodId} {args : Array Value} {below : List Frame} {meth : Method} {c : Code} {z : Wd × Int32} (X : CX V p s m args meth c cX10_rule 3 RX10 (some .int))    {w : Wd} {x1 : Int32} {x2 : Int32} {H : Heap} {locs : List Loc} {ls : Array Slot} (h : bX10_rule_0 N d   w x1 x2 = some z) (hH : wH V (cC V) (AC V) s w H locs) (hl : lv_has ls 3 [(0, .ref (V.2.2 0)), (1, .int x1), (2, .int x2)]) : W p l e (rmD (d + 1)) s m args below meth c H locs 0 0 (MQ below (CtI V (cC V) (AC V) z) args s 0 0 (AC V)) (F0 m 0 ls []) := by
  unfold bX10_rule_0 at h
  obtain ⟨hx, hb, hml, hown, hg, hrt, hlk, hK⟩ := id X
  refine lv_aload_n (pc := 0) hx hb dX10_rule_0 rfl (lv_at hl 0 rfl) ?_
  refine lv_iload_n (pc := 1) hx hb dX10_rule_1 rfl (lv_at hl 1 rfl) ?_
  refine r_cvI (pc := 2) (As := [.int x1]) (rest := []) X hH (fun x hx => mX10_isTerm hx) cw_X10_82 (heC_0 V w) rfl rfl rfl (Nat.le_of_ble_eq_true rfl) hl.1 h dX10_rule_2 (fun w1 v2 H locs h hH => ?_)
  refine b_if_eq (pc := 5) (tgt := 16) hx hb h dX10_rule_5 (by decide) (fun h => ?_) (fun h => ?_)
  · exact kX10_rule_16 X   h hH (lv_sub hl [] rfl)
  · refine lv_aload_n (pc := 8) hx hb dX10_rule_8 rfl (lv_at hl 0 rfl) ?_
    refine lv_iload_n (pc := 9) hx hb dX10_rule_9 rfl (lv_at hl 2 rfl) ?_
    refine r_cvI (pc := 10) (As := [.int x2]) (rest := []) X hH (fun x hx => mX10_isTerm hx) cw_X10_82 (heC_0 V w1) rfl rfl rfl (Nat.le_of_ble_eq_true rfl) hl.1 h dX10_rule_10 (fun w3 v4 H locs h hH => ?_)
    refine b_if_ne (pc := 13) (tgt := 19) hx hb h dX10_rule_13 (by decide) (fun h => ?_) (fun h => ?_)
    · refine lv_aload_n (pc := 19) hx hb dX10_rule_19 rfl (lv_at hl 0 rfl) ?_
      refine gC_X10_15_0 (pc := 20) X hH dX10_rule_20 ?_
      refine lv_iload_n (pc := 23) hx hb dX10_rule_23 rfl (lv_at hl 1 rfl) ?_
      refine lv_iload_n (pc := 24) hx hb dX10_rule_24 rfl (lv_at hl 2 rfl) ?_
      refine r_cvI (pc := 25) (As := [.int x1, .int x2]) (rest := []) X hH (fun x hx => mX8_makesRule hx) cw_X10_86 (heC_1 V w3) rfl rfl rfl (Nat.le_of_ble_eq_true rfl) hl.1 h dX10_rule_25 (fun w5 v6 H locs h hH => ?_)
      refine b_if_ne (pc := 28) (tgt := 34) hx hb h dX10_rule_28 (by decide) (fun h => ?_) (fun h => ?_)
      · refine lv_aload_n (pc := 34) hx hb dX10_rule_34 rfl (lv_at hl 0 rfl) ?_
        refine gC_X10_19_0 (pc := 35) X hH dX10_rule_35 ?_
        refine lv_iload_n (pc := 38) hx hb dX10_rule_38 rfl (lv_at hl 1 rfl) ?_
        refine lv_iload_n (pc := 39) hx hb dX10_rule_39 rfl (lv_at hl 2 rfl) ?_
        refine r_cvI (pc := 40) (As := [.int x1, .int x2]) (rest := []) X hH (fun x hx => mX4_add hx) cw_X10_89 (heC_2 V w5) rfl rfl rfl (Nat.le_of_ble_eq_true rfl) hl.1 h dX10_rule_40 (fun w7 v8 H locs h hH => ?_)
        exact r_iret (pc := 43) X hH h dX10_rule_43
      · refine lv_bipush (pc := 31) (v := -3) hx hb dX10_rule_31 (by decide) ?_
        exact r_iret (pc := 33) X hH h dX10_rule_33
    · exact kX10_rule_16 X   h hH (lv_sub hl [] rfl)
def eX10_rule (N : Nat) : Nat → Wd → Int32 → Int32 → Option (Wd × Int32)
  | 0 => fun _ _ _ => none
  | d + 1 => fun w x1 x2 => bX10_rule_0 N d  w x1 x2
set_option maxHeartbeats 4000000 in
set_option maxRecDepth 20000 in
theorem mX10_rule {l : Launch} {V : Ev} {N d : Nat} {w : Wd} {x1 : Int32} {x2 : Int32} {z : Wd × Int32} (h : eX10_rule N d w x1 x2 = some z) : MetI l V (cC V) (AC V) yX10_rule cX10_rule 3 (some .int) d [.ref (V.2.2 0), .int x1, .int x2] w z := by
  cases d with
  | zero => exact c_none h
  | succ d =>
    refine Met.ofW (cc := cX10_rule) (maxL := 3) (ret := (some .int)) (by decide) rfl ?_
    intro p e s m args below meth c s₁ B hml hv
    obtain ⟨rfl, hP, hD, hK⟩ := hv
    have hts := atoms_spec (ws := .code yX10_rule cX10_rule 3 (some .int) :: gG) B.pre
    have X : CX V p s m ([.ref (V.2.2 0), .int x1, .int x2] : List Value).toArray meth c cX10_rule 3 RX10 (some .int) := ⟨B.exec, B.bytes, hml, findClass_of_methodNamed B.named, fun w hw => hts w (List.mem_cons_of_mem _ hw), B.returns, B.notSynchronized, hK⟩
    have hl := lv_entry ([.ref (V.2.2 0), .int x1, .int x2] : List Value) (n := 3) (Nat.le_of_ble_eq_true rfl)
    rw [lg_entry_eq]
    generalize (lg_sl ([.ref (V.2.2 0), .int x1, .int x2] : List Value) ++ List.replicate (3 - (lg_sl ([.ref (V.2.2 0), .int x1, .int x2] : List Value)).length) Slot.unset).toArray = ls at hl ⊢
    have hl : lv_has ls 3 [(0, .ref (V.2.2 0)), (1, .int x1), (2, .int x2)] := hl
    exact kX10_rule_0 (N := N) X  h ⟨hP, hD, va_S.rf⟩ hl
theorem dX10_isRule_0 : decode cX10_isRule 0 = .ok (.iload_n 1, 1) := by decide +kernel
theorem dX10_isRule_1 : decode cX10_isRule 1 = .ok (.aload_n 0, 1) := by decide +kernel
theorem dX10_isRule_2 : decode cX10_isRule 2 = .ok (.getfield 19, 3) := by decide +kernel
theorem dX10_isRule_5 : decode cX10_isRule 5 = .ok (.getfield 222, 3) := by decide +kernel
theorem dX10_isRule_8 : decode cX10_isRule 8 = .ok (.invokestatic 66, 3) := by decide +kernel
theorem dX10_isRule_11 : decode cX10_isRule 11 = .ok (.ireturn, 1) := by decide +kernel
def bX10_isRule_0 (N d : Nat)   (w : Wd) (x1 : Int32) : Option (Wd × Int32) :=
  c_cl (eX10_isWithin N d w x1 (sI w 2)) fun w1 v2 =>
  c_bo v2 (some (w1, v2))
set_option maxHeartbeats 4000000 in
theorem kX10_isRule_0 {V : Ev} {p : Program} {l : Launch} {e : Env} {N d : Nat} {s : State} {m : MethodId} {args : Array Value} {below : List Frame} {meth : Method} {c : Code} {z : Wd × Int32} (X : CX V p s m args meth c cX10_isRule 2 RX10 (some .boolean))    {w : Wd} {x1 : Int32} {H : Heap} {locs : List Loc} {ls : Array Slot} (h : bX10_isRule_0 N d   w x1 = some z) (hH : wH V (cC V) (AC V) s w H locs) (hl : lv_has ls 2 [(0, .ref (V.2.2 0)), (1, .int x1)]) : W p l e (rmD (d + 1)) s m args below meth c H locs 0 0 (MQ below (CtI V (cC V) (AC V) z) args s 0 0 (AC V)) (F0 m 0 ls []) := by
  unfold bX10_isRule_0 at h
  obtain ⟨hx, hb, hml, hown, hg, hrt, hlk, hK⟩ := id X
  refine lv_iload_n (pc := 0) hx hb dX10_isRule_0 rfl (lv_at hl 1 rfl) ?_
  refine lv_aload_n (pc := 1) hx hb dX10_isRule_1 rfl (lv_at hl 0 rfl) ?_
  refine gC_X10_19_0 (pc := 2) X hH dX10_isRule_2 ?_
  refine gC_X10_222_2 (pc := 5) X hH dX10_isRule_5 ?_
  refine r_csI (pc := 8) (As := [.int x1, .int (sI w 2)]) (rest := []) X hH (fun x hx => mX10_isWithin hx) cs_X10_66 rfl rfl (Nat.le_of_ble_eq_true rfl) hl.1 h dX10_isRule_8 (fun w1 v2 H locs h hH => ?_)
  exact r_zret (pc := 11) X hH h dX10_isRule_11
def eX10_isRule (N : Nat) : Nat → Wd → Int32 → Option (Wd × Int32)
  | 0 => fun _ _ => none
  | d + 1 => fun w x1 => bX10_isRule_0 N d  w x1
set_option maxHeartbeats 4000000 in
set_option maxRecDepth 20000 in
theorem mX10_isRule {l : Launch} {V : Ev} {N d : Nat} {w : Wd} {x1 : Int32} {z : Wd × Int32} (h : eX10_isRule N d w x1 = some z) : MetI l V (cC V) (AC V) yX10_isRule cX10_isRule 2 (some .boolean) d [.ref (V.2.2 0), .int x1] w z := by
  cases d with
  | zero => exact c_none h
  | succ d =>
    refine Met.ofW (cc := cX10_isRule) (maxL := 2) (ret := (some .boolean)) (by decide) rfl ?_
    intro p e s m args below meth c s₁ B hml hv
    obtain ⟨rfl, hP, hD, hK⟩ := hv
    have hts := atoms_spec (ws := .code yX10_isRule cX10_isRule 2 (some .boolean) :: gG) B.pre
    have X : CX V p s m ([.ref (V.2.2 0), .int x1] : List Value).toArray meth c cX10_isRule 2 RX10 (some .boolean) := ⟨B.exec, B.bytes, hml, findClass_of_methodNamed B.named, fun w hw => hts w (List.mem_cons_of_mem _ hw), B.returns, B.notSynchronized, hK⟩
    have hl := lv_entry ([.ref (V.2.2 0), .int x1] : List Value) (n := 2) (Nat.le_of_ble_eq_true rfl)
    rw [lg_entry_eq]
    generalize (lg_sl ([.ref (V.2.2 0), .int x1] : List Value) ++ List.replicate (2 - (lg_sl ([.ref (V.2.2 0), .int x1] : List Value)).length) Slot.unset).toArray = ls at hl ⊢
    have hl : lv_has ls 2 [(0, .ref (V.2.2 0)), (1, .int x1)] := hl
    exact kX10_isRule_0 (N := N) X  h ⟨hP, hD, va_S.rf⟩ hl
