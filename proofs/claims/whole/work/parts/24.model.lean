theorem dX11_value_0 : decode cX11_value 0 = .ok (.aload_n 0, 1) := by decide +kernel
theorem dX11_value_1 : decode cX11_value 1 = .ok (.iconst 0, 1) := by decide +kernel
theorem dX11_value_2 : decode cX11_value 2 = .ok (.putfield 111, 3) := by decide +kernel
theorem dX11_value_5 : decode cX11_value 5 = .ok (.aload_n 0, 1) := by decide +kernel
theorem dX11_value_6 : decode cX11_value 6 = .ok (.getfield 291, 3) := by decide +kernel
theorem dX11_value_9 : decode cX11_value 9 = .ok (.ifCond .ne 6, 3) := by decide +kernel
theorem dX11_value_12 : decode cX11_value 12 = .ok (.bipush (-3), 2) := by decide +kernel
theorem dX11_value_14 : decode cX11_value 14 = .ok (.ireturn, 1) := by decide +kernel
theorem dX11_value_15 : decode cX11_value 15 = .ok (.aload_n 0, 1) := by decide +kernel
theorem dX11_value_16 : decode cX11_value 16 = .ok (.iload_n 1, 1) := by decide +kernel
theorem dX11_value_17 : decode cX11_value 17 = .ok (.invokevirtual 206, 3) := by decide +kernel
theorem dX11_value_20 : decode cX11_value 20 = .ok (.ifCond .ne 6, 3) := by decide +kernel
theorem dX11_value_23 : decode cX11_value 23 = .ok (.bipush (-2), 2) := by decide +kernel
theorem dX11_value_25 : decode cX11_value 25 = .ok (.ireturn, 1) := by decide +kernel
theorem dX11_value_26 : decode cX11_value 26 = .ok (.iconst 0, 1) := by decide +kernel
theorem dX11_value_27 : decode cX11_value 27 = .ok (.istore_n 2, 1) := by decide +kernel
theorem dX11_value_28 : decode cX11_value 28 = .ok (.iload_n 2, 1) := by decide +kernel
theorem dX11_value_29 : decode cX11_value 29 = .ok (.bipush 8, 2) := by decide +kernel
theorem dX11_value_31 : decode cX11_value 31 = .ok (.if_icmp .ge 21, 3) := by decide +kernel
theorem dX11_value_34 : decode cX11_value 34 = .ok (.aload_n 0, 1) := by decide +kernel
theorem dX11_value_35 : decode cX11_value 35 = .ok (.getfield 105, 3) := by decide +kernel
theorem dX11_value_38 : decode cX11_value 38 = .ok (.iload_n 2, 1) := by decide +kernel
theorem dX11_value_39 : decode cX11_value 39 = .ok (.aload_n 0, 1) := by decide +kernel
theorem dX11_value_40 : decode cX11_value 40 = .ok (.getfield 99, 3) := by decide +kernel
theorem dX11_value_43 : decode cX11_value 43 = .ok (.iload_n 2, 1) := by decide +kernel
theorem dX11_value_44 : decode cX11_value 44 = .ok (.iaload, 1) := by decide +kernel
theorem dX11_value_45 : decode cX11_value 45 = .ok (.iastore, 1) := by decide +kernel
theorem dX11_value_46 : decode cX11_value 46 = .ok (.iinc 2 1, 3) := by decide +kernel
theorem dX11_value_49 : decode cX11_value 49 = .ok (.goto (-21), 3) := by decide +kernel
theorem dX11_value_52 : decode cX11_value 52 = .ok (.aload_n 0, 1) := by decide +kernel
theorem dX11_value_53 : decode cX11_value 53 = .ok (.invokevirtual 297, 3) := by decide +kernel
theorem dX11_value_56 : decode cX11_value 56 = .ok (.aload_n 0, 1) := by decide +kernel
theorem dX11_value_57 : decode cX11_value 57 = .ok (.iload_n 1, 1) := by decide +kernel
theorem dX11_value_58 : decode cX11_value 58 = .ok (.invokevirtual 294, 3) := by decide +kernel
theorem dX11_value_61 : decode cX11_value 61 = .ok (.ireturn, 1) := by decide +kernel
def bX11_value_28 (N d : Nat)  (rec28 : Wd → Int32 → Int32 → Option (Wd × Int32)) (w : Wd) (x1 : Int32) (x2 : Int32) : Option (Wd × Int32) :=
  if 8 ≤ x2 then (
    c_cv (eX11_begin N d w ) fun w4 =>
    c_cl (eX11_worthOf N d w4 x1) fun w5 v6 =>
    some (w5, v6)
  ) else (
    c_ld w 30 8 x2 fun v7 =>
    c_st w 32 8 x2 v7 fun w8 =>
    c_nm (x2 + 1) fun x2_9 =>
    rec28 w8 x1 x2_9
  )
set_option maxHeartbeats 4000000 in
theorem kX11_value_28 {V : Ev} {p : Program} {l : Launch} {e : Env} {N d : Nat} {s : State} {m : MethodId} {args : Array Value} {below : List Frame} {meth : Method} {c : Code} {z : Wd × Int32} (X : CX V p s m args meth c cX11_value 3 RX11 (some .int))   {rec28 : Wd → Int32 → Int32 → Option (Wd × Int32)} (hr28 : ∀ (w : Wd) (x1 : Int32) (x2 : Int32) (H : Heap) (locs : List Loc) (ls : Array Slot), rec28 w x1 x2 = some z → wH V (cM V) (AM V) s w H locs → lv_has ls 3 [(0, .ref (V.2.2 0)), (1, .int x1), (2, .int x2)] → W p l e (rmD (d + 1)) s m args below meth c H locs 0 0 (MQ below (CtI V (cM V) (AM V) z) args s 0 0 (AM V)) (F0 m 28 ls [])) {w : Wd} {x1 : Int32} {x2 : Int32} {H : Heap} {locs : List Loc} {ls : Array Slot} (h : bX11_value_28 N d  rec28 w x1 x2 = some z) (hH : wH V (cM V) (AM V) s w H locs) (hl : lv_has ls 3 [(0, .ref (V.2.2 0)), (1, .int x1), (2, .int x2)]) : W p l e (rmD (d + 1)) s m args below meth c H locs 0 0 (MQ below (CtI V (cM V) (AM V) z) args s 0 0 (AM V)) (F0 m 28 ls []) := by
  unfold bX11_value_28 at h
  obtain ⟨hx, hb, hml, hown, hg, hrt, hlk, hK⟩ := id X
  refine lv_iload_n (pc := 28) hx hb dX11_value_28 rfl (lv_at hl 2 rfl) ?_
  refine lv_bipush (pc := 29) (v := 8) hx hb dX11_value_29 (by decide) ?_
  refine b_icmp_ge (pc := 31) (tgt := 52) hx hb h dX11_value_31 (by decide) (fun h => ?_) (fun h => ?_)
  · refine lv_aload_n (pc := 52) hx hb dX11_value_52 rfl (lv_at hl 0 rfl) ?_
    refine r_cvV (pc := 53) (As := []) (rest := []) X hH (fun x hx => mX11_begin hx) cw_X11_297 (heM_0 V w) rfl rfl rfl (Nat.le_of_ble_eq_true rfl) hl.1 h dX11_value_53 (fun w4 H locs h hH => ?_)
    refine lv_aload_n (pc := 56) hx hb dX11_value_56 rfl (lv_at hl 0 rfl) ?_
    refine lv_iload_n (pc := 57) hx hb dX11_value_57 rfl (lv_at hl 1 rfl) ?_
    refine r_cvI (pc := 58) (As := [.int x1]) (rest := []) X hH (fun x hx => mX11_worthOf hx) cw_X11_294 (heM_0 V w4) rfl rfl rfl (Nat.le_of_ble_eq_true rfl) hl.1 h dX11_value_58 (fun w5 v6 H locs h hH => ?_)
    exact r_iret (pc := 61) X hH h dX11_value_61
  · refine lv_aload_n (pc := 34) hx hb dX11_value_34 rfl (lv_at hl 0 rfl) ?_
    refine gM_X11_105_0 (pc := 35) X hH dX11_value_35 ?_
    refine lv_iload_n (pc := 38) hx hb dX11_value_38 rfl (lv_at hl 2 rfl) ?_
    refine lv_aload_n (pc := 39) hx hb dX11_value_39 rfl (lv_at hl 0 rfl) ?_
    refine gM_X11_99_0 (pc := 40) X hH dX11_value_40 ?_
    refine lv_iload_n (pc := 43) hx hb dX11_value_43 rfl (lv_at hl 2 rfl) ?_
    refine r_ld (pc := 44) X (heM_30 V w) hH h dX11_value_44 (fun v7 h => ?_)
    refine r_st (pc := 45) X (heM_32 V w) (hsM_32 V w) hH h dX11_value_45 (fun w8 H locs h hH => ?_)
    obtain ⟨x2_9, ex2_9, h⟩ := c_nm_ex h
    refine lv_iinc (pc := 46) (v := x2_9) (lv' := [(2, .int x2_9), (0, .ref (V.2.2 0)), (1, .int x1)]) hx hb dX11_value_46 hl (k := 2) rfl (by rw [← ex2_9]; rfl) (by decide) rfl (fun ls hl => ?_)
    refine lv_goto (pc := 49) (tgt := 28) hx hb dX11_value_49 (by decide) ?_
    exact hr28 _ _ _ _ _ _ h hH (lv_sub hl [1, 2, 0] rfl)
def fX11_value_28 (N d : Nat)   : Nat → Wd → Int32 → Int32 → Option (Wd × Int32)
  | 0 => fun _ _ _ => none
  | n + 1 => fun w x1 x2 => bX11_value_28 N d   (fX11_value_28 N d   n) w x1 x2
theorem lX11_value_28 {V : Ev} {p : Program} {l : Launch} {e : Env} {N d : Nat} {s : State} {m : MethodId} {args : Array Value} {below : List Frame} {meth : Method} {c : Code} {z : Wd × Int32} (X : CX V p s m args meth c cX11_value 3 RX11 (some .int))    (n : Nat) {w : Wd} {x1 : Int32} {x2 : Int32} {H : Heap} {locs : List Loc} {ls : Array Slot} (h : fX11_value_28 N d   n w x1 x2 = some z) (hH : wH V (cM V) (AM V) s w H locs) (hl : lv_has ls 3 [(0, .ref (V.2.2 0)), (1, .int x1), (2, .int x2)]) : W p l e (rmD (d + 1)) s m args below meth c H locs 0 0 (MQ below (CtI V (cM V) (AM V) z) args s 0 0 (AM V)) (F0 m 28 ls []) := by
  induction n generalizing w x1 x2 H locs ls with
  | zero => exact c_none h
  | succ n ih => exact kX11_value_28 (N := N) X  (fun _ _ _ _ _ _ h hH hl => ih h hH hl) h hH hl
def bX11_value_0 (N d : Nat)   (w : Wd) (x1 : Int32) : Option (Wd × Int32) :=
  c_pi w 0 0 fun w1 =>
  if (sI w1 15) = 0 then (
    some (w1, -3)
  ) else (
    c_cl (eX11_isTerm N d w1 x1) fun w2 v3 =>
    if v3 = 0 then (
      some (w2, -2)
    ) else (
      fX11_value_28 N d   N w2 x1 ((0 : Int32))
    )
  )
set_option maxHeartbeats 4000000 in
theorem kX11_value_0 {V : Ev} {p : Program} {l : Launch} {e : Env} {N d : Nat} {s : State} {m : MethodId} {args : Array Value} {below : List Frame} {meth : Method} {c : Code} {z : Wd × Int32} (X : CX V p s m args meth c cX11_value 3 RX11 (some .int))    {w : Wd} {x1 : Int32} {H : Heap} {locs : List Loc} {ls : Array Slot} (h : bX11_value_0 N d   w x1 = some z) (hH : wH V (cM V) (AM V) s w H locs) (hl : lv_has ls 3 [(0, .ref (V.2.2 0)), (1, .int x1)]) : W p l e (rmD (d + 1)) s m args below meth c H locs 0 0 (MQ below (CtI V (cM V) (AM V) z) args s 0 0 (AM V)) (F0 m 0 ls []) := by
  unfold bX11_value_0 at h
  obtain ⟨hx, hb, hml, hown, hg, hrt, hlk, hK⟩ := id X
  refine lv_aload_n (pc := 0) hx hb dX11_value_0 rfl (lv_at hl 0 rfl) ?_
  refine lv_iconst (pc := 1) (v := 0) hx hb dX11_value_1 (by decide) ?_
  refine pM_X11_111_0 (pc := 2) X hH h dX11_value_2 (fun w1 H locs h hH => ?_)
  refine lv_aload_n (pc := 5) hx hb dX11_value_5 rfl (lv_at hl 0 rfl) ?_
  refine gM_X11_291_0 (pc := 6) X hH dX11_value_6 ?_
  refine b_if_ne (pc := 9) (tgt := 15) hx hb h dX11_value_9 (by decide) (fun h => ?_) (fun h => ?_)
  · refine lv_aload_n (pc := 15) hx hb dX11_value_15 rfl (lv_at hl 0 rfl) ?_
    refine lv_iload_n (pc := 16) hx hb dX11_value_16 rfl (lv_at hl 1 rfl) ?_
    refine r_cvI (pc := 17) (As := [.int x1]) (rest := []) X hH (fun x hx => mX11_isTerm hx) cw_X11_206 (heM_0 V w1) rfl rfl rfl (Nat.le_of_ble_eq_true rfl) hl.1 h dX11_value_17 (fun w2 v3 H locs h hH => ?_)
    refine b_if_ne (pc := 20) (tgt := 26) hx hb h dX11_value_20 (by decide) (fun h => ?_) (fun h => ?_)
    · refine lv_iconst (pc := 26) (v := 0) hx hb dX11_value_26 (by decide) ?_
      refine lv_istore_n (pc := 27) (lv' := [(2, .int ((0 : Int32))), (0, .ref (V.2.2 0)), (1, .int x1)]) hx hb dX11_value_27 rfl hl (by decide) rfl (fun ls hl => ?_)
      exact lX11_value_28 X   N h hH (lv_sub hl [1, 2, 0] rfl)
    · refine lv_bipush (pc := 23) (v := -2) hx hb dX11_value_23 (by decide) ?_
      exact r_iret (pc := 25) X hH h dX11_value_25
  · refine lv_bipush (pc := 12) (v := -3) hx hb dX11_value_12 (by decide) ?_
    exact r_iret (pc := 14) X hH h dX11_value_14
def eX11_value (N : Nat) : Nat → Wd → Int32 → Option (Wd × Int32)
  | 0 => fun _ _ => none
  | d + 1 => fun w x1 => bX11_value_0 N d  w x1
set_option maxHeartbeats 4000000 in
set_option maxRecDepth 20000 in
theorem mX11_value {l : Launch} {V : Ev} {N d : Nat} {w : Wd} {x1 : Int32} {z : Wd × Int32} (h : eX11_value N d w x1 = some z) : MetI l V (cM V) (AM V) yX11_value cX11_value 3 (some .int) d [.ref (V.2.2 0), .int x1] w z := by
  cases d with
  | zero => exact c_none h
  | succ d =>
    refine Met.ofW (cc := cX11_value) (maxL := 3) (ret := (some .int)) (by decide) rfl ?_
    intro p e s m args below meth c s₁ B hml hv
    obtain ⟨rfl, hP, hD, hK⟩ := hv
    have hts := atoms_spec (ws := .code yX11_value cX11_value 3 (some .int) :: gG) B.pre
    have X : CX V p s m ([.ref (V.2.2 0), .int x1] : List Value).toArray meth c cX11_value 3 RX11 (some .int) := ⟨B.exec, B.bytes, hml, findClass_of_methodNamed B.named, fun w hw => hts w (List.mem_cons_of_mem _ hw), B.returns, B.notSynchronized, hK⟩
    have hl := lv_entry ([.ref (V.2.2 0), .int x1] : List Value) (n := 3) (Nat.le_of_ble_eq_true rfl)
    rw [lg_entry_eq]
    generalize (lg_sl ([.ref (V.2.2 0), .int x1] : List Value) ++ List.replicate (3 - (lg_sl ([.ref (V.2.2 0), .int x1] : List Value)).length) Slot.unset).toArray = ls at hl ⊢
    have hl : lv_has ls 3 [(0, .ref (V.2.2 0)), (1, .int x1)] := hl
    exact kX11_value_0 (N := N) X  h ⟨hP, hD, va_S.rf⟩ hl
theorem dX11_refutes_0 : decode cX11_refutes 0 = .ok (.aload_n 0, 1) := by decide +kernel
theorem dX11_refutes_1 : decode cX11_refutes 1 = .ok (.getfield 291, 3) := by decide +kernel
theorem dX11_refutes_4 : decode cX11_refutes 4 = .ok (.iconst 1, 1) := by decide +kernel
theorem dX11_refutes_5 : decode cX11_refutes 5 = .ok (.iadd, 1) := by decide +kernel
theorem dX11_refutes_6 : decode cX11_refutes 6 = .ok (.istore_n 2, 1) := by decide +kernel
theorem dX11_refutes_7 : decode cX11_refutes 7 = .ok (.iconst 0, 1) := by decide +kernel
theorem dX11_refutes_8 : decode cX11_refutes 8 = .ok (.istore_n 3, 1) := by decide +kernel
theorem dX11_refutes_9 : decode cX11_refutes 9 = .ok (.iload_n 3, 1) := by decide +kernel
theorem dX11_refutes_10 : decode cX11_refutes 10 = .ok (.iload_n 2, 1) := by decide +kernel
theorem dX11_refutes_11 : decode cX11_refutes 11 = .ok (.iload_n 2, 1) := by decide +kernel
theorem dX11_refutes_12 : decode cX11_refutes 12 = .ok (.imul, 1) := by decide +kernel
theorem dX11_refutes_13 : decode cX11_refutes 13 = .ok (.iload_n 2, 1) := by decide +kernel
theorem dX11_refutes_14 : decode cX11_refutes 14 = .ok (.imul, 1) := by decide +kernel
theorem dX11_refutes_15 : decode cX11_refutes 15 = .ok (.iload_n 2, 1) := by decide +kernel
theorem dX11_refutes_16 : decode cX11_refutes 16 = .ok (.imul, 1) := by decide +kernel
theorem dX11_refutes_17 : decode cX11_refutes 17 = .ok (.if_icmp .ge 125, 3) := by decide +kernel
theorem dX11_refutes_20 : decode cX11_refutes 20 = .ok (.iload_n 3, 1) := by decide +kernel
theorem dX11_refutes_21 : decode cX11_refutes 21 = .ok (.istore 4, 2) := by decide +kernel
theorem dX11_refutes_23 : decode cX11_refutes 23 = .ok (.iconst 1, 1) := by decide +kernel
theorem dX11_refutes_24 : decode cX11_refutes 24 = .ok (.istore 5, 2) := by decide +kernel
theorem dX11_refutes_26 : decode cX11_refutes 26 = .ok (.iconst 0, 1) := by decide +kernel
theorem dX11_refutes_27 : decode cX11_refutes 27 = .ok (.istore 6, 2) := by decide +kernel
theorem dX11_refutes_29 : decode cX11_refutes 29 = .ok (.iload 6, 2) := by decide +kernel
theorem dX11_refutes_31 : decode cX11_refutes 31 = .ok (.iconst 4, 1) := by decide +kernel
theorem dX11_refutes_32 : decode cX11_refutes 32 = .ok (.if_icmp .ge 70, 3) := by decide +kernel
theorem dX11_refutes_35 : decode cX11_refutes 35 = .ok (.aload_n 0, 1) := by decide +kernel
theorem dX11_refutes_36 : decode cX11_refutes 36 = .ok (.getfield 105, 3) := by decide +kernel
theorem dX11_refutes_39 : decode cX11_refutes 39 = .ok (.iload 6, 2) := by decide +kernel
theorem dX11_refutes_41 : decode cX11_refutes 41 = .ok (.iload 4, 2) := by decide +kernel
theorem dX11_refutes_43 : decode cX11_refutes 43 = .ok (.iload_n 2, 1) := by decide +kernel
theorem dX11_refutes_44 : decode cX11_refutes 44 = .ok (.irem, 1) := by decide +kernel
theorem dX11_refutes_45 : decode cX11_refutes 45 = .ok (.iastore, 1) := by decide +kernel
theorem dX11_refutes_46 : decode cX11_refutes 46 = .ok (.iload 4, 2) := by decide +kernel
theorem dX11_refutes_48 : decode cX11_refutes 48 = .ok (.iload_n 2, 1) := by decide +kernel
theorem dX11_refutes_49 : decode cX11_refutes 49 = .ok (.idiv, 1) := by decide +kernel
theorem dX11_refutes_50 : decode cX11_refutes 50 = .ok (.istore 4, 2) := by decide +kernel
theorem dX11_refutes_52 : decode cX11_refutes 52 = .ok (.iload 5, 2) := by decide +kernel
theorem dX11_refutes_54 : decode cX11_refutes 54 = .ok (.ifCond .eq 39, 3) := by decide +kernel
theorem dX11_refutes_57 : decode cX11_refutes 57 = .ok (.aload_n 0, 1) := by decide +kernel
theorem dX11_refutes_58 : decode cX11_refutes 58 = .ok (.getfield 105, 3) := by decide +kernel
theorem dX11_refutes_61 : decode cX11_refutes 61 = .ok (.iload 6, 2) := by decide +kernel
theorem dX11_refutes_63 : decode cX11_refutes 63 = .ok (.iaload, 1) := by decide +kernel
theorem dX11_refutes_64 : decode cX11_refutes 64 = .ok (.ifCond .eq 25, 3) := by decide +kernel
theorem dX11_refutes_67 : decode cX11_refutes 67 = .ok (.aload_n 0, 1) := by decide +kernel
theorem dX11_refutes_68 : decode cX11_refutes 68 = .ok (.getfield 32, 3) := by decide +kernel
theorem dX11_refutes_71 : decode cX11_refutes 71 = .ok (.bipush 8, 2) := by decide +kernel
theorem dX11_refutes_73 : decode cX11_refutes 73 = .ok (.aload_n 0, 1) := by decide +kernel
theorem dX11_refutes_74 : decode cX11_refutes 74 = .ok (.getfield 35, 3) := by decide +kernel
theorem dX11_refutes_77 : decode cX11_refutes 77 = .ok (.iload_n 1, 1) := by decide +kernel
theorem dX11_refutes_78 : decode cX11_refutes 78 = .ok (.iaload, 1) := by decide +kernel
theorem dX11_refutes_79 : decode cX11_refutes 79 = .ok (.imul, 1) := by decide +kernel
theorem dX11_refutes_80 : decode cX11_refutes 80 = .ok (.iload 6, 2) := by decide +kernel
theorem dX11_refutes_82 : decode cX11_refutes 82 = .ok (.iadd, 1) := by decide +kernel
theorem dX11_refutes_83 : decode cX11_refutes 83 = .ok (.laload, 1) := by decide +kernel
theorem dX11_refutes_84 : decode cX11_refutes 84 = .ok (.lconst 0, 1) := by decide +kernel
theorem dX11_refutes_85 : decode cX11_refutes 85 = .ok (.lcmp, 1) := by decide +kernel
theorem dX11_refutes_86 : decode cX11_refutes 86 = .ok (.ifCond .le 7, 3) := by decide +kernel
theorem dX11_refutes_89 : decode cX11_refutes 89 = .ok (.iconst 1, 1) := by decide +kernel
theorem dX11_refutes_90 : decode cX11_refutes 90 = .ok (.goto 4, 3) := by decide +kernel
theorem dX11_refutes_93 : decode cX11_refutes 93 = .ok (.iconst 0, 1) := by decide +kernel
theorem dX11_refutes_94 : decode cX11_refutes 94 = .ok (.istore 5, 2) := by decide +kernel
theorem dX11_refutes_96 : decode cX11_refutes 96 = .ok (.iinc 6 1, 3) := by decide +kernel
theorem dX11_refutes_99 : decode cX11_refutes 99 = .ok (.goto (-70), 3) := by decide +kernel
theorem dX11_refutes_102 : decode cX11_refutes 102 = .ok (.iload 5, 2) := by decide +kernel
theorem dX11_refutes_104 : decode cX11_refutes 104 = .ok (.ifCond .eq 32, 3) := by decide +kernel
theorem dX11_refutes_107 : decode cX11_refutes 107 = .ok (.aload_n 0, 1) := by decide +kernel
theorem dX11_refutes_108 : decode cX11_refutes 108 = .ok (.invokevirtual 297, 3) := by decide +kernel
theorem dX11_refutes_111 : decode cX11_refutes 111 = .ok (.aload_n 0, 1) := by decide +kernel
theorem dX11_refutes_112 : decode cX11_refutes 112 = .ok (.aload_n 0, 1) := by decide +kernel
theorem dX11_refutes_113 : decode cX11_refutes 113 = .ok (.getfield 35, 3) := by decide +kernel
theorem dX11_refutes_116 : decode cX11_refutes 116 = .ok (.iload_n 1, 1) := by decide +kernel
theorem dX11_refutes_117 : decode cX11_refutes 117 = .ok (.iaload, 1) := by decide +kernel
theorem dX11_refutes_118 : decode cX11_refutes 118 = .ok (.invokevirtual 294, 3) := by decide +kernel
theorem dX11_refutes_121 : decode cX11_refutes 121 = .ok (.aload_n 0, 1) := by decide +kernel
theorem dX11_refutes_122 : decode cX11_refutes 122 = .ok (.aload_n 0, 1) := by decide +kernel
theorem dX11_refutes_123 : decode cX11_refutes 123 = .ok (.getfield 38, 3) := by decide +kernel
theorem dX11_refutes_126 : decode cX11_refutes 126 = .ok (.iload_n 1, 1) := by decide +kernel
theorem dX11_refutes_127 : decode cX11_refutes 127 = .ok (.iaload, 1) := by decide +kernel
theorem dX11_refutes_128 : decode cX11_refutes 128 = .ok (.invokevirtual 294, 3) := by decide +kernel
theorem dX11_refutes_131 : decode cX11_refutes 131 = .ok (.if_icmp .eq 5, 3) := by decide +kernel
theorem dX11_refutes_134 : decode cX11_refutes 134 = .ok (.iconst 1, 1) := by decide +kernel
theorem dX11_refutes_135 : decode cX11_refutes 135 = .ok (.ireturn, 1) := by decide +kernel
theorem dX11_refutes_136 : decode cX11_refutes 136 = .ok (.iinc 3 1, 3) := by decide +kernel
theorem dX11_refutes_139 : decode cX11_refutes 139 = .ok (.goto (-130), 3) := by decide +kernel
theorem dX11_refutes_142 : decode cX11_refutes 142 = .ok (.iconst 0, 1) := by decide +kernel
theorem dX11_refutes_143 : decode cX11_refutes 143 = .ok (.ireturn, 1) := by decide +kernel
def bX11_refutes_136 (N d : Nat)  (rec9 : Wd → Int32 → Int32 → Int32 → Option (Wd × Int32)) (w : Wd) (x1 : Int32) (x2 : Int32) (x3 : Int32) : Option (Wd × Int32) :=
  c_nm (x3 + 1) fun x3_2 =>
  rec9 w x1 x2 x3_2
set_option maxHeartbeats 4000000 in
theorem kX11_refutes_136 {V : Ev} {p : Program} {l : Launch} {e : Env} {N d : Nat} {s : State} {m : MethodId} {args : Array Value} {below : List Frame} {meth : Method} {c : Code} {z : Wd × Int32} (X : CX V p s m args meth c cX11_refutes 7 RX11 (some .boolean))   {rec9 : Wd → Int32 → Int32 → Int32 → Option (Wd × Int32)} (hr9 : ∀ (w : Wd) (x1 : Int32) (x2 : Int32) (x3 : Int32) (H : Heap) (locs : List Loc) (ls : Array Slot), rec9 w x1 x2 x3 = some z → wH V (cM V) (AM V) s w H locs → lv_has ls 7 [(0, .ref (V.2.2 0)), (1, .int x1), (2, .int x2), (3, .int x3)] → W p l e (rmD (d + 1)) s m args below meth c H locs 0 0 (MQ below (CtI V (cM V) (AM V) z) args s 0 0 (AM V)) (F0 m 9 ls [])) {w : Wd} {x1 : Int32} {x2 : Int32} {x3 : Int32} {H : Heap} {locs : List Loc} {ls : Array Slot} (h : bX11_refutes_136 N d  rec9 w x1 x2 x3 = some z) (hH : wH V (cM V) (AM V) s w H locs) (hl : lv_has ls 7 [(0, .ref (V.2.2 0)), (1, .int x1), (2, .int x2), (3, .int x3)]) : W p l e (rmD (d + 1)) s m args below meth c H locs 0 0 (MQ below (CtI V (cM V) (AM V) z) args s 0 0 (AM V)) (F0 m 136 ls []) := by
  unfold bX11_refutes_136 at h
  obtain ⟨hx, hb, hml, hown, hg, hrt, hlk, hK⟩ := id X
  obtain ⟨x3_2, ex3_2, h⟩ := c_nm_ex h
  refine lv_iinc (pc := 136) (v := x3_2) (lv' := [(3, .int x3_2), (0, .ref (V.2.2 0)), (1, .int x1), (2, .int x2)]) hx hb dX11_refutes_136 hl (k := 3) rfl (by rw [← ex3_2]; rfl) (by decide) rfl (fun ls hl => ?_)
  refine lv_goto (pc := 139) (tgt := 9) hx hb dX11_refutes_139 (by decide) ?_
  exact hr9 _ _ _ _ _ _ _ h hH (lv_sub hl [1, 2, 3, 0] rfl)
def bX11_refutes_94 (N d : Nat)  (rec9 : Wd → Int32 → Int32 → Int32 → Option (Wd × Int32)) (rec29 : Wd → Int32 → Int32 → Int32 → Int32 → Int32 → Int32 → Option (Wd × Int32)) (w : Wd) (x1 : Int32) (x2 : Int32) (x3 : Int32) (x4 : Int32) (x6 : Int32) (y0 : Int32) : Option (Wd × Int32) :=
  c_nm (x6 + 1) fun x6_12 =>
  rec29 w x1 x2 x3 x4 y0 x6_12
set_option maxHeartbeats 4000000 in
theorem kX11_refutes_94 {V : Ev} {p : Program} {l : Launch} {e : Env} {N d : Nat} {s : State} {m : MethodId} {args : Array Value} {below : List Frame} {meth : Method} {c : Code} {z : Wd × Int32} (X : CX V p s m args meth c cX11_refutes 7 RX11 (some .boolean))   {rec9 : Wd → Int32 → Int32 → Int32 → Option (Wd × Int32)} (hr9 : ∀ (w : Wd) (x1 : Int32) (x2 : Int32) (x3 : Int32) (H : Heap) (locs : List Loc) (ls : Array Slot), rec9 w x1 x2 x3 = some z → wH V (cM V) (AM V) s w H locs → lv_has ls 7 [(0, .ref (V.2.2 0)), (1, .int x1), (2, .int x2), (3, .int x3)] → W p l e (rmD (d + 1)) s m args below meth c H locs 0 0 (MQ below (CtI V (cM V) (AM V) z) args s 0 0 (AM V)) (F0 m 9 ls [])) {rec29 : Wd → Int32 → Int32 → Int32 → Int32 → Int32 → Int32 → Option (Wd × Int32)} (hr29 : ∀ (w : Wd) (x1 : Int32) (x2 : Int32) (x3 : Int32) (x4 : Int32) (x5 : Int32) (x6 : Int32) (H : Heap) (locs : List Loc) (ls : Array Slot), rec29 w x1 x2 x3 x4 x5 x6 = some z → wH V (cM V) (AM V) s w H locs → lv_has ls 7 [(0, .ref (V.2.2 0)), (1, .int x1), (2, .int x2), (3, .int x3), (4, .int x4), (5, .int x5), (6, .int x6)] → W p l e (rmD (d + 1)) s m args below meth c H locs 0 0 (MQ below (CtI V (cM V) (AM V) z) args s 0 0 (AM V)) (F0 m 29 ls [])) {w : Wd} {x1 : Int32} {x2 : Int32} {x3 : Int32} {x4 : Int32} {x6 : Int32} {y0 : Int32} {H : Heap} {locs : List Loc} {ls : Array Slot} (h : bX11_refutes_94 N d  rec9 rec29 w x1 x2 x3 x4 x6 y0 = some z) (hH : wH V (cM V) (AM V) s w H locs) (hl : lv_has ls 7 [(0, .ref (V.2.2 0)), (1, .int x1), (2, .int x2), (3, .int x3), (4, .int x4), (6, .int x6)]) : W p l e (rmD (d + 1)) s m args below meth c H locs 0 0 (MQ below (CtI V (cM V) (AM V) z) args s 0 0 (AM V)) (F0 m 94 ls [.int y0]) := by
  unfold bX11_refutes_94 at h
  obtain ⟨hx, hb, hml, hown, hg, hrt, hlk, hK⟩ := id X
  refine lv_istore (pc := 94) (lv' := [(5, .int y0), (0, .ref (V.2.2 0)), (1, .int x1), (2, .int x2), (3, .int x3), (4, .int x4), (6, .int x6)]) hx hb dX11_refutes_94 hl (by decide) rfl (fun ls hl => ?_)
  obtain ⟨x6_12, ex6_12, h⟩ := c_nm_ex h
  refine lv_iinc (pc := 96) (v := x6_12) (lv' := [(6, .int x6_12), (5, .int y0), (0, .ref (V.2.2 0)), (1, .int x1), (2, .int x2), (3, .int x3), (4, .int x4)]) hx hb dX11_refutes_96 hl (k := 6) rfl (by rw [← ex6_12]; rfl) (by decide) rfl (fun ls hl => ?_)
  refine lv_goto (pc := 99) (tgt := 29) hx hb dX11_refutes_99 (by decide) ?_
  exact hr29 _ _ _ _ _ _ _ _ _ _ h hH (lv_sub hl [2, 3, 4, 5, 6, 1, 0] rfl)
def bX11_refutes_93 (N d : Nat)  (rec9 : Wd → Int32 → Int32 → Int32 → Option (Wd × Int32)) (rec29 : Wd → Int32 → Int32 → Int32 → Int32 → Int32 → Int32 → Option (Wd × Int32)) (w : Wd) (x1 : Int32) (x2 : Int32) (x3 : Int32) (x4 : Int32) (x6 : Int32) : Option (Wd × Int32) :=
  bX11_refutes_94 N d  rec9 rec29 w x1 x2 x3 x4 x6 0
set_option maxHeartbeats 4000000 in
theorem kX11_refutes_93 {V : Ev} {p : Program} {l : Launch} {e : Env} {N d : Nat} {s : State} {m : MethodId} {args : Array Value} {below : List Frame} {meth : Method} {c : Code} {z : Wd × Int32} (X : CX V p s m args meth c cX11_refutes 7 RX11 (some .boolean))   {rec9 : Wd → Int32 → Int32 → Int32 → Option (Wd × Int32)} (hr9 : ∀ (w : Wd) (x1 : Int32) (x2 : Int32) (x3 : Int32) (H : Heap) (locs : List Loc) (ls : Array Slot), rec9 w x1 x2 x3 = some z → wH V (cM V) (AM V) s w H locs → lv_has ls 7 [(0, .ref (V.2.2 0)), (1, .int x1), (2, .int x2), (3, .int x3)] → W p l e (rmD (d + 1)) s m args below meth c H locs 0 0 (MQ below (CtI V (cM V) (AM V) z) args s 0 0 (AM V)) (F0 m 9 ls [])) {rec29 : Wd → Int32 → Int32 → Int32 → Int32 → Int32 → Int32 → Option (Wd × Int32)} (hr29 : ∀ (w : Wd) (x1 : Int32) (x2 : Int32) (x3 : Int32) (x4 : Int32) (x5 : Int32) (x6 : Int32) (H : Heap) (locs : List Loc) (ls : Array Slot), rec29 w x1 x2 x3 x4 x5 x6 = some z → wH V (cM V) (AM V) s w H locs → lv_has ls 7 [(0, .ref (V.2.2 0)), (1, .int x1), (2, .int x2), (3, .int x3), (4, .int x4), (5, .int x5), (6, .int x6)] → W p l e (rmD (d + 1)) s m args below meth c H locs 0 0 (MQ below (CtI V (cM V) (AM V) z) args s 0 0 (AM V)) (F0 m 29 ls [])) {w : Wd} {x1 : Int32} {x2 : Int32} {x3 : Int32} {x4 : Int32} {x6 : Int32} {H : Heap} {locs : List Loc} {ls : Array Slot} (h : bX11_refutes_93 N d  rec9 rec29 w x1 x2 x3 x4 x6 = some z) (hH : wH V (cM V) (AM V) s w H locs) (hl : lv_has ls 7 [(0, .ref (V.2.2 0)), (1, .int x1), (2, .int x2), (3, .int x3), (4, .int x4), (6, .int x6)]) : W p l e (rmD (d + 1)) s m args below meth c H locs 0 0 (MQ below (CtI V (cM V) (AM V) z) args s 0 0 (AM V)) (F0 m 93 ls []) := by
  unfold bX11_refutes_93 at h
  obtain ⟨hx, hb, hml, hown, hg, hrt, hlk, hK⟩ := id X
  refine lv_iconst (pc := 93) (v := 0) hx hb dX11_refutes_93 (by decide) ?_
  exact kX11_refutes_94 X  hr9 hr29 h hH (lv_sub hl [0, 1, 2, 3, 4, 5] rfl)
def bX11_refutes_89 (N d : Nat)  (rec9 : Wd → Int32 → Int32 → Int32 → Option (Wd × Int32)) (rec29 : Wd → Int32 → Int32 → Int32 → Int32 → Int32 → Int32 → Option (Wd × Int32)) (w : Wd) (x1 : Int32) (x2 : Int32) (x3 : Int32) (x4 : Int32) (x6 : Int32) : Option (Wd × Int32) :=
  bX11_refutes_94 N d  rec9 rec29 w x1 x2 x3 x4 x6 1
set_option maxHeartbeats 4000000 in
theorem kX11_refutes_89 {V : Ev} {p : Program} {l : Launch} {e : Env} {N d : Nat} {s : State} {m : MethodId} {args : Array Value} {below : List Frame} {meth : Method} {c : Code} {z : Wd × Int32} (X : CX V p s m args meth c cX11_refutes 7 RX11 (some .boolean))   {rec9 : Wd → Int32 → Int32 → Int32 → Option (Wd × Int32)} (hr9 : ∀ (w : Wd) (x1 : Int32) (x2 : Int32) (x3 : Int32) (H : Heap) (locs : List Loc) (ls : Array Slot), rec9 w x1 x2 x3 = some z → wH V (cM V) (AM V) s w H locs → lv_has ls 7 [(0, .ref (V.2.2 0)), (1, .int x1), (2, .int x2), (3, .int x3)] → W p l e (rmD (d + 1)) s m args below meth c H locs 0 0 (MQ below (CtI V (cM V) (AM V) z) args s 0 0 (AM V)) (F0 m 9 ls [])) {rec29 : Wd → Int32 → Int32 → Int32 → Int32 → Int32 → Int32 → Option (Wd × Int32)} (hr29 : ∀ (w : Wd) (x1 : Int32) (x2 : Int32) (x3 : Int32) (x4 : Int32) (x5 : Int32) (x6 : Int32) (H : Heap) (locs : List Loc) (ls : Array Slot), rec29 w x1 x2 x3 x4 x5 x6 = some z → wH V (cM V) (AM V) s w H locs → lv_has ls 7 [(0, .ref (V.2.2 0)), (1, .int x1), (2, .int x2), (3, .int x3), (4, .int x4), (5, .int x5), (6, .int x6)] → W p l e (rmD (d + 1)) s m args below meth c H locs 0 0 (MQ below (CtI V (cM V) (AM V) z) args s 0 0 (AM V)) (F0 m 29 ls [])) {w : Wd} {x1 : Int32} {x2 : Int32} {x3 : Int32} {x4 : Int32} {x6 : Int32} {H : Heap} {locs : List Loc} {ls : Array Slot} (h : bX11_refutes_89 N d  rec9 rec29 w x1 x2 x3 x4 x6 = some z) (hH : wH V (cM V) (AM V) s w H locs) (hl : lv_has ls 7 [(0, .ref (V.2.2 0)), (1, .int x1), (2, .int x2), (3, .int x3), (4, .int x4), (6, .int x6)]) : W p l e (rmD (d + 1)) s m args below meth c H locs 0 0 (MQ below (CtI V (cM V) (AM V) z) args s 0 0 (AM V)) (F0 m 89 ls []) := by
  unfold bX11_refutes_89 at h
  obtain ⟨hx, hb, hml, hown, hg, hrt, hlk, hK⟩ := id X
  refine lv_iconst (pc := 89) (v := 1) hx hb dX11_refutes_89 (by decide) ?_
  refine lv_goto (pc := 90) (tgt := 94) hx hb dX11_refutes_90 (by decide) ?_
  exact kX11_refutes_94 X  hr9 hr29 h hH (lv_sub hl [0, 1, 2, 3, 4, 5] rfl)
def bX11_refutes_29 (N d : Nat)  (rec9 : Wd → Int32 → Int32 → Int32 → Option (Wd × Int32)) (rec29 : Wd → Int32 → Int32 → Int32 → Int32 → Int32 → Int32 → Option (Wd × Int32)) (w : Wd) (x1 : Int32) (x2 : Int32) (x3 : Int32) (x4 : Int32) (x5 : Int32) (x6 : Int32) : Option (Wd × Int32) :=
  if 4 ≤ x6 then (
    if x5 = 0 then (
      bX11_refutes_136 N d  rec9 w x1 x2 x3
    ) else (
      c_cv (eX11_begin N d w ) fun w3 =>
      c_ld w3 9 16 x1 fun v4 =>
      c_cl (eX11_worthOf N d w3 v4) fun w5 v6 =>
      c_ld w5 10 16 x1 fun v7 =>
      c_cl (eX11_worthOf N d w5 v7) fun w8 v9 =>
      if v6 = v9 then (
        bX11_refutes_136 N d  rec9 w8 x1 x2 x3
      ) else (
        some (w8, 1)
      )
    )
  ) else (
    c_nz x2 <|
    c_st w 32 8 x6 (x4 - x4 / x2 * x2) fun w10 =>
    c_nz x2 <|
    c_nm (x4 / x2) fun x4_11 =>
    if x5 = 0 then (
      bX11_refutes_93 N d  rec9 rec29 w10 x1 x2 x3 x4_11 x6
    ) else (
      c_ld w10 32 8 x6 fun v13 =>
      if v13 = 0 then (
        bX11_refutes_89 N d  rec9 rec29 w10 x1 x2 x3 x4_11 x6
      ) else (
        c_ld w10 9 16 x1 fun v14 =>
        c_ll w10 8 8000 ((8 * v14) + x6) fun v15 =>
        if (lg_cmp v15 0) ≤ 0 then (
          bX11_refutes_93 N d  rec9 rec29 w10 x1 x2 x3 x4_11 x6
        ) else (
          bX11_refutes_89 N d  rec9 rec29 w10 x1 x2 x3 x4_11 x6
        )
      )
    )
  )
set_option maxHeartbeats 4000000 in
theorem kX11_refutes_29 {V : Ev} {p : Program} {l : Launch} {e : Env} {N d : Nat} {s : State} {m : MethodId} {args : Array Value} {below : List Frame} {meth : Method} {c : Code} {z : Wd × Int32} (X : CX V p s m args meth c cX11_refutes 7 RX11 (some .boolean))   {rec9 : Wd → Int32 → Int32 → Int32 → Option (Wd × Int32)} (hr9 : ∀ (w : Wd) (x1 : Int32) (x2 : Int32) (x3 : Int32) (H : Heap) (locs : List Loc) (ls : Array Slot), rec9 w x1 x2 x3 = some z → wH V (cM V) (AM V) s w H locs → lv_has ls 7 [(0, .ref (V.2.2 0)), (1, .int x1), (2, .int x2), (3, .int x3)] → W p l e (rmD (d + 1)) s m args below meth c H locs 0 0 (MQ below (CtI V (cM V) (AM V) z) args s 0 0 (AM V)) (F0 m 9 ls [])) {rec29 : Wd → Int32 → Int32 → Int32 → Int32 → Int32 → Int32 → Option (Wd × Int32)} (hr29 : ∀ (w : Wd) (x1 : Int32) (x2 : Int32) (x3 : Int32) (x4 : Int32) (x5 : Int32) (x6 : Int32) (H : Heap) (locs : List Loc) (ls : Array Slot), rec29 w x1 x2 x3 x4 x5 x6 = some z → wH V (cM V) (AM V) s w H locs → lv_has ls 7 [(0, .ref (V.2.2 0)), (1, .int x1), (2, .int x2), (3, .int x3), (4, .int x4), (5, .int x5), (6, .int x6)] → W p l e (rmD (d + 1)) s m args below meth c H locs 0 0 (MQ below (CtI V (cM V) (AM V) z) args s 0 0 (AM V)) (F0 m 29 ls [])) {w : Wd} {x1 : Int32} {x2 : Int32} {x3 : Int32} {x4 : Int32} {x5 : Int32} {x6 : Int32} {H : Heap} {locs : List Loc} {ls : Array Slot} (h : bX11_refutes_29 N d  rec9 rec29 w x1 x2 x3 x4 x5 x6 = some z) (hH : wH V (cM V) (AM V) s w H locs) (hl : lv_has ls 7 [(0, .ref (V.2.2 0)), (1, .int x1), (2, .int x2), (3, .int x3), (4, .int x4), (5, .int x5), (6, .int x6)]) : W p l e (rmD (d + 1)) s m args below meth c H locs 0 0 (MQ below (CtI V (cM V) (AM V) z) args s 0 0 (AM V)) (F0 m 29 ls []) := by
  unfold bX11_refutes_29 at h
  obtain ⟨hx, hb, hml, hown, hg, hrt, hlk, hK⟩ := id X
  refine lv_iload (pc := 29) hx hb dX11_refutes_29 (lv_at hl 6 rfl) ?_
  refine lv_iconst (pc := 31) (v := 4) hx hb dX11_refutes_31 (by decide) ?_
  refine b_icmp_ge (pc := 32) (tgt := 102) hx hb h dX11_refutes_32 (by decide) (fun h => ?_) (fun h => ?_)
  · refine lv_iload (pc := 102) hx hb dX11_refutes_102 (lv_at hl 5 rfl) ?_
    refine b_if_eq (pc := 104) (tgt := 136) hx hb h dX11_refutes_104 (by decide) (fun h => ?_) (fun h => ?_)
    · exact kX11_refutes_136 X  hr9 h hH (lv_sub hl [0, 1, 2, 3] rfl)
    · refine lv_aload_n (pc := 107) hx hb dX11_refutes_107 rfl (lv_at hl 0 rfl) ?_
      refine r_cvV (pc := 108) (As := []) (rest := []) X hH (fun x hx => mX11_begin hx) cw_X11_297 (heM_0 V w) rfl rfl rfl (Nat.le_of_ble_eq_true rfl) hl.1 h dX11_refutes_108 (fun w3 H locs h hH => ?_)
      refine lv_aload_n (pc := 111) hx hb dX11_refutes_111 rfl (lv_at hl 0 rfl) ?_
      refine lv_aload_n (pc := 112) hx hb dX11_refutes_112 rfl (lv_at hl 0 rfl) ?_
      refine gM_X11_35_0 (pc := 113) X hH dX11_refutes_113 ?_
      refine lv_iload_n (pc := 116) hx hb dX11_refutes_116 rfl (lv_at hl 1 rfl) ?_
      refine r_ld (pc := 117) X (heM_9 V w3) hH h dX11_refutes_117 (fun v4 h => ?_)
      refine r_cvI (pc := 118) (As := [.int v4]) (rest := []) X hH (fun x hx => mX11_worthOf hx) cw_X11_294 (heM_0 V w3) rfl rfl rfl (Nat.le_of_ble_eq_true rfl) hl.1 h dX11_refutes_118 (fun w5 v6 H locs h hH => ?_)
      refine lv_aload_n (pc := 121) hx hb dX11_refutes_121 rfl (lv_at hl 0 rfl) ?_
      refine lv_aload_n (pc := 122) hx hb dX11_refutes_122 rfl (lv_at hl 0 rfl) ?_
      refine gM_X11_38_0 (pc := 123) X hH dX11_refutes_123 ?_
      refine lv_iload_n (pc := 126) hx hb dX11_refutes_126 rfl (lv_at hl 1 rfl) ?_
      refine r_ld (pc := 127) X (heM_10 V w5) hH h dX11_refutes_127 (fun v7 h => ?_)
      refine r_cvI (pc := 128) (As := [.int v7]) (rest := [.int v6]) X hH (fun x hx => mX11_worthOf hx) cw_X11_294 (heM_0 V w5) rfl rfl rfl (Nat.le_of_ble_eq_true rfl) hl.1 h dX11_refutes_128 (fun w8 v9 H locs h hH => ?_)
      refine b_icmp_eq (pc := 131) (tgt := 136) hx hb h dX11_refutes_131 (by decide) (fun h => ?_) (fun h => ?_)
      · exact kX11_refutes_136 X  hr9 h hH (lv_sub hl [0, 1, 2, 3] rfl)
      · refine lv_iconst (pc := 134) (v := 1) hx hb dX11_refutes_134 (by decide) ?_
        exact r_zretk (pc := 135) (by decide) X hH h dX11_refutes_135
  · refine lv_aload_n (pc := 35) hx hb dX11_refutes_35 rfl (lv_at hl 0 rfl) ?_
    refine gM_X11_105_0 (pc := 36) X hH dX11_refutes_36 ?_
    refine lv_iload (pc := 39) hx hb dX11_refutes_39 (lv_at hl 6 rfl) ?_
    refine lv_iload (pc := 41) hx hb dX11_refutes_41 (lv_at hl 4 rfl) ?_
    refine lv_iload_n (pc := 43) hx hb dX11_refutes_43 rfl (lv_at hl 2 rfl) ?_
    refine b_nz h (fun hn h => ?_)
    refine lv_irem (pc := 44) hx hb dX11_refutes_44 hn ?_
    refine r_st (pc := 45) X (heM_32 V w) (hsM_32 V w) hH h dX11_refutes_45 (fun w10 H locs h hH => ?_)
    refine lv_iload (pc := 46) hx hb dX11_refutes_46 (lv_at hl 4 rfl) ?_
    refine lv_iload_n (pc := 48) hx hb dX11_refutes_48 rfl (lv_at hl 2 rfl) ?_
    refine b_nz h (fun hn h => ?_)
    refine lv_idiv (pc := 49) hx hb dX11_refutes_49 hn ?_
    refine r_nmi h (fun x4_11 h => ?_)
    refine lv_istore (pc := 50) (lv' := [(4, .int x4_11), (0, .ref (V.2.2 0)), (1, .int x1), (2, .int x2), (3, .int x3), (5, .int x5), (6, .int x6)]) hx hb dX11_refutes_50 hl (by decide) rfl (fun ls hl => ?_)
    refine lv_iload (pc := 52) hx hb dX11_refutes_52 (lv_at hl 5 rfl) ?_
    refine b_if_eq (pc := 54) (tgt := 93) hx hb h dX11_refutes_54 (by decide) (fun h => ?_) (fun h => ?_)
    · exact kX11_refutes_93 X  hr9 hr29 h hH (lv_sub hl [1, 2, 3, 4, 0, 6] rfl)
    · refine lv_aload_n (pc := 57) hx hb dX11_refutes_57 rfl (lv_at hl 1 rfl) ?_
      refine gM_X11_105_0 (pc := 58) X hH dX11_refutes_58 ?_
      refine lv_iload (pc := 61) hx hb dX11_refutes_61 (lv_at hl 6 rfl) ?_
      refine r_ld (pc := 63) X (heM_32 V w10) hH h dX11_refutes_63 (fun v13 h => ?_)
      refine b_if_eq (pc := 64) (tgt := 89) hx hb h dX11_refutes_64 (by decide) (fun h => ?_) (fun h => ?_)
      · exact kX11_refutes_89 X  hr9 hr29 h hH (lv_sub hl [1, 2, 3, 4, 0, 6] rfl)
      · refine lv_aload_n (pc := 67) hx hb dX11_refutes_67 rfl (lv_at hl 1 rfl) ?_
        refine gM_X11_32_0 (pc := 68) X hH dX11_refutes_68 ?_
        refine lv_bipush (pc := 71) (v := 8) hx hb dX11_refutes_71 (by decide) ?_
        refine lv_aload_n (pc := 73) hx hb dX11_refutes_73 rfl (lv_at hl 1 rfl) ?_
        refine gM_X11_35_0 (pc := 74) X hH dX11_refutes_74 ?_
        refine lv_iload_n (pc := 77) hx hb dX11_refutes_77 rfl (lv_at hl 2 rfl) ?_
        refine r_ld (pc := 78) X (heM_9 V w10) hH h dX11_refutes_78 (fun v14 h => ?_)
        refine lv_imul (pc := 79) hx hb dX11_refutes_79 ?_
        refine lv_iload (pc := 80) hx hb dX11_refutes_80 (lv_at hl 6 rfl) ?_
        refine lv_iadd (pc := 82) hx hb dX11_refutes_82 ?_
        refine r_ll (pc := 83) X (heM_8 V w10) hH h dX11_refutes_83 (fun v15 h => ?_)
        refine lv_lconst (pc := 84) (v := 0) hx hb dX11_refutes_84 (by decide) ?_
        refine W.lcmp (pc := 85) hx hb dX11_refutes_85 ?_
        refine b_if_le (pc := 86) (tgt := 93) hx hb h dX11_refutes_86 (by decide) (fun h => ?_) (fun h => ?_)
        · exact kX11_refutes_93 X  hr9 hr29 h hH (lv_sub hl [1, 2, 3, 4, 0, 6] rfl)
        · exact kX11_refutes_89 X  hr9 hr29 h hH (lv_sub hl [1, 2, 3, 4, 0, 6] rfl)
def fX11_refutes_29 (N d : Nat)  (rec9 : Wd → Int32 → Int32 → Int32 → Option (Wd × Int32)) : Nat → Wd → Int32 → Int32 → Int32 → Int32 → Int32 → Int32 → Option (Wd × Int32)
  | 0 => fun _ _ _ _ _ _ _ => none
  | n + 1 => fun w x1 x2 x3 x4 x5 x6 => bX11_refutes_29 N d  rec9 (fX11_refutes_29 N d  rec9 n) w x1 x2 x3 x4 x5 x6
theorem lX11_refutes_29 {V : Ev} {p : Program} {l : Launch} {e : Env} {N d : Nat} {s : State} {m : MethodId} {args : Array Value} {below : List Frame} {meth : Method} {c : Code} {z : Wd × Int32} (X : CX V p s m args meth c cX11_refutes 7 RX11 (some .boolean))   {rec9 : Wd → Int32 → Int32 → Int32 → Option (Wd × Int32)} (hr9 : ∀ (w : Wd) (x1 : Int32) (x2 : Int32) (x3 : Int32) (H : Heap) (locs : List Loc) (ls : Array Slot), rec9 w x1 x2 x3 = some z → wH V (cM V) (AM V) s w H locs → lv_has ls 7 [(0, .ref (V.2.2 0)), (1, .int x1), (2, .int x2), (3, .int x3)] → W p l e (rmD (d + 1)) s m args below meth c H locs 0 0 (MQ below (CtI V (cM V) (AM V) z) args s 0 0 (AM V)) (F0 m 9 ls [])) (n : Nat) {w : Wd} {x1 : Int32} {x2 : Int32} {x3 : Int32} {x4 : Int32} {x5 : Int32} {x6 : Int32} {H : Heap} {locs : List Loc} {ls : Array Slot} (h : fX11_refutes_29 N d  rec9 n w x1 x2 x3 x4 x5 x6 = some z) (hH : wH V (cM V) (AM V) s w H locs) (hl : lv_has ls 7 [(0, .ref (V.2.2 0)), (1, .int x1), (2, .int x2), (3, .int x3), (4, .int x4), (5, .int x5), (6, .int x6)]) : W p l e (rmD (d + 1)) s m args below meth c H locs 0 0 (MQ below (CtI V (cM V) (AM V) z) args s 0 0 (AM V)) (F0 m 29 ls []) := by
  induction n generalizing w x1 x2 x3 x4 x5 x6 H locs ls with
  | zero => exact c_none h
  | succ n ih => exact kX11_refutes_29 (N := N) X hr9 (fun _ _ _ _ _ _ _ _ _ _ h hH hl => ih h hH hl) h hH hl
def bX11_refutes_9 (N d : Nat)  (rec9 : Wd → Int32 → Int32 → Int32 → Option (Wd × Int32)) (w : Wd) (x1 : Int32) (x2 : Int32) (x3 : Int32) : Option (Wd × Int32) :=
  if (((x2 * x2) * x2) * x2) ≤ x3 then (
    some (w, 0)
  ) else (
    fX11_refutes_29 N d  rec9 N w x1 x2 x3 x3 ((1 : Int32)) ((0 : Int32))
  )
set_option maxHeartbeats 4000000 in
theorem kX11_refutes_9 {V : Ev} {p : Program} {l : Launch} {e : Env} {N d : Nat} {s : State} {m : MethodId} {args : Array Value} {below : List Frame} {meth : Method} {c : Code} {z : Wd × Int32} (X : CX V p s m args meth c cX11_refutes 7 RX11 (some .boolean))   {rec9 : Wd → Int32 → Int32 → Int32 → Option (Wd × Int32)} (hr9 : ∀ (w : Wd) (x1 : Int32) (x2 : Int32) (x3 : Int32) (H : Heap) (locs : List Loc) (ls : Array Slot), rec9 w x1 x2 x3 = some z → wH V (cM V) (AM V) s w H locs → lv_has ls 7 [(0, .ref (V.2.2 0)), (1, .int x1), (2, .int x2), (3, .int x3)] → W p l e (rmD (d + 1)) s m args below meth c H locs 0 0 (MQ below (CtI V (cM V) (AM V) z) args s 0 0 (AM V)) (F0 m 9 ls [])) {w : Wd} {x1 : Int32} {x2 : Int32} {x3 : Int32} {H : Heap} {locs : List Loc} {ls : Array Slot} (h : bX11_refutes_9 N d  rec9 w x1 x2 x3 = some z) (hH : wH V (cM V) (AM V) s w H locs) (hl : lv_has ls 7 [(0, .ref (V.2.2 0)), (1, .int x1), (2, .int x2), (3, .int x3)]) : W p l e (rmD (d + 1)) s m args below meth c H locs 0 0 (MQ below (CtI V (cM V) (AM V) z) args s 0 0 (AM V)) (F0 m 9 ls []) := by
  unfold bX11_refutes_9 at h
  obtain ⟨hx, hb, hml, hown, hg, hrt, hlk, hK⟩ := id X
  refine lv_iload_n (pc := 9) hx hb dX11_refutes_9 rfl (lv_at hl 3 rfl) ?_
  refine lv_iload_n (pc := 10) hx hb dX11_refutes_10 rfl (lv_at hl 2 rfl) ?_
  refine lv_iload_n (pc := 11) hx hb dX11_refutes_11 rfl (lv_at hl 2 rfl) ?_
  refine lv_imul (pc := 12) hx hb dX11_refutes_12 ?_
  refine lv_iload_n (pc := 13) hx hb dX11_refutes_13 rfl (lv_at hl 2 rfl) ?_
  refine lv_imul (pc := 14) hx hb dX11_refutes_14 ?_
  refine lv_iload_n (pc := 15) hx hb dX11_refutes_15 rfl (lv_at hl 2 rfl) ?_
  refine lv_imul (pc := 16) hx hb dX11_refutes_16 ?_
  refine b_icmp_ge (pc := 17) (tgt := 142) hx hb h dX11_refutes_17 (by decide) (fun h => ?_) (fun h => ?_)
  · refine lv_iconst (pc := 142) (v := 0) hx hb dX11_refutes_142 (by decide) ?_
    exact r_zretk (pc := 143) (by decide) X hH h dX11_refutes_143
  · refine lv_iload_n (pc := 20) hx hb dX11_refutes_20 rfl (lv_at hl 3 rfl) ?_
    refine lv_istore (pc := 21) (lv' := [(4, .int x3), (0, .ref (V.2.2 0)), (1, .int x1), (2, .int x2), (3, .int x3)]) hx hb dX11_refutes_21 hl (by decide) rfl (fun ls hl => ?_)
    refine lv_iconst (pc := 23) (v := 1) hx hb dX11_refutes_23 (by decide) ?_
    refine lv_istore (pc := 24) (lv' := [(5, .int ((1 : Int32))), (4, .int x3), (0, .ref (V.2.2 0)), (1, .int x1), (2, .int x2), (3, .int x3)]) hx hb dX11_refutes_24 hl (by decide) rfl (fun ls hl => ?_)
    refine lv_iconst (pc := 26) (v := 0) hx hb dX11_refutes_26 (by decide) ?_
    refine lv_istore (pc := 27) (lv' := [(6, .int ((0 : Int32))), (5, .int ((1 : Int32))), (4, .int x3), (0, .ref (V.2.2 0)), (1, .int x1), (2, .int x2), (3, .int x3)]) hx hb dX11_refutes_27 hl (by decide) rfl (fun ls hl => ?_)
    exact lX11_refutes_29 X  hr9 N h hH (lv_sub hl [3, 4, 5, 6, 2, 1, 0] rfl)
def fX11_refutes_9 (N d : Nat)   : Nat → Wd → Int32 → Int32 → Int32 → Option (Wd × Int32)
  | 0 => fun _ _ _ _ => none
  | n + 1 => fun w x1 x2 x3 => bX11_refutes_9 N d   (fX11_refutes_9 N d   n) w x1 x2 x3
theorem lX11_refutes_9 {V : Ev} {p : Program} {l : Launch} {e : Env} {N d : Nat} {s : State} {m : MethodId} {args : Array Value} {below : List Frame} {meth : Method} {c : Code} {z : Wd × Int32} (X : CX V p s m args meth c cX11_refutes 7 RX11 (some .boolean))    (n : Nat) {w : Wd} {x1 : Int32} {x2 : Int32} {x3 : Int32} {H : Heap} {locs : List Loc} {ls : Array Slot} (h : fX11_refutes_9 N d   n w x1 x2 x3 = some z) (hH : wH V (cM V) (AM V) s w H locs) (hl : lv_has ls 7 [(0, .ref (V.2.2 0)), (1, .int x1), (2, .int x2), (3, .int x3)]) : W p l e (rmD (d + 1)) s m args below meth c H locs 0 0 (MQ below (CtI V (cM V) (AM V) z) args s 0 0 (AM V)) (F0 m 9 ls []) := by
  induction n generalizing w x1 x2 x3 H locs ls with
  | zero => exact c_none h
  | succ n ih => exact kX11_refutes_9 (N := N) X  (fun _ _ _ _ _ _ _ h hH hl => ih h hH hl) h hH hl
def bX11_refutes_0 (N d : Nat)   (w : Wd) (x1 : Int32) : Option (Wd × Int32) :=
  c_nm ((sI w 15) + 1) fun x2_1 =>
  fX11_refutes_9 N d   N w x1 x2_1 ((0 : Int32))
set_option maxHeartbeats 4000000 in
theorem kX11_refutes_0 {V : Ev} {p : Program} {l : Launch} {e : Env} {N d : Nat} {s : State} {m : MethodId} {args : Array Value} {below : List Frame} {meth : Method} {c : Code} {z : Wd × Int32} (X : CX V p s m args meth c cX11_refutes 7 RX11 (some .boolean))    {w : Wd} {x1 : Int32} {H : Heap} {locs : List Loc} {ls : Array Slot} (h : bX11_refutes_0 N d   w x1 = some z) (hH : wH V (cM V) (AM V) s w H locs) (hl : lv_has ls 7 [(0, .ref (V.2.2 0)), (1, .int x1)]) : W p l e (rmD (d + 1)) s m args below meth c H locs 0 0 (MQ below (CtI V (cM V) (AM V) z) args s 0 0 (AM V)) (F0 m 0 ls []) := by
  unfold bX11_refutes_0 at h
  obtain ⟨hx, hb, hml, hown, hg, hrt, hlk, hK⟩ := id X
  refine lv_aload_n (pc := 0) hx hb dX11_refutes_0 rfl (lv_at hl 0 rfl) ?_
  refine gM_X11_291_0 (pc := 1) X hH dX11_refutes_1 ?_
  refine lv_iconst (pc := 4) (v := 1) hx hb dX11_refutes_4 (by decide) ?_
  refine lv_iadd (pc := 5) hx hb dX11_refutes_5 ?_
  refine r_nmi h (fun x2_1 h => ?_)
  refine lv_istore_n (pc := 6) (lv' := [(2, .int x2_1), (0, .ref (V.2.2 0)), (1, .int x1)]) hx hb dX11_refutes_6 rfl hl (by decide) rfl (fun ls hl => ?_)
  refine lv_iconst (pc := 7) (v := 0) hx hb dX11_refutes_7 (by decide) ?_
  refine lv_istore_n (pc := 8) (lv' := [(3, .int ((0 : Int32))), (2, .int x2_1), (0, .ref (V.2.2 0)), (1, .int x1)]) hx hb dX11_refutes_8 rfl hl (by decide) rfl (fun ls hl => ?_)
  exact lX11_refutes_9 X   N h hH (lv_sub hl [2, 3, 1, 0] rfl)
def eX11_refutes (N : Nat) : Nat → Wd → Int32 → Option (Wd × Int32)
  | 0 => fun _ _ => none
  | d + 1 => fun w x1 => bX11_refutes_0 N d  w x1
set_option maxHeartbeats 4000000 in
set_option maxRecDepth 20000 in
theorem mX11_refutes {l : Launch} {V : Ev} {N d : Nat} {w : Wd} {x1 : Int32} {z : Wd × Int32} (h : eX11_refutes N d w x1 = some z) : MetI l V (cM V) (AM V) yX11_refutes cX11_refutes 7 (some .boolean) d [.ref (V.2.2 0), .int x1] w z := by
  cases d with
  | zero => exact c_none h
  | succ d =>
    refine Met.ofW (cc := cX11_refutes) (maxL := 7) (ret := (some .boolean)) (by decide) rfl ?_
    intro p e s m args below meth c s₁ B hml hv
    obtain ⟨rfl, hP, hD, hK⟩ := hv
    have hts := atoms_spec (ws := .code yX11_refutes cX11_refutes 7 (some .boolean) :: gG) B.pre
    have X : CX V p s m ([.ref (V.2.2 0), .int x1] : List Value).toArray meth c cX11_refutes 7 RX11 (some .boolean) := ⟨B.exec, B.bytes, hml, findClass_of_methodNamed B.named, fun w hw => hts w (List.mem_cons_of_mem _ hw), B.returns, B.notSynchronized, hK⟩
    have hl := lv_entry ([.ref (V.2.2 0), .int x1] : List Value) (n := 7) (Nat.le_of_ble_eq_true rfl)
    rw [lg_entry_eq]
    generalize (lg_sl ([.ref (V.2.2 0), .int x1] : List Value) ++ List.replicate (7 - (lg_sl ([.ref (V.2.2 0), .int x1] : List Value)).length) Slot.unset).toArray = ls at hl ⊢
    have hl : lv_has ls 7 [(0, .ref (V.2.2 0)), (1, .int x1)] := hl
    exact kX11_refutes_0 (N := N) X  h ⟨hP, hD, va_S.rf⟩ hl
theorem dX11_judge_0 : decode cX11_judge 0 = .ok (.aload_n 0, 1) := by decide +kernel
theorem dX11_judge_1 : decode cX11_judge 1 = .ok (.iconst 0, 1) := by decide +kernel
theorem dX11_judge_2 : decode cX11_judge 2 = .ok (.putfield 111, 3) := by decide +kernel
theorem dX11_judge_5 : decode cX11_judge 5 = .ok (.aload_n 0, 1) := by decide +kernel
theorem dX11_judge_6 : decode cX11_judge 6 = .ok (.iload_n 1, 1) := by decide +kernel
theorem dX11_judge_7 : decode cX11_judge 7 = .ok (.invokevirtual 236, 3) := by decide +kernel
theorem dX11_judge_10 : decode cX11_judge 10 = .ok (.ifCond .ne 6, 3) := by decide +kernel
theorem dX11_judge_13 : decode cX11_judge 13 = .ok (.bipush (-2), 2) := by decide +kernel
theorem dX11_judge_15 : decode cX11_judge 15 = .ok (.ireturn, 1) := by decide +kernel
theorem dX11_judge_16 : decode cX11_judge 16 = .ok (.aload_n 0, 1) := by decide +kernel
theorem dX11_judge_17 : decode cX11_judge 17 = .ok (.aload_n 0, 1) := by decide +kernel
theorem dX11_judge_18 : decode cX11_judge 18 = .ok (.getfield 35, 3) := by decide +kernel
theorem dX11_judge_21 : decode cX11_judge 21 = .ok (.iload_n 1, 1) := by decide +kernel
theorem dX11_judge_22 : decode cX11_judge 22 = .ok (.iaload, 1) := by decide +kernel
theorem dX11_judge_23 : decode cX11_judge 23 = .ok (.aload_n 0, 1) := by decide +kernel
theorem dX11_judge_24 : decode cX11_judge 24 = .ok (.getfield 38, 3) := by decide +kernel
theorem dX11_judge_27 : decode cX11_judge 27 = .ok (.iload_n 1, 1) := by decide +kernel
theorem dX11_judge_28 : decode cX11_judge 28 = .ok (.iaload, 1) := by decide +kernel
theorem dX11_judge_29 : decode cX11_judge 29 = .ok (.iload_n 1, 1) := by decide +kernel
theorem dX11_judge_30 : decode cX11_judge 30 = .ok (.invokevirtual 288, 3) := by decide +kernel
theorem dX11_judge_33 : decode cX11_judge 33 = .ok (.istore_n 2, 1) := by decide +kernel
theorem dX11_judge_34 : decode cX11_judge 34 = .ok (.iload_n 2, 1) := by decide +kernel
theorem dX11_judge_35 : decode cX11_judge 35 = .ok (.bipush (-4), 2) := by decide +kernel
theorem dX11_judge_37 : decode cX11_judge 37 = .ok (.if_icmp .ne 6, 3) := by decide +kernel
theorem dX11_judge_40 : decode cX11_judge 40 = .ok (.bipush (-4), 2) := by decide +kernel
theorem dX11_judge_42 : decode cX11_judge 42 = .ok (.ireturn, 1) := by decide +kernel
theorem dX11_judge_43 : decode cX11_judge 43 = .ok (.aload_n 0, 1) := by decide +kernel
theorem dX11_judge_44 : decode cX11_judge 44 = .ok (.iconst 0, 1) := by decide +kernel
theorem dX11_judge_45 : decode cX11_judge 45 = .ok (.putfield 300, 3) := by decide +kernel
theorem dX11_judge_48 : decode cX11_judge 48 = .ok (.iload_n 2, 1) := by decide +kernel
theorem dX11_judge_49 : decode cX11_judge 49 = .ok (.iconst 1, 1) := by decide +kernel
theorem dX11_judge_50 : decode cX11_judge 50 = .ok (.if_icmp .ne 5, 3) := by decide +kernel
theorem dX11_judge_53 : decode cX11_judge 53 = .ok (.iconst 1, 1) := by decide +kernel
theorem dX11_judge_54 : decode cX11_judge 54 = .ok (.ireturn, 1) := by decide +kernel
theorem dX11_judge_55 : decode cX11_judge 55 = .ok (.aload_n 0, 1) := by decide +kernel
theorem dX11_judge_56 : decode cX11_judge 56 = .ok (.getfield 291, 3) := by decide +kernel
theorem dX11_judge_59 : decode cX11_judge 59 = .ok (.ifCond .ne 5, 3) := by decide +kernel
theorem dX11_judge_62 : decode cX11_judge 62 = .ok (.iconst 3, 1) := by decide +kernel
theorem dX11_judge_63 : decode cX11_judge 63 = .ok (.ireturn, 1) := by decide +kernel
theorem dX11_judge_64 : decode cX11_judge 64 = .ok (.aload_n 0, 1) := by decide +kernel
theorem dX11_judge_65 : decode cX11_judge 65 = .ok (.aload_n 0, 1) := by decide +kernel
theorem dX11_judge_66 : decode cX11_judge 66 = .ok (.iload_n 1, 1) := by decide +kernel
theorem dX11_judge_67 : decode cX11_judge 67 = .ok (.invokevirtual 303, 3) := by decide +kernel
theorem dX11_judge_70 : decode cX11_judge 70 = .ok (.putfield 300, 3) := by decide +kernel
theorem dX11_judge_73 : decode cX11_judge 73 = .ok (.iconst 0, 1) := by decide +kernel
theorem dX11_judge_74 : decode cX11_judge 74 = .ok (.istore_n 3, 1) := by decide +kernel
theorem dX11_judge_75 : decode cX11_judge 75 = .ok (.iload_n 3, 1) := by decide +kernel
theorem dX11_judge_76 : decode cX11_judge 76 = .ok (.iconst 4, 1) := by decide +kernel
theorem dX11_judge_77 : decode cX11_judge 77 = .ok (.if_icmp .ge 21, 3) := by decide +kernel
theorem dX11_judge_80 : decode cX11_judge 80 = .ok (.aload_n 0, 1) := by decide +kernel
theorem dX11_judge_81 : decode cX11_judge 81 = .ok (.getfield 108, 3) := by decide +kernel
theorem dX11_judge_84 : decode cX11_judge 84 = .ok (.iload_n 3, 1) := by decide +kernel
theorem dX11_judge_85 : decode cX11_judge 85 = .ok (.aload_n 0, 1) := by decide +kernel
theorem dX11_judge_86 : decode cX11_judge 86 = .ok (.getfield 105, 3) := by decide +kernel
theorem dX11_judge_89 : decode cX11_judge 89 = .ok (.iload_n 3, 1) := by decide +kernel
theorem dX11_judge_90 : decode cX11_judge 90 = .ok (.iaload, 1) := by decide +kernel
theorem dX11_judge_91 : decode cX11_judge 91 = .ok (.iastore, 1) := by decide +kernel
theorem dX11_judge_92 : decode cX11_judge 92 = .ok (.iinc 3 1, 3) := by decide +kernel
theorem dX11_judge_95 : decode cX11_judge 95 = .ok (.goto (-20), 3) := by decide +kernel
theorem dX11_judge_98 : decode cX11_judge 98 = .ok (.aload_n 0, 1) := by decide +kernel
theorem dX11_judge_99 : decode cX11_judge 99 = .ok (.getfield 300, 3) := by decide +kernel
theorem dX11_judge_102 : decode cX11_judge 102 = .ok (.ifCond .eq 7, 3) := by decide +kernel
theorem dX11_judge_105 : decode cX11_judge 105 = .ok (.iconst 0, 1) := by decide +kernel
theorem dX11_judge_106 : decode cX11_judge 106 = .ok (.goto 4, 3) := by decide +kernel
theorem dX11_judge_109 : decode cX11_judge 109 = .ok (.iconst 2, 1) := by decide +kernel
theorem dX11_judge_110 : decode cX11_judge 110 = .ok (.ireturn, 1) := by decide +kernel
def bX11_judge_110 (N d : Nat)   (w : Wd) (y0 : Int32) : Option (Wd × Int32) :=
  some (w, y0)
set_option maxHeartbeats 4000000 in
theorem kX11_judge_110 {V : Ev} {p : Program} {l : Launch} {e : Env} {N d : Nat} {s : State} {m : MethodId} {args : Array Value} {below : List Frame} {meth : Method} {c : Code} {z : Wd × Int32} (X : CX V p s m args meth c cX11_judge 4 RX11 (some .int))    {w : Wd} {y0 : Int32} {H : Heap} {locs : List Loc} {ls : Array Slot} (h : bX11_judge_110 N d   w y0 = some z) (hH : wH V (cM V) (AM V) s w H locs) (hl : lv_has ls 4 []) : W p l e (rmD (d + 1)) s m args below meth c H locs 0 0 (MQ below (CtI V (cM V) (AM V) z) args s 0 0 (AM V)) (F0 m 110 ls [.int y0]) := by
  unfold bX11_judge_110 at h
  obtain ⟨hx, hb, hml, hown, hg, hrt, hlk, hK⟩ := id X
  exact r_iret (pc := 110) X hH h dX11_judge_110
def bX11_judge_75 (N d : Nat)  (rec75 : Wd → Int32 → Option (Wd × Int32)) (w : Wd) (x3 : Int32) : Option (Wd × Int32) :=
  if 4 ≤ x3 then (
    if (sI w 16) = 0 then (
      bX11_judge_110 N d   w 2
    ) else (
      bX11_judge_110 N d   w 0
    )
  ) else (
    c_ld w 32 8 x3 fun v12 =>
    c_st w 33 4 x3 v12 fun w13 =>
    c_nm (x3 + 1) fun x3_14 =>
    rec75 w13 x3_14
  )
set_option maxHeartbeats 4000000 in
theorem kX11_judge_75 {V : Ev} {p : Program} {l : Launch} {e : Env} {N d : Nat} {s : State} {m : MethodId} {args : Array Value} {below : List Frame} {meth : Method} {c : Code} {z : Wd × Int32} (X : CX V p s m args meth c cX11_judge 4 RX11 (some .int))   {rec75 : Wd → Int32 → Option (Wd × Int32)} (hr75 : ∀ (w : Wd) (x3 : Int32) (H : Heap) (locs : List Loc) (ls : Array Slot), rec75 w x3 = some z → wH V (cM V) (AM V) s w H locs → lv_has ls 4 [(0, .ref (V.2.2 0)), (3, .int x3)] → W p l e (rmD (d + 1)) s m args below meth c H locs 0 0 (MQ below (CtI V (cM V) (AM V) z) args s 0 0 (AM V)) (F0 m 75 ls [])) {w : Wd} {x3 : Int32} {H : Heap} {locs : List Loc} {ls : Array Slot} (h : bX11_judge_75 N d  rec75 w x3 = some z) (hH : wH V (cM V) (AM V) s w H locs) (hl : lv_has ls 4 [(0, .ref (V.2.2 0)), (3, .int x3)]) : W p l e (rmD (d + 1)) s m args below meth c H locs 0 0 (MQ below (CtI V (cM V) (AM V) z) args s 0 0 (AM V)) (F0 m 75 ls []) := by
  unfold bX11_judge_75 at h
  obtain ⟨hx, hb, hml, hown, hg, hrt, hlk, hK⟩ := id X
  refine lv_iload_n (pc := 75) hx hb dX11_judge_75 rfl (lv_at hl 1 rfl) ?_
  refine lv_iconst (pc := 76) (v := 4) hx hb dX11_judge_76 (by decide) ?_
  refine b_icmp_ge (pc := 77) (tgt := 98) hx hb h dX11_judge_77 (by decide) (fun h => ?_) (fun h => ?_)
  · refine lv_aload_n (pc := 98) hx hb dX11_judge_98 rfl (lv_at hl 0 rfl) ?_
    refine gM_X11_300_0 (pc := 99) X hH dX11_judge_99 ?_
    refine b_if_eq (pc := 102) (tgt := 109) hx hb h dX11_judge_102 (by decide) (fun h => ?_) (fun h => ?_)
    · refine lv_iconst (pc := 109) (v := 2) hx hb dX11_judge_109 (by decide) ?_
      exact kX11_judge_110 X   h hH (lv_sub hl [] rfl)
    · refine lv_iconst (pc := 105) (v := 0) hx hb dX11_judge_105 (by decide) ?_
      refine lv_goto (pc := 106) (tgt := 110) hx hb dX11_judge_106 (by decide) ?_
      exact kX11_judge_110 X   h hH (lv_sub hl [] rfl)
  · refine lv_aload_n (pc := 80) hx hb dX11_judge_80 rfl (lv_at hl 0 rfl) ?_
    refine gM_X11_108_0 (pc := 81) X hH dX11_judge_81 ?_
    refine lv_iload_n (pc := 84) hx hb dX11_judge_84 rfl (lv_at hl 1 rfl) ?_
    refine lv_aload_n (pc := 85) hx hb dX11_judge_85 rfl (lv_at hl 0 rfl) ?_
    refine gM_X11_105_0 (pc := 86) X hH dX11_judge_86 ?_
    refine lv_iload_n (pc := 89) hx hb dX11_judge_89 rfl (lv_at hl 1 rfl) ?_
    refine r_ld (pc := 90) X (heM_32 V w) hH h dX11_judge_90 (fun v12 h => ?_)
    refine r_st (pc := 91) X (heM_33 V w) (hsM_33 V w) hH h dX11_judge_91 (fun w13 H locs h hH => ?_)
    obtain ⟨x3_14, ex3_14, h⟩ := c_nm_ex h
    refine lv_iinc (pc := 92) (v := x3_14) (lv' := [(3, .int x3_14), (0, .ref (V.2.2 0))]) hx hb dX11_judge_92 hl (k := 1) rfl (by rw [← ex3_14]; rfl) (by decide) rfl (fun ls hl => ?_)
    refine lv_goto (pc := 95) (tgt := 75) hx hb dX11_judge_95 (by decide) ?_
    exact hr75 _ _ _ _ _ h hH (lv_sub hl [1, 0] rfl)
def fX11_judge_75 (N d : Nat)   : Nat → Wd → Int32 → Option (Wd × Int32)
  | 0 => fun _ _ => none
  | n + 1 => fun w x3 => bX11_judge_75 N d   (fX11_judge_75 N d   n) w x3
theorem lX11_judge_75 {V : Ev} {p : Program} {l : Launch} {e : Env} {N d : Nat} {s : State} {m : MethodId} {args : Array Value} {below : List Frame} {meth : Method} {c : Code} {z : Wd × Int32} (X : CX V p s m args meth c cX11_judge 4 RX11 (some .int))    (n : Nat) {w : Wd} {x3 : Int32} {H : Heap} {locs : List Loc} {ls : Array Slot} (h : fX11_judge_75 N d   n w x3 = some z) (hH : wH V (cM V) (AM V) s w H locs) (hl : lv_has ls 4 [(0, .ref (V.2.2 0)), (3, .int x3)]) : W p l e (rmD (d + 1)) s m args below meth c H locs 0 0 (MQ below (CtI V (cM V) (AM V) z) args s 0 0 (AM V)) (F0 m 75 ls []) := by
  induction n generalizing w x3 H locs ls with
  | zero => exact c_none h
  | succ n ih => exact kX11_judge_75 (N := N) X  (fun _ _ _ _ _ h hH hl => ih h hH hl) h hH hl
def bX11_judge_0 (N d : Nat)   (w : Wd) (x1 : Int32) : Option (Wd × Int32) :=
  c_pi w 0 0 fun w1 =>
  c_cl (eX11_isRule N d w1 x1) fun w2 v3 =>
  if v3 = 0 then (
    some (w2, -2)
  ) else (
    c_ld w2 9 16 x1 fun v4 =>
    c_ld w2 10 16 x1 fun v5 =>
    c_cl (eX11_joined N d w2 v4 v5 x1) fun w6 v7 =>
    if v7 = (-4) then (
      some (w6, -4)
    ) else (
      c_pi w6 16 0 fun w8 =>
      if v7 = 1 then (
        some (w8, 1)
      ) else (
        if (sI w8 15) = 0 then (
          some (w8, 3)
        ) else (
          c_cl (eX11_refutes N d w8 x1) fun w9 v10 =>
          c_bo v10 <|
          c_pi w9 16 v10 fun w11 =>
          fX11_judge_75 N d   N w11 ((0 : Int32))
        )
      )
    )
  )
set_option maxHeartbeats 4000000 in
theorem kX11_judge_0 {V : Ev} {p : Program} {l : Launch} {e : Env} {N d : Nat} {s : State} {m : MethodId} {args : Array Value} {below : List Frame} {meth : Method} {c : Code} {z : Wd × Int32} (X : CX V p s m args meth c cX11_judge 4 RX11 (some .int))    {w : Wd} {x1 : Int32} {H : Heap} {locs : List Loc} {ls : Array Slot} (h : bX11_judge_0 N d   w x1 = some z) (hH : wH V (cM V) (AM V) s w H locs) (hl : lv_has ls 4 [(0, .ref (V.2.2 0)), (1, .int x1)]) : W p l e (rmD (d + 1)) s m args below meth c H locs 0 0 (MQ below (CtI V (cM V) (AM V) z) args s 0 0 (AM V)) (F0 m 0 ls []) := by
  unfold bX11_judge_0 at h
  obtain ⟨hx, hb, hml, hown, hg, hrt, hlk, hK⟩ := id X
  refine lv_aload_n (pc := 0) hx hb dX11_judge_0 rfl (lv_at hl 0 rfl) ?_
  refine lv_iconst (pc := 1) (v := 0) hx hb dX11_judge_1 (by decide) ?_
  refine pM_X11_111_0 (pc := 2) X hH h dX11_judge_2 (fun w1 H locs h hH => ?_)
  refine lv_aload_n (pc := 5) hx hb dX11_judge_5 rfl (lv_at hl 0 rfl) ?_
  refine lv_iload_n (pc := 6) hx hb dX11_judge_6 rfl (lv_at hl 1 rfl) ?_
  refine r_cvI (pc := 7) (As := [.int x1]) (rest := []) X hH (fun x hx => mX11_isRule hx) cw_X11_236 (heM_0 V w1) rfl rfl rfl (Nat.le_of_ble_eq_true rfl) hl.1 h dX11_judge_7 (fun w2 v3 H locs h hH => ?_)
  refine b_if_ne (pc := 10) (tgt := 16) hx hb h dX11_judge_10 (by decide) (fun h => ?_) (fun h => ?_)
  · refine lv_aload_n (pc := 16) hx hb dX11_judge_16 rfl (lv_at hl 0 rfl) ?_
    refine lv_aload_n (pc := 17) hx hb dX11_judge_17 rfl (lv_at hl 0 rfl) ?_
    refine gM_X11_35_0 (pc := 18) X hH dX11_judge_18 ?_
    refine lv_iload_n (pc := 21) hx hb dX11_judge_21 rfl (lv_at hl 1 rfl) ?_
    refine r_ld (pc := 22) X (heM_9 V w2) hH h dX11_judge_22 (fun v4 h => ?_)
    refine lv_aload_n (pc := 23) hx hb dX11_judge_23 rfl (lv_at hl 0 rfl) ?_
    refine gM_X11_38_0 (pc := 24) X hH dX11_judge_24 ?_
    refine lv_iload_n (pc := 27) hx hb dX11_judge_27 rfl (lv_at hl 1 rfl) ?_
    refine r_ld (pc := 28) X (heM_10 V w2) hH h dX11_judge_28 (fun v5 h => ?_)
    refine lv_iload_n (pc := 29) hx hb dX11_judge_29 rfl (lv_at hl 1 rfl) ?_
    refine r_cvI (pc := 30) (As := [.int v4, .int v5, .int x1]) (rest := []) X hH (fun x hx => mX11_joined hx) cw_X11_288 (heM_0 V w2) rfl rfl rfl (Nat.le_of_ble_eq_true rfl) hl.1 h dX11_judge_30 (fun w6 v7 H locs h hH => ?_)
    refine lv_istore_n (pc := 33) (lv' := [(2, .int v7), (0, .ref (V.2.2 0)), (1, .int x1)]) hx hb dX11_judge_33 rfl hl (by decide) rfl (fun ls hl => ?_)
    refine lv_iload_n (pc := 34) hx hb dX11_judge_34 rfl (lv_at hl 0 rfl) ?_
    refine lv_bipush (pc := 35) (v := -4) hx hb dX11_judge_35 (by decide) ?_
    refine b_icmp_ne (pc := 37) (tgt := 43) hx hb h dX11_judge_37 (by decide) (fun h => ?_) (fun h => ?_)
    · refine lv_aload_n (pc := 43) hx hb dX11_judge_43 rfl (lv_at hl 1 rfl) ?_
      refine lv_iconst (pc := 44) (v := 0) hx hb dX11_judge_44 (by decide) ?_
      refine pM_X11_300_0 (pc := 45) X hH (Or.inl rfl) h dX11_judge_45 (fun w8 H locs h hH => ?_)
      refine lv_iload_n (pc := 48) hx hb dX11_judge_48 rfl (lv_at hl 0 rfl) ?_
      refine lv_iconst (pc := 49) (v := 1) hx hb dX11_judge_49 (by decide) ?_
      refine b_icmp_ne (pc := 50) (tgt := 55) hx hb h dX11_judge_50 (by decide) (fun h => ?_) (fun h => ?_)
      · refine lv_aload_n (pc := 55) hx hb dX11_judge_55 rfl (lv_at hl 1 rfl) ?_
        refine gM_X11_291_0 (pc := 56) X hH dX11_judge_56 ?_
        refine b_if_ne (pc := 59) (tgt := 64) hx hb h dX11_judge_59 (by decide) (fun h => ?_) (fun h => ?_)
        · refine lv_aload_n (pc := 64) hx hb dX11_judge_64 rfl (lv_at hl 1 rfl) ?_
          refine lv_aload_n (pc := 65) hx hb dX11_judge_65 rfl (lv_at hl 1 rfl) ?_
          refine lv_iload_n (pc := 66) hx hb dX11_judge_66 rfl (lv_at hl 2 rfl) ?_
          refine r_cvI (pc := 67) (As := [.int x1]) (rest := [.ref (V.2.2 0)]) X hH (fun x hx => mX11_refutes hx) cw_X11_303 (heM_0 V w8) rfl rfl rfl (Nat.le_of_ble_eq_true rfl) hl.1 h dX11_judge_67 (fun w9 v10 H locs h hH => ?_)
          refine b_bo h (fun hv h => ?_)
          refine pM_X11_300_0 (pc := 70) X hH hv h dX11_judge_70 (fun w11 H locs h hH => ?_)
          refine lv_iconst (pc := 73) (v := 0) hx hb dX11_judge_73 (by decide) ?_
          refine lv_istore_n (pc := 74) (lv' := [(3, .int ((0 : Int32))), (2, .int v7), (0, .ref (V.2.2 0)), (1, .int x1)]) hx hb dX11_judge_74 rfl hl (by decide) rfl (fun ls hl => ?_)
          exact lX11_judge_75 X   N h hH (lv_sub hl [2, 0] rfl)
        · refine lv_iconst (pc := 62) (v := 3) hx hb dX11_judge_62 (by decide) ?_
          exact r_iret (pc := 63) X hH h dX11_judge_63
      · refine lv_iconst (pc := 53) (v := 1) hx hb dX11_judge_53 (by decide) ?_
        exact r_iret (pc := 54) X hH h dX11_judge_54
    · refine lv_bipush (pc := 40) (v := -4) hx hb dX11_judge_40 (by decide) ?_
      exact r_iret (pc := 42) X hH h dX11_judge_42
  · refine lv_bipush (pc := 13) (v := -2) hx hb dX11_judge_13 (by decide) ?_
    exact r_iret (pc := 15) X hH h dX11_judge_15
def eX11_judge (N : Nat) : Nat → Wd → Int32 → Option (Wd × Int32)
  | 0 => fun _ _ => none
  | d + 1 => fun w x1 => bX11_judge_0 N d  w x1
set_option maxHeartbeats 4000000 in
set_option maxRecDepth 20000 in
theorem mX11_judge {l : Launch} {V : Ev} {N d : Nat} {w : Wd} {x1 : Int32} {z : Wd × Int32} (h : eX11_judge N d w x1 = some z) : MetI l V (cM V) (AM V) yX11_judge cX11_judge 4 (some .int) d [.ref (V.2.2 0), .int x1] w z := by
  cases d with
  | zero => exact c_none h
  | succ d =>
    refine Met.ofW (cc := cX11_judge) (maxL := 4) (ret := (some .int)) (by decide) rfl ?_
    intro p e s m args below meth c s₁ B hml hv
    obtain ⟨rfl, hP, hD, hK⟩ := hv
    have hts := atoms_spec (ws := .code yX11_judge cX11_judge 4 (some .int) :: gG) B.pre
    have X : CX V p s m ([.ref (V.2.2 0), .int x1] : List Value).toArray meth c cX11_judge 4 RX11 (some .int) := ⟨B.exec, B.bytes, hml, findClass_of_methodNamed B.named, fun w hw => hts w (List.mem_cons_of_mem _ hw), B.returns, B.notSynchronized, hK⟩
    have hl := lv_entry ([.ref (V.2.2 0), .int x1] : List Value) (n := 4) (Nat.le_of_ble_eq_true rfl)
    rw [lg_entry_eq]
    generalize (lg_sl ([.ref (V.2.2 0), .int x1] : List Value) ++ List.replicate (4 - (lg_sl ([.ref (V.2.2 0), .int x1] : List Value)).length) Slot.unset).toArray = ls at hl ⊢
    have hl : lv_has ls 4 [(0, .ref (V.2.2 0)), (1, .int x1)] := hl
    exact kX11_judge_0 (N := N) X  h ⟨hP, hD, va_S.rf⟩ hl
theorem dX11_refuted_0 : decode cX11_refuted 0 = .ok (.aload_n 0, 1) := by decide +kernel
theorem dX11_refuted_1 : decode cX11_refuted 1 = .ok (.iconst 0, 1) := by decide +kernel
theorem dX11_refuted_2 : decode cX11_refuted 2 = .ok (.putfield 111, 3) := by decide +kernel
theorem dX11_refuted_5 : decode cX11_refuted 5 = .ok (.iload_n 1, 1) := by decide +kernel
theorem dX11_refuted_6 : decode cX11_refuted 6 = .ok (.i2l, 1) := by decide +kernel
theorem dX11_refuted_7 : decode cX11_refuted 7 = .ok (.lconst 0, 1) := by decide +kernel
theorem dX11_refuted_8 : decode cX11_refuted 8 = .ok (.ldc2_w 172, 3) := by decide +kernel
theorem dX11_refuted_11 : decode cX11_refuted 11 = .ok (.invokestatic 132, 3) := by decide +kernel
theorem dX11_refuted_14 : decode cX11_refuted 14 = .ok (.ifCond .ne 8, 3) := by decide +kernel
theorem dX11_refuted_17 : decode cX11_refuted 17 = .ok (.bipush (-2), 2) := by decide +kernel
theorem dX11_refuted_19 : decode cX11_refuted 19 = .ok (.goto 20, 3) := by decide +kernel
theorem dX11_refuted_22 : decode cX11_refuted 22 = .ok (.aload_n 0, 1) := by decide +kernel
theorem dX11_refuted_23 : decode cX11_refuted 23 = .ok (.getfield 300, 3) := by decide +kernel
theorem dX11_refuted_26 : decode cX11_refuted 26 = .ok (.ifCond .eq 12, 3) := by decide +kernel
theorem dX11_refuted_29 : decode cX11_refuted 29 = .ok (.aload_n 0, 1) := by decide +kernel
theorem dX11_refuted_30 : decode cX11_refuted 30 = .ok (.getfield 108, 3) := by decide +kernel
theorem dX11_refuted_33 : decode cX11_refuted 33 = .ok (.iload_n 1, 1) := by decide +kernel
theorem dX11_refuted_34 : decode cX11_refuted 34 = .ok (.iaload, 1) := by decide +kernel
theorem dX11_refuted_35 : decode cX11_refuted 35 = .ok (.goto 4, 3) := by decide +kernel
theorem dX11_refuted_38 : decode cX11_refuted 38 = .ok (.iconst (-1), 1) := by decide +kernel
theorem dX11_refuted_39 : decode cX11_refuted 39 = .ok (.ireturn, 1) := by decide +kernel
def bX11_refuted_39 (N d : Nat)   (w : Wd) (y0 : Int32) : Option (Wd × Int32) :=
  some (w, y0)
set_option maxHeartbeats 4000000 in
theorem kX11_refuted_39 {V : Ev} {p : Program} {l : Launch} {e : Env} {N d : Nat} {s : State} {m : MethodId} {args : Array Value} {below : List Frame} {meth : Method} {c : Code} {z : Wd × Int32} (X : CX V p s m args meth c cX11_refuted 2 RX11 (some .int))    {w : Wd} {y0 : Int32} {H : Heap} {locs : List Loc} {ls : Array Slot} (h : bX11_refuted_39 N d   w y0 = some z) (hH : wH V (cM V) (AM V) s w H locs) (hl : lv_has ls 2 []) : W p l e (rmD (d + 1)) s m args below meth c H locs 0 0 (MQ below (CtI V (cM V) (AM V) z) args s 0 0 (AM V)) (F0 m 39 ls [.int y0]) := by
  unfold bX11_refuted_39 at h
  obtain ⟨hx, hb, hml, hown, hg, hrt, hlk, hK⟩ := id X
  exact r_iret (pc := 39) X hH h dX11_refuted_39
def bX11_refuted_0 (N d : Nat)   (w : Wd) (x1 : Int32) : Option (Wd × Int32) :=
  c_pi w 0 0 fun w1 =>
  c_cl (eX11_in N d w1 (Int32.toInt64 x1) 0 3) fun w2 v3 =>
  if v3 = 0 then (
    bX11_refuted_39 N d   w2 (-2)
  ) else (
    if (sI w2 16) = 0 then (
      bX11_refuted_39 N d   w2 (-1)
    ) else (
      c_ld w2 33 4 x1 fun v4 =>
      bX11_refuted_39 N d   w2 v4
    )
  )
set_option maxHeartbeats 4000000 in
theorem kX11_refuted_0 {V : Ev} {p : Program} {l : Launch} {e : Env} {N d : Nat} {s : State} {m : MethodId} {args : Array Value} {below : List Frame} {meth : Method} {c : Code} {z : Wd × Int32} (X : CX V p s m args meth c cX11_refuted 2 RX11 (some .int))    {w : Wd} {x1 : Int32} {H : Heap} {locs : List Loc} {ls : Array Slot} (h : bX11_refuted_0 N d   w x1 = some z) (hH : wH V (cM V) (AM V) s w H locs) (hl : lv_has ls 2 [(0, .ref (V.2.2 0)), (1, .int x1)]) : W p l e (rmD (d + 1)) s m args below meth c H locs 0 0 (MQ below (CtI V (cM V) (AM V) z) args s 0 0 (AM V)) (F0 m 0 ls []) := by
  unfold bX11_refuted_0 at h
  obtain ⟨hx, hb, hml, hown, hg, hrt, hlk, hK⟩ := id X
  refine lv_aload_n (pc := 0) hx hb dX11_refuted_0 rfl (lv_at hl 0 rfl) ?_
  refine lv_iconst (pc := 1) (v := 0) hx hb dX11_refuted_1 (by decide) ?_
  refine pM_X11_111_0 (pc := 2) X hH h dX11_refuted_2 (fun w1 H locs h hH => ?_)
  refine lv_iload_n (pc := 5) hx hb dX11_refuted_5 rfl (lv_at hl 1 rfl) ?_
  refine lv_i2l (pc := 6) hx hb dX11_refuted_6 rfl ?_
  refine lv_lconst (pc := 7) (v := 0) hx hb dX11_refuted_7 (by decide) ?_
  refine lv_ldc2 (pc := 8) hx hb hown (hg _ wL_1106) dX11_refuted_8 ?_
  refine r_csI (pc := 11) (As := [.long (Int32.toInt64 x1), .long 0, .long 3]) (rest := []) X hH (fun x hx => mX11_in hx) cs_X11_132 rfl rfl (Nat.le_of_ble_eq_true rfl) hl.1 h dX11_refuted_11 (fun w2 v3 H locs h hH => ?_)
  refine b_if_ne (pc := 14) (tgt := 22) hx hb h dX11_refuted_14 (by decide) (fun h => ?_) (fun h => ?_)
  · refine lv_aload_n (pc := 22) hx hb dX11_refuted_22 rfl (lv_at hl 0 rfl) ?_
    refine gM_X11_300_0 (pc := 23) X hH dX11_refuted_23 ?_
    refine b_if_eq (pc := 26) (tgt := 38) hx hb h dX11_refuted_26 (by decide) (fun h => ?_) (fun h => ?_)
    · refine lv_iconst (pc := 38) (v := -1) hx hb dX11_refuted_38 (by decide) ?_
      exact kX11_refuted_39 X   h hH (lv_sub hl [] rfl)
    · refine lv_aload_n (pc := 29) hx hb dX11_refuted_29 rfl (lv_at hl 0 rfl) ?_
      refine gM_X11_108_0 (pc := 30) X hH dX11_refuted_30 ?_
      refine lv_iload_n (pc := 33) hx hb dX11_refuted_33 rfl (lv_at hl 1 rfl) ?_
      refine r_ld (pc := 34) X (heM_33 V w2) hH h dX11_refuted_34 (fun v4 h => ?_)
      refine lv_goto (pc := 35) (tgt := 39) hx hb dX11_refuted_35 (by decide) ?_
      exact kX11_refuted_39 X   h hH (lv_sub hl [] rfl)
  · refine lv_bipush (pc := 17) (v := -2) hx hb dX11_refuted_17 (by decide) ?_
    refine lv_goto (pc := 19) (tgt := 39) hx hb dX11_refuted_19 (by decide) ?_
    exact kX11_refuted_39 X   h hH (lv_sub hl [] rfl)
def eX11_refuted (N : Nat) : Nat → Wd → Int32 → Option (Wd × Int32)
  | 0 => fun _ _ => none
  | d + 1 => fun w x1 => bX11_refuted_0 N d  w x1
set_option maxHeartbeats 4000000 in
set_option maxRecDepth 20000 in
theorem mX11_refuted {l : Launch} {V : Ev} {N d : Nat} {w : Wd} {x1 : Int32} {z : Wd × Int32} (h : eX11_refuted N d w x1 = some z) : MetI l V (cM V) (AM V) yX11_refuted cX11_refuted 2 (some .int) d [.ref (V.2.2 0), .int x1] w z := by
  cases d with
  | zero => exact c_none h
  | succ d =>
    refine Met.ofW (cc := cX11_refuted) (maxL := 2) (ret := (some .int)) (by decide) rfl ?_
    intro p e s m args below meth c s₁ B hml hv
    obtain ⟨rfl, hP, hD, hK⟩ := hv
    have hts := atoms_spec (ws := .code yX11_refuted cX11_refuted 2 (some .int) :: gG) B.pre
    have X : CX V p s m ([.ref (V.2.2 0), .int x1] : List Value).toArray meth c cX11_refuted 2 RX11 (some .int) := ⟨B.exec, B.bytes, hml, findClass_of_methodNamed B.named, fun w hw => hts w (List.mem_cons_of_mem _ hw), B.returns, B.notSynchronized, hK⟩
    have hl := lv_entry ([.ref (V.2.2 0), .int x1] : List Value) (n := 2) (Nat.le_of_ble_eq_true rfl)
    rw [lg_entry_eq]
    generalize (lg_sl ([.ref (V.2.2 0), .int x1] : List Value) ++ List.replicate (2 - (lg_sl ([.ref (V.2.2 0), .int x1] : List Value)).length) Slot.unset).toArray = ls at hl ⊢
    have hl : lv_has ls 2 [(0, .ref (V.2.2 0)), (1, .int x1)] := hl
    exact kX11_refuted_0 (N := N) X  h ⟨hP, hD, va_S.rf⟩ hl
theorem dX11_of_0 : decode cX11_of 0 = .ok (.aload_n 0, 1) := by decide +kernel
theorem dX11_of_1 : decode cX11_of 1 = .ok (.iconst 0, 1) := by decide +kernel
theorem dX11_of_2 : decode cX11_of 2 = .ok (.putfield 111, 3) := by decide +kernel
theorem dX11_of_5 : decode cX11_of 5 = .ok (.aload_n 0, 1) := by decide +kernel
theorem dX11_of_6 : decode cX11_of 6 = .ok (.iload_n 1, 1) := by decide +kernel
theorem dX11_of_7 : decode cX11_of 7 = .ok (.invokevirtual 206, 3) := by decide +kernel
theorem dX11_of_10 : decode cX11_of 10 = .ok (.ifCond .eq 32, 3) := by decide +kernel
theorem dX11_of_13 : decode cX11_of 13 = .ok (.iload_n 2, 1) := by decide +kernel
theorem dX11_of_14 : decode cX11_of 14 = .ok (.i2l, 1) := by decide +kernel
theorem dX11_of_15 : decode cX11_of 15 = .ok (.lconst 0, 1) := by decide +kernel
theorem dX11_of_16 : decode cX11_of 16 = .ok (.ldc2_w 306, 3) := by decide +kernel
theorem dX11_of_19 : decode cX11_of 19 = .ok (.invokestatic 132, 3) := by decide +kernel
theorem dX11_of_22 : decode cX11_of 22 = .ok (.ifCond .eq 20, 3) := by decide +kernel
theorem dX11_of_25 : decode cX11_of 25 = .ok (.iload_n 2, 1) := by decide +kernel
theorem dX11_of_26 : decode cX11_of 26 = .ok (.iconst 4, 1) := by decide +kernel
theorem dX11_of_27 : decode cX11_of 27 = .ok (.if_icmp .ne 19, 3) := by decide +kernel
theorem dX11_of_30 : decode cX11_of 30 = .ok (.iload_n 3, 1) := by decide +kernel
theorem dX11_of_31 : decode cX11_of 31 = .ok (.i2l, 1) := by decide +kernel
theorem dX11_of_32 : decode cX11_of 32 = .ok (.lconst 0, 1) := by decide +kernel
theorem dX11_of_33 : decode cX11_of 33 = .ok (.ldc2_w 229, 3) := by decide +kernel
theorem dX11_of_36 : decode cX11_of 36 = .ok (.invokestatic 132, 3) := by decide +kernel
theorem dX11_of_39 : decode cX11_of 39 = .ok (.ifCond .ne 7, 3) := by decide +kernel
theorem dX11_of_42 : decode cX11_of 42 = .ok (.ldc2_w 218, 3) := by decide +kernel
theorem dX11_of_45 : decode cX11_of 45 = .ok (.lreturn, 1) := by decide +kernel
theorem dX11_of_46 : decode cX11_of 46 = .ok (.iload_n 2, 1) := by decide +kernel
theorem dX11_of_47 : decode cX11_of 47 = .ok (.tableswitch 86 0 3 #[29, 51, 72, 79], 29) := by decide +kernel
theorem dX11_of_76 : decode cX11_of 76 = .ok (.aload_n 0, 1) := by decide +kernel
theorem dX11_of_77 : decode cX11_of 77 = .ok (.iload_n 1, 1) := by decide +kernel
theorem dX11_of_78 : decode cX11_of 78 = .ok (.invokevirtual 117, 3) := by decide +kernel
theorem dX11_of_81 : decode cX11_of 81 = .ok (.ifCond .eq 9, 3) := by decide +kernel
theorem dX11_of_84 : decode cX11_of 84 = .ok (.ldc2_w 220, 3) := by decide +kernel
theorem dX11_of_87 : decode cX11_of 87 = .ok (.goto 10, 3) := by decide +kernel
theorem dX11_of_90 : decode cX11_of 90 = .ok (.aload_n 0, 1) := by decide +kernel
theorem dX11_of_91 : decode cX11_of 91 = .ok (.getfield 16, 3) := by decide +kernel
theorem dX11_of_94 : decode cX11_of 94 = .ok (.iload_n 1, 1) := by decide +kernel
theorem dX11_of_95 : decode cX11_of 95 = .ok (.iaload, 1) := by decide +kernel
theorem dX11_of_96 : decode cX11_of 96 = .ok (.i2l, 1) := by decide +kernel
theorem dX11_of_97 : decode cX11_of 97 = .ok (.lreturn, 1) := by decide +kernel
theorem dX11_of_98 : decode cX11_of 98 = .ok (.aload_n 0, 1) := by decide +kernel
theorem dX11_of_99 : decode cX11_of 99 = .ok (.iload_n 1, 1) := by decide +kernel
theorem dX11_of_100 : decode cX11_of 100 = .ok (.invokevirtual 117, 3) := by decide +kernel
theorem dX11_of_103 : decode cX11_of 103 = .ok (.ifCond .eq 12, 3) := by decide +kernel
theorem dX11_of_106 : decode cX11_of 106 = .ok (.aload_n 0, 1) := by decide +kernel
theorem dX11_of_107 : decode cX11_of 107 = .ok (.iload_n 1, 1) := by decide +kernel
theorem dX11_of_108 : decode cX11_of 108 = .ok (.invokevirtual 136, 3) := by decide +kernel
theorem dX11_of_111 : decode cX11_of 111 = .ok (.i2l, 1) := by decide +kernel
theorem dX11_of_112 : decode cX11_of 112 = .ok (.goto 6, 3) := by decide +kernel
theorem dX11_of_115 : decode cX11_of 115 = .ok (.ldc2_w 220, 3) := by decide +kernel
theorem dX11_of_118 : decode cX11_of 118 = .ok (.lreturn, 1) := by decide +kernel
theorem dX11_of_119 : decode cX11_of 119 = .ok (.aload_n 0, 1) := by decide +kernel
theorem dX11_of_120 : decode cX11_of 120 = .ok (.getfield 25, 3) := by decide +kernel
theorem dX11_of_123 : decode cX11_of 123 = .ok (.iload_n 1, 1) := by decide +kernel
theorem dX11_of_124 : decode cX11_of 124 = .ok (.laload, 1) := by decide +kernel
theorem dX11_of_125 : decode cX11_of 125 = .ok (.lreturn, 1) := by decide +kernel
theorem dX11_of_126 : decode cX11_of 126 = .ok (.aload_n 0, 1) := by decide +kernel
theorem dX11_of_127 : decode cX11_of 127 = .ok (.getfield 29, 3) := by decide +kernel
theorem dX11_of_130 : decode cX11_of 130 = .ok (.iload_n 1, 1) := by decide +kernel
theorem dX11_of_131 : decode cX11_of 131 = .ok (.laload, 1) := by decide +kernel
theorem dX11_of_132 : decode cX11_of 132 = .ok (.lreturn, 1) := by decide +kernel
theorem dX11_of_133 : decode cX11_of 133 = .ok (.aload_n 0, 1) := by decide +kernel
theorem dX11_of_134 : decode cX11_of 134 = .ok (.getfield 32, 3) := by decide +kernel
theorem dX11_of_137 : decode cX11_of 137 = .ok (.bipush 8, 2) := by decide +kernel
theorem dX11_of_139 : decode cX11_of 139 = .ok (.iload_n 1, 1) := by decide +kernel
theorem dX11_of_140 : decode cX11_of 140 = .ok (.imul, 1) := by decide +kernel
theorem dX11_of_141 : decode cX11_of 141 = .ok (.iload_n 3, 1) := by decide +kernel
theorem dX11_of_142 : decode cX11_of 142 = .ok (.iadd, 1) := by decide +kernel
theorem dX11_of_143 : decode cX11_of 143 = .ok (.laload, 1) := by decide +kernel
theorem dX11_of_144 : decode cX11_of 144 = .ok (.lreturn, 1) := by decide +kernel
def bX11_of_42 (N d : Nat)   (w : Wd)  : Option (Wd × Int64) :=
  some (w, -2)
set_option maxHeartbeats 4000000 in
theorem kX11_of_42 {V : Ev} {p : Program} {l : Launch} {e : Env} {N d : Nat} {s : State} {m : MethodId} {args : Array Value} {below : List Frame} {meth : Method} {c : Code} {z : Wd × Int64} (X : CX V p s m args meth c cX11_of 4 RX11 (some .long))    {w : Wd}  {H : Heap} {locs : List Loc} {ls : Array Slot} (h : bX11_of_42 N d   w  = some z) (hH : wH V (cM V) (AM V) s w H locs) (hl : lv_has ls 4 []) : W p l e (rmD (d + 1)) s m args below meth c H locs 0 0 (MQ below (CtL V (cM V) (AM V) z) args s 0 0 (AM V)) (F0 m 42 ls []) := by
  unfold bX11_of_42 at h
  obtain ⟨hx, hb, hml, hown, hg, hrt, hlk, hK⟩ := id X
  refine lv_ldc2 (pc := 42) hx hb hown (hg _ wL_1140) dX11_of_42 ?_
  exact r_lret (pc := 45) X hH h dX11_of_45
def bX11_of_97 (N d : Nat)   (w : Wd) (y0 : Int64) : Option (Wd × Int64) :=
  some (w, y0)
set_option maxHeartbeats 4000000 in
theorem kX11_of_97 {V : Ev} {p : Program} {l : Launch} {e : Env} {N d : Nat} {s : State} {m : MethodId} {args : Array Value} {below : List Frame} {meth : Method} {c : Code} {z : Wd × Int64} (X : CX V p s m args meth c cX11_of 4 RX11 (some .long))    {w : Wd} {y0 : Int64} {H : Heap} {locs : List Loc} {ls : Array Slot} (h : bX11_of_97 N d   w y0 = some z) (hH : wH V (cM V) (AM V) s w H locs) (hl : lv_has ls 4 []) : W p l e (rmD (d + 1)) s m args below meth c H locs 0 0 (MQ below (CtL V (cM V) (AM V) z) args s 0 0 (AM V)) (F0 m 97 ls [.long y0]) := by
  unfold bX11_of_97 at h
  obtain ⟨hx, hb, hml, hown, hg, hrt, hlk, hK⟩ := id X
  exact r_lret (pc := 97) X hH h dX11_of_97
def bX11_of_118 (N d : Nat)   (w : Wd) (y0 : Int64) : Option (Wd × Int64) :=
  some (w, y0)
set_option maxHeartbeats 4000000 in
theorem kX11_of_118 {V : Ev} {p : Program} {l : Launch} {e : Env} {N d : Nat} {s : State} {m : MethodId} {args : Array Value} {below : List Frame} {meth : Method} {c : Code} {z : Wd × Int64} (X : CX V p s m args meth c cX11_of 4 RX11 (some .long))    {w : Wd} {y0 : Int64} {H : Heap} {locs : List Loc} {ls : Array Slot} (h : bX11_of_118 N d   w y0 = some z) (hH : wH V (cM V) (AM V) s w H locs) (hl : lv_has ls 4 []) : W p l e (rmD (d + 1)) s m args below meth c H locs 0 0 (MQ below (CtL V (cM V) (AM V) z) args s 0 0 (AM V)) (F0 m 118 ls [.long y0]) := by
  unfold bX11_of_118 at h
  obtain ⟨hx, hb, hml, hown, hg, hrt, hlk, hK⟩ := id X
  exact r_lret (pc := 118) X hH h dX11_of_118
def bX11_of_46 (N d : Nat)   (w : Wd) (x1 : Int32) (x2 : Int32) (x3 : Int32) : Option (Wd × Int64) :=
  if x2 = 0 then (
    c_cl (eX11_isVariable N d w x1) fun w6 v7 =>
    if v7 = 0 then (
      c_ld w6 3 1000 x1 fun v8 =>
      bX11_of_97 N d   w6 (Int32.toInt64 v8)
    ) else (
      bX11_of_97 N d   w6 (-1)
    )
  ) else (
    if x2 = 1 then (
      c_cl (eX11_isVariable N d w x1) fun w9 v10 =>
      if v10 = 0 then (
        bX11_of_118 N d   w9 (-1)
      ) else (
        c_cl (eX11_variableOf N d w9 x1) fun w11 v12 =>
        bX11_of_118 N d   w11 (Int32.toInt64 v12)
      )
    ) else (
      if x2 = 2 then (
        c_ll w 6 1000 x1 fun v13 =>
        some (w, v13)
      ) else (
        if x2 = 3 then (
          c_ll w 7 1000 x1 fun v14 =>
          some (w, v14)
        ) else (
          c_ll w 8 8000 ((8 * x1) + x3) fun v15 =>
          some (w, v15)
        )
      )
    )
  )
set_option maxHeartbeats 4000000 in
theorem kX11_of_46 {V : Ev} {p : Program} {l : Launch} {e : Env} {N d : Nat} {s : State} {m : MethodId} {args : Array Value} {below : List Frame} {meth : Method} {c : Code} {z : Wd × Int64} (X : CX V p s m args meth c cX11_of 4 RX11 (some .long))    {w : Wd} {x1 : Int32} {x2 : Int32} {x3 : Int32} {H : Heap} {locs : List Loc} {ls : Array Slot} (h : bX11_of_46 N d   w x1 x2 x3 = some z) (hH : wH V (cM V) (AM V) s w H locs) (hl : lv_has ls 4 [(0, .ref (V.2.2 0)), (1, .int x1), (2, .int x2), (3, .int x3)]) : W p l e (rmD (d + 1)) s m args below meth c H locs 0 0 (MQ below (CtL V (cM V) (AM V) z) args s 0 0 (AM V)) (F0 m 46 ls []) := by
  unfold bX11_of_46 at h
  obtain ⟨hx, hb, hml, hown, hg, hrt, hlk, hK⟩ := id X
  refine lv_iload_n (pc := 46) hx hb dX11_of_46 rfl (lv_at hl 2 rfl) ?_
  refine b_sw h (fun q0 h => ?_) (fun q0 h => ?_)
  · refine lv_tableIn (pc := 47) (tgt := 76) hx hb dX11_of_47 (by rw [q0]; decide) (by rw [q0]; decide) (by rw [q0]; rfl) (by decide) ?_
    refine lv_aload_n (pc := 76) hx hb dX11_of_76 rfl (lv_at hl 0 rfl) ?_
    refine lv_iload_n (pc := 77) hx hb dX11_of_77 rfl (lv_at hl 1 rfl) ?_
    refine r_cvI (pc := 78) (As := [.int x1]) (rest := []) X hH (fun x hx => mX11_isVariable hx) cw_X11_117 (heM_0 V w) rfl rfl rfl (Nat.le_of_ble_eq_true rfl) hl.1 h dX11_of_78 (fun w6 v7 H locs h hH => ?_)
    refine b_if_eq (pc := 81) (tgt := 90) hx hb h dX11_of_81 (by decide) (fun h => ?_) (fun h => ?_)
    · refine lv_aload_n (pc := 90) hx hb dX11_of_90 rfl (lv_at hl 0 rfl) ?_
      refine gM_X11_16_0 (pc := 91) X hH dX11_of_91 ?_
      refine lv_iload_n (pc := 94) hx hb dX11_of_94 rfl (lv_at hl 1 rfl) ?_
      refine r_ld (pc := 95) X (heM_3 V w6) hH h dX11_of_95 (fun v8 h => ?_)
      refine lv_i2l (pc := 96) hx hb dX11_of_96 rfl ?_
      exact kX11_of_97 X   h hH (lv_sub hl [] rfl)
    · refine lv_ldc2 (pc := 84) hx hb hown (hg _ wL_1141) dX11_of_84 ?_
      refine lv_goto (pc := 87) (tgt := 97) hx hb dX11_of_87 (by decide) ?_
      exact kX11_of_97 X   h hH (lv_sub hl [] rfl)
  refine b_sw h (fun q1 h => ?_) (fun q1 h => ?_)
  · refine lv_tableIn (pc := 47) (tgt := 98) hx hb dX11_of_47 (by rw [q1]; decide) (by rw [q1]; decide) (by rw [q1]; rfl) (by decide) ?_
    refine lv_aload_n (pc := 98) hx hb dX11_of_98 rfl (lv_at hl 0 rfl) ?_
    refine lv_iload_n (pc := 99) hx hb dX11_of_99 rfl (lv_at hl 1 rfl) ?_
    refine r_cvI (pc := 100) (As := [.int x1]) (rest := []) X hH (fun x hx => mX11_isVariable hx) cw_X11_117 (heM_0 V w) rfl rfl rfl (Nat.le_of_ble_eq_true rfl) hl.1 h dX11_of_100 (fun w9 v10 H locs h hH => ?_)
    refine b_if_eq (pc := 103) (tgt := 115) hx hb h dX11_of_103 (by decide) (fun h => ?_) (fun h => ?_)
    · refine lv_ldc2 (pc := 115) hx hb hown (hg _ wL_1141) dX11_of_115 ?_
      exact kX11_of_118 X   h hH (lv_sub hl [] rfl)
    · refine lv_aload_n (pc := 106) hx hb dX11_of_106 rfl (lv_at hl 0 rfl) ?_
      refine lv_iload_n (pc := 107) hx hb dX11_of_107 rfl (lv_at hl 1 rfl) ?_
      refine r_cvI (pc := 108) (As := [.int x1]) (rest := []) X hH (fun x hx => mX11_variableOf hx) cw_X11_136 (heM_0 V w9) rfl rfl rfl (Nat.le_of_ble_eq_true rfl) hl.1 h dX11_of_108 (fun w11 v12 H locs h hH => ?_)
      refine lv_i2l (pc := 111) hx hb dX11_of_111 rfl ?_
      refine lv_goto (pc := 112) (tgt := 118) hx hb dX11_of_112 (by decide) ?_
      exact kX11_of_118 X   h hH (lv_sub hl [] rfl)
  refine b_sw h (fun q2 h => ?_) (fun q2 h => ?_)
  · refine lv_tableIn (pc := 47) (tgt := 119) hx hb dX11_of_47 (by rw [q2]; decide) (by rw [q2]; decide) (by rw [q2]; rfl) (by decide) ?_
    refine lv_aload_n (pc := 119) hx hb dX11_of_119 rfl (lv_at hl 0 rfl) ?_
    refine gM_X11_25_0 (pc := 120) X hH dX11_of_120 ?_
    refine lv_iload_n (pc := 123) hx hb dX11_of_123 rfl (lv_at hl 1 rfl) ?_
    refine r_ll (pc := 124) X (heM_6 V w) hH h dX11_of_124 (fun v13 h => ?_)
    exact r_lret (pc := 125) X hH h dX11_of_125
  refine b_sw h (fun q3 h => ?_) (fun q3 h => ?_)
  · refine lv_tableIn (pc := 47) (tgt := 126) hx hb dX11_of_47 (by rw [q3]; decide) (by rw [q3]; decide) (by rw [q3]; rfl) (by decide) ?_
    refine lv_aload_n (pc := 126) hx hb dX11_of_126 rfl (lv_at hl 0 rfl) ?_
    refine gM_X11_29_0 (pc := 127) X hH dX11_of_127 ?_
    refine lv_iload_n (pc := 130) hx hb dX11_of_130 rfl (lv_at hl 1 rfl) ?_
    refine r_ll (pc := 131) X (heM_7 V w) hH h dX11_of_131 (fun v14 h => ?_)
    exact r_lret (pc := 132) X hH h dX11_of_132
  have qd : x2.toInt < 0 ∨ 3 < x2.toInt := by have := lv_neT q0 (show (0 : Int32).toInt = 0 from rfl); have := lv_neT q1 (show (1 : Int32).toInt = 1 from rfl); have := lv_neT q2 (show (2 : Int32).toInt = 2 from rfl); have := lv_neT q3 (show (3 : Int32).toInt = 3 from rfl); omega
  refine lv_tableOut (pc := 47) (tgt := 133) hx hb dX11_of_47 qd (by decide) ?_
  refine lv_aload_n (pc := 133) hx hb dX11_of_133 rfl (lv_at hl 0 rfl) ?_
  refine gM_X11_32_0 (pc := 134) X hH dX11_of_134 ?_
  refine lv_bipush (pc := 137) (v := 8) hx hb dX11_of_137 (by decide) ?_
  refine lv_iload_n (pc := 139) hx hb dX11_of_139 rfl (lv_at hl 1 rfl) ?_
  refine lv_imul (pc := 140) hx hb dX11_of_140 ?_
  refine lv_iload_n (pc := 141) hx hb dX11_of_141 rfl (lv_at hl 3 rfl) ?_
  refine lv_iadd (pc := 142) hx hb dX11_of_142 ?_
  refine r_ll (pc := 143) X (heM_8 V w) hH h dX11_of_143 (fun v15 h => ?_)
  exact r_lret (pc := 144) X hH h dX11_of_144
def bX11_of_0 (N d : Nat)   (w : Wd) (x1 : Int32) (x2 : Int32) (x3 : Int32) : Option (Wd × Int64) :=
  c_pi w 0 0 fun w1 =>
  c_cl (eX11_isTerm N d w1 x1) fun w2 v3 =>
  if v3 = 0 then (
    bX11_of_42 N d   w2 
  ) else (
    c_cl (eX11_in N d w2 (Int32.toInt64 x2) 0 4) fun w4 v5 =>
    if v5 = 0 then (
      bX11_of_42 N d   w4 
    ) else (
      if x2 = 4 then (
        c_cl (eX11_in N d w4 (Int32.toInt64 x3) 0 7) fun w16 v17 =>
        if v17 = 0 then (
          bX11_of_42 N d   w16 
        ) else (
          bX11_of_46 N d   w16 x1 x2 x3
        )
      ) else (
        bX11_of_46 N d   w4 x1 x2 x3
      )
    )
  )
set_option maxHeartbeats 4000000 in
theorem kX11_of_0 {V : Ev} {p : Program} {l : Launch} {e : Env} {N d : Nat} {s : State} {m : MethodId} {args : Array Value} {below : List Frame} {meth : Method} {c : Code} {z : Wd × Int64} (X : CX V p s m args meth c cX11_of 4 RX11 (some .long))    {w : Wd} {x1 : Int32} {x2 : Int32} {x3 : Int32} {H : Heap} {locs : List Loc} {ls : Array Slot} (h : bX11_of_0 N d   w x1 x2 x3 = some z) (hH : wH V (cM V) (AM V) s w H locs) (hl : lv_has ls 4 [(0, .ref (V.2.2 0)), (1, .int x1), (2, .int x2), (3, .int x3)]) : W p l e (rmD (d + 1)) s m args below meth c H locs 0 0 (MQ below (CtL V (cM V) (AM V) z) args s 0 0 (AM V)) (F0 m 0 ls []) := by
  unfold bX11_of_0 at h
  obtain ⟨hx, hb, hml, hown, hg, hrt, hlk, hK⟩ := id X
  refine lv_aload_n (pc := 0) hx hb dX11_of_0 rfl (lv_at hl 0 rfl) ?_
  refine lv_iconst (pc := 1) (v := 0) hx hb dX11_of_1 (by decide) ?_
  refine pM_X11_111_0 (pc := 2) X hH h dX11_of_2 (fun w1 H locs h hH => ?_)
  refine lv_aload_n (pc := 5) hx hb dX11_of_5 rfl (lv_at hl 0 rfl) ?_
  refine lv_iload_n (pc := 6) hx hb dX11_of_6 rfl (lv_at hl 1 rfl) ?_
  refine r_cvI (pc := 7) (As := [.int x1]) (rest := []) X hH (fun x hx => mX11_isTerm hx) cw_X11_206 (heM_0 V w1) rfl rfl rfl (Nat.le_of_ble_eq_true rfl) hl.1 h dX11_of_7 (fun w2 v3 H locs h hH => ?_)
  refine b_if_eq (pc := 10) (tgt := 42) hx hb h dX11_of_10 (by decide) (fun h => ?_) (fun h => ?_)
  · exact kX11_of_42 X   h hH (lv_sub hl [] rfl)
  · refine lv_iload_n (pc := 13) hx hb dX11_of_13 rfl (lv_at hl 2 rfl) ?_
    refine lv_i2l (pc := 14) hx hb dX11_of_14 rfl ?_
    refine lv_lconst (pc := 15) (v := 0) hx hb dX11_of_15 (by decide) ?_
    refine lv_ldc2 (pc := 16) hx hb hown (hg _ wL_1271) dX11_of_16 ?_
    refine r_csI (pc := 19) (As := [.long (Int32.toInt64 x2), .long 0, .long 4]) (rest := []) X hH (fun x hx => mX11_in hx) cs_X11_132 rfl rfl (Nat.le_of_ble_eq_true rfl) hl.1 h dX11_of_19 (fun w4 v5 H locs h hH => ?_)
    refine b_if_eq (pc := 22) (tgt := 42) hx hb h dX11_of_22 (by decide) (fun h => ?_) (fun h => ?_)
    · exact kX11_of_42 X   h hH (lv_sub hl [] rfl)
    · refine lv_iload_n (pc := 25) hx hb dX11_of_25 rfl (lv_at hl 2 rfl) ?_
      refine lv_iconst (pc := 26) (v := 4) hx hb dX11_of_26 (by decide) ?_
      refine b_icmp_ne (pc := 27) (tgt := 46) hx hb h dX11_of_27 (by decide) (fun h => ?_) (fun h => ?_)
      · exact kX11_of_46 X   h hH (lv_sub hl [0, 1, 2, 3] rfl)
      · refine lv_iload_n (pc := 30) hx hb dX11_of_30 rfl (lv_at hl 3 rfl) ?_
        refine lv_i2l (pc := 31) hx hb dX11_of_31 rfl ?_
        refine lv_lconst (pc := 32) (v := 0) hx hb dX11_of_32 (by decide) ?_
        refine lv_ldc2 (pc := 33) hx hb hown (hg _ wL_1152) dX11_of_33 ?_
        refine r_csI (pc := 36) (As := [.long (Int32.toInt64 x3), .long 0, .long 7]) (rest := []) X hH (fun x hx => mX11_in hx) cs_X11_132 rfl rfl (Nat.le_of_ble_eq_true rfl) hl.1 h dX11_of_36 (fun w16 v17 H locs h hH => ?_)
        refine b_if_ne (pc := 39) (tgt := 46) hx hb h dX11_of_39 (by decide) (fun h => ?_) (fun h => ?_)
        · exact kX11_of_46 X   h hH (lv_sub hl [0, 1, 2, 3] rfl)
        · exact kX11_of_42 X   h hH (lv_sub hl [] rfl)
def eX11_of (N : Nat) : Nat → Wd → Int32 → Int32 → Int32 → Option (Wd × Int64)
  | 0 => fun _ _ _ _ => none
  | d + 1 => fun w x1 x2 x3 => bX11_of_0 N d  w x1 x2 x3
set_option maxHeartbeats 4000000 in
set_option maxRecDepth 20000 in
theorem mX11_of {l : Launch} {V : Ev} {N d : Nat} {w : Wd} {x1 : Int32} {x2 : Int32} {x3 : Int32} {z : Wd × Int64} (h : eX11_of N d w x1 x2 x3 = some z) : MetL l V (cM V) (AM V) yX11_of cX11_of 4 (some .long) d [.ref (V.2.2 0), .int x1, .int x2, .int x3] w z := by
  cases d with
  | zero => exact c_none h
  | succ d =>
    refine Met.ofW (cc := cX11_of) (maxL := 4) (ret := (some .long)) (by decide) rfl ?_
    intro p e s m args below meth c s₁ B hml hv
    obtain ⟨rfl, hP, hD, hK⟩ := hv
    have hts := atoms_spec (ws := .code yX11_of cX11_of 4 (some .long) :: gG) B.pre
    have X : CX V p s m ([.ref (V.2.2 0), .int x1, .int x2, .int x3] : List Value).toArray meth c cX11_of 4 RX11 (some .long) := ⟨B.exec, B.bytes, hml, findClass_of_methodNamed B.named, fun w hw => hts w (List.mem_cons_of_mem _ hw), B.returns, B.notSynchronized, hK⟩
    have hl := lv_entry ([.ref (V.2.2 0), .int x1, .int x2, .int x3] : List Value) (n := 4) (Nat.le_of_ble_eq_true rfl)
    rw [lg_entry_eq]
    generalize (lg_sl ([.ref (V.2.2 0), .int x1, .int x2, .int x3] : List Value) ++ List.replicate (4 - (lg_sl ([.ref (V.2.2 0), .int x1, .int x2, .int x3] : List Value)).length) Slot.unset).toArray = ls at hl ⊢
    have hl : lv_has ls 4 [(0, .ref (V.2.2 0)), (1, .int x1), (2, .int x2), (3, .int x3)] := hl
    exact kX11_of_0 (N := N) X  h ⟨hP, hD, va_S.rf⟩ hl
theorem dX11_part_0 : decode cX11_part 0 = .ok (.aload_n 0, 1) := by decide +kernel
theorem dX11_part_1 : decode cX11_part 1 = .ok (.iconst 0, 1) := by decide +kernel
theorem dX11_part_2 : decode cX11_part 2 = .ok (.putfield 111, 3) := by decide +kernel
theorem dX11_part_5 : decode cX11_part 5 = .ok (.aload_n 0, 1) := by decide +kernel
theorem dX11_part_6 : decode cX11_part 6 = .ok (.iload_n 1, 1) := by decide +kernel
theorem dX11_part_7 : decode cX11_part 7 = .ok (.invokevirtual 206, 3) := by decide +kernel
theorem dX11_part_10 : decode cX11_part 10 = .ok (.ifCond .ne 6, 3) := by decide +kernel
theorem dX11_part_13 : decode cX11_part 13 = .ok (.bipush (-2), 2) := by decide +kernel
theorem dX11_part_15 : decode cX11_part 15 = .ok (.ireturn, 1) := by decide +kernel
theorem dX11_part_16 : decode cX11_part 16 = .ok (.aload_n 0, 1) := by decide +kernel
theorem dX11_part_17 : decode cX11_part 17 = .ok (.iload_n 2, 1) := by decide +kernel
theorem dX11_part_18 : decode cX11_part 18 = .ok (.ifCond .lt 16, 3) := by decide +kernel
theorem dX11_part_21 : decode cX11_part 21 = .ok (.iload_n 2, 1) := by decide +kernel
theorem dX11_part_22 : decode cX11_part 22 = .ok (.aload_n 0, 1) := by decide +kernel
theorem dX11_part_23 : decode cX11_part 23 = .ok (.iload_n 1, 1) := by decide +kernel
theorem dX11_part_24 : decode cX11_part 24 = .ok (.invokevirtual 140, 3) := by decide +kernel
theorem dX11_part_27 : decode cX11_part 27 = .ok (.if_icmp .ge 7, 3) := by decide +kernel
theorem dX11_part_30 : decode cX11_part 30 = .ok (.iconst 0, 1) := by decide +kernel
theorem dX11_part_31 : decode cX11_part 31 = .ok (.goto 4, 3) := by decide +kernel
theorem dX11_part_34 : decode cX11_part 34 = .ok (.iconst 1, 1) := by decide +kernel
theorem dX11_part_35 : decode cX11_part 35 = .ok (.putfield 111, 3) := by decide +kernel
theorem dX11_part_38 : decode cX11_part 38 = .ok (.aload_n 0, 1) := by decide +kernel
theorem dX11_part_39 : decode cX11_part 39 = .ok (.getfield 111, 3) := by decide +kernel
theorem dX11_part_42 : decode cX11_part 42 = .ok (.ifCond .le 7, 3) := by decide +kernel
theorem dX11_part_45 : decode cX11_part 45 = .ok (.iconst 0, 1) := by decide +kernel
theorem dX11_part_46 : decode cX11_part 46 = .ok (.goto 9, 3) := by decide +kernel
theorem dX11_part_49 : decode cX11_part 49 = .ok (.aload_n 0, 1) := by decide +kernel
theorem dX11_part_50 : decode cX11_part 50 = .ok (.iload_n 1, 1) := by decide +kernel
theorem dX11_part_51 : decode cX11_part 51 = .ok (.iload_n 2, 1) := by decide +kernel
theorem dX11_part_52 : decode cX11_part 52 = .ok (.invokevirtual 143, 3) := by decide +kernel
theorem dX11_part_55 : decode cX11_part 55 = .ok (.ireturn, 1) := by decide +kernel
def bX11_part_55 (N d : Nat)   (w : Wd) (y0 : Int32) : Option (Wd × Int32) :=
  some (w, y0)
set_option maxHeartbeats 4000000 in
theorem kX11_part_55 {V : Ev} {p : Program} {l : Launch} {e : Env} {N d : Nat} {s : State} {m : MethodId} {args : Array Value} {below : List Frame} {meth : Method} {c : Code} {z : Wd × Int32} (X : CX V p s m args meth c cX11_part 3 RX11 (some .int))    {w : Wd} {y0 : Int32} {H : Heap} {locs : List Loc} {ls : Array Slot} (h : bX11_part_55 N d   w y0 = some z) (hH : wH V (cM V) (AM V) s w H locs) (hl : lv_has ls 3 []) : W p l e (rmD (d + 1)) s m args below meth c H locs 0 0 (MQ below (CtI V (cM V) (AM V) z) args s 0 0 (AM V)) (F0 m 55 ls [.int y0]) := by
  unfold bX11_part_55 at h
  obtain ⟨hx, hb, hml, hown, hg, hrt, hlk, hK⟩ := id X
  exact r_iret (pc := 55) X hH h dX11_part_55
def bX11_part_35 (N d : Nat)   (w : Wd) (x1 : Int32) (x2 : Int32) (y1 : Int32) : Option (Wd × Int32) :=
  c_pi w 0 y1 fun w4 =>
  if (sI w4 0) ≤ 0 then (
    c_cl (eX11_partOf N d w4 x1 x2) fun w5 v6 =>
    bX11_part_55 N d   w5 v6
  ) else (
    bX11_part_55 N d   w4 0
  )
set_option maxHeartbeats 4000000 in
theorem kX11_part_35 {V : Ev} {p : Program} {l : Launch} {e : Env} {N d : Nat} {s : State} {m : MethodId} {args : Array Value} {below : List Frame} {meth : Method} {c : Code} {z : Wd × Int32} (X : CX V p s m args meth c cX11_part 3 RX11 (some .int))    {w : Wd} {x1 : Int32} {x2 : Int32} {y1 : Int32} {H : Heap} {locs : List Loc} {ls : Array Slot} (h : bX11_part_35 N d   w x1 x2 y1 = some z) (hH : wH V (cM V) (AM V) s w H locs) (hl : lv_has ls 3 [(0, .ref (V.2.2 0)), (1, .int x1), (2, .int x2)]) : W p l e (rmD (d + 1)) s m args below meth c H locs 0 0 (MQ below (CtI V (cM V) (AM V) z) args s 0 0 (AM V)) (F0 m 35 ls [.int y1, .ref (V.2.2 0)]) := by
  unfold bX11_part_35 at h
  obtain ⟨hx, hb, hml, hown, hg, hrt, hlk, hK⟩ := id X
  refine pM_X11_111_0 (pc := 35) X hH h dX11_part_35 (fun w4 H locs h hH => ?_)
  refine lv_aload_n (pc := 38) hx hb dX11_part_38 rfl (lv_at hl 0 rfl) ?_
  refine gM_X11_111_0 (pc := 39) X hH dX11_part_39 ?_
  refine b_if_le (pc := 42) (tgt := 49) hx hb h dX11_part_42 (by decide) (fun h => ?_) (fun h => ?_)
  · refine lv_aload_n (pc := 49) hx hb dX11_part_49 rfl (lv_at hl 0 rfl) ?_
    refine lv_iload_n (pc := 50) hx hb dX11_part_50 rfl (lv_at hl 1 rfl) ?_
    refine lv_iload_n (pc := 51) hx hb dX11_part_51 rfl (lv_at hl 2 rfl) ?_
    refine r_cvI (pc := 52) (As := [.int x1, .int x2]) (rest := []) X hH (fun x hx => mX11_partOf hx) cw_X11_143 (heM_0 V w4) rfl rfl rfl (Nat.le_of_ble_eq_true rfl) hl.1 h dX11_part_52 (fun w5 v6 H locs h hH => ?_)
    exact kX11_part_55 X   h hH (lv_sub hl [] rfl)
  · refine lv_iconst (pc := 45) (v := 0) hx hb dX11_part_45 (by decide) ?_
    refine lv_goto (pc := 46) (tgt := 55) hx hb dX11_part_46 (by decide) ?_
    exact kX11_part_55 X   h hH (lv_sub hl [] rfl)
def bX11_part_34 (N d : Nat)   (w : Wd) (x1 : Int32) (x2 : Int32) : Option (Wd × Int32) :=
  bX11_part_35 N d   w x1 x2 1
set_option maxHeartbeats 4000000 in
theorem kX11_part_34 {V : Ev} {p : Program} {l : Launch} {e : Env} {N d : Nat} {s : State} {m : MethodId} {args : Array Value} {below : List Frame} {meth : Method} {c : Code} {z : Wd × Int32} (X : CX V p s m args meth c cX11_part 3 RX11 (some .int))    {w : Wd} {x1 : Int32} {x2 : Int32} {H : Heap} {locs : List Loc} {ls : Array Slot} (h : bX11_part_34 N d   w x1 x2 = some z) (hH : wH V (cM V) (AM V) s w H locs) (hl : lv_has ls 3 [(0, .ref (V.2.2 0)), (1, .int x1), (2, .int x2)]) : W p l e (rmD (d + 1)) s m args below meth c H locs 0 0 (MQ below (CtI V (cM V) (AM V) z) args s 0 0 (AM V)) (F0 m 34 ls [.ref (V.2.2 0)]) := by
  unfold bX11_part_34 at h
  obtain ⟨hx, hb, hml, hown, hg, hrt, hlk, hK⟩ := id X
  refine lv_iconst (pc := 34) (v := 1) hx hb dX11_part_34 (by decide) ?_
  exact kX11_part_35 X   h hH (lv_sub hl [0, 1, 2] rfl)
def bX11_part_0 (N d : Nat)   (w : Wd) (x1 : Int32) (x2 : Int32) : Option (Wd × Int32) :=
  c_pi w 0 0 fun w1 =>
  c_cl (eX11_isTerm N d w1 x1) fun w2 v3 =>
  if v3 = 0 then (
    some (w2, -2)
  ) else (
    if x2 < 0 then (
      bX11_part_34 N d   w2 x1 x2
    ) else (
      c_cl (eX11_parts N d w2 x1) fun w7 v8 =>
      if v8 ≤ x2 then (
        bX11_part_34 N d   w7 x1 x2
      ) else (
        bX11_part_35 N d   w7 x1 x2 0
      )
    )
  )
set_option maxHeartbeats 4000000 in
theorem kX11_part_0 {V : Ev} {p : Program} {l : Launch} {e : Env} {N d : Nat} {s : State} {m : MethodId} {args : Array Value} {below : List Frame} {meth : Method} {c : Code} {z : Wd × Int32} (X : CX V p s m args meth c cX11_part 3 RX11 (some .int))    {w : Wd} {x1 : Int32} {x2 : Int32} {H : Heap} {locs : List Loc} {ls : Array Slot} (h : bX11_part_0 N d   w x1 x2 = some z) (hH : wH V (cM V) (AM V) s w H locs) (hl : lv_has ls 3 [(0, .ref (V.2.2 0)), (1, .int x1), (2, .int x2)]) : W p l e (rmD (d + 1)) s m args below meth c H locs 0 0 (MQ below (CtI V (cM V) (AM V) z) args s 0 0 (AM V)) (F0 m 0 ls []) := by
  unfold bX11_part_0 at h
  obtain ⟨hx, hb, hml, hown, hg, hrt, hlk, hK⟩ := id X
  refine lv_aload_n (pc := 0) hx hb dX11_part_0 rfl (lv_at hl 0 rfl) ?_
  refine lv_iconst (pc := 1) (v := 0) hx hb dX11_part_1 (by decide) ?_
  refine pM_X11_111_0 (pc := 2) X hH h dX11_part_2 (fun w1 H locs h hH => ?_)
  refine lv_aload_n (pc := 5) hx hb dX11_part_5 rfl (lv_at hl 0 rfl) ?_
  refine lv_iload_n (pc := 6) hx hb dX11_part_6 rfl (lv_at hl 1 rfl) ?_
  refine r_cvI (pc := 7) (As := [.int x1]) (rest := []) X hH (fun x hx => mX11_isTerm hx) cw_X11_206 (heM_0 V w1) rfl rfl rfl (Nat.le_of_ble_eq_true rfl) hl.1 h dX11_part_7 (fun w2 v3 H locs h hH => ?_)
  refine b_if_ne (pc := 10) (tgt := 16) hx hb h dX11_part_10 (by decide) (fun h => ?_) (fun h => ?_)
  · refine lv_aload_n (pc := 16) hx hb dX11_part_16 rfl (lv_at hl 0 rfl) ?_
    refine lv_iload_n (pc := 17) hx hb dX11_part_17 rfl (lv_at hl 2 rfl) ?_
    refine b_if_lt (pc := 18) (tgt := 34) hx hb h dX11_part_18 (by decide) (fun h => ?_) (fun h => ?_)
    · exact kX11_part_34 X   h hH (lv_sub hl [0, 1, 2] rfl)
    · refine lv_iload_n (pc := 21) hx hb dX11_part_21 rfl (lv_at hl 2 rfl) ?_
      refine lv_aload_n (pc := 22) hx hb dX11_part_22 rfl (lv_at hl 0 rfl) ?_
      refine lv_iload_n (pc := 23) hx hb dX11_part_23 rfl (lv_at hl 1 rfl) ?_
      refine r_cvI (pc := 24) (As := [.int x1]) (rest := [.int x2, .ref (V.2.2 0)]) X hH (fun x hx => mX11_parts hx) cw_X11_140 (heM_0 V w2) rfl rfl rfl (Nat.le_of_ble_eq_true rfl) hl.1 h dX11_part_24 (fun w7 v8 H locs h hH => ?_)
      refine b_icmp_ge (pc := 27) (tgt := 34) hx hb h dX11_part_27 (by decide) (fun h => ?_) (fun h => ?_)
      · exact kX11_part_34 X   h hH (lv_sub hl [0, 1, 2] rfl)
      · refine lv_iconst (pc := 30) (v := 0) hx hb dX11_part_30 (by decide) ?_
        refine lv_goto (pc := 31) (tgt := 35) hx hb dX11_part_31 (by decide) ?_
        exact kX11_part_35 X   h hH (lv_sub hl [0, 1, 2] rfl)
  · refine lv_bipush (pc := 13) (v := -2) hx hb dX11_part_13 (by decide) ?_
    exact r_iret (pc := 15) X hH h dX11_part_15
def eX11_part (N : Nat) : Nat → Wd → Int32 → Int32 → Option (Wd × Int32)
  | 0 => fun _ _ _ => none
  | d + 1 => fun w x1 x2 => bX11_part_0 N d  w x1 x2
set_option maxHeartbeats 4000000 in
set_option maxRecDepth 20000 in
theorem mX11_part {l : Launch} {V : Ev} {N d : Nat} {w : Wd} {x1 : Int32} {x2 : Int32} {z : Wd × Int32} (h : eX11_part N d w x1 x2 = some z) : MetI l V (cM V) (AM V) yX11_part cX11_part 3 (some .int) d [.ref (V.2.2 0), .int x1, .int x2] w z := by
  cases d with
  | zero => exact c_none h
  | succ d =>
    refine Met.ofW (cc := cX11_part) (maxL := 3) (ret := (some .int)) (by decide) rfl ?_
    intro p e s m args below meth c s₁ B hml hv
    obtain ⟨rfl, hP, hD, hK⟩ := hv
    have hts := atoms_spec (ws := .code yX11_part cX11_part 3 (some .int) :: gG) B.pre
    have X : CX V p s m ([.ref (V.2.2 0), .int x1, .int x2] : List Value).toArray meth c cX11_part 3 RX11 (some .int) := ⟨B.exec, B.bytes, hml, findClass_of_methodNamed B.named, fun w hw => hts w (List.mem_cons_of_mem _ hw), B.returns, B.notSynchronized, hK⟩
    have hl := lv_entry ([.ref (V.2.2 0), .int x1, .int x2] : List Value) (n := 3) (Nat.le_of_ble_eq_true rfl)
    rw [lg_entry_eq]
    generalize (lg_sl ([.ref (V.2.2 0), .int x1, .int x2] : List Value) ++ List.replicate (3 - (lg_sl ([.ref (V.2.2 0), .int x1, .int x2] : List Value)).length) Slot.unset).toArray = ls at hl ⊢
    have hl : lv_has ls 3 [(0, .ref (V.2.2 0)), (1, .int x1), (2, .int x2)] := hl
    exact kX11_part_0 (N := N) X  h ⟨hP, hD, va_S.rf⟩ hl
theorem dX11_count_0 : decode cX11_count 0 = .ok (.aload_n 0, 1) := by decide +kernel
theorem dX11_count_1 : decode cX11_count 1 = .ok (.iconst 0, 1) := by decide +kernel
theorem dX11_count_2 : decode cX11_count 2 = .ok (.putfield 111, 3) := by decide +kernel
theorem dX11_count_5 : decode cX11_count 5 = .ok (.iload_n 1, 1) := by decide +kernel
theorem dX11_count_6 : decode cX11_count 6 = .ok (.tableswitch 59 0 4 #[34, 39, 44, 49, 54], 34) := by decide +kernel
theorem dX11_count_40 : decode cX11_count 40 = .ok (.aload_n 0, 1) := by decide +kernel
theorem dX11_count_41 : decode cX11_count 41 = .ok (.getfield 226, 3) := by decide +kernel
theorem dX11_count_44 : decode cX11_count 44 = .ok (.ireturn, 1) := by decide +kernel
theorem dX11_count_45 : decode cX11_count 45 = .ok (.aload_n 0, 1) := by decide +kernel
theorem dX11_count_46 : decode cX11_count 46 = .ok (.getfield 125, 3) := by decide +kernel
theorem dX11_count_49 : decode cX11_count 49 = .ok (.ireturn, 1) := by decide +kernel
theorem dX11_count_50 : decode cX11_count 50 = .ok (.aload_n 0, 1) := by decide +kernel
theorem dX11_count_51 : decode cX11_count 51 = .ok (.getfield 158, 3) := by decide +kernel
theorem dX11_count_54 : decode cX11_count 54 = .ok (.ireturn, 1) := by decide +kernel
theorem dX11_count_55 : decode cX11_count 55 = .ok (.aload_n 0, 1) := by decide +kernel
theorem dX11_count_56 : decode cX11_count 56 = .ok (.getfield 283, 3) := by decide +kernel
theorem dX11_count_59 : decode cX11_count 59 = .ok (.ireturn, 1) := by decide +kernel
theorem dX11_count_60 : decode cX11_count 60 = .ok (.aload_n 0, 1) := by decide +kernel
theorem dX11_count_61 : decode cX11_count 61 = .ok (.getfield 291, 3) := by decide +kernel
theorem dX11_count_64 : decode cX11_count 64 = .ok (.ireturn, 1) := by decide +kernel
theorem dX11_count_65 : decode cX11_count 65 = .ok (.bipush (-2), 2) := by decide +kernel
theorem dX11_count_67 : decode cX11_count 67 = .ok (.ireturn, 1) := by decide +kernel
def bX11_count_0 (N d : Nat)   (w : Wd) (x1 : Int32) : Option (Wd × Int32) :=
  c_pi w 0 0 fun w1 =>
  if x1 = 0 then (
    some (w1, sI w1 1)
  ) else (
    if x1 = 1 then (
      some (w1, sI w1 2)
    ) else (
      if x1 = 2 then (
        some (w1, sI w1 3)
      ) else (
        if x1 = 3 then (
          some (w1, sI w1 13)
        ) else (
          if x1 = 4 then (
            some (w1, sI w1 15)
          ) else (
            some (w1, -2)
          )
        )
      )
    )
  )
set_option maxHeartbeats 4000000 in
theorem kX11_count_0 {V : Ev} {p : Program} {l : Launch} {e : Env} {N d : Nat} {s : State} {m : MethodId} {args : Array Value} {below : List Frame} {meth : Method} {c : Code} {z : Wd × Int32} (X : CX V p s m args meth c cX11_count 2 RX11 (some .int))    {w : Wd} {x1 : Int32} {H : Heap} {locs : List Loc} {ls : Array Slot} (h : bX11_count_0 N d   w x1 = some z) (hH : wH V (cM V) (AM V) s w H locs) (hl : lv_has ls 2 [(0, .ref (V.2.2 0)), (1, .int x1)]) : W p l e (rmD (d + 1)) s m args below meth c H locs 0 0 (MQ below (CtI V (cM V) (AM V) z) args s 0 0 (AM V)) (F0 m 0 ls []) := by
  unfold bX11_count_0 at h
  obtain ⟨hx, hb, hml, hown, hg, hrt, hlk, hK⟩ := id X
  refine lv_aload_n (pc := 0) hx hb dX11_count_0 rfl (lv_at hl 0 rfl) ?_
  refine lv_iconst (pc := 1) (v := 0) hx hb dX11_count_1 (by decide) ?_
  refine pM_X11_111_0 (pc := 2) X hH h dX11_count_2 (fun w1 H locs h hH => ?_)
  refine lv_iload_n (pc := 5) hx hb dX11_count_5 rfl (lv_at hl 1 rfl) ?_
  refine b_sw h (fun q0 h => ?_) (fun q0 h => ?_)
  · refine lv_tableIn (pc := 6) (tgt := 40) hx hb dX11_count_6 (by rw [q0]; decide) (by rw [q0]; decide) (by rw [q0]; rfl) (by decide) ?_
    refine lv_aload_n (pc := 40) hx hb dX11_count_40 rfl (lv_at hl 0 rfl) ?_
    refine gM_X11_226_0 (pc := 41) X hH dX11_count_41 ?_
    exact r_iret (pc := 44) X hH h dX11_count_44
  refine b_sw h (fun q1 h => ?_) (fun q1 h => ?_)
  · refine lv_tableIn (pc := 6) (tgt := 45) hx hb dX11_count_6 (by rw [q1]; decide) (by rw [q1]; decide) (by rw [q1]; rfl) (by decide) ?_
    refine lv_aload_n (pc := 45) hx hb dX11_count_45 rfl (lv_at hl 0 rfl) ?_
    refine gM_X11_125_0 (pc := 46) X hH dX11_count_46 ?_
    exact r_iret (pc := 49) X hH h dX11_count_49
  refine b_sw h (fun q2 h => ?_) (fun q2 h => ?_)
  · refine lv_tableIn (pc := 6) (tgt := 50) hx hb dX11_count_6 (by rw [q2]; decide) (by rw [q2]; decide) (by rw [q2]; rfl) (by decide) ?_
    refine lv_aload_n (pc := 50) hx hb dX11_count_50 rfl (lv_at hl 0 rfl) ?_
    refine gM_X11_158_0 (pc := 51) X hH dX11_count_51 ?_
    exact r_iret (pc := 54) X hH h dX11_count_54
  refine b_sw h (fun q3 h => ?_) (fun q3 h => ?_)
  · refine lv_tableIn (pc := 6) (tgt := 55) hx hb dX11_count_6 (by rw [q3]; decide) (by rw [q3]; decide) (by rw [q3]; rfl) (by decide) ?_
    refine lv_aload_n (pc := 55) hx hb dX11_count_55 rfl (lv_at hl 0 rfl) ?_
    refine gM_X11_283_0 (pc := 56) X hH dX11_count_56 ?_
    exact r_iret (pc := 59) X hH h dX11_count_59
  refine b_sw h (fun q4 h => ?_) (fun q4 h => ?_)
  · refine lv_tableIn (pc := 6) (tgt := 60) hx hb dX11_count_6 (by rw [q4]; decide) (by rw [q4]; decide) (by rw [q4]; rfl) (by decide) ?_
    refine lv_aload_n (pc := 60) hx hb dX11_count_60 rfl (lv_at hl 0 rfl) ?_
    refine gM_X11_291_0 (pc := 61) X hH dX11_count_61 ?_
    exact r_iret (pc := 64) X hH h dX11_count_64
  have qd : x1.toInt < 0 ∨ 4 < x1.toInt := by have := lv_neT q0 (show (0 : Int32).toInt = 0 from rfl); have := lv_neT q1 (show (1 : Int32).toInt = 1 from rfl); have := lv_neT q2 (show (2 : Int32).toInt = 2 from rfl); have := lv_neT q3 (show (3 : Int32).toInt = 3 from rfl); have := lv_neT q4 (show (4 : Int32).toInt = 4 from rfl); omega
  refine lv_tableOut (pc := 6) (tgt := 65) hx hb dX11_count_6 qd (by decide) ?_
  refine lv_bipush (pc := 65) (v := -2) hx hb dX11_count_65 (by decide) ?_
  exact r_iret (pc := 67) X hH h dX11_count_67
def eX11_count (N : Nat) : Nat → Wd → Int32 → Option (Wd × Int32)
  | 0 => fun _ _ => none
  | d + 1 => fun w x1 => bX11_count_0 N d  w x1
set_option maxHeartbeats 4000000 in
set_option maxRecDepth 20000 in
theorem mX11_count {l : Launch} {V : Ev} {N d : Nat} {w : Wd} {x1 : Int32} {z : Wd × Int32} (h : eX11_count N d w x1 = some z) : MetI l V (cM V) (AM V) yX11_count cX11_count 2 (some .int) d [.ref (V.2.2 0), .int x1] w z := by
  cases d with
  | zero => exact c_none h
  | succ d =>
    refine Met.ofW (cc := cX11_count) (maxL := 2) (ret := (some .int)) (by decide) rfl ?_
    intro p e s m args below meth c s₁ B hml hv
    obtain ⟨rfl, hP, hD, hK⟩ := hv
    have hts := atoms_spec (ws := .code yX11_count cX11_count 2 (some .int) :: gG) B.pre
    have X : CX V p s m ([.ref (V.2.2 0), .int x1] : List Value).toArray meth c cX11_count 2 RX11 (some .int) := ⟨B.exec, B.bytes, hml, findClass_of_methodNamed B.named, fun w hw => hts w (List.mem_cons_of_mem _ hw), B.returns, B.notSynchronized, hK⟩
    have hl := lv_entry ([.ref (V.2.2 0), .int x1] : List Value) (n := 2) (Nat.le_of_ble_eq_true rfl)
    rw [lg_entry_eq]
    generalize (lg_sl ([.ref (V.2.2 0), .int x1] : List Value) ++ List.replicate (2 - (lg_sl ([.ref (V.2.2 0), .int x1] : List Value)).length) Slot.unset).toArray = ls at hl ⊢
    have hl : lv_has ls 2 [(0, .ref (V.2.2 0)), (1, .int x1)] := hl
    exact kX11_count_0 (N := N) X  h ⟨hP, hD, va_S.rf⟩ hl
theorem dX11_clear_0 : decode cX11_clear 0 = .ok (.aload_n 0, 1) := by decide +kernel
theorem dX11_clear_1 : decode cX11_clear 1 = .ok (.iconst 0, 1) := by decide +kernel
theorem dX11_clear_2 : decode cX11_clear 2 = .ok (.putfield 111, 3) := by decide +kernel
theorem dX11_clear_5 : decode cX11_clear 5 = .ok (.aload_n 0, 1) := by decide +kernel
theorem dX11_clear_6 : decode cX11_clear 6 = .ok (.getfield 125, 3) := by decide +kernel
theorem dX11_clear_9 : decode cX11_clear 9 = .ok (.istore_n 1, 1) := by decide +kernel
theorem dX11_clear_10 : decode cX11_clear 10 = .ok (.aload_n 0, 1) := by decide +kernel
theorem dX11_clear_11 : decode cX11_clear 11 = .ok (.iconst 0, 1) := by decide +kernel
theorem dX11_clear_12 : decode cX11_clear 12 = .ok (.putfield 226, 3) := by decide +kernel
theorem dX11_clear_15 : decode cX11_clear 15 = .ok (.aload_n 0, 1) := by decide +kernel
theorem dX11_clear_16 : decode cX11_clear 16 = .ok (.iconst 0, 1) := by decide +kernel
theorem dX11_clear_17 : decode cX11_clear 17 = .ok (.putfield 125, 3) := by decide +kernel
theorem dX11_clear_20 : decode cX11_clear 20 = .ok (.aload_n 0, 1) := by decide +kernel
theorem dX11_clear_21 : decode cX11_clear 21 = .ok (.iconst 0, 1) := by decide +kernel
theorem dX11_clear_22 : decode cX11_clear 22 = .ok (.putfield 158, 3) := by decide +kernel
theorem dX11_clear_25 : decode cX11_clear 25 = .ok (.aload_n 0, 1) := by decide +kernel
theorem dX11_clear_26 : decode cX11_clear 26 = .ok (.iconst 0, 1) := by decide +kernel
theorem dX11_clear_27 : decode cX11_clear 27 = .ok (.putfield 283, 3) := by decide +kernel
theorem dX11_clear_30 : decode cX11_clear 30 = .ok (.aload_n 0, 1) := by decide +kernel
theorem dX11_clear_31 : decode cX11_clear 31 = .ok (.iconst 0, 1) := by decide +kernel
theorem dX11_clear_32 : decode cX11_clear 32 = .ok (.putfield 291, 3) := by decide +kernel
theorem dX11_clear_35 : decode cX11_clear 35 = .ok (.aload_n 0, 1) := by decide +kernel
theorem dX11_clear_36 : decode cX11_clear 36 = .ok (.iconst 0, 1) := by decide +kernel
theorem dX11_clear_37 : decode cX11_clear 37 = .ok (.putfield 203, 3) := by decide +kernel
theorem dX11_clear_40 : decode cX11_clear 40 = .ok (.aload_n 0, 1) := by decide +kernel
theorem dX11_clear_41 : decode cX11_clear 41 = .ok (.iconst 0, 1) := by decide +kernel
theorem dX11_clear_42 : decode cX11_clear 42 = .ok (.putfield 300, 3) := by decide +kernel
theorem dX11_clear_45 : decode cX11_clear 45 = .ok (.iload_n 1, 1) := by decide +kernel
theorem dX11_clear_46 : decode cX11_clear 46 = .ok (.ireturn, 1) := by decide +kernel
def bX11_clear_0 (N d : Nat)   (w : Wd)  : Option (Wd × Int32) :=
  c_pi w 0 0 fun w1 =>
  c_nm (sI w1 2) fun x1_2 =>
  c_pi w1 1 0 fun w3 =>
  c_pi w3 2 0 fun w4 =>
  c_pi w4 3 0 fun w5 =>
  c_pi w5 13 0 fun w6 =>
  c_pi w6 15 0 fun w7 =>
  c_pi w7 8 0 fun w8 =>
  c_pi w8 16 0 fun w9 =>
  some (w9, x1_2)
set_option maxHeartbeats 4000000 in
theorem kX11_clear_0 {V : Ev} {p : Program} {l : Launch} {e : Env} {N d : Nat} {s : State} {m : MethodId} {args : Array Value} {below : List Frame} {meth : Method} {c : Code} {z : Wd × Int32} (X : CX V p s m args meth c cX11_clear 2 RX11 (some .int))    {w : Wd}  {H : Heap} {locs : List Loc} {ls : Array Slot} (h : bX11_clear_0 N d   w  = some z) (hH : wH V (cM V) (AM V) s w H locs) (hl : lv_has ls 2 [(0, .ref (V.2.2 0))]) : W p l e (rmD (d + 1)) s m args below meth c H locs 0 0 (MQ below (CtI V (cM V) (AM V) z) args s 0 0 (AM V)) (F0 m 0 ls []) := by
  unfold bX11_clear_0 at h
  obtain ⟨hx, hb, hml, hown, hg, hrt, hlk, hK⟩ := id X
  refine lv_aload_n (pc := 0) hx hb dX11_clear_0 rfl (lv_at hl 0 rfl) ?_
  refine lv_iconst (pc := 1) (v := 0) hx hb dX11_clear_1 (by decide) ?_
  refine pM_X11_111_0 (pc := 2) X hH h dX11_clear_2 (fun w1 H locs h hH => ?_)
  refine lv_aload_n (pc := 5) hx hb dX11_clear_5 rfl (lv_at hl 0 rfl) ?_
  refine gM_X11_125_0 (pc := 6) X hH dX11_clear_6 ?_
  refine r_nmi h (fun x1_2 h => ?_)
  refine lv_istore_n (pc := 9) (lv' := [(1, .int x1_2), (0, .ref (V.2.2 0))]) hx hb dX11_clear_9 rfl hl (by decide) rfl (fun ls hl => ?_)
  refine lv_aload_n (pc := 10) hx hb dX11_clear_10 rfl (lv_at hl 1 rfl) ?_
  refine lv_iconst (pc := 11) (v := 0) hx hb dX11_clear_11 (by decide) ?_
  refine pM_X11_226_0 (pc := 12) X hH h dX11_clear_12 (fun w3 H locs h hH => ?_)
  refine lv_aload_n (pc := 15) hx hb dX11_clear_15 rfl (lv_at hl 1 rfl) ?_
  refine lv_iconst (pc := 16) (v := 0) hx hb dX11_clear_16 (by decide) ?_
  refine pM_X11_125_0 (pc := 17) X hH h dX11_clear_17 (fun w4 H locs h hH => ?_)
  refine lv_aload_n (pc := 20) hx hb dX11_clear_20 rfl (lv_at hl 1 rfl) ?_
  refine lv_iconst (pc := 21) (v := 0) hx hb dX11_clear_21 (by decide) ?_
  refine pM_X11_158_0 (pc := 22) X hH h dX11_clear_22 (fun w5 H locs h hH => ?_)
  refine lv_aload_n (pc := 25) hx hb dX11_clear_25 rfl (lv_at hl 1 rfl) ?_
  refine lv_iconst (pc := 26) (v := 0) hx hb dX11_clear_26 (by decide) ?_
  refine pM_X11_283_0 (pc := 27) X hH h dX11_clear_27 (fun w6 H locs h hH => ?_)
  refine lv_aload_n (pc := 30) hx hb dX11_clear_30 rfl (lv_at hl 1 rfl) ?_
  refine lv_iconst (pc := 31) (v := 0) hx hb dX11_clear_31 (by decide) ?_
  refine pM_X11_291_0 (pc := 32) X hH h dX11_clear_32 (fun w7 H locs h hH => ?_)
  refine lv_aload_n (pc := 35) hx hb dX11_clear_35 rfl (lv_at hl 1 rfl) ?_
  refine lv_iconst (pc := 36) (v := 0) hx hb dX11_clear_36 (by decide) ?_
  refine pM_X11_203_0 (pc := 37) X hH h dX11_clear_37 (fun w8 H locs h hH => ?_)
  refine lv_aload_n (pc := 40) hx hb dX11_clear_40 rfl (lv_at hl 1 rfl) ?_
  refine lv_iconst (pc := 41) (v := 0) hx hb dX11_clear_41 (by decide) ?_
  refine pM_X11_300_0 (pc := 42) X hH (Or.inl rfl) h dX11_clear_42 (fun w9 H locs h hH => ?_)
  refine lv_iload_n (pc := 45) hx hb dX11_clear_45 rfl (lv_at hl 0 rfl) ?_
  exact r_iret (pc := 46) X hH h dX11_clear_46
def eX11_clear (N : Nat) : Nat → Wd → Option (Wd × Int32)
  | 0 => fun _  => none
  | d + 1 => fun w  => bX11_clear_0 N d  w 
set_option maxHeartbeats 4000000 in
set_option maxRecDepth 20000 in
theorem mX11_clear {l : Launch} {V : Ev} {N d : Nat} {w : Wd}  {z : Wd × Int32} (h : eX11_clear N d w  = some z) : MetI l V (cM V) (AM V) yX11_clear cX11_clear 2 (some .int) d [.ref (V.2.2 0)] w z := by
  cases d with
  | zero => exact c_none h
  | succ d =>
    refine Met.ofW (cc := cX11_clear) (maxL := 2) (ret := (some .int)) (by decide) rfl ?_
    intro p e s m args below meth c s₁ B hml hv
    obtain ⟨rfl, hP, hD, hK⟩ := hv
    have hts := atoms_spec (ws := .code yX11_clear cX11_clear 2 (some .int) :: gG) B.pre
    have X : CX V p s m ([.ref (V.2.2 0)] : List Value).toArray meth c cX11_clear 2 RX11 (some .int) := ⟨B.exec, B.bytes, hml, findClass_of_methodNamed B.named, fun w hw => hts w (List.mem_cons_of_mem _ hw), B.returns, B.notSynchronized, hK⟩
    have hl := lv_entry ([.ref (V.2.2 0)] : List Value) (n := 2) (Nat.le_of_ble_eq_true rfl)
    rw [lg_entry_eq]
    generalize (lg_sl ([.ref (V.2.2 0)] : List Value) ++ List.replicate (2 - (lg_sl ([.ref (V.2.2 0)] : List Value)).length) Slot.unset).toArray = ls at hl ⊢
    have hl : lv_has ls 2 [(0, .ref (V.2.2 0))] := hl
    exact kX11_clear_0 (N := N) X  h ⟨hP, hD, va_S.rf⟩ hl
