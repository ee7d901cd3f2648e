theorem dX10_pair_0 : decode cX10_pair 0 = .ok (.iload_n 1, 1) := by decide +kernel
theorem dX10_pair_1 : decode cX10_pair 1 = .ok (.aload_n 0, 1) := by decide +kernel
theorem dX10_pair_2 : decode cX10_pair 2 = .ok (.getfield 44, 3) := by decide +kernel
theorem dX10_pair_5 : decode cX10_pair 5 = .ok (.getfield 149, 3) := by decide +kernel
theorem dX10_pair_8 : decode cX10_pair 8 = .ok (.getfield 153, 3) := by decide +kernel
theorem dX10_pair_11 : decode cX10_pair 11 = .ok (.invokestatic 66, 3) := by decide +kernel
theorem dX10_pair_14 : decode cX10_pair 14 = .ok (.ifCond .eq 12, 3) := by decide +kernel
theorem dX10_pair_17 : decode cX10_pair 17 = .ok (.iload_n 2, 1) := by decide +kernel
theorem dX10_pair_18 : decode cX10_pair 18 = .ok (.bipush 6, 2) := by decide +kernel
theorem dX10_pair_20 : decode cX10_pair 20 = .ok (.invokestatic 66, 3) := by decide +kernel
theorem dX10_pair_23 : decode cX10_pair 23 = .ok (.ifCond .ne 7, 3) := by decide +kernel
theorem dX10_pair_26 : decode cX10_pair 26 = .ok (.ldc2_w 115, 3) := by decide +kernel
theorem dX10_pair_29 : decode cX10_pair 29 = .ok (.lreturn, 1) := by decide +kernel
theorem dX10_pair_30 : decode cX10_pair 30 = .ok (.iload_n 2, 1) := by decide +kernel
theorem dX10_pair_31 : decode cX10_pair 31 = .ok (.iconst 5, 1) := by decide +kernel
theorem dX10_pair_32 : decode cX10_pair 32 = .ok (.if_icmp .ge 16, 3) := by decide +kernel
theorem dX10_pair_35 : decode cX10_pair 35 = .ok (.aload_n 0, 1) := by decide +kernel
theorem dX10_pair_36 : decode cX10_pair 36 = .ok (.getfield 44, 3) := by decide +kernel
theorem dX10_pair_39 : decode cX10_pair 39 = .ok (.getfield 149, 3) := by decide +kernel
theorem dX10_pair_42 : decode cX10_pair 42 = .ok (.iload_n 1, 1) := by decide +kernel
theorem dX10_pair_43 : decode cX10_pair 43 = .ok (.iload_n 2, 1) := by decide +kernel
theorem dX10_pair_44 : decode cX10_pair 44 = .ok (.invokevirtual 156, 3) := by decide +kernel
theorem dX10_pair_47 : decode cX10_pair 47 = .ok (.lreturn, 1) := by decide +kernel
theorem dX10_pair_48 : decode cX10_pair 48 = .ok (.aload_n 0, 1) := by decide +kernel
theorem dX10_pair_49 : decode cX10_pair 49 = .ok (.getfield 15, 3) := by decide +kernel
theorem dX10_pair_52 : decode cX10_pair 52 = .ok (.getfield 99, 3) := by decide +kernel
theorem dX10_pair_55 : decode cX10_pair 55 = .ok (.istore_n 3, 1) := by decide +kernel
theorem dX10_pair_56 : decode cX10_pair 56 = .ok (.aload_n 0, 1) := by decide +kernel
theorem dX10_pair_57 : decode cX10_pair 57 = .ok (.getfield 28, 3) := by decide +kernel
theorem dX10_pair_60 : decode cX10_pair 60 = .ok (.aload_n 0, 1) := by decide +kernel
theorem dX10_pair_61 : decode cX10_pair 61 = .ok (.getfield 44, 3) := by decide +kernel
theorem dX10_pair_64 : decode cX10_pair 64 = .ok (.getfield 149, 3) := by decide +kernel
theorem dX10_pair_67 : decode cX10_pair 67 = .ok (.iload_n 1, 1) := by decide +kernel
theorem dX10_pair_68 : decode cX10_pair 68 = .ok (.invokevirtual 160, 3) := by decide +kernel
theorem dX10_pair_71 : decode cX10_pair 71 = .ok (.aload_n 0, 1) := by decide +kernel
theorem dX10_pair_72 : decode cX10_pair 72 = .ok (.getfield 44, 3) := by decide +kernel
theorem dX10_pair_75 : decode cX10_pair 75 = .ok (.getfield 149, 3) := by decide +kernel
theorem dX10_pair_78 : decode cX10_pair 78 = .ok (.iload_n 1, 1) := by decide +kernel
theorem dX10_pair_79 : decode cX10_pair 79 = .ok (.invokevirtual 164, 3) := by decide +kernel
theorem dX10_pair_82 : decode cX10_pair 82 = .ok (.iconst (-1), 1) := by decide +kernel
theorem dX10_pair_83 : decode cX10_pair 83 = .ok (.invokevirtual 167, 3) := by decide +kernel
theorem dX10_pair_86 : decode cX10_pair 86 = .ok (.istore 4, 2) := by decide +kernel
theorem dX10_pair_88 : decode cX10_pair 88 = .ok (.aload_n 0, 1) := by decide +kernel
theorem dX10_pair_89 : decode cX10_pair 89 = .ok (.iload 4, 2) := by decide +kernel
theorem dX10_pair_91 : decode cX10_pair 91 = .ok (.iload_n 3, 1) := by decide +kernel
theorem dX10_pair_92 : decode cX10_pair 92 = .ok (.invokevirtual 146, 3) := by decide +kernel
theorem dX10_pair_95 : decode cX10_pair 95 = .ok (.i2l, 1) := by decide +kernel
theorem dX10_pair_96 : decode cX10_pair 96 = .ok (.lreturn, 1) := by decide +kernel
def bX10_pair_26 (N d : Nat)   (w : Wd)  : Option (Wd × Int64) :=
  some (w, -2)
set_option maxHeartbeats 4000000 in
theorem kX10_pair_26 {V : Ev} {p : Program} {l : Launch} {e : Env} {N d : Nat} {s : State} {m : MethodId} {args : Array Value} {below : List Frame} {meth : Method} {c : Code} {z : Wd × Int64} (X : CX V p s m args meth c cX10_pair 5 RX10 (some .long))    {w : Wd}  {H : Heap} {locs : List Loc} {ls : Array Slot} (h : bX10_pair_26 N d   w  = some z) (hH : wH V (cC V) (AC V) s w H locs) (hl : lv_has ls 5 []) : W p l e (rmD (d + 1)) s m args below meth c H locs 0 0 (MQ below (CtL V (cC V) (AC V) z) args s 0 0 (AC V)) (F0 m 26 ls []) := by
  unfold bX10_pair_26 at h
  obtain ⟨hx, hb, hml, hown, hg, hrt, hlk, hK⟩ := id X
  refine lv_ldc2 (pc := 26) hx hb hown (hg _ wL_577) dX10_pair_26 ?_
  exact r_lret (pc := 29) X hH h dX10_pair_29
def bX10_pair_0 (N d : Nat)   (w : Wd) (x1 : Int32) (x2 : Int32) : Option (Wd × Int64) :=
  c_cl (eX10_isWithin N d w x1 (sI w 15)) fun w1 v2 =>
  if v2 = 0 then (
    bX10_pair_26 N d   w1 
  ) else (
    c_cl (eX10_isWithin N d w1 x2 6) fun w3 v4 =>
    if v4 = 0 then (
      bX10_pair_26 N d   w3 
    ) else (
      if 5 ≤ x2 then (
        c_nm (sI w3 1) fun x3_5 =>
        c_cl (eX2_firstOf N d w3 x1) fun w6 v7 =>
        c_cl (eX2_secondOf N d w6 x1) fun w8 v9 =>
        c_cl (eX3_joins N d w8 v7 v9 (-1)) fun w10 v11 =>
        c_cl (eX10_undoIfFull N d w10 v11 x3_5) fun w12 v13 =>
        some (w12, Int32.toInt64 v13)
      ) else (
        c_cl (eX2_read N d w3 x1 x2) fun w14 v15 =>
        some (w14, v15)
      )
    )
  )
set_option maxHeartbeats 4000000 in
theorem kX10_pair_0 {V : Ev} {p : Program} {l : Launch} {e : Env} {N d : Nat} {s : State} {m : MethodId} {args : Array Value} {below : List Frame} {meth : Method} {c : Code} {z : Wd × Int64} (X : CX V p s m args meth c cX10_pair 5 RX10 (some .long))    {w : Wd} {x1 : Int32} {x2 : Int32} {H : Heap} {locs : List Loc} {ls : Array Slot} (h : bX10_pair_0 N d   w x1 x2 = some z) (hH : wH V (cC V) (AC V) s w H locs) (hl : lv_has ls 5 [(0, .ref (V.2.2 0)), (1, .int x1), (2, .int x2)]) : W p l e (rmD (d + 1)) s m args below meth c H locs 0 0 (MQ below (CtL V (cC V) (AC V) z) args s 0 0 (AC V)) (F0 m 0 ls []) := by
  unfold bX10_pair_0 at h
  obtain ⟨hx, hb, hml, hown, hg, hrt, hlk, hK⟩ := id X
  refine lv_iload_n (pc := 0) hx hb dX10_pair_0 rfl (lv_at hl 1 rfl) ?_
  refine lv_aload_n (pc := 1) hx hb dX10_pair_1 rfl (lv_at hl 0 rfl) ?_
  refine gC_X10_44_0 (pc := 2) X hH dX10_pair_2 ?_
  refine gC_X10_149_5 (pc := 5) X hH dX10_pair_5 ?_
  refine gC_X10_153_9 (pc := 8) X hH dX10_pair_8 ?_
  refine r_csI (pc := 11) (As := [.int x1, .int (sI w 15)]) (rest := []) X hH (fun x hx => mX10_isWithin hx) cs_X10_66 rfl rfl (Nat.le_of_ble_eq_true rfl) hl.1 h dX10_pair_11 (fun w1 v2 H locs h hH => ?_)
  refine b_if_eq (pc := 14) (tgt := 26) hx hb h dX10_pair_14 (by decide) (fun h => ?_) (fun h => ?_)
  · exact kX10_pair_26 X   h hH (lv_sub hl [] rfl)
  · refine lv_iload_n (pc := 17) hx hb dX10_pair_17 rfl (lv_at hl 2 rfl) ?_
    refine lv_bipush (pc := 18) (v := 6) hx hb dX10_pair_18 (by decide) ?_
    refine r_csI (pc := 20) (As := [.int x2, .int 6]) (rest := []) X hH (fun x hx => mX10_isWithin hx) cs_X10_66 rfl rfl (Nat.le_of_ble_eq_true rfl) hl.1 h dX10_pair_20 (fun w3 v4 H locs h hH => ?_)
    refine b_if_ne (pc := 23) (tgt := 30) hx hb h dX10_pair_23 (by decide) (fun h => ?_) (fun h => ?_)
    · refine lv_iload_n (pc := 30) hx hb dX10_pair_30 rfl (lv_at hl 2 rfl) ?_
      refine lv_iconst (pc := 31) (v := 5) hx hb dX10_pair_31 (by decide) ?_
      refine b_icmp_ge (pc := 32) (tgt := 48) hx hb h dX10_pair_32 (by decide) (fun h => ?_) (fun h => ?_)
      · refine lv_aload_n (pc := 48) hx hb dX10_pair_48 rfl (lv_at hl 0 rfl) ?_
        refine gC_X10_15_0 (pc := 49) X hH dX10_pair_49 ?_
        refine gC_X10_99_1 (pc := 52) X hH dX10_pair_52 ?_
        refine r_nmi h (fun x3_5 h => ?_)
        refine lv_istore_n (pc := 55) (lv' := [(3, .int x3_5), (0, .ref (V.2.2 0)), (1, .int x1), (2, .int x2)]) hx hb dX10_pair_55 rfl hl (by decide) rfl (fun ls hl => ?_)
        refine lv_aload_n (pc := 56) hx hb dX10_pair_56 rfl (lv_at hl 1 rfl) ?_
        refine gC_X10_28_0 (pc := 57) X hH dX10_pair_57 ?_
        refine lv_aload_n (pc := 60) hx hb dX10_pair_60 rfl (lv_at hl 1 rfl) ?_
        refine gC_X10_44_0 (pc := 61) X hH dX10_pair_61 ?_
        refine gC_X10_149_5 (pc := 64) X hH dX10_pair_64 ?_
        refine lv_iload_n (pc := 67) hx hb dX10_pair_67 rfl (lv_at hl 2 rfl) ?_
        refine r_cvI (pc := 68) (As := [.int x1]) (rest := [.ref (V.2.2 3)]) X hH (fun x hx => mX2_firstOf hx) cw_X10_160 (heC_9 V w3) rfl rfl rfl (Nat.le_of_ble_eq_true rfl) hl.1 h dX10_pair_68 (fun w6 v7 H locs h hH => ?_)
        refine lv_aload_n (pc := 71) hx hb dX10_pair_71 rfl (lv_at hl 1 rfl) ?_
        refine gC_X10_44_0 (pc := 72) X hH dX10_pair_72 ?_
        refine gC_X10_149_5 (pc := 75) X hH dX10_pair_75 ?_
        refine lv_iload_n (pc := 78) hx hb dX10_pair_78 rfl (lv_at hl 2 rfl) ?_
        refine r_cvI (pc := 79) (As := [.int x1]) (rest := [.int v7, .ref (V.2.2 3)]) X hH (fun x hx => mX2_secondOf hx) cw_X10_164 (heC_9 V w6) rfl rfl rfl (Nat.le_of_ble_eq_true rfl) hl.1 h dX10_pair_79 (fun w8 v9 H locs h hH => ?_)
        refine lv_iconst (pc := 82) (v := -1) hx hb dX10_pair_82 (by decide) ?_
        refine r_cvI (pc := 83) (As := [.int v7, .int v9, .int (-1)]) (rest := []) X hH (fun x hx => mX3_joins hx) cw_X10_167 (heC_3 V w8) rfl rfl rfl (Nat.le_of_ble_eq_true rfl) hl.1 h dX10_pair_83 (fun w10 v11 H locs h hH => ?_)
        refine lv_istore (pc := 86) (lv' := [(4, .int v11), (3, .int x3_5), (0, .ref (V.2.2 0)), (1, .int x1), (2, .int x2)]) hx hb dX10_pair_86 hl (by decide) rfl (fun ls hl => ?_)
        refine lv_aload_n (pc := 88) hx hb dX10_pair_88 rfl (lv_at hl 2 rfl) ?_
        refine lv_iload (pc := 89) hx hb dX10_pair_89 (lv_at hl 0 rfl) ?_
        refine lv_iload_n (pc := 91) hx hb dX10_pair_91 rfl (lv_at hl 1 rfl) ?_
        refine r_cvI (pc := 92) (As := [.int v11, .int x3_5]) (rest := []) X hH (fun x hx => mX10_undoIfFull hx) cw_X10_146 (heC_0 V w10) rfl rfl rfl (Nat.le_of_ble_eq_true rfl) hl.1 h dX10_pair_92 (fun w12 v13 H locs h hH => ?_)
        refine lv_i2l (pc := 95) hx hb dX10_pair_95 rfl ?_
        exact r_lret (pc := 96) X hH h dX10_pair_96
      · refine lv_aload_n (pc := 35) hx hb dX10_pair_35 rfl (lv_at hl 0 rfl) ?_
        refine gC_X10_44_0 (pc := 36) X hH dX10_pair_36 ?_
        refine gC_X10_149_5 (pc := 39) X hH dX10_pair_39 ?_
        refine lv_iload_n (pc := 42) hx hb dX10_pair_42 rfl (lv_at hl 1 rfl) ?_
        refine lv_iload_n (pc := 43) hx hb dX10_pair_43 rfl (lv_at hl 2 rfl) ?_
        refine r_cvL (pc := 44) (As := [.int x1, .int x2]) (rest := []) X hH (fun x hx => mX2_read hx) cw_X10_156 (heC_9 V w3) rfl rfl rfl (Nat.le_of_ble_eq_true rfl) hl.1 h dX10_pair_44 (fun w14 v15 H locs h hH => ?_)
        exact r_lret (pc := 47) X hH h dX10_pair_47
    · exact kX10_pair_26 X   h hH (lv_sub hl [] rfl)
def eX10_pair (N : Nat) : Nat → Wd → Int32 → Int32 → Option (Wd × Int64)
  | 0 => fun _ _ _ => none
  | d + 1 => fun w x1 x2 => bX10_pair_0 N d  w x1 x2
set_option maxHeartbeats 4000000 in
set_option maxRecDepth 20000 in
theorem mX10_pair {l : Launch} {V : Ev} {N d : Nat} {w : Wd} {x1 : Int32} {x2 : Int32} {z : Wd × Int64} (h : eX10_pair N d w x1 x2 = some z) : MetL l V (cC V) (AC V) yX10_pair cX10_pair 5 (some .long) d [.ref (V.2.2 0), .int x1, .int x2] w z := by
  cases d with
  | zero => exact c_none h
  | succ d =>
    refine Met.ofW (cc := cX10_pair) (maxL := 5) (ret := (some .long)) (by decide) rfl ?_
    intro p e s m args below meth c s₁ B hml hv
    obtain ⟨rfl, hP, hD, hK⟩ := hv
    have hts := atoms_spec (ws := .code yX10_pair cX10_pair 5 (some .long) :: gG) B.pre
    have X : CX V p s m ([.ref (V.2.2 0), .int x1, .int x2] : List Value).toArray meth c cX10_pair 5 RX10 (some .long) := ⟨B.exec, B.bytes, hml, findClass_of_methodNamed B.named, fun w hw => hts w (List.mem_cons_of_mem _ hw), B.returns, B.notSynchronized, hK⟩
    have hl := lv_entry ([.ref (V.2.2 0), .int x1, .int x2] : List Value) (n := 5) (Nat.le_of_ble_eq_true rfl)
    rw [lg_entry_eq]
    generalize (lg_sl ([.ref (V.2.2 0), .int x1, .int x2] : List Value) ++ List.replicate (5 - (lg_sl ([.ref (V.2.2 0), .int x1, .int x2] : List Value)).length) Slot.unset).toArray = ls at hl ⊢
    have hl : lv_has ls 5 [(0, .ref (V.2.2 0)), (1, .int x1), (2, .int x2)] := hl
    exact kX10_pair_0 (N := N) X  h ⟨hP, hD, va_S.rf⟩ hl
def bJ7_fill_53178_r35_5 (N d : Nat)  (rec5 : Wd → Int32 → Int32 → Int32 → Option (Wd)) (w : Wd) (x1 : Int32) (x2 : Int32) (x3 : Int32) : Option (Wd) :=
  if x3 ≤ x2 then (
    some w
  ) else (
    c_st w 35 160 x2 x1 fun w1 =>
    c_nm (x2 + 1) fun x2_2 =>
    rec5 w1 x1 x2_2 x3
  )
set_option maxHeartbeats 4000000 in
theorem kJ7_fill_53178_r35_5 {V : Ev} {p : Program} {l : Launch} {e : Env} {N d : Nat} {s : State} {m : MethodId} {args : Array Value} {below : List Frame} {meth : Method} {c : Code} {z : Wd} (X : CX V p s m args meth c cJ7_fill_53178 4 RJ7 none)   {rec5 : Wd → Int32 → Int32 → Int32 → Option (Wd)} (hr5 : ∀ (w : Wd) (x1 : Int32) (x2 : Int32) (x3 : Int32) (H : Heap) (locs : List Loc) (ls : Array Slot), rec5 w x1 x2 x3 = some z → wH V (cC V) (AC V) s w H locs → lv_has ls 4 [(0, .ref (V.2.2 34)), (1, .int x1), (2, .int x2), (3, .int x3)] → W p l e (rmD (d + 1)) s m args below meth c H locs 0 0 (MQ below (CtV V (cC V) (AC V) z) args s 0 0 (AC V)) (F0 m 5 ls [])) {w : Wd} {x1 : Int32} {x2 : Int32} {x3 : Int32} {H : Heap} {locs : List Loc} {ls : Array Slot} (h : bJ7_fill_53178_r35_5 N d  rec5 w x1 x2 x3 = some z) (hH : wH V (cC V) (AC V) s w H locs) (hl : lv_has ls 4 [(0, .ref (V.2.2 34)), (1, .int x1), (2, .int x2), (3, .int x3)]) : W p l e (rmD (d + 1)) s m args below meth c H locs 0 0 (MQ below (CtV V (cC V) (AC V) z) args s 0 0 (AC V)) (F0 m 5 ls []) := by
  unfold bJ7_fill_53178_r35_5 at h
  obtain ⟨hx, hb, hml, hown, hg, hrt, hlk, hK⟩ := id X
  refine lv_iload_n (pc := 5) hx hb dJ7_fill_53178_5 rfl (lv_at hl 2 rfl) ?_
  refine lv_iload_n (pc := 6) hx hb dJ7_fill_53178_6 rfl (lv_at hl 3 rfl) ?_
  refine b_icmp_ge (pc := 7) (tgt := 20) hx hb h dJ7_fill_53178_7 (by decide) (fun h => ?_) (fun h => ?_)
  · exact r_vret (pc := 20) X hH h dJ7_fill_53178_20
  · refine lv_aload_n (pc := 10) hx hb dJ7_fill_53178_10 rfl (lv_at hl 0 rfl) ?_
    refine lv_iload_n (pc := 11) hx hb dJ7_fill_53178_11 rfl (lv_at hl 2 rfl) ?_
    refine lv_iload_n (pc := 12) hx hb dJ7_fill_53178_12 rfl (lv_at hl 1 rfl) ?_
    refine r_st (pc := 13) X (heC_34 V w) (hsC_34 V w) hH h dJ7_fill_53178_13 (fun w1 H locs h hH => ?_)
    obtain ⟨x2_2, ex2_2, h⟩ := c_nm_ex h
    refine lv_iinc (pc := 14) (v := x2_2) (lv' := [(2, .int x2_2), (0, .ref (V.2.2 34)), (1, .int x1), (3, .int x3)]) hx hb dJ7_fill_53178_14 hl (k := 2) rfl (by rw [← ex2_2]; rfl) (by decide) rfl (fun ls hl => ?_)
    refine lv_goto (pc := 17) (tgt := 5) hx hb dJ7_fill_53178_17 (by decide) ?_
    exact hr5 _ _ _ _ _ _ _ h hH (lv_sub hl [1, 2, 0, 3] rfl)
def fJ7_fill_53178_r35_5 (N d : Nat)   : Nat → Wd → Int32 → Int32 → Int32 → Option (Wd)
  | 0 => fun _ _ _ _ => none
  | n + 1 => fun w x1 x2 x3 => bJ7_fill_53178_r35_5 N d   (fJ7_fill_53178_r35_5 N d   n) w x1 x2 x3
theorem lJ7_fill_53178_r35_5 {V : Ev} {p : Program} {l : Launch} {e : Env} {N d : Nat} {s : State} {m : MethodId} {args : Array Value} {below : List Frame} {meth : Method} {c : Code} {z : Wd} (X : CX V p s m args meth c cJ7_fill_53178 4 RJ7 none)    (n : Nat) {w : Wd} {x1 : Int32} {x2 : Int32} {x3 : Int32} {H : Heap} {locs : List Loc} {ls : Array Slot} (h : fJ7_fill_53178_r35_5 N d   n w x1 x2 x3 = some z) (hH : wH V (cC V) (AC V) s w H locs) (hl : lv_has ls 4 [(0, .ref (V.2.2 34)), (1, .int x1), (2, .int x2), (3, .int x3)]) : W p l e (rmD (d + 1)) s m args below meth c H locs 0 0 (MQ below (CtV V (cC V) (AC V) z) args s 0 0 (AC V)) (F0 m 5 ls []) := by
  induction n generalizing w x1 x2 x3 H locs ls with
  | zero => exact c_none h
  | succ n ih => exact kJ7_fill_53178_r35_5 (N := N) X  (fun _ _ _ _ _ _ _ h hH hl => ih h hH hl) h hH hl
def bJ7_fill_53178_r35_0 (N d : Nat)   (w : Wd) (x1 : Int32) : Option (Wd) :=
  fJ7_fill_53178_r35_5 N d   N w x1 ((0 : Int32)) ((160 : Int32))
set_option maxHeartbeats 4000000 in
theorem kJ7_fill_53178_r35_0 {V : Ev} {p : Program} {l : Launch} {e : Env} {N d : Nat} {s : State} {m : MethodId} {args : Array Value} {below : List Frame} {meth : Method} {c : Code} {z : Wd} (X : CX V p s m args meth c cJ7_fill_53178 4 RJ7 none)    {w : Wd} {x1 : Int32} {H : Heap} {locs : List Loc} {ls : Array Slot} (h : bJ7_fill_53178_r35_0 N d   w x1 = some z) (hH : wH V (cC V) (AC V) s w H locs) (hl : lv_has ls 4 [(0, .ref (V.2.2 34)), (1, .int x1)]) : W p l e (rmD (d + 1)) s m args below meth c H locs 0 0 (MQ below (CtV V (cC V) (AC V) z) args s 0 0 (AC V)) (F0 m 0 ls []) := by
  unfold bJ7_fill_53178_r35_0 at h
  obtain ⟨hx, hb, hml, hown, hg, hrt, hlk, hK⟩ := id X
  refine lv_iconst (pc := 0) (v := 0) hx hb dJ7_fill_53178_0 (by decide) ?_
  refine lv_istore_n (pc := 1) (lv' := [(2, .int ((0 : Int32))), (0, .ref (V.2.2 34)), (1, .int x1)]) hx hb dJ7_fill_53178_1 rfl hl (by decide) rfl (fun ls hl => ?_)
  refine lv_aload_n (pc := 2) hx hb dJ7_fill_53178_2 rfl (lv_at hl 1 rfl) ?_
  refine r_al (pc := 3) (t0 := 0) (v := 160) X (heC_34 V w) rfl hH (by decide) dJ7_fill_53178_3 ?_
  refine lv_istore_n (pc := 4) (lv' := [(3, .int ((160 : Int32))), (2, .int ((0 : Int32))), (0, .ref (V.2.2 34)), (1, .int x1)]) hx hb dJ7_fill_53178_4 rfl hl (by decide) rfl (fun ls hl => ?_)
  exact lJ7_fill_53178_r35_5 X   N h hH (lv_sub hl [2, 3, 1, 0] rfl)
def eJ7_fill_53178_r35 (N : Nat) : Nat → Wd → Int32 → Option (Wd)
  | 0 => fun _ _ => none
  | d + 1 => fun w x1 => bJ7_fill_53178_r35_0 N d  w x1
set_option maxHeartbeats 4000000 in
set_option maxRecDepth 20000 in
theorem mJ7_fill_53178_r35 {l : Launch} {V : Ev} {N d : Nat} {w : Wd} {x1 : Int32} {z : Wd} (h : eJ7_fill_53178_r35 N d w x1 = some z) : MetV l V (cC V) (AC V) yJ7_fill_53178 cJ7_fill_53178 4 none d [.ref (V.2.2 34), .int x1] w z := by
  cases d with
  | zero => exact c_none h
  | succ d =>
    refine Met.ofW (cc := cJ7_fill_53178) (maxL := 4) (ret := none) (by decide) rfl ?_
    intro p e s m args below meth c s₁ B hml hv
    obtain ⟨rfl, hP, hD, hK⟩ := hv
    have hts := atoms_spec (ws := .code yJ7_fill_53178 cJ7_fill_53178 4 none :: gG) B.pre
    have X : CX V p s m ([.ref (V.2.2 34), .int x1] : List Value).toArray meth c cJ7_fill_53178 4 RJ7 none := ⟨B.exec, B.bytes, hml, findClass_of_methodNamed B.named, fun w hw => hts w (List.mem_cons_of_mem _ hw), B.returns, B.notSynchronized, hK⟩
    have hl := lv_entry ([.ref (V.2.2 34), .int x1] : List Value) (n := 4) (Nat.le_of_ble_eq_true rfl)
    rw [lg_entry_eq]
    generalize (lg_sl ([.ref (V.2.2 34), .int x1] : List Value) ++ List.replicate (4 - (lg_sl ([.ref (V.2.2 34), .int x1] : List Value)).length) Slot.unset).toArray = ls at hl ⊢
    have hl : lv_has ls 4 [(0, .ref (V.2.2 34)), (1, .int x1)] := hl
    exact kJ7_fill_53178_r35_0 (N := N) X  h ⟨hP, hD, va_S.rf⟩ hl
def bJ7_fill_53178_r36_5 (N d : Nat)  (rec5 : Wd → Int32 → Int32 → Int32 → Option (Wd)) (w : Wd) (x1 : Int32) (x2 : Int32) (x3 : Int32) : Option (Wd) :=
  if x3 ≤ x2 then (
    some w
  ) else (
    c_st w 36 8 x2 x1 fun w1 =>
    c_nm (x2 + 1) fun x2_2 =>
    rec5 w1 x1 x2_2 x3
  )
set_option maxHeartbeats 4000000 in
theorem kJ7_fill_53178_r36_5 {V : Ev} {p : Program} {l : Launch} {e : Env} {N d : Nat} {s : State} {m : MethodId} {args : Array Value} {below : List Frame} {meth : Method} {c : Code} {z : Wd} (X : CX V p s m args meth c cJ7_fill_53178 4 RJ7 none)   {rec5 : Wd → Int32 → Int32 → Int32 → Option (Wd)} (hr5 : ∀ (w : Wd) (x1 : Int32) (x2 : Int32) (x3 : Int32) (H : Heap) (locs : List Loc) (ls : Array Slot), rec5 w x1 x2 x3 = some z → wH V (cC V) (AC V) s w H locs → lv_has ls 4 [(0, .ref (V.2.2 35)), (1, .int x1), (2, .int x2), (3, .int x3)] → W p l e (rmD (d + 1)) s m args below meth c H locs 0 0 (MQ below (CtV V (cC V) (AC V) z) args s 0 0 (AC V)) (F0 m 5 ls [])) {w : Wd} {x1 : Int32} {x2 : Int32} {x3 : Int32} {H : Heap} {locs : List Loc} {ls : Array Slot} (h : bJ7_fill_53178_r36_5 N d  rec5 w x1 x2 x3 = some z) (hH : wH V (cC V) (AC V) s w H locs) (hl : lv_has ls 4 [(0, .ref (V.2.2 35)), (1, .int x1), (2, .int x2), (3, .int x3)]) : W p l e (rmD (d + 1)) s m args below meth c H locs 0 0 (MQ below (CtV V (cC V) (AC V) z) args s 0 0 (AC V)) (F0 m 5 ls []) := by
  unfold bJ7_fill_53178_r36_5 at h
  obtain ⟨hx, hb, hml, hown, hg, hrt, hlk, hK⟩ := id X
  refine lv_iload_n (pc := 5) hx hb dJ7_fill_53178_5 rfl (lv_at hl 2 rfl) ?_
  refine lv_iload_n (pc := 6) hx hb dJ7_fill_53178_6 rfl (lv_at hl 3 rfl) ?_
  refine b_icmp_ge (pc := 7) (tgt := 20) hx hb h dJ7_fill_53178_7 (by decide) (fun h => ?_) (fun h => ?_)
  · exact r_vret (pc := 20) X hH h dJ7_fill_53178_20
  · refine lv_aload_n (pc := 10) hx hb dJ7_fill_53178_10 rfl (lv_at hl 0 rfl) ?_
    refine lv_iload_n (pc := 11) hx hb dJ7_fill_53178_11 rfl (lv_at hl 2 rfl) ?_
    refine lv_iload_n (pc := 12) hx hb dJ7_fill_53178_12 rfl (lv_at hl 1 rfl) ?_
    refine r_st (pc := 13) X (heC_35 V w) (hsC_35 V w) hH h dJ7_fill_53178_13 (fun w1 H locs h hH => ?_)
    obtain ⟨x2_2, ex2_2, h⟩ := c_nm_ex h
    refine lv_iinc (pc := 14) (v := x2_2) (lv' := [(2, .int x2_2), (0, .ref (V.2.2 35)), (1, .int x1), (3, .int x3)]) hx hb dJ7_fill_53178_14 hl (k := 2) rfl (by rw [← ex2_2]; rfl) (by decide) rfl (fun ls hl => ?_)
    refine lv_goto (pc := 17) (tgt := 5) hx hb dJ7_fill_53178_17 (by decide) ?_
    exact hr5 _ _ _ _ _ _ _ h hH (lv_sub hl [1, 2, 0, 3] rfl)
def fJ7_fill_53178_r36_5 (N d : Nat)   : Nat → Wd → Int32 → Int32 → Int32 → Option (Wd)
  | 0 => fun _ _ _ _ => none
  | n + 1 => fun w x1 x2 x3 => bJ7_fill_53178_r36_5 N d   (fJ7_fill_53178_r36_5 N d   n) w x1 x2 x3
theorem lJ7_fill_53178_r36_5 {V : Ev} {p : Program} {l : Launch} {e : Env} {N d : Nat} {s : State} {m : MethodId} {args : Array Value} {below : List Frame} {meth : Method} {c : Code} {z : Wd} (X : CX V p s m args meth c cJ7_fill_53178 4 RJ7 none)    (n : Nat) {w : Wd} {x1 : Int32} {x2 : Int32} {x3 : Int32} {H : Heap} {locs : List Loc} {ls : Array Slot} (h : fJ7_fill_53178_r36_5 N d   n w x1 x2 x3 = some z) (hH : wH V (cC V) (AC V) s w H locs) (hl : lv_has ls 4 [(0, .ref (V.2.2 35)), (1, .int x1), (2, .int x2), (3, .int x3)]) : W p l e (rmD (d + 1)) s m args below meth c H locs 0 0 (MQ below (CtV V (cC V) (AC V) z) args s 0 0 (AC V)) (F0 m 5 ls []) := by
  induction n generalizing w x1 x2 x3 H locs ls with
  | zero => exact c_none h
  | succ n ih => exact kJ7_fill_53178_r36_5 (N := N) X  (fun _ _ _ _ _ _ _ h hH hl => ih h hH hl) h hH hl
def bJ7_fill_53178_r36_0 (N d : Nat)   (w : Wd) (x1 : Int32) : Option (Wd) :=
  fJ7_fill_53178_r36_5 N d   N w x1 ((0 : Int32)) ((8 : Int32))
set_option maxHeartbeats 4000000 in
theorem kJ7_fill_53178_r36_0 {V : Ev} {p : Program} {l : Launch} {e : Env} {N d : Nat} {s : State} {m : MethodId} {args : Array Value} {below : List Frame} {meth : Method} {c : Code} {z : Wd} (X : CX V p s m args meth c cJ7_fill_53178 4 RJ7 none)    {w : Wd} {x1 : Int32} {H : Heap} {locs : List Loc} {ls : Array Slot} (h : bJ7_fill_53178_r36_0 N d   w x1 = some z) (hH : wH V (cC V) (AC V) s w H locs) (hl : lv_has ls 4 [(0, .ref (V.2.2 35)), (1, .int x1)]) : W p l e (rmD (d + 1)) s m args below meth c H locs 0 0 (MQ below (CtV V (cC V) (AC V) z) args s 0 0 (AC V)) (F0 m 0 ls []) := by
  unfold bJ7_fill_53178_r36_0 at h
  obtain ⟨hx, hb, hml, hown, hg, hrt, hlk, hK⟩ := id X
  refine lv_iconst (pc := 0) (v := 0) hx hb dJ7_fill_53178_0 (by decide) ?_
  refine lv_istore_n (pc := 1) (lv' := [(2, .int ((0 : Int32))), (0, .ref (V.2.2 35)), (1, .int x1)]) hx hb dJ7_fill_53178_1 rfl hl (by decide) rfl (fun ls hl => ?_)
  refine lv_aload_n (pc := 2) hx hb dJ7_fill_53178_2 rfl (lv_at hl 1 rfl) ?_
  refine r_al (pc := 3) (t0 := 0) (v := 8) X (heC_35 V w) rfl hH (by decide) dJ7_fill_53178_3 ?_
  refine lv_istore_n (pc := 4) (lv' := [(3, .int ((8 : Int32))), (2, .int ((0 : Int32))), (0, .ref (V.2.2 35)), (1, .int x1)]) hx hb dJ7_fill_53178_4 rfl hl (by decide) rfl (fun ls hl => ?_)
  exact lJ7_fill_53178_r36_5 X   N h hH (lv_sub hl [2, 3, 1, 0] rfl)
def eJ7_fill_53178_r36 (N : Nat) : Nat → Wd → Int32 → Option (Wd)
  | 0 => fun _ _ => none
  | d + 1 => fun w x1 => bJ7_fill_53178_r36_0 N d  w x1
set_option maxHeartbeats 4000000 in
set_option maxRecDepth 20000 in
theorem mJ7_fill_53178_r36 {l : Launch} {V : Ev} {N d : Nat} {w : Wd} {x1 : Int32} {z : Wd} (h : eJ7_fill_53178_r36 N d w x1 = some z) : MetV l V (cC V) (AC V) yJ7_fill_53178 cJ7_fill_53178 4 none d [.ref (V.2.2 35), .int x1] w z := by
  cases d with
  | zero => exact c_none h
  | succ d =>
    refine Met.ofW (cc := cJ7_fill_53178) (maxL := 4) (ret := none) (by decide) rfl ?_
    intro p e s m args below meth c s₁ B hml hv
    obtain ⟨rfl, hP, hD, hK⟩ := hv
    have hts := atoms_spec (ws := .code yJ7_fill_53178 cJ7_fill_53178 4 none :: gG) B.pre
    have X : CX V p s m ([.ref (V.2.2 35), .int x1] : List Value).toArray meth c cJ7_fill_53178 4 RJ7 none := ⟨B.exec, B.bytes, hml, findClass_of_methodNamed B.named, fun w hw => hts w (List.mem_cons_of_mem _ hw), B.returns, B.notSynchronized, hK⟩
    have hl := lv_entry ([.ref (V.2.2 35), .int x1] : List Value) (n := 4) (Nat.le_of_ble_eq_true rfl)
    rw [lg_entry_eq]
    generalize (lg_sl ([.ref (V.2.2 35), .int x1] : List Value) ++ List.replicate (4 - (lg_sl ([.ref (V.2.2 35), .int x1] : List Value)).length) Slot.unset).toArray = ls at hl ⊢
    have hl : lv_has ls 4 [(0, .ref (V.2.2 35)), (1, .int x1)] := hl
    exact kJ7_fill_53178_r36_0 (N := N) X  h ⟨hP, hD, va_S.rf⟩ hl
theorem dX7_begin_0 : decode cX7_begin 0 = .ok (.aload_n 0, 1) := by decide +kernel
theorem dX7_begin_1 : decode cX7_begin 1 = .ok (.iload_n 1, 1) := by decide +kernel
theorem dX7_begin_2 : decode cX7_begin 2 = .ok (.putfield 25, 3) := by decide +kernel
theorem dX7_begin_5 : decode cX7_begin 5 = .ok (.aload_n 0, 1) := by decide +kernel
theorem dX7_begin_6 : decode cX7_begin 6 = .ok (.getfield 11, 3) := by decide +kernel
theorem dX7_begin_9 : decode cX7_begin 9 = .ok (.iconst 0, 1) := by decide +kernel
theorem dX7_begin_10 : decode cX7_begin 10 = .ok (.invokestatic 29, 3) := by decide +kernel
theorem dX7_begin_13 : decode cX7_begin 13 = .ok (.aload_n 0, 1) := by decide +kernel
theorem dX7_begin_14 : decode cX7_begin 14 = .ok (.getfield 15, 3) := by decide +kernel
theorem dX7_begin_17 : decode cX7_begin 17 = .ok (.iconst 0, 1) := by decide +kernel
theorem dX7_begin_18 : decode cX7_begin 18 = .ok (.invokestatic 29, 3) := by decide +kernel
theorem dX7_begin_21 : decode cX7_begin 21 = .ok (.return_, 1) := by decide +kernel
def bX7_begin_0 (N d : Nat)   (w : Wd) (x1 : Int32) : Option (Wd) :=
  c_pi w 10 x1 fun w1 =>
  c_cv (eJ7_fill_53178_r35 N d w1 0) fun w2 =>
  c_cv (eJ7_fill_53178_r36 N d w2 0) fun w3 =>
  some w3
set_option maxHeartbeats 4000000 in
theorem kX7_begin_0 {V : Ev} {p : Program} {l : Launch} {e : Env} {N d : Nat} {s : State} {m : MethodId} {args : Array Value} {below : List Frame} {meth : Method} {c : Code} {z : Wd} (X : CX V p s m args meth c cX7_begin 2 RX7 none)    {w : Wd} {x1 : Int32} {H : Heap} {locs : List Loc} {ls : Array Slot} (h : bX7_begin_0 N d   w x1 = some z) (hH : wH V (cC V) (AC V) s w H locs) (hl : lv_has ls 2 [(0, .ref (V.2.2 6)), (1, .int x1)]) : W p l e (rmD (d + 1)) s m args below meth c H locs 0 0 (MQ below (CtV V (cC V) (AC V) z) args s 0 0 (AC V)) (F0 m 0 ls []) := by
  unfold bX7_begin_0 at h
  obtain ⟨hx, hb, hml, hown, hg, hrt, hlk, hK⟩ := id X
  refine lv_aload_n (pc := 0) hx hb dX7_begin_0 rfl (lv_at hl 0 rfl) ?_
  refine lv_iload_n (pc := 1) hx hb dX7_begin_1 rfl (lv_at hl 1 rfl) ?_
  refine pC_X7_25_6 (pc := 2) X hH h dX7_begin_2 (fun w1 H locs h hH => ?_)
  refine lv_aload_n (pc := 5) hx hb dX7_begin_5 rfl (lv_at hl 0 rfl) ?_
  refine gC_X7_11_6 (pc := 6) X hH dX7_begin_6 ?_
  refine lv_iconst (pc := 9) (v := 0) hx hb dX7_begin_9 (by decide) ?_
  refine r_csV (pc := 10) (As := [.ref (V.2.2 34), .int 0]) (rest := []) X hH (fun x hx => mJ7_fill_53178_r35 hx) cs_X7_29 rfl rfl (Nat.le_of_ble_eq_true rfl) hl.1 h dX7_begin_10 (fun w2 H locs h hH => ?_)
  refine lv_aload_n (pc := 13) hx hb dX7_begin_13 rfl (lv_at hl 0 rfl) ?_
  refine gC_X7_15_6 (pc := 14) X hH dX7_begin_14 ?_
  refine lv_iconst (pc := 17) (v := 0) hx hb dX7_begin_17 (by decide) ?_
  refine r_csV (pc := 18) (As := [.ref (V.2.2 35), .int 0]) (rest := []) X hH (fun x hx => mJ7_fill_53178_r36 hx) cs_X7_29 rfl rfl (Nat.le_of_ble_eq_true rfl) hl.1 h dX7_begin_18 (fun w3 H locs h hH => ?_)
  exact r_vret (pc := 21) X hH h dX7_begin_21
def eX7_begin (N : Nat) : Nat → Wd → Int32 → Option (Wd)
  | 0 => fun _ _ => none
  | d + 1 => fun w x1 => bX7_begin_0 N d  w x1
set_option maxHeartbeats 4000000 in
set_option maxRecDepth 20000 in
theorem mX7_begin {l : Launch} {V : Ev} {N d : Nat} {w : Wd} {x1 : Int32} {z : Wd} (h : eX7_begin N d w x1 = some z) : MetV l V (cC V) (AC V) yX7_begin cX7_begin 2 none d [.ref (V.2.2 6), .int x1] w z := by
  cases d with
  | zero => exact c_none h
  | succ d =>
    refine Met.ofW (cc := cX7_begin) (maxL := 2) (ret := none) (by decide) rfl ?_
    intro p e s m args below meth c s₁ B hml hv
    obtain ⟨rfl, hP, hD, hK⟩ := hv
    have hts := atoms_spec (ws := .code yX7_begin cX7_begin 2 none :: gG) B.pre
    have X : CX V p s m ([.ref (V.2.2 6), .int x1] : List Value).toArray meth c cX7_begin 2 RX7 none := ⟨B.exec, B.bytes, hml, findClass_of_methodNamed B.named, fun w hw => hts w (List.mem_cons_of_mem _ hw), B.returns, B.notSynchronized, hK⟩
    have hl := lv_entry ([.ref (V.2.2 6), .int x1] : List Value) (n := 2) (Nat.le_of_ble_eq_true rfl)
    rw [lg_entry_eq]
    generalize (lg_sl ([.ref (V.2.2 6), .int x1] : List Value) ++ List.replicate (2 - (lg_sl ([.ref (V.2.2 6), .int x1] : List Value)).length) Slot.unset).toArray = ls at hl ⊢
    have hl : lv_has ls 2 [(0, .ref (V.2.2 6)), (1, .int x1)] := hl
    exact kX7_begin_0 (N := N) X  h ⟨hP, hD, va_S.rf⟩ hl
theorem dX10_tables_0 : decode cX10_tables 0 = .ok (.iload_n 1, 1) := by decide +kernel
theorem dX10_tables_1 : decode cX10_tables 1 = .ok (.iconst 1, 1) := by decide +kernel
theorem dX10_tables_2 : decode cX10_tables 2 = .ok (.if_icmp .lt 8, 3) := by decide +kernel
theorem dX10_tables_5 : decode cX10_tables 5 = .ok (.iload_n 1, 1) := by decide +kernel
theorem dX10_tables_6 : decode cX10_tables 6 = .ok (.iconst 3, 1) := by decide +kernel
theorem dX10_tables_7 : decode cX10_tables 7 = .ok (.if_icmp .le 6, 3) := by decide +kernel
theorem dX10_tables_10 : decode cX10_tables 10 = .ok (.bipush (-2), 2) := by decide +kernel
theorem dX10_tables_12 : decode cX10_tables 12 = .ok (.ireturn, 1) := by decide +kernel
theorem dX10_tables_13 : decode cX10_tables 13 = .ok (.aload_n 0, 1) := by decide +kernel
theorem dX10_tables_14 : decode cX10_tables 14 = .ok (.getfield 51, 3) := by decide +kernel
theorem dX10_tables_17 : decode cX10_tables 17 = .ok (.iload_n 1, 1) := by decide +kernel
theorem dX10_tables_18 : decode cX10_tables 18 = .ok (.invokevirtual 170, 3) := by decide +kernel
theorem dX10_tables_21 : decode cX10_tables 21 = .ok (.iload_n 1, 1) := by decide +kernel
theorem dX10_tables_22 : decode cX10_tables 22 = .ok (.ireturn, 1) := by decide +kernel
def bX10_tables_10 (N d : Nat)   (w : Wd)  : Option (Wd × Int32) :=
  some (w, -2)
set_option maxHeartbeats 4000000 in
theorem kX10_tables_10 {V : Ev} {p : Program} {l : Launch} {e : Env} {N d : Nat} {s : State} {m : MethodId} {args : Array Value} {below : List Frame} {meth : Method} {c : Code} {z : Wd × Int32} (X : CX V p s m args meth c cX10_tables 2 RX10 (some .int))    {w : Wd}  {H : Heap} {locs : List Loc} {ls : Array Slot} (h : bX10_tables_10 N d   w  = some z) (hH : wH V (cC V) (AC V) s w H locs) (hl : lv_has ls 2 []) : W p l e (rmD (d + 1)) s m args below meth c H locs 0 0 (MQ below (CtI V (cC V) (AC V) z) args s 0 0 (AC V)) (F0 m 10 ls []) := by
  unfold bX10_tables_10 at h
  obtain ⟨hx, hb, hml, hown, hg, hrt, hlk, hK⟩ := id X
  refine lv_bipush (pc := 10) (v := -2) hx hb dX10_tables_10 (by decide) ?_
  exact r_iret (pc := 12) X hH h dX10_tables_12
def bX10_tables_0 (N d : Nat)   (w : Wd) (x1 : Int32) : Option (Wd × Int32) :=
  if x1 < 1 then (
    bX10_tables_10 N d   w 
  ) else (
    if x1 ≤ 3 then (
      c_cv (eX7_begin N d w x1) fun w1 =>
      some (w1, x1)
    ) else (
      bX10_tables_10 N d   w 
    )
  )
set_option maxHeartbeats 4000000 in
theorem kX10_tables_0 {V : Ev} {p : Program} {l : Launch} {e : Env} {N d : Nat} {s : State} {m : MethodId} {args : Array Value} {below : List Frame} {meth : Method} {c : Code} {z : Wd × Int32} (X : CX V p s m args meth c cX10_tables 2 RX10 (some .int))    {w : Wd} {x1 : Int32} {H : Heap} {locs : List Loc} {ls : Array Slot} (h : bX10_tables_0 N d   w x1 = some z) (hH : wH V (cC V) (AC V) s w H locs) (hl : lv_has ls 2 [(0, .ref (V.2.2 0)), (1, .int x1)]) : W p l e (rmD (d + 1)) s m args below meth c H locs 0 0 (MQ below (CtI V (cC V) (AC V) z) args s 0 0 (AC V)) (F0 m 0 ls []) := by
  unfold bX10_tables_0 at h
  obtain ⟨hx, hb, hml, hown, hg, hrt, hlk, hK⟩ := id X
  refine lv_iload_n (pc := 0) hx hb dX10_tables_0 rfl (lv_at hl 1 rfl) ?_
  refine lv_iconst (pc := 1) (v := 1) hx hb dX10_tables_1 (by decide) ?_
  refine b_icmp_lt (pc := 2) (tgt := 10) hx hb h dX10_tables_2 (by decide) (fun h => ?_) (fun h => ?_)
  · exact kX10_tables_10 X   h hH (lv_sub hl [] rfl)
  · refine lv_iload_n (pc := 5) hx hb dX10_tables_5 rfl (lv_at hl 1 rfl) ?_
    refine lv_iconst (pc := 6) (v := 3) hx hb dX10_tables_6 (by decide) ?_
    refine b_icmp_le (pc := 7) (tgt := 13) hx hb h dX10_tables_7 (by decide) (fun h => ?_) (fun h => ?_)
    · refine lv_aload_n (pc := 13) hx hb dX10_tables_13 rfl (lv_at hl 0 rfl) ?_
      refine gC_X10_51_0 (pc := 14) X hH dX10_tables_14 ?_
      refine lv_iload_n (pc := 17) hx hb dX10_tables_17 rfl (lv_at hl 1 rfl) ?_
      refine r_cvV (pc := 18) (As := [.int x1]) (rest := []) X hH (fun x hx => mX7_begin hx) cw_X10_170 (heC_6 V w) rfl rfl rfl (Nat.le_of_ble_eq_true rfl) hl.1 h dX10_tables_18 (fun w1 H locs h hH => ?_)
      refine lv_iload_n (pc := 21) hx hb dX10_tables_21 rfl (lv_at hl 1 rfl) ?_
      exact r_iret (pc := 22) X hH h dX10_tables_22
    · exact kX10_tables_10 X   h hH (lv_sub hl [] rfl)
def eX10_tables (N : Nat) : Nat → Wd → Int32 → Option (Wd × Int32)
  | 0 => fun _ _ => none
  | d + 1 => fun w x1 => bX10_tables_0 N d  w x1
set_option maxHeartbeats 4000000 in
set_option maxRecDepth 20000 in
theorem mX10_tables {l : Launch} {V : Ev} {N d : Nat} {w : Wd} {x1 : Int32} {z : Wd × Int32} (h : eX10_tables N d w x1 = some z) : MetI l V (cC V) (AC V) yX10_tables cX10_tables 2 (some .int) d [.ref (V.2.2 0), .int x1] w z := by
  cases d with
  | zero => exact c_none h
  | succ d =>
    refine Met.ofW (cc := cX10_tables) (maxL := 2) (ret := (some .int)) (by decide) rfl ?_
    intro p e s m args below meth c s₁ B hml hv
    obtain ⟨rfl, hP, hD, hK⟩ := hv
    have hts := atoms_spec (ws := .code yX10_tables cX10_tables 2 (some .int) :: gG) B.pre
    have X : CX V p s m ([.ref (V.2.2 0), .int x1] : List Value).toArray meth c cX10_tables 2 RX10 (some .int) := ⟨B.exec, B.bytes, hml, findClass_of_methodNamed B.named, fun w hw => hts w (List.mem_cons_of_mem _ hw), B.returns, B.notSynchronized, hK⟩
    have hl := lv_entry ([.ref (V.2.2 0), .int x1] : List Value) (n := 2) (Nat.le_of_ble_eq_true rfl)
    rw [lg_entry_eq]
    generalize (lg_sl ([.ref (V.2.2 0), .int x1] : List Value) ++ List.replicate (2 - (lg_sl ([.ref (V.2.2 0), .int x1] : List Value)).length) Slot.unset).toArray = ls at hl ⊢
    have hl : lv_has ls 2 [(0, .ref (V.2.2 0)), (1, .int x1)] := hl
    exact kX10_tables_0 (N := N) X  h ⟨hP, hD, va_S.rf⟩ hl
theorem dX10_isValue_0 : decode cX10_isValue 0 = .ok (.iload_n 1, 1) := by decide +kernel
theorem dX10_isValue_1 : decode cX10_isValue 1 = .ok (.aload_n 0, 1) := by decide +kernel
theorem dX10_isValue_2 : decode cX10_isValue 2 = .ok (.getfield 51, 3) := by decide +kernel
theorem dX10_isValue_5 : decode cX10_isValue 5 = .ok (.getfield 171, 3) := by decide +kernel
theorem dX10_isValue_8 : decode cX10_isValue 8 = .ok (.iconst 1, 1) := by decide +kernel
theorem dX10_isValue_9 : decode cX10_isValue 9 = .ok (.iadd, 1) := by decide +kernel
theorem dX10_isValue_10 : decode cX10_isValue 10 = .ok (.invokestatic 66, 3) := by decide +kernel
theorem dX10_isValue_13 : decode cX10_isValue 13 = .ok (.ireturn, 1) := by decide +kernel
def bX10_isValue_0 (N d : Nat)   (w : Wd) (x1 : Int32) : Option (Wd × Int32) :=
  c_cl (eX10_isWithin N d w x1 ((sI w 10) + 1)) fun w1 v2 =>
  c_bo v2 (some (w1, v2))
set_option maxHeartbeats 4000000 in
theorem kX10_isValue_0 {V : Ev} {p : Program} {l : Launch} {e : Env} {N d : Nat} {s : State} {m : MethodId} {args : Array Value} {below : List Frame} {meth : Method} {c : Code} {z : Wd × Int32} (X : CX V p s m args meth c cX10_isValue 2 RX10 (some .boolean))    {w : Wd} {x1 : Int32} {H : Heap} {locs : List Loc} {ls : Array Slot} (h : bX10_isValue_0 N d   w x1 = some z) (hH : wH V (cC V) (AC V) s w H locs) (hl : lv_has ls 2 [(0, .ref (V.2.2 0)), (1, .int x1)]) : W p l e (rmD (d + 1)) s m args below meth c H locs 0 0 (MQ below (CtI V (cC V) (AC V) z) args s 0 0 (AC V)) (F0 m 0 ls []) := by
  unfold bX10_isValue_0 at h
  obtain ⟨hx, hb, hml, hown, hg, hrt, hlk, hK⟩ := id X
  refine lv_iload_n (pc := 0) hx hb dX10_isValue_0 rfl (lv_at hl 1 rfl) ?_
  refine lv_aload_n (pc := 1) hx hb dX10_isValue_1 rfl (lv_at hl 0 rfl) ?_
  refine gC_X10_51_0 (pc := 2) X hH dX10_isValue_2 ?_
  refine gC_X10_171_6 (pc := 5) X hH dX10_isValue_5 ?_
  refine lv_iconst (pc := 8) (v := 1) hx hb dX10_isValue_8 (by decide) ?_
  refine lv_iadd (pc := 9) hx hb dX10_isValue_9 ?_
  refine r_csI (pc := 10) (As := [.int x1, .int ((sI w 10) + 1)]) (rest := []) X hH (fun x hx => mX10_isWithin hx) cs_X10_66 rfl rfl (Nat.le_of_ble_eq_true rfl) hl.1 h dX10_isValue_10 (fun w1 v2 H locs h hH => ?_)
  exact r_zret (pc := 13) X hH h dX10_isValue_13
def eX10_isValue (N : Nat) : Nat → Wd → Int32 → Option (Wd × Int32)
  | 0 => fun _ _ => none
  | d + 1 => fun w x1 => bX10_isValue_0 N d  w x1
set_option maxHeartbeats 4000000 in
set_option maxRecDepth 20000 in
theorem mX10_isValue {l : Launch} {V : Ev} {N d : Nat} {w : Wd} {x1 : Int32} {z : Wd × Int32} (h : eX10_isValue N d w x1 = some z) : MetI l V (cC V) (AC V) yX10_isValue cX10_isValue 2 (some .boolean) d [.ref (V.2.2 0), .int x1] w z := by
  cases d with
  | zero => exact c_none h
  | succ d =>
    refine Met.ofW (cc := cX10_isValue) (maxL := 2) (ret := (some .boolean)) (by decide) rfl ?_
    intro p e s m args below meth c s₁ B hml hv
    obtain ⟨rfl, hP, hD, hK⟩ := hv
    have hts := atoms_spec (ws := .code yX10_isValue cX10_isValue 2 (some .boolean) :: gG) B.pre
    have X : CX V p s m ([.ref (V.2.2 0), .int x1] : List Value).toArray meth c cX10_isValue 2 RX10 (some .boolean) := ⟨B.exec, B.bytes, hml, findClass_of_methodNamed B.named, fun w hw => hts w (List.mem_cons_of_mem _ hw), B.returns, B.notSynchronized, hK⟩
    have hl := lv_entry ([.ref (V.2.2 0), .int x1] : List Value) (n := 2) (Nat.le_of_ble_eq_true rfl)
    rw [lg_entry_eq]
    generalize (lg_sl ([.ref (V.2.2 0), .int x1] : List Value) ++ List.replicate (2 - (lg_sl ([.ref (V.2.2 0), .int x1] : List Value)).length) Slot.unset).toArray = ls at hl ⊢
    have hl : lv_has ls 2 [(0, .ref (V.2.2 0)), (1, .int x1)] := hl
    exact kX10_isValue_0 (N := N) X  h ⟨hP, hD, va_S.rf⟩ hl
theorem dX7_cellAt_0 : decode cX7_cellAt 0 = .ok (.iload_n 0, 1) := by decide +kernel
theorem dX7_cellAt_1 : decode cX7_cellAt 1 = .ok (.iconst 4, 1) := by decide +kernel
theorem dX7_cellAt_2 : decode cX7_cellAt 2 = .ok (.imul, 1) := by decide +kernel
theorem dX7_cellAt_3 : decode cX7_cellAt 3 = .ok (.iload_n 1, 1) := by decide +kernel
theorem dX7_cellAt_4 : decode cX7_cellAt 4 = .ok (.iadd, 1) := by decide +kernel
theorem dX7_cellAt_5 : decode cX7_cellAt 5 = .ok (.iconst 4, 1) := by decide +kernel
theorem dX7_cellAt_6 : decode cX7_cellAt 6 = .ok (.imul, 1) := by decide +kernel
theorem dX7_cellAt_7 : decode cX7_cellAt 7 = .ok (.iload_n 2, 1) := by decide +kernel
theorem dX7_cellAt_8 : decode cX7_cellAt 8 = .ok (.iadd, 1) := by decide +kernel
theorem dX7_cellAt_9 : decode cX7_cellAt 9 = .ok (.ireturn, 1) := by decide +kernel
def bX7_cellAt_0 (N d : Nat)   (w : Wd) (x0 : Int32) (x1 : Int32) (x2 : Int32) : Option (Wd × Int32) :=
  some (w, (((x0 * 4) + x1) * 4) + x2)
set_option maxHeartbeats 4000000 in
theorem kX7_cellAt_0 {V : Ev} {p : Program} {l : Launch} {e : Env} {N d : Nat} {s : State} {m : MethodId} {args : Array Value} {below : List Frame} {meth : Method} {c : Code} {z : Wd × Int32} (X : CX V p s m args meth c cX7_cellAt 3 RX7 (some .int))    {w : Wd} {x0 : Int32} {x1 : Int32} {x2 : Int32} {H : Heap} {locs : List Loc} {ls : Array Slot} (h : bX7_cellAt_0 N d   w x0 x1 x2 = some z) (hH : wH V (cC V) (AC V) s w H locs) (hl : lv_has ls 3 [(0, .int x0), (1, .int x1), (2, .int x2)]) : W p l e (rmD (d + 1)) s m args below meth c H locs 0 0 (MQ below (CtI V (cC V) (AC V) z) args s 0 0 (AC V)) (F0 m 0 ls []) := by
  unfold bX7_cellAt_0 at h
  obtain ⟨hx, hb, hml, hown, hg, hrt, hlk, hK⟩ := id X
  refine lv_iload_n (pc := 0) hx hb dX7_cellAt_0 rfl (lv_at hl 0 rfl) ?_
  refine lv_iconst (pc := 1) (v := 4) hx hb dX7_cellAt_1 (by decide) ?_
  refine lv_imul (pc := 2) hx hb dX7_cellAt_2 ?_
  refine lv_iload_n (pc := 3) hx hb dX7_cellAt_3 rfl (lv_at hl 1 rfl) ?_
  refine lv_iadd (pc := 4) hx hb dX7_cellAt_4 ?_
  refine lv_iconst (pc := 5) (v := 4) hx hb dX7_cellAt_5 (by decide) ?_
  refine lv_imul (pc := 6) hx hb dX7_cellAt_6 ?_
  refine lv_iload_n (pc := 7) hx hb dX7_cellAt_7 rfl (lv_at hl 2 rfl) ?_
  refine lv_iadd (pc := 8) hx hb dX7_cellAt_8 ?_
  exact r_iret (pc := 9) X hH h dX7_cellAt_9
def eX7_cellAt (N : Nat) : Nat → Wd → Int32 → Int32 → Int32 → Option (Wd × Int32)
  | 0 => fun _ _ _ _ => none
  | d + 1 => fun w x0 x1 x2 => bX7_cellAt_0 N d  w x0 x1 x2
set_option maxHeartbeats 4000000 in
set_option maxRecDepth 20000 in
theorem mX7_cellAt {l : Launch} {V : Ev} {N d : Nat} {w : Wd} {x0 : Int32} {x1 : Int32} {x2 : Int32} {z : Wd × Int32} (h : eX7_cellAt N d w x0 x1 x2 = some z) : MetI l V (cC V) (AC V) yX7_cellAt cX7_cellAt 3 (some .int) d [.int x0, .int x1, .int x2] w z := by
  cases d with
  | zero => exact c_none h
  | succ d =>
    refine Met.ofW (cc := cX7_cellAt) (maxL := 3) (ret := (some .int)) (by decide) rfl ?_
    intro p e s m args below meth c s₁ B hml hv
    obtain ⟨rfl, hP, hD, hK⟩ := hv
    have hts := atoms_spec (ws := .code yX7_cellAt cX7_cellAt 3 (some .int) :: gG) B.pre
    have X : CX V p s m ([.int x0, .int x1, .int x2] : List Value).toArray meth c cX7_cellAt 3 RX7 (some .int) := ⟨B.exec, B.bytes, hml, findClass_of_methodNamed B.named, fun w hw => hts w (List.mem_cons_of_mem _ hw), B.returns, B.notSynchronized, hK⟩
    have hl := lv_entry ([.int x0, .int x1, .int x2] : List Value) (n := 3) (Nat.le_of_ble_eq_true rfl)
    rw [lg_entry_eq]
    generalize (lg_sl ([.int x0, .int x1, .int x2] : List Value) ++ List.replicate (3 - (lg_sl ([.int x0, .int x1, .int x2] : List Value)).length) Slot.unset).toArray = ls at hl ⊢
    have hl : lv_has ls 3 [(0, .int x0), (1, .int x1), (2, .int x2)] := hl
    exact kX7_cellAt_0 (N := N) X  h ⟨hP, hD, va_S.rf⟩ hl
theorem dX7_write_0 : decode cX7_write 0 = .ok (.iload_n 1, 1) := by decide +kernel
theorem dX7_write_1 : decode cX7_write 1 = .ok (.iload_n 2, 1) := by decide +kernel
theorem dX7_write_2 : decode cX7_write 2 = .ok (.iload_n 3, 1) := by decide +kernel
theorem dX7_write_3 : decode cX7_write 3 = .ok (.invokestatic 35, 3) := by decide +kernel
theorem dX7_write_6 : decode cX7_write 6 = .ok (.istore 5, 2) := by decide +kernel
theorem dX7_write_8 : decode cX7_write 8 = .ok (.aload_n 0, 1) := by decide +kernel
theorem dX7_write_9 : decode cX7_write 9 = .ok (.getfield 11, 3) := by decide +kernel
theorem dX7_write_12 : decode cX7_write 12 = .ok (.iload 5, 2) := by decide +kernel
theorem dX7_write_14 : decode cX7_write 14 = .ok (.iaload, 1) := by decide +kernel
theorem dX7_write_15 : decode cX7_write 15 = .ok (.istore 6, 2) := by decide +kernel
theorem dX7_write_17 : decode cX7_write 17 = .ok (.aload_n 0, 1) := by decide +kernel
theorem dX7_write_18 : decode cX7_write 18 = .ok (.getfield 11, 3) := by decide +kernel
theorem dX7_write_21 : decode cX7_write 21 = .ok (.iload 5, 2) := by decide +kernel
theorem dX7_write_23 : decode cX7_write 23 = .ok (.iload 4, 2) := by decide +kernel
theorem dX7_write_25 : decode cX7_write 25 = .ok (.iastore, 1) := by decide +kernel
theorem dX7_write_26 : decode cX7_write 26 = .ok (.iload 6, 2) := by decide +kernel
theorem dX7_write_28 : decode cX7_write 28 = .ok (.ireturn, 1) := by decide +kernel
def bX7_write_0 (N d : Nat)   (w : Wd) (x1 : Int32) (x2 : Int32) (x3 : Int32) (x4 : Int32) : Option (Wd × Int32) :=
  c_cl (eX7_cellAt N d w x1 x2 x3) fun w1 v2 =>
  c_ld w1 35 160 v2 fun v3 =>
  c_st w1 35 160 v2 x4 fun w4 =>
  some (w4, v3)
set_option maxHeartbeats 4000000 in
theorem kX7_write_0 {V : Ev} {p : Program} {l : Launch} {e : Env} {N d : Nat} {s : State} {m : MethodId} {args : Array Value} {below : List Frame} {meth : Method} {c : Code} {z : Wd × Int32} (X : CX V p s m args meth c cX7_write 7 RX7 (some .int))    {w : Wd} {x1 : Int32} {x2 : Int32} {x3 : Int32} {x4 : Int32} {H : Heap} {locs : List Loc} {ls : Array Slot} (h : bX7_write_0 N d   w x1 x2 x3 x4 = some z) (hH : wH V (cC V) (AC V) s w H locs) (hl : lv_has ls 7 [(0, .ref (V.2.2 6)), (1, .int x1), (2, .int x2), (3, .int x3), (4, .int x4)]) : W p l e (rmD (d + 1)) s m args below meth c H locs 0 0 (MQ below (CtI V (cC V) (AC V) z) args s 0 0 (AC V)) (F0 m 0 ls []) := by
  unfold bX7_write_0 at h
  obtain ⟨hx, hb, hml, hown, hg, hrt, hlk, hK⟩ := id X
  refine lv_iload_n (pc := 0) hx hb dX7_write_0 rfl (lv_at hl 1 rfl) ?_
  refine lv_iload_n (pc := 1) hx hb dX7_write_1 rfl (lv_at hl 2 rfl) ?_
  refine lv_iload_n (pc := 2) hx hb dX7_write_2 rfl (lv_at hl 3 rfl) ?_
  refine r_csI (pc := 3) (As := [.int x1, .int x2, .int x3]) (rest := []) X hH (fun x hx => mX7_cellAt hx) cs_X7_35 rfl rfl (Nat.le_of_ble_eq_true rfl) hl.1 h dX7_write_3 (fun w1 v2 H locs h hH => ?_)
  refine lv_istore (pc := 6) (lv' := [(5, .int v2), (0, .ref (V.2.2 6)), (1, .int x1), (2, .int x2), (3, .int x3), (4, .int x4)]) hx hb dX7_write_6 hl (by decide) rfl (fun ls hl => ?_)
  refine lv_aload_n (pc := 8) hx hb dX7_write_8 rfl (lv_at hl 1 rfl) ?_
  refine gC_X7_11_6 (pc := 9) X hH dX7_write_9 ?_
  refine lv_iload (pc := 12) hx hb dX7_write_12 (lv_at hl 0 rfl) ?_
  refine r_ld (pc := 14) X (heC_34 V w1) hH h dX7_write_14 (fun v3 h => ?_)
  refine lv_istore (pc := 15) (lv' := [(6, .int v3), (5, .int v2), (0, .ref (V.2.2 6)), (1, .int x1), (2, .int x2), (3, .int x3), (4, .int x4)]) hx hb dX7_write_15 hl (by decide) rfl (fun ls hl => ?_)
  refine lv_aload_n (pc := 17) hx hb dX7_write_17 rfl (lv_at hl 2 rfl) ?_
  refine gC_X7_11_6 (pc := 18) X hH dX7_write_18 ?_
  refine lv_iload (pc := 21) hx hb dX7_write_21 (lv_at hl 1 rfl) ?_
  refine lv_iload (pc := 23) hx hb dX7_write_23 (lv_at hl 6 rfl) ?_
  refine r_st (pc := 25) X (heC_34 V w1) (hsC_34 V w1) hH h dX7_write_25 (fun w4 H locs h hH => ?_)
  refine lv_iload (pc := 26) hx hb dX7_write_26 (lv_at hl 0 rfl) ?_
  exact r_iret (pc := 28) X hH h dX7_write_28
def eX7_write (N : Nat) : Nat → Wd → Int32 → Int32 → Int32 → Int32 → Option (Wd × Int32)
  | 0 => fun _ _ _ _ _ => none
  | d + 1 => fun w x1 x2 x3 x4 => bX7_write_0 N d  w x1 x2 x3 x4
set_option maxHeartbeats 4000000 in
set_option maxRecDepth 20000 in
theorem mX7_write {l : Launch} {V : Ev} {N d : Nat} {w : Wd} {x1 : Int32} {x2 : Int32} {x3 : Int32} {x4 : Int32} {z : Wd × Int32} (h : eX7_write N d w x1 x2 x3 x4 = some z) : MetI l V (cC V) (AC V) yX7_write cX7_write 7 (some .int) d [.ref (V.2.2 6), .int x1, .int x2, .int x3, .int x4] w z := by
  cases d with
  | zero => exact c_none h
  | succ d =>
    refine Met.ofW (cc := cX7_write) (maxL := 7) (ret := (some .int)) (by decide) rfl ?_
    intro p e s m args below meth c s₁ B hml hv
    obtain ⟨rfl, hP, hD, hK⟩ := hv
    have hts := atoms_spec (ws := .code yX7_write cX7_write 7 (some .int) :: gG) B.pre
    have X : CX V p s m ([.ref (V.2.2 6), .int x1, .int x2, .int x3, .int x4] : List Value).toArray meth c cX7_write 7 RX7 (some .int) := ⟨B.exec, B.bytes, hml, findClass_of_methodNamed B.named, fun w hw => hts w (List.mem_cons_of_mem _ hw), B.returns, B.notSynchronized, hK⟩
    have hl := lv_entry ([.ref (V.2.2 6), .int x1, .int x2, .int x3, .int x4] : List Value) (n := 7) (Nat.le_of_ble_eq_true rfl)
    rw [lg_entry_eq]
    generalize (lg_sl ([.ref (V.2.2 6), .int x1, .int x2, .int x3, .int x4] : List Value) ++ List.replicate (7 - (lg_sl ([.ref (V.2.2 6), .int x1, .int x2, .int x3, .int x4] : List Value)).length) Slot.unset).toArray = ls at hl ⊢
    have hl : lv_has ls 7 [(0, .ref (V.2.2 6)), (1, .int x1), (2, .int x2), (3, .int x3), (4, .int x4)] := hl
    exact kX7_write_0 (N := N) X  h ⟨hP, hD, va_S.rf⟩ hl
theorem dX10_cell_0 : decode cX10_cell 0 = .ok (.aload_n 0, 1) := by decide +kernel
theorem dX10_cell_1 : decode cX10_cell 1 = .ok (.getfield 51, 3) := by decide +kernel
theorem dX10_cell_4 : decode cX10_cell 4 = .ok (.getfield 171, 3) := by decide +kernel
theorem dX10_cell_7 : decode cX10_cell 7 = .ok (.ifCond .ne 6, 3) := by decide +kernel
theorem dX10_cell_10 : decode cX10_cell 10 = .ok (.bipush (-3), 2) := by decide +kernel
theorem dX10_cell_12 : decode cX10_cell 12 = .ok (.ireturn, 1) := by decide +kernel
theorem dX10_cell_13 : decode cX10_cell 13 = .ok (.iload_n 1, 1) := by decide +kernel
theorem dX10_cell_14 : decode cX10_cell 14 = .ok (.aload_n 0, 1) := by decide +kernel
theorem dX10_cell_15 : decode cX10_cell 15 = .ok (.getfield 15, 3) := by decide +kernel
theorem dX10_cell_18 : decode cX10_cell 18 = .ok (.getfield 74, 3) := by decide +kernel
theorem dX10_cell_21 : decode cX10_cell 21 = .ok (.invokestatic 66, 3) := by decide +kernel
theorem dX10_cell_24 : decode cX10_cell 24 = .ok (.ifCond .eq 12, 3) := by decide +kernel
theorem dX10_cell_27 : decode cX10_cell 27 = .ok (.aload_n 0, 1) := by decide +kernel
theorem dX10_cell_28 : decode cX10_cell 28 = .ok (.iload 4, 2) := by decide +kernel
theorem dX10_cell_30 : decode cX10_cell 30 = .ok (.invokevirtual 174, 3) := by decide +kernel
theorem dX10_cell_33 : decode cX10_cell 33 = .ok (.ifCond .ne 6, 3) := by decide +kernel
theorem dX10_cell_36 : decode cX10_cell 36 = .ok (.bipush (-2), 2) := by decide +kernel
theorem dX10_cell_38 : decode cX10_cell 38 = .ok (.ireturn, 1) := by decide +kernel
theorem dX10_cell_39 : decode cX10_cell 39 = .ok (.aload_n 0, 1) := by decide +kernel
theorem dX10_cell_40 : decode cX10_cell 40 = .ok (.getfield 15, 3) := by decide +kernel
theorem dX10_cell_43 : decode cX10_cell 43 = .ok (.getfield 78, 3) := by decide +kernel
theorem dX10_cell_46 : decode cX10_cell 46 = .ok (.iload_n 1, 1) := by decide +kernel
theorem dX10_cell_47 : decode cX10_cell 47 = .ok (.iaload, 1) := by decide +kernel
theorem dX10_cell_48 : decode cX10_cell 48 = .ok (.istore 5, 2) := by decide +kernel
theorem dX10_cell_50 : decode cX10_cell 50 = .ok (.iload 5, 2) := by decide +kernel
theorem dX10_cell_52 : decode cX10_cell 52 = .ok (.ifCond .le 11, 3) := by decide +kernel
theorem dX10_cell_55 : decode cX10_cell 55 = .ok (.aload_n 0, 1) := by decide +kernel
theorem dX10_cell_56 : decode cX10_cell 56 = .ok (.iload_n 2, 1) := by decide +kernel
theorem dX10_cell_57 : decode cX10_cell 57 = .ok (.invokevirtual 174, 3) := by decide +kernel
theorem dX10_cell_60 : decode cX10_cell 60 = .ok (.ifCond .eq 17, 3) := by decide +kernel
theorem dX10_cell_63 : decode cX10_cell 63 = .ok (.iload 5, 2) := by decide +kernel
theorem dX10_cell_65 : decode cX10_cell 65 = .ok (.iconst 1, 1) := by decide +kernel
theorem dX10_cell_66 : decode cX10_cell 66 = .ok (.if_icmp .le 14, 3) := by decide +kernel
theorem dX10_cell_69 : decode cX10_cell 69 = .ok (.aload_n 0, 1) := by decide +kernel
theorem dX10_cell_70 : decode cX10_cell 70 = .ok (.iload_n 3, 1) := by decide +kernel
theorem dX10_cell_71 : decode cX10_cell 71 = .ok (.invokevirtual 174, 3) := by decide +kernel
theorem dX10_cell_74 : decode cX10_cell 74 = .ok (.ifCond .ne 6, 3) := by decide +kernel
theorem dX10_cell_77 : decode cX10_cell 77 = .ok (.bipush (-2), 2) := by decide +kernel
theorem dX10_cell_79 : decode cX10_cell 79 = .ok (.ireturn, 1) := by decide +kernel
theorem dX10_cell_80 : decode cX10_cell 80 = .ok (.aload_n 0, 1) := by decide +kernel
theorem dX10_cell_81 : decode cX10_cell 81 = .ok (.getfield 51, 3) := by decide +kernel
theorem dX10_cell_84 : decode cX10_cell 84 = .ok (.iload_n 1, 1) := by decide +kernel
theorem dX10_cell_85 : decode cX10_cell 85 = .ok (.iload 5, 2) := by decide +kernel
theorem dX10_cell_87 : decode cX10_cell 87 = .ok (.ifCond .le 7, 3) := by decide +kernel
theorem dX10_cell_90 : decode cX10_cell 90 = .ok (.iload_n 2, 1) := by decide +kernel
theorem dX10_cell_91 : decode cX10_cell 91 = .ok (.goto 4, 3) := by decide +kernel
theorem dX10_cell_94 : decode cX10_cell 94 = .ok (.iconst 0, 1) := by decide +kernel
theorem dX10_cell_95 : decode cX10_cell 95 = .ok (.iload 5, 2) := by decide +kernel
theorem dX10_cell_97 : decode cX10_cell 97 = .ok (.iconst 1, 1) := by decide +kernel
theorem dX10_cell_98 : decode cX10_cell 98 = .ok (.if_icmp .le 7, 3) := by decide +kernel
theorem dX10_cell_101 : decode cX10_cell 101 = .ok (.iload_n 3, 1) := by decide +kernel
theorem dX10_cell_102 : decode cX10_cell 102 = .ok (.goto 4, 3) := by decide +kernel
theorem dX10_cell_105 : decode cX10_cell 105 = .ok (.iconst 0, 1) := by decide +kernel
theorem dX10_cell_106 : decode cX10_cell 106 = .ok (.iload 4, 2) := by decide +kernel
theorem dX10_cell_108 : decode cX10_cell 108 = .ok (.invokevirtual 177, 3) := by decide +kernel
theorem dX10_cell_111 : decode cX10_cell 111 = .ok (.ireturn, 1) := by decide +kernel
def bX10_cell_36 (N d : Nat)   (w : Wd)  : Option (Wd × Int32) :=
  some (w, -2)
set_option maxHeartbeats 4000000 in
theorem kX10_cell_36 {V : Ev} {p : Program} {l : Launch} {e : Env} {N d : Nat} {s : State} {m : MethodId} {args : Array Value} {below : List Frame} {meth : Method} {c : Code} {z : Wd × Int32} (X : CX V p s m args meth c cX10_cell 6 RX10 (some .int))    {w : Wd}  {H : Heap} {locs : List Loc} {ls : Array Slot} (h : bX10_cell_36 N d   w  = some z) (hH : wH V (cC V) (AC V) s w H locs) (hl : lv_has ls 6 []) : W p l e (rmD (d + 1)) s m args below meth c H locs 0 0 (MQ below (CtI V (cC V) (AC V) z) args s 0 0 (AC V)) (F0 m 36 ls []) := by
  unfold bX10_cell_36 at h
  obtain ⟨hx, hb, hml, hown, hg, hrt, hlk, hK⟩ := id X
  refine lv_bipush (pc := 36) (v := -2) hx hb dX10_cell_36 (by decide) ?_
  exact r_iret (pc := 38) X hH h dX10_cell_38
def bX10_cell_106 (N d : Nat)   (w : Wd) (x4 : Int32) (y1 : Int32) (y2 : Int32) (y3 : Int32) : Option (Wd × Int32) :=
  c_cl (eX7_write N d w y1 y2 y3 x4) fun w6 v7 =>
  some (w6, v7)
set_option maxHeartbeats 4000000 in
theorem kX10_cell_106 {V : Ev} {p : Program} {l : Launch} {e : Env} {N d : Nat} {s : State} {m : MethodId} {args : Array Value} {below : List Frame} {meth : Method} {c : Code} {z : Wd × Int32} (X : CX V p s m args meth c cX10_cell 6 RX10 (some .int))    {w : Wd} {x4 : Int32} {y1 : Int32} {y2 : Int32} {y3 : Int32} {H : Heap} {locs : List Loc} {ls : Array Slot} (h : bX10_cell_106 N d   w x4 y1 y2 y3 = some z) (hH : wH V (cC V) (AC V) s w H locs) (hl : lv_has ls 6 [(4, .int x4)]) : W p l e (rmD (d + 1)) s m args below meth c H locs 0 0 (MQ below (CtI V (cC V) (AC V) z) args s 0 0 (AC V)) (F0 m 106 ls [.int y3, .int y2, .int y1, .ref (V.2.2 6)]) := by
  unfold bX10_cell_106 at h
  obtain ⟨hx, hb, hml, hown, hg, hrt, hlk, hK⟩ := id X
  refine lv_iload (pc := 106) hx hb dX10_cell_106 (lv_at hl 0 rfl) ?_
  refine r_cvI (pc := 108) (As := [.int y1, .int y2, .int y3, .int x4]) (rest := []) X hH (fun x hx => mX7_write hx) cw_X10_177 (heC_6 V w) rfl rfl rfl (Nat.le_of_ble_eq_true rfl) hl.1 h dX10_cell_108 (fun w6 v7 H locs h hH => ?_)
  exact r_iret (pc := 111) X hH h dX10_cell_111
def bX10_cell_95 (N d : Nat)   (w : Wd) (x3 : Int32) (x4 : Int32) (x5 : Int32) (y1 : Int32) (y2 : Int32) : Option (Wd × Int32) :=
  if x5 ≤ 1 then (
    bX10_cell_106 N d   w x4 y1 y2 0
  ) else (
    bX10_cell_106 N d   w x4 y1 y2 x3
  )
set_option maxHeartbeats 4000000 in
theorem kX10_cell_95 {V : Ev} {p : Program} {l : Launch} {e : Env} {N d : Nat} {s : State} {m : MethodId} {args : Array Value} {below : List Frame} {meth : Method} {c : Code} {z : Wd × Int32} (X : CX V p s m args meth c cX10_cell 6 RX10 (some .int))    {w : Wd} {x3 : Int32} {x4 : Int32} {x5 : Int32} {y1 : Int32} {y2 : Int32} {H : Heap} {locs : List Loc} {ls : Array Slot} (h : bX10_cell_95 N d   w x3 x4 x5 y1 y2 = some z) (hH : wH V (cC V) (AC V) s w H locs) (hl : lv_has ls 6 [(3, .int x3), (4, .int x4), (5, .int x5)]) : W p l e (rmD (d + 1)) s m args below meth c H locs 0 0 (MQ below (CtI V (cC V) (AC V) z) args s 0 0 (AC V)) (F0 m 95 ls [.int y2, .int y1, .ref (V.2.2 6)]) := by
  unfold bX10_cell_95 at h
  obtain ⟨hx, hb, hml, hown, hg, hrt, hlk, hK⟩ := id X
  refine lv_iload (pc := 95) hx hb dX10_cell_95 (lv_at hl 2 rfl) ?_
  refine lv_iconst (pc := 97) (v := 1) hx hb dX10_cell_97 (by decide) ?_
  refine b_icmp_le (pc := 98) (tgt := 105) hx hb h dX10_cell_98 (by decide) (fun h => ?_) (fun h => ?_)
  · refine lv_iconst (pc := 105) (v := 0) hx hb dX10_cell_105 (by decide) ?_
    exact kX10_cell_106 X   h hH (lv_sub hl [1] rfl)
  · refine lv_iload_n (pc := 101) hx hb dX10_cell_101 rfl (lv_at hl 0 rfl) ?_
    refine lv_goto (pc := 102) (tgt := 106) hx hb dX10_cell_102 (by decide) ?_
    exact kX10_cell_106 X   h hH (lv_sub hl [1] rfl)
def bX10_cell_80 (N d : Nat)   (w : Wd) (x1 : Int32) (x2 : Int32) (x3 : Int32) (x4 : Int32) (x5 : Int32) : Option (Wd × Int32) :=
  if x5 ≤ 0 then (
    bX10_cell_95 N d   w x3 x4 x5 x1 0
  ) else (
    bX10_cell_95 N d   w x3 x4 x5 x1 x2
  )
set_option maxHeartbeats 4000000 in
theorem kX10_cell_80 {V : Ev} {p : Program} {l : Launch} {e : Env} {N d : Nat} {s : State} {m : MethodId} {args : Array Value} {below : List Frame} {meth : Method} {c : Code} {z : Wd × Int32} (X : CX V p s m args meth c cX10_cell 6 RX10 (some .int))    {w : Wd} {x1 : Int32} {x2 : Int32} {x3 : Int32} {x4 : Int32} {x5 : Int32} {H : Heap} {locs : List Loc} {ls : Array Slot} (h : bX10_cell_80 N d   w x1 x2 x3 x4 x5 = some z) (hH : wH V (cC V) (AC V) s w H locs) (hl : lv_has ls 6 [(0, .ref (V.2.2 0)), (1, .int x1), (2, .int x2), (3, .int x3), (4, .int x4), (5, .int x5)]) : W p l e (rmD (d + 1)) s m args below meth c H locs 0 0 (MQ below (CtI V (cC V) (AC V) z) args s 0 0 (AC V)) (F0 m 80 ls []) := by
  unfold bX10_cell_80 at h
  obtain ⟨hx, hb, hml, hown, hg, hrt, hlk, hK⟩ := id X
  refine lv_aload_n (pc := 80) hx hb dX10_cell_80 rfl (lv_at hl 0 rfl) ?_
  refine gC_X10_51_0 (pc := 81) X hH dX10_cell_81 ?_
  refine lv_iload_n (pc := 84) hx hb dX10_cell_84 rfl (lv_at hl 1 rfl) ?_
  refine lv_iload (pc := 85) hx hb dX10_cell_85 (lv_at hl 5 rfl) ?_
  refine b_if_le (pc := 87) (tgt := 94) hx hb h dX10_cell_87 (by decide) (fun h => ?_) (fun h => ?_)
  · refine lv_iconst (pc := 94) (v := 0) hx hb dX10_cell_94 (by decide) ?_
    exact kX10_cell_95 X   h hH (lv_sub hl [3, 4, 5] rfl)
  · refine lv_iload_n (pc := 90) hx hb dX10_cell_90 rfl (lv_at hl 2 rfl) ?_
    refine lv_goto (pc := 91) (tgt := 95) hx hb dX10_cell_91 (by decide) ?_
    exact kX10_cell_95 X   h hH (lv_sub hl [3, 4, 5] rfl)
def bX10_cell_77 (N d : Nat)   (w : Wd)  : Option (Wd × Int32) :=
  some (w, -2)
set_option maxHeartbeats 4000000 in
theorem kX10_cell_77 {V : Ev} {p : Program} {l : Launch} {e : Env} {N d : Nat} {s : State} {m : MethodId} {args : Array Value} {below : List Frame} {meth : Method} {c : Code} {z : Wd × Int32} (X : CX V p s m args meth c cX10_cell 6 RX10 (some .int))    {w : Wd}  {H : Heap} {locs : List Loc} {ls : Array Slot} (h : bX10_cell_77 N d   w  = some z) (hH : wH V (cC V) (AC V) s w H locs) (hl : lv_has ls 6 []) : W p l e (rmD (d + 1)) s m args below meth c H locs 0 0 (MQ below (CtI V (cC V) (AC V) z) args s 0 0 (AC V)) (F0 m 77 ls []) := by
  unfold bX10_cell_77 at h
  obtain ⟨hx, hb, hml, hown, hg, hrt, hlk, hK⟩ := id X
  refine lv_bipush (pc := 77) (v := -2) hx hb dX10_cell_77 (by decide) ?_
  exact r_iret (pc := 79) X hH h dX10_cell_79
def bX10_cell_63 (N d : Nat)   (w : Wd) (x1 : Int32) (x2 : Int32) (x3 : Int32) (x4 : Int32) (x5 : Int32) : Option (Wd × Int32) :=
  if x5 ≤ 1 then (
    bX10_cell_80 N d   w x1 x2 x3 x4 x5
  ) else (
    c_cl (eX10_isValue N d w x3) fun w8 v9 =>
    if v9 = 0 then (
      bX10_cell_77 N d   w8 
    ) else (
      bX10_cell_80 N d   w8 x1 x2 x3 x4 x5
    )
  )
set_option maxHeartbeats 4000000 in
theorem kX10_cell_63 {V : Ev} {p : Program} {l : Launch} {e : Env} {N d : Nat} {s : State} {m : MethodId} {args : Array Value} {below : List Frame} {meth : Method} {c : Code} {z : Wd × Int32} (X : CX V p s m args meth c cX10_cell 6 RX10 (some .int))    {w : Wd} {x1 : Int32} {x2 : Int32} {x3 : Int32} {x4 : Int32} {x5 : Int32} {H : Heap} {locs : List Loc} {ls : Array Slot} (h : bX10_cell_63 N d   w x1 x2 x3 x4 x5 = some z) (hH : wH V (cC V) (AC V) s w H locs) (hl : lv_has ls 6 [(0, .ref (V.2.2 0)), (1, .int x1), (2, .int x2), (3, .int x3), (4, .int x4), (5, .int x5)]) : W p l e (rmD (d + 1)) s m args below meth c H locs 0 0 (MQ below (CtI V (cC V) (AC V) z) args s 0 0 (AC V)) (F0 m 63 ls []) := by
  unfold bX10_cell_63 at h
  obtain ⟨hx, hb, hml, hown, hg, hrt, hlk, hK⟩ := id X
  refine lv_iload (pc := 63) hx hb dX10_cell_63 (lv_at hl 5 rfl) ?_
  refine lv_iconst (pc := 65) (v := 1) hx hb dX10_cell_65 (by decide) ?_
  refine b_icmp_le (pc := 66) (tgt := 80) hx hb h dX10_cell_66 (by decide) (fun h => ?_) (fun h => ?_)
  · exact kX10_cell_80 X   h hH (lv_sub hl [0, 1, 2, 3, 4, 5] rfl)
  · refine lv_aload_n (pc := 69) hx hb dX10_cell_69 rfl (lv_at hl 0 rfl) ?_
    refine lv_iload_n (pc := 70) hx hb dX10_cell_70 rfl (lv_at hl 3 rfl) ?_
    refine r_cvI (pc := 71) (As := [.int x3]) (rest := []) X hH (fun x hx => mX10_isValue hx) cw_X10_174 (heC_0 V w) rfl rfl rfl (Nat.le_of_ble_eq_true rfl) hl.1 h dX10_cell_71 (fun w8 v9 H locs h hH => ?_)
    refine b_if_ne (pc := 74) (tgt := 80) hx hb h dX10_cell_74 (by decide) (fun h => ?_) (fun h => ?_)
    · exact kX10_cell_80 X   h hH (lv_sub hl [0, 1, 2, 3, 4, 5] rfl)
    · exact kX10_cell_77 X   h hH (lv_sub hl [] rfl)
def bX10_cell_0 (N d : Nat)   (w : Wd) (x1 : Int32) (x2 : Int32) (x3 : Int32) (x4 : Int32) : Option (Wd × Int32) :=
  if (sI w 10) = 0 then (
    some (w, -3)
  ) else (
    c_cl (eX10_isWithin N d w x1 (sI w 0)) fun w1 v2 =>
    if v2 = 0 then (
      bX10_cell_36 N d   w1 
    ) else (
      c_cl (eX10_isValue N d w1 x4) fun w3 v4 =>
      if v4 = 0 then (
        bX10_cell_36 N d   w3 
      ) else (
        c_ld w3 12 18 x1 fun v5 =>
        if v5 ≤ 0 then (
          bX10_cell_63 N d   w3 x1 x2 x3 x4 v5
        ) else (
          c_cl (eX10_isValue N d w3 x2) fun w10 v11 =>
          if v11 = 0 then (
            bX10_cell_77 N d   w10 
          ) else (
            bX10_cell_63 N d   w10 x1 x2 x3 x4 v5
          )
        )
      )
    )
  )
set_option maxHeartbeats 4000000 in
theorem kX10_cell_0 {V : Ev} {p : Program} {l : Launch} {e : Env} {N d : Nat} {s : State} {m : MethodId} {args : Array Value} {below : List Frame} {meth : Method} {c : Code} {z : Wd × Int32} (X : CX V p s m args meth c cX10_cell 6 RX10 (some .int))    {w : Wd} {x1 : Int32} {x2 : Int32} {x3 : Int32} {x4 : Int32} {H : Heap} {locs : List Loc} {ls : Array Slot} (h : bX10_cell_0 N d   w x1 x2 x3 x4 = some z) (hH : wH V (cC V) (AC V) s w H locs) (hl : lv_has ls 6 [(0, .ref (V.2.2 0)), (1, .int x1), (2, .int x2), (3, .int x3), (4, .int x4)]) : W p l e (rmD (d + 1)) s m args below meth c H locs 0 0 (MQ below (CtI V (cC V) (AC V) z) args s 0 0 (AC V)) (F0 m 0 ls []) := by
  unfold bX10_cell_0 at h
  obtain ⟨hx, hb, hml, hown, hg, hrt, hlk, hK⟩ := id X
  refine lv_aload_n (pc := 0) hx hb dX10_cell_0 rfl (lv_at hl 0 rfl) ?_
  refine gC_X10_51_0 (pc := 1) X hH dX10_cell_1 ?_
  refine gC_X10_171_6 (pc := 4) X hH dX10_cell_4 ?_
  refine b_if_ne (pc := 7) (tgt := 13) hx hb h dX10_cell_7 (by decide) (fun h => ?_) (fun h => ?_)
  · refine lv_iload_n (pc := 13) hx hb dX10_cell_13 rfl (lv_at hl 1 rfl) ?_
    refine lv_aload_n (pc := 14) hx hb dX10_cell_14 rfl (lv_at hl 0 rfl) ?_
    refine gC_X10_15_0 (pc := 15) X hH dX10_cell_15 ?_
    refine gC_X10_74_1 (pc := 18) X hH dX10_cell_18 ?_
    refine r_csI (pc := 21) (As := [.int x1, .int (sI w 0)]) (rest := []) X hH (fun x hx => mX10_isWithin hx) cs_X10_66 rfl rfl (Nat.le_of_ble_eq_true rfl) hl.1 h dX10_cell_21 (fun w1 v2 H locs h hH => ?_)
    refine b_if_eq (pc := 24) (tgt := 36) hx hb h dX10_cell_24 (by decide) (fun h => ?_) (fun h => ?_)
    · exact kX10_cell_36 X   h hH (lv_sub hl [] rfl)
    · refine lv_aload_n (pc := 27) hx hb dX10_cell_27 rfl (lv_at hl 0 rfl) ?_
      refine lv_iload (pc := 28) hx hb dX10_cell_28 (lv_at hl 4 rfl) ?_
      refine r_cvI (pc := 30) (As := [.int x4]) (rest := []) X hH (fun x hx => mX10_isValue hx) cw_X10_174 (heC_0 V w1) rfl rfl rfl (Nat.le_of_ble_eq_true rfl) hl.1 h dX10_cell_30 (fun w3 v4 H locs h hH => ?_)
      refine b_if_ne (pc := 33) (tgt := 39) hx hb h dX10_cell_33 (by decide) (fun h => ?_) (fun h => ?_)
      · refine lv_aload_n (pc := 39) hx hb dX10_cell_39 rfl (lv_at hl 0 rfl) ?_
        refine gC_X10_15_0 (pc := 40) X hH dX10_cell_40 ?_
        refine gC_X10_78_1 (pc := 43) X hH dX10_cell_43 ?_
        refine lv_iload_n (pc := 46) hx hb dX10_cell_46 rfl (lv_at hl 1 rfl) ?_
        refine r_ld (pc := 47) X (heC_12 V w3) hH h dX10_cell_47 (fun v5 h => ?_)
        refine lv_istore (pc := 48) (lv' := [(5, .int v5), (0, .ref (V.2.2 0)), (1, .int x1), (2, .int x2), (3, .int x3), (4, .int x4)]) hx hb dX10_cell_48 hl (by decide) rfl (fun ls hl => ?_)
        refine lv_iload (pc := 50) hx hb dX10_cell_50 (lv_at hl 0 rfl) ?_
        refine b_if_le (pc := 52) (tgt := 63) hx hb h dX10_cell_52 (by decide) (fun h => ?_) (fun h => ?_)
        · exact kX10_cell_63 X   h hH (lv_sub hl [1, 2, 3, 4, 5, 0] rfl)
        · refine lv_aload_n (pc := 55) hx hb dX10_cell_55 rfl (lv_at hl 1 rfl) ?_
          refine lv_iload_n (pc := 56) hx hb dX10_cell_56 rfl (lv_at hl 3 rfl) ?_
          refine r_cvI (pc := 57) (As := [.int x2]) (rest := []) X hH (fun x hx => mX10_isValue hx) cw_X10_174 (heC_0 V w3) rfl rfl rfl (Nat.le_of_ble_eq_true rfl) hl.1 h dX10_cell_57 (fun w10 v11 H locs h hH => ?_)
          refine b_if_eq (pc := 60) (tgt := 77) hx hb h dX10_cell_60 (by decide) (fun h => ?_) (fun h => ?_)
          · exact kX10_cell_77 X   h hH (lv_sub hl [] rfl)
          · exact kX10_cell_63 X   h hH (lv_sub hl [1, 2, 3, 4, 5, 0] rfl)
      · exact kX10_cell_36 X   h hH (lv_sub hl [] rfl)
  · refine lv_bipush (pc := 10) (v := -3) hx hb dX10_cell_10 (by decide) ?_
    exact r_iret (pc := 12) X hH h dX10_cell_12
def eX10_cell (N : Nat) : Nat → Wd → Int32 → Int32 → Int32 → Int32 → Option (Wd × Int32)
  | 0 => fun _ _ _ _ _ => none
  | d + 1 => fun w x1 x2 x3 x4 => bX10_cell_0 N d  w x1 x2 x3 x4
set_option maxHeartbeats 4000000 in
set_option maxRecDepth 20000 in
theorem mX10_cell {l : Launch} {V : Ev} {N d : Nat} {w : Wd} {x1 : Int32} {x2 : Int32} {x3 : Int32} {x4 : Int32} {z : Wd × Int32} (h : eX10_cell N d w x1 x2 x3 x4 = some z) : MetI l V (cC V) (AC V) yX10_cell cX10_cell 6 (some .int) d [.ref (V.2.2 0), .int x1, .int x2, .int x3, .int x4] w z := by
  cases d with
  | zero => exact c_none h
  | succ d =>
    refine Met.ofW (cc := cX10_cell) (maxL := 6) (ret := (some .int)) (by decide) rfl ?_
    intro p e s m args below meth c s₁ B hml hv
    obtain ⟨rfl, hP, hD, hK⟩ := hv
    have hts := atoms_spec (ws := .code yX10_cell cX10_cell 6 (some .int) :: gG) B.pre
    have X : CX V p s m ([.ref (V.2.2 0), .int x1, .int x2, .int x3, .int x4] : List Value).toArray meth c cX10_cell 6 RX10 (some .int) := ⟨B.exec, B.bytes, hml, findClass_of_methodNamed B.named, fun w hw => hts w (List.mem_cons_of_mem _ hw), B.returns, B.notSynchronized, hK⟩
    have hl := lv_entry ([.ref (V.2.2 0), .int x1, .int x2, .int x3, .int x4] : List Value) (n := 6) (Nat.le_of_ble_eq_true rfl)
    rw [lg_entry_eq]
    generalize (lg_sl ([.ref (V.2.2 0), .int x1, .int x2, .int x3, .int x4] : List Value) ++ List.replicate (6 - (lg_sl ([.ref (V.2.2 0), .int x1, .int x2, .int x3, .int x4] : List Value)).length) Slot.unset).toArray = ls at hl ⊢
    have hl : lv_has ls 6 [(0, .ref (V.2.2 0)), (1, .int x1), (2, .int x2), (3, .int x3), (4, .int x4)] := hl
    exact kX10_cell_0 (N := N) X  h ⟨hP, hD, va_S.rf⟩ hl
theorem dX10_has_0 : decode cX10_has 0 = .ok (.aload_n 0, 1) := by decide +kernel
theorem dX10_has_1 : decode cX10_has 1 = .ok (.getfield 51, 3) := by decide +kernel
theorem dX10_has_4 : decode cX10_has 4 = .ok (.getfield 171, 3) := by decide +kernel
theorem dX10_has_7 : decode cX10_has 7 = .ok (.ifCond .ne 6, 3) := by decide +kernel
theorem dX10_has_10 : decode cX10_has 10 = .ok (.bipush (-3), 2) := by decide +kernel
theorem dX10_has_12 : decode cX10_has 12 = .ok (.ireturn, 1) := by decide +kernel
theorem dX10_has_13 : decode cX10_has 13 = .ok (.iload_n 1, 1) := by decide +kernel
theorem dX10_has_14 : decode cX10_has 14 = .ok (.bipush 8, 2) := by decide +kernel
theorem dX10_has_16 : decode cX10_has 16 = .ok (.invokestatic 66, 3) := by decide +kernel
theorem dX10_has_19 : decode cX10_has 19 = .ok (.ifCond .eq 11, 3) := by decide +kernel
theorem dX10_has_22 : decode cX10_has 22 = .ok (.aload_n 0, 1) := by decide +kernel
theorem dX10_has_23 : decode cX10_has 23 = .ok (.iload_n 2, 1) := by decide +kernel
theorem dX10_has_24 : decode cX10_has 24 = .ok (.invokevirtual 174, 3) := by decide +kernel
theorem dX10_has_27 : decode cX10_has 27 = .ok (.ifCond .ne 6, 3) := by decide +kernel
theorem dX10_has_30 : decode cX10_has 30 = .ok (.bipush (-2), 2) := by decide +kernel
theorem dX10_has_32 : decode cX10_has 32 = .ok (.ireturn, 1) := by decide +kernel
theorem dX10_has_33 : decode cX10_has 33 = .ok (.aload_n 0, 1) := by decide +kernel
theorem dX10_has_34 : decode cX10_has 34 = .ok (.getfield 51, 3) := by decide +kernel
theorem dX10_has_37 : decode cX10_has 37 = .ok (.getfield 181, 3) := by decide +kernel
theorem dX10_has_40 : decode cX10_has 40 = .ok (.iload_n 1, 1) := by decide +kernel
theorem dX10_has_41 : decode cX10_has 41 = .ok (.iaload, 1) := by decide +kernel
theorem dX10_has_42 : decode cX10_has 42 = .ok (.istore_n 3, 1) := by decide +kernel
theorem dX10_has_43 : decode cX10_has 43 = .ok (.aload_n 0, 1) := by decide +kernel
theorem dX10_has_44 : decode cX10_has 44 = .ok (.getfield 51, 3) := by decide +kernel
theorem dX10_has_47 : decode cX10_has 47 = .ok (.getfield 181, 3) := by decide +kernel
theorem dX10_has_50 : decode cX10_has 50 = .ok (.iload_n 1, 1) := by decide +kernel
theorem dX10_has_51 : decode cX10_has 51 = .ok (.iload_n 2, 1) := by decide +kernel
theorem dX10_has_52 : decode cX10_has 52 = .ok (.iastore, 1) := by decide +kernel
theorem dX10_has_53 : decode cX10_has 53 = .ok (.iload_n 3, 1) := by decide +kernel
theorem dX10_has_54 : decode cX10_has 54 = .ok (.ireturn, 1) := by decide +kernel
def bX10_has_30 (N d : Nat)   (w : Wd)  : Option (Wd × Int32) :=
  some (w, -2)
set_option maxHeartbeats 4000000 in
theorem kX10_has_30 {V : Ev} {p : Program} {l : Launch} {e : Env} {N d : Nat} {s : State} {m : MethodId} {args : Array Value} {below : List Frame} {meth : Method} {c : Code} {z : Wd × Int32} (X : CX V p s m args meth c cX10_has 4 RX10 (some .int))    {w : Wd}  {H : Heap} {locs : List Loc} {ls : Array Slot} (h : bX10_has_30 N d   w  = some z) (hH : wH V (cC V) (AC V) s w H locs) (hl : lv_has ls 4 []) : W p l e (rmD (d + 1)) s m args below meth c H locs 0 0 (MQ below (CtI V (cC V) (AC V) z) args s 0 0 (AC V)) (F0 m 30 ls []) := by
  unfold bX10_has_30 at h
  obtain ⟨hx, hb, hml, hown, hg, hrt, hlk, hK⟩ := id X
  refine lv_bipush (pc := 30) (v := -2) hx hb dX10_has_30 (by decide) ?_
  exact r_iret (pc := 32) X hH h dX10_has_32
def bX10_has_0 (N d : Nat)   (w : Wd) (x1 : Int32) (x2 : Int32) : Option (Wd × Int32) :=
  if (sI w 10) = 0 then (
    some (w, -3)
  ) else (
    c_cl (eX10_isWithin N d w x1 8) fun w1 v2 =>
    if v2 = 0 then (
      bX10_has_30 N d   w1 
    ) else (
      c_cl (eX10_isValue N d w1 x2) fun w3 v4 =>
      if v4 = 0 then (
        bX10_has_30 N d   w3 
      ) else (
        c_ld w3 36 8 x1 fun v5 =>
        c_st w3 36 8 x1 x2 fun w6 =>
        some (w6, v5)
      )
    )
  )
set_option maxHeartbeats 4000000 in
theorem kX10_has_0 {V : Ev} {p : Program} {l : Launch} {e : Env} {N d : Nat} {s : State} {m : MethodId} {args : Array Value} {below : List Frame} {meth : Method} {c : Code} {z : Wd × Int32} (X : CX V p s m args meth c cX10_has 4 RX10 (some .int))    {w : Wd} {x1 : Int32} {x2 : Int32} {H : Heap} {locs : List Loc} {ls : Array Slot} (h : bX10_has_0 N d   w x1 x2 = some z) (hH : wH V (cC V) (AC V) s w H locs) (hl : lv_has ls 4 [(0, .ref (V.2.2 0)), (1, .int x1), (2, .int x2)]) : W p l e (rmD (d + 1)) s m args below meth c H locs 0 0 (MQ below (CtI V (cC V) (AC V) z) args s 0 0 (AC V)) (F0 m 0 ls []) := by
  unfold bX10_has_0 at h
  obtain ⟨hx, hb, hml, hown, hg, hrt, hlk, hK⟩ := id X
  refine lv_aload_n (pc := 0) hx hb dX10_has_0 rfl (lv_at hl 0 rfl) ?_
  refine gC_X10_51_0 (pc := 1) X hH dX10_has_1 ?_
  refine gC_X10_171_6 (pc := 4) X hH dX10_has_4 ?_
  refine b_if_ne (pc := 7) (tgt := 13) hx hb h dX10_has_7 (by decide) (fun h => ?_) (fun h => ?_)
  · refine lv_iload_n (pc := 13) hx hb dX10_has_13 rfl (lv_at hl 1 rfl) ?_
    refine lv_bipush (pc := 14) (v := 8) hx hb dX10_has_14 (by decide) ?_
    refine r_csI (pc := 16) (As := [.int x1, .int 8]) (rest := []) X hH (fun x hx => mX10_isWithin hx) cs_X10_66 rfl rfl (Nat.le_of_ble_eq_true rfl) hl.1 h dX10_has_16 (fun w1 v2 H locs h hH => ?_)
    refine b_if_eq (pc := 19) (tgt := 30) hx hb h dX10_has_19 (by decide) (fun h => ?_) (fun h => ?_)
    · exact kX10_has_30 X   h hH (lv_sub hl [] rfl)
    · refine lv_aload_n (pc := 22) hx hb dX10_has_22 rfl (lv_at hl 0 rfl) ?_
      refine lv_iload_n (pc := 23) hx hb dX10_has_23 rfl (lv_at hl 2 rfl) ?_
      refine r_cvI (pc := 24) (As := [.int x2]) (rest := []) X hH (fun x hx => mX10_isValue hx) cw_X10_174 (heC_0 V w1) rfl rfl rfl (Nat.le_of_ble_eq_true rfl) hl.1 h dX10_has_24 (fun w3 v4 H locs h hH => ?_)
      refine b_if_ne (pc := 27) (tgt := 33) hx hb h dX10_has_27 (by decide) (fun h => ?_) (fun h => ?_)
      · refine lv_aload_n (pc := 33) hx hb dX10_has_33 rfl (lv_at hl 0 rfl) ?_
        refine gC_X10_51_0 (pc := 34) X hH dX10_has_34 ?_
        refine gC_X10_181_6 (pc := 37) X hH dX10_has_37 ?_
        refine lv_iload_n (pc := 40) hx hb dX10_has_40 rfl (lv_at hl 1 rfl) ?_
        refine r_ld (pc := 41) X (heC_35 V w3) hH h dX10_has_41 (fun v5 h => ?_)
        refine lv_istore_n (pc := 42) (lv' := [(3, .int v5), (0, .ref (V.2.2 0)), (1, .int x1), (2, .int x2)]) hx hb dX10_has_42 rfl hl (by decide) rfl (fun ls hl => ?_)
        refine lv_aload_n (pc := 43) hx hb dX10_has_43 rfl (lv_at hl 1 rfl) ?_
        refine gC_X10_51_0 (pc := 44) X hH dX10_has_44 ?_
        refine gC_X10_181_6 (pc := 47) X hH dX10_has_47 ?_
        refine lv_iload_n (pc := 50) hx hb dX10_has_50 rfl (lv_at hl 2 rfl) ?_
        refine lv_iload_n (pc := 51) hx hb dX10_has_51 rfl (lv_at hl 3 rfl) ?_
        refine r_st (pc := 52) X (heC_35 V w3) (hsC_35 V w3) hH h dX10_has_52 (fun w6 H locs h hH => ?_)
        refine lv_iload_n (pc := 53) hx hb dX10_has_53 rfl (lv_at hl 0 rfl) ?_
        exact r_iret (pc := 54) X hH h dX10_has_54
      · exact kX10_has_30 X   h hH (lv_sub hl [] rfl)
  · refine lv_bipush (pc := 10) (v := -3) hx hb dX10_has_10 (by decide) ?_
    exact r_iret (pc := 12) X hH h dX10_has_12
def eX10_has (N : Nat) : Nat → Wd → Int32 → Int32 → Option (Wd × Int32)
  | 0 => fun _ _ _ => none
  | d + 1 => fun w x1 x2 => bX10_has_0 N d  w x1 x2
set_option maxHeartbeats 4000000 in
set_option maxRecDepth 20000 in
theorem mX10_has {l : Launch} {V : Ev} {N d : Nat} {w : Wd} {x1 : Int32} {x2 : Int32} {z : Wd × Int32} (h : eX10_has N d w x1 x2 = some z) : MetI l V (cC V) (AC V) yX10_has cX10_has 4 (some .int) d [.ref (V.2.2 0), .int x1, .int x2] w z := by
  cases d with
  | zero => exact c_none h
  | succ d =>
    refine Met.ofW (cc := cX10_has) (maxL := 4) (ret := (some .int)) (by decide) rfl ?_
    intro p e s m args below meth c s₁ B hml hv
    obtain ⟨rfl, hP, hD, hK⟩ := hv
    have hts := atoms_spec (ws := .code yX10_has cX10_has 4 (some .int) :: gG) B.pre
    have X : CX V p s m ([.ref (V.2.2 0), .int x1, .int x2] : List Value).toArray meth c cX10_has 4 RX10 (some .int) := ⟨B.exec, B.bytes, hml, findClass_of_methodNamed B.named, fun w hw => hts w (List.mem_cons_of_mem _ hw), B.returns, B.notSynchronized, hK⟩
    have hl := lv_entry ([.ref (V.2.2 0), .int x1, .int x2] : List Value) (n := 4) (Nat.le_of_ble_eq_true rfl)
    rw [lg_entry_eq]
    generalize (lg_sl ([.ref (V.2.2 0), .int x1, .int x2] : List Value) ++ List.replicate (4 - (lg_sl ([.ref (V.2.2 0), .int x1, .int x2] : List Value)).length) Slot.unset).toArray = ls at hl ⊢
    have hl : lv_has ls 4 [(0, .ref (V.2.2 0)), (1, .int x1), (2, .int x2)] := hl
    exact kX10_has_0 (N := N) X  h ⟨hP, hD, va_S.rf⟩ hl
theorem dX7_valueOf_0 : decode cX7_valueOf 0 = .ok (.aload_n 0, 1) := by decide +kernel
theorem dX7_valueOf_1 : decode cX7_valueOf 1 = .ok (.getfield 21, 3) := by decide +kernel
theorem dX7_valueOf_4 : decode cX7_valueOf 4 = .ok (.getfield 39, 3) := by decide +kernel
theorem dX7_valueOf_7 : decode cX7_valueOf 7 = .ok (.astore_n 2, 1) := by decide +kernel
theorem dX7_valueOf_8 : decode cX7_valueOf 8 = .ok (.iconst 0, 1) := by decide +kernel
theorem dX7_valueOf_9 : decode cX7_valueOf 9 = .ok (.istore_n 3, 1) := by decide +kernel
theorem dX7_valueOf_10 : decode cX7_valueOf 10 = .ok (.iload_n 3, 1) := by decide +kernel
theorem dX7_valueOf_11 : decode cX7_valueOf 11 = .ok (.iload_n 1, 1) := by decide +kernel
theorem dX7_valueOf_12 : decode cX7_valueOf 12 = .ok (.if_icmp .gt 114, 3) := by decide +kernel
theorem dX7_valueOf_15 : decode cX7_valueOf 15 = .ok (.aload_n 0, 1) := by decide +kernel
theorem dX7_valueOf_16 : decode cX7_valueOf 16 = .ok (.getfield 21, 3) := by decide +kernel
theorem dX7_valueOf_19 : decode cX7_valueOf 19 = .ok (.getfield 45, 3) := by decide +kernel
theorem dX7_valueOf_22 : decode cX7_valueOf 22 = .ok (.iload_n 3, 1) := by decide +kernel
theorem dX7_valueOf_23 : decode cX7_valueOf 23 = .ok (.iaload, 1) := by decide +kernel
theorem dX7_valueOf_24 : decode cX7_valueOf 24 = .ok (.istore 4, 2) := by decide +kernel
theorem dX7_valueOf_26 : decode cX7_valueOf 26 = .ok (.aload_n 0, 1) := by decide +kernel
theorem dX7_valueOf_27 : decode cX7_valueOf 27 = .ok (.getfield 21, 3) := by decide +kernel
theorem dX7_valueOf_30 : decode cX7_valueOf 30 = .ok (.getfield 48, 3) := by decide +kernel
theorem dX7_valueOf_33 : decode cX7_valueOf 33 = .ok (.iload_n 3, 1) := by decide +kernel
theorem dX7_valueOf_34 : decode cX7_valueOf 34 = .ok (.iaload, 1) := by decide +kernel
theorem dX7_valueOf_35 : decode cX7_valueOf 35 = .ok (.istore 5, 2) := by decide +kernel
theorem dX7_valueOf_37 : decode cX7_valueOf 37 = .ok (.aload_n 2, 1) := by decide +kernel
theorem dX7_valueOf_38 : decode cX7_valueOf 38 = .ok (.iload_n 3, 1) := by decide +kernel
theorem dX7_valueOf_39 : decode cX7_valueOf 39 = .ok (.aload_n 0, 1) := by decide +kernel
theorem dX7_valueOf_40 : decode cX7_valueOf 40 = .ok (.getfield 21, 3) := by decide +kernel
theorem dX7_valueOf_43 : decode cX7_valueOf 43 = .ok (.iload_n 3, 1) := by decide +kernel
theorem dX7_valueOf_44 : decode cX7_valueOf 44 = .ok (.invokevirtual 51, 3) := by decide +kernel
theorem dX7_valueOf_47 : decode cX7_valueOf 47 = .ok (.ifCond .eq 24, 3) := by decide +kernel
theorem dX7_valueOf_50 : decode cX7_valueOf 50 = .ok (.aload_n 0, 1) := by decide +kernel
theorem dX7_valueOf_51 : decode cX7_valueOf 51 = .ok (.getfield 15, 3) := by decide +kernel
theorem dX7_valueOf_54 : decode cX7_valueOf 54 = .ok (.aload_n 0, 1) := by decide +kernel
theorem dX7_valueOf_55 : decode cX7_valueOf 55 = .ok (.getfield 21, 3) := by decide +kernel
theorem dX7_valueOf_58 : decode cX7_valueOf 58 = .ok (.getfield 55, 3) := by decide +kernel
theorem dX7_valueOf_61 : decode cX7_valueOf 61 = .ok (.iload_n 3, 1) := by decide +kernel
theorem dX7_valueOf_62 : decode cX7_valueOf 62 = .ok (.iaload, 1) := by decide +kernel
theorem dX7_valueOf_63 : decode cX7_valueOf 63 = .ok (.bipush 10, 2) := by decide +kernel
theorem dX7_valueOf_65 : decode cX7_valueOf 65 = .ok (.isub, 1) := by decide +kernel
theorem dX7_valueOf_66 : decode cX7_valueOf 66 = .ok (.iaload, 1) := by decide +kernel
theorem dX7_valueOf_67 : decode cX7_valueOf 67 = .ok (.i2l, 1) := by decide +kernel
theorem dX7_valueOf_68 : decode cX7_valueOf 68 = .ok (.goto 51, 3) := by decide +kernel
theorem dX7_valueOf_71 : decode cX7_valueOf 71 = .ok (.aload_n 0, 1) := by decide +kernel
theorem dX7_valueOf_72 : decode cX7_valueOf 72 = .ok (.getfield 11, 3) := by decide +kernel
theorem dX7_valueOf_75 : decode cX7_valueOf 75 = .ok (.aload_n 0, 1) := by decide +kernel
theorem dX7_valueOf_76 : decode cX7_valueOf 76 = .ok (.getfield 21, 3) := by decide +kernel
theorem dX7_valueOf_79 : decode cX7_valueOf 79 = .ok (.getfield 55, 3) := by decide +kernel
theorem dX7_valueOf_82 : decode cX7_valueOf 82 = .ok (.iload_n 3, 1) := by decide +kernel
theorem dX7_valueOf_83 : decode cX7_valueOf 83 = .ok (.iaload, 1) := by decide +kernel
theorem dX7_valueOf_84 : decode cX7_valueOf 84 = .ok (.iload 4, 2) := by decide +kernel
theorem dX7_valueOf_86 : decode cX7_valueOf 86 = .ok (.iconst (-1), 1) := by decide +kernel
theorem dX7_valueOf_87 : decode cX7_valueOf 87 = .ok (.if_icmp .ne 7, 3) := by decide +kernel
theorem dX7_valueOf_90 : decode cX7_valueOf 90 = .ok (.iconst 0, 1) := by decide +kernel
theorem dX7_valueOf_91 : decode cX7_valueOf 91 = .ok (.goto 8, 3) := by decide +kernel
theorem dX7_valueOf_94 : decode cX7_valueOf 94 = .ok (.aload_n 2, 1) := by decide +kernel
theorem dX7_valueOf_95 : decode cX7_valueOf 95 = .ok (.iload 4, 2) := by decide +kernel
theorem dX7_valueOf_97 : decode cX7_valueOf 97 = .ok (.laload, 1) := by decide +kernel
theorem dX7_valueOf_98 : decode cX7_valueOf 98 = .ok (.l2i, 1) := by decide +kernel
theorem dX7_valueOf_99 : decode cX7_valueOf 99 = .ok (.iload 5, 2) := by decide +kernel
theorem dX7_valueOf_101 : decode cX7_valueOf 101 = .ok (.iconst (-1), 1) := by decide +kernel
theorem dX7_valueOf_102 : decode cX7_valueOf 102 = .ok (.if_icmp .ne 7, 3) := by decide +kernel
theorem dX7_valueOf_105 : decode cX7_valueOf 105 = .ok (.iconst 0, 1) := by decide +kernel
theorem dX7_valueOf_106 : decode cX7_valueOf 106 = .ok (.goto 8, 3) := by decide +kernel
theorem dX7_valueOf_109 : decode cX7_valueOf 109 = .ok (.aload_n 2, 1) := by decide +kernel
theorem dX7_valueOf_110 : decode cX7_valueOf 110 = .ok (.iload 5, 2) := by decide +kernel
theorem dX7_valueOf_112 : decode cX7_valueOf 112 = .ok (.laload, 1) := by decide +kernel
theorem dX7_valueOf_113 : decode cX7_valueOf 113 = .ok (.l2i, 1) := by decide +kernel
theorem dX7_valueOf_114 : decode cX7_valueOf 114 = .ok (.invokestatic 35, 3) := by decide +kernel
theorem dX7_valueOf_117 : decode cX7_valueOf 117 = .ok (.iaload, 1) := by decide +kernel
theorem dX7_valueOf_118 : decode cX7_valueOf 118 = .ok (.i2l, 1) := by decide +kernel
theorem dX7_valueOf_119 : decode cX7_valueOf 119 = .ok (.lastore, 1) := by decide +kernel
theorem dX7_valueOf_120 : decode cX7_valueOf 120 = .ok (.iinc 3 1, 3) := by decide +kernel
theorem dX7_valueOf_123 : decode cX7_valueOf 123 = .ok (.goto (-113), 3) := by decide +kernel
theorem dX7_valueOf_126 : decode cX7_valueOf 126 = .ok (.aload_n 2, 1) := by decide +kernel
theorem dX7_valueOf_127 : decode cX7_valueOf 127 = .ok (.iload_n 1, 1) := by decide +kernel
theorem dX7_valueOf_128 : decode cX7_valueOf 128 = .ok (.laload, 1) := by decide +kernel
theorem dX7_valueOf_129 : decode cX7_valueOf 129 = .ok (.l2i, 1) := by decide +kernel
theorem dX7_valueOf_130 : decode cX7_valueOf 130 = .ok (.ireturn, 1) := by decide +kernel
def bX7_valueOf_119 (N d : Nat)  (rec10 : Wd → Int32 → Int32 → Option (Wd × Int32)) (w : Wd) (x1 : Int32) (x3 : Int32) (y1 : Int32) (y2 : Int64) : Option (Wd × Int32) :=
  c_sl w 22 1000 y1 y2 fun w12 =>
  c_nm (x3 + 1) fun x3_13 =>
  rec10 w12 x1 x3_13
set_option maxHeartbeats 4000000 in
theorem kX7_valueOf_119 {V : Ev} {p : Program} {l : Launch} {e : Env} {N d : Nat} {s : State} {m : MethodId} {args : Array Value} {below : List Frame} {meth : Method} {c : Code} {z : Wd × Int32} (X : CX V p s m args meth c cX7_valueOf 6 RX7 (some .int))   {rec10 : Wd → Int32 → Int32 → Option (Wd × Int32)} (hr10 : ∀ (w : Wd) (x1 : Int32) (x3 : Int32) (H : Heap) (locs : List Loc) (ls : Array Slot), rec10 w x1 x3 = some z → wH V (cC V) (AC V) s w H locs → lv_has ls 6 [(0, .ref (V.2.2 6)), (1, .int x1), (2, .ref (V.2.2 22)), (3, .int x3)] → W p l e (rmD (d + 1)) s m args below meth c H locs 0 0 (MQ below (CtI V (cC V) (AC V) z) args s 0 0 (AC V)) (F0 m 10 ls [])) {w : Wd} {x1 : Int32} {x3 : Int32} {y1 : Int32} {y2 : Int64} {H : Heap} {locs : List Loc} {ls : Array Slot} (h : bX7_valueOf_119 N d  rec10 w x1 x3 y1 y2 = some z) (hH : wH V (cC V) (AC V) s w H locs) (hl : lv_has ls 6 [(0, .ref (V.2.2 6)), (1, .int x1), (2, .ref (V.2.2 22)), (3, .int x3)]) : W p l e (rmD (d + 1)) s m args below meth c H locs 0 0 (MQ below (CtI V (cC V) (AC V) z) args s 0 0 (AC V)) (F0 m 119 ls [.long y2, .int y1, .ref (V.2.2 22)]) := by
  unfold bX7_valueOf_119 at h
  obtain ⟨hx, hb, hml, hown, hg, hrt, hlk, hK⟩ := id X
  refine r_sl (pc := 119) X (heC_22 V w) (hsC_22 V w) hH h dX7_valueOf_119 (fun w12 H locs h hH => ?_)
  obtain ⟨x3_13, ex3_13, h⟩ := c_nm_ex h
  refine lv_iinc (pc := 120) (v := x3_13) (lv' := [(3, .int x3_13), (0, .ref (V.2.2 6)), (1, .int x1), (2, .ref (V.2.2 22))]) hx hb dX7_valueOf_120 hl (k := 3) rfl (by rw [← ex3_13]; rfl) (by decide) rfl (fun ls hl => ?_)
  refine lv_goto (pc := 123) (tgt := 10) hx hb dX7_valueOf_123 (by decide) ?_
  exact hr10 _ _ _ _ _ _ h hH (lv_sub hl [1, 2, 3, 0] rfl)
def bX7_valueOf_114 (N d : Nat)  (rec10 : Wd → Int32 → Int32 → Option (Wd × Int32)) (w : Wd) (x1 : Int32) (x3 : Int32) (y1 : Int32) (y3 : Int32) (y4 : Int32) (y5 : Int32) : Option (Wd × Int32) :=
  c_cl (eX7_cellAt N d w y3 y4 y5) fun w9 v10 =>
  c_ld w9 35 160 v10 fun v11 =>
  bX7_valueOf_119 N d  rec10 w9 x1 x3 y1 (Int32.toInt64 v11)
set_option maxHeartbeats 4000000 in
theorem kX7_valueOf_114 {V : Ev} {p : Program} {l : Launch} {e : Env} {N d : Nat} {s : State} {m : MethodId} {args : Array Value} {below : List Frame} {meth : Method} {c : Code} {z : Wd × Int32} (X : CX V p s m args meth c cX7_valueOf 6 RX7 (some .int))   {rec10 : Wd → Int32 → Int32 → Option (Wd × Int32)} (hr10 : ∀ (w : Wd) (x1 : Int32) (x3 : Int32) (H : Heap) (locs : List Loc) (ls : Array Slot), rec10 w x1 x3 = some z → wH V (cC V) (AC V) s w H locs → lv_has ls 6 [(0, .ref (V.2.2 6)), (1, .int x1), (2, .ref (V.2.2 22)), (3, .int x3)] → W p l e (rmD (d + 1)) s m args below meth c H locs 0 0 (MQ below (CtI V (cC V) (AC V) z) args s 0 0 (AC V)) (F0 m 10 ls [])) {w : Wd} {x1 : Int32} {x3 : Int32} {y1 : Int32} {y3 : Int32} {y4 : Int32} {y5 : Int32} {H : Heap} {locs : List Loc} {ls : Array Slot} (h : bX7_valueOf_114 N d  rec10 w x1 x3 y1 y3 y4 y5 = some z) (hH : wH V (cC V) (AC V) s w H locs) (hl : lv_has ls 6 [(0, .ref (V.2.2 6)), (1, .int x1), (2, .ref (V.2.2 22)), (3, .int x3)]) : W p l e (rmD (d + 1)) s m args below meth c H locs 0 0 (MQ below (CtI V (cC V) (AC V) z) args s 0 0 (AC V)) (F0 m 114 ls [.int y5, .int y4, .int y3, .ref (V.2.2 34), .int y1, .ref (V.2.2 22)]) := by
  unfold bX7_valueOf_114 at h
  obtain ⟨hx, hb, hml, hown, hg, hrt, hlk, hK⟩ := id X
  refine r_csI (pc := 114) (As := [.int y3, .int y4, .int y5]) (rest := [.ref (V.2.2 34), .int y1, .ref (V.2.2 22)]) X hH (fun x hx => mX7_cellAt hx) cs_X7_35 rfl rfl (Nat.le_of_ble_eq_true rfl) hl.1 h dX7_valueOf_114 (fun w9 v10 H locs h hH => ?_)
  refine r_ld (pc := 117) X (heC_34 V w9) hH h dX7_valueOf_117 (fun v11 h => ?_)
  refine lv_i2l (pc := 118) hx hb dX7_valueOf_118 rfl ?_
  exact kX7_valueOf_119 X  hr10 h hH (lv_sub hl [0, 1, 2, 3] rfl)
def bX7_valueOf_99 (N d : Nat)  (rec10 : Wd → Int32 → Int32 → Option (Wd × Int32)) (w : Wd) (x1 : Int32) (x3 : Int32) (x5 : Int32) (y1 : Int32) (y3 : Int32) (y4 : Int32) : Option (Wd × Int32) :=
  if x5 = (-1) then (
    bX7_valueOf_114 N d  rec10 w x1 x3 y1 y3 y4 0
  ) else (
    c_ll w 22 1000 x5 fun v8 =>
    bX7_valueOf_114 N d  rec10 w x1 x3 y1 y3 y4 (Int64.toInt32 v8)
  )
set_option maxHeartbeats 4000000 in
theorem kX7_valueOf_99 {V : Ev} {p : Program} {l : Launch} {e : Env} {N d : Nat} {s : State} {m : MethodId} {args : Array Value} {below : List Frame} {meth : Method} {c : Code} {z : Wd × Int32} (X : CX V p s m args meth c cX7_valueOf 6 RX7 (some .int))   {rec10 : Wd → Int32 → Int32 → Option (Wd × Int32)} (hr10 : ∀ (w : Wd) (x1 : Int32) (x3 : Int32) (H : Heap) (locs : List Loc) (ls : Array Slot), rec10 w x1 x3 = some z → wH V (cC V) (AC V) s w H locs → lv_has ls 6 [(0, .ref (V.2.2 6)), (1, .int x1), (2, .ref (V.2.2 22)), (3, .int x3)] → W p l e (rmD (d + 1)) s m args below meth c H locs 0 0 (MQ below (CtI V (cC V) (AC V) z) args s 0 0 (AC V)) (F0 m 10 ls [])) {w : Wd} {x1 : Int32} {x3 : Int32} {x5 : Int32} {y1 : Int32} {y3 : Int32} {y4 : Int32} {H : Heap} {locs : List Loc} {ls : Array Slot} (h : bX7_valueOf_99 N d  rec10 w x1 x3 x5 y1 y3 y4 = some z) (hH : wH V (cC V) (AC V) s w H locs) (hl : lv_has ls 6 [(0, .ref (V.2.2 6)), (1, .int x1), (2, .ref (V.2.2 22)), (3, .int x3), (5, .int x5)]) : W p l e (rmD (d + 1)) s m args below meth c H locs 0 0 (MQ below (CtI V (cC V) (AC V) z) args s 0 0 (AC V)) (F0 m 99 ls [.int y4, .int y3, .ref (V.2.2 34), .int y1, .ref (V.2.2 22)]) := by
  unfold bX7_valueOf_99 at h
  obtain ⟨hx, hb, hml, hown, hg, hrt, hlk, hK⟩ := id X
  refine lv_iload (pc := 99) hx hb dX7_valueOf_99 (lv_at hl 4 rfl) ?_
  refine lv_iconst (pc := 101) (v := -1) hx hb dX7_valueOf_101 (by decide) ?_
  refine b_icmp_ne (pc := 102) (tgt := 109) hx hb h dX7_valueOf_102 (by decide) (fun h => ?_) (fun h => ?_)
  · refine lv_aload_n (pc := 109) hx hb dX7_valueOf_109 rfl (lv_at hl 2 rfl) ?_
    refine lv_iload (pc := 110) hx hb dX7_valueOf_110 (lv_at hl 4 rfl) ?_
    refine r_ll (pc := 112) X (heC_22 V w) hH h dX7_valueOf_112 (fun v8 h => ?_)
    refine lv_l2i (pc := 113) hx hb dX7_valueOf_113 rfl ?_
    exact kX7_valueOf_114 X  hr10 h hH (lv_sub hl [0, 1, 2, 3] rfl)
  · refine lv_iconst (pc := 105) (v := 0) hx hb dX7_valueOf_105 (by decide) ?_
    refine lv_goto (pc := 106) (tgt := 114) hx hb dX7_valueOf_106 (by decide) ?_
    exact kX7_valueOf_114 X  hr10 h hH (lv_sub hl [0, 1, 2, 3] rfl)
def bX7_valueOf_10 (N d : Nat)  (rec10 : Wd → Int32 → Int32 → Option (Wd × Int32)) (w : Wd) (x1 : Int32) (x3 : Int32) : Option (Wd × Int32) :=
  if x1 < x3 then (
    c_ll w 22 1000 x1 fun v1 =>
    some (w, Int64.toInt32 v1)
  ) else (
    c_ld w 15 1000 x3 fun v2 =>
    c_ld w 16 1000 x3 fun v3 =>
    c_cl (eX8_isVariable N d w x3) fun w4 v5 =>
    if v5 = 0 then (
      c_ld w4 14 1000 x3 fun v6 =>
      if v2 = (-1) then (
        bX7_valueOf_99 N d  rec10 w4 x1 x3 v3 x3 v6 0
      ) else (
        c_ll w4 22 1000 v2 fun v7 =>
        bX7_valueOf_99 N d  rec10 w4 x1 x3 v3 x3 v6 (Int64.toInt32 v7)
      )
    ) else (
      c_ld w4 14 1000 x3 fun v14 =>
      c_ld w4 36 8 (v14 - 10) fun v15 =>
      bX7_valueOf_119 N d  rec10 w4 x1 x3 x3 (Int32.toInt64 v15)
    )
  )
set_option maxHeartbeats 4000000 in
theorem kX7_valueOf_10 {V : Ev} {p : Program} {l : Launch} {e : Env} {N d : Nat} {s : State} {m : MethodId} {args : Array Value} {below : List Frame} {meth : Method} {c : Code} {z : Wd × Int32} (X : CX V p s m args meth c cX7_valueOf 6 RX7 (some .int))   {rec10 : Wd → Int32 → Int32 → Option (Wd × Int32)} (hr10 : ∀ (w : Wd) (x1 : Int32) (x3 : Int32) (H : Heap) (locs : List Loc) (ls : Array Slot), rec10 w x1 x3 = some z → wH V (cC V) (AC V) s w H locs → lv_has ls 6 [(0, .ref (V.2.2 6)), (1, .int x1), (2, .ref (V.2.2 22)), (3, .int x3)] → W p l e (rmD (d + 1)) s m args below meth c H locs 0 0 (MQ below (CtI V (cC V) (AC V) z) args s 0 0 (AC V)) (F0 m 10 ls [])) {w : Wd} {x1 : Int32} {x3 : Int32} {H : Heap} {locs : List Loc} {ls : Array Slot} (h : bX7_valueOf_10 N d  rec10 w x1 x3 = some z) (hH : wH V (cC V) (AC V) s w H locs) (hl : lv_has ls 6 [(0, .ref (V.2.2 6)), (1, .int x1), (2, .ref (V.2.2 22)), (3, .int x3)]) : W p l e (rmD (d + 1)) s m args below meth c H locs 0 0 (MQ below (CtI V (cC V) (AC V) z) args s 0 0 (AC V)) (F0 m 10 ls []) := by
  unfold bX7_valueOf_10 at h
  obtain ⟨hx, hb, hml, hown, hg, hrt, hlk, hK⟩ := id X
  refine lv_iload_n (pc := 10) hx hb dX7_valueOf_10 rfl (lv_at hl 3 rfl) ?_
  refine lv_iload_n (pc := 11) hx hb dX7_valueOf_11 rfl (lv_at hl 1 rfl) ?_
  refine b_icmp_gt (pc := 12) (tgt := 126) hx hb h dX7_valueOf_12 (by decide) (fun h => ?_) (fun h => ?_)
  · refine lv_aload_n (pc := 126) hx hb dX7_valueOf_126 rfl (lv_at hl 2 rfl) ?_
    refine lv_iload_n (pc := 127) hx hb dX7_valueOf_127 rfl (lv_at hl 1 rfl) ?_
    refine r_ll (pc := 128) X (heC_22 V w) hH h dX7_valueOf_128 (fun v1 h => ?_)
    refine lv_l2i (pc := 129) hx hb dX7_valueOf_129 rfl ?_
    exact r_iret (pc := 130) X hH h dX7_valueOf_130
  · refine lv_aload_n (pc := 15) hx hb dX7_valueOf_15 rfl (lv_at hl 0 rfl) ?_
    refine gC_X7_21_6 (pc := 16) X hH dX7_valueOf_16 ?_
    refine gC_X7_45_1 (pc := 19) X hH dX7_valueOf_19 ?_
    refine lv_iload_n (pc := 22) hx hb dX7_valueOf_22 rfl (lv_at hl 3 rfl) ?_
    refine r_ld (pc := 23) X (heC_15 V w) hH h dX7_valueOf_23 (fun v2 h => ?_)
    refine lv_istore (pc := 24) (lv' := [(4, .int v2), (0, .ref (V.2.2 6)), (1, .int x1), (2, .ref (V.2.2 22)), (3, .int x3)]) hx hb dX7_valueOf_24 hl (by decide) rfl (fun ls hl => ?_)
    refine lv_aload_n (pc := 26) hx hb dX7_valueOf_26 rfl (lv_at hl 1 rfl) ?_
    refine gC_X7_21_6 (pc := 27) X hH dX7_valueOf_27 ?_
    refine gC_X7_48_1 (pc := 30) X hH dX7_valueOf_30 ?_
    refine lv_iload_n (pc := 33) hx hb dX7_valueOf_33 rfl (lv_at hl 4 rfl) ?_
    refine r_ld (pc := 34) X (heC_16 V w) hH h dX7_valueOf_34 (fun v3 h => ?_)
    refine lv_istore (pc := 35) (lv' := [(5, .int v3), (4, .int v2), (0, .ref (V.2.2 6)), (1, .int x1), (2, .ref (V.2.2 22)), (3, .int x3)]) hx hb dX7_valueOf_35 hl (by decide) rfl (fun ls hl => ?_)
    refine lv_aload_n (pc := 37) hx hb dX7_valueOf_37 rfl (lv_at hl 4 rfl) ?_
    refine lv_iload_n (pc := 38) hx hb dX7_valueOf_38 rfl (lv_at hl 5 rfl) ?_
    refine lv_aload_n (pc := 39) hx hb dX7_valueOf_39 rfl (lv_at hl 2 rfl) ?_
    refine gC_X7_21_6 (pc := 40) X hH dX7_valueOf_40 ?_
    refine lv_iload_n (pc := 43) hx hb dX7_valueOf_43 rfl (lv_at hl 5 rfl) ?_
    refine r_cvI (pc := 44) (As := [.int x3]) (rest := [.int x3, .ref (V.2.2 22)]) X hH (fun x hx => mX8_isVariable hx) cw_X7_51 (heC_1 V w) rfl rfl rfl (Nat.le_of_ble_eq_true rfl) hl.1 h dX7_valueOf_44 (fun w4 v5 H locs h hH => ?_)
    refine b_if_eq (pc := 47) (tgt := 71) hx hb h dX7_valueOf_47 (by decide) (fun h => ?_) (fun h => ?_)
    · refine lv_aload_n (pc := 71) hx hb dX7_valueOf_71 rfl (lv_at hl 2 rfl) ?_
      refine gC_X7_11_6 (pc := 72) X hH dX7_valueOf_72 ?_
      refine lv_aload_n (pc := 75) hx hb dX7_valueOf_75 rfl (lv_at hl 2 rfl) ?_
      refine gC_X7_21_6 (pc := 76) X hH dX7_valueOf_76 ?_
      refine gC_X7_55_1 (pc := 79) X hH dX7_valueOf_79 ?_
      refine lv_iload_n (pc := 82) hx hb dX7_valueOf_82 rfl (lv_at hl 5 rfl) ?_
      refine r_ld (pc := 83) X (heC_14 V w4) hH h dX7_valueOf_83 (fun v6 h => ?_)
      refine lv_iload (pc := 84) hx hb dX7_valueOf_84 (lv_at hl 1 rfl) ?_
      refine lv_iconst (pc := 86) (v := -1) hx hb dX7_valueOf_86 (by decide) ?_
      refine b_icmp_ne (pc := 87) (tgt := 94) hx hb h dX7_valueOf_87 (by decide) (fun h => ?_) (fun h => ?_)
      · refine lv_aload_n (pc := 94) hx hb dX7_valueOf_94 rfl (lv_at hl 4 rfl) ?_
        refine lv_iload (pc := 95) hx hb dX7_valueOf_95 (lv_at hl 1 rfl) ?_
        refine r_ll (pc := 97) X (heC_22 V w4) hH h dX7_valueOf_97 (fun v7 h => ?_)
        refine lv_l2i (pc := 98) hx hb dX7_valueOf_98 rfl ?_
        exact kX7_valueOf_99 X  hr10 h hH (lv_sub hl [2, 3, 4, 5, 0] rfl)
      · refine lv_iconst (pc := 90) (v := 0) hx hb dX7_valueOf_90 (by decide) ?_
        refine lv_goto (pc := 91) (tgt := 99) hx hb dX7_valueOf_91 (by decide) ?_
        exact kX7_valueOf_99 X  hr10 h hH (lv_sub hl [2, 3, 4, 5, 0] rfl)
    · refine lv_aload_n (pc := 50) hx hb dX7_valueOf_50 rfl (lv_at hl 2 rfl) ?_
      refine gC_X7_15_6 (pc := 51) X hH dX7_valueOf_51 ?_
      refine lv_aload_n (pc := 54) hx hb dX7_valueOf_54 rfl (lv_at hl 2 rfl) ?_
      refine gC_X7_21_6 (pc := 55) X hH dX7_valueOf_55 ?_
      refine gC_X7_55_1 (pc := 58) X hH dX7_valueOf_58 ?_
      refine lv_iload_n (pc := 61) hx hb dX7_valueOf_61 rfl (lv_at hl 5 rfl) ?_
      refine r_ld (pc := 62) X (heC_14 V w4) hH h dX7_valueOf_62 (fun v14 h => ?_)
      refine lv_bipush (pc := 63) (v := 10) hx hb dX7_valueOf_63 (by decide) ?_
      refine lv_isub (pc := 65) hx hb dX7_valueOf_65 ?_
      refine r_ld (pc := 66) X (heC_35 V w4) hH h dX7_valueOf_66 (fun v15 h => ?_)
      refine lv_i2l (pc := 67) hx hb dX7_valueOf_67 rfl ?_
      refine lv_goto (pc := 68) (tgt := 119) hx hb dX7_valueOf_68 (by decide) ?_
      exact kX7_valueOf_119 X  hr10 h hH (lv_sub hl [2, 3, 4, 5] rfl)
def fX7_valueOf_10 (N d : Nat)   : Nat → Wd → Int32 → Int32 → Option (Wd × Int32)
  | 0 => fun _ _ _ => none
  | n + 1 => fun w x1 x3 => bX7_valueOf_10 N d   (fX7_valueOf_10 N d   n) w x1 x3
theorem lX7_valueOf_10 {V : Ev} {p : Program} {l : Launch} {e : Env} {N d : Nat} {s : State} {m : MethodId} {args : Array Value} {below : List Frame} {meth : Method} {c : Code} {z : Wd × Int32} (X : CX V p s m args meth c cX7_valueOf 6 RX7 (some .int))    (n : Nat) {w : Wd} {x1 : Int32} {x3 : Int32} {H : Heap} {locs : List Loc} {ls : Array Slot} (h : fX7_valueOf_10 N d   n w x1 x3 = some z) (hH : wH V (cC V) (AC V) s w H locs) (hl : lv_has ls 6 [(0, .ref (V.2.2 6)), (1, .int x1), (2, .ref (V.2.2 22)), (3, .int x3)]) : W p l e (rmD (d + 1)) s m args below meth c H locs 0 0 (MQ below (CtI V (cC V) (AC V) z) args s 0 0 (AC V)) (F0 m 10 ls []) := by
  induction n generalizing w x1 x3 H locs ls with
  | zero => exact c_none h
  | succ n ih => exact kX7_valueOf_10 (N := N) X  (fun _ _ _ _ _ _ h hH hl => ih h hH hl) h hH hl
def bX7_valueOf_0 (N d : Nat)   (w : Wd) (x1 : Int32) : Option (Wd × Int32) :=
  fX7_valueOf_10 N d   N w x1 ((0 : Int32))
set_option maxHeartbeats 4000000 in
theorem kX7_valueOf_0 {V : Ev} {p : Program} {l : Launch} {e : Env} {N d : Nat} {s : State} {m : MethodId} {args : Array Value} {below : List Frame} {meth : Method} {c : Code} {z : Wd × Int32} (X : CX V p s m args meth c cX7_valueOf 6 RX7 (some .int))    {w : Wd} {x1 : Int32} {H : Heap} {locs : List Loc} {ls : Array Slot} (h : bX7_valueOf_0 N d   w x1 = some z) (hH : wH V (cC V) (AC V) s w H locs) (hl : lv_has ls 6 [(0, .ref (V.2.2 6)), (1, .int x1)]) : W p l e (rmD (d + 1)) s m args below meth c H locs 0 0 (MQ below (CtI V (cC V) (AC V) z) args s 0 0 (AC V)) (F0 m 0 ls []) := by
  unfold bX7_valueOf_0 at h
  obtain ⟨hx, hb, hml, hown, hg, hrt, hlk, hK⟩ := id X
  refine lv_aload_n (pc := 0) hx hb dX7_valueOf_0 rfl (lv_at hl 0 rfl) ?_
  refine gC_X7_21_6 (pc := 1) X hH dX7_valueOf_1 ?_
  refine gC_X7_39_1 (pc := 4) X hH dX7_valueOf_4 ?_
  refine lv_astore_n (pc := 7) (lv' := [(2, .ref (V.2.2 22)), (0, .ref (V.2.2 6)), (1, .int x1)]) hx hb dX7_valueOf_7 rfl hl (by decide) rfl (fun ls hl => ?_)
  refine lv_iconst (pc := 8) (v := 0) hx hb dX7_valueOf_8 (by decide) ?_
  refine lv_istore_n (pc := 9) (lv' := [(3, .int ((0 : Int32))), (2, .ref (V.2.2 22)), (0, .ref (V.2.2 6)), (1, .int x1)]) hx hb dX7_valueOf_9 rfl hl (by decide) rfl (fun ls hl => ?_)
  exact lX7_valueOf_10 X   N h hH (lv_sub hl [2, 3, 1, 0] rfl)
def eX7_valueOf (N : Nat) : Nat → Wd → Int32 → Option (Wd × Int32)
  | 0 => fun _ _ => none
  | d + 1 => fun w x1 => bX7_valueOf_0 N d  w x1
set_option maxHeartbeats 4000000 in
set_option maxRecDepth 20000 in
theorem mX7_valueOf {l : Launch} {V : Ev} {N d : Nat} {w : Wd} {x1 : Int32} {z : Wd × Int32} (h : eX7_valueOf N d w x1 = some z) : MetI l V (cC V) (AC V) yX7_valueOf cX7_valueOf 6 (some .int) d [.ref (V.2.2 6), .int x1] w z := by
  cases d with
  | zero => exact c_none h
  | succ d =>
    refine Met.ofW (cc := cX7_valueOf) (maxL := 6) (ret := (some .int)) (by decide) rfl ?_
    intro p e s m args below meth c s₁ B hml hv
    obtain ⟨rfl, hP, hD, hK⟩ := hv
    have hts := atoms_spec (ws := .code yX7_valueOf cX7_valueOf 6 (some .int) :: gG) B.pre
    have X : CX V p s m ([.ref (V.2.2 6), .int x1] : List Value).toArray meth c cX7_valueOf 6 RX7 (some .int) := ⟨B.exec, B.bytes, hml, findClass_of_methodNamed B.named, fun w hw => hts w (List.mem_cons_of_mem _ hw), B.returns, B.notSynchronized, hK⟩
    have hl := lv_entry ([.ref (V.2.2 6), .int x1] : List Value) (n := 6) (Nat.le_of_ble_eq_true rfl)
    rw [lg_entry_eq]
    generalize (lg_sl ([.ref (V.2.2 6), .int x1] : List Value) ++ List.replicate (6 - (lg_sl ([.ref (V.2.2 6), .int x1] : List Value)).length) Slot.unset).toArray = ls at hl ⊢
    have hl : lv_has ls 6 [(0, .ref (V.2.2 6)), (1, .int x1)] := hl
    exact kX7_valueOf_0 (N := N) X  h ⟨hP, hD, va_S.rf⟩ hl
theorem dX10_value_0 : decode cX10_value 0 = .ok (.aload_n 0, 1) := by decide +kernel
theorem dX10_value_1 : decode cX10_value 1 = .ok (.getfield 51, 3) := by decide +kernel
theorem dX10_value_4 : decode cX10_value 4 = .ok (.getfield 171, 3) := by decide +kernel
theorem dX10_value_7 : decode cX10_value 7 = .ok (.ifCond .ne 6, 3) := by decide +kernel
theorem dX10_value_10 : decode cX10_value 10 = .ok (.bipush (-3), 2) := by decide +kernel
theorem dX10_value_12 : decode cX10_value 12 = .ok (.ireturn, 1) := by decide +kernel
theorem dX10_value_13 : decode cX10_value 13 = .ok (.aload_n 0, 1) := by decide +kernel
theorem dX10_value_14 : decode cX10_value 14 = .ok (.iload_n 1, 1) := by decide +kernel
theorem dX10_value_15 : decode cX10_value 15 = .ok (.invokevirtual 82, 3) := by decide +kernel
theorem dX10_value_18 : decode cX10_value 18 = .ok (.ifCond .eq 14, 3) := by decide +kernel
theorem dX10_value_21 : decode cX10_value 21 = .ok (.aload_n 0, 1) := by decide +kernel
theorem dX10_value_22 : decode cX10_value 22 = .ok (.getfield 51, 3) := by decide +kernel
theorem dX10_value_25 : decode cX10_value 25 = .ok (.iload_n 1, 1) := by decide +kernel
theorem dX10_value_26 : decode cX10_value 26 = .ok (.invokevirtual 184, 3) := by decide +kernel
theorem dX10_value_29 : decode cX10_value 29 = .ok (.goto 5, 3) := by decide +kernel
theorem dX10_value_32 : decode cX10_value 32 = .ok (.bipush (-2), 2) := by decide +kernel
theorem dX10_value_34 : decode cX10_value 34 = .ok (.ireturn, 1) := by decide +kernel
def bX10_value_34 (N d : Nat)   (w : Wd) (y0 : Int32) : Option (Wd × Int32) :=
  some (w, y0)
set_option maxHeartbeats 4000000 in
theorem kX10_value_34 {V : Ev} {p : Program} {l : Launch} {e : Env} {N d : Nat} {s : State} {m : MethodId} {args : Array Value} {below : List Frame} {meth : Method} {c : Code} {z : Wd × Int32} (X : CX V p s m args meth c cX10_value 2 RX10 (some .int))    {w : Wd} {y0 : Int32} {H : Heap} {locs : List Loc} {ls : Array Slot} (h : bX10_value_34 N d   w y0 = some z) (hH : wH V (cC V) (AC V) s w H locs) (hl : lv_has ls 2 []) : W p l e (rmD (d + 1)) s m args below meth c H locs 0 0 (MQ below (CtI V (cC V) (AC V) z) args s 0 0 (AC V)) (F0 m 34 ls [.int y0]) := by
  unfold bX10_value_34 at h
  obtain ⟨hx, hb, hml, hown, hg, hrt, hlk, hK⟩ := id X
  exact r_iret (pc := 34) X hH h dX10_value_34
def bX10_value_0 (N d : Nat)   (w : Wd) (x1 : Int32) : Option (Wd × Int32) :=
  if (sI w 10) = 0 then (
    some (w, -3)
  ) else (
    c_cl (eX10_isTerm N d w x1) fun w1 v2 =>
    if v2 = 0 then (
      bX10_value_34 N d   w1 (-2)
    ) else (
      c_cl (eX7_valueOf N d w1 x1) fun w3 v4 =>
      bX10_value_34 N d   w3 v4
    )
  )
set_option maxHeartbeats 4000000 in
theorem kX10_value_0 {V : Ev} {p : Program} {l : Launch} {e : Env} {N d : Nat} {s : State} {m : MethodId} {args : Array Value} {below : List Frame} {meth : Method} {c : Code} {z : Wd × Int32} (X : CX V p s m args meth c cX10_value 2 RX10 (some .int))    {w : Wd} {x1 : Int32} {H : Heap} {locs : List Loc} {ls : Array Slot} (h : bX10_value_0 N d   w x1 = some z) (hH : wH V (cC V) (AC V) s w H locs) (hl : lv_has ls 2 [(0, .ref (V.2.2 0)), (1, .int x1)]) : W p l e (rmD (d + 1)) s m args below meth c H locs 0 0 (MQ below (CtI V (cC V) (AC V) z) args s 0 0 (AC V)) (F0 m 0 ls []) := by
  unfold bX10_value_0 at h
  obtain ⟨hx, hb, hml, hown, hg, hrt, hlk, hK⟩ := id X
  refine lv_aload_n (pc := 0) hx hb dX10_value_0 rfl (lv_at hl 0 rfl) ?_
  refine gC_X10_51_0 (pc := 1) X hH dX10_value_1 ?_
  refine gC_X10_171_6 (pc := 4) X hH dX10_value_4 ?_
  refine b_if_ne (pc := 7) (tgt := 13) hx hb h dX10_value_7 (by decide) (fun h => ?_) (fun h => ?_)
  · refine lv_aload_n (pc := 13) hx hb dX10_value_13 rfl (lv_at hl 0 rfl) ?_
    refine lv_iload_n (pc := 14) hx hb dX10_value_14 rfl (lv_at hl 1 rfl) ?_
    refine r_cvI (pc := 15) (As := [.int x1]) (rest := []) X hH (fun x hx => mX10_isTerm hx) cw_X10_82 (heC_0 V w) rfl rfl rfl (Nat.le_of_ble_eq_true rfl) hl.1 h dX10_value_15 (fun w1 v2 H locs h hH => ?_)
    refine b_if_eq (pc := 18) (tgt := 32) hx hb h dX10_value_18 (by decide) (fun h => ?_) (fun h => ?_)
    · refine lv_bipush (pc := 32) (v := -2) hx hb dX10_value_32 (by decide) ?_
      exact kX10_value_34 X   h hH (lv_sub hl [] rfl)
    · refine lv_aload_n (pc := 21) hx hb dX10_value_21 rfl (lv_at hl 0 rfl) ?_
      refine gC_X10_51_0 (pc := 22) X hH dX10_value_22 ?_
      refine lv_iload_n (pc := 25) hx hb dX10_value_25 rfl (lv_at hl 1 rfl) ?_
      refine r_cvI (pc := 26) (As := [.int x1]) (rest := []) X hH (fun x hx => mX7_valueOf hx) cw_X10_184 (heC_6 V w1) rfl rfl rfl (Nat.le_of_ble_eq_true rfl) hl.1 h dX10_value_26 (fun w3 v4 H locs h hH => ?_)
      refine lv_goto (pc := 29) (tgt := 34) hx hb dX10_value_29 (by decide) ?_
      exact kX10_value_34 X   h hH (lv_sub hl [] rfl)
  · refine lv_bipush (pc := 10) (v := -3) hx hb dX10_value_10 (by decide) ?_
    exact r_iret (pc := 12) X hH h dX10_value_12
def eX10_value (N : Nat) : Nat → Wd → Int32 → Option (Wd × Int32)
  | 0 => fun _ _ => none
  | d + 1 => fun w x1 => bX10_value_0 N d  w x1
set_option maxHeartbeats 4000000 in
set_option maxRecDepth 20000 in
theorem mX10_value {l : Launch} {V : Ev} {N d : Nat} {w : Wd} {x1 : Int32} {z : Wd × Int32} (h : eX10_value N d w x1 = some z) : MetI l V (cC V) (AC V) yX10_value cX10_value 2 (some .int) d [.ref (V.2.2 0), .int x1] w z := by
  cases d with
  | zero => exact c_none h
  | succ d =>
    refine Met.ofW (cc := cX10_value) (maxL := 2) (ret := (some .int)) (by decide) rfl ?_
    intro p e s m args below meth c s₁ B hml hv
    obtain ⟨rfl, hP, hD, hK⟩ := hv
    have hts := atoms_spec (ws := .code yX10_value cX10_value 2 (some .int) :: gG) B.pre
    have X : CX V p s m ([.ref (V.2.2 0), .int x1] : List Value).toArray meth c cX10_value 2 RX10 (some .int) := ⟨B.exec, B.bytes, hml, findClass_of_methodNamed B.named, fun w hw => hts w (List.mem_cons_of_mem _ hw), B.returns, B.notSynchronized, hK⟩
    have hl := lv_entry ([.ref (V.2.2 0), .int x1] : List Value) (n := 2) (Nat.le_of_ble_eq_true rfl)
    rw [lg_entry_eq]
    generalize (lg_sl ([.ref (V.2.2 0), .int x1] : List Value) ++ List.replicate (2 - (lg_sl ([.ref (V.2.2 0), .int x1] : List Value)).length) Slot.unset).toArray = ls at hl ⊢
    have hl : lv_has ls 2 [(0, .ref (V.2.2 0)), (1, .int x1)] := hl
    exact kX10_value_0 (N := N) X  h ⟨hP, hD, va_S.rf⟩ hl
def bJ7_fill_53178_r37_5 (N d : Nat)  (rec5 : Wd → Int32 → Int32 → Int32 → Option (Wd)) (w : Wd) (x1 : Int32) (x2 : Int32) (x3 : Int32) : Option (Wd) :=
  if x3 ≤ x2 then (
    some w
  ) else (
    c_st w 37 8 x2 x1 fun w1 =>
    c_nm (x2 + 1) fun x2_2 =>
    rec5 w1 x1 x2_2 x3
  )
set_option maxHeartbeats 4000000 in
theorem kJ7_fill_53178_r37_5 {V : Ev} {p : Program} {l : Launch} {e : Env} {N d : Nat} {s : State} {m : MethodId} {args : Array Value} {below : List Frame} {meth : Method} {c : Code} {z : Wd} (X : CX V p s m args meth c cJ7_fill_53178 4 RJ7 none)   {rec5 : Wd → Int32 → Int32 → Int32 → Option (Wd)} (hr5 : ∀ (w : Wd) (x1 : Int32) (x2 : Int32) (x3 : Int32) (H : Heap) (locs : List Loc) (ls : Array Slot), rec5 w x1 x2 x3 = some z → wH V (cC V) (AC V) s w H locs → lv_has ls 4 [(0, .ref (V.2.2 36)), (1, .int x1), (2, .int x2), (3, .int x3)] → W p l e (rmD (d + 1)) s m args below meth c H locs 0 0 (MQ below (CtV V (cC V) (AC V) z) args s 0 0 (AC V)) (F0 m 5 ls [])) {w : Wd} {x1 : Int32} {x2 : Int32} {x3 : Int32} {H : Heap} {locs : List Loc} {ls : Array Slot} (h : bJ7_fill_53178_r37_5 N d  rec5 w x1 x2 x3 = some z) (hH : wH V (cC V) (AC V) s w H locs) (hl : lv_has ls 4 [(0, .ref (V.2.2 36)), (1, .int x1), (2, .int x2), (3, .int x3)]) : W p l e (rmD (d + 1)) s m args below meth c H locs 0 0 (MQ below (CtV V (cC V) (AC V) z) args s 0 0 (AC V)) (F0 m 5 ls []) := by
  unfold bJ7_fill_53178_r37_5 at h
  obtain ⟨hx, hb, hml, hown, hg, hrt, hlk, hK⟩ := id X
  refine lv_iload_n (pc := 5) hx hb dJ7_fill_53178_5 rfl (lv_at hl 2 rfl) ?_
  refine lv_iload_n (pc := 6) hx hb dJ7_fill_53178_6 rfl (lv_at hl 3 rfl) ?_
  refine b_icmp_ge (pc := 7) (tgt := 20) hx hb h dJ7_fill_53178_7 (by decide) (fun h => ?_) (fun h => ?_)
  · exact r_vret (pc := 20) X hH h dJ7_fill_53178_20
  · refine lv_aload_n (pc := 10) hx hb dJ7_fill_53178_10 rfl (lv_at hl 0 rfl) ?_
    refine lv_iload_n (pc := 11) hx hb dJ7_fill_53178_11 rfl (lv_at hl 2 rfl) ?_
    refine lv_iload_n (pc := 12) hx hb dJ7_fill_53178_12 rfl (lv_at hl 1 rfl) ?_
    refine r_st (pc := 13) X (heC_36 V w) (hsC_36 V w) hH h dJ7_fill_53178_13 (fun w1 H locs h hH => ?_)
    obtain ⟨x2_2, ex2_2, h⟩ := c_nm_ex h
    refine lv_iinc (pc := 14) (v := x2_2) (lv' := [(2, .int x2_2), (0, .ref (V.2.2 36)), (1, .int x1), (3, .int x3)]) hx hb dJ7_fill_53178_14 hl (k := 2) rfl (by rw [← ex2_2]; rfl) (by decide) rfl (fun ls hl => ?_)
    refine lv_goto (pc := 17) (tgt := 5) hx hb dJ7_fill_53178_17 (by decide) ?_
    exact hr5 _ _ _ _ _ _ _ h hH (lv_sub hl [1, 2, 0, 3] rfl)
def fJ7_fill_53178_r37_5 (N d : Nat)   : Nat → Wd → Int32 → Int32 → Int32 → Option (Wd)
  | 0 => fun _ _ _ _ => none
  | n + 1 => fun w x1 x2 x3 => bJ7_fill_53178_r37_5 N d   (fJ7_fill_53178_r37_5 N d   n) w x1 x2 x3
theorem lJ7_fill_53178_r37_5 {V : Ev} {p : Program} {l : Launch} {e : Env} {N d : Nat} {s : State} {m : MethodId} {args : Array Value} {below : List Frame} {meth : Method} {c : Code} {z : Wd} (X : CX V p s m args meth c cJ7_fill_53178 4 RJ7 none)    (n : Nat) {w : Wd} {x1 : Int32} {x2 : Int32} {x3 : Int32} {H : Heap} {locs : List Loc} {ls : Array Slot} (h : fJ7_fill_53178_r37_5 N d   n w x1 x2 x3 = some z) (hH : wH V (cC V) (AC V) s w H locs) (hl : lv_has ls 4 [(0, .ref (V.2.2 36)), (1, .int x1), (2, .int x2), (3, .int x3)]) : W p l e (rmD (d + 1)) s m args below meth c H locs 0 0 (MQ below (CtV V (cC V) (AC V) z) args s 0 0 (AC V)) (F0 m 5 ls []) := by
  induction n generalizing w x1 x2 x3 H locs ls with
  | zero => exact c_none h
  | succ n ih => exact kJ7_fill_53178_r37_5 (N := N) X  (fun _ _ _ _ _ _ _ h hH hl => ih h hH hl) h hH hl
def bJ7_fill_53178_r37_0 (N d : Nat)   (w : Wd) (x1 : Int32) : Option (Wd) :=
  fJ7_fill_53178_r37_5 N d   N w x1 ((0 : Int32)) ((8 : Int32))
set_option maxHeartbeats 4000000 in
theorem kJ7_fill_53178_r37_0 {V : Ev} {p : Program} {l : Launch} {e : Env} {N d : Nat} {s : State} {m : MethodId} {args : Array Value} {below : List Frame} {meth : Method} {c : Code} {z : Wd} (X : CX V p s m args meth c cJ7_fill_53178 4 RJ7 none)    {w : Wd} {x1 : Int32} {H : Heap} {locs : List Loc} {ls : Array Slot} (h : bJ7_fill_53178_r37_0 N d   w x1 = some z) (hH : wH V (cC V) (AC V) s w H locs) (hl : lv_has ls 4 [(0, .ref (V.2.2 36)), (1, .int x1)]) : W p l e (rmD (d + 1)) s m args below meth c H locs 0 0 (MQ below (CtV V (cC V) (AC V) z) args s 0 0 (AC V)) (F0 m 0 ls []) := by
  unfold bJ7_fill_53178_r37_0 at h
  obtain ⟨hx, hb, hml, hown, hg, hrt, hlk, hK⟩ := id X
  refine lv_iconst (pc := 0) (v := 0) hx hb dJ7_fill_53178_0 (by decide) ?_
  refine lv_istore_n (pc := 1) (lv' := [(2, .int ((0 : Int32))), (0, .ref (V.2.2 36)), (1, .int x1)]) hx hb dJ7_fill_53178_1 rfl hl (by decide) rfl (fun ls hl => ?_)
  refine lv_aload_n (pc := 2) hx hb dJ7_fill_53178_2 rfl (lv_at hl 1 rfl) ?_
  refine r_al (pc := 3) (t0 := 0) (v := 8) X (heC_36 V w) rfl hH (by decide) dJ7_fill_53178_3 ?_
  refine lv_istore_n (pc := 4) (lv' := [(3, .int ((8 : Int32))), (2, .int ((0 : Int32))), (0, .ref (V.2.2 36)), (1, .int x1)]) hx hb dJ7_fill_53178_4 rfl hl (by decide) rfl (fun ls hl => ?_)
  exact lJ7_fill_53178_r37_5 X   N h hH (lv_sub hl [2, 3, 1, 0] rfl)
def eJ7_fill_53178_r37 (N : Nat) : Nat → Wd → Int32 → Option (Wd)
  | 0 => fun _ _ => none
  | d + 1 => fun w x1 => bJ7_fill_53178_r37_0 N d  w x1
set_option maxHeartbeats 4000000 in
set_option maxRecDepth 20000 in
theorem mJ7_fill_53178_r37 {l : Launch} {V : Ev} {N d : Nat} {w : Wd} {x1 : Int32} {z : Wd} (h : eJ7_fill_53178_r37 N d w x1 = some z) : MetV l V (cC V) (AC V) yJ7_fill_53178 cJ7_fill_53178 4 none d [.ref (V.2.2 36), .int x1] w z := by
  cases d with
  | zero => exact c_none h
  | succ d =>
    refine Met.ofW (cc := cJ7_fill_53178) (maxL := 4) (ret := none) (by decide) rfl ?_
    intro p e s m args below meth c s₁ B hml hv
    obtain ⟨rfl, hP, hD, hK⟩ := hv
    have hts := atoms_spec (ws := .code yJ7_fill_53178 cJ7_fill_53178 4 none :: gG) B.pre
    have X : CX V p s m ([.ref (V.2.2 36), .int x1] : List Value).toArray meth c cJ7_fill_53178 4 RJ7 none := ⟨B.exec, B.bytes, hml, findClass_of_methodNamed B.named, fun w hw => hts w (List.mem_cons_of_mem _ hw), B.returns, B.notSynchronized, hK⟩
    have hl := lv_entry ([.ref (V.2.2 36), .int x1] : List Value) (n := 4) (Nat.le_of_ble_eq_true rfl)
    rw [lg_entry_eq]
    generalize (lg_sl ([.ref (V.2.2 36), .int x1] : List Value) ++ List.replicate (4 - (lg_sl ([.ref (V.2.2 36), .int x1] : List Value)).length) Slot.unset).toArray = ls at hl ⊢
    have hl : lv_has ls 4 [(0, .ref (V.2.2 36)), (1, .int x1)] := hl
    exact kJ7_fill_53178_r37_0 (N := N) X  h ⟨hP, hD, va_S.rf⟩ hl
theorem dX7_triedValueOf_0 : decode cX7_triedValueOf 0 = .ok (.iload_n 1, 1) := by decide +kernel
theorem dX7_triedValueOf_1 : decode cX7_triedValueOf 1 = .ok (.iconst (-1), 1) := by decide +kernel
theorem dX7_triedValueOf_2 : decode cX7_triedValueOf 2 = .ok (.if_icmp .eq 9, 3) := by decide +kernel
theorem dX7_triedValueOf_5 : decode cX7_triedValueOf 5 = .ok (.iload_n 2, 1) := by decide +kernel
theorem dX7_triedValueOf_6 : decode cX7_triedValueOf 6 = .ok (.bipush 30, 2) := by decide +kernel
theorem dX7_triedValueOf_8 : decode cX7_triedValueOf 8 = .ok (.if_icmp .le 5, 3) := by decide +kernel
theorem dX7_triedValueOf_11 : decode cX7_triedValueOf 11 = .ok (.iconst 0, 1) := by decide +kernel
theorem dX7_triedValueOf_12 : decode cX7_triedValueOf 12 = .ok (.ireturn, 1) := by decide +kernel
theorem dX7_triedValueOf_13 : decode cX7_triedValueOf 13 = .ok (.aload_n 0, 1) := by decide +kernel
theorem dX7_triedValueOf_14 : decode cX7_triedValueOf 14 = .ok (.getfield 21, 3) := by decide +kernel
theorem dX7_triedValueOf_17 : decode cX7_triedValueOf 17 = .ok (.iload_n 1, 1) := by decide +kernel
theorem dX7_triedValueOf_18 : decode cX7_triedValueOf 18 = .ok (.invokevirtual 51, 3) := by decide +kernel
theorem dX7_triedValueOf_21 : decode cX7_triedValueOf 21 = .ok (.ifCond .eq 21, 3) := by decide +kernel
theorem dX7_triedValueOf_24 : decode cX7_triedValueOf 24 = .ok (.aload_n 0, 1) := by decide +kernel
theorem dX7_triedValueOf_25 : decode cX7_triedValueOf 25 = .ok (.getfield 18, 3) := by decide +kernel
theorem dX7_triedValueOf_28 : decode cX7_triedValueOf 28 = .ok (.aload_n 0, 1) := by decide +kernel
theorem dX7_triedValueOf_29 : decode cX7_triedValueOf 29 = .ok (.getfield 21, 3) := by decide +kernel
theorem dX7_triedValueOf_32 : decode cX7_triedValueOf 32 = .ok (.getfield 55, 3) := by decide +kernel
theorem dX7_triedValueOf_35 : decode cX7_triedValueOf 35 = .ok (.iload_n 1, 1) := by decide +kernel
theorem dX7_triedValueOf_36 : decode cX7_triedValueOf 36 = .ok (.iaload, 1) := by decide +kernel
theorem dX7_triedValueOf_37 : decode cX7_triedValueOf 37 = .ok (.bipush 10, 2) := by decide +kernel
theorem dX7_triedValueOf_39 : decode cX7_triedValueOf 39 = .ok (.isub, 1) := by decide +kernel
theorem dX7_triedValueOf_40 : decode cX7_triedValueOf 40 = .ok (.iaload, 1) := by decide +kernel
theorem dX7_triedValueOf_41 : decode cX7_triedValueOf 41 = .ok (.ireturn, 1) := by decide +kernel
theorem dX7_triedValueOf_42 : decode cX7_triedValueOf 42 = .ok (.aload_n 0, 1) := by decide +kernel
theorem dX7_triedValueOf_43 : decode cX7_triedValueOf 43 = .ok (.aload_n 0, 1) := by decide +kernel
theorem dX7_triedValueOf_44 : decode cX7_triedValueOf 44 = .ok (.getfield 21, 3) := by decide +kernel
theorem dX7_triedValueOf_47 : decode cX7_triedValueOf 47 = .ok (.getfield 45, 3) := by decide +kernel
theorem dX7_triedValueOf_50 : decode cX7_triedValueOf 50 = .ok (.iload_n 1, 1) := by decide +kernel
theorem dX7_triedValueOf_51 : decode cX7_triedValueOf 51 = .ok (.iaload, 1) := by decide +kernel
theorem dX7_triedValueOf_52 : decode cX7_triedValueOf 52 = .ok (.iload_n 2, 1) := by decide +kernel
theorem dX7_triedValueOf_53 : decode cX7_triedValueOf 53 = .ok (.iconst 1, 1) := by decide +kernel
theorem dX7_triedValueOf_54 : decode cX7_triedValueOf 54 = .ok (.iadd, 1) := by decide +kernel
theorem dX7_triedValueOf_55 : decode cX7_triedValueOf 55 = .ok (.invokevirtual 59, 3) := by decide +kernel
theorem dX7_triedValueOf_58 : decode cX7_triedValueOf 58 = .ok (.istore_n 3, 1) := by decide +kernel
theorem dX7_triedValueOf_59 : decode cX7_triedValueOf 59 = .ok (.aload_n 0, 1) := by decide +kernel
theorem dX7_triedValueOf_60 : decode cX7_triedValueOf 60 = .ok (.aload_n 0, 1) := by decide +kernel
theorem dX7_triedValueOf_61 : decode cX7_triedValueOf 61 = .ok (.getfield 21, 3) := by decide +kernel
theorem dX7_triedValueOf_64 : decode cX7_triedValueOf 64 = .ok (.getfield 48, 3) := by decide +kernel
theorem dX7_triedValueOf_67 : decode cX7_triedValueOf 67 = .ok (.iload_n 1, 1) := by decide +kernel
theorem dX7_triedValueOf_68 : decode cX7_triedValueOf 68 = .ok (.iaload, 1) := by decide +kernel
theorem dX7_triedValueOf_69 : decode cX7_triedValueOf 69 = .ok (.iload_n 2, 1) := by decide +kernel
theorem dX7_triedValueOf_70 : decode cX7_triedValueOf 70 = .ok (.iconst 1, 1) := by decide +kernel
theorem dX7_triedValueOf_71 : decode cX7_triedValueOf 71 = .ok (.iadd, 1) := by decide +kernel
theorem dX7_triedValueOf_72 : decode cX7_triedValueOf 72 = .ok (.invokevirtual 59, 3) := by decide +kernel
theorem dX7_triedValueOf_75 : decode cX7_triedValueOf 75 = .ok (.istore 4, 2) := by decide +kernel
theorem dX7_triedValueOf_77 : decode cX7_triedValueOf 77 = .ok (.aload_n 0, 1) := by decide +kernel
theorem dX7_triedValueOf_78 : decode cX7_triedValueOf 78 = .ok (.getfield 11, 3) := by decide +kernel
theorem dX7_triedValueOf_81 : decode cX7_triedValueOf 81 = .ok (.aload_n 0, 1) := by decide +kernel
theorem dX7_triedValueOf_82 : decode cX7_triedValueOf 82 = .ok (.getfield 21, 3) := by decide +kernel
theorem dX7_triedValueOf_85 : decode cX7_triedValueOf 85 = .ok (.getfield 55, 3) := by decide +kernel
theorem dX7_triedValueOf_88 : decode cX7_triedValueOf 88 = .ok (.iload_n 1, 1) := by decide +kernel
theorem dX7_triedValueOf_89 : decode cX7_triedValueOf 89 = .ok (.iaload, 1) := by decide +kernel
theorem dX7_triedValueOf_90 : decode cX7_triedValueOf 90 = .ok (.iload_n 3, 1) := by decide +kernel
theorem dX7_triedValueOf_91 : decode cX7_triedValueOf 91 = .ok (.iload 4, 2) := by decide +kernel
theorem dX7_triedValueOf_93 : decode cX7_triedValueOf 93 = .ok (.invokestatic 35, 3) := by decide +kernel
theorem dX7_triedValueOf_96 : decode cX7_triedValueOf 96 = .ok (.iaload, 1) := by decide +kernel
theorem dX7_triedValueOf_97 : decode cX7_triedValueOf 97 = .ok (.ireturn, 1) := by decide +kernel
def bX7_triedValueOf_11 (N d : Nat) (self_X7_triedValueOf : Wd → Int32 → Int32 → Option (Wd × Int32))  (w : Wd)  : Option (Wd × Int32) :=
  some (w, 0)
set_option maxHeartbeats 4000000 in
theorem kX7_triedValueOf_11 {V : Ev} {p : Program} {l : Launch} {e : Env} {N d : Nat} {s : State} {m : MethodId} {args : Array Value} {below : List Frame} {meth : Method} {c : Code} {z : Wd × Int32} (X : CX V p s m args meth c cX7_triedValueOf 5 RX7 (some .int)) {self_X7_triedValueOf : Wd → Int32 → Int32 → Option (Wd × Int32)} (hs_X7_triedValueOf : ∀ (w : Wd) (a0 : Int32) (a1 : Int32) (x : Wd × Int32), self_X7_triedValueOf w a0 a1 = some x → MetI l V (cC V) (AC V) yX7_triedValueOf cX7_triedValueOf 5 (some .int) d [.ref (V.2.2 6), .int a0, .int a1] w x)  {w : Wd}  {H : Heap} {locs : List Loc} {ls : Array Slot} (h : bX7_triedValueOf_11 N d self_X7_triedValueOf  w  = some z) (hH : wH V (cC V) (AC V) s w H locs) (hl : lv_has ls 5 []) : W p l e (rmD (d + 1)) s m args below meth c H locs 0 0 (MQ below (CtI V (cC V) (AC V) z) args s 0 0 (AC V)) (F0 m 11 ls []) := by
  unfold bX7_triedValueOf_11 at h
  obtain ⟨hx, hb, hml, hown, hg, hrt, hlk, hK⟩ := id X
  refine lv_iconst (pc := 11) (v := 0) hx hb dX7_triedValueOf_11 (by decide) ?_
  exact r_iret (pc := 12) X hH h dX7_triedValueOf_12
def bX7_triedValueOf_0 (N d : Nat) (self_X7_triedValueOf : Wd → Int32 → Int32 → Option (Wd × Int32))  (w : Wd) (x1 : Int32) (x2 : Int32) : Option (Wd × Int32) :=
  if x1 = (-1) then (
    bX7_triedValueOf_11 N d self_X7_triedValueOf  w 
  ) else (
    if x2 ≤ 30 then (
      c_cl (eX8_isVariable N d w x1) fun w1 v2 =>
      if v2 = 0 then (
        c_ld w1 15 1000 x1 fun v3 =>
        c_cl (self_X7_triedValueOf w1 v3 (x2 + 1)) fun w4 v5 =>
        c_ld w4 16 1000 x1 fun v6 =>
        c_cl (self_X7_triedValueOf w4 v6 (x2 + 1)) fun w7 v8 =>
        c_ld w7 14 1000 x1 fun v9 =>
        c_cl (eX7_cellAt N d w7 v9 v5 v8) fun w10 v11 =>
        c_ld w10 35 160 v11 fun v12 =>
        some (w10, v12)
      ) else (
        c_ld w1 14 1000 x1 fun v13 =>
        c_ld w1 37 8 (v13 - 10) fun v14 =>
        some (w1, v14)
      )
    ) else (
      bX7_triedValueOf_11 N d self_X7_triedValueOf  w 
    )
  )
set_option maxHeartbeats 4000000 in
theorem kX7_triedValueOf_0 {V : Ev} {p : Program} {l : Launch} {e : Env} {N d : Nat} {s : State} {m : MethodId} {args : Array Value} {below : List Frame} {meth : Method} {c : Code} {z : Wd × Int32} (X : CX V p s m args meth c cX7_triedValueOf 5 RX7 (some .int)) {self_X7_triedValueOf : Wd → Int32 → Int32 → Option (Wd × Int32)} (hs_X7_triedValueOf : ∀ (w : Wd) (a0 : Int32) (a1 : Int32) (x : Wd × Int32), self_X7_triedValueOf w a0 a1 = some x → MetI l V (cC V) (AC V) yX7_triedValueOf cX7_triedValueOf 5 (some .int) d [.ref (V.2.2 6), .int a0, .int a1] w x)  {w : Wd} {x1 : Int32} {x2 : Int32} {H : Heap} {locs : List Loc} {ls : Array Slot} (h : bX7_triedValueOf_0 N d self_X7_triedValueOf  w x1 x2 = some z) (hH : wH V (cC V) (AC V) s w H locs) (hl : lv_has ls 5 [(0, .ref (V.2.2 6)), (1, .int x1), (2, .int x2)]) : W p l e (rmD (d + 1)) s m args below meth c H locs 0 0 (MQ below (CtI V (cC V) (AC V) z) args s 0 0 (AC V)) (F0 m 0 ls []) := by
  unfold bX7_triedValueOf_0 at h
  obtain ⟨hx, hb, hml, hown, hg, hrt, hlk, hK⟩ := id X
  refine lv_iload_n (pc := 0) hx hb dX7_triedValueOf_0 rfl (lv_at hl 1 rfl) ?_
  refine lv_iconst (pc := 1) (v := -1) hx hb dX7_triedValueOf_1 (by decide) ?_
  refine b_icmp_eq (pc := 2) (tgt := 11) hx hb h dX7_triedValueOf_2 (by decide) (fun h => ?_) (fun h => ?_)
  · exact kX7_triedValueOf_11 X hs_X7_triedValueOf  h hH (lv_sub hl [] rfl)
  · refine lv_iload_n (pc := 5) hx hb dX7_triedValueOf_5 rfl (lv_at hl 2 rfl) ?_
    refine lv_bipush (pc := 6) (v := 30) hx hb dX7_triedValueOf_6 (by decide) ?_
    refine b_icmp_le (pc := 8) (tgt := 13) hx hb h dX7_triedValueOf_8 (by decide) (fun h => ?_) (fun h => ?_)
    · refine lv_aload_n (pc := 13) hx hb dX7_triedValueOf_13 rfl (lv_at hl 0 rfl) ?_
      refine gC_X7_21_6 (pc := 14) X hH dX7_triedValueOf_14 ?_
      refine lv_iload_n (pc := 17) hx hb dX7_triedValueOf_17 rfl (lv_at hl 1 rfl) ?_
      refine r_cvI (pc := 18) (As := [.int x1]) (rest := []) X hH (fun x hx => mX8_isVariable hx) cw_X7_51 (heC_1 V w) rfl rfl rfl (Nat.le_of_ble_eq_true rfl) hl.1 h dX7_triedValueOf_18 (fun w1 v2 H locs h hH => ?_)
      refine b_if_eq (pc := 21) (tgt := 42) hx hb h dX7_triedValueOf_21 (by decide) (fun h => ?_) (fun h => ?_)
      · refine lv_aload_n (pc := 42) hx hb dX7_triedValueOf_42 rfl (lv_at hl 0 rfl) ?_
        refine lv_aload_n (pc := 43) hx hb dX7_triedValueOf_43 rfl (lv_at hl 0 rfl) ?_
        refine gC_X7_21_6 (pc := 44) X hH dX7_triedValueOf_44 ?_
        refine gC_X7_45_1 (pc := 47) X hH dX7_triedValueOf_47 ?_
        refine lv_iload_n (pc := 50) hx hb dX7_triedValueOf_50 rfl (lv_at hl 1 rfl) ?_
        refine r_ld (pc := 51) X (heC_15 V w1) hH h dX7_triedValueOf_51 (fun v3 h => ?_)
        refine lv_iload_n (pc := 52) hx hb dX7_triedValueOf_52 rfl (lv_at hl 2 rfl) ?_
        refine lv_iconst (pc := 53) (v := 1) hx hb dX7_triedValueOf_53 (by decide) ?_
        refine lv_iadd (pc := 54) hx hb dX7_triedValueOf_54 ?_
        refine r_cvI (pc := 55) (As := [.int v3, .int (x2 + 1)]) (rest := []) X hH (fun x hx => hs_X7_triedValueOf _ _ _ _ hx) cw_X7_59 (heC_6 V w1) rfl rfl rfl (Nat.le_of_ble_eq_true rfl) hl.1 h dX7_triedValueOf_55 (fun w4 v5 H locs h hH => ?_)
        refine lv_istore_n (pc := 58) (lv' := [(3, .int v5), (0, .ref (V.2.2 6)), (1, .int x1), (2, .int x2)]) hx hb dX7_triedValueOf_58 rfl hl (by decide) rfl (fun ls hl => ?_)
        refine lv_aload_n (pc := 59) hx hb dX7_triedValueOf_59 rfl (lv_at hl 1 rfl) ?_
        refine lv_aload_n (pc := 60) hx hb dX7_triedValueOf_60 rfl (lv_at hl 1 rfl) ?_
        refine gC_X7_21_6 (pc := 61) X hH dX7_triedValueOf_61 ?_
        refine gC_X7_48_1 (pc := 64) X hH dX7_triedValueOf_64 ?_
        refine lv_iload_n (pc := 67) hx hb dX7_triedValueOf_67 rfl (lv_at hl 2 rfl) ?_
        refine r_ld (pc := 68) X (heC_16 V w4) hH h dX7_triedValueOf_68 (fun v6 h => ?_)
        refine lv_iload_n (pc := 69) hx hb dX7_triedValueOf_69 rfl (lv_at hl 3 rfl) ?_
        refine lv_iconst (pc := 70) (v := 1) hx hb dX7_triedValueOf_70 (by decide) ?_
        refine lv_iadd (pc := 71) hx hb dX7_triedValueOf_71 ?_
        refine r_cvI (pc := 72) (As := [.int v6, .int (x2 + 1)]) (rest := []) X hH (fun x hx => hs_X7_triedValueOf _ _ _ _ hx) cw_X7_59 (heC_6 V w4) rfl rfl rfl (Nat.le_of_ble_eq_true rfl) hl.1 h dX7_triedValueOf_72 (fun w7 v8 H locs h hH => ?_)
        refine lv_istore (pc := 75) (lv' := [(4, .int v8), (3, .int v5), (0, .ref (V.2.2 6)), (1, .int x1), (2, .int x2)]) hx hb dX7_triedValueOf_75 hl (by decide) rfl (fun ls hl => ?_)
        refine lv_aload_n (pc := 77) hx hb dX7_triedValueOf_77 rfl (lv_at hl 2 rfl) ?_
        refine gC_X7_11_6 (pc := 78) X hH dX7_triedValueOf_78 ?_
        refine lv_aload_n (pc := 81) hx hb dX7_triedValueOf_81 rfl (lv_at hl 2 rfl) ?_
        refine gC_X7_21_6 (pc := 82) X hH dX7_triedValueOf_82 ?_
        refine gC_X7_55_1 (pc := 85) X hH dX7_triedValueOf_85 ?_
        refine lv_iload_n (pc := 88) hx hb dX7_triedValueOf_88 rfl (lv_at hl 3 rfl) ?_
        refine r_ld (pc := 89) X (heC_14 V w7) hH h dX7_triedValueOf_89 (fun v9 h => ?_)
        refine lv_iload_n (pc := 90) hx hb dX7_triedValueOf_90 rfl (lv_at hl 1 rfl) ?_
        refine lv_iload (pc := 91) hx hb dX7_triedValueOf_91 (lv_at hl 0 rfl) ?_
        refine r_csI (pc := 93) (As := [.int v9, .int v5, .int v8]) (rest := [.ref (V.2.2 34)]) X hH (fun x hx => mX7_cellAt hx) cs_X7_35 rfl rfl (Nat.le_of_ble_eq_true rfl) hl.1 h dX7_triedValueOf_93 (fun w10 v11 H locs h hH => ?_)
        refine r_ld (pc := 96) X (heC_34 V w10) hH h dX7_triedValueOf_96 (fun v12 h => ?_)
        exact r_iret (pc := 97) X hH h dX7_triedValueOf_97
      · refine lv_aload_n (pc := 24) hx hb dX7_triedValueOf_24 rfl (lv_at hl 0 rfl) ?_
        refine gC_X7_18_6 (pc := 25) X hH dX7_triedValueOf_25 ?_
        refine lv_aload_n (pc := 28) hx hb dX7_triedValueOf_28 rfl (lv_at hl 0 rfl) ?_
        refine gC_X7_21_6 (pc := 29) X hH dX7_triedValueOf_29 ?_
        refine gC_X7_55_1 (pc := 32) X hH dX7_triedValueOf_32 ?_
        refine lv_iload_n (pc := 35) hx hb dX7_triedValueOf_35 rfl (lv_at hl 1 rfl) ?_
        refine r_ld (pc := 36) X (heC_14 V w1) hH h dX7_triedValueOf_36 (fun v13 h => ?_)
        refine lv_bipush (pc := 37) (v := 10) hx hb dX7_triedValueOf_37 (by decide) ?_
        refine lv_isub (pc := 39) hx hb dX7_triedValueOf_39 ?_
        refine r_ld (pc := 40) X (heC_36 V w1) hH h dX7_triedValueOf_40 (fun v14 h => ?_)
        exact r_iret (pc := 41) X hH h dX7_triedValueOf_41
    · exact kX7_triedValueOf_11 X hs_X7_triedValueOf  h hH (lv_sub hl [] rfl)
def eX7_triedValueOf (N : Nat) : Nat → Wd → Int32 → Int32 → Option (Wd × Int32)
  | 0 => fun _ _ _ => none
  | d + 1 => fun w x1 x2 => bX7_triedValueOf_0 N d (eX7_triedValueOf N d) w x1 x2
set_option maxHeartbeats 4000000 in
set_option maxRecDepth 20000 in
theorem mX7_triedValueOf {l : Launch} {V : Ev} {N d : Nat} {w : Wd} {x1 : Int32} {x2 : Int32} {z : Wd × Int32} (h : eX7_triedValueOf N d w x1 x2 = some z) : MetI l V (cC V) (AC V) yX7_triedValueOf cX7_triedValueOf 5 (some .int) d [.ref (V.2.2 6), .int x1, .int x2] w z := by
  induction d generalizing w x1 x2 z with
  | zero => exact c_none h
  | succ d ih =>
    refine Met.ofW (cc := cX7_triedValueOf) (maxL := 5) (ret := (some .int)) (by decide) rfl ?_
    intro p e s m args below meth c s₁ B hml hv
    obtain ⟨rfl, hP, hD, hK⟩ := hv
    have hts := atoms_spec (ws := .code yX7_triedValueOf cX7_triedValueOf 5 (some .int) :: gG) B.pre
    have X : CX V p s m ([.ref (V.2.2 6), .int x1, .int x2] : List Value).toArray meth c cX7_triedValueOf 5 RX7 (some .int) := ⟨B.exec, B.bytes, hml, findClass_of_methodNamed B.named, fun w hw => hts w (List.mem_cons_of_mem _ hw), B.returns, B.notSynchronized, hK⟩
    have hl := lv_entry ([.ref (V.2.2 6), .int x1, .int x2] : List Value) (n := 5) (Nat.le_of_ble_eq_true rfl)
    rw [lg_entry_eq]
    generalize (lg_sl ([.ref (V.2.2 6), .int x1, .int x2] : List Value) ++ List.replicate (5 - (lg_sl ([.ref (V.2.2 6), .int x1, .int x2] : List Value)).length) Slot.unset).toArray = ls at hl ⊢
    have hl : lv_has ls 5 [(0, .ref (V.2.2 6)), (1, .int x1), (2, .int x2)] := hl
    exact kX7_triedValueOf_0 (N := N) X (fun _ _ _ _ h => ih h) h ⟨hP, hD, va_S.rf⟩ hl
theorem dX7_tryNext_0 : decode cX7_tryNext 0 = .ok (.iconst 0, 1) := by decide +kernel
theorem dX7_tryNext_1 : decode cX7_tryNext 1 = .ok (.istore_n 2, 1) := by decide +kernel
theorem dX7_tryNext_2 : decode cX7_tryNext 2 = .ok (.iload_n 2, 1) := by decide +kernel
theorem dX7_tryNext_3 : decode cX7_tryNext 3 = .ok (.iconst 4, 1) := by decide +kernel
theorem dX7_tryNext_4 : decode cX7_tryNext 4 = .ok (.if_icmp .ge 50, 3) := by decide +kernel
theorem dX7_tryNext_7 : decode cX7_tryNext 7 = .ok (.iload_n 1, 1) := by decide +kernel
theorem dX7_tryNext_8 : decode cX7_tryNext 8 = .ok (.iload_n 2, 1) := by decide +kernel
theorem dX7_tryNext_9 : decode cX7_tryNext 9 = .ok (.ishr, 1) := by decide +kernel
theorem dX7_tryNext_10 : decode cX7_tryNext 10 = .ok (.iconst 1, 1) := by decide +kernel
theorem dX7_tryNext_11 : decode cX7_tryNext 11 = .ok (.iand, 1) := by decide +kernel
theorem dX7_tryNext_12 : decode cX7_tryNext 12 = .ok (.iconst 1, 1) := by decide +kernel
theorem dX7_tryNext_13 : decode cX7_tryNext 13 = .ok (.if_icmp .ne 35, 3) := by decide +kernel
theorem dX7_tryNext_16 : decode cX7_tryNext 16 = .ok (.aload_n 0, 1) := by decide +kernel
theorem dX7_tryNext_17 : decode cX7_tryNext 17 = .ok (.getfield 18, 3) := by decide +kernel
theorem dX7_tryNext_20 : decode cX7_tryNext 20 = .ok (.iload_n 2, 1) := by decide +kernel
theorem dX7_tryNext_21 : decode cX7_tryNext 21 = .ok (.iaload, 1) := by decide +kernel
theorem dX7_tryNext_22 : decode cX7_tryNext 22 = .ok (.aload_n 0, 1) := by decide +kernel
theorem dX7_tryNext_23 : decode cX7_tryNext 23 = .ok (.getfield 25, 3) := by decide +kernel
theorem dX7_tryNext_26 : decode cX7_tryNext 26 = .ok (.if_icmp .ge 15, 3) := by decide +kernel
theorem dX7_tryNext_29 : decode cX7_tryNext 29 = .ok (.aload_n 0, 1) := by decide +kernel
theorem dX7_tryNext_30 : decode cX7_tryNext 30 = .ok (.getfield 18, 3) := by decide +kernel
theorem dX7_tryNext_33 : decode cX7_tryNext 33 = .ok (.iload_n 2, 1) := by decide +kernel
theorem dX7_tryNext_34 : decode cX7_tryNext 34 = .ok (.dup2, 1) := by decide +kernel
theorem dX7_tryNext_35 : decode cX7_tryNext 35 = .ok (.iaload, 1) := by decide +kernel
theorem dX7_tryNext_36 : decode cX7_tryNext 36 = .ok (.iconst 1, 1) := by decide +kernel
theorem dX7_tryNext_37 : decode cX7_tryNext 37 = .ok (.iadd, 1) := by decide +kernel
theorem dX7_tryNext_38 : decode cX7_tryNext 38 = .ok (.iastore, 1) := by decide +kernel
theorem dX7_tryNext_39 : decode cX7_tryNext 39 = .ok (.iconst 1, 1) := by decide +kernel
theorem dX7_tryNext_40 : decode cX7_tryNext 40 = .ok (.ireturn, 1) := by decide +kernel
theorem dX7_tryNext_41 : decode cX7_tryNext 41 = .ok (.aload_n 0, 1) := by decide +kernel
theorem dX7_tryNext_42 : decode cX7_tryNext 42 = .ok (.getfield 18, 3) := by decide +kernel
theorem dX7_tryNext_45 : decode cX7_tryNext 45 = .ok (.iload_n 2, 1) := by decide +kernel
theorem dX7_tryNext_46 : decode cX7_tryNext 46 = .ok (.iconst 0, 1) := by decide +kernel
theorem dX7_tryNext_47 : decode cX7_tryNext 47 = .ok (.iastore, 1) := by decide +kernel
theorem dX7_tryNext_48 : decode cX7_tryNext 48 = .ok (.iinc 2 1, 3) := by decide +kernel
theorem dX7_tryNext_51 : decode cX7_tryNext 51 = .ok (.goto (-49), 3) := by decide +kernel
theorem dX7_tryNext_54 : decode cX7_tryNext 54 = .ok (.iconst 0, 1) := by decide +kernel
theorem dX7_tryNext_55 : decode cX7_tryNext 55 = .ok (.ireturn, 1) := by decide +kernel
def bX7_tryNext_48 (N d : Nat)  (rec2 : Wd → Int32 → Int32 → Option (Wd × Int32)) (w : Wd) (x1 : Int32) (x2 : Int32) : Option (Wd × Int32) :=
  c_nm (x2 + 1) fun x2_1 =>
  rec2 w x1 x2_1
set_option maxHeartbeats 4000000 in
theorem kX7_tryNext_48 {V : Ev} {p : Program} {l : Launch} {e : Env} {N d : Nat} {s : State} {m : MethodId} {args : Array Value} {below : List Frame} {meth : Method} {c : Code} {z : Wd × Int32} (X : CX V p s m args meth c cX7_tryNext 3 RX7 (some .boolean))   {rec2 : Wd → Int32 → Int32 → Option (Wd × Int32)} (hr2 : ∀ (w : Wd) (x1 : Int32) (x2 : Int32) (H : Heap) (locs : List Loc) (ls : Array Slot), rec2 w x1 x2 = some z → wH V (cC V) (AC V) s w H locs → lv_has ls 3 [(0, .ref (V.2.2 6)), (1, .int x1), (2, .int x2)] → W p l e (rmD (d + 1)) s m args below meth c H locs 0 0 (MQ below (CtI V (cC V) (AC V) z) args s 0 0 (AC V)) (F0 m 2 ls [])) {w : Wd} {x1 : Int32} {x2 : Int32} {H : Heap} {locs : List Loc} {ls : Array Slot} (h : bX7_tryNext_48 N d  rec2 w x1 x2 = some z) (hH : wH V (cC V) (AC V) s w H locs) (hl : lv_has ls 3 [(0, .ref (V.2.2 6)), (1, .int x1), (2, .int x2)]) : W p l e (rmD (d + 1)) s m args below meth c H locs 0 0 (MQ below (CtI V (cC V) (AC V) z) args s 0 0 (AC V)) (F0 m 48 ls []) := by
  unfold bX7_tryNext_48 at h
  obtain ⟨hx, hb, hml, hown, hg, hrt, hlk, hK⟩ := id X
  obtain ⟨x2_1, ex2_1, h⟩ := c_nm_ex h
  refine lv_iinc (pc := 48) (v := x2_1) (lv' := [(2, .int x2_1), (0, .ref (V.2.2 6)), (1, .int x1)]) hx hb dX7_tryNext_48 hl (k := 2) rfl (by rw [← ex2_1]; rfl) (by decide) rfl (fun ls hl => ?_)
  refine lv_goto (pc := 51) (tgt := 2) hx hb dX7_tryNext_51 (by decide) ?_
  exact hr2 _ _ _ _ _ _ h hH (lv_sub hl [1, 2, 0] rfl)
def bX7_tryNext_2 (N d : Nat)  (rec2 : Wd → Int32 → Int32 → Option (Wd × Int32)) (w : Wd) (x1 : Int32) (x2 : Int32) : Option (Wd × Int32) :=
  if 4 ≤ x2 then (
    some (w, 0)
  ) else (
    if ((x1 >>> (x2 &&& 31)) &&& 1) = 1 then (
      c_ld w 37 8 x2 fun v2 =>
      if (sI w 10) ≤ v2 then (
        c_st w 37 8 x2 0 fun w3 =>
        bX7_tryNext_48 N d  rec2 w3 x1 x2
      ) else (
        c_ld w 37 8 x2 fun v4 =>
        c_st w 37 8 x2 (v4 + 1) fun w5 =>
        some (w5, 1)
      )
    ) else (
      bX7_tryNext_48 N d  rec2 w x1 x2
    )
  )
set_option maxHeartbeats 4000000 in
theorem kX7_tryNext_2 {V : Ev} {p : Program} {l : Launch} {e : Env} {N d : Nat} {s : State} {m : MethodId} {args : Array Value} {below : List Frame} {meth : Method} {c : Code} {z : Wd × Int32} (X : CX V p s m args meth c cX7_tryNext 3 RX7 (some .boolean))   {rec2 : Wd → Int32 → Int32 → Option (Wd × Int32)} (hr2 : ∀ (w : Wd) (x1 : Int32) (x2 : Int32) (H : Heap) (locs : List Loc) (ls : Array Slot), rec2 w x1 x2 = some z → wH V (cC V) (AC V) s w H locs → lv_has ls 3 [(0, .ref (V.2.2 6)), (1, .int x1), (2, .int x2)] → W p l e (rmD (d + 1)) s m args below meth c H locs 0 0 (MQ below (CtI V (cC V) (AC V) z) args s 0 0 (AC V)) (F0 m 2 ls [])) {w : Wd} {x1 : Int32} {x2 : Int32} {H : Heap} {locs : List Loc} {ls : Array Slot} (h : bX7_tryNext_2 N d  rec2 w x1 x2 = some z) (hH : wH V (cC V) (AC V) s w H locs) (hl : lv_has ls 3 [(0, .ref (V.2.2 6)), (1, .int x1), (2, .int x2)]) : W p l e (rmD (d + 1)) s m args below meth c H locs 0 0 (MQ below (CtI V (cC V) (AC V) z) args s 0 0 (AC V)) (F0 m 2 ls []) := by
  unfold bX7_tryNext_2 at h
  obtain ⟨hx, hb, hml, hown, hg, hrt, hlk, hK⟩ := id X
  refine lv_iload_n (pc := 2) hx hb dX7_tryNext_2 rfl (lv_at hl 2 rfl) ?_
  refine lv_iconst (pc := 3) (v := 4) hx hb dX7_tryNext_3 (by decide) ?_
  refine b_icmp_ge (pc := 4) (tgt := 54) hx hb h dX7_tryNext_4 (by decide) (fun h => ?_) (fun h => ?_)
  · refine lv_iconst (pc := 54) (v := 0) hx hb dX7_tryNext_54 (by decide) ?_
    exact r_zretk (pc := 55) (by decide) X hH h dX7_tryNext_55
  · refine lv_iload_n (pc := 7) hx hb dX7_tryNext_7 rfl (lv_at hl 1 rfl) ?_
    refine lv_iload_n (pc := 8) hx hb dX7_tryNext_8 rfl (lv_at hl 2 rfl) ?_
    refine lv_ishr (pc := 9) hx hb dX7_tryNext_9 ?_
    refine lv_iconst (pc := 10) (v := 1) hx hb dX7_tryNext_10 (by decide) ?_
    refine lv_iand (pc := 11) hx hb dX7_tryNext_11 ?_
    refine lv_iconst (pc := 12) (v := 1) hx hb dX7_tryNext_12 (by decide) ?_
    refine b_icmp_ne (pc := 13) (tgt := 48) hx hb h dX7_tryNext_13 (by decide) (fun h => ?_) (fun h => ?_)
    · exact kX7_tryNext_48 X  hr2 h hH (lv_sub hl [0, 1, 2] rfl)
    · refine lv_aload_n (pc := 16) hx hb dX7_tryNext_16 rfl (lv_at hl 0 rfl) ?_
      refine gC_X7_18_6 (pc := 17) X hH dX7_tryNext_17 ?_
      refine lv_iload_n (pc := 20) hx hb dX7_tryNext_20 rfl (lv_at hl 2 rfl) ?_
      refine r_ld (pc := 21) X (heC_36 V w) hH h dX7_tryNext_21 (fun v2 h => ?_)
      refine lv_aload_n (pc := 22) hx hb dX7_tryNext_22 rfl (lv_at hl 0 rfl) ?_
      refine gC_X7_25_6 (pc := 23) X hH dX7_tryNext_23 ?_
      refine b_icmp_ge (pc := 26) (tgt := 41) hx hb h dX7_tryNext_26 (by decide) (fun h => ?_) (fun h => ?_)
      · refine lv_aload_n (pc := 41) hx hb dX7_tryNext_41 rfl (lv_at hl 0 rfl) ?_
        refine gC_X7_18_6 (pc := 42) X hH dX7_tryNext_42 ?_
        refine lv_iload_n (pc := 45) hx hb dX7_tryNext_45 rfl (lv_at hl 2 rfl) ?_
        refine lv_iconst (pc := 46) (v := 0) hx hb dX7_tryNext_46 (by decide) ?_
        refine r_st (pc := 47) X (heC_36 V w) (hsC_36 V w) hH h dX7_tryNext_47 (fun w3 H locs h hH => ?_)
        exact kX7_tryNext_48 X  hr2 h hH (lv_sub hl [0, 1, 2] rfl)
      · refine lv_aload_n (pc := 29) hx hb dX7_tryNext_29 rfl (lv_at hl 0 rfl) ?_
        refine gC_X7_18_6 (pc := 30) X hH dX7_tryNext_30 ?_
        refine lv_iload_n (pc := 33) hx hb dX7_tryNext_33 rfl (lv_at hl 2 rfl) ?_
        refine lv_dup2_11 (pc := 34) hx hb dX7_tryNext_34 rfl rfl ?_
        refine r_ld (pc := 35) X (heC_36 V w) hH h dX7_tryNext_35 (fun v4 h => ?_)
        refine lv_iconst (pc := 36) (v := 1) hx hb dX7_tryNext_36 (by decide) ?_
        refine lv_iadd (pc := 37) hx hb dX7_tryNext_37 ?_
        refine r_st (pc := 38) X (heC_36 V w) (hsC_36 V w) hH h dX7_tryNext_38 (fun w5 H locs h hH => ?_)
        refine lv_iconst (pc := 39) (v := 1) hx hb dX7_tryNext_39 (by decide) ?_
        exact r_zretk (pc := 40) (by decide) X hH h dX7_tryNext_40
def fX7_tryNext_2 (N d : Nat)   : Nat → Wd → Int32 → Int32 → Option (Wd × Int32)
  | 0 => fun _ _ _ => none
  | n + 1 => fun w x1 x2 => bX7_tryNext_2 N d   (fX7_tryNext_2 N d   n) w x1 x2
theorem lX7_tryNext_2 {V : Ev} {p : Program} {l : Launch} {e : Env} {N d : Nat} {s : State} {m : MethodId} {args : Array Value} {below : List Frame} {meth : Method} {c : Code} {z : Wd × Int32} (X : CX V p s m args meth c cX7_tryNext 3 RX7 (some .boolean))    (n : Nat) {w : Wd} {x1 : Int32} {x2 : Int32} {H : Heap} {locs : List Loc} {ls : Array Slot} (h : fX7_tryNext_2 N d   n w x1 x2 = some z) (hH : wH V (cC V) (AC V) s w H locs) (hl : lv_has ls 3 [(0, .ref (V.2.2 6)), (1, .int x1), (2, .int x2)]) : W p l e (rmD (d + 1)) s m args below meth c H locs 0 0 (MQ below (CtI V (cC V) (AC V) z) args s 0 0 (AC V)) (F0 m 2 ls []) := by
  induction n generalizing w x1 x2 H locs ls with
  | zero => exact c_none h
  | succ n ih => exact kX7_tryNext_2 (N := N) X  (fun _ _ _ _ _ _ h hH hl => ih h hH hl) h hH hl
def bX7_tryNext_0 (N d : Nat)   (w : Wd) (x1 : Int32) : Option (Wd × Int32) :=
  fX7_tryNext_2 N d   N w x1 ((0 : Int32))
set_option maxHeartbeats 4000000 in
theorem kX7_tryNext_0 {V : Ev} {p : Program} {l : Launch} {e : Env} {N d : Nat} {s : State} {m : MethodId} {args : Array Value} {below : List Frame} {meth : Method} {c : Code} {z : Wd × Int32} (X : CX V p s m args meth c cX7_tryNext 3 RX7 (some .boolean))    {w : Wd} {x1 : Int32} {H : Heap} {locs : List Loc} {ls : Array Slot} (h : bX7_tryNext_0 N d   w x1 = some z) (hH : wH V (cC V) (AC V) s w H locs) (hl : lv_has ls 3 [(0, .ref (V.2.2 6)), (1, .int x1)]) : W p l e (rmD (d + 1)) s m args below meth c H locs 0 0 (MQ below (CtI V (cC V) (AC V) z) args s 0 0 (AC V)) (F0 m 0 ls []) := by
  unfold bX7_tryNext_0 at h
  obtain ⟨hx, hb, hml, hown, hg, hrt, hlk, hK⟩ := id X
  refine lv_iconst (pc := 0) (v := 0) hx hb dX7_tryNext_0 (by decide) ?_
  refine lv_istore_n (pc := 1) (lv' := [(2, .int ((0 : Int32))), (0, .ref (V.2.2 6)), (1, .int x1)]) hx hb dX7_tryNext_1 rfl hl (by decide) rfl (fun ls hl => ?_)
  exact lX7_tryNext_2 X   N h hH (lv_sub hl [1, 2, 0] rfl)
def eX7_tryNext (N : Nat) : Nat → Wd → Int32 → Option (Wd × Int32)
  | 0 => fun _ _ => none
  | d + 1 => fun w x1 => bX7_tryNext_0 N d  w x1
set_option maxHeartbeats 4000000 in
set_option maxRecDepth 20000 in
theorem mX7_tryNext {l : Launch} {V : Ev} {N d : Nat} {w : Wd} {x1 : Int32} {z : Wd × Int32} (h : eX7_tryNext N d w x1 = some z) : MetI l V (cC V) (AC V) yX7_tryNext cX7_tryNext 3 (some .boolean) d [.ref (V.2.2 6), .int x1] w z := by
  cases d with
  | zero => exact c_none h
  | succ d =>
    refine Met.ofW (cc := cX7_tryNext) (maxL := 3) (ret := (some .boolean)) (by decide) rfl ?_
    intro p e s m args below meth c s₁ B hml hv
    obtain ⟨rfl, hP, hD, hK⟩ := hv
    have hts := atoms_spec (ws := .code yX7_tryNext cX7_tryNext 3 (some .boolean) :: gG) B.pre
    have X : CX V p s m ([.ref (V.2.2 6), .int x1] : List Value).toArray meth c cX7_tryNext 3 RX7 (some .boolean) := ⟨B.exec, B.bytes, hml, findClass_of_methodNamed B.named, fun w hw => hts w (List.mem_cons_of_mem _ hw), B.returns, B.notSynchronized, hK⟩
    have hl := lv_entry ([.ref (V.2.2 6), .int x1] : List Value) (n := 3) (Nat.le_of_ble_eq_true rfl)
    rw [lg_entry_eq]
    generalize (lg_sl ([.ref (V.2.2 6), .int x1] : List Value) ++ List.replicate (3 - (lg_sl ([.ref (V.2.2 6), .int x1] : List Value)).length) Slot.unset).toArray = ls at hl ⊢
    have hl : lv_has ls 3 [(0, .ref (V.2.2 6)), (1, .int x1)] := hl
    exact kX7_tryNext_0 (N := N) X  h ⟨hP, hD, va_S.rf⟩ hl
theorem dX7_refutes_0 : decode cX7_refutes 0 = .ok (.aload_n 0, 1) := by decide +kernel
theorem dX7_refutes_1 : decode cX7_refutes 1 = .ok (.getfield 18, 3) := by decide +kernel
theorem dX7_refutes_4 : decode cX7_refutes 4 = .ok (.iconst 0, 1) := by decide +kernel
theorem dX7_refutes_5 : decode cX7_refutes 5 = .ok (.invokestatic 29, 3) := by decide +kernel
theorem dX7_refutes_8 : decode cX7_refutes 8 = .ok (.iconst 1, 1) := by decide +kernel
theorem dX7_refutes_9 : decode cX7_refutes 9 = .ok (.istore_n 3, 1) := by decide +kernel
theorem dX7_refutes_10 : decode cX7_refutes 10 = .ok (.iconst 0, 1) := by decide +kernel
theorem dX7_refutes_11 : decode cX7_refutes 11 = .ok (.istore 4, 2) := by decide +kernel
theorem dX7_refutes_13 : decode cX7_refutes 13 = .ok (.iload 4, 2) := by decide +kernel
theorem dX7_refutes_15 : decode cX7_refutes 15 = .ok (.ldc 58, 2) := by decide +kernel
theorem dX7_refutes_17 : decode cX7_refutes 17 = .ok (.if_icmp .ge 44, 3) := by decide +kernel
theorem dX7_refutes_20 : decode cX7_refutes 20 = .ok (.iload_n 3, 1) := by decide +kernel
theorem dX7_refutes_21 : decode cX7_refutes 21 = .ok (.ifCond .eq 40, 3) := by decide +kernel
theorem dX7_refutes_24 : decode cX7_refutes 24 = .ok (.aload_n 0, 1) := by decide +kernel
theorem dX7_refutes_25 : decode cX7_refutes 25 = .ok (.iload_n 1, 1) := by decide +kernel
theorem dX7_refutes_26 : decode cX7_refutes 26 = .ok (.iconst 1, 1) := by decide +kernel
theorem dX7_refutes_27 : decode cX7_refutes 27 = .ok (.invokevirtual 59, 3) := by decide +kernel
theorem dX7_refutes_30 : decode cX7_refutes 30 = .ok (.aload_n 0, 1) := by decide +kernel
theorem dX7_refutes_31 : decode cX7_refutes 31 = .ok (.iload_n 2, 1) := by decide +kernel
theorem dX7_refutes_32 : decode cX7_refutes 32 = .ok (.iconst 1, 1) := by decide +kernel
theorem dX7_refutes_33 : decode cX7_refutes 33 = .ok (.invokevirtual 59, 3) := by decide +kernel
theorem dX7_refutes_36 : decode cX7_refutes 36 = .ok (.if_icmp .eq 5, 3) := by decide +kernel
theorem dX7_refutes_39 : decode cX7_refutes 39 = .ok (.iconst 1, 1) := by decide +kernel
theorem dX7_refutes_40 : decode cX7_refutes 40 = .ok (.ireturn, 1) := by decide +kernel
theorem dX7_refutes_41 : decode cX7_refutes 41 = .ok (.aload_n 0, 1) := by decide +kernel
theorem dX7_refutes_42 : decode cX7_refutes 42 = .ok (.aload_n 0, 1) := by decide +kernel
theorem dX7_refutes_43 : decode cX7_refutes 43 = .ok (.getfield 21, 3) := by decide +kernel
theorem dX7_refutes_46 : decode cX7_refutes 46 = .ok (.getfield 63, 3) := by decide +kernel
theorem dX7_refutes_49 : decode cX7_refutes 49 = .ok (.iload_n 1, 1) := by decide +kernel
theorem dX7_refutes_50 : decode cX7_refutes 50 = .ok (.iaload, 1) := by decide +kernel
theorem dX7_refutes_51 : decode cX7_refutes 51 = .ok (.invokevirtual 66, 3) := by decide +kernel
theorem dX7_refutes_54 : decode cX7_refutes 54 = .ok (.istore_n 3, 1) := by decide +kernel
theorem dX7_refutes_55 : decode cX7_refutes 55 = .ok (.iinc 4 1, 3) := by decide +kernel
theorem dX7_refutes_58 : decode cX7_refutes 58 = .ok (.goto (-45), 3) := by decide +kernel
theorem dX7_refutes_61 : decode cX7_refutes 61 = .ok (.iconst 0, 1) := by decide +kernel
theorem dX7_refutes_62 : decode cX7_refutes 62 = .ok (.ireturn, 1) := by decide +kernel
def bX7_refutes_61 (N d : Nat)   (w : Wd)  : Option (Wd × Int32) :=
  some (w, 0)
set_option maxHeartbeats 4000000 in
theorem kX7_refutes_61 {V : Ev} {p : Program} {l : Launch} {e : Env} {N d : Nat} {s : State} {m : MethodId} {args : Array Value} {below : List Frame} {meth : Method} {c : Code} {z : Wd × Int32} (X : CX V p s m args meth c cX7_refutes 5 RX7 (some .boolean))    {w : Wd}  {H : Heap} {locs : List Loc} {ls : Array Slot} (h : bX7_refutes_61 N d   w  = some z) (hH : wH V (cC V) (AC V) s w H locs) (hl : lv_has ls 5 []) : W p l e (rmD (d + 1)) s m args below meth c H locs 0 0 (MQ below (CtI V (cC V) (AC V) z) args s 0 0 (AC V)) (F0 m 61 ls []) := by
  unfold bX7_refutes_61 at h
  obtain ⟨hx, hb, hml, hown, hg, hrt, hlk, hK⟩ := id X
  refine lv_iconst (pc := 61) (v := 0) hx hb dX7_refutes_61 (by decide) ?_
  exact r_zretk (pc := 62) (by decide) X hH h dX7_refutes_62
def bX7_refutes_13 (N d : Nat)  (rec13 : Wd → Int32 → Int32 → Int32 → Int32 → Option (Wd × Int32)) (w : Wd) (x1 : Int32) (x2 : Int32) (x3 : Int32) (x4 : Int32) : Option (Wd × Int32) :=
  if 1000000 ≤ x4 then (
    bX7_refutes_61 N d   w 
  ) else (
    if x3 = 0 then (
      bX7_refutes_61 N d   w 
    ) else (
      c_cl (eX7_triedValueOf N d w x1 1) fun w2 v3 =>
      c_cl (eX7_triedValueOf N d w2 x2 1) fun w4 v5 =>
      if v3 = v5 then (
        c_ld w4 19 1000 x1 fun v6 =>
        c_cl (eX7_tryNext N d w4 v6) fun w7 v8 =>
        c_nm (x4 + 1) fun x4_9 =>
        rec13 w7 x1 x2 v8 x4_9
      ) else (
        some (w4, 1)
      )
    )
  )
set_option maxHeartbeats 4000000 in
theorem kX7_refutes_13 {V : Ev} {p : Program} {l : Launch} {e : Env} {N d : Nat} {s : State} {m : MethodId} {args : Array Value} {below : List Frame} {meth : Method} {c : Code} {z : Wd × Int32} (X : CX V p s m args meth c cX7_refutes 5 RX7 (some .boolean))   {rec13 : Wd → Int32 → Int32 → Int32 → Int32 → Option (Wd × Int32)} (hr13 : ∀ (w : Wd) (x1 : Int32) (x2 : Int32) (x3 : Int32) (x4 : Int32) (H : Heap) (locs : List Loc) (ls : Array Slot), rec13 w x1 x2 x3 x4 = some z → wH V (cC V) (AC V) s w H locs → lv_has ls 5 [(0, .ref (V.2.2 6)), (1, .int x1), (2, .int x2), (3, .int x3), (4, .int x4)] → W p l e (rmD (d + 1)) s m args below meth c H locs 0 0 (MQ below (CtI V (cC V) (AC V) z) args s 0 0 (AC V)) (F0 m 13 ls [])) {w : Wd} {x1 : Int32} {x2 : Int32} {x3 : Int32} {x4 : Int32} {H : Heap} {locs : List Loc} {ls : Array Slot} (h : bX7_refutes_13 N d  rec13 w x1 x2 x3 x4 = some z) (hH : wH V (cC V) (AC V) s w H locs) (hl : lv_has ls 5 [(0, .ref (V.2.2 6)), (1, .int x1), (2, .int x2), (3, .int x3), (4, .int x4)]) : W p l e (rmD (d + 1)) s m args below meth c H locs 0 0 (MQ below (CtI V (cC V) (AC V) z) args s 0 0 (AC V)) (F0 m 13 ls []) := by
  unfold bX7_refutes_13 at h
  obtain ⟨hx, hb, hml, hown, hg, hrt, hlk, hK⟩ := id X
  refine lv_iload (pc := 13) hx hb dX7_refutes_13 (lv_at hl 4 rfl) ?_
  refine lv_ldc (pc := 15) hx hb hown (hg _ wK_771) dX7_refutes_15 ?_
  refine b_icmp_ge (pc := 17) (tgt := 61) hx hb h dX7_refutes_17 (by decide) (fun h => ?_) (fun h => ?_)
  · exact kX7_refutes_61 X   h hH (lv_sub hl [] rfl)
  · refine lv_iload_n (pc := 20) hx hb dX7_refutes_20 rfl (lv_at hl 3 rfl) ?_
    refine b_if_eq (pc := 21) (tgt := 61) hx hb h dX7_refutes_21 (by decide) (fun h => ?_) (fun h => ?_)
    · exact kX7_refutes_61 X   h hH (lv_sub hl [] rfl)
    · refine lv_aload_n (pc := 24) hx hb dX7_refutes_24 rfl (lv_at hl 0 rfl) ?_
      refine lv_iload_n (pc := 25) hx hb dX7_refutes_25 rfl (lv_at hl 1 rfl) ?_
      refine lv_iconst (pc := 26) (v := 1) hx hb dX7_refutes_26 (by decide) ?_
      refine r_cvI (pc := 27) (As := [.int x1, .int 1]) (rest := []) X hH (fun x hx => mX7_triedValueOf hx) cw_X7_59 (heC_6 V w) rfl rfl rfl (Nat.le_of_ble_eq_true rfl) hl.1 h dX7_refutes_27 (fun w2 v3 H locs h hH => ?_)
      refine lv_aload_n (pc := 30) hx hb dX7_refutes_30 rfl (lv_at hl 0 rfl) ?_
      refine lv_iload_n (pc := 31) hx hb dX7_refutes_31 rfl (lv_at hl 2 rfl) ?_
      refine lv_iconst (pc := 32) (v := 1) hx hb dX7_refutes_32 (by decide) ?_
      refine r_cvI (pc := 33) (As := [.int x2, .int 1]) (rest := [.int v3]) X hH (fun x hx => mX7_triedValueOf hx) cw_X7_59 (heC_6 V w2) rfl rfl rfl (Nat.le_of_ble_eq_true rfl) hl.1 h dX7_refutes_33 (fun w4 v5 H locs h hH => ?_)
      refine b_icmp_eq (pc := 36) (tgt := 41) hx hb h dX7_refutes_36 (by decide) (fun h => ?_) (fun h => ?_)
      · refine lv_aload_n (pc := 41) hx hb dX7_refutes_41 rfl (lv_at hl 0 rfl) ?_
        refine lv_aload_n (pc := 42) hx hb dX7_refutes_42 rfl (lv_at hl 0 rfl) ?_
        refine gC_X7_21_6 (pc := 43) X hH dX7_refutes_43 ?_
        refine gC_X7_63_1 (pc := 46) X hH dX7_refutes_46 ?_
        refine lv_iload_n (pc := 49) hx hb dX7_refutes_49 rfl (lv_at hl 1 rfl) ?_
        refine r_ld (pc := 50) X (heC_19 V w4) hH h dX7_refutes_50 (fun v6 h => ?_)
        refine r_cvI (pc := 51) (As := [.int v6]) (rest := []) X hH (fun x hx => mX7_tryNext hx) cw_X7_66 (heC_6 V w4) rfl rfl rfl (Nat.le_of_ble_eq_true rfl) hl.1 h dX7_refutes_51 (fun w7 v8 H locs h hH => ?_)
        refine lv_istore_n (pc := 54) (lv' := [(3, .int v8), (0, .ref (V.2.2 6)), (1, .int x1), (2, .int x2), (4, .int x4)]) hx hb dX7_refutes_54 rfl hl (by decide) rfl (fun ls hl => ?_)
        obtain ⟨x4_9, ex4_9, h⟩ := c_nm_ex h
        refine lv_iinc (pc := 55) (v := x4_9) (lv' := [(4, .int x4_9), (3, .int v8), (0, .ref (V.2.2 6)), (1, .int x1), (2, .int x2)]) hx hb dX7_refutes_55 hl (k := 4) rfl (by rw [← ex4_9]; rfl) (by decide) rfl (fun ls hl => ?_)
        refine lv_goto (pc := 58) (tgt := 13) hx hb dX7_refutes_58 (by decide) ?_
        exact hr13 _ _ _ _ _ _ _ _ h hH (lv_sub hl [2, 3, 4, 1, 0] rfl)
      · refine lv_iconst (pc := 39) (v := 1) hx hb dX7_refutes_39 (by decide) ?_
        exact r_zretk (pc := 40) (by decide) X hH h dX7_refutes_40
def fX7_refutes_13 (N d : Nat)   : Nat → Wd → Int32 → Int32 → Int32 → Int32 → Option (Wd × Int32)
  | 0 => fun _ _ _ _ _ => none
  | n + 1 => fun w x1 x2 x3 x4 => bX7_refutes_13 N d   (fX7_refutes_13 N d   n) w x1 x2 x3 x4
theorem lX7_refutes_13 {V : Ev} {p : Program} {l : Launch} {e : Env} {N d : Nat} {s : State} {m : MethodId} {args : Array Value} {below : List Frame} {meth : Method} {c : Code} {z : Wd × Int32} (X : CX V p s m args meth c cX7_refutes 5 RX7 (some .boolean))    (n : Nat) {w : Wd} {x1 : Int32} {x2 : Int32} {x3 : Int32} {x4 : Int32} {H : Heap} {locs : List Loc} {ls : Array Slot} (h : fX7_refutes_13 N d   n w x1 x2 x3 x4 = some z) (hH : wH V (cC V) (AC V) s w H locs) (hl : lv_has ls 5 [(0, .ref (V.2.2 6)), (1, .int x1), (2, .int x2), (3, .int x3), (4, .int x4)]) : W p l e (rmD (d + 1)) s m args below meth c H locs 0 0 (MQ below (CtI V (cC V) (AC V) z) args s 0 0 (AC V)) (F0 m 13 ls []) := by
  induction n generalizing w x1 x2 x3 x4 H locs ls with
  | zero => exact c_none h
  | succ n ih => exact kX7_refutes_13 (N := N) X  (fun _ _ _ _ _ _ _ _ h hH hl => ih h hH hl) h hH hl
def bX7_refutes_0 (N d : Nat)   (w : Wd) (x1 : Int32) (x2 : Int32) : Option (Wd × Int32) :=
  c_cv (eJ7_fill_53178_r37 N d w 0) fun w1 =>
  fX7_refutes_13 N d   N w1 x1 x2 ((1 : Int32)) ((0 : Int32))
set_option maxHeartbeats 4000000 in
theorem kX7_refutes_0 {V : Ev} {p : Program} {l : Launch} {e : Env} {N d : Nat} {s : State} {m : MethodId} {args : Array Value} {below : List Frame} {meth : Method} {c : Code} {z : Wd × Int32} (X : CX V p s m args meth c cX7_refutes 5 RX7 (some .boolean))    {w : Wd} {x1 : Int32} {x2 : Int32} {H : Heap} {locs : List Loc} {ls : Array Slot} (h : bX7_refutes_0 N d   w x1 x2 = some z) (hH : wH V (cC V) (AC V) s w H locs) (hl : lv_has ls 5 [(0, .ref (V.2.2 6)), (1, .int x1), (2, .int x2)]) : W p l e (rmD (d + 1)) s m args below meth c H locs 0 0 (MQ below (CtI V (cC V) (AC V) z) args s 0 0 (AC V)) (F0 m 0 ls []) := by
  unfold bX7_refutes_0 at h
  obtain ⟨hx, hb, hml, hown, hg, hrt, hlk, hK⟩ := id X
  refine lv_aload_n (pc := 0) hx hb dX7_refutes_0 rfl (lv_at hl 0 rfl) ?_
  refine gC_X7_18_6 (pc := 1) X hH dX7_refutes_1 ?_
  refine lv_iconst (pc := 4) (v := 0) hx hb dX7_refutes_4 (by decide) ?_
  refine r_csV (pc := 5) (As := [.ref (V.2.2 36), .int 0]) (rest := []) X hH (fun x hx => mJ7_fill_53178_r37 hx) cs_X7_29 rfl rfl (Nat.le_of_ble_eq_true rfl) hl.1 h dX7_refutes_5 (fun w1 H locs h hH => ?_)
  refine lv_iconst (pc := 8) (v := 1) hx hb dX7_refutes_8 (by decide) ?_
  refine lv_istore_n (pc := 9) (lv' := [(3, .int ((1 : Int32))), (0, .ref (V.2.2 6)), (1, .int x1), (2, .int x2)]) hx hb dX7_refutes_9 rfl hl (by decide) rfl (fun ls hl => ?_)
  refine lv_iconst (pc := 10) (v := 0) hx hb dX7_refutes_10 (by decide) ?_
  refine lv_istore (pc := 11) (lv' := [(4, .int ((0 : Int32))), (3, .int ((1 : Int32))), (0, .ref (V.2.2 6)), (1, .int x1), (2, .int x2)]) hx hb dX7_refutes_11 hl (by decide) rfl (fun ls hl => ?_)
  exact lX7_refutes_13 X   N h hH (lv_sub hl [2, 3, 4, 1, 0] rfl)
def eX7_refutes (N : Nat) : Nat → Wd → Int32 → Int32 → Option (Wd × Int32)
  | 0 => fun _ _ _ => none
  | d + 1 => fun w x1 x2 => bX7_refutes_0 N d  w x1 x2
set_option maxHeartbeats 4000000 in
set_option maxRecDepth 20000 in
theorem mX7_refutes {l : Launch} {V : Ev} {N d : Nat} {w : Wd} {x1 : Int32} {x2 : Int32} {z : Wd × Int32} (h : eX7_refutes N d w x1 x2 = some z) : MetI l V (cC V) (AC V) yX7_refutes cX7_refutes 5 (some .boolean) d [.ref (V.2.2 6), .int x1, .int x2] w z := by
  cases d with
  | zero => exact c_none h
  | succ d =>
    refine Met.ofW (cc := cX7_refutes) (maxL := 5) (ret := (some .boolean)) (by decide) rfl ?_
    intro p e s m args below meth c s₁ B hml hv
    obtain ⟨rfl, hP, hD, hK⟩ := hv
    have hts := atoms_spec (ws := .code yX7_refutes cX7_refutes 5 (some .boolean) :: gG) B.pre
    have X : CX V p s m ([.ref (V.2.2 6), .int x1, .int x2] : List Value).toArray meth c cX7_refutes 5 RX7 (some .boolean) := ⟨B.exec, B.bytes, hml, findClass_of_methodNamed B.named, fun w hw => hts w (List.mem_cons_of_mem _ hw), B.returns, B.notSynchronized, hK⟩
    have hl := lv_entry ([.ref (V.2.2 6), .int x1, .int x2] : List Value) (n := 5) (Nat.le_of_ble_eq_true rfl)
    rw [lg_entry_eq]
    generalize (lg_sl ([.ref (V.2.2 6), .int x1, .int x2] : List Value) ++ List.replicate (5 - (lg_sl ([.ref (V.2.2 6), .int x1, .int x2] : List Value)).length) Slot.unset).toArray = ls at hl ⊢
    have hl : lv_has ls 5 [(0, .ref (V.2.2 6)), (1, .int x1), (2, .int x2)] := hl
    exact kX7_refutes_0 (N := N) X  h ⟨hP, hD, va_S.rf⟩ hl
