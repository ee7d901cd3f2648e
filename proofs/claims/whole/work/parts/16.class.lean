theorem dX1_unbuiltPart_0 : decode cX1_unbuiltPart 0 = .ok (.iload_n 1, 1) := by decide +kernel
theorem dX1_unbuiltPart_1 : decode cX1_unbuiltPart 1 = .ok (.invokestatic 152, 3) := by decide +kernel
theorem dX1_unbuiltPart_4 : decode cX1_unbuiltPart 4 = .ok (.ifCond .eq 5, 3) := by decide +kernel
theorem dX1_unbuiltPart_7 : decode cX1_unbuiltPart 7 = .ok (.iconst (-1), 1) := by decide +kernel
theorem dX1_unbuiltPart_8 : decode cX1_unbuiltPart 8 = .ok (.ireturn, 1) := by decide +kernel
theorem dX1_unbuiltPart_9 : decode cX1_unbuiltPart 9 = .ok (.aload_n 0, 1) := by decide +kernel
theorem dX1_unbuiltPart_10 : decode cX1_unbuiltPart 10 = .ok (.getfield 45, 3) := by decide +kernel
theorem dX1_unbuiltPart_13 : decode cX1_unbuiltPart 13 = .ok (.getfield 158, 3) := by decide +kernel
theorem dX1_unbuiltPart_16 : decode cX1_unbuiltPart 16 = .ok (.iload_n 1, 1) := by decide +kernel
theorem dX1_unbuiltPart_17 : decode cX1_unbuiltPart 17 = .ok (.iaload, 1) := by decide +kernel
theorem dX1_unbuiltPart_18 : decode cX1_unbuiltPart 18 = .ok (.istore_n 2, 1) := by decide +kernel
theorem dX1_unbuiltPart_19 : decode cX1_unbuiltPart 19 = .ok (.iload_n 2, 1) := by decide +kernel
theorem dX1_unbuiltPart_20 : decode cX1_unbuiltPart 20 = .ok (.iconst (-1), 1) := by decide +kernel
theorem dX1_unbuiltPart_21 : decode cX1_unbuiltPart 21 = .ok (.if_icmp .eq 31, 3) := by decide +kernel
theorem dX1_unbuiltPart_24 : decode cX1_unbuiltPart 24 = .ok (.aload_n 0, 1) := by decide +kernel
theorem dX1_unbuiltPart_25 : decode cX1_unbuiltPart 25 = .ok (.getfield 28, 3) := by decide +kernel
theorem dX1_unbuiltPart_28 : decode cX1_unbuiltPart 28 = .ok (.aload_n 0, 1) := by decide +kernel
theorem dX1_unbuiltPart_29 : decode cX1_unbuiltPart 29 = .ok (.getfield 54, 3) := by decide +kernel
theorem dX1_unbuiltPart_32 : decode cX1_unbuiltPart 32 = .ok (.getfield 149, 3) := by decide +kernel
theorem dX1_unbuiltPart_35 : decode cX1_unbuiltPart 35 = .ok (.iload_n 2, 1) := by decide +kernel
theorem dX1_unbuiltPart_36 : decode cX1_unbuiltPart 36 = .ok (.iaload, 1) := by decide +kernel
theorem dX1_unbuiltPart_37 : decode cX1_unbuiltPart 37 = .ok (.iaload, 1) := by decide +kernel
theorem dX1_unbuiltPart_38 : decode cX1_unbuiltPart 38 = .ok (.iconst (-1), 1) := by decide +kernel
theorem dX1_unbuiltPart_39 : decode cX1_unbuiltPart 39 = .ok (.if_icmp .ne 13, 3) := by decide +kernel
theorem dX1_unbuiltPart_42 : decode cX1_unbuiltPart 42 = .ok (.aload_n 0, 1) := by decide +kernel
theorem dX1_unbuiltPart_43 : decode cX1_unbuiltPart 43 = .ok (.getfield 54, 3) := by decide +kernel
theorem dX1_unbuiltPart_46 : decode cX1_unbuiltPart 46 = .ok (.getfield 149, 3) := by decide +kernel
theorem dX1_unbuiltPart_49 : decode cX1_unbuiltPart 49 = .ok (.iload_n 2, 1) := by decide +kernel
theorem dX1_unbuiltPart_50 : decode cX1_unbuiltPart 50 = .ok (.iaload, 1) := by decide +kernel
theorem dX1_unbuiltPart_51 : decode cX1_unbuiltPart 51 = .ok (.ireturn, 1) := by decide +kernel
theorem dX1_unbuiltPart_52 : decode cX1_unbuiltPart 52 = .ok (.aload_n 0, 1) := by decide +kernel
theorem dX1_unbuiltPart_53 : decode cX1_unbuiltPart 53 = .ok (.getfield 45, 3) := by decide +kernel
theorem dX1_unbuiltPart_56 : decode cX1_unbuiltPart 56 = .ok (.getfield 155, 3) := by decide +kernel
theorem dX1_unbuiltPart_59 : decode cX1_unbuiltPart 59 = .ok (.iload_n 1, 1) := by decide +kernel
theorem dX1_unbuiltPart_60 : decode cX1_unbuiltPart 60 = .ok (.iaload, 1) := by decide +kernel
theorem dX1_unbuiltPart_61 : decode cX1_unbuiltPart 61 = .ok (.istore_n 3, 1) := by decide +kernel
theorem dX1_unbuiltPart_62 : decode cX1_unbuiltPart 62 = .ok (.iload_n 3, 1) := by decide +kernel
theorem dX1_unbuiltPart_63 : decode cX1_unbuiltPart 63 = .ok (.iconst (-1), 1) := by decide +kernel
theorem dX1_unbuiltPart_64 : decode cX1_unbuiltPart 64 = .ok (.if_icmp .eq 31, 3) := by decide +kernel
theorem dX1_unbuiltPart_67 : decode cX1_unbuiltPart 67 = .ok (.aload_n 0, 1) := by decide +kernel
theorem dX1_unbuiltPart_68 : decode cX1_unbuiltPart 68 = .ok (.getfield 28, 3) := by decide +kernel
theorem dX1_unbuiltPart_71 : decode cX1_unbuiltPart 71 = .ok (.aload_n 0, 1) := by decide +kernel
theorem dX1_unbuiltPart_72 : decode cX1_unbuiltPart 72 = .ok (.getfield 54, 3) := by decide +kernel
theorem dX1_unbuiltPart_75 : decode cX1_unbuiltPart 75 = .ok (.getfield 149, 3) := by decide +kernel
theorem dX1_unbuiltPart_78 : decode cX1_unbuiltPart 78 = .ok (.iload_n 3, 1) := by decide +kernel
theorem dX1_unbuiltPart_79 : decode cX1_unbuiltPart 79 = .ok (.iaload, 1) := by decide +kernel
theorem dX1_unbuiltPart_80 : decode cX1_unbuiltPart 80 = .ok (.iaload, 1) := by decide +kernel
theorem dX1_unbuiltPart_81 : decode cX1_unbuiltPart 81 = .ok (.iconst (-1), 1) := by decide +kernel
theorem dX1_unbuiltPart_82 : decode cX1_unbuiltPart 82 = .ok (.if_icmp .ne 13, 3) := by decide +kernel
theorem dX1_unbuiltPart_85 : decode cX1_unbuiltPart 85 = .ok (.aload_n 0, 1) := by decide +kernel
theorem dX1_unbuiltPart_86 : decode cX1_unbuiltPart 86 = .ok (.getfield 54, 3) := by decide +kernel
theorem dX1_unbuiltPart_89 : decode cX1_unbuiltPart 89 = .ok (.getfield 149, 3) := by decide +kernel
theorem dX1_unbuiltPart_92 : decode cX1_unbuiltPart 92 = .ok (.iload_n 3, 1) := by decide +kernel
theorem dX1_unbuiltPart_93 : decode cX1_unbuiltPart 93 = .ok (.iaload, 1) := by decide +kernel
theorem dX1_unbuiltPart_94 : decode cX1_unbuiltPart 94 = .ok (.ireturn, 1) := by decide +kernel
theorem dX1_unbuiltPart_95 : decode cX1_unbuiltPart 95 = .ok (.iconst (-1), 1) := by decide +kernel
theorem dX1_unbuiltPart_96 : decode cX1_unbuiltPart 96 = .ok (.ireturn, 1) := by decide +kernel
def bX1_unbuiltPart_95 (N d : Nat)   (w : Wd)  : Option (Wd × Int32) :=
  some (w, -1)
set_option maxHeartbeats 4000000 in
theorem kX1_unbuiltPart_95 {V : Ev} {p : Program} {l : Launch} {e : Env} {N d : Nat} {s : State} {m : MethodId} {args : Array Value} {below : List Frame} {meth : Method} {c : Code} {z : Wd × Int32} (X : CX V p s m args meth c cX1_unbuiltPart 4 RX1 (some .int))    {w : Wd}  {H : Heap} {locs : List Loc} {ls : Array Slot} (h : bX1_unbuiltPart_95 N d   w  = some z) (hH : wH V (cC V) (AC V) s w H locs) (hl : lv_has ls 4 []) : W p l e (rmD (d + 1)) s m args below meth c H locs 0 0 (MQ below (CtI V (cC V) (AC V) z) args s 0 0 (AC V)) (F0 m 95 ls []) := by
  unfold bX1_unbuiltPart_95 at h
  obtain ⟨hx, hb, hml, hown, hg, hrt, hlk, hK⟩ := id X
  refine lv_iconst (pc := 95) (v := -1) hx hb dX1_unbuiltPart_95 (by decide) ?_
  exact r_iret (pc := 96) X hH h dX1_unbuiltPart_96
def bX1_unbuiltPart_52 (N d : Nat)   (w : Wd) (x1 : Int32) : Option (Wd × Int32) :=
  c_ld w 52 158 x1 fun v4 =>
  if v4 = (-1) then (
    bX1_unbuiltPart_95 N d   w 
  ) else (
    c_ld w 59 158 v4 fun v5 =>
    c_ld w 33 158 v5 fun v6 =>
    if v6 = (-1) then (
      c_ld w 59 158 v4 fun v7 =>
      some (w, v7)
    ) else (
      bX1_unbuiltPart_95 N d   w 
    )
  )
set_option maxHeartbeats 4000000 in
theorem kX1_unbuiltPart_52 {V : Ev} {p : Program} {l : Launch} {e : Env} {N d : Nat} {s : State} {m : MethodId} {args : Array Value} {below : List Frame} {meth : Method} {c : Code} {z : Wd × Int32} (X : CX V p s m args meth c cX1_unbuiltPart 4 RX1 (some .int))    {w : Wd} {x1 : Int32} {H : Heap} {locs : List Loc} {ls : Array Slot} (h : bX1_unbuiltPart_52 N d   w x1 = some z) (hH : wH V (cC V) (AC V) s w H locs) (hl : lv_has ls 4 [(0, .ref (V.2.2 5)), (1, .int x1)]) : W p l e (rmD (d + 1)) s m args below meth c H locs 0 0 (MQ below (CtI V (cC V) (AC V) z) args s 0 0 (AC V)) (F0 m 52 ls []) := by
  unfold bX1_unbuiltPart_52 at h
  obtain ⟨hx, hb, hml, hown, hg, hrt, hlk, hK⟩ := id X
  refine lv_aload_n (pc := 52) hx hb dX1_unbuiltPart_52 rfl (lv_at hl 0 rfl) ?_
  refine gC_X1_45_5 (pc := 53) X hH dX1_unbuiltPart_53 ?_
  refine gC_X1_155_10 (pc := 56) X hH dX1_unbuiltPart_56 ?_
  refine lv_iload_n (pc := 59) hx hb dX1_unbuiltPart_59 rfl (lv_at hl 1 rfl) ?_
  refine r_ld (pc := 60) X (heC_48 V w) hH h dX1_unbuiltPart_60 (fun v4 h => ?_)
  refine lv_istore_n (pc := 61) (lv' := [(3, .int v4), (0, .ref (V.2.2 5)), (1, .int x1)]) hx hb dX1_unbuiltPart_61 rfl hl (by decide) rfl (fun ls hl => ?_)
  refine lv_iload_n (pc := 62) hx hb dX1_unbuiltPart_62 rfl (lv_at hl 0 rfl) ?_
  refine lv_iconst (pc := 63) (v := -1) hx hb dX1_unbuiltPart_63 (by decide) ?_
  refine b_icmp_eq (pc := 64) (tgt := 95) hx hb h dX1_unbuiltPart_64 (by decide) (fun h => ?_) (fun h => ?_)
  · exact kX1_unbuiltPart_95 X   h hH (lv_sub hl [] rfl)
  · refine lv_aload_n (pc := 67) hx hb dX1_unbuiltPart_67 rfl (lv_at hl 1 rfl) ?_
    refine gC_X1_28_5 (pc := 68) X hH dX1_unbuiltPart_68 ?_
    refine lv_aload_n (pc := 71) hx hb dX1_unbuiltPart_71 rfl (lv_at hl 1 rfl) ?_
    refine gC_X1_54_5 (pc := 72) X hH dX1_unbuiltPart_72 ?_
    refine gC_X1_149_11 (pc := 75) X hH dX1_unbuiltPart_75 ?_
    refine lv_iload_n (pc := 78) hx hb dX1_unbuiltPart_78 rfl (lv_at hl 0 rfl) ?_
    refine r_ld (pc := 79) X (heC_55 V w) hH h dX1_unbuiltPart_79 (fun v5 h => ?_)
    refine r_ld (pc := 80) X (heC_32 V w) hH h dX1_unbuiltPart_80 (fun v6 h => ?_)
    refine lv_iconst (pc := 81) (v := -1) hx hb dX1_unbuiltPart_81 (by decide) ?_
    refine b_icmp_ne (pc := 82) (tgt := 95) hx hb h dX1_unbuiltPart_82 (by decide) (fun h => ?_) (fun h => ?_)
    · exact kX1_unbuiltPart_95 X   h hH (lv_sub hl [] rfl)
    · refine lv_aload_n (pc := 85) hx hb dX1_unbuiltPart_85 rfl (lv_at hl 1 rfl) ?_
      refine gC_X1_54_5 (pc := 86) X hH dX1_unbuiltPart_86 ?_
      refine gC_X1_149_11 (pc := 89) X hH dX1_unbuiltPart_89 ?_
      refine lv_iload_n (pc := 92) hx hb dX1_unbuiltPart_92 rfl (lv_at hl 0 rfl) ?_
      refine r_ld (pc := 93) X (heC_55 V w) hH h dX1_unbuiltPart_93 (fun v7 h => ?_)
      exact r_iret (pc := 94) X hH h dX1_unbuiltPart_94
def bX1_unbuiltPart_0 (N d : Nat)   (w : Wd) (x1 : Int32) : Option (Wd × Int32) :=
  c_cl (eX5_isVariable N d w x1) fun w1 v2 =>
  if v2 = 0 then (
    c_ld w1 51 158 x1 fun v3 =>
    if v3 = (-1) then (
      bX1_unbuiltPart_52 N d   w1 x1
    ) else (
      c_ld w1 59 158 v3 fun v8 =>
      c_ld w1 33 158 v8 fun v9 =>
      if v9 = (-1) then (
        c_ld w1 59 158 v3 fun v10 =>
        some (w1, v10)
      ) else (
        bX1_unbuiltPart_52 N d   w1 x1
      )
    )
  ) else (
    some (w1, -1)
  )
set_option maxHeartbeats 4000000 in
theorem kX1_unbuiltPart_0 {V : Ev} {p : Program} {l : Launch} {e : Env} {N d : Nat} {s : State} {m : MethodId} {args : Array Value} {below : List Frame} {meth : Method} {c : Code} {z : Wd × Int32} (X : CX V p s m args meth c cX1_unbuiltPart 4 RX1 (some .int))    {w : Wd} {x1 : Int32} {H : Heap} {locs : List Loc} {ls : Array Slot} (h : bX1_unbuiltPart_0 N d   w x1 = some z) (hH : wH V (cC V) (AC V) s w H locs) (hl : lv_has ls 4 [(0, .ref (V.2.2 5)), (1, .int x1)]) : W p l e (rmD (d + 1)) s m args below meth c H locs 0 0 (MQ below (CtI V (cC V) (AC V) z) args s 0 0 (AC V)) (F0 m 0 ls []) := by
  unfold bX1_unbuiltPart_0 at h
  obtain ⟨hx, hb, hml, hown, hg, hrt, hlk, hK⟩ := id X
  refine lv_iload_n (pc := 0) hx hb dX1_unbuiltPart_0 rfl (lv_at hl 1 rfl) ?_
  refine r_csI (pc := 1) (As := [.int x1]) (rest := []) X hH (fun x hx => mX5_isVariable hx) cs_X1_152 rfl rfl (Nat.le_of_ble_eq_true rfl) hl.1 h dX1_unbuiltPart_1 (fun w1 v2 H locs h hH => ?_)
  refine b_if_eq (pc := 4) (tgt := 9) hx hb h dX1_unbuiltPart_4 (by decide) (fun h => ?_) (fun h => ?_)
  · refine lv_aload_n (pc := 9) hx hb dX1_unbuiltPart_9 rfl (lv_at hl 0 rfl) ?_
    refine gC_X1_45_5 (pc := 10) X hH dX1_unbuiltPart_10 ?_
    refine gC_X1_158_10 (pc := 13) X hH dX1_unbuiltPart_13 ?_
    refine lv_iload_n (pc := 16) hx hb dX1_unbuiltPart_16 rfl (lv_at hl 1 rfl) ?_
    refine r_ld (pc := 17) X (heC_47 V w1) hH h dX1_unbuiltPart_17 (fun v3 h => ?_)
    refine lv_istore_n (pc := 18) (lv' := [(2, .int v3), (0, .ref (V.2.2 5)), (1, .int x1)]) hx hb dX1_unbuiltPart_18 rfl hl (by decide) rfl (fun ls hl => ?_)
    refine lv_iload_n (pc := 19) hx hb dX1_unbuiltPart_19 rfl (lv_at hl 0 rfl) ?_
    refine lv_iconst (pc := 20) (v := -1) hx hb dX1_unbuiltPart_20 (by decide) ?_
    refine b_icmp_eq (pc := 21) (tgt := 52) hx hb h dX1_unbuiltPart_21 (by decide) (fun h => ?_) (fun h => ?_)
    · exact kX1_unbuiltPart_52 X   h hH (lv_sub hl [1, 2] rfl)
    · refine lv_aload_n (pc := 24) hx hb dX1_unbuiltPart_24 rfl (lv_at hl 1 rfl) ?_
      refine gC_X1_28_5 (pc := 25) X hH dX1_unbuiltPart_25 ?_
      refine lv_aload_n (pc := 28) hx hb dX1_unbuiltPart_28 rfl (lv_at hl 1 rfl) ?_
      refine gC_X1_54_5 (pc := 29) X hH dX1_unbuiltPart_29 ?_
      refine gC_X1_149_11 (pc := 32) X hH dX1_unbuiltPart_32 ?_
      refine lv_iload_n (pc := 35) hx hb dX1_unbuiltPart_35 rfl (lv_at hl 0 rfl) ?_
      refine r_ld (pc := 36) X (heC_55 V w1) hH h dX1_unbuiltPart_36 (fun v8 h => ?_)
      refine r_ld (pc := 37) X (heC_32 V w1) hH h dX1_unbuiltPart_37 (fun v9 h => ?_)
      refine lv_iconst (pc := 38) (v := -1) hx hb dX1_unbuiltPart_38 (by decide) ?_
      refine b_icmp_ne (pc := 39) (tgt := 52) hx hb h dX1_unbuiltPart_39 (by decide) (fun h => ?_) (fun h => ?_)
      · exact kX1_unbuiltPart_52 X   h hH (lv_sub hl [1, 2] rfl)
      · refine lv_aload_n (pc := 42) hx hb dX1_unbuiltPart_42 rfl (lv_at hl 1 rfl) ?_
        refine gC_X1_54_5 (pc := 43) X hH dX1_unbuiltPart_43 ?_
        refine gC_X1_149_11 (pc := 46) X hH dX1_unbuiltPart_46 ?_
        refine lv_iload_n (pc := 49) hx hb dX1_unbuiltPart_49 rfl (lv_at hl 0 rfl) ?_
        refine r_ld (pc := 50) X (heC_55 V w1) hH h dX1_unbuiltPart_50 (fun v10 h => ?_)
        exact r_iret (pc := 51) X hH h dX1_unbuiltPart_51
  · refine lv_iconst (pc := 7) (v := -1) hx hb dX1_unbuiltPart_7 (by decide) ?_
    exact r_iret (pc := 8) X hH h dX1_unbuiltPart_8
def eX1_unbuiltPart (N : Nat) : Nat → Wd → Int32 → Option (Wd × Int32)
  | 0 => fun _ _ => none
  | d + 1 => fun w x1 => bX1_unbuiltPart_0 N d  w x1
set_option maxHeartbeats 4000000 in
set_option maxRecDepth 20000 in
theorem mX1_unbuiltPart {l : Launch} {V : Ev} {N d : Nat} {w : Wd} {x1 : Int32} {z : Wd × Int32} (h : eX1_unbuiltPart N d w x1 = some z) : MetI l V (cC V) (AC V) yX1_unbuiltPart cX1_unbuiltPart 4 (some .int) d [.ref (V.2.2 5), .int x1] w z := by
  cases d with
  | zero => exact c_none h
  | succ d =>
    refine Met.ofW (cc := cX1_unbuiltPart) (maxL := 4) (ret := (some .int)) (by decide) rfl ?_
    intro p e s m args below meth c s₁ B hml hv
    obtain ⟨rfl, hP, hD, hK⟩ := hv
    have hts := atoms_spec (ws := .code yX1_unbuiltPart cX1_unbuiltPart 4 (some .int) :: gG) B.pre
    have X : CX V p s m ([.ref (V.2.2 5), .int x1] : List Value).toArray meth c cX1_unbuiltPart 4 RX1 (some .int) := ⟨B.exec, B.bytes, hml, findClass_of_methodNamed B.named, fun w hw => hts w (List.mem_cons_of_mem _ hw), B.returns, B.notSynchronized, hK⟩
    have hl := lv_entry ([.ref (V.2.2 5), .int x1] : List Value) (n := 4) (Nat.le_of_ble_eq_true rfl)
    rw [lg_entry_eq]
    generalize (lg_sl ([.ref (V.2.2 5), .int x1] : List Value) ++ List.replicate (4 - (lg_sl ([.ref (V.2.2 5), .int x1] : List Value)).length) Slot.unset).toArray = ls at hl ⊢
    have hl : lv_has ls 4 [(0, .ref (V.2.2 5)), (1, .int x1)] := hl
    exact kX1_unbuiltPart_0 (N := N) X  h ⟨hP, hD, va_S.rf⟩ hl
theorem dX1_makeOf_0 : decode cX1_makeOf 0 = .ok (.iload_n 1, 1) := by decide +kernel
theorem dX1_makeOf_1 : decode cX1_makeOf 1 = .ok (.invokestatic 152, 3) := by decide +kernel
theorem dX1_makeOf_4 : decode cX1_makeOf 4 = .ok (.ifCond .eq 22, 3) := by decide +kernel
theorem dX1_makeOf_7 : decode cX1_makeOf 7 = .ok (.aload_n 0, 1) := by decide +kernel
theorem dX1_makeOf_8 : decode cX1_makeOf 8 = .ok (.getfield 37, 3) := by decide +kernel
theorem dX1_makeOf_11 : decode cX1_makeOf 11 = .ok (.bipush 10, 2) := by decide +kernel
theorem dX1_makeOf_13 : decode cX1_makeOf 13 = .ok (.aload_n 0, 1) := by decide +kernel
theorem dX1_makeOf_14 : decode cX1_makeOf 14 = .ok (.getfield 18, 3) := by decide +kernel
theorem dX1_makeOf_17 : decode cX1_makeOf 17 = .ok (.iload_n 1, 1) := by decide +kernel
theorem dX1_makeOf_18 : decode cX1_makeOf 18 = .ok (.iaload, 1) := by decide +kernel
theorem dX1_makeOf_19 : decode cX1_makeOf 19 = .ok (.iadd, 1) := by decide +kernel
theorem dX1_makeOf_20 : decode cX1_makeOf 20 = .ok (.iconst (-1), 1) := by decide +kernel
theorem dX1_makeOf_21 : decode cX1_makeOf 21 = .ok (.iconst (-1), 1) := by decide +kernel
theorem dX1_makeOf_22 : decode cX1_makeOf 22 = .ok (.invokevirtual 170, 3) := by decide +kernel
theorem dX1_makeOf_25 : decode cX1_makeOf 25 = .ok (.ireturn, 1) := by decide +kernel
theorem dX1_makeOf_26 : decode cX1_makeOf 26 = .ok (.aload_n 0, 1) := by decide +kernel
theorem dX1_makeOf_27 : decode cX1_makeOf 27 = .ok (.getfield 45, 3) := by decide +kernel
theorem dX1_makeOf_30 : decode cX1_makeOf 30 = .ok (.getfield 158, 3) := by decide +kernel
theorem dX1_makeOf_33 : decode cX1_makeOf 33 = .ok (.iload_n 1, 1) := by decide +kernel
theorem dX1_makeOf_34 : decode cX1_makeOf 34 = .ok (.iaload, 1) := by decide +kernel
theorem dX1_makeOf_35 : decode cX1_makeOf 35 = .ok (.istore_n 2, 1) := by decide +kernel
theorem dX1_makeOf_36 : decode cX1_makeOf 36 = .ok (.aload_n 0, 1) := by decide +kernel
theorem dX1_makeOf_37 : decode cX1_makeOf 37 = .ok (.getfield 45, 3) := by decide +kernel
theorem dX1_makeOf_40 : decode cX1_makeOf 40 = .ok (.getfield 155, 3) := by decide +kernel
theorem dX1_makeOf_43 : decode cX1_makeOf 43 = .ok (.iload_n 1, 1) := by decide +kernel
theorem dX1_makeOf_44 : decode cX1_makeOf 44 = .ok (.iaload, 1) := by decide +kernel
theorem dX1_makeOf_45 : decode cX1_makeOf 45 = .ok (.istore_n 3, 1) := by decide +kernel
theorem dX1_makeOf_46 : decode cX1_makeOf 46 = .ok (.aload_n 0, 1) := by decide +kernel
theorem dX1_makeOf_47 : decode cX1_makeOf 47 = .ok (.getfield 37, 3) := by decide +kernel
theorem dX1_makeOf_50 : decode cX1_makeOf 50 = .ok (.aload_n 0, 1) := by decide +kernel
theorem dX1_makeOf_51 : decode cX1_makeOf 51 = .ok (.getfield 45, 3) := by decide +kernel
theorem dX1_makeOf_54 : decode cX1_makeOf 54 = .ok (.getfield 114, 3) := by decide +kernel
theorem dX1_makeOf_57 : decode cX1_makeOf 57 = .ok (.iload_n 1, 1) := by decide +kernel
theorem dX1_makeOf_58 : decode cX1_makeOf 58 = .ok (.iaload, 1) := by decide +kernel
theorem dX1_makeOf_59 : decode cX1_makeOf 59 = .ok (.iload_n 2, 1) := by decide +kernel
theorem dX1_makeOf_60 : decode cX1_makeOf 60 = .ok (.iconst (-1), 1) := by decide +kernel
theorem dX1_makeOf_61 : decode cX1_makeOf 61 = .ok (.if_icmp .ne 7, 3) := by decide +kernel
theorem dX1_makeOf_64 : decode cX1_makeOf 64 = .ok (.iconst (-1), 1) := by decide +kernel
theorem dX1_makeOf_65 : decode cX1_makeOf 65 = .ok (.goto 17, 3) := by decide +kernel
theorem dX1_makeOf_68 : decode cX1_makeOf 68 = .ok (.aload_n 0, 1) := by decide +kernel
theorem dX1_makeOf_69 : decode cX1_makeOf 69 = .ok (.getfield 28, 3) := by decide +kernel
theorem dX1_makeOf_72 : decode cX1_makeOf 72 = .ok (.aload_n 0, 1) := by decide +kernel
theorem dX1_makeOf_73 : decode cX1_makeOf 73 = .ok (.getfield 54, 3) := by decide +kernel
theorem dX1_makeOf_76 : decode cX1_makeOf 76 = .ok (.getfield 149, 3) := by decide +kernel
theorem dX1_makeOf_79 : decode cX1_makeOf 79 = .ok (.iload_n 2, 1) := by decide +kernel
theorem dX1_makeOf_80 : decode cX1_makeOf 80 = .ok (.iaload, 1) := by decide +kernel
theorem dX1_makeOf_81 : decode cX1_makeOf 81 = .ok (.iaload, 1) := by decide +kernel
theorem dX1_makeOf_82 : decode cX1_makeOf 82 = .ok (.iload_n 3, 1) := by decide +kernel
theorem dX1_makeOf_83 : decode cX1_makeOf 83 = .ok (.iconst (-1), 1) := by decide +kernel
theorem dX1_makeOf_84 : decode cX1_makeOf 84 = .ok (.if_icmp .ne 7, 3) := by decide +kernel
theorem dX1_makeOf_87 : decode cX1_makeOf 87 = .ok (.iconst (-1), 1) := by decide +kernel
theorem dX1_makeOf_88 : decode cX1_makeOf 88 = .ok (.goto 17, 3) := by decide +kernel
theorem dX1_makeOf_91 : decode cX1_makeOf 91 = .ok (.aload_n 0, 1) := by decide +kernel
theorem dX1_makeOf_92 : decode cX1_makeOf 92 = .ok (.getfield 28, 3) := by decide +kernel
theorem dX1_makeOf_95 : decode cX1_makeOf 95 = .ok (.aload_n 0, 1) := by decide +kernel
theorem dX1_makeOf_96 : decode cX1_makeOf 96 = .ok (.getfield 54, 3) := by decide +kernel
theorem dX1_makeOf_99 : decode cX1_makeOf 99 = .ok (.getfield 149, 3) := by decide +kernel
theorem dX1_makeOf_102 : decode cX1_makeOf 102 = .ok (.iload_n 3, 1) := by decide +kernel
theorem dX1_makeOf_103 : decode cX1_makeOf 103 = .ok (.iaload, 1) := by decide +kernel
theorem dX1_makeOf_104 : decode cX1_makeOf 104 = .ok (.iaload, 1) := by decide +kernel
theorem dX1_makeOf_105 : decode cX1_makeOf 105 = .ok (.invokevirtual 170, 3) := by decide +kernel
theorem dX1_makeOf_108 : decode cX1_makeOf 108 = .ok (.ireturn, 1) := by decide +kernel
def bX1_makeOf_105 (N d : Nat)   (w : Wd) (y1 : Int32) (y2 : Int32) (y3 : Int32) : Option (Wd × Int32) :=
  c_cl (eX8_make N d w y1 y2 y3) fun w10 v11 =>
  some (w10, v11)
set_option maxHeartbeats 4000000 in
theorem kX1_makeOf_105 {V : Ev} {p : Program} {l : Launch} {e : Env} {N d : Nat} {s : State} {m : MethodId} {args : Array Value} {below : List Frame} {meth : Method} {c : Code} {z : Wd × Int32} (X : CX V p s m args meth c cX1_makeOf 4 RX1 (some .int))    {w : Wd} {y1 : Int32} {y2 : Int32} {y3 : Int32} {H : Heap} {locs : List Loc} {ls : Array Slot} (h : bX1_makeOf_105 N d   w y1 y2 y3 = some z) (hH : wH V (cC V) (AC V) s w H locs) (hl : lv_has ls 4 []) : W p l e (rmD (d + 1)) s m args below meth c H locs 0 0 (MQ below (CtI V (cC V) (AC V) z) args s 0 0 (AC V)) (F0 m 105 ls [.int y3, .int y2, .int y1, .ref (V.2.2 1)]) := by
  unfold bX1_makeOf_105 at h
  obtain ⟨hx, hb, hml, hown, hg, hrt, hlk, hK⟩ := id X
  refine r_cvI (pc := 105) (As := [.int y1, .int y2, .int y3]) (rest := []) X hH (fun x hx => mX8_make hx) cw_X1_170 (heC_1 V w) rfl rfl rfl (Nat.le_of_ble_eq_true rfl) hl.1 h dX1_makeOf_105 (fun w10 v11 H locs h hH => ?_)
  exact r_iret (pc := 108) X hH h dX1_makeOf_108
def bX1_makeOf_82 (N d : Nat)   (w : Wd) (x3 : Int32) (y1 : Int32) (y2 : Int32) : Option (Wd × Int32) :=
  if x3 = (-1) then (
    bX1_makeOf_105 N d   w y1 y2 (-1)
  ) else (
    c_ld w 59 158 x3 fun v8 =>
    c_ld w 33 158 v8 fun v9 =>
    bX1_makeOf_105 N d   w y1 y2 v9
  )
set_option maxHeartbeats 4000000 in
theorem kX1_makeOf_82 {V : Ev} {p : Program} {l : Launch} {e : Env} {N d : Nat} {s : State} {m : MethodId} {args : Array Value} {below : List Frame} {meth : Method} {c : Code} {z : Wd × Int32} (X : CX V p s m args meth c cX1_makeOf 4 RX1 (some .int))    {w : Wd} {x3 : Int32} {y1 : Int32} {y2 : Int32} {H : Heap} {locs : List Loc} {ls : Array Slot} (h : bX1_makeOf_82 N d   w x3 y1 y2 = some z) (hH : wH V (cC V) (AC V) s w H locs) (hl : lv_has ls 4 [(0, .ref (V.2.2 5)), (3, .int x3)]) : W p l e (rmD (d + 1)) s m args below meth c H locs 0 0 (MQ below (CtI V (cC V) (AC V) z) args s 0 0 (AC V)) (F0 m 82 ls [.int y2, .int y1, .ref (V.2.2 1)]) := by
  unfold bX1_makeOf_82 at h
  obtain ⟨hx, hb, hml, hown, hg, hrt, hlk, hK⟩ := id X
  refine lv_iload_n (pc := 82) hx hb dX1_makeOf_82 rfl (lv_at hl 1 rfl) ?_
  refine lv_iconst (pc := 83) (v := -1) hx hb dX1_makeOf_83 (by decide) ?_
  refine b_icmp_ne (pc := 84) (tgt := 91) hx hb h dX1_makeOf_84 (by decide) (fun h => ?_) (fun h => ?_)
  · refine lv_aload_n (pc := 91) hx hb dX1_makeOf_91 rfl (lv_at hl 0 rfl) ?_
    refine gC_X1_28_5 (pc := 92) X hH dX1_makeOf_92 ?_
    refine lv_aload_n (pc := 95) hx hb dX1_makeOf_95 rfl (lv_at hl 0 rfl) ?_
    refine gC_X1_54_5 (pc := 96) X hH dX1_makeOf_96 ?_
    refine gC_X1_149_11 (pc := 99) X hH dX1_makeOf_99 ?_
    refine lv_iload_n (pc := 102) hx hb dX1_makeOf_102 rfl (lv_at hl 1 rfl) ?_
    refine r_ld (pc := 103) X (heC_55 V w) hH h dX1_makeOf_103 (fun v8 h => ?_)
    refine r_ld (pc := 104) X (heC_32 V w) hH h dX1_makeOf_104 (fun v9 h => ?_)
    exact kX1_makeOf_105 X   h hH (lv_sub hl [] rfl)
  · refine lv_iconst (pc := 87) (v := -1) hx hb dX1_makeOf_87 (by decide) ?_
    refine lv_goto (pc := 88) (tgt := 105) hx hb dX1_makeOf_88 (by decide) ?_
    exact kX1_makeOf_105 X   h hH (lv_sub hl [] rfl)
def bX1_makeOf_0 (N d : Nat)   (w : Wd) (x1 : Int32) : Option (Wd × Int32) :=
  c_cl (eX5_isVariable N d w x1) fun w1 v2 =>
  if v2 = 0 then (
    c_ld w1 51 158 x1 fun v3 =>
    c_ld w1 52 158 x1 fun v4 =>
    c_ld w1 50 158 x1 fun v5 =>
    if v3 = (-1) then (
      bX1_makeOf_82 N d   w1 v4 v5 (-1)
    ) else (
      c_ld w1 59 158 v3 fun v6 =>
      c_ld w1 33 158 v6 fun v7 =>
      bX1_makeOf_82 N d   w1 v4 v5 v7
    )
  ) else (
    c_ld w1 31 8 x1 fun v12 =>
    c_cl (eX8_make N d w1 (10 + v12) (-1) (-1)) fun w13 v14 =>
    some (w13, v14)
  )
set_option maxHeartbeats 4000000 in
theorem kX1_makeOf_0 {V : Ev} {p : Program} {l : Launch} {e : Env} {N d : Nat} {s : State} {m : MethodId} {args : Array Value} {below : List Frame} {meth : Method} {c : Code} {z : Wd × Int32} (X : CX V p s m args meth c cX1_makeOf 4 RX1 (some .int))    {w : Wd} {x1 : Int32} {H : Heap} {locs : List Loc} {ls : Array Slot} (h : bX1_makeOf_0 N d   w x1 = some z) (hH : wH V (cC V) (AC V) s w H locs) (hl : lv_has ls 4 [(0, .ref (V.2.2 5)), (1, .int x1)]) : W p l e (rmD (d + 1)) s m args below meth c H locs 0 0 (MQ below (CtI V (cC V) (AC V) z) args s 0 0 (AC V)) (F0 m 0 ls []) := by
  unfold bX1_makeOf_0 at h
  obtain ⟨hx, hb, hml, hown, hg, hrt, hlk, hK⟩ := id X
  refine lv_iload_n (pc := 0) hx hb dX1_makeOf_0 rfl (lv_at hl 1 rfl) ?_
  refine r_csI (pc := 1) (As := [.int x1]) (rest := []) X hH (fun x hx => mX5_isVariable hx) cs_X1_152 rfl rfl (Nat.le_of_ble_eq_true rfl) hl.1 h dX1_makeOf_1 (fun w1 v2 H locs h hH => ?_)
  refine b_if_eq (pc := 4) (tgt := 26) hx hb h dX1_makeOf_4 (by decide) (fun h => ?_) (fun h => ?_)
  · refine lv_aload_n (pc := 26) hx hb dX1_makeOf_26 rfl (lv_at hl 0 rfl) ?_
    refine gC_X1_45_5 (pc := 27) X hH dX1_makeOf_27 ?_
    refine gC_X1_158_10 (pc := 30) X hH dX1_makeOf_30 ?_
    refine lv_iload_n (pc := 33) hx hb dX1_makeOf_33 rfl (lv_at hl 1 rfl) ?_
    refine r_ld (pc := 34) X (heC_47 V w1) hH h dX1_makeOf_34 (fun v3 h => ?_)
    refine lv_istore_n (pc := 35) (lv' := [(2, .int v3), (0, .ref (V.2.2 5)), (1, .int x1)]) hx hb dX1_makeOf_35 rfl hl (by decide) rfl (fun ls hl => ?_)
    refine lv_aload_n (pc := 36) hx hb dX1_makeOf_36 rfl (lv_at hl 1 rfl) ?_
    refine gC_X1_45_5 (pc := 37) X hH dX1_makeOf_37 ?_
    refine gC_X1_155_10 (pc := 40) X hH dX1_makeOf_40 ?_
    refine lv_iload_n (pc := 43) hx hb dX1_makeOf_43 rfl (lv_at hl 2 rfl) ?_
    refine r_ld (pc := 44) X (heC_48 V w1) hH h dX1_makeOf_44 (fun v4 h => ?_)
    refine lv_istore_n (pc := 45) (lv' := [(3, .int v4), (2, .int v3), (0, .ref (V.2.2 5)), (1, .int x1)]) hx hb dX1_makeOf_45 rfl hl (by decide) rfl (fun ls hl => ?_)
    refine lv_aload_n (pc := 46) hx hb dX1_makeOf_46 rfl (lv_at hl 2 rfl) ?_
    refine gC_X1_37_5 (pc := 47) X hH dX1_makeOf_47 ?_
    refine lv_aload_n (pc := 50) hx hb dX1_makeOf_50 rfl (lv_at hl 2 rfl) ?_
    refine gC_X1_45_5 (pc := 51) X hH dX1_makeOf_51 ?_
    refine gC_X1_114_10 (pc := 54) X hH dX1_makeOf_54 ?_
    refine lv_iload_n (pc := 57) hx hb dX1_makeOf_57 rfl (lv_at hl 3 rfl) ?_
    refine r_ld (pc := 58) X (heC_46 V w1) hH h dX1_makeOf_58 (fun v5 h => ?_)
    refine lv_iload_n (pc := 59) hx hb dX1_makeOf_59 rfl (lv_at hl 1 rfl) ?_
    refine lv_iconst (pc := 60) (v := -1) hx hb dX1_makeOf_60 (by decide) ?_
    refine b_icmp_ne (pc := 61) (tgt := 68) hx hb h dX1_makeOf_61 (by decide) (fun h => ?_) (fun h => ?_)
    · refine lv_aload_n (pc := 68) hx hb dX1_makeOf_68 rfl (lv_at hl 2 rfl) ?_
      refine gC_X1_28_5 (pc := 69) X hH dX1_makeOf_69 ?_
      refine lv_aload_n (pc := 72) hx hb dX1_makeOf_72 rfl (lv_at hl 2 rfl) ?_
      refine gC_X1_54_5 (pc := 73) X hH dX1_makeOf_73 ?_
      refine gC_X1_149_11 (pc := 76) X hH dX1_makeOf_76 ?_
      refine lv_iload_n (pc := 79) hx hb dX1_makeOf_79 rfl (lv_at hl 1 rfl) ?_
      refine r_ld (pc := 80) X (heC_55 V w1) hH h dX1_makeOf_80 (fun v6 h => ?_)
      refine r_ld (pc := 81) X (heC_32 V w1) hH h dX1_makeOf_81 (fun v7 h => ?_)
      exact kX1_makeOf_82 X   h hH (lv_sub hl [2, 0] rfl)
    · refine lv_iconst (pc := 64) (v := -1) hx hb dX1_makeOf_64 (by decide) ?_
      refine lv_goto (pc := 65) (tgt := 82) hx hb dX1_makeOf_65 (by decide) ?_
      exact kX1_makeOf_82 X   h hH (lv_sub hl [2, 0] rfl)
  · refine lv_aload_n (pc := 7) hx hb dX1_makeOf_7 rfl (lv_at hl 0 rfl) ?_
    refine gC_X1_37_5 (pc := 8) X hH dX1_makeOf_8 ?_
    refine lv_bipush (pc := 11) (v := 10) hx hb dX1_makeOf_11 (by decide) ?_
    refine lv_aload_n (pc := 13) hx hb dX1_makeOf_13 rfl (lv_at hl 0 rfl) ?_
    refine gC_X1_18_5 (pc := 14) X hH dX1_makeOf_14 ?_
    refine lv_iload_n (pc := 17) hx hb dX1_makeOf_17 rfl (lv_at hl 1 rfl) ?_
    refine r_ld (pc := 18) X (heC_30 V w1) hH h dX1_makeOf_18 (fun v12 h => ?_)
    refine lv_iadd (pc := 19) hx hb dX1_makeOf_19 ?_
    refine lv_iconst (pc := 20) (v := -1) hx hb dX1_makeOf_20 (by decide) ?_
    refine lv_iconst (pc := 21) (v := -1) hx hb dX1_makeOf_21 (by decide) ?_
    refine r_cvI (pc := 22) (As := [.int (10 + v12), .int (-1), .int (-1)]) (rest := []) X hH (fun x hx => mX8_make hx) cw_X1_170 (heC_1 V w1) rfl rfl rfl (Nat.le_of_ble_eq_true rfl) hl.1 h dX1_makeOf_22 (fun w13 v14 H locs h hH => ?_)
    exact r_iret (pc := 25) X hH h dX1_makeOf_25
def eX1_makeOf (N : Nat) : Nat → Wd → Int32 → Option (Wd × Int32)
  | 0 => fun _ _ => none
  | d + 1 => fun w x1 => bX1_makeOf_0 N d  w x1
set_option maxHeartbeats 4000000 in
set_option maxRecDepth 20000 in
theorem mX1_makeOf {l : Launch} {V : Ev} {N d : Nat} {w : Wd} {x1 : Int32} {z : Wd × Int32} (h : eX1_makeOf N d w x1 = some z) : MetI l V (cC V) (AC V) yX1_makeOf cX1_makeOf 4 (some .int) d [.ref (V.2.2 5), .int x1] w z := by
  cases d with
  | zero => exact c_none h
  | succ d =>
    refine Met.ofW (cc := cX1_makeOf) (maxL := 4) (ret := (some .int)) (by decide) rfl ?_
    intro p e s m args below meth c s₁ B hml hv
    obtain ⟨rfl, hP, hD, hK⟩ := hv
    have hts := atoms_spec (ws := .code yX1_makeOf cX1_makeOf 4 (some .int) :: gG) B.pre
    have X : CX V p s m ([.ref (V.2.2 5), .int x1] : List Value).toArray meth c cX1_makeOf 4 RX1 (some .int) := ⟨B.exec, B.bytes, hml, findClass_of_methodNamed B.named, fun w hw => hts w (List.mem_cons_of_mem _ hw), B.returns, B.notSynchronized, hK⟩
    have hl := lv_entry ([.ref (V.2.2 5), .int x1] : List Value) (n := 4) (Nat.le_of_ble_eq_true rfl)
    rw [lg_entry_eq]
    generalize (lg_sl ([.ref (V.2.2 5), .int x1] : List Value) ++ List.replicate (4 - (lg_sl ([.ref (V.2.2 5), .int x1] : List Value)).length) Slot.unset).toArray = ls at hl ⊢
    have hl : lv_has ls 4 [(0, .ref (V.2.2 5)), (1, .int x1)] := hl
    exact kX1_makeOf_0 (N := N) X  h ⟨hP, hD, va_S.rf⟩ hl
theorem dX1_build_0 : decode cX1_build 0 = .ok (.aload_n 0, 1) := by decide +kernel
theorem dX1_build_1 : decode cX1_build 1 = .ok (.getfield 54, 3) := by decide +kernel
theorem dX1_build_4 : decode cX1_build 4 = .ok (.getfield 149, 3) := by decide +kernel
theorem dX1_build_7 : decode cX1_build 7 = .ok (.iload_n 1, 1) := by decide +kernel
theorem dX1_build_8 : decode cX1_build 8 = .ok (.iaload, 1) := by decide +kernel
theorem dX1_build_9 : decode cX1_build 9 = .ok (.istore_n 2, 1) := by decide +kernel
theorem dX1_build_10 : decode cX1_build 10 = .ok (.aload_n 0, 1) := by decide +kernel
theorem dX1_build_11 : decode cX1_build 11 = .ok (.iload_n 2, 1) := by decide +kernel
theorem dX1_build_12 : decode cX1_build 12 = .ok (.iconst 0, 1) := by decide +kernel
theorem dX1_build_13 : decode cX1_build 13 = .ok (.invokevirtual 144, 3) := by decide +kernel
theorem dX1_build_16 : decode cX1_build 16 = .ok (.istore_n 3, 1) := by decide +kernel
theorem dX1_build_17 : decode cX1_build 17 = .ok (.iconst 0, 1) := by decide +kernel
theorem dX1_build_18 : decode cX1_build 18 = .ok (.istore 4, 2) := by decide +kernel
theorem dX1_build_20 : decode cX1_build 20 = .ok (.iload 4, 2) := by decide +kernel
theorem dX1_build_22 : decode cX1_build 22 = .ok (.ldc 148, 2) := by decide +kernel
theorem dX1_build_24 : decode cX1_build 24 = .ok (.if_icmp .ge 79, 3) := by decide +kernel
theorem dX1_build_27 : decode cX1_build 27 = .ok (.iload_n 3, 1) := by decide +kernel
theorem dX1_build_28 : decode cX1_build 28 = .ok (.ifCond .le 75, 3) := by decide +kernel
theorem dX1_build_31 : decode cX1_build 31 = .ok (.aload_n 0, 1) := by decide +kernel
theorem dX1_build_32 : decode cX1_build 32 = .ok (.getfield 31, 3) := by decide +kernel
theorem dX1_build_35 : decode cX1_build 35 = .ok (.iload_n 3, 1) := by decide +kernel
theorem dX1_build_36 : decode cX1_build 36 = .ok (.iconst 1, 1) := by decide +kernel
theorem dX1_build_37 : decode cX1_build 37 = .ok (.isub, 1) := by decide +kernel
theorem dX1_build_38 : decode cX1_build 38 = .ok (.iaload, 1) := by decide +kernel
theorem dX1_build_39 : decode cX1_build 39 = .ok (.istore 5, 2) := by decide +kernel
theorem dX1_build_41 : decode cX1_build 41 = .ok (.aload_n 0, 1) := by decide +kernel
theorem dX1_build_42 : decode cX1_build 42 = .ok (.iload 5, 2) := by decide +kernel
theorem dX1_build_44 : decode cX1_build 44 = .ok (.invokevirtual 164, 3) := by decide +kernel
theorem dX1_build_47 : decode cX1_build 47 = .ok (.istore 6, 2) := by decide +kernel
theorem dX1_build_49 : decode cX1_build 49 = .ok (.iload 6, 2) := by decide +kernel
theorem dX1_build_51 : decode cX1_build 51 = .ok (.iconst (-1), 1) := by decide +kernel
theorem dX1_build_52 : decode cX1_build 52 = .ok (.if_icmp .eq 14, 3) := by decide +kernel
theorem dX1_build_55 : decode cX1_build 55 = .ok (.aload_n 0, 1) := by decide +kernel
theorem dX1_build_56 : decode cX1_build 56 = .ok (.iload 6, 2) := by decide +kernel
theorem dX1_build_58 : decode cX1_build 58 = .ok (.iload_n 3, 1) := by decide +kernel
theorem dX1_build_59 : decode cX1_build 59 = .ok (.invokevirtual 144, 3) := by decide +kernel
theorem dX1_build_62 : decode cX1_build 62 = .ok (.istore_n 3, 1) := by decide +kernel
theorem dX1_build_63 : decode cX1_build 63 = .ok (.goto 34, 3) := by decide +kernel
theorem dX1_build_66 : decode cX1_build 66 = .ok (.aload_n 0, 1) := by decide +kernel
theorem dX1_build_67 : decode cX1_build 67 = .ok (.getfield 28, 3) := by decide +kernel
theorem dX1_build_70 : decode cX1_build 70 = .ok (.iload 5, 2) := by decide +kernel
theorem dX1_build_72 : decode cX1_build 72 = .ok (.aload_n 0, 1) := by decide +kernel
theorem dX1_build_73 : decode cX1_build 73 = .ok (.iload 5, 2) := by decide +kernel
theorem dX1_build_75 : decode cX1_build 75 = .ok (.invokevirtual 167, 3) := by decide +kernel
theorem dX1_build_78 : decode cX1_build 78 = .ok (.iastore, 1) := by decide +kernel
theorem dX1_build_79 : decode cX1_build 79 = .ok (.aload_n 0, 1) := by decide +kernel
theorem dX1_build_80 : decode cX1_build 80 = .ok (.getfield 28, 3) := by decide +kernel
theorem dX1_build_83 : decode cX1_build 83 = .ok (.iload 5, 2) := by decide +kernel
theorem dX1_build_85 : decode cX1_build 85 = .ok (.iaload, 1) := by decide +kernel
theorem dX1_build_86 : decode cX1_build 86 = .ok (.bipush (-4), 2) := by decide +kernel
theorem dX1_build_88 : decode cX1_build 88 = .ok (.if_icmp .ne 6, 3) := by decide +kernel
theorem dX1_build_91 : decode cX1_build 91 = .ok (.bipush (-4), 2) := by decide +kernel
theorem dX1_build_93 : decode cX1_build 93 = .ok (.ireturn, 1) := by decide +kernel
theorem dX1_build_94 : decode cX1_build 94 = .ok (.iinc 3 (-1), 3) := by decide +kernel
theorem dX1_build_97 : decode cX1_build 97 = .ok (.iinc 4 1, 3) := by decide +kernel
theorem dX1_build_100 : decode cX1_build 100 = .ok (.goto (-80), 3) := by decide +kernel
theorem dX1_build_103 : decode cX1_build 103 = .ok (.aload_n 0, 1) := by decide +kernel
theorem dX1_build_104 : decode cX1_build 104 = .ok (.getfield 28, 3) := by decide +kernel
theorem dX1_build_107 : decode cX1_build 107 = .ok (.iload_n 2, 1) := by decide +kernel
theorem dX1_build_108 : decode cX1_build 108 = .ok (.iaload, 1) := by decide +kernel
theorem dX1_build_109 : decode cX1_build 109 = .ok (.ireturn, 1) := by decide +kernel
def bX1_build_103 (N d : Nat)   (w : Wd) (x2 : Int32) : Option (Wd × Int32) :=
  c_ld w 33 158 x2 fun v4 =>
  some (w, v4)
set_option maxHeartbeats 4000000 in
theorem kX1_build_103 {V : Ev} {p : Program} {l : Launch} {e : Env} {N d : Nat} {s : State} {m : MethodId} {args : Array Value} {below : List Frame} {meth : Method} {c : Code} {z : Wd × Int32} (X : CX V p s m args meth c cX1_build 7 RX1 (some .int))    {w : Wd} {x2 : Int32} {H : Heap} {locs : List Loc} {ls : Array Slot} (h : bX1_build_103 N d   w x2 = some z) (hH : wH V (cC V) (AC V) s w H locs) (hl : lv_has ls 7 [(0, .ref (V.2.2 5)), (2, .int x2)]) : W p l e (rmD (d + 1)) s m args below meth c H locs 0 0 (MQ below (CtI V (cC V) (AC V) z) args s 0 0 (AC V)) (F0 m 103 ls []) := by
  unfold bX1_build_103 at h
  obtain ⟨hx, hb, hml, hown, hg, hrt, hlk, hK⟩ := id X
  refine lv_aload_n (pc := 103) hx hb dX1_build_103 rfl (lv_at hl 0 rfl) ?_
  refine gC_X1_28_5 (pc := 104) X hH dX1_build_104 ?_
  refine lv_iload_n (pc := 107) hx hb dX1_build_107 rfl (lv_at hl 1 rfl) ?_
  refine r_ld (pc := 108) X (heC_32 V w) hH h dX1_build_108 (fun v4 h => ?_)
  exact r_iret (pc := 109) X hH h dX1_build_109
def bX1_build_97 (N d : Nat)  (rec20 : Wd → Int32 → Int32 → Int32 → Option (Wd × Int32)) (w : Wd) (x2 : Int32) (x3 : Int32) (x4 : Int32) : Option (Wd × Int32) :=
  c_nm (x4 + 1) fun x4_13 =>
  rec20 w x2 x3 x4_13
set_option maxHeartbeats 4000000 in
theorem kX1_build_97 {V : Ev} {p : Program} {l : Launch} {e : Env} {N d : Nat} {s : State} {m : MethodId} {args : Array Value} {below : List Frame} {meth : Method} {c : Code} {z : Wd × Int32} (X : CX V p s m args meth c cX1_build 7 RX1 (some .int))   {rec20 : Wd → Int32 → Int32 → Int32 → Option (Wd × Int32)} (hr20 : ∀ (w : Wd) (x2 : Int32) (x3 : Int32) (x4 : Int32) (H : Heap) (locs : List Loc) (ls : Array Slot), rec20 w x2 x3 x4 = some z → wH V (cC V) (AC V) s w H locs → lv_has ls 7 [(0, .ref (V.2.2 5)), (2, .int x2), (3, .int x3), (4, .int x4)] → W p l e (rmD (d + 1)) s m args below meth c H locs 0 0 (MQ below (CtI V (cC V) (AC V) z) args s 0 0 (AC V)) (F0 m 20 ls [])) {w : Wd} {x2 : Int32} {x3 : Int32} {x4 : Int32} {H : Heap} {locs : List Loc} {ls : Array Slot} (h : bX1_build_97 N d  rec20 w x2 x3 x4 = some z) (hH : wH V (cC V) (AC V) s w H locs) (hl : lv_has ls 7 [(0, .ref (V.2.2 5)), (2, .int x2), (3, .int x3), (4, .int x4)]) : W p l e (rmD (d + 1)) s m args below meth c H locs 0 0 (MQ below (CtI V (cC V) (AC V) z) args s 0 0 (AC V)) (F0 m 97 ls []) := by
  unfold bX1_build_97 at h
  obtain ⟨hx, hb, hml, hown, hg, hrt, hlk, hK⟩ := id X
  obtain ⟨x4_13, ex4_13, h⟩ := c_nm_ex h
  refine lv_iinc (pc := 97) (v := x4_13) (lv' := [(4, .int x4_13), (0, .ref (V.2.2 5)), (2, .int x2), (3, .int x3)]) hx hb dX1_build_97 hl (k := 3) rfl (by rw [← ex4_13]; rfl) (by decide) rfl (fun ls hl => ?_)
  refine lv_goto (pc := 100) (tgt := 20) hx hb dX1_build_100 (by decide) ?_
  exact hr20 _ _ _ _ _ _ _ h hH (lv_sub hl [1, 2, 3, 0] rfl)
def bX1_build_20 (N d : Nat)  (rec20 : Wd → Int32 → Int32 → Int32 → Option (Wd × Int32)) (w : Wd) (x2 : Int32) (x3 : Int32) (x4 : Int32) : Option (Wd × Int32) :=
  if 1000000 ≤ x4 then (
    bX1_build_103 N d   w x2
  ) else (
    if x3 ≤ 0 then (
      bX1_build_103 N d   w x2
    ) else (
      c_ld w 34 158 (x3 - 1) fun v5 =>
      c_cl (eX1_unbuiltPart N d w v5) fun w6 v7 =>
      if v7 = (-1) then (
        c_cl (eX1_makeOf N d w6 v5) fun w8 v9 =>
        c_st w8 33 158 v5 v9 fun w10 =>
        c_ld w10 33 158 v5 fun v11 =>
        if v11 = (-4) then (
          some (w10, -4)
        ) else (
          c_nm (x3 + (-1)) fun x3_12 =>
          bX1_build_97 N d  rec20 w10 x2 x3_12 x4
        )
      ) else (
        c_cl (eX1_push N d w6 v7 x3) fun w14 v15 =>
        bX1_build_97 N d  rec20 w14 x2 v15 x4
      )
    )
  )
set_option maxHeartbeats 4000000 in
theorem kX1_build_20 {V : Ev} {p : Program} {l : Launch} {e : Env} {N d : Nat} {s : State} {m : MethodId} {args : Array Value} {below : List Frame} {meth : Method} {c : Code} {z : Wd × Int32} (X : CX V p s m args meth c cX1_build 7 RX1 (some .int))   {rec20 : Wd → Int32 → Int32 → Int32 → Option (Wd × Int32)} (hr20 : ∀ (w : Wd) (x2 : Int32) (x3 : Int32) (x4 : Int32) (H : Heap) (locs : List Loc) (ls : Array Slot), rec20 w x2 x3 x4 = some z → wH V (cC V) (AC V) s w H locs → lv_has ls 7 [(0, .ref (V.2.2 5)), (2, .int x2), (3, .int x3), (4, .int x4)] → W p l e (rmD (d + 1)) s m args below meth c H locs 0 0 (MQ below (CtI V (cC V) (AC V) z) args s 0 0 (AC V)) (F0 m 20 ls [])) {w : Wd} {x2 : Int32} {x3 : Int32} {x4 : Int32} {H : Heap} {locs : List Loc} {ls : Array Slot} (h : bX1_build_20 N d  rec20 w x2 x3 x4 = some z) (hH : wH V (cC V) (AC V) s w H locs) (hl : lv_has ls 7 [(0, .ref (V.2.2 5)), (2, .int x2), (3, .int x3), (4, .int x4)]) : W p l e (rmD (d + 1)) s m args below meth c H locs 0 0 (MQ below (CtI V (cC V) (AC V) z) args s 0 0 (AC V)) (F0 m 20 ls []) := by
  unfold bX1_build_20 at h
  obtain ⟨hx, hb, hml, hown, hg, hrt, hlk, hK⟩ := id X
  refine lv_iload (pc := 20) hx hb dX1_build_20 (lv_at hl 3 rfl) ?_
  refine lv_ldc (pc := 22) hx hb hown (hg _ wK_670) dX1_build_22 ?_
  refine b_icmp_ge (pc := 24) (tgt := 103) hx hb h dX1_build_24 (by decide) (fun h => ?_) (fun h => ?_)
  · exact kX1_build_103 X   h hH (lv_sub hl [0, 1] rfl)
  · refine lv_iload_n (pc := 27) hx hb dX1_build_27 rfl (lv_at hl 2 rfl) ?_
    refine b_if_le (pc := 28) (tgt := 103) hx hb h dX1_build_28 (by decide) (fun h => ?_) (fun h => ?_)
    · exact kX1_build_103 X   h hH (lv_sub hl [0, 1] rfl)
    · refine lv_aload_n (pc := 31) hx hb dX1_build_31 rfl (lv_at hl 0 rfl) ?_
      refine gC_X1_31_5 (pc := 32) X hH dX1_build_32 ?_
      refine lv_iload_n (pc := 35) hx hb dX1_build_35 rfl (lv_at hl 2 rfl) ?_
      refine lv_iconst (pc := 36) (v := 1) hx hb dX1_build_36 (by decide) ?_
      refine lv_isub (pc := 37) hx hb dX1_build_37 ?_
      refine r_ld (pc := 38) X (heC_33 V w) hH h dX1_build_38 (fun v5 h => ?_)
      refine lv_istore (pc := 39) (lv' := [(5, .int v5), (0, .ref (V.2.2 5)), (2, .int x2), (3, .int x3), (4, .int x4)]) hx hb dX1_build_39 hl (by decide) rfl (fun ls hl => ?_)
      refine lv_aload_n (pc := 41) hx hb dX1_build_41 rfl (lv_at hl 1 rfl) ?_
      refine lv_iload (pc := 42) hx hb dX1_build_42 (lv_at hl 0 rfl) ?_
      refine r_cvI (pc := 44) (As := [.int v5]) (rest := []) X hH (fun x hx => mX1_unbuiltPart hx) cw_X1_164 (heC_5 V w) rfl rfl rfl (Nat.le_of_ble_eq_true rfl) hl.1 h dX1_build_44 (fun w6 v7 H locs h hH => ?_)
      refine lv_istore (pc := 47) (lv' := [(6, .int v7), (5, .int v5), (0, .ref (V.2.2 5)), (2, .int x2), (3, .int x3), (4, .int x4)]) hx hb dX1_build_47 hl (by decide) rfl (fun ls hl => ?_)
      refine lv_iload (pc := 49) hx hb dX1_build_49 (lv_at hl 0 rfl) ?_
      refine lv_iconst (pc := 51) (v := -1) hx hb dX1_build_51 (by decide) ?_
      refine b_icmp_eq (pc := 52) (tgt := 66) hx hb h dX1_build_52 (by decide) (fun h => ?_) (fun h => ?_)
      · refine lv_aload_n (pc := 66) hx hb dX1_build_66 rfl (lv_at hl 2 rfl) ?_
        refine gC_X1_28_5 (pc := 67) X hH dX1_build_67 ?_
        refine lv_iload (pc := 70) hx hb dX1_build_70 (lv_at hl 1 rfl) ?_
        refine lv_aload_n (pc := 72) hx hb dX1_build_72 rfl (lv_at hl 2 rfl) ?_
        refine lv_iload (pc := 73) hx hb dX1_build_73 (lv_at hl 1 rfl) ?_
        refine r_cvI (pc := 75) (As := [.int v5]) (rest := [.int v5, .ref (V.2.2 32)]) X hH (fun x hx => mX1_makeOf hx) cw_X1_167 (heC_5 V w6) rfl rfl rfl (Nat.le_of_ble_eq_true rfl) hl.1 h dX1_build_75 (fun w8 v9 H locs h hH => ?_)
        refine r_st (pc := 78) X (heC_32 V w8) (hsC_32 V w8) hH h dX1_build_78 (fun w10 H locs h hH => ?_)
        refine lv_aload_n (pc := 79) hx hb dX1_build_79 rfl (lv_at hl 2 rfl) ?_
        refine gC_X1_28_5 (pc := 80) X hH dX1_build_80 ?_
        refine lv_iload (pc := 83) hx hb dX1_build_83 (lv_at hl 1 rfl) ?_
        refine r_ld (pc := 85) X (heC_32 V w10) hH h dX1_build_85 (fun v11 h => ?_)
        refine lv_bipush (pc := 86) (v := -4) hx hb dX1_build_86 (by decide) ?_
        refine b_icmp_ne (pc := 88) (tgt := 94) hx hb h dX1_build_88 (by decide) (fun h => ?_) (fun h => ?_)
        · obtain ⟨x3_12, ex3_12, h⟩ := c_nm_ex h
          refine lv_iinc (pc := 94) (v := x3_12) (lv' := [(3, .int x3_12), (6, .int v7), (5, .int v5), (0, .ref (V.2.2 5)), (2, .int x2), (4, .int x4)]) hx hb dX1_build_94 hl (k := 4) rfl (by rw [← ex3_12]; rfl) (by decide) rfl (fun ls hl => ?_)
          exact kX1_build_97 X  hr20 h hH (lv_sub hl [3, 4, 0, 5] rfl)
        · refine lv_bipush (pc := 91) (v := -4) hx hb dX1_build_91 (by decide) ?_
          exact r_iret (pc := 93) X hH h dX1_build_93
      · refine lv_aload_n (pc := 55) hx hb dX1_build_55 rfl (lv_at hl 2 rfl) ?_
        refine lv_iload (pc := 56) hx hb dX1_build_56 (lv_at hl 0 rfl) ?_
        refine lv_iload_n (pc := 58) hx hb dX1_build_58 rfl (lv_at hl 4 rfl) ?_
        refine r_cvI (pc := 59) (As := [.int v7, .int x3]) (rest := []) X hH (fun x hx => mX1_push hx) cw_X1_144 (heC_5 V w6) rfl rfl rfl (Nat.le_of_ble_eq_true rfl) hl.1 h dX1_build_59 (fun w14 v15 H locs h hH => ?_)
        refine lv_istore_n (pc := 62) (lv' := [(3, .int v15), (6, .int v7), (5, .int v5), (0, .ref (V.2.2 5)), (2, .int x2), (4, .int x4)]) hx hb dX1_build_62 rfl hl (by decide) rfl (fun ls hl => ?_)
        refine lv_goto (pc := 63) (tgt := 97) hx hb dX1_build_63 (by decide) ?_
        exact kX1_build_97 X  hr20 h hH (lv_sub hl [3, 4, 0, 5] rfl)
def fX1_build_20 (N d : Nat)   : Nat → Wd → Int32 → Int32 → Int32 → Option (Wd × Int32)
  | 0 => fun _ _ _ _ => none
  | n + 1 => fun w x2 x3 x4 => bX1_build_20 N d   (fX1_build_20 N d   n) w x2 x3 x4
theorem lX1_build_20 {V : Ev} {p : Program} {l : Launch} {e : Env} {N d : Nat} {s : State} {m : MethodId} {args : Array Value} {below : List Frame} {meth : Method} {c : Code} {z : Wd × Int32} (X : CX V p s m args meth c cX1_build 7 RX1 (some .int))    (n : Nat) {w : Wd} {x2 : Int32} {x3 : Int32} {x4 : Int32} {H : Heap} {locs : List Loc} {ls : Array Slot} (h : fX1_build_20 N d   n w x2 x3 x4 = some z) (hH : wH V (cC V) (AC V) s w H locs) (hl : lv_has ls 7 [(0, .ref (V.2.2 5)), (2, .int x2), (3, .int x3), (4, .int x4)]) : W p l e (rmD (d + 1)) s m args below meth c H locs 0 0 (MQ below (CtI V (cC V) (AC V) z) args s 0 0 (AC V)) (F0 m 20 ls []) := by
  induction n generalizing w x2 x3 x4 H locs ls with
  | zero => exact c_none h
  | succ n ih => exact kX1_build_20 (N := N) X  (fun _ _ _ _ _ _ _ h hH hl => ih h hH hl) h hH hl
def bX1_build_0 (N d : Nat)   (w : Wd) (x1 : Int32) : Option (Wd × Int32) :=
  c_ld w 59 158 x1 fun v1 =>
  c_cl (eX1_push N d w v1 0) fun w2 v3 =>
  fX1_build_20 N d   N w2 v1 v3 ((0 : Int32))
set_option maxHeartbeats 4000000 in
theorem kX1_build_0 {V : Ev} {p : Program} {l : Launch} {e : Env} {N d : Nat} {s : State} {m : MethodId} {args : Array Value} {below : List Frame} {meth : Method} {c : Code} {z : Wd × Int32} (X : CX V p s m args meth c cX1_build 7 RX1 (some .int))    {w : Wd} {x1 : Int32} {H : Heap} {locs : List Loc} {ls : Array Slot} (h : bX1_build_0 N d   w x1 = some z) (hH : wH V (cC V) (AC V) s w H locs) (hl : lv_has ls 7 [(0, .ref (V.2.2 5)), (1, .int x1)]) : W p l e (rmD (d + 1)) s m args below meth c H locs 0 0 (MQ below (CtI V (cC V) (AC V) z) args s 0 0 (AC V)) (F0 m 0 ls []) := by
  unfold bX1_build_0 at h
  obtain ⟨hx, hb, hml, hown, hg, hrt, hlk, hK⟩ := id X
  refine lv_aload_n (pc := 0) hx hb dX1_build_0 rfl (lv_at hl 0 rfl) ?_
  refine gC_X1_54_5 (pc := 1) X hH dX1_build_1 ?_
  refine gC_X1_149_11 (pc := 4) X hH dX1_build_4 ?_
  refine lv_iload_n (pc := 7) hx hb dX1_build_7 rfl (lv_at hl 1 rfl) ?_
  refine r_ld (pc := 8) X (heC_55 V w) hH h dX1_build_8 (fun v1 h => ?_)
  refine lv_istore_n (pc := 9) (lv' := [(2, .int v1), (0, .ref (V.2.2 5)), (1, .int x1)]) hx hb dX1_build_9 rfl hl (by decide) rfl (fun ls hl => ?_)
  refine lv_aload_n (pc := 10) hx hb dX1_build_10 rfl (lv_at hl 1 rfl) ?_
  refine lv_iload_n (pc := 11) hx hb dX1_build_11 rfl (lv_at hl 0 rfl) ?_
  refine lv_iconst (pc := 12) (v := 0) hx hb dX1_build_12 (by decide) ?_
  refine r_cvI (pc := 13) (As := [.int v1, .int 0]) (rest := []) X hH (fun x hx => mX1_push hx) cw_X1_144 (heC_5 V w) rfl rfl rfl (Nat.le_of_ble_eq_true rfl) hl.1 h dX1_build_13 (fun w2 v3 H locs h hH => ?_)
  refine lv_istore_n (pc := 16) (lv' := [(3, .int v3), (2, .int v1), (0, .ref (V.2.2 5)), (1, .int x1)]) hx hb dX1_build_16 rfl hl (by decide) rfl (fun ls hl => ?_)
  refine lv_iconst (pc := 17) (v := 0) hx hb dX1_build_17 (by decide) ?_
  refine lv_istore (pc := 18) (lv' := [(4, .int ((0 : Int32))), (3, .int v3), (2, .int v1), (0, .ref (V.2.2 5)), (1, .int x1)]) hx hb dX1_build_18 hl (by decide) rfl (fun ls hl => ?_)
  exact lX1_build_20 X   N h hH (lv_sub hl [3, 2, 1, 0] rfl)
def eX1_build (N : Nat) : Nat → Wd → Int32 → Option (Wd × Int32)
  | 0 => fun _ _ => none
  | d + 1 => fun w x1 => bX1_build_0 N d  w x1
set_option maxHeartbeats 4000000 in
set_option maxRecDepth 20000 in
theorem mX1_build {l : Launch} {V : Ev} {N d : Nat} {w : Wd} {x1 : Int32} {z : Wd × Int32} (h : eX1_build N d w x1 = some z) : MetI l V (cC V) (AC V) yX1_build cX1_build 7 (some .int) d [.ref (V.2.2 5), .int x1] w z := by
  cases d with
  | zero => exact c_none h
  | succ d =>
    refine Met.ofW (cc := cX1_build) (maxL := 7) (ret := (some .int)) (by decide) rfl ?_
    intro p e s m args below meth c s₁ B hml hv
    obtain ⟨rfl, hP, hD, hK⟩ := hv
    have hts := atoms_spec (ws := .code yX1_build cX1_build 7 (some .int) :: gG) B.pre
    have X : CX V p s m ([.ref (V.2.2 5), .int x1] : List Value).toArray meth c cX1_build 7 RX1 (some .int) := ⟨B.exec, B.bytes, hml, findClass_of_methodNamed B.named, fun w hw => hts w (List.mem_cons_of_mem _ hw), B.returns, B.notSynchronized, hK⟩
    have hl := lv_entry ([.ref (V.2.2 5), .int x1] : List Value) (n := 7) (Nat.le_of_ble_eq_true rfl)
    rw [lg_entry_eq]
    generalize (lg_sl ([.ref (V.2.2 5), .int x1] : List Value) ++ List.replicate (7 - (lg_sl ([.ref (V.2.2 5), .int x1] : List Value)).length) Slot.unset).toArray = ls at hl ⊢
    have hl : lv_has ls 7 [(0, .ref (V.2.2 5)), (1, .int x1)] := hl
    exact kX1_build_0 (N := N) X  h ⟨hP, hD, va_S.rf⟩ hl
theorem dX2_add_0 : decode cX2_add 0 = .ok (.aload_n 0, 1) := by decide +kernel
theorem dX2_add_1 : decode cX2_add 1 = .ok (.getfield 32, 3) := by decide +kernel
theorem dX2_add_4 : decode cX2_add 4 = .ok (.bipush 60, 2) := by decide +kernel
theorem dX2_add_6 : decode cX2_add 6 = .ok (.if_icmp .ge 66, 3) := by decide +kernel
theorem dX2_add_9 : decode cX2_add 9 = .ok (.aload_n 0, 1) := by decide +kernel
theorem dX2_add_10 : decode cX2_add 10 = .ok (.getfield 9, 3) := by decide +kernel
theorem dX2_add_13 : decode cX2_add 13 = .ok (.aload_n 0, 1) := by decide +kernel
theorem dX2_add_14 : decode cX2_add 14 = .ok (.getfield 32, 3) := by decide +kernel
theorem dX2_add_17 : decode cX2_add 17 = .ok (.iadd, 1) := by decide +kernel
theorem dX2_add_18 : decode cX2_add 18 = .ok (.istore 7, 2) := by decide +kernel
theorem dX2_add_20 : decode cX2_add 20 = .ok (.aload_n 0, 1) := by decide +kernel
theorem dX2_add_21 : decode cX2_add 21 = .ok (.getfield 15, 3) := by decide +kernel
theorem dX2_add_24 : decode cX2_add 24 = .ok (.iload 7, 2) := by decide +kernel
theorem dX2_add_26 : decode cX2_add 26 = .ok (.iload_n 1, 1) := by decide +kernel
theorem dX2_add_27 : decode cX2_add 27 = .ok (.iastore, 1) := by decide +kernel
theorem dX2_add_28 : decode cX2_add 28 = .ok (.aload_n 0, 1) := by decide +kernel
theorem dX2_add_29 : decode cX2_add 29 = .ok (.getfield 19, 3) := by decide +kernel
theorem dX2_add_32 : decode cX2_add 32 = .ok (.iload 7, 2) := by decide +kernel
theorem dX2_add_34 : decode cX2_add 34 = .ok (.iload_n 2, 1) := by decide +kernel
theorem dX2_add_35 : decode cX2_add 35 = .ok (.iastore, 1) := by decide +kernel
theorem dX2_add_36 : decode cX2_add 36 = .ok (.aload_n 0, 1) := by decide +kernel
theorem dX2_add_37 : decode cX2_add 37 = .ok (.getfield 22, 3) := by decide +kernel
theorem dX2_add_40 : decode cX2_add 40 = .ok (.iload 7, 2) := by decide +kernel
theorem dX2_add_42 : decode cX2_add 42 = .ok (.lload_n 3, 1) := by decide +kernel
theorem dX2_add_43 : decode cX2_add 43 = .ok (.lastore, 1) := by decide +kernel
theorem dX2_add_44 : decode cX2_add 44 = .ok (.aload_n 0, 1) := by decide +kernel
theorem dX2_add_45 : decode cX2_add 45 = .ok (.getfield 26, 3) := by decide +kernel
theorem dX2_add_48 : decode cX2_add 48 = .ok (.iload 7, 2) := by decide +kernel
theorem dX2_add_50 : decode cX2_add 50 = .ok (.iload 5, 2) := by decide +kernel
theorem dX2_add_52 : decode cX2_add 52 = .ok (.iastore, 1) := by decide +kernel
theorem dX2_add_53 : decode cX2_add 53 = .ok (.aload_n 0, 1) := by decide +kernel
theorem dX2_add_54 : decode cX2_add 54 = .ok (.getfield 29, 3) := by decide +kernel
theorem dX2_add_57 : decode cX2_add 57 = .ok (.iload 7, 2) := by decide +kernel
theorem dX2_add_59 : decode cX2_add 59 = .ok (.iload 6, 2) := by decide +kernel
theorem dX2_add_61 : decode cX2_add 61 = .ok (.iastore, 1) := by decide +kernel
theorem dX2_add_62 : decode cX2_add 62 = .ok (.aload_n 0, 1) := by decide +kernel
theorem dX2_add_63 : decode cX2_add 63 = .ok (.dup, 1) := by decide +kernel
theorem dX2_add_64 : decode cX2_add 64 = .ok (.getfield 32, 3) := by decide +kernel
theorem dX2_add_67 : decode cX2_add 67 = .ok (.iconst 1, 1) := by decide +kernel
theorem dX2_add_68 : decode cX2_add 68 = .ok (.iadd, 1) := by decide +kernel
theorem dX2_add_69 : decode cX2_add 69 = .ok (.putfield 32, 3) := by decide +kernel
theorem dX2_add_72 : decode cX2_add 72 = .ok (.return_, 1) := by decide +kernel
def bX2_add_72 (N d : Nat)   (w : Wd)  : Option (Wd) :=
  some w
set_option maxHeartbeats 4000000 in
theorem kX2_add_72 {V : Ev} {p : Program} {l : Launch} {e : Env} {N d : Nat} {s : State} {m : MethodId} {args : Array Value} {below : List Frame} {meth : Method} {c : Code} {z : Wd} (X : CX V p s m args meth c cX2_add 8 RX2 none)    {w : Wd}  {H : Heap} {locs : List Loc} {ls : Array Slot} (h : bX2_add_72 N d   w  = some z) (hH : wH V (cC V) (AC V) s w H locs) (hl : lv_has ls 8 []) : W p l e (rmD (d + 1)) s m args below meth c H locs 0 0 (MQ below (CtV V (cC V) (AC V) z) args s 0 0 (AC V)) (F0 m 72 ls []) := by
  unfold bX2_add_72 at h
  obtain ⟨hx, hb, hml, hown, hg, hrt, hlk, hK⟩ := id X
  exact r_vret (pc := 72) X hH h dX2_add_72
def bX2_add_0 (N d : Nat)   (w : Wd) (x1 : Int32) (x2 : Int32) (x3 : Int64) (x5 : Int32) (x6 : Int32) : Option (Wd) :=
  if 60 ≤ (sI w 16) then (
    bX2_add_72 N d   w 
  ) else (
    c_nm ((sI w 18) + (sI w 16)) fun x7_1 =>
    c_st w 45 120 x7_1 x1 fun w2 =>
    c_st w2 46 120 x7_1 x2 fun w3 =>
    c_sl w3 47 120 x7_1 x3 fun w4 =>
    c_st w4 48 120 x7_1 x5 fun w5 =>
    c_st w5 49 120 x7_1 x6 fun w6 =>
    c_pi w6 16 ((sI w6 16) + 1) fun w7 =>
    bX2_add_72 N d   w7 
  )
set_option maxHeartbeats 4000000 in
theorem kX2_add_0 {V : Ev} {p : Program} {l : Launch} {e : Env} {N d : Nat} {s : State} {m : MethodId} {args : Array Value} {below : List Frame} {meth : Method} {c : Code} {z : Wd} (X : CX V p s m args meth c cX2_add 8 RX2 none)    {w : Wd} {x1 : Int32} {x2 : Int32} {x3 : Int64} {x5 : Int32} {x6 : Int32} {H : Heap} {locs : List Loc} {ls : Array Slot} (h : bX2_add_0 N d   w x1 x2 x3 x5 x6 = some z) (hH : wH V (cC V) (AC V) s w H locs) (hl : lv_has ls 8 [(0, .ref (V.2.2 9)), (1, .int x1), (2, .int x2), (3, .long x3), (5, .int x5), (6, .int x6)]) : W p l e (rmD (d + 1)) s m args below meth c H locs 0 0 (MQ below (CtV V (cC V) (AC V) z) args s 0 0 (AC V)) (F0 m 0 ls []) := by
  unfold bX2_add_0 at h
  obtain ⟨hx, hb, hml, hown, hg, hrt, hlk, hK⟩ := id X
  refine lv_aload_n (pc := 0) hx hb dX2_add_0 rfl (lv_at hl 0 rfl) ?_
  refine gC_X2_32_9 (pc := 1) X hH dX2_add_1 ?_
  refine lv_bipush (pc := 4) (v := 60) hx hb dX2_add_4 (by decide) ?_
  refine b_icmp_ge (pc := 6) (tgt := 72) hx hb h dX2_add_6 (by decide) (fun h => ?_) (fun h => ?_)
  · exact kX2_add_72 X   h hH (lv_sub hl [] rfl)
  · refine lv_aload_n (pc := 9) hx hb dX2_add_9 rfl (lv_at hl 0 rfl) ?_
    refine gC_X2_9_9 (pc := 10) X hH dX2_add_10 ?_
    refine lv_aload_n (pc := 13) hx hb dX2_add_13 rfl (lv_at hl 0 rfl) ?_
    refine gC_X2_32_9 (pc := 14) X hH dX2_add_14 ?_
    refine lv_iadd (pc := 17) hx hb dX2_add_17 ?_
    refine r_nmi h (fun x7_1 h => ?_)
    refine lv_istore (pc := 18) (lv' := [(7, .int x7_1), (0, .ref (V.2.2 9)), (1, .int x1), (2, .int x2), (3, .long x3), (5, .int x5), (6, .int x6)]) hx hb dX2_add_18 hl (by decide) rfl (fun ls hl => ?_)
    refine lv_aload_n (pc := 20) hx hb dX2_add_20 rfl (lv_at hl 1 rfl) ?_
    refine gC_X2_15_9 (pc := 21) X hH dX2_add_21 ?_
    refine lv_iload (pc := 24) hx hb dX2_add_24 (lv_at hl 0 rfl) ?_
    refine lv_iload_n (pc := 26) hx hb dX2_add_26 rfl (lv_at hl 2 rfl) ?_
    refine r_st (pc := 27) X (heC_41 V w) (hsC_41 V w) hH h dX2_add_27 (fun w2 H locs h hH => ?_)
    refine lv_aload_n (pc := 28) hx hb dX2_add_28 rfl (lv_at hl 1 rfl) ?_
    refine gC_X2_19_9 (pc := 29) X hH dX2_add_29 ?_
    refine lv_iload (pc := 32) hx hb dX2_add_32 (lv_at hl 0 rfl) ?_
    refine lv_iload_n (pc := 34) hx hb dX2_add_34 rfl (lv_at hl 3 rfl) ?_
    refine r_st (pc := 35) X (heC_42 V w2) (hsC_42 V w2) hH h dX2_add_35 (fun w3 H locs h hH => ?_)
    refine lv_aload_n (pc := 36) hx hb dX2_add_36 rfl (lv_at hl 1 rfl) ?_
    refine gC_X2_22_9 (pc := 37) X hH dX2_add_37 ?_
    refine lv_iload (pc := 40) hx hb dX2_add_40 (lv_at hl 0 rfl) ?_
    refine lv_lload_n (pc := 42) hx hb dX2_add_42 rfl (lv_at hl 4 rfl) ?_
    refine r_sl (pc := 43) X (heC_43 V w3) (hsC_43 V w3) hH h dX2_add_43 (fun w4 H locs h hH => ?_)
    refine lv_aload_n (pc := 44) hx hb dX2_add_44 rfl (lv_at hl 1 rfl) ?_
    refine gC_X2_26_9 (pc := 45) X hH dX2_add_45 ?_
    refine lv_iload (pc := 48) hx hb dX2_add_48 (lv_at hl 0 rfl) ?_
    refine lv_iload (pc := 50) hx hb dX2_add_50 (lv_at hl 5 rfl) ?_
    refine r_st (pc := 52) X (heC_44 V w4) (hsC_44 V w4) hH h dX2_add_52 (fun w5 H locs h hH => ?_)
    refine lv_aload_n (pc := 53) hx hb dX2_add_53 rfl (lv_at hl 1 rfl) ?_
    refine gC_X2_29_9 (pc := 54) X hH dX2_add_54 ?_
    refine lv_iload (pc := 57) hx hb dX2_add_57 (lv_at hl 0 rfl) ?_
    refine lv_iload (pc := 59) hx hb dX2_add_59 (lv_at hl 6 rfl) ?_
    refine r_st (pc := 61) X (heC_45 V w5) (hsC_45 V w5) hH h dX2_add_61 (fun w6 H locs h hH => ?_)
    refine lv_aload_n (pc := 62) hx hb dX2_add_62 rfl (lv_at hl 1 rfl) ?_
    refine lv_dup (pc := 63) hx hb dX2_add_63 rfl ?_
    refine gC_X2_32_9 (pc := 64) X hH dX2_add_64 ?_
    refine lv_iconst (pc := 67) (v := 1) hx hb dX2_add_67 (by decide) ?_
    refine lv_iadd (pc := 68) hx hb dX2_add_68 ?_
    refine pC_X2_32_9 (pc := 69) X hH h dX2_add_69 (fun w7 H locs h hH => ?_)
    exact kX2_add_72 X   h hH (lv_sub hl [] rfl)
def eX2_add (N : Nat) : Nat → Wd → Int32 → Int32 → Int64 → Int32 → Int32 → Option (Wd)
  | 0 => fun _ _ _ _ _ _ => none
  | d + 1 => fun w x1 x2 x3 x5 x6 => bX2_add_0 N d  w x1 x2 x3 x5 x6
set_option maxHeartbeats 4000000 in
set_option maxRecDepth 20000 in
theorem mX2_add {l : Launch} {V : Ev} {N d : Nat} {w : Wd} {x1 : Int32} {x2 : Int32} {x3 : Int64} {x5 : Int32} {x6 : Int32} {z : Wd} (h : eX2_add N d w x1 x2 x3 x5 x6 = some z) : MetV l V (cC V) (AC V) yX2_add cX2_add 8 none d [.ref (V.2.2 9), .int x1, .int x2, .long x3, .int x5, .int x6] w z := by
  cases d with
  | zero => exact c_none h
  | succ d =>
    refine Met.ofW (cc := cX2_add) (maxL := 8) (ret := none) (by decide) rfl ?_
    intro p e s m args below meth c s₁ B hml hv
    obtain ⟨rfl, hP, hD, hK⟩ := hv
    have hts := atoms_spec (ws := .code yX2_add cX2_add 8 none :: gG) B.pre
    have X : CX V p s m ([.ref (V.2.2 9), .int x1, .int x2, .long x3, .int x5, .int x6] : List Value).toArray meth c cX2_add 8 RX2 none := ⟨B.exec, B.bytes, hml, findClass_of_methodNamed B.named, fun w hw => hts w (List.mem_cons_of_mem _ hw), B.returns, B.notSynchronized, hK⟩
    have hl := lv_entry ([.ref (V.2.2 9), .int x1, .int x2, .long x3, .int x5, .int x6] : List Value) (n := 8) (Nat.le_of_ble_eq_true rfl)
    rw [lg_entry_eq]
    generalize (lg_sl ([.ref (V.2.2 9), .int x1, .int x2, .long x3, .int x5, .int x6] : List Value) ++ List.replicate (8 - (lg_sl ([.ref (V.2.2 9), .int x1, .int x2, .long x3, .int x5, .int x6] : List Value)).length) Slot.unset).toArray = ls at hl ⊢
    have hl : lv_has ls 8 [(0, .ref (V.2.2 9)), (1, .int x1), (2, .int x2), (3, .long x3), (5, .int x5), (6, .int x6)] := hl
    exact kX2_add_0 (N := N) X  h ⟨hP, hD, va_S.rf⟩ hl
theorem dX1_tellOf_0 : decode cX1_tellOf 0 = .ok (.aload_n 0, 1) := by decide +kernel
theorem dX1_tellOf_1 : decode cX1_tellOf 1 = .ok (.getfield 45, 3) := by decide +kernel
theorem dX1_tellOf_4 : decode cX1_tellOf 4 = .ok (.getfield 82, 3) := by decide +kernel
theorem dX1_tellOf_7 : decode cX1_tellOf 7 = .ok (.istore_n 3, 1) := by decide +kernel
theorem dX1_tellOf_8 : decode cX1_tellOf 8 = .ok (.iload_n 1, 1) := by decide +kernel
theorem dX1_tellOf_9 : decode cX1_tellOf 9 = .ok (.iload_n 2, 1) := by decide +kernel
theorem dX1_tellOf_10 : decode cX1_tellOf 10 = .ok (.if_icmp .ne 8, 3) := by decide +kernel
theorem dX1_tellOf_13 : decode cX1_tellOf 13 = .ok (.bipush 9, 2) := by decide +kernel
theorem dX1_tellOf_15 : decode cX1_tellOf 15 = .ok (.goto 5, 3) := by decide +kernel
theorem dX1_tellOf_18 : decode cX1_tellOf 18 = .ok (.bipush 8, 2) := by decide +kernel
theorem dX1_tellOf_20 : decode cX1_tellOf 20 = .ok (.istore 4, 2) := by decide +kernel
theorem dX1_tellOf_22 : decode cX1_tellOf 22 = .ok (.iload 4, 2) := by decide +kernel
theorem dX1_tellOf_24 : decode cX1_tellOf 24 = .ok (.istore 5, 2) := by decide +kernel
theorem dX1_tellOf_26 : decode cX1_tellOf 26 = .ok (.iload 5, 2) := by decide +kernel
theorem dX1_tellOf_28 : decode cX1_tellOf 28 = .ok (.aload_n 0, 1) := by decide +kernel
theorem dX1_tellOf_29 : decode cX1_tellOf 29 = .ok (.getfield 99, 3) := by decide +kernel
theorem dX1_tellOf_32 : decode cX1_tellOf 32 = .ok (.if_icmp .ge 152, 3) := by decide +kernel
theorem dX1_tellOf_35 : decode cX1_tellOf 35 = .ok (.aload_n 0, 1) := by decide +kernel
theorem dX1_tellOf_36 : decode cX1_tellOf 36 = .ok (.getfield 12, 3) := by decide +kernel
theorem dX1_tellOf_39 : decode cX1_tellOf 39 = .ok (.getfield 58, 3) := by decide +kernel
theorem dX1_tellOf_42 : decode cX1_tellOf 42 = .ok (.bipush 60, 2) := by decide +kernel
theorem dX1_tellOf_44 : decode cX1_tellOf 44 = .ok (.if_icmp .ge 140, 3) := by decide +kernel
theorem dX1_tellOf_47 : decode cX1_tellOf 47 = .ok (.aload_n 0, 1) := by decide +kernel
theorem dX1_tellOf_48 : decode cX1_tellOf 48 = .ok (.getfield 45, 3) := by decide +kernel
theorem dX1_tellOf_51 : decode cX1_tellOf 51 = .ok (.iload_n 3, 1) := by decide +kernel
theorem dX1_tellOf_52 : decode cX1_tellOf 52 = .ok (.putfield 82, 3) := by decide +kernel
theorem dX1_tellOf_55 : decode cX1_tellOf 55 = .ok (.aload_n 0, 1) := by decide +kernel
theorem dX1_tellOf_56 : decode cX1_tellOf 56 = .ok (.getfield 45, 3) := by decide +kernel
theorem dX1_tellOf_59 : decode cX1_tellOf 59 = .ok (.getfield 114, 3) := by decide +kernel
theorem dX1_tellOf_62 : decode cX1_tellOf 62 = .ok (.iload 5, 2) := by decide +kernel
theorem dX1_tellOf_64 : decode cX1_tellOf 64 = .ok (.iaload, 1) := by decide +kernel
theorem dX1_tellOf_65 : decode cX1_tellOf 65 = .ok (.aload_n 0, 1) := by decide +kernel
theorem dX1_tellOf_66 : decode cX1_tellOf 66 = .ok (.getfield 45, 3) := by decide +kernel
theorem dX1_tellOf_69 : decode cX1_tellOf 69 = .ok (.getfield 114, 3) := by decide +kernel
theorem dX1_tellOf_72 : decode cX1_tellOf 72 = .ok (.aload_n 0, 1) := by decide +kernel
theorem dX1_tellOf_73 : decode cX1_tellOf 73 = .ok (.getfield 108, 3) := by decide +kernel
theorem dX1_tellOf_76 : decode cX1_tellOf 76 = .ok (.iaload, 1) := by decide +kernel
theorem dX1_tellOf_77 : decode cX1_tellOf 77 = .ok (.if_icmp .ne 101, 3) := by decide +kernel
theorem dX1_tellOf_80 : decode cX1_tellOf 80 = .ok (.aload_n 0, 1) := by decide +kernel
theorem dX1_tellOf_81 : decode cX1_tellOf 81 = .ok (.getfield 54, 3) := by decide +kernel
theorem dX1_tellOf_84 : decode cX1_tellOf 84 = .ok (.iload 5, 2) := by decide +kernel
theorem dX1_tellOf_86 : decode cX1_tellOf 86 = .ok (.aload_n 0, 1) := by decide +kernel
theorem dX1_tellOf_87 : decode cX1_tellOf 87 = .ok (.getfield 108, 3) := by decide +kernel
theorem dX1_tellOf_90 : decode cX1_tellOf 90 = .ok (.invokevirtual 117, 3) := by decide +kernel
theorem dX1_tellOf_93 : decode cX1_tellOf 93 = .ok (.ifCond .eq 85, 3) := by decide +kernel
theorem dX1_tellOf_96 : decode cX1_tellOf 96 = .ok (.aload_n 0, 1) := by decide +kernel
theorem dX1_tellOf_97 : decode cX1_tellOf 97 = .ok (.invokevirtual 120, 3) := by decide +kernel
theorem dX1_tellOf_100 : decode cX1_tellOf 100 = .ok (.aload_n 0, 1) := by decide +kernel
theorem dX1_tellOf_101 : decode cX1_tellOf 101 = .ok (.iload 5, 2) := by decide +kernel
theorem dX1_tellOf_103 : decode cX1_tellOf 103 = .ok (.invokevirtual 123, 3) := by decide +kernel
theorem dX1_tellOf_106 : decode cX1_tellOf 106 = .ok (.istore 6, 2) := by decide +kernel
theorem dX1_tellOf_108 : decode cX1_tellOf 108 = .ok (.aload_n 0, 1) := by decide +kernel
theorem dX1_tellOf_109 : decode cX1_tellOf 109 = .ok (.getfield 28, 3) := by decide +kernel
theorem dX1_tellOf_112 : decode cX1_tellOf 112 = .ok (.iconst (-1), 1) := by decide +kernel
theorem dX1_tellOf_113 : decode cX1_tellOf 113 = .ok (.invokestatic 127, 3) := by decide +kernel
theorem dX1_tellOf_116 : decode cX1_tellOf 116 = .ok (.aload_n 0, 1) := by decide +kernel
theorem dX1_tellOf_117 : decode cX1_tellOf 117 = .ok (.iload 6, 2) := by decide +kernel
theorem dX1_tellOf_119 : decode cX1_tellOf 119 = .ok (.invokevirtual 133, 3) := by decide +kernel
theorem dX1_tellOf_122 : decode cX1_tellOf 122 = .ok (.istore 7, 2) := by decide +kernel
theorem dX1_tellOf_124 : decode cX1_tellOf 124 = .ok (.iload 7, 2) := by decide +kernel
theorem dX1_tellOf_126 : decode cX1_tellOf 126 = .ok (.bipush (-4), 2) := by decide +kernel
theorem dX1_tellOf_128 : decode cX1_tellOf 128 = .ok (.if_icmp .ne 8, 3) := by decide +kernel
theorem dX1_tellOf_131 : decode cX1_tellOf 131 = .ok (.bipush (-4), 2) := by decide +kernel
theorem dX1_tellOf_133 : decode cX1_tellOf 133 = .ok (.goto 11, 3) := by decide +kernel
theorem dX1_tellOf_136 : decode cX1_tellOf 136 = .ok (.aload_n 0, 1) := by decide +kernel
theorem dX1_tellOf_137 : decode cX1_tellOf 137 = .ok (.aload_n 0, 1) := by decide +kernel
theorem dX1_tellOf_138 : decode cX1_tellOf 138 = .ok (.getfield 105, 3) := by decide +kernel
theorem dX1_tellOf_141 : decode cX1_tellOf 141 = .ok (.invokevirtual 133, 3) := by decide +kernel
theorem dX1_tellOf_144 : decode cX1_tellOf 144 = .ok (.istore 8, 2) := by decide +kernel
theorem dX1_tellOf_146 : decode cX1_tellOf 146 = .ok (.iload 8, 2) := by decide +kernel
theorem dX1_tellOf_148 : decode cX1_tellOf 148 = .ok (.bipush (-4), 2) := by decide +kernel
theorem dX1_tellOf_150 : decode cX1_tellOf 150 = .ok (.if_icmp .ne 5, 3) := by decide +kernel
theorem dX1_tellOf_153 : decode cX1_tellOf 153 = .ok (.iconst 0, 1) := by decide +kernel
theorem dX1_tellOf_154 : decode cX1_tellOf 154 = .ok (.ireturn, 1) := by decide +kernel
theorem dX1_tellOf_155 : decode cX1_tellOf 155 = .ok (.aload_n 0, 1) := by decide +kernel
theorem dX1_tellOf_156 : decode cX1_tellOf 156 = .ok (.getfield 12, 3) := by decide +kernel
theorem dX1_tellOf_159 : decode cX1_tellOf 159 = .ok (.iload_n 1, 1) := by decide +kernel
theorem dX1_tellOf_160 : decode cX1_tellOf 160 = .ok (.iload_n 2, 1) := by decide +kernel
theorem dX1_tellOf_161 : decode cX1_tellOf 161 = .ok (.aload_n 0, 1) := by decide +kernel
theorem dX1_tellOf_162 : decode cX1_tellOf 162 = .ok (.getfield 45, 3) := by decide +kernel
theorem dX1_tellOf_165 : decode cX1_tellOf 165 = .ok (.getfield 136, 3) := by decide +kernel
theorem dX1_tellOf_168 : decode cX1_tellOf 168 = .ok (.iload 5, 2) := by decide +kernel
theorem dX1_tellOf_170 : decode cX1_tellOf 170 = .ok (.laload, 1) := by decide +kernel
theorem dX1_tellOf_171 : decode cX1_tellOf 171 = .ok (.iload 7, 2) := by decide +kernel
theorem dX1_tellOf_173 : decode cX1_tellOf 173 = .ok (.iload 8, 2) := by decide +kernel
theorem dX1_tellOf_175 : decode cX1_tellOf 175 = .ok (.invokevirtual 140, 3) := by decide +kernel
theorem dX1_tellOf_178 : decode cX1_tellOf 178 = .ok (.iinc 5 1, 3) := by decide +kernel
theorem dX1_tellOf_181 : decode cX1_tellOf 181 = .ok (.goto (-155), 3) := by decide +kernel
theorem dX1_tellOf_184 : decode cX1_tellOf 184 = .ok (.iconst 1, 1) := by decide +kernel
theorem dX1_tellOf_185 : decode cX1_tellOf 185 = .ok (.ireturn, 1) := by decide +kernel
def bX1_tellOf_184 (N d : Nat)   (w : Wd)  : Option (Wd × Int32) :=
  some (w, 1)
set_option maxHeartbeats 4000000 in
theorem kX1_tellOf_184 {V : Ev} {p : Program} {l : Launch} {e : Env} {N d : Nat} {s : State} {m : MethodId} {args : Array Value} {below : List Frame} {meth : Method} {c : Code} {z : Wd × Int32} (X : CX V p s m args meth c cX1_tellOf 9 RX1 (some .boolean))    {w : Wd}  {H : Heap} {locs : List Loc} {ls : Array Slot} (h : bX1_tellOf_184 N d   w  = some z) (hH : wH V (cC V) (AC V) s w H locs) (hl : lv_has ls 9 []) : W p l e (rmD (d + 1)) s m args below meth c H locs 0 0 (MQ below (CtI V (cC V) (AC V) z) args s 0 0 (AC V)) (F0 m 184 ls []) := by
  unfold bX1_tellOf_184 at h
  obtain ⟨hx, hb, hml, hown, hg, hrt, hlk, hK⟩ := id X
  refine lv_iconst (pc := 184) (v := 1) hx hb dX1_tellOf_184 (by decide) ?_
  exact r_zretk (pc := 185) (by decide) X hH h dX1_tellOf_185
def bX1_tellOf_178 (N d : Nat)  (rec26 : Wd → Int32 → Int32 → Int32 → Int32 → Option (Wd × Int32)) (w : Wd) (x1 : Int32) (x2 : Int32) (x3 : Int32) (x5 : Int32) : Option (Wd × Int32) :=
  c_nm (x5 + 1) fun x5_5 =>
  rec26 w x1 x2 x3 x5_5
set_option maxHeartbeats 4000000 in
theorem kX1_tellOf_178 {V : Ev} {p : Program} {l : Launch} {e : Env} {N d : Nat} {s : State} {m : MethodId} {args : Array Value} {below : List Frame} {meth : Method} {c : Code} {z : Wd × Int32} (X : CX V p s m args meth c cX1_tellOf 9 RX1 (some .boolean))   {rec26 : Wd → Int32 → Int32 → Int32 → Int32 → Option (Wd × Int32)} (hr26 : ∀ (w : Wd) (x1 : Int32) (x2 : Int32) (x3 : Int32) (x5 : Int32) (H : Heap) (locs : List Loc) (ls : Array Slot), rec26 w x1 x2 x3 x5 = some z → wH V (cC V) (AC V) s w H locs → lv_has ls 9 [(0, .ref (V.2.2 5)), (1, .int x1), (2, .int x2), (3, .int x3), (5, .int x5)] → W p l e (rmD (d + 1)) s m args below meth c H locs 0 0 (MQ below (CtI V (cC V) (AC V) z) args s 0 0 (AC V)) (F0 m 26 ls [])) {w : Wd} {x1 : Int32} {x2 : Int32} {x3 : Int32} {x5 : Int32} {H : Heap} {locs : List Loc} {ls : Array Slot} (h : bX1_tellOf_178 N d  rec26 w x1 x2 x3 x5 = some z) (hH : wH V (cC V) (AC V) s w H locs) (hl : lv_has ls 9 [(0, .ref (V.2.2 5)), (1, .int x1), (2, .int x2), (3, .int x3), (5, .int x5)]) : W p l e (rmD (d + 1)) s m args below meth c H locs 0 0 (MQ below (CtI V (cC V) (AC V) z) args s 0 0 (AC V)) (F0 m 178 ls []) := by
  unfold bX1_tellOf_178 at h
  obtain ⟨hx, hb, hml, hown, hg, hrt, hlk, hK⟩ := id X
  obtain ⟨x5_5, ex5_5, h⟩ := c_nm_ex h
  refine lv_iinc (pc := 178) (v := x5_5) (lv' := [(5, .int x5_5), (0, .ref (V.2.2 5)), (1, .int x1), (2, .int x2), (3, .int x3)]) hx hb dX1_tellOf_178 hl (k := 4) rfl (by rw [← ex5_5]; rfl) (by decide) rfl (fun ls hl => ?_)
  refine lv_goto (pc := 181) (tgt := 26) hx hb dX1_tellOf_181 (by decide) ?_
  exact hr26 _ _ _ _ _ _ _ _ h hH (lv_sub hl [1, 2, 3, 4, 0] rfl)
def bX1_tellOf_144 (N d : Nat)  (rec26 : Wd → Int32 → Int32 → Int32 → Int32 → Option (Wd × Int32)) (w : Wd) (x1 : Int32) (x2 : Int32) (x3 : Int32) (x5 : Int32) (x7 : Int32) (y0 : Int32) : Option (Wd × Int32) :=
  if y0 = (-4) then (
    some (w, 0)
  ) else (
    c_ll w 55 158 x5 fun v16 =>
    c_cv (eX2_add N d w x1 x2 v16 x7 y0) fun w17 =>
    bX1_tellOf_178 N d  rec26 w17 x1 x2 x3 x5
  )
set_option maxHeartbeats 4000000 in
theorem kX1_tellOf_144 {V : Ev} {p : Program} {l : Launch} {e : Env} {N d : Nat} {s : State} {m : MethodId} {args : Array Value} {below : List Frame} {meth : Method} {c : Code} {z : Wd × Int32} (X : CX V p s m args meth c cX1_tellOf 9 RX1 (some .boolean))   {rec26 : Wd → Int32 → Int32 → Int32 → Int32 → Option (Wd × Int32)} (hr26 : ∀ (w : Wd) (x1 : Int32) (x2 : Int32) (x3 : Int32) (x5 : Int32) (H : Heap) (locs : List Loc) (ls : Array Slot), rec26 w x1 x2 x3 x5 = some z → wH V (cC V) (AC V) s w H locs → lv_has ls 9 [(0, .ref (V.2.2 5)), (1, .int x1), (2, .int x2), (3, .int x3), (5, .int x5)] → W p l e (rmD (d + 1)) s m args below meth c H locs 0 0 (MQ below (CtI V (cC V) (AC V) z) args s 0 0 (AC V)) (F0 m 26 ls [])) {w : Wd} {x1 : Int32} {x2 : Int32} {x3 : Int32} {x5 : Int32} {x7 : Int32} {y0 : Int32} {H : Heap} {locs : List Loc} {ls : Array Slot} (h : bX1_tellOf_144 N d  rec26 w x1 x2 x3 x5 x7 y0 = some z) (hH : wH V (cC V) (AC V) s w H locs) (hl : lv_has ls 9 [(0, .ref (V.2.2 5)), (1, .int x1), (2, .int x2), (3, .int x3), (5, .int x5), (7, .int x7)]) : W p l e (rmD (d + 1)) s m args below meth c H locs 0 0 (MQ below (CtI V (cC V) (AC V) z) args s 0 0 (AC V)) (F0 m 144 ls [.int y0]) := by
  unfold bX1_tellOf_144 at h
  obtain ⟨hx, hb, hml, hown, hg, hrt, hlk, hK⟩ := id X
  refine lv_istore (pc := 144) (lv' := [(8, .int y0), (0, .ref (V.2.2 5)), (1, .int x1), (2, .int x2), (3, .int x3), (5, .int x5), (7, .int x7)]) hx hb dX1_tellOf_144 hl (by decide) rfl (fun ls hl => ?_)
  refine lv_iload (pc := 146) hx hb dX1_tellOf_146 (lv_at hl 0 rfl) ?_
  refine lv_bipush (pc := 148) (v := -4) hx hb dX1_tellOf_148 (by decide) ?_
  refine b_icmp_ne (pc := 150) (tgt := 155) hx hb h dX1_tellOf_150 (by decide) (fun h => ?_) (fun h => ?_)
  · refine lv_aload_n (pc := 155) hx hb dX1_tellOf_155 rfl (lv_at hl 1 rfl) ?_
    refine gC_X1_12_5 (pc := 156) X hH dX1_tellOf_156 ?_
    refine lv_iload_n (pc := 159) hx hb dX1_tellOf_159 rfl (lv_at hl 2 rfl) ?_
    refine lv_iload_n (pc := 160) hx hb dX1_tellOf_160 rfl (lv_at hl 3 rfl) ?_
    refine lv_aload_n (pc := 161) hx hb dX1_tellOf_161 rfl (lv_at hl 1 rfl) ?_
    refine gC_X1_45_5 (pc := 162) X hH dX1_tellOf_162 ?_
    refine gC_X1_136_10 (pc := 165) X hH dX1_tellOf_165 ?_
    refine lv_iload (pc := 168) hx hb dX1_tellOf_168 (lv_at hl 5 rfl) ?_
    refine r_ll (pc := 170) X (heC_51 V w) hH h dX1_tellOf_170 (fun v16 h => ?_)
    refine lv_iload (pc := 171) hx hb dX1_tellOf_171 (lv_at hl 6 rfl) ?_
    refine lv_iload (pc := 173) hx hb dX1_tellOf_173 (lv_at hl 0 rfl) ?_
    refine r_cvV (pc := 175) (As := [.int x1, .int x2, .long v16, .int x7, .int y0]) (rest := []) X hH (fun x hx => mX2_add hx) cw_X1_140 (heC_9 V w) rfl rfl rfl (Nat.le_of_ble_eq_true rfl) hl.1 h dX1_tellOf_175 (fun w17 H locs h hH => ?_)
    exact kX1_tellOf_178 X  hr26 h hH (lv_sub hl [1, 2, 3, 4, 5] rfl)
  · refine lv_iconst (pc := 153) (v := 0) hx hb dX1_tellOf_153 (by decide) ?_
    exact r_zretk (pc := 154) (by decide) X hH h dX1_tellOf_154
def bX1_tellOf_26 (N d : Nat)  (rec26 : Wd → Int32 → Int32 → Int32 → Int32 → Option (Wd × Int32)) (w : Wd) (x1 : Int32) (x2 : Int32) (x3 : Int32) (x5 : Int32) : Option (Wd × Int32) :=
  if (sI w 6) ≤ x5 then (
    bX1_tellOf_184 N d   w 
  ) else (
    if 60 ≤ (sI w 16) then (
      bX1_tellOf_184 N d   w 
    ) else (
      c_pi w 19 x3 fun w2 =>
      c_ld w2 50 158 x5 fun v3 =>
      c_ld w2 50 158 (sI w2 8) fun v4 =>
      if v3 = v4 then (
        c_cl (eX9_unify N d w2 x5 (sI w2 8)) fun w6 v7 =>
        if v7 = 0 then (
          bX1_tellOf_178 N d  rec26 w6 x1 x2 x3 x5
        ) else (
          c_cv (eX1_numberVariables N d w6 ) fun w8 =>
          c_cl (eX1_copyReplaced N d w8 x5) fun w9 v10 =>
          c_cv (eJ7_fill_53178_r33 N d w9 (-1)) fun w11 =>
          c_cl (eX1_build N d w11 v10) fun w12 v13 =>
          if v13 = (-4) then (
            bX1_tellOf_144 N d  rec26 w12 x1 x2 x3 x5 v13 (-4)
          ) else (
            c_cl (eX1_build N d w12 (sI w12 7)) fun w14 v15 =>
            bX1_tellOf_144 N d  rec26 w14 x1 x2 x3 x5 v13 v15
          )
        )
      ) else (
        bX1_tellOf_178 N d  rec26 w2 x1 x2 x3 x5
      )
    )
  )
set_option maxHeartbeats 4000000 in
theorem kX1_tellOf_26 {V : Ev} {p : Program} {l : Launch} {e : Env} {N d : Nat} {s : State} {m : MethodId} {args : Array Value} {below : List Frame} {meth : Method} {c : Code} {z : Wd × Int32} (X : CX V p s m args meth c cX1_tellOf 9 RX1 (some .boolean))   {rec26 : Wd → Int32 → Int32 → Int32 → Int32 → Option (Wd × Int32)} (hr26 : ∀ (w : Wd) (x1 : Int32) (x2 : Int32) (x3 : Int32) (x5 : Int32) (H : Heap) (locs : List Loc) (ls : Array Slot), rec26 w x1 x2 x3 x5 = some z → wH V (cC V) (AC V) s w H locs → lv_has ls 9 [(0, .ref (V.2.2 5)), (1, .int x1), (2, .int x2), (3, .int x3), (5, .int x5)] → W p l e (rmD (d + 1)) s m args below meth c H locs 0 0 (MQ below (CtI V (cC V) (AC V) z) args s 0 0 (AC V)) (F0 m 26 ls [])) {w : Wd} {x1 : Int32} {x2 : Int32} {x3 : Int32} {x5 : Int32} {H : Heap} {locs : List Loc} {ls : Array Slot} (h : bX1_tellOf_26 N d  rec26 w x1 x2 x3 x5 = some z) (hH : wH V (cC V) (AC V) s w H locs) (hl : lv_has ls 9 [(0, .ref (V.2.2 5)), (1, .int x1), (2, .int x2), (3, .int x3), (5, .int x5)]) : W p l e (rmD (d + 1)) s m args below meth c H locs 0 0 (MQ below (CtI V (cC V) (AC V) z) args s 0 0 (AC V)) (F0 m 26 ls []) := by
  unfold bX1_tellOf_26 at h
  obtain ⟨hx, hb, hml, hown, hg, hrt, hlk, hK⟩ := id X
  refine lv_iload (pc := 26) hx hb dX1_tellOf_26 (lv_at hl 4 rfl) ?_
  refine lv_aload_n (pc := 28) hx hb dX1_tellOf_28 rfl (lv_at hl 0 rfl) ?_
  refine gC_X1_99_5 (pc := 29) X hH dX1_tellOf_29 ?_
  refine b_icmp_ge (pc := 32) (tgt := 184) hx hb h dX1_tellOf_32 (by decide) (fun h => ?_) (fun h => ?_)
  · exact kX1_tellOf_184 X   h hH (lv_sub hl [] rfl)
  · refine lv_aload_n (pc := 35) hx hb dX1_tellOf_35 rfl (lv_at hl 0 rfl) ?_
    refine gC_X1_12_5 (pc := 36) X hH dX1_tellOf_36 ?_
    refine gC_X1_58_9 (pc := 39) X hH dX1_tellOf_39 ?_
    refine lv_bipush (pc := 42) (v := 60) hx hb dX1_tellOf_42 (by decide) ?_
    refine b_icmp_ge (pc := 44) (tgt := 184) hx hb h dX1_tellOf_44 (by decide) (fun h => ?_) (fun h => ?_)
    · exact kX1_tellOf_184 X   h hH (lv_sub hl [] rfl)
    · refine lv_aload_n (pc := 47) hx hb dX1_tellOf_47 rfl (lv_at hl 0 rfl) ?_
      refine gC_X1_45_5 (pc := 48) X hH dX1_tellOf_48 ?_
      refine lv_iload_n (pc := 51) hx hb dX1_tellOf_51 rfl (lv_at hl 3 rfl) ?_
      refine pC_X1_82_10 (pc := 52) X hH h dX1_tellOf_52 (fun w2 H locs h hH => ?_)
      refine lv_aload_n (pc := 55) hx hb dX1_tellOf_55 rfl (lv_at hl 0 rfl) ?_
      refine gC_X1_45_5 (pc := 56) X hH dX1_tellOf_56 ?_
      refine gC_X1_114_10 (pc := 59) X hH dX1_tellOf_59 ?_
      refine lv_iload (pc := 62) hx hb dX1_tellOf_62 (lv_at hl 4 rfl) ?_
      refine r_ld (pc := 64) X (heC_46 V w2) hH h dX1_tellOf_64 (fun v3 h => ?_)
      refine lv_aload_n (pc := 65) hx hb dX1_tellOf_65 rfl (lv_at hl 0 rfl) ?_
      refine gC_X1_45_5 (pc := 66) X hH dX1_tellOf_66 ?_
      refine gC_X1_114_10 (pc := 69) X hH dX1_tellOf_69 ?_
      refine lv_aload_n (pc := 72) hx hb dX1_tellOf_72 rfl (lv_at hl 0 rfl) ?_
      refine gC_X1_108_5 (pc := 73) X hH dX1_tellOf_73 ?_
      refine r_ld (pc := 76) X (heC_46 V w2) hH h dX1_tellOf_76 (fun v4 h => ?_)
      refine b_icmp_ne (pc := 77) (tgt := 178) hx hb h dX1_tellOf_77 (by decide) (fun h => ?_) (fun h => ?_)
      · exact kX1_tellOf_178 X  hr26 h hH (lv_sub hl [0, 1, 2, 3, 4] rfl)
      · refine lv_aload_n (pc := 80) hx hb dX1_tellOf_80 rfl (lv_at hl 0 rfl) ?_
        refine gC_X1_54_5 (pc := 81) X hH dX1_tellOf_81 ?_
        refine lv_iload (pc := 84) hx hb dX1_tellOf_84 (lv_at hl 4 rfl) ?_
        refine lv_aload_n (pc := 86) hx hb dX1_tellOf_86 rfl (lv_at hl 0 rfl) ?_
        refine gC_X1_108_5 (pc := 87) X hH dX1_tellOf_87 ?_
        refine r_cvI (pc := 90) (As := [.int x5, .int (sI w2 8)]) (rest := []) X hH (fun x hx => mX9_unify hx) cw_X1_117 (heC_11 V w2) rfl rfl rfl (Nat.le_of_ble_eq_true rfl) hl.1 h dX1_tellOf_90 (fun w6 v7 H locs h hH => ?_)
        refine b_if_eq (pc := 93) (tgt := 178) hx hb h dX1_tellOf_93 (by decide) (fun h => ?_) (fun h => ?_)
        · exact kX1_tellOf_178 X  hr26 h hH (lv_sub hl [0, 1, 2, 3, 4] rfl)
        · refine lv_aload_n (pc := 96) hx hb dX1_tellOf_96 rfl (lv_at hl 0 rfl) ?_
          refine r_cvV (pc := 97) (As := []) (rest := []) X hH (fun x hx => mX1_numberVariables hx) cw_X1_120 (heC_5 V w6) rfl rfl rfl (Nat.le_of_ble_eq_true rfl) hl.1 h dX1_tellOf_97 (fun w8 H locs h hH => ?_)
          refine lv_aload_n (pc := 100) hx hb dX1_tellOf_100 rfl (lv_at hl 0 rfl) ?_
          refine lv_iload (pc := 101) hx hb dX1_tellOf_101 (lv_at hl 4 rfl) ?_
          refine r_cvI (pc := 103) (As := [.int x5]) (rest := []) X hH (fun x hx => mX1_copyReplaced hx) cw_X1_123 (heC_5 V w8) rfl rfl rfl (Nat.le_of_ble_eq_true rfl) hl.1 h dX1_tellOf_103 (fun w9 v10 H locs h hH => ?_)
          refine lv_istore (pc := 106) (lv' := [(6, .int v10), (0, .ref (V.2.2 5)), (1, .int x1), (2, .int x2), (3, .int x3), (5, .int x5)]) hx hb dX1_tellOf_106 hl (by decide) rfl (fun ls hl => ?_)
          refine lv_aload_n (pc := 108) hx hb dX1_tellOf_108 rfl (lv_at hl 1 rfl) ?_
          refine gC_X1_28_5 (pc := 109) X hH dX1_tellOf_109 ?_
          refine lv_iconst (pc := 112) (v := -1) hx hb dX1_tellOf_112 (by decide) ?_
          refine r_csV (pc := 113) (As := [.ref (V.2.2 32), .int (-1)]) (rest := []) X hH (fun x hx => mJ7_fill_53178_r33 hx) cs_X1_127 rfl rfl (Nat.le_of_ble_eq_true rfl) hl.1 h dX1_tellOf_113 (fun w11 H locs h hH => ?_)
          refine lv_aload_n (pc := 116) hx hb dX1_tellOf_116 rfl (lv_at hl 1 rfl) ?_
          refine lv_iload (pc := 117) hx hb dX1_tellOf_117 (lv_at hl 0 rfl) ?_
          refine r_cvI (pc := 119) (As := [.int v10]) (rest := []) X hH (fun x hx => mX1_build hx) cw_X1_133 (heC_5 V w11) rfl rfl rfl (Nat.le_of_ble_eq_true rfl) hl.1 h dX1_tellOf_119 (fun w12 v13 H locs h hH => ?_)
          refine lv_istore (pc := 122) (lv' := [(7, .int v13), (6, .int v10), (0, .ref (V.2.2 5)), (1, .int x1), (2, .int x2), (3, .int x3), (5, .int x5)]) hx hb dX1_tellOf_122 hl (by decide) rfl (fun ls hl => ?_)
          refine lv_iload (pc := 124) hx hb dX1_tellOf_124 (lv_at hl 0 rfl) ?_
          refine lv_bipush (pc := 126) (v := -4) hx hb dX1_tellOf_126 (by decide) ?_
          refine b_icmp_ne (pc := 128) (tgt := 136) hx hb h dX1_tellOf_128 (by decide) (fun h => ?_) (fun h => ?_)
          · refine lv_aload_n (pc := 136) hx hb dX1_tellOf_136 rfl (lv_at hl 2 rfl) ?_
            refine lv_aload_n (pc := 137) hx hb dX1_tellOf_137 rfl (lv_at hl 2 rfl) ?_
            refine gC_X1_105_5 (pc := 138) X hH dX1_tellOf_138 ?_
            refine r_cvI (pc := 141) (As := [.int (sI w12 7)]) (rest := []) X hH (fun x hx => mX1_build hx) cw_X1_133 (heC_5 V w12) rfl rfl rfl (Nat.le_of_ble_eq_true rfl) hl.1 h dX1_tellOf_141 (fun w14 v15 H locs h hH => ?_)
            exact kX1_tellOf_144 X  hr26 h hH (lv_sub hl [2, 3, 4, 5, 6, 0] rfl)
          · refine lv_bipush (pc := 131) (v := -4) hx hb dX1_tellOf_131 (by decide) ?_
            refine lv_goto (pc := 133) (tgt := 144) hx hb dX1_tellOf_133 (by decide) ?_
            exact kX1_tellOf_144 X  hr26 h hH (lv_sub hl [2, 3, 4, 5, 6, 0] rfl)
def fX1_tellOf_26 (N d : Nat)   : Nat → Wd → Int32 → Int32 → Int32 → Int32 → Option (Wd × Int32)
  | 0 => fun _ _ _ _ _ => none
  | n + 1 => fun w x1 x2 x3 x5 => bX1_tellOf_26 N d   (fX1_tellOf_26 N d   n) w x1 x2 x3 x5
theorem lX1_tellOf_26 {V : Ev} {p : Program} {l : Launch} {e : Env} {N d : Nat} {s : State} {m : MethodId} {args : Array Value} {below : List Frame} {meth : Method} {c : Code} {z : Wd × Int32} (X : CX V p s m args meth c cX1_tellOf 9 RX1 (some .boolean))    (n : Nat) {w : Wd} {x1 : Int32} {x2 : Int32} {x3 : Int32} {x5 : Int32} {H : Heap} {locs : List Loc} {ls : Array Slot} (h : fX1_tellOf_26 N d   n w x1 x2 x3 x5 = some z) (hH : wH V (cC V) (AC V) s w H locs) (hl : lv_has ls 9 [(0, .ref (V.2.2 5)), (1, .int x1), (2, .int x2), (3, .int x3), (5, .int x5)]) : W p l e (rmD (d + 1)) s m args below meth c H locs 0 0 (MQ below (CtI V (cC V) (AC V) z) args s 0 0 (AC V)) (F0 m 26 ls []) := by
  induction n generalizing w x1 x2 x3 x5 H locs ls with
  | zero => exact c_none h
  | succ n ih => exact kX1_tellOf_26 (N := N) X  (fun _ _ _ _ _ _ _ _ h hH hl => ih h hH hl) h hH hl
def bX1_tellOf_20 (N d : Nat)   (w : Wd) (x1 : Int32) (x2 : Int32) (x3 : Int32) (y0 : Int32) : Option (Wd × Int32) :=
  fX1_tellOf_26 N d   N w x1 x2 x3 y0
set_option maxHeartbeats 4000000 in
theorem kX1_tellOf_20 {V : Ev} {p : Program} {l : Launch} {e : Env} {N d : Nat} {s : State} {m : MethodId} {args : Array Value} {below : List Frame} {meth : Method} {c : Code} {z : Wd × Int32} (X : CX V p s m args meth c cX1_tellOf 9 RX1 (some .boolean))    {w : Wd} {x1 : Int32} {x2 : Int32} {x3 : Int32} {y0 : Int32} {H : Heap} {locs : List Loc} {ls : Array Slot} (h : bX1_tellOf_20 N d   w x1 x2 x3 y0 = some z) (hH : wH V (cC V) (AC V) s w H locs) (hl : lv_has ls 9 [(0, .ref (V.2.2 5)), (1, .int x1), (2, .int x2), (3, .int x3)]) : W p l e (rmD (d + 1)) s m args below meth c H locs 0 0 (MQ below (CtI V (cC V) (AC V) z) args s 0 0 (AC V)) (F0 m 20 ls [.int y0]) := by
  unfold bX1_tellOf_20 at h
  obtain ⟨hx, hb, hml, hown, hg, hrt, hlk, hK⟩ := id X
  refine lv_istore (pc := 20) (lv' := [(4, .int y0), (0, .ref (V.2.2 5)), (1, .int x1), (2, .int x2), (3, .int x3)]) hx hb dX1_tellOf_20 hl (by decide) rfl (fun ls hl => ?_)
  refine lv_iload (pc := 22) hx hb dX1_tellOf_22 (lv_at hl 0 rfl) ?_
  refine lv_istore (pc := 24) (lv' := [(5, .int y0), (4, .int y0), (0, .ref (V.2.2 5)), (1, .int x1), (2, .int x2), (3, .int x3)]) hx hb dX1_tellOf_24 hl (by decide) rfl (fun ls hl => ?_)
  exact lX1_tellOf_26 X   N h hH (lv_sub hl [2, 3, 4, 5, 0] rfl)
def bX1_tellOf_0 (N d : Nat)   (w : Wd) (x1 : Int32) (x2 : Int32) : Option (Wd × Int32) :=
  c_nm (sI w 19) fun x3_1 =>
  if x1 = x2 then (
    bX1_tellOf_20 N d   w x1 x2 x3_1 9
  ) else (
    bX1_tellOf_20 N d   w x1 x2 x3_1 8
  )
set_option maxHeartbeats 4000000 in
theorem kX1_tellOf_0 {V : Ev} {p : Program} {l : Launch} {e : Env} {N d : Nat} {s : State} {m : MethodId} {args : Array Value} {below : List Frame} {meth : Method} {c : Code} {z : Wd × Int32} (X : CX V p s m args meth c cX1_tellOf 9 RX1 (some .boolean))    {w : Wd} {x1 : Int32} {x2 : Int32} {H : Heap} {locs : List Loc} {ls : Array Slot} (h : bX1_tellOf_0 N d   w x1 x2 = some z) (hH : wH V (cC V) (AC V) s w H locs) (hl : lv_has ls 9 [(0, .ref (V.2.2 5)), (1, .int x1), (2, .int x2)]) : W p l e (rmD (d + 1)) s m args below meth c H locs 0 0 (MQ below (CtI V (cC V) (AC V) z) args s 0 0 (AC V)) (F0 m 0 ls []) := by
  unfold bX1_tellOf_0 at h
  obtain ⟨hx, hb, hml, hown, hg, hrt, hlk, hK⟩ := id X
  refine lv_aload_n (pc := 0) hx hb dX1_tellOf_0 rfl (lv_at hl 0 rfl) ?_
  refine gC_X1_45_5 (pc := 1) X hH dX1_tellOf_1 ?_
  refine gC_X1_82_10 (pc := 4) X hH dX1_tellOf_4 ?_
  refine r_nmi h (fun x3_1 h => ?_)
  refine lv_istore_n (pc := 7) (lv' := [(3, .int x3_1), (0, .ref (V.2.2 5)), (1, .int x1), (2, .int x2)]) hx hb dX1_tellOf_7 rfl hl (by decide) rfl (fun ls hl => ?_)
  refine lv_iload_n (pc := 8) hx hb dX1_tellOf_8 rfl (lv_at hl 2 rfl) ?_
  refine lv_iload_n (pc := 9) hx hb dX1_tellOf_9 rfl (lv_at hl 3 rfl) ?_
  refine b_icmp_ne (pc := 10) (tgt := 18) hx hb h dX1_tellOf_10 (by decide) (fun h => ?_) (fun h => ?_)
  · refine lv_bipush (pc := 18) (v := 8) hx hb dX1_tellOf_18 (by decide) ?_
    exact kX1_tellOf_20 X   h hH (lv_sub hl [1, 2, 3, 0] rfl)
  · refine lv_bipush (pc := 13) (v := 9) hx hb dX1_tellOf_13 (by decide) ?_
    refine lv_goto (pc := 15) (tgt := 20) hx hb dX1_tellOf_15 (by decide) ?_
    exact kX1_tellOf_20 X   h hH (lv_sub hl [1, 2, 3, 0] rfl)
def eX1_tellOf (N : Nat) : Nat → Wd → Int32 → Int32 → Option (Wd × Int32)
  | 0 => fun _ _ _ => none
  | d + 1 => fun w x1 x2 => bX1_tellOf_0 N d  w x1 x2
set_option maxHeartbeats 4000000 in
set_option maxRecDepth 20000 in
theorem mX1_tellOf {l : Launch} {V : Ev} {N d : Nat} {w : Wd} {x1 : Int32} {x2 : Int32} {z : Wd × Int32} (h : eX1_tellOf N d w x1 x2 = some z) : MetI l V (cC V) (AC V) yX1_tellOf cX1_tellOf 9 (some .boolean) d [.ref (V.2.2 5), .int x1, .int x2] w z := by
  cases d with
  | zero => exact c_none h
  | succ d =>
    refine Met.ofW (cc := cX1_tellOf) (maxL := 9) (ret := (some .boolean)) (by decide) rfl ?_
    intro p e s m args below meth c s₁ B hml hv
    obtain ⟨rfl, hP, hD, hK⟩ := hv
    have hts := atoms_spec (ws := .code yX1_tellOf cX1_tellOf 9 (some .boolean) :: gG) B.pre
    have X : CX V p s m ([.ref (V.2.2 5), .int x1, .int x2] : List Value).toArray meth c cX1_tellOf 9 RX1 (some .boolean) := ⟨B.exec, B.bytes, hml, findClass_of_methodNamed B.named, fun w hw => hts w (List.mem_cons_of_mem _ hw), B.returns, B.notSynchronized, hK⟩
    have hl := lv_entry ([.ref (V.2.2 5), .int x1, .int x2] : List Value) (n := 9) (Nat.le_of_ble_eq_true rfl)
    rw [lg_entry_eq]
    generalize (lg_sl ([.ref (V.2.2 5), .int x1, .int x2] : List Value) ++ List.replicate (9 - (lg_sl ([.ref (V.2.2 5), .int x1, .int x2] : List Value)).length) Slot.unset).toArray = ls at hl ⊢
    have hl : lv_has ls 9 [(0, .ref (V.2.2 5)), (1, .int x1), (2, .int x2)] := hl
    exact kX1_tellOf_0 (N := N) X  h ⟨hP, hD, va_S.rf⟩ hl
theorem dX1_tellOfFirst_0 : decode cX1_tellOfFirst 0 = .ok (.aload_n 0, 1) := by decide +kernel
theorem dX1_tellOfFirst_1 : decode cX1_tellOfFirst 1 = .ok (.iload_n 1, 1) := by decide +kernel
theorem dX1_tellOfFirst_2 : decode cX1_tellOfFirst 2 = .ok (.invokevirtual 78, 3) := by decide +kernel
theorem dX1_tellOfFirst_5 : decode cX1_tellOfFirst 5 = .ok (.aload_n 0, 1) := by decide +kernel
theorem dX1_tellOfFirst_6 : decode cX1_tellOfFirst 6 = .ok (.getfield 45, 3) := by decide +kernel
theorem dX1_tellOfFirst_9 : decode cX1_tellOfFirst 9 = .ok (.getfield 82, 3) := by decide +kernel
theorem dX1_tellOfFirst_12 : decode cX1_tellOfFirst 12 = .ok (.istore_n 2, 1) := by decide +kernel
theorem dX1_tellOfFirst_13 : decode cX1_tellOfFirst 13 = .ok (.iconst 0, 1) := by decide +kernel
theorem dX1_tellOfFirst_14 : decode cX1_tellOfFirst 14 = .ok (.istore_n 3, 1) := by decide +kernel
theorem dX1_tellOfFirst_15 : decode cX1_tellOfFirst 15 = .ok (.iload_n 3, 1) := by decide +kernel
theorem dX1_tellOfFirst_16 : decode cX1_tellOfFirst 16 = .ok (.aload_n 0, 1) := by decide +kernel
theorem dX1_tellOfFirst_17 : decode cX1_tellOfFirst 17 = .ok (.getfield 41, 3) := by decide +kernel
theorem dX1_tellOfFirst_20 : decode cX1_tellOfFirst 20 = .ok (.getfield 62, 3) := by decide +kernel
theorem dX1_tellOfFirst_23 : decode cX1_tellOfFirst 23 = .ok (.if_icmp .ge 45, 3) := by decide +kernel
theorem dX1_tellOfFirst_26 : decode cX1_tellOfFirst 26 = .ok (.aload_n 0, 1) := by decide +kernel
theorem dX1_tellOfFirst_27 : decode cX1_tellOfFirst 27 = .ok (.getfield 45, 3) := by decide +kernel
theorem dX1_tellOfFirst_30 : decode cX1_tellOfFirst 30 = .ok (.iload_n 2, 1) := by decide +kernel
theorem dX1_tellOfFirst_31 : decode cX1_tellOfFirst 31 = .ok (.putfield 82, 3) := by decide +kernel
theorem dX1_tellOfFirst_34 : decode cX1_tellOfFirst 34 = .ok (.aload_n 0, 1) := by decide +kernel
theorem dX1_tellOfFirst_35 : decode cX1_tellOfFirst 35 = .ok (.getfield 41, 3) := by decide +kernel
theorem dX1_tellOfFirst_38 : decode cX1_tellOfFirst 38 = .ok (.getfield 67, 3) := by decide +kernel
theorem dX1_tellOfFirst_41 : decode cX1_tellOfFirst 41 = .ok (.iload_n 3, 1) := by decide +kernel
theorem dX1_tellOfFirst_42 : decode cX1_tellOfFirst 42 = .ok (.baload, 1) := by decide +kernel
theorem dX1_tellOfFirst_43 : decode cX1_tellOfFirst 43 = .ok (.ifCond .eq 19, 3) := by decide +kernel
theorem dX1_tellOfFirst_46 : decode cX1_tellOfFirst 46 = .ok (.aload_n 0, 1) := by decide +kernel
theorem dX1_tellOfFirst_47 : decode cX1_tellOfFirst 47 = .ok (.iload_n 3, 1) := by decide +kernel
theorem dX1_tellOfFirst_48 : decode cX1_tellOfFirst 48 = .ok (.invokevirtual 85, 3) := by decide +kernel
theorem dX1_tellOfFirst_51 : decode cX1_tellOfFirst 51 = .ok (.aload_n 0, 1) := by decide +kernel
theorem dX1_tellOfFirst_52 : decode cX1_tellOfFirst 52 = .ok (.iload_n 1, 1) := by decide +kernel
theorem dX1_tellOfFirst_53 : decode cX1_tellOfFirst 53 = .ok (.iload_n 3, 1) := by decide +kernel
theorem dX1_tellOfFirst_54 : decode cX1_tellOfFirst 54 = .ok (.invokevirtual 88, 3) := by decide +kernel
theorem dX1_tellOfFirst_57 : decode cX1_tellOfFirst 57 = .ok (.ifCond .ne 5, 3) := by decide +kernel
theorem dX1_tellOfFirst_60 : decode cX1_tellOfFirst 60 = .ok (.iconst 0, 1) := by decide +kernel
theorem dX1_tellOfFirst_61 : decode cX1_tellOfFirst 61 = .ok (.ireturn, 1) := by decide +kernel
theorem dX1_tellOfFirst_62 : decode cX1_tellOfFirst 62 = .ok (.iinc 3 1, 3) := by decide +kernel
theorem dX1_tellOfFirst_65 : decode cX1_tellOfFirst 65 = .ok (.goto (-50), 3) := by decide +kernel
theorem dX1_tellOfFirst_68 : decode cX1_tellOfFirst 68 = .ok (.iconst 1, 1) := by decide +kernel
theorem dX1_tellOfFirst_69 : decode cX1_tellOfFirst 69 = .ok (.ireturn, 1) := by decide +kernel
def bX1_tellOfFirst_62 (N d : Nat)  (rec15 : Wd → Int32 → Int32 → Int32 → Option (Wd × Int32)) (w : Wd) (x1 : Int32) (x2 : Int32) (x3 : Int32) : Option (Wd × Int32) :=
  c_nm (x3 + 1) fun x3_5 =>
  rec15 w x1 x2 x3_5
set_option maxHeartbeats 4000000 in
theorem kX1_tellOfFirst_62 {V : Ev} {p : Program} {l : Launch} {e : Env} {N d : Nat} {s : State} {m : MethodId} {args : Array Value} {below : List Frame} {meth : Method} {c : Code} {z : Wd × Int32} (X : CX V p s m args meth c cX1_tellOfFirst 4 RX1 (some .boolean))   {rec15 : Wd → Int32 → Int32 → Int32 → Option (Wd × Int32)} (hr15 : ∀ (w : Wd) (x1 : Int32) (x2 : Int32) (x3 : Int32) (H : Heap) (locs : List Loc) (ls : Array Slot), rec15 w x1 x2 x3 = some z → wH V (cC V) (AC V) s w H locs → lv_has ls 4 [(0, .ref (V.2.2 5)), (1, .int x1), (2, .int x2), (3, .int x3)] → W p l e (rmD (d + 1)) s m args below meth c H locs 0 0 (MQ below (CtI V (cC V) (AC V) z) args s 0 0 (AC V)) (F0 m 15 ls [])) {w : Wd} {x1 : Int32} {x2 : Int32} {x3 : Int32} {H : Heap} {locs : List Loc} {ls : Array Slot} (h : bX1_tellOfFirst_62 N d  rec15 w x1 x2 x3 = some z) (hH : wH V (cC V) (AC V) s w H locs) (hl : lv_has ls 4 [(0, .ref (V.2.2 5)), (1, .int x1), (2, .int x2), (3, .int x3)]) : W p l e (rmD (d + 1)) s m args below meth c H locs 0 0 (MQ below (CtI V (cC V) (AC V) z) args s 0 0 (AC V)) (F0 m 62 ls []) := by
  unfold bX1_tellOfFirst_62 at h
  obtain ⟨hx, hb, hml, hown, hg, hrt, hlk, hK⟩ := id X
  obtain ⟨x3_5, ex3_5, h⟩ := c_nm_ex h
  refine lv_iinc (pc := 62) (v := x3_5) (lv' := [(3, .int x3_5), (0, .ref (V.2.2 5)), (1, .int x1), (2, .int x2)]) hx hb dX1_tellOfFirst_62 hl (k := 3) rfl (by rw [← ex3_5]; rfl) (by decide) rfl (fun ls hl => ?_)
  refine lv_goto (pc := 65) (tgt := 15) hx hb dX1_tellOfFirst_65 (by decide) ?_
  exact hr15 _ _ _ _ _ _ _ h hH (lv_sub hl [1, 2, 3, 0] rfl)
def bX1_tellOfFirst_15 (N d : Nat)  (rec15 : Wd → Int32 → Int32 → Int32 → Option (Wd × Int32)) (w : Wd) (x1 : Int32) (x2 : Int32) (x3 : Int32) : Option (Wd × Int32) :=
  if (sI w 2) ≤ x3 then (
    some (w, 1)
  ) else (
    c_pi w 19 x2 fun w3 =>
    c_ld w3 25 16 x3 fun v4 =>
    if v4 = 0 then (
      bX1_tellOfFirst_62 N d  rec15 w3 x1 x2 x3
    ) else (
      c_cv (eX1_laySecond N d w3 x3) fun w6 =>
      c_cl (eX1_tellOf N d w6 x1 x3) fun w7 v8 =>
      if v8 = 0 then (
        some (w7, 0)
      ) else (
        bX1_tellOfFirst_62 N d  rec15 w7 x1 x2 x3
      )
    )
  )
set_option maxHeartbeats 4000000 in
theorem kX1_tellOfFirst_15 {V : Ev} {p : Program} {l : Launch} {e : Env} {N d : Nat} {s : State} {m : MethodId} {args : Array Value} {below : List Frame} {meth : Method} {c : Code} {z : Wd × Int32} (X : CX V p s m args meth c cX1_tellOfFirst 4 RX1 (some .boolean))   {rec15 : Wd → Int32 → Int32 → Int32 → Option (Wd × Int32)} (hr15 : ∀ (w : Wd) (x1 : Int32) (x2 : Int32) (x3 : Int32) (H : Heap) (locs : List Loc) (ls : Array Slot), rec15 w x1 x2 x3 = some z → wH V (cC V) (AC V) s w H locs → lv_has ls 4 [(0, .ref (V.2.2 5)), (1, .int x1), (2, .int x2), (3, .int x3)] → W p l e (rmD (d + 1)) s m args below meth c H locs 0 0 (MQ below (CtI V (cC V) (AC V) z) args s 0 0 (AC V)) (F0 m 15 ls [])) {w : Wd} {x1 : Int32} {x2 : Int32} {x3 : Int32} {H : Heap} {locs : List Loc} {ls : Array Slot} (h : bX1_tellOfFirst_15 N d  rec15 w x1 x2 x3 = some z) (hH : wH V (cC V) (AC V) s w H locs) (hl : lv_has ls 4 [(0, .ref (V.2.2 5)), (1, .int x1), (2, .int x2), (3, .int x3)]) : W p l e (rmD (d + 1)) s m args below meth c H locs 0 0 (MQ below (CtI V (cC V) (AC V) z) args s 0 0 (AC V)) (F0 m 15 ls []) := by
  unfold bX1_tellOfFirst_15 at h
  obtain ⟨hx, hb, hml, hown, hg, hrt, hlk, hK⟩ := id X
  refine lv_iload_n (pc := 15) hx hb dX1_tellOfFirst_15 rfl (lv_at hl 3 rfl) ?_
  refine lv_aload_n (pc := 16) hx hb dX1_tellOfFirst_16 rfl (lv_at hl 0 rfl) ?_
  refine gC_X1_41_5 (pc := 17) X hH dX1_tellOfFirst_17 ?_
  refine gC_X1_62_2 (pc := 20) X hH dX1_tellOfFirst_20 ?_
  refine b_icmp_ge (pc := 23) (tgt := 68) hx hb h dX1_tellOfFirst_23 (by decide) (fun h => ?_) (fun h => ?_)
  · refine lv_iconst (pc := 68) (v := 1) hx hb dX1_tellOfFirst_68 (by decide) ?_
    exact r_zretk (pc := 69) (by decide) X hH h dX1_tellOfFirst_69
  · refine lv_aload_n (pc := 26) hx hb dX1_tellOfFirst_26 rfl (lv_at hl 0 rfl) ?_
    refine gC_X1_45_5 (pc := 27) X hH dX1_tellOfFirst_27 ?_
    refine lv_iload_n (pc := 30) hx hb dX1_tellOfFirst_30 rfl (lv_at hl 2 rfl) ?_
    refine pC_X1_82_10 (pc := 31) X hH h dX1_tellOfFirst_31 (fun w3 H locs h hH => ?_)
    refine lv_aload_n (pc := 34) hx hb dX1_tellOfFirst_34 rfl (lv_at hl 0 rfl) ?_
    refine gC_X1_41_5 (pc := 35) X hH dX1_tellOfFirst_35 ?_
    refine gC_X1_67_2 (pc := 38) X hH dX1_tellOfFirst_38 ?_
    refine lv_iload_n (pc := 41) hx hb dX1_tellOfFirst_41 rfl (lv_at hl 3 rfl) ?_
    refine r_lz (pc := 42) X (heC_25 V w3) hH h dX1_tellOfFirst_42 (fun v4 h => ?_)
    refine b_if_eq (pc := 43) (tgt := 62) hx hb h dX1_tellOfFirst_43 (by decide) (fun h => ?_) (fun h => ?_)
    · exact kX1_tellOfFirst_62 X  hr15 h hH (lv_sub hl [0, 1, 2, 3] rfl)
    · refine lv_aload_n (pc := 46) hx hb dX1_tellOfFirst_46 rfl (lv_at hl 0 rfl) ?_
      refine lv_iload_n (pc := 47) hx hb dX1_tellOfFirst_47 rfl (lv_at hl 3 rfl) ?_
      refine r_cvV (pc := 48) (As := [.int x3]) (rest := []) X hH (fun x hx => mX1_laySecond hx) cw_X1_85 (heC_5 V w3) rfl rfl rfl (Nat.le_of_ble_eq_true rfl) hl.1 h dX1_tellOfFirst_48 (fun w6 H locs h hH => ?_)
      refine lv_aload_n (pc := 51) hx hb dX1_tellOfFirst_51 rfl (lv_at hl 0 rfl) ?_
      refine lv_iload_n (pc := 52) hx hb dX1_tellOfFirst_52 rfl (lv_at hl 1 rfl) ?_
      refine lv_iload_n (pc := 53) hx hb dX1_tellOfFirst_53 rfl (lv_at hl 3 rfl) ?_
      refine r_cvI (pc := 54) (As := [.int x1, .int x3]) (rest := []) X hH (fun x hx => mX1_tellOf hx) cw_X1_88 (heC_5 V w6) rfl rfl rfl (Nat.le_of_ble_eq_true rfl) hl.1 h dX1_tellOfFirst_54 (fun w7 v8 H locs h hH => ?_)
      refine b_if_ne (pc := 57) (tgt := 62) hx hb h dX1_tellOfFirst_57 (by decide) (fun h => ?_) (fun h => ?_)
      · exact kX1_tellOfFirst_62 X  hr15 h hH (lv_sub hl [0, 1, 2, 3] rfl)
      · refine lv_iconst (pc := 60) (v := 0) hx hb dX1_tellOfFirst_60 (by decide) ?_
        exact r_zretk (pc := 61) (by decide) X hH h dX1_tellOfFirst_61
def fX1_tellOfFirst_15 (N d : Nat)   : Nat → Wd → Int32 → Int32 → Int32 → Option (Wd × Int32)
  | 0 => fun _ _ _ _ => none
  | n + 1 => fun w x1 x2 x3 => bX1_tellOfFirst_15 N d   (fX1_tellOfFirst_15 N d   n) w x1 x2 x3
theorem lX1_tellOfFirst_15 {V : Ev} {p : Program} {l : Launch} {e : Env} {N d : Nat} {s : State} {m : MethodId} {args : Array Value} {below : List Frame} {meth : Method} {c : Code} {z : Wd × Int32} (X : CX V p s m args meth c cX1_tellOfFirst 4 RX1 (some .boolean))    (n : Nat) {w : Wd} {x1 : Int32} {x2 : Int32} {x3 : Int32} {H : Heap} {locs : List Loc} {ls : Array Slot} (h : fX1_tellOfFirst_15 N d   n w x1 x2 x3 = some z) (hH : wH V (cC V) (AC V) s w H locs) (hl : lv_has ls 4 [(0, .ref (V.2.2 5)), (1, .int x1), (2, .int x2), (3, .int x3)]) : W p l e (rmD (d + 1)) s m args below meth c H locs 0 0 (MQ below (CtI V (cC V) (AC V) z) args s 0 0 (AC V)) (F0 m 15 ls []) := by
  induction n generalizing w x1 x2 x3 H locs ls with
  | zero => exact c_none h
  | succ n ih => exact kX1_tellOfFirst_15 (N := N) X  (fun _ _ _ _ _ _ _ h hH hl => ih h hH hl) h hH hl
def bX1_tellOfFirst_0 (N d : Nat)   (w : Wd) (x1 : Int32) : Option (Wd × Int32) :=
  c_cv (eX1_layFirst N d w x1) fun w1 =>
  c_nm (sI w1 19) fun x2_2 =>
  fX1_tellOfFirst_15 N d   N w1 x1 x2_2 ((0 : Int32))
set_option maxHeartbeats 4000000 in
theorem kX1_tellOfFirst_0 {V : Ev} {p : Program} {l : Launch} {e : Env} {N d : Nat} {s : State} {m : MethodId} {args : Array Value} {below : List Frame} {meth : Method} {c : Code} {z : Wd × Int32} (X : CX V p s m args meth c cX1_tellOfFirst 4 RX1 (some .boolean))    {w : Wd} {x1 : Int32} {H : Heap} {locs : List Loc} {ls : Array Slot} (h : bX1_tellOfFirst_0 N d   w x1 = some z) (hH : wH V (cC V) (AC V) s w H locs) (hl : lv_has ls 4 [(0, .ref (V.2.2 5)), (1, .int x1)]) : W p l e (rmD (d + 1)) s m args below meth c H locs 0 0 (MQ below (CtI V (cC V) (AC V) z) args s 0 0 (AC V)) (F0 m 0 ls []) := by
  unfold bX1_tellOfFirst_0 at h
  obtain ⟨hx, hb, hml, hown, hg, hrt, hlk, hK⟩ := id X
  refine lv_aload_n (pc := 0) hx hb dX1_tellOfFirst_0 rfl (lv_at hl 0 rfl) ?_
  refine lv_iload_n (pc := 1) hx hb dX1_tellOfFirst_1 rfl (lv_at hl 1 rfl) ?_
  refine r_cvV (pc := 2) (As := [.int x1]) (rest := []) X hH (fun x hx => mX1_layFirst hx) cw_X1_78 (heC_5 V w) rfl rfl rfl (Nat.le_of_ble_eq_true rfl) hl.1 h dX1_tellOfFirst_2 (fun w1 H locs h hH => ?_)
  refine lv_aload_n (pc := 5) hx hb dX1_tellOfFirst_5 rfl (lv_at hl 0 rfl) ?_
  refine gC_X1_45_5 (pc := 6) X hH dX1_tellOfFirst_6 ?_
  refine gC_X1_82_10 (pc := 9) X hH dX1_tellOfFirst_9 ?_
  refine r_nmi h (fun x2_2 h => ?_)
  refine lv_istore_n (pc := 12) (lv' := [(2, .int x2_2), (0, .ref (V.2.2 5)), (1, .int x1)]) hx hb dX1_tellOfFirst_12 rfl hl (by decide) rfl (fun ls hl => ?_)
  refine lv_iconst (pc := 13) (v := 0) hx hb dX1_tellOfFirst_13 (by decide) ?_
  refine lv_istore_n (pc := 14) (lv' := [(3, .int ((0 : Int32))), (2, .int x2_2), (0, .ref (V.2.2 5)), (1, .int x1)]) hx hb dX1_tellOfFirst_14 rfl hl (by decide) rfl (fun ls hl => ?_)
  exact lX1_tellOfFirst_15 X   N h hH (lv_sub hl [2, 3, 1, 0] rfl)
def eX1_tellOfFirst (N : Nat) : Nat → Wd → Int32 → Option (Wd × Int32)
  | 0 => fun _ _ => none
  | d + 1 => fun w x1 => bX1_tellOfFirst_0 N d  w x1
set_option maxHeartbeats 4000000 in
set_option maxRecDepth 20000 in
theorem mX1_tellOfFirst {l : Launch} {V : Ev} {N d : Nat} {w : Wd} {x1 : Int32} {z : Wd × Int32} (h : eX1_tellOfFirst N d w x1 = some z) : MetI l V (cC V) (AC V) yX1_tellOfFirst cX1_tellOfFirst 4 (some .boolean) d [.ref (V.2.2 5), .int x1] w z := by
  cases d with
  | zero => exact c_none h
  | succ d =>
    refine Met.ofW (cc := cX1_tellOfFirst) (maxL := 4) (ret := (some .boolean)) (by decide) rfl ?_
    intro p e s m args below meth c s₁ B hml hv
    obtain ⟨rfl, hP, hD, hK⟩ := hv
    have hts := atoms_spec (ws := .code yX1_tellOfFirst cX1_tellOfFirst 4 (some .boolean) :: gG) B.pre
    have X : CX V p s m ([.ref (V.2.2 5), .int x1] : List Value).toArray meth c cX1_tellOfFirst 4 RX1 (some .boolean) := ⟨B.exec, B.bytes, hml, findClass_of_methodNamed B.named, fun w hw => hts w (List.mem_cons_of_mem _ hw), B.returns, B.notSynchronized, hK⟩
    have hl := lv_entry ([.ref (V.2.2 5), .int x1] : List Value) (n := 4) (Nat.le_of_ble_eq_true rfl)
    rw [lg_entry_eq]
    generalize (lg_sl ([.ref (V.2.2 5), .int x1] : List Value) ++ List.replicate (4 - (lg_sl ([.ref (V.2.2 5), .int x1] : List Value)).length) Slot.unset).toArray = ls at hl ⊢
    have hl : lv_has ls 4 [(0, .ref (V.2.2 5)), (1, .int x1)] := hl
    exact kX1_tellOfFirst_0 (N := N) X  h ⟨hP, hD, va_S.rf⟩ hl
theorem dX1_tellAnew_0 : decode cX1_tellAnew 0 = .ok (.aload_n 0, 1) := by decide +kernel
theorem dX1_tellAnew_1 : decode cX1_tellAnew 1 = .ok (.getfield 12, 3) := by decide +kernel
theorem dX1_tellAnew_4 : decode cX1_tellAnew 4 = .ok (.iconst 0, 1) := by decide +kernel
theorem dX1_tellAnew_5 : decode cX1_tellAnew 5 = .ok (.putfield 58, 3) := by decide +kernel
theorem dX1_tellAnew_8 : decode cX1_tellAnew 8 = .ok (.iconst 0, 1) := by decide +kernel
theorem dX1_tellAnew_9 : decode cX1_tellAnew 9 = .ok (.istore_n 1, 1) := by decide +kernel
theorem dX1_tellAnew_10 : decode cX1_tellAnew 10 = .ok (.iload_n 1, 1) := by decide +kernel
theorem dX1_tellAnew_11 : decode cX1_tellAnew 11 = .ok (.aload_n 0, 1) := by decide +kernel
theorem dX1_tellAnew_12 : decode cX1_tellAnew 12 = .ok (.getfield 41, 3) := by decide +kernel
theorem dX1_tellAnew_15 : decode cX1_tellAnew 15 = .ok (.getfield 62, 3) := by decide +kernel
theorem dX1_tellAnew_18 : decode cX1_tellAnew 18 = .ok (.if_icmp .ge 32, 3) := by decide +kernel
theorem dX1_tellAnew_21 : decode cX1_tellAnew 21 = .ok (.aload_n 0, 1) := by decide +kernel
theorem dX1_tellAnew_22 : decode cX1_tellAnew 22 = .ok (.getfield 41, 3) := by decide +kernel
theorem dX1_tellAnew_25 : decode cX1_tellAnew 25 = .ok (.getfield 67, 3) := by decide +kernel
theorem dX1_tellAnew_28 : decode cX1_tellAnew 28 = .ok (.iload_n 1, 1) := by decide +kernel
theorem dX1_tellAnew_29 : decode cX1_tellAnew 29 = .ok (.baload, 1) := by decide +kernel
theorem dX1_tellAnew_30 : decode cX1_tellAnew 30 = .ok (.ifCond .eq 14, 3) := by decide +kernel
theorem dX1_tellAnew_33 : decode cX1_tellAnew 33 = .ok (.aload_n 0, 1) := by decide +kernel
theorem dX1_tellAnew_34 : decode cX1_tellAnew 34 = .ok (.iload_n 1, 1) := by decide +kernel
theorem dX1_tellAnew_35 : decode cX1_tellAnew 35 = .ok (.invokevirtual 70, 3) := by decide +kernel
theorem dX1_tellAnew_38 : decode cX1_tellAnew 38 = .ok (.ifCond .ne 6, 3) := by decide +kernel
theorem dX1_tellAnew_41 : decode cX1_tellAnew 41 = .ok (.bipush (-4), 2) := by decide +kernel
theorem dX1_tellAnew_43 : decode cX1_tellAnew 43 = .ok (.ireturn, 1) := by decide +kernel
theorem dX1_tellAnew_44 : decode cX1_tellAnew 44 = .ok (.iinc 1 1, 3) := by decide +kernel
theorem dX1_tellAnew_47 : decode cX1_tellAnew 47 = .ok (.goto (-37), 3) := by decide +kernel
theorem dX1_tellAnew_50 : decode cX1_tellAnew 50 = .ok (.aload_n 0, 1) := by decide +kernel
theorem dX1_tellAnew_51 : decode cX1_tellAnew 51 = .ok (.getfield 12, 3) := by decide +kernel
theorem dX1_tellAnew_54 : decode cX1_tellAnew 54 = .ok (.invokevirtual 74, 3) := by decide +kernel
theorem dX1_tellAnew_57 : decode cX1_tellAnew 57 = .ok (.aload_n 0, 1) := by decide +kernel
theorem dX1_tellAnew_58 : decode cX1_tellAnew 58 = .ok (.getfield 12, 3) := by decide +kernel
theorem dX1_tellAnew_61 : decode cX1_tellAnew 61 = .ok (.getfield 77, 3) := by decide +kernel
theorem dX1_tellAnew_64 : decode cX1_tellAnew 64 = .ok (.ireturn, 1) := by decide +kernel
def bX1_tellAnew_44 (N d : Nat)  (rec10 : Wd → Int32 → Option (Wd × Int32)) (w : Wd) (x1 : Int32) : Option (Wd × Int32) :=
  c_nm (x1 + 1) fun x1_4 =>
  rec10 w x1_4
set_option maxHeartbeats 4000000 in
theorem kX1_tellAnew_44 {V : Ev} {p : Program} {l : Launch} {e : Env} {N d : Nat} {s : State} {m : MethodId} {args : Array Value} {below : List Frame} {meth : Method} {c : Code} {z : Wd × Int32} (X : CX V p s m args meth c cX1_tellAnew 2 RX1 (some .int))   {rec10 : Wd → Int32 → Option (Wd × Int32)} (hr10 : ∀ (w : Wd) (x1 : Int32) (H : Heap) (locs : List Loc) (ls : Array Slot), rec10 w x1 = some z → wH V (cC V) (AC V) s w H locs → lv_has ls 2 [(0, .ref (V.2.2 5)), (1, .int x1)] → W p l e (rmD (d + 1)) s m args below meth c H locs 0 0 (MQ below (CtI V (cC V) (AC V) z) args s 0 0 (AC V)) (F0 m 10 ls [])) {w : Wd} {x1 : Int32} {H : Heap} {locs : List Loc} {ls : Array Slot} (h : bX1_tellAnew_44 N d  rec10 w x1 = some z) (hH : wH V (cC V) (AC V) s w H locs) (hl : lv_has ls 2 [(0, .ref (V.2.2 5)), (1, .int x1)]) : W p l e (rmD (d + 1)) s m args below meth c H locs 0 0 (MQ below (CtI V (cC V) (AC V) z) args s 0 0 (AC V)) (F0 m 44 ls []) := by
  unfold bX1_tellAnew_44 at h
  obtain ⟨hx, hb, hml, hown, hg, hrt, hlk, hK⟩ := id X
  obtain ⟨x1_4, ex1_4, h⟩ := c_nm_ex h
  refine lv_iinc (pc := 44) (v := x1_4) (lv' := [(1, .int x1_4), (0, .ref (V.2.2 5))]) hx hb dX1_tellAnew_44 hl (k := 1) rfl (by rw [← ex1_4]; rfl) (by decide) rfl (fun ls hl => ?_)
  refine lv_goto (pc := 47) (tgt := 10) hx hb dX1_tellAnew_47 (by decide) ?_
  exact hr10 _ _ _ _ _ h hH (lv_sub hl [1, 0] rfl)
def bX1_tellAnew_10 (N d : Nat)  (rec10 : Wd → Int32 → Option (Wd × Int32)) (w : Wd) (x1 : Int32) : Option (Wd × Int32) :=
  if (sI w 2) ≤ x1 then (
    c_cv (eX2_takeFresh N d w ) fun w2 =>
    some (w2, sI w2 15)
  ) else (
    c_ld w 25 16 x1 fun v3 =>
    if v3 = 0 then (
      bX1_tellAnew_44 N d  rec10 w x1
    ) else (
      c_cl (eX1_tellOfFirst N d w x1) fun w5 v6 =>
      if v6 = 0 then (
        some (w5, -4)
      ) else (
        bX1_tellAnew_44 N d  rec10 w5 x1
      )
    )
  )
set_option maxHeartbeats 4000000 in
theorem kX1_tellAnew_10 {V : Ev} {p : Program} {l : Launch} {e : Env} {N d : Nat} {s : State} {m : MethodId} {args : Array Value} {below : List Frame} {meth : Method} {c : Code} {z : Wd × Int32} (X : CX V p s m args meth c cX1_tellAnew 2 RX1 (some .int))   {rec10 : Wd → Int32 → Option (Wd × Int32)} (hr10 : ∀ (w : Wd) (x1 : Int32) (H : Heap) (locs : List Loc) (ls : Array Slot), rec10 w x1 = some z → wH V (cC V) (AC V) s w H locs → lv_has ls 2 [(0, .ref (V.2.2 5)), (1, .int x1)] → W p l e (rmD (d + 1)) s m args below meth c H locs 0 0 (MQ below (CtI V (cC V) (AC V) z) args s 0 0 (AC V)) (F0 m 10 ls [])) {w : Wd} {x1 : Int32} {H : Heap} {locs : List Loc} {ls : Array Slot} (h : bX1_tellAnew_10 N d  rec10 w x1 = some z) (hH : wH V (cC V) (AC V) s w H locs) (hl : lv_has ls 2 [(0, .ref (V.2.2 5)), (1, .int x1)]) : W p l e (rmD (d + 1)) s m args below meth c H locs 0 0 (MQ below (CtI V (cC V) (AC V) z) args s 0 0 (AC V)) (F0 m 10 ls []) := by
  unfold bX1_tellAnew_10 at h
  obtain ⟨hx, hb, hml, hown, hg, hrt, hlk, hK⟩ := id X
  refine lv_iload_n (pc := 10) hx hb dX1_tellAnew_10 rfl (lv_at hl 1 rfl) ?_
  refine lv_aload_n (pc := 11) hx hb dX1_tellAnew_11 rfl (lv_at hl 0 rfl) ?_
  refine gC_X1_41_5 (pc := 12) X hH dX1_tellAnew_12 ?_
  refine gC_X1_62_2 (pc := 15) X hH dX1_tellAnew_15 ?_
  refine b_icmp_ge (pc := 18) (tgt := 50) hx hb h dX1_tellAnew_18 (by decide) (fun h => ?_) (fun h => ?_)
  · refine lv_aload_n (pc := 50) hx hb dX1_tellAnew_50 rfl (lv_at hl 0 rfl) ?_
    refine gC_X1_12_5 (pc := 51) X hH dX1_tellAnew_51 ?_
    refine r_cvV (pc := 54) (As := []) (rest := []) X hH (fun x hx => mX2_takeFresh hx) cw_X1_74 (heC_9 V w) rfl rfl rfl (Nat.le_of_ble_eq_true rfl) hl.1 h dX1_tellAnew_54 (fun w2 H locs h hH => ?_)
    refine lv_aload_n (pc := 57) hx hb dX1_tellAnew_57 rfl (lv_at hl 0 rfl) ?_
    refine gC_X1_12_5 (pc := 58) X hH dX1_tellAnew_58 ?_
    refine gC_X1_77_9 (pc := 61) X hH dX1_tellAnew_61 ?_
    exact r_iret (pc := 64) X hH h dX1_tellAnew_64
  · refine lv_aload_n (pc := 21) hx hb dX1_tellAnew_21 rfl (lv_at hl 0 rfl) ?_
    refine gC_X1_41_5 (pc := 22) X hH dX1_tellAnew_22 ?_
    refine gC_X1_67_2 (pc := 25) X hH dX1_tellAnew_25 ?_
    refine lv_iload_n (pc := 28) hx hb dX1_tellAnew_28 rfl (lv_at hl 1 rfl) ?_
    refine r_lz (pc := 29) X (heC_25 V w) hH h dX1_tellAnew_29 (fun v3 h => ?_)
    refine b_if_eq (pc := 30) (tgt := 44) hx hb h dX1_tellAnew_30 (by decide) (fun h => ?_) (fun h => ?_)
    · exact kX1_tellAnew_44 X  hr10 h hH (lv_sub hl [0, 1] rfl)
    · refine lv_aload_n (pc := 33) hx hb dX1_tellAnew_33 rfl (lv_at hl 0 rfl) ?_
      refine lv_iload_n (pc := 34) hx hb dX1_tellAnew_34 rfl (lv_at hl 1 rfl) ?_
      refine r_cvI (pc := 35) (As := [.int x1]) (rest := []) X hH (fun x hx => mX1_tellOfFirst hx) cw_X1_70 (heC_5 V w) rfl rfl rfl (Nat.le_of_ble_eq_true rfl) hl.1 h dX1_tellAnew_35 (fun w5 v6 H locs h hH => ?_)
      refine b_if_ne (pc := 38) (tgt := 44) hx hb h dX1_tellAnew_38 (by decide) (fun h => ?_) (fun h => ?_)
      · exact kX1_tellAnew_44 X  hr10 h hH (lv_sub hl [0, 1] rfl)
      · refine lv_bipush (pc := 41) (v := -4) hx hb dX1_tellAnew_41 (by decide) ?_
        exact r_iret (pc := 43) X hH h dX1_tellAnew_43
def fX1_tellAnew_10 (N d : Nat)   : Nat → Wd → Int32 → Option (Wd × Int32)
  | 0 => fun _ _ => none
  | n + 1 => fun w x1 => bX1_tellAnew_10 N d   (fX1_tellAnew_10 N d   n) w x1
theorem lX1_tellAnew_10 {V : Ev} {p : Program} {l : Launch} {e : Env} {N d : Nat} {s : State} {m : MethodId} {args : Array Value} {below : List Frame} {meth : Method} {c : Code} {z : Wd × Int32} (X : CX V p s m args meth c cX1_tellAnew 2 RX1 (some .int))    (n : Nat) {w : Wd} {x1 : Int32} {H : Heap} {locs : List Loc} {ls : Array Slot} (h : fX1_tellAnew_10 N d   n w x1 = some z) (hH : wH V (cC V) (AC V) s w H locs) (hl : lv_has ls 2 [(0, .ref (V.2.2 5)), (1, .int x1)]) : W p l e (rmD (d + 1)) s m args below meth c H locs 0 0 (MQ below (CtI V (cC V) (AC V) z) args s 0 0 (AC V)) (F0 m 10 ls []) := by
  induction n generalizing w x1 H locs ls with
  | zero => exact c_none h
  | succ n ih => exact kX1_tellAnew_10 (N := N) X  (fun _ _ _ _ _ h hH hl => ih h hH hl) h hH hl
def bX1_tellAnew_0 (N d : Nat)   (w : Wd)  : Option (Wd × Int32) :=
  c_pi w 16 0 fun w1 =>
  fX1_tellAnew_10 N d   N w1 ((0 : Int32))
set_option maxHeartbeats 4000000 in
theorem kX1_tellAnew_0 {V : Ev} {p : Program} {l : Launch} {e : Env} {N d : Nat} {s : State} {m : MethodId} {args : Array Value} {below : List Frame} {meth : Method} {c : Code} {z : Wd × Int32} (X : CX V p s m args meth c cX1_tellAnew 2 RX1 (some .int))    {w : Wd}  {H : Heap} {locs : List Loc} {ls : Array Slot} (h : bX1_tellAnew_0 N d   w  = some z) (hH : wH V (cC V) (AC V) s w H locs) (hl : lv_has ls 2 [(0, .ref (V.2.2 5))]) : W p l e (rmD (d + 1)) s m args below meth c H locs 0 0 (MQ below (CtI V (cC V) (AC V) z) args s 0 0 (AC V)) (F0 m 0 ls []) := by
  unfold bX1_tellAnew_0 at h
  obtain ⟨hx, hb, hml, hown, hg, hrt, hlk, hK⟩ := id X
  refine lv_aload_n (pc := 0) hx hb dX1_tellAnew_0 rfl (lv_at hl 0 rfl) ?_
  refine gC_X1_12_5 (pc := 1) X hH dX1_tellAnew_1 ?_
  refine lv_iconst (pc := 4) (v := 0) hx hb dX1_tellAnew_4 (by decide) ?_
  refine pC_X1_58_9 (pc := 5) X hH h dX1_tellAnew_5 (fun w1 H locs h hH => ?_)
  refine lv_iconst (pc := 8) (v := 0) hx hb dX1_tellAnew_8 (by decide) ?_
  refine lv_istore_n (pc := 9) (lv' := [(1, .int ((0 : Int32))), (0, .ref (V.2.2 5))]) hx hb dX1_tellAnew_9 rfl hl (by decide) rfl (fun ls hl => ?_)
  exact lX1_tellAnew_10 X   N h hH (lv_sub hl [1, 0] rfl)
def eX1_tellAnew (N : Nat) : Nat → Wd → Option (Wd × Int32)
  | 0 => fun _  => none
  | d + 1 => fun w  => bX1_tellAnew_0 N d  w 
set_option maxHeartbeats 4000000 in
set_option maxRecDepth 20000 in
theorem mX1_tellAnew {l : Launch} {V : Ev} {N d : Nat} {w : Wd}  {z : Wd × Int32} (h : eX1_tellAnew N d w  = some z) : MetI l V (cC V) (AC V) yX1_tellAnew cX1_tellAnew 2 (some .int) d [.ref (V.2.2 5)] w z := by
  cases d with
  | zero => exact c_none h
  | succ d =>
    refine Met.ofW (cc := cX1_tellAnew) (maxL := 2) (ret := (some .int)) (by decide) rfl ?_
    intro p e s m args below meth c s₁ B hml hv
    obtain ⟨rfl, hP, hD, hK⟩ := hv
    have hts := atoms_spec (ws := .code yX1_tellAnew cX1_tellAnew 2 (some .int) :: gG) B.pre
    have X : CX V p s m ([.ref (V.2.2 5)] : List Value).toArray meth c cX1_tellAnew 2 RX1 (some .int) := ⟨B.exec, B.bytes, hml, findClass_of_methodNamed B.named, fun w hw => hts w (List.mem_cons_of_mem _ hw), B.returns, B.notSynchronized, hK⟩
    have hl := lv_entry ([.ref (V.2.2 5)] : List Value) (n := 2) (Nat.le_of_ble_eq_true rfl)
    rw [lg_entry_eq]
    generalize (lg_sl ([.ref (V.2.2 5)] : List Value) ++ List.replicate (2 - (lg_sl ([.ref (V.2.2 5)] : List Value)).length) Slot.unset).toArray = ls at hl ⊢
    have hl : lv_has ls 2 [(0, .ref (V.2.2 5))] := hl
    exact kX1_tellAnew_0 (N := N) X  h ⟨hP, hD, va_S.rf⟩ hl
theorem dX10_pairs_0 : decode cX10_pairs 0 = .ok (.aload_n 0, 1) := by decide +kernel
theorem dX10_pairs_1 : decode cX10_pairs 1 = .ok (.getfield 15, 3) := by decide +kernel
theorem dX10_pairs_4 : decode cX10_pairs 4 = .ok (.getfield 99, 3) := by decide +kernel
theorem dX10_pairs_7 : decode cX10_pairs 7 = .ok (.istore_n 1, 1) := by decide +kernel
theorem dX10_pairs_8 : decode cX10_pairs 8 = .ok (.aload_n 0, 1) := by decide +kernel
theorem dX10_pairs_9 : decode cX10_pairs 9 = .ok (.aload_n 0, 1) := by decide +kernel
theorem dX10_pairs_10 : decode cX10_pairs 10 = .ok (.getfield 44, 3) := by decide +kernel
theorem dX10_pairs_13 : decode cX10_pairs 13 = .ok (.invokevirtual 142, 3) := by decide +kernel
theorem dX10_pairs_16 : decode cX10_pairs 16 = .ok (.iload_n 1, 1) := by decide +kernel
theorem dX10_pairs_17 : decode cX10_pairs 17 = .ok (.invokevirtual 146, 3) := by decide +kernel
theorem dX10_pairs_20 : decode cX10_pairs 20 = .ok (.ireturn, 1) := by decide +kernel
def bX10_pairs_0 (N d : Nat)   (w : Wd)  : Option (Wd × Int32) :=
  c_nm (sI w 1) fun x1_1 =>
  c_cl (eX1_tellAnew N d w ) fun w2 v3 =>
  c_cl (eX10_undoIfFull N d w2 v3 x1_1) fun w4 v5 =>
  some (w4, v5)
set_option maxHeartbeats 4000000 in
theorem kX10_pairs_0 {V : Ev} {p : Program} {l : Launch} {e : Env} {N d : Nat} {s : State} {m : MethodId} {args : Array Value} {below : List Frame} {meth : Method} {c : Code} {z : Wd × Int32} (X : CX V p s m args meth c cX10_pairs 2 RX10 (some .int))    {w : Wd}  {H : Heap} {locs : List Loc} {ls : Array Slot} (h : bX10_pairs_0 N d   w  = some z) (hH : wH V (cC V) (AC V) s w H locs) (hl : lv_has ls 2 [(0, .ref (V.2.2 0))]) : W p l e (rmD (d + 1)) s m args below meth c H locs 0 0 (MQ below (CtI V (cC V) (AC V) z) args s 0 0 (AC V)) (F0 m 0 ls []) := by
  unfold bX10_pairs_0 at h
  obtain ⟨hx, hb, hml, hown, hg, hrt, hlk, hK⟩ := id X
  refine lv_aload_n (pc := 0) hx hb dX10_pairs_0 rfl (lv_at hl 0 rfl) ?_
  refine gC_X10_15_0 (pc := 1) X hH dX10_pairs_1 ?_
  refine gC_X10_99_1 (pc := 4) X hH dX10_pairs_4 ?_
  refine r_nmi h (fun x1_1 h => ?_)
  refine lv_istore_n (pc := 7) (lv' := [(1, .int x1_1), (0, .ref (V.2.2 0))]) hx hb dX10_pairs_7 rfl hl (by decide) rfl (fun ls hl => ?_)
  refine lv_aload_n (pc := 8) hx hb dX10_pairs_8 rfl (lv_at hl 1 rfl) ?_
  refine lv_aload_n (pc := 9) hx hb dX10_pairs_9 rfl (lv_at hl 1 rfl) ?_
  refine gC_X10_44_0 (pc := 10) X hH dX10_pairs_10 ?_
  refine r_cvI (pc := 13) (As := []) (rest := [.ref (V.2.2 0)]) X hH (fun x hx => mX1_tellAnew hx) cw_X10_142 (heC_5 V w) rfl rfl rfl (Nat.le_of_ble_eq_true rfl) hl.1 h dX10_pairs_13 (fun w2 v3 H locs h hH => ?_)
  refine lv_iload_n (pc := 16) hx hb dX10_pairs_16 rfl (lv_at hl 0 rfl) ?_
  refine r_cvI (pc := 17) (As := [.int v3, .int x1_1]) (rest := []) X hH (fun x hx => mX10_undoIfFull hx) cw_X10_146 (heC_0 V w2) rfl rfl rfl (Nat.le_of_ble_eq_true rfl) hl.1 h dX10_pairs_17 (fun w4 v5 H locs h hH => ?_)
  exact r_iret (pc := 20) X hH h dX10_pairs_20
def eX10_pairs (N : Nat) : Nat → Wd → Option (Wd × Int32)
  | 0 => fun _  => none
  | d + 1 => fun w  => bX10_pairs_0 N d  w 
set_option maxHeartbeats 4000000 in
set_option maxRecDepth 20000 in
theorem mX10_pairs {l : Launch} {V : Ev} {N d : Nat} {w : Wd}  {z : Wd × Int32} (h : eX10_pairs N d w  = some z) : MetI l V (cC V) (AC V) yX10_pairs cX10_pairs 2 (some .int) d [.ref (V.2.2 0)] w z := by
  cases d with
  | zero => exact c_none h
  | succ d =>
    refine Met.ofW (cc := cX10_pairs) (maxL := 2) (ret := (some .int)) (by decide) rfl ?_
    intro p e s m args below meth c s₁ B hml hv
    obtain ⟨rfl, hP, hD, hK⟩ := hv
    have hts := atoms_spec (ws := .code yX10_pairs cX10_pairs 2 (some .int) :: gG) B.pre
    have X : CX V p s m ([.ref (V.2.2 0)] : List Value).toArray meth c cX10_pairs 2 RX10 (some .int) := ⟨B.exec, B.bytes, hml, findClass_of_methodNamed B.named, fun w hw => hts w (List.mem_cons_of_mem _ hw), B.returns, B.notSynchronized, hK⟩
    have hl := lv_entry ([.ref (V.2.2 0)] : List Value) (n := 2) (Nat.le_of_ble_eq_true rfl)
    rw [lg_entry_eq]
    generalize (lg_sl ([.ref (V.2.2 0)] : List Value) ++ List.replicate (2 - (lg_sl ([.ref (V.2.2 0)] : List Value)).length) Slot.unset).toArray = ls at hl ⊢
    have hl : lv_has ls 2 [(0, .ref (V.2.2 0))] := hl
    exact kX10_pairs_0 (N := N) X  h ⟨hP, hD, va_S.rf⟩ hl
theorem dX2_firstOf_0 : decode cX2_firstOf 0 = .ok (.aload_n 0, 1) := by decide +kernel
theorem dX2_firstOf_1 : decode cX2_firstOf 1 = .ok (.getfield 26, 3) := by decide +kernel
theorem dX2_firstOf_4 : decode cX2_firstOf 4 = .ok (.aload_n 0, 1) := by decide +kernel
theorem dX2_firstOf_5 : decode cX2_firstOf 5 = .ok (.getfield 35, 3) := by decide +kernel
theorem dX2_firstOf_8 : decode cX2_firstOf 8 = .ok (.iload_n 1, 1) := by decide +kernel
theorem dX2_firstOf_9 : decode cX2_firstOf 9 = .ok (.iadd, 1) := by decide +kernel
theorem dX2_firstOf_10 : decode cX2_firstOf 10 = .ok (.iaload, 1) := by decide +kernel
theorem dX2_firstOf_11 : decode cX2_firstOf 11 = .ok (.ireturn, 1) := by decide +kernel
def bX2_firstOf_0 (N d : Nat)   (w : Wd) (x1 : Int32) : Option (Wd × Int32) :=
  c_ld w 48 120 ((sI w 17) + x1) fun v1 =>
  some (w, v1)
set_option maxHeartbeats 4000000 in
theorem kX2_firstOf_0 {V : Ev} {p : Program} {l : Launch} {e : Env} {N d : Nat} {s : State} {m : MethodId} {args : Array Value} {below : List Frame} {meth : Method} {c : Code} {z : Wd × Int32} (X : CX V p s m args meth c cX2_firstOf 2 RX2 (some .int))    {w : Wd} {x1 : Int32} {H : Heap} {locs : List Loc} {ls : Array Slot} (h : bX2_firstOf_0 N d   w x1 = some z) (hH : wH V (cC V) (AC V) s w H locs) (hl : lv_has ls 2 [(0, .ref (V.2.2 9)), (1, .int x1)]) : W p l e (rmD (d + 1)) s m args below meth c H locs 0 0 (MQ below (CtI V (cC V) (AC V) z) args s 0 0 (AC V)) (F0 m 0 ls []) := by
  unfold bX2_firstOf_0 at h
  obtain ⟨hx, hb, hml, hown, hg, hrt, hlk, hK⟩ := id X
  refine lv_aload_n (pc := 0) hx hb dX2_firstOf_0 rfl (lv_at hl 0 rfl) ?_
  refine gC_X2_26_9 (pc := 1) X hH dX2_firstOf_1 ?_
  refine lv_aload_n (pc := 4) hx hb dX2_firstOf_4 rfl (lv_at hl 0 rfl) ?_
  refine gC_X2_35_9 (pc := 5) X hH dX2_firstOf_5 ?_
  refine lv_iload_n (pc := 8) hx hb dX2_firstOf_8 rfl (lv_at hl 1 rfl) ?_
  refine lv_iadd (pc := 9) hx hb dX2_firstOf_9 ?_
  refine r_ld (pc := 10) X (heC_44 V w) hH h dX2_firstOf_10 (fun v1 h => ?_)
  exact r_iret (pc := 11) X hH h dX2_firstOf_11
def eX2_firstOf (N : Nat) : Nat → Wd → Int32 → Option (Wd × Int32)
  | 0 => fun _ _ => none
  | d + 1 => fun w x1 => bX2_firstOf_0 N d  w x1
set_option maxHeartbeats 4000000 in
set_option maxRecDepth 20000 in
theorem mX2_firstOf {l : Launch} {V : Ev} {N d : Nat} {w : Wd} {x1 : Int32} {z : Wd × Int32} (h : eX2_firstOf N d w x1 = some z) : MetI l V (cC V) (AC V) yX2_firstOf cX2_firstOf 2 (some .int) d [.ref (V.2.2 9), .int x1] w z := by
  cases d with
  | zero => exact c_none h
  | succ d =>
    refine Met.ofW (cc := cX2_firstOf) (maxL := 2) (ret := (some .int)) (by decide) rfl ?_
    intro p e s m args below meth c s₁ B hml hv
    obtain ⟨rfl, hP, hD, hK⟩ := hv
    have hts := atoms_spec (ws := .code yX2_firstOf cX2_firstOf 2 (some .int) :: gG) B.pre
    have X : CX V p s m ([.ref (V.2.2 9), .int x1] : List Value).toArray meth c cX2_firstOf 2 RX2 (some .int) := ⟨B.exec, B.bytes, hml, findClass_of_methodNamed B.named, fun w hw => hts w (List.mem_cons_of_mem _ hw), B.returns, B.notSynchronized, hK⟩
    have hl := lv_entry ([.ref (V.2.2 9), .int x1] : List Value) (n := 2) (Nat.le_of_ble_eq_true rfl)
    rw [lg_entry_eq]
    generalize (lg_sl ([.ref (V.2.2 9), .int x1] : List Value) ++ List.replicate (2 - (lg_sl ([.ref (V.2.2 9), .int x1] : List Value)).length) Slot.unset).toArray = ls at hl ⊢
    have hl : lv_has ls 2 [(0, .ref (V.2.2 9)), (1, .int x1)] := hl
    exact kX2_firstOf_0 (N := N) X  h ⟨hP, hD, va_S.rf⟩ hl
theorem dX2_secondOf_0 : decode cX2_secondOf 0 = .ok (.aload_n 0, 1) := by decide +kernel
theorem dX2_secondOf_1 : decode cX2_secondOf 1 = .ok (.getfield 29, 3) := by decide +kernel
theorem dX2_secondOf_4 : decode cX2_secondOf 4 = .ok (.aload_n 0, 1) := by decide +kernel
theorem dX2_secondOf_5 : decode cX2_secondOf 5 = .ok (.getfield 35, 3) := by decide +kernel
theorem dX2_secondOf_8 : decode cX2_secondOf 8 = .ok (.iload_n 1, 1) := by decide +kernel
theorem dX2_secondOf_9 : decode cX2_secondOf 9 = .ok (.iadd, 1) := by decide +kernel
theorem dX2_secondOf_10 : decode cX2_secondOf 10 = .ok (.iaload, 1) := by decide +kernel
theorem dX2_secondOf_11 : decode cX2_secondOf 11 = .ok (.ireturn, 1) := by decide +kernel
def bX2_secondOf_0 (N d : Nat)   (w : Wd) (x1 : Int32) : Option (Wd × Int32) :=
  c_ld w 49 120 ((sI w 17) + x1) fun v1 =>
  some (w, v1)
set_option maxHeartbeats 4000000 in
theorem kX2_secondOf_0 {V : Ev} {p : Program} {l : Launch} {e : Env} {N d : Nat} {s : State} {m : MethodId} {args : Array Value} {below : List Frame} {meth : Method} {c : Code} {z : Wd × Int32} (X : CX V p s m args meth c cX2_secondOf 2 RX2 (some .int))    {w : Wd} {x1 : Int32} {H : Heap} {locs : List Loc} {ls : Array Slot} (h : bX2_secondOf_0 N d   w x1 = some z) (hH : wH V (cC V) (AC V) s w H locs) (hl : lv_has ls 2 [(0, .ref (V.2.2 9)), (1, .int x1)]) : W p l e (rmD (d + 1)) s m args below meth c H locs 0 0 (MQ below (CtI V (cC V) (AC V) z) args s 0 0 (AC V)) (F0 m 0 ls []) := by
  unfold bX2_secondOf_0 at h
  obtain ⟨hx, hb, hml, hown, hg, hrt, hlk, hK⟩ := id X
  refine lv_aload_n (pc := 0) hx hb dX2_secondOf_0 rfl (lv_at hl 0 rfl) ?_
  refine gC_X2_29_9 (pc := 1) X hH dX2_secondOf_1 ?_
  refine lv_aload_n (pc := 4) hx hb dX2_secondOf_4 rfl (lv_at hl 0 rfl) ?_
  refine gC_X2_35_9 (pc := 5) X hH dX2_secondOf_5 ?_
  refine lv_iload_n (pc := 8) hx hb dX2_secondOf_8 rfl (lv_at hl 1 rfl) ?_
  refine lv_iadd (pc := 9) hx hb dX2_secondOf_9 ?_
  refine r_ld (pc := 10) X (heC_45 V w) hH h dX2_secondOf_10 (fun v1 h => ?_)
  exact r_iret (pc := 11) X hH h dX2_secondOf_11
def eX2_secondOf (N : Nat) : Nat → Wd → Int32 → Option (Wd × Int32)
  | 0 => fun _ _ => none
  | d + 1 => fun w x1 => bX2_secondOf_0 N d  w x1
set_option maxHeartbeats 4000000 in
set_option maxRecDepth 20000 in
theorem mX2_secondOf {l : Launch} {V : Ev} {N d : Nat} {w : Wd} {x1 : Int32} {z : Wd × Int32} (h : eX2_secondOf N d w x1 = some z) : MetI l V (cC V) (AC V) yX2_secondOf cX2_secondOf 2 (some .int) d [.ref (V.2.2 9), .int x1] w z := by
  cases d with
  | zero => exact c_none h
  | succ d =>
    refine Met.ofW (cc := cX2_secondOf) (maxL := 2) (ret := (some .int)) (by decide) rfl ?_
    intro p e s m args below meth c s₁ B hml hv
    obtain ⟨rfl, hP, hD, hK⟩ := hv
    have hts := atoms_spec (ws := .code yX2_secondOf cX2_secondOf 2 (some .int) :: gG) B.pre
    have X : CX V p s m ([.ref (V.2.2 9), .int x1] : List Value).toArray meth c cX2_secondOf 2 RX2 (some .int) := ⟨B.exec, B.bytes, hml, findClass_of_methodNamed B.named, fun w hw => hts w (List.mem_cons_of_mem _ hw), B.returns, B.notSynchronized, hK⟩
    have hl := lv_entry ([.ref (V.2.2 9), .int x1] : List Value) (n := 2) (Nat.le_of_ble_eq_true rfl)
    rw [lg_entry_eq]
    generalize (lg_sl ([.ref (V.2.2 9), .int x1] : List Value) ++ List.replicate (2 - (lg_sl ([.ref (V.2.2 9), .int x1] : List Value)).length) Slot.unset).toArray = ls at hl ⊢
    have hl : lv_has ls 2 [(0, .ref (V.2.2 9)), (1, .int x1)] := hl
    exact kX2_secondOf_0 (N := N) X  h ⟨hP, hD, va_S.rf⟩ hl
theorem dX3_joins_0 : decode cX3_joins 0 = .ok (.aload_n 0, 1) := by decide +kernel
theorem dX3_joins_1 : decode cX3_joins 1 = .ok (.iload_n 3, 1) := by decide +kernel
theorem dX3_joins_2 : decode cX3_joins 2 = .ok (.invokevirtual 54, 3) := by decide +kernel
theorem dX3_joins_5 : decode cX3_joins 5 = .ok (.aload_n 0, 1) := by decide +kernel
theorem dX3_joins_6 : decode cX3_joins 6 = .ok (.iload_n 1, 1) := by decide +kernel
theorem dX3_joins_7 : decode cX3_joins 7 = .ok (.iconst 0, 1) := by decide +kernel
theorem dX3_joins_8 : decode cX3_joins 8 = .ok (.invokevirtual 58, 3) := by decide +kernel
theorem dX3_joins_11 : decode cX3_joins 11 = .ok (.istore 4, 2) := by decide +kernel
theorem dX3_joins_13 : decode cX3_joins 13 = .ok (.iload 4, 2) := by decide +kernel
theorem dX3_joins_15 : decode cX3_joins 15 = .ok (.ifCond .ge 6, 3) := by decide +kernel
theorem dX3_joins_18 : decode cX3_joins 18 = .ok (.iload 4, 2) := by decide +kernel
theorem dX3_joins_20 : decode cX3_joins 20 = .ok (.ireturn, 1) := by decide +kernel
theorem dX3_joins_21 : decode cX3_joins 21 = .ok (.aload_n 0, 1) := by decide +kernel
theorem dX3_joins_22 : decode cX3_joins 22 = .ok (.iload_n 2, 1) := by decide +kernel
theorem dX3_joins_23 : decode cX3_joins 23 = .ok (.iconst 0, 1) := by decide +kernel
theorem dX3_joins_24 : decode cX3_joins 24 = .ok (.invokevirtual 58, 3) := by decide +kernel
theorem dX3_joins_27 : decode cX3_joins 27 = .ok (.istore 5, 2) := by decide +kernel
theorem dX3_joins_29 : decode cX3_joins 29 = .ok (.iload 5, 2) := by decide +kernel
theorem dX3_joins_31 : decode cX3_joins 31 = .ok (.ifCond .ge 6, 3) := by decide +kernel
theorem dX3_joins_34 : decode cX3_joins 34 = .ok (.iload 5, 2) := by decide +kernel
theorem dX3_joins_36 : decode cX3_joins 36 = .ok (.ireturn, 1) := by decide +kernel
theorem dX3_joins_37 : decode cX3_joins 37 = .ok (.iload 4, 2) := by decide +kernel
theorem dX3_joins_39 : decode cX3_joins 39 = .ok (.iload 5, 2) := by decide +kernel
theorem dX3_joins_41 : decode cX3_joins 41 = .ok (.if_icmp .ne 7, 3) := by decide +kernel
theorem dX3_joins_44 : decode cX3_joins 44 = .ok (.iconst 1, 1) := by decide +kernel
theorem dX3_joins_45 : decode cX3_joins 45 = .ok (.goto 4, 3) := by decide +kernel
theorem dX3_joins_48 : decode cX3_joins 48 = .ok (.iconst 0, 1) := by decide +kernel
theorem dX3_joins_49 : decode cX3_joins 49 = .ok (.ireturn, 1) := by decide +kernel
def bX3_joins_49 (N d : Nat)   (w : Wd) (y0 : Int32) : Option (Wd × Int32) :=
  some (w, y0)
set_option maxHeartbeats 4000000 in
theorem kX3_joins_49 {V : Ev} {p : Program} {l : Launch} {e : Env} {N d : Nat} {s : State} {m : MethodId} {args : Array Value} {below : List Frame} {meth : Method} {c : Code} {z : Wd × Int32} (X : CX V p s m args meth c cX3_joins 6 RX3 (some .int))    {w : Wd} {y0 : Int32} {H : Heap} {locs : List Loc} {ls : Array Slot} (h : bX3_joins_49 N d   w y0 = some z) (hH : wH V (cC V) (AC V) s w H locs) (hl : lv_has ls 6 []) : W p l e (rmD (d + 1)) s m args below meth c H locs 0 0 (MQ below (CtI V (cC V) (AC V) z) args s 0 0 (AC V)) (F0 m 49 ls [.int y0]) := by
  unfold bX3_joins_49 at h
  obtain ⟨hx, hb, hml, hown, hg, hrt, hlk, hK⟩ := id X
  exact r_iret (pc := 49) X hH h dX3_joins_49
def bX3_joins_0 (N d : Nat)   (w : Wd) (x1 : Int32) (x2 : Int32) (x3 : Int32) : Option (Wd × Int32) :=
  c_cv (eX3_begin N d w x3) fun w1 =>
  c_cl (eX3_reduce N d w1 x1 0) fun w2 v3 =>
  if 0 ≤ v3 then (
    c_cl (eX3_reduce N d w2 x2 0) fun w4 v5 =>
    if 0 ≤ v5 then (
      if v3 = v5 then (
        bX3_joins_49 N d   w4 1
      ) else (
        bX3_joins_49 N d   w4 0
      )
    ) else (
      some (w4, v5)
    )
  ) else (
    some (w2, v3)
  )
set_option maxHeartbeats 4000000 in
theorem kX3_joins_0 {V : Ev} {p : Program} {l : Launch} {e : Env} {N d : Nat} {s : State} {m : MethodId} {args : Array Value} {below : List Frame} {meth : Method} {c : Code} {z : Wd × Int32} (X : CX V p s m args meth c cX3_joins 6 RX3 (some .int))    {w : Wd} {x1 : Int32} {x2 : Int32} {x3 : Int32} {H : Heap} {locs : List Loc} {ls : Array Slot} (h : bX3_joins_0 N d   w x1 x2 x3 = some z) (hH : wH V (cC V) (AC V) s w H locs) (hl : lv_has ls 6 [(0, .ref (V.2.2 3)), (1, .int x1), (2, .int x2), (3, .int x3)]) : W p l e (rmD (d + 1)) s m args below meth c H locs 0 0 (MQ below (CtI V (cC V) (AC V) z) args s 0 0 (AC V)) (F0 m 0 ls []) := by
  unfold bX3_joins_0 at h
  obtain ⟨hx, hb, hml, hown, hg, hrt, hlk, hK⟩ := id X
  refine lv_aload_n (pc := 0) hx hb dX3_joins_0 rfl (lv_at hl 0 rfl) ?_
  refine lv_iload_n (pc := 1) hx hb dX3_joins_1 rfl (lv_at hl 3 rfl) ?_
  refine r_cvV (pc := 2) (As := [.int x3]) (rest := []) X hH (fun x hx => mX3_begin hx) cw_X3_54 (heC_3 V w) rfl rfl rfl (Nat.le_of_ble_eq_true rfl) hl.1 h dX3_joins_2 (fun w1 H locs h hH => ?_)
  refine lv_aload_n (pc := 5) hx hb dX3_joins_5 rfl (lv_at hl 0 rfl) ?_
  refine lv_iload_n (pc := 6) hx hb dX3_joins_6 rfl (lv_at hl 1 rfl) ?_
  refine lv_iconst (pc := 7) (v := 0) hx hb dX3_joins_7 (by decide) ?_
  refine r_cvI (pc := 8) (As := [.int x1, .int 0]) (rest := []) X hH (fun x hx => mX3_reduce hx) cw_X3_58 (heC_3 V w1) rfl rfl rfl (Nat.le_of_ble_eq_true rfl) hl.1 h dX3_joins_8 (fun w2 v3 H locs h hH => ?_)
  refine lv_istore (pc := 11) (lv' := [(4, .int v3), (0, .ref (V.2.2 3)), (1, .int x1), (2, .int x2), (3, .int x3)]) hx hb dX3_joins_11 hl (by decide) rfl (fun ls hl => ?_)
  refine lv_iload (pc := 13) hx hb dX3_joins_13 (lv_at hl 0 rfl) ?_
  refine b_if_ge (pc := 15) (tgt := 21) hx hb h dX3_joins_15 (by decide) (fun h => ?_) (fun h => ?_)
  · refine lv_aload_n (pc := 21) hx hb dX3_joins_21 rfl (lv_at hl 1 rfl) ?_
    refine lv_iload_n (pc := 22) hx hb dX3_joins_22 rfl (lv_at hl 3 rfl) ?_
    refine lv_iconst (pc := 23) (v := 0) hx hb dX3_joins_23 (by decide) ?_
    refine r_cvI (pc := 24) (As := [.int x2, .int 0]) (rest := []) X hH (fun x hx => mX3_reduce hx) cw_X3_58 (heC_3 V w2) rfl rfl rfl (Nat.le_of_ble_eq_true rfl) hl.1 h dX3_joins_24 (fun w4 v5 H locs h hH => ?_)
    refine lv_istore (pc := 27) (lv' := [(5, .int v5), (4, .int v3), (0, .ref (V.2.2 3)), (1, .int x1), (2, .int x2), (3, .int x3)]) hx hb dX3_joins_27 hl (by decide) rfl (fun ls hl => ?_)
    refine lv_iload (pc := 29) hx hb dX3_joins_29 (lv_at hl 0 rfl) ?_
    refine b_if_ge (pc := 31) (tgt := 37) hx hb h dX3_joins_31 (by decide) (fun h => ?_) (fun h => ?_)
    · refine lv_iload (pc := 37) hx hb dX3_joins_37 (lv_at hl 1 rfl) ?_
      refine lv_iload (pc := 39) hx hb dX3_joins_39 (lv_at hl 0 rfl) ?_
      refine b_icmp_ne (pc := 41) (tgt := 48) hx hb h dX3_joins_41 (by decide) (fun h => ?_) (fun h => ?_)
      · refine lv_iconst (pc := 48) (v := 0) hx hb dX3_joins_48 (by decide) ?_
        exact kX3_joins_49 X   h hH (lv_sub hl [] rfl)
      · refine lv_iconst (pc := 44) (v := 1) hx hb dX3_joins_44 (by decide) ?_
        refine lv_goto (pc := 45) (tgt := 49) hx hb dX3_joins_45 (by decide) ?_
        exact kX3_joins_49 X   h hH (lv_sub hl [] rfl)
    · refine lv_iload (pc := 34) hx hb dX3_joins_34 (lv_at hl 0 rfl) ?_
      exact r_iret (pc := 36) X hH h dX3_joins_36
  · refine lv_iload (pc := 18) hx hb dX3_joins_18 (lv_at hl 0 rfl) ?_
    exact r_iret (pc := 20) X hH h dX3_joins_20
def eX3_joins (N : Nat) : Nat → Wd → Int32 → Int32 → Int32 → Option (Wd × Int32)
  | 0 => fun _ _ _ _ => none
  | d + 1 => fun w x1 x2 x3 => bX3_joins_0 N d  w x1 x2 x3
set_option maxHeartbeats 4000000 in
set_option maxRecDepth 20000 in
theorem mX3_joins {l : Launch} {V : Ev} {N d : Nat} {w : Wd} {x1 : Int32} {x2 : Int32} {x3 : Int32} {z : Wd × Int32} (h : eX3_joins N d w x1 x2 x3 = some z) : MetI l V (cC V) (AC V) yX3_joins cX3_joins 6 (some .int) d [.ref (V.2.2 3), .int x1, .int x2, .int x3] w z := by
  cases d with
  | zero => exact c_none h
  | succ d =>
    refine Met.ofW (cc := cX3_joins) (maxL := 6) (ret := (some .int)) (by decide) rfl ?_
    intro p e s m args below meth c s₁ B hml hv
    obtain ⟨rfl, hP, hD, hK⟩ := hv
    have hts := atoms_spec (ws := .code yX3_joins cX3_joins 6 (some .int) :: gG) B.pre
    have X : CX V p s m ([.ref (V.2.2 3), .int x1, .int x2, .int x3] : List Value).toArray meth c cX3_joins 6 RX3 (some .int) := ⟨B.exec, B.bytes, hml, findClass_of_methodNamed B.named, fun w hw => hts w (List.mem_cons_of_mem _ hw), B.returns, B.notSynchronized, hK⟩
    have hl := lv_entry ([.ref (V.2.2 3), .int x1, .int x2, .int x3] : List Value) (n := 6) (Nat.le_of_ble_eq_true rfl)
    rw [lg_entry_eq]
    generalize (lg_sl ([.ref (V.2.2 3), .int x1, .int x2, .int x3] : List Value) ++ List.replicate (6 - (lg_sl ([.ref (V.2.2 3), .int x1, .int x2, .int x3] : List Value)).length) Slot.unset).toArray = ls at hl ⊢
    have hl : lv_has ls 6 [(0, .ref (V.2.2 3)), (1, .int x1), (2, .int x2), (3, .int x3)] := hl
    exact kX3_joins_0 (N := N) X  h ⟨hP, hD, va_S.rf⟩ hl
theorem dX2_read_0 : decode cX2_read 0 = .ok (.iload_n 2, 1) := by decide +kernel
theorem dX2_read_1 : decode cX2_read 1 = .ok (.tableswitch 76 0 3 #[31, 44, 57, 69], 31) := by decide +kernel
theorem dX2_read_32 : decode cX2_read 32 = .ok (.aload_n 0, 1) := by decide +kernel
theorem dX2_read_33 : decode cX2_read 33 = .ok (.getfield 15, 3) := by decide +kernel
theorem dX2_read_36 : decode cX2_read 36 = .ok (.aload_n 0, 1) := by decide +kernel
theorem dX2_read_37 : decode cX2_read 37 = .ok (.getfield 35, 3) := by decide +kernel
theorem dX2_read_40 : decode cX2_read 40 = .ok (.iload_n 1, 1) := by decide +kernel
theorem dX2_read_41 : decode cX2_read 41 = .ok (.iadd, 1) := by decide +kernel
theorem dX2_read_42 : decode cX2_read 42 = .ok (.iaload, 1) := by decide +kernel
theorem dX2_read_43 : decode cX2_read 43 = .ok (.i2l, 1) := by decide +kernel
theorem dX2_read_44 : decode cX2_read 44 = .ok (.lreturn, 1) := by decide +kernel
theorem dX2_read_45 : decode cX2_read 45 = .ok (.aload_n 0, 1) := by decide +kernel
theorem dX2_read_46 : decode cX2_read 46 = .ok (.getfield 19, 3) := by decide +kernel
theorem dX2_read_49 : decode cX2_read 49 = .ok (.aload_n 0, 1) := by decide +kernel
theorem dX2_read_50 : decode cX2_read 50 = .ok (.getfield 35, 3) := by decide +kernel
theorem dX2_read_53 : decode cX2_read 53 = .ok (.iload_n 1, 1) := by decide +kernel
theorem dX2_read_54 : decode cX2_read 54 = .ok (.iadd, 1) := by decide +kernel
theorem dX2_read_55 : decode cX2_read 55 = .ok (.iaload, 1) := by decide +kernel
theorem dX2_read_56 : decode cX2_read 56 = .ok (.i2l, 1) := by decide +kernel
theorem dX2_read_57 : decode cX2_read 57 = .ok (.lreturn, 1) := by decide +kernel
theorem dX2_read_58 : decode cX2_read 58 = .ok (.aload_n 0, 1) := by decide +kernel
theorem dX2_read_59 : decode cX2_read 59 = .ok (.getfield 22, 3) := by decide +kernel
theorem dX2_read_62 : decode cX2_read 62 = .ok (.aload_n 0, 1) := by decide +kernel
theorem dX2_read_63 : decode cX2_read 63 = .ok (.getfield 35, 3) := by decide +kernel
theorem dX2_read_66 : decode cX2_read 66 = .ok (.iload_n 1, 1) := by decide +kernel
theorem dX2_read_67 : decode cX2_read 67 = .ok (.iadd, 1) := by decide +kernel
theorem dX2_read_68 : decode cX2_read 68 = .ok (.laload, 1) := by decide +kernel
theorem dX2_read_69 : decode cX2_read 69 = .ok (.lreturn, 1) := by decide +kernel
theorem dX2_read_70 : decode cX2_read 70 = .ok (.aload_n 0, 1) := by decide +kernel
theorem dX2_read_71 : decode cX2_read 71 = .ok (.iload_n 1, 1) := by decide +kernel
theorem dX2_read_72 : decode cX2_read 72 = .ok (.invokevirtual 41, 3) := by decide +kernel
theorem dX2_read_75 : decode cX2_read 75 = .ok (.i2l, 1) := by decide +kernel
theorem dX2_read_76 : decode cX2_read 76 = .ok (.lreturn, 1) := by decide +kernel
theorem dX2_read_77 : decode cX2_read 77 = .ok (.aload_n 0, 1) := by decide +kernel
theorem dX2_read_78 : decode cX2_read 78 = .ok (.iload_n 1, 1) := by decide +kernel
theorem dX2_read_79 : decode cX2_read 79 = .ok (.invokevirtual 45, 3) := by decide +kernel
theorem dX2_read_82 : decode cX2_read 82 = .ok (.i2l, 1) := by decide +kernel
theorem dX2_read_83 : decode cX2_read 83 = .ok (.lreturn, 1) := by decide +kernel
def bX2_read_0 (N d : Nat)   (w : Wd) (x1 : Int32) (x2 : Int32) : Option (Wd × Int64) :=
  if x2 = 0 then (
    c_ld w 45 120 ((sI w 17) + x1) fun v1 =>
    some (w, Int32.toInt64 v1)
  ) else (
    if x2 = 1 then (
      c_ld w 46 120 ((sI w 17) + x1) fun v2 =>
      some (w, Int32.toInt64 v2)
    ) else (
      if x2 = 2 then (
        c_ll w 47 120 ((sI w 17) + x1) fun v3 =>
        some (w, v3)
      ) else (
        if x2 = 3 then (
          c_cl (eX2_firstOf N d w x1) fun w4 v5 =>
          some (w4, Int32.toInt64 v5)
        ) else (
          c_cl (eX2_secondOf N d w x1) fun w6 v7 =>
          some (w6, Int32.toInt64 v7)
        )
      )
    )
  )
set_option maxHeartbeats 4000000 in
theorem kX2_read_0 {V : Ev} {p : Program} {l : Launch} {e : Env} {N d : Nat} {s : State} {m : MethodId} {args : Array Value} {below : List Frame} {meth : Method} {c : Code} {z : Wd × Int64} (X : CX V p s m args meth c cX2_read 3 RX2 (some .long))    {w : Wd} {x1 : Int32} {x2 : Int32} {H : Heap} {locs : List Loc} {ls : Array Slot} (h : bX2_read_0 N d   w x1 x2 = some z) (hH : wH V (cC V) (AC V) s w H locs) (hl : lv_has ls 3 [(0, .ref (V.2.2 9)), (1, .int x1), (2, .int x2)]) : W p l e (rmD (d + 1)) s m args below meth c H locs 0 0 (MQ below (CtL V (cC V) (AC V) z) args s 0 0 (AC V)) (F0 m 0 ls []) := by
  unfold bX2_read_0 at h
  obtain ⟨hx, hb, hml, hown, hg, hrt, hlk, hK⟩ := id X
  refine lv_iload_n (pc := 0) hx hb dX2_read_0 rfl (lv_at hl 2 rfl) ?_
  refine b_sw h (fun q0 h => ?_) (fun q0 h => ?_)
  · refine lv_tableIn (pc := 1) (tgt := 32) hx hb dX2_read_1 (by rw [q0]; decide) (by rw [q0]; decide) (by rw [q0]; rfl) (by decide) ?_
    refine lv_aload_n (pc := 32) hx hb dX2_read_32 rfl (lv_at hl 0 rfl) ?_
    refine gC_X2_15_9 (pc := 33) X hH dX2_read_33 ?_
    refine lv_aload_n (pc := 36) hx hb dX2_read_36 rfl (lv_at hl 0 rfl) ?_
    refine gC_X2_35_9 (pc := 37) X hH dX2_read_37 ?_
    refine lv_iload_n (pc := 40) hx hb dX2_read_40 rfl (lv_at hl 1 rfl) ?_
    refine lv_iadd (pc := 41) hx hb dX2_read_41 ?_
    refine r_ld (pc := 42) X (heC_41 V w) hH h dX2_read_42 (fun v1 h => ?_)
    refine lv_i2l (pc := 43) hx hb dX2_read_43 rfl ?_
    exact r_lret (pc := 44) X hH h dX2_read_44
  refine b_sw h (fun q1 h => ?_) (fun q1 h => ?_)
  · refine lv_tableIn (pc := 1) (tgt := 45) hx hb dX2_read_1 (by rw [q1]; decide) (by rw [q1]; decide) (by rw [q1]; rfl) (by decide) ?_
    refine lv_aload_n (pc := 45) hx hb dX2_read_45 rfl (lv_at hl 0 rfl) ?_
    refine gC_X2_19_9 (pc := 46) X hH dX2_read_46 ?_
    refine lv_aload_n (pc := 49) hx hb dX2_read_49 rfl (lv_at hl 0 rfl) ?_
    refine gC_X2_35_9 (pc := 50) X hH dX2_read_50 ?_
    refine lv_iload_n (pc := 53) hx hb dX2_read_53 rfl (lv_at hl 1 rfl) ?_
    refine lv_iadd (pc := 54) hx hb dX2_read_54 ?_
    refine r_ld (pc := 55) X (heC_42 V w) hH h dX2_read_55 (fun v2 h => ?_)
    refine lv_i2l (pc := 56) hx hb dX2_read_56 rfl ?_
    exact r_lret (pc := 57) X hH h dX2_read_57
  refine b_sw h (fun q2 h => ?_) (fun q2 h => ?_)
  · refine lv_tableIn (pc := 1) (tgt := 58) hx hb dX2_read_1 (by rw [q2]; decide) (by rw [q2]; decide) (by rw [q2]; rfl) (by decide) ?_
    refine lv_aload_n (pc := 58) hx hb dX2_read_58 rfl (lv_at hl 0 rfl) ?_
    refine gC_X2_22_9 (pc := 59) X hH dX2_read_59 ?_
    refine lv_aload_n (pc := 62) hx hb dX2_read_62 rfl (lv_at hl 0 rfl) ?_
    refine gC_X2_35_9 (pc := 63) X hH dX2_read_63 ?_
    refine lv_iload_n (pc := 66) hx hb dX2_read_66 rfl (lv_at hl 1 rfl) ?_
    refine lv_iadd (pc := 67) hx hb dX2_read_67 ?_
    refine r_ll (pc := 68) X (heC_43 V w) hH h dX2_read_68 (fun v3 h => ?_)
    exact r_lret (pc := 69) X hH h dX2_read_69
  refine b_sw h (fun q3 h => ?_) (fun q3 h => ?_)
  · refine lv_tableIn (pc := 1) (tgt := 70) hx hb dX2_read_1 (by rw [q3]; decide) (by rw [q3]; decide) (by rw [q3]; rfl) (by decide) ?_
    refine lv_aload_n (pc := 70) hx hb dX2_read_70 rfl (lv_at hl 0 rfl) ?_
    refine lv_iload_n (pc := 71) hx hb dX2_read_71 rfl (lv_at hl 1 rfl) ?_
    refine r_cvI (pc := 72) (As := [.int x1]) (rest := []) X hH (fun x hx => mX2_firstOf hx) cw_X2_41 (heC_9 V w) rfl rfl rfl (Nat.le_of_ble_eq_true rfl) hl.1 h dX2_read_72 (fun w4 v5 H locs h hH => ?_)
    refine lv_i2l (pc := 75) hx hb dX2_read_75 rfl ?_
    exact r_lret (pc := 76) X hH h dX2_read_76
  have qd : x2.toInt < 0 ∨ 3 < x2.toInt := by have := lv_neT q0 (show (0 : Int32).toInt = 0 from rfl); have := lv_neT q1 (show (1 : Int32).toInt = 1 from rfl); have := lv_neT q2 (show (2 : Int32).toInt = 2 from rfl); have := lv_neT q3 (show (3 : Int32).toInt = 3 from rfl); omega
  refine lv_tableOut (pc := 1) (tgt := 77) hx hb dX2_read_1 qd (by decide) ?_
  refine lv_aload_n (pc := 77) hx hb dX2_read_77 rfl (lv_at hl 0 rfl) ?_
  refine lv_iload_n (pc := 78) hx hb dX2_read_78 rfl (lv_at hl 1 rfl) ?_
  refine r_cvI (pc := 79) (As := [.int x1]) (rest := []) X hH (fun x hx => mX2_secondOf hx) cw_X2_45 (heC_9 V w) rfl rfl rfl (Nat.le_of_ble_eq_true rfl) hl.1 h dX2_read_79 (fun w6 v7 H locs h hH => ?_)
  refine lv_i2l (pc := 82) hx hb dX2_read_82 rfl ?_
  exact r_lret (pc := 83) X hH h dX2_read_83
def eX2_read (N : Nat) : Nat → Wd → Int32 → Int32 → Option (Wd × Int64)
  | 0 => fun _ _ _ => none
  | d + 1 => fun w x1 x2 => bX2_read_0 N d  w x1 x2
set_option maxHeartbeats 4000000 in
set_option maxRecDepth 20000 in
theorem mX2_read {l : Launch} {V : Ev} {N d : Nat} {w : Wd} {x1 : Int32} {x2 : Int32} {z : Wd × Int64} (h : eX2_read N d w x1 x2 = some z) : MetL l V (cC V) (AC V) yX2_read cX2_read 3 (some .long) d [.ref (V.2.2 9), .int x1, .int x2] w z := by
  cases d with
  | zero => exact c_none h
  | succ d =>
    refine Met.ofW (cc := cX2_read) (maxL := 3) (ret := (some .long)) (by decide) rfl ?_
    intro p e s m args below meth c s₁ B hml hv
    obtain ⟨rfl, hP, hD, hK⟩ := hv
    have hts := atoms_spec (ws := .code yX2_read cX2_read 3 (some .long) :: gG) B.pre
    have X : CX V p s m ([.ref (V.2.2 9), .int x1, .int x2] : List Value).toArray meth c cX2_read 3 RX2 (some .long) := ⟨B.exec, B.bytes, hml, findClass_of_methodNamed B.named, fun w hw => hts w (List.mem_cons_of_mem _ hw), B.returns, B.notSynchronized, hK⟩
    have hl := lv_entry ([.ref (V.2.2 9), .int x1, .int x2] : List Value) (n := 3) (Nat.le_of_ble_eq_true rfl)
    rw [lg_entry_eq]
    generalize (lg_sl ([.ref (V.2.2 9), .int x1, .int x2] : List Value) ++ List.replicate (3 - (lg_sl ([.ref (V.2.2 9), .int x1, .int x2] : List Value)).length) Slot.unset).toArray = ls at hl ⊢
    have hl : lv_has ls 3 [(0, .ref (V.2.2 9)), (1, .int x1), (2, .int x2)] := hl
    exact kX2_read_0 (N := N) X  h ⟨hP, hD, va_S.rf⟩ hl
