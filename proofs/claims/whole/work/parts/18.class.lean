theorem dX10_judge_0 : decode cX10_judge 0 = .ok (.aload_n 0, 1) := by decide +kernel
theorem dX10_judge_1 : decode cX10_judge 1 = .ok (.iload_n 1, 1) := by decide +kernel
theorem dX10_judge_2 : decode cX10_judge 2 = .ok (.invokevirtual 92, 3) := by decide +kernel
theorem dX10_judge_5 : decode cX10_judge 5 = .ok (.ifCond .ne 6, 3) := by decide +kernel
theorem dX10_judge_8 : decode cX10_judge 8 = .ok (.bipush (-2), 2) := by decide +kernel
theorem dX10_judge_10 : decode cX10_judge 10 = .ok (.ireturn, 1) := by decide +kernel
theorem dX10_judge_11 : decode cX10_judge 11 = .ok (.aload_n 0, 1) := by decide +kernel
theorem dX10_judge_12 : decode cX10_judge 12 = .ok (.getfield 19, 3) := by decide +kernel
theorem dX10_judge_15 : decode cX10_judge 15 = .ok (.getfield 129, 3) := by decide +kernel
theorem dX10_judge_18 : decode cX10_judge 18 = .ok (.iload_n 1, 1) := by decide +kernel
theorem dX10_judge_19 : decode cX10_judge 19 = .ok (.iaload, 1) := by decide +kernel
theorem dX10_judge_20 : decode cX10_judge 20 = .ok (.istore_n 2, 1) := by decide +kernel
theorem dX10_judge_21 : decode cX10_judge 21 = .ok (.aload_n 0, 1) := by decide +kernel
theorem dX10_judge_22 : decode cX10_judge 22 = .ok (.getfield 19, 3) := by decide +kernel
theorem dX10_judge_25 : decode cX10_judge 25 = .ok (.getfield 132, 3) := by decide +kernel
theorem dX10_judge_28 : decode cX10_judge 28 = .ok (.iload_n 1, 1) := by decide +kernel
theorem dX10_judge_29 : decode cX10_judge 29 = .ok (.iaload, 1) := by decide +kernel
theorem dX10_judge_30 : decode cX10_judge 30 = .ok (.istore_n 3, 1) := by decide +kernel
theorem dX10_judge_31 : decode cX10_judge 31 = .ok (.aload_n 0, 1) := by decide +kernel
theorem dX10_judge_32 : decode cX10_judge 32 = .ok (.getfield 15, 3) := by decide +kernel
theorem dX10_judge_35 : decode cX10_judge 35 = .ok (.getfield 99, 3) := by decide +kernel
theorem dX10_judge_38 : decode cX10_judge 38 = .ok (.istore 4, 2) := by decide +kernel
theorem dX10_judge_40 : decode cX10_judge 40 = .ok (.aload_n 0, 1) := by decide +kernel
theorem dX10_judge_41 : decode cX10_judge 41 = .ok (.aload_n 0, 1) := by decide +kernel
theorem dX10_judge_42 : decode cX10_judge 42 = .ok (.getfield 28, 3) := by decide +kernel
theorem dX10_judge_45 : decode cX10_judge 45 = .ok (.iload_n 2, 1) := by decide +kernel
theorem dX10_judge_46 : decode cX10_judge 46 = .ok (.iload_n 3, 1) := by decide +kernel
theorem dX10_judge_47 : decode cX10_judge 47 = .ok (.iload_n 1, 1) := by decide +kernel
theorem dX10_judge_48 : decode cX10_judge 48 = .ok (.invokevirtual 167, 3) := by decide +kernel
theorem dX10_judge_51 : decode cX10_judge 51 = .ok (.iload 4, 2) := by decide +kernel
theorem dX10_judge_53 : decode cX10_judge 53 = .ok (.invokevirtual 146, 3) := by decide +kernel
theorem dX10_judge_56 : decode cX10_judge 56 = .ok (.istore 5, 2) := by decide +kernel
theorem dX10_judge_58 : decode cX10_judge 58 = .ok (.iload 5, 2) := by decide +kernel
theorem dX10_judge_60 : decode cX10_judge 60 = .ok (.bipush (-4), 2) := by decide +kernel
theorem dX10_judge_62 : decode cX10_judge 62 = .ok (.if_icmp .ne 6, 3) := by decide +kernel
theorem dX10_judge_65 : decode cX10_judge 65 = .ok (.bipush (-4), 2) := by decide +kernel
theorem dX10_judge_67 : decode cX10_judge 67 = .ok (.ireturn, 1) := by decide +kernel
theorem dX10_judge_68 : decode cX10_judge 68 = .ok (.aload_n 0, 1) := by decide +kernel
theorem dX10_judge_69 : decode cX10_judge 69 = .ok (.getfield 51, 3) := by decide +kernel
theorem dX10_judge_72 : decode cX10_judge 72 = .ok (.iconst 0, 1) := by decide +kernel
theorem dX10_judge_73 : decode cX10_judge 73 = .ok (.putfield 187, 3) := by decide +kernel
theorem dX10_judge_76 : decode cX10_judge 76 = .ok (.iload 5, 2) := by decide +kernel
theorem dX10_judge_78 : decode cX10_judge 78 = .ok (.iconst 1, 1) := by decide +kernel
theorem dX10_judge_79 : decode cX10_judge 79 = .ok (.if_icmp .ne 5, 3) := by decide +kernel
theorem dX10_judge_82 : decode cX10_judge 82 = .ok (.iconst 1, 1) := by decide +kernel
theorem dX10_judge_83 : decode cX10_judge 83 = .ok (.ireturn, 1) := by decide +kernel
theorem dX10_judge_84 : decode cX10_judge 84 = .ok (.aload_n 0, 1) := by decide +kernel
theorem dX10_judge_85 : decode cX10_judge 85 = .ok (.getfield 51, 3) := by decide +kernel
theorem dX10_judge_88 : decode cX10_judge 88 = .ok (.getfield 171, 3) := by decide +kernel
theorem dX10_judge_91 : decode cX10_judge 91 = .ok (.ifCond .ne 5, 3) := by decide +kernel
theorem dX10_judge_94 : decode cX10_judge 94 = .ok (.iconst 3, 1) := by decide +kernel
theorem dX10_judge_95 : decode cX10_judge 95 = .ok (.ireturn, 1) := by decide +kernel
theorem dX10_judge_96 : decode cX10_judge 96 = .ok (.aload_n 0, 1) := by decide +kernel
theorem dX10_judge_97 : decode cX10_judge 97 = .ok (.getfield 51, 3) := by decide +kernel
theorem dX10_judge_100 : decode cX10_judge 100 = .ok (.aload_n 0, 1) := by decide +kernel
theorem dX10_judge_101 : decode cX10_judge 101 = .ok (.getfield 51, 3) := by decide +kernel
theorem dX10_judge_104 : decode cX10_judge 104 = .ok (.iload_n 2, 1) := by decide +kernel
theorem dX10_judge_105 : decode cX10_judge 105 = .ok (.iload_n 3, 1) := by decide +kernel
theorem dX10_judge_106 : decode cX10_judge 106 = .ok (.invokevirtual 191, 3) := by decide +kernel
theorem dX10_judge_109 : decode cX10_judge 109 = .ok (.putfield 187, 3) := by decide +kernel
theorem dX10_judge_112 : decode cX10_judge 112 = .ok (.aload_n 0, 1) := by decide +kernel
theorem dX10_judge_113 : decode cX10_judge 113 = .ok (.getfield 51, 3) := by decide +kernel
theorem dX10_judge_116 : decode cX10_judge 116 = .ok (.getfield 187, 3) := by decide +kernel
theorem dX10_judge_119 : decode cX10_judge 119 = .ok (.ifCond .eq 7, 3) := by decide +kernel
theorem dX10_judge_122 : decode cX10_judge 122 = .ok (.iconst 0, 1) := by decide +kernel
theorem dX10_judge_123 : decode cX10_judge 123 = .ok (.goto 4, 3) := by decide +kernel
theorem dX10_judge_126 : decode cX10_judge 126 = .ok (.iconst 2, 1) := by decide +kernel
theorem dX10_judge_127 : decode cX10_judge 127 = .ok (.ireturn, 1) := by decide +kernel
def bX10_judge_127 (N d : Nat)   (w : Wd) (y0 : Int32) : Option (Wd × Int32) :=
  some (w, y0)
set_option maxHeartbeats 4000000 in
theorem kX10_judge_127 {V : Ev} {p : Program} {l : Launch} {e : Env} {N d : Nat} {s : State} {m : MethodId} {args : Array Value} {below : List Frame} {meth : Method} {c : Code} {z : Wd × Int32} (X : CX V p s m args meth c cX10_judge 6 RX10 (some .int))    {w : Wd} {y0 : Int32} {H : Heap} {locs : List Loc} {ls : Array Slot} (h : bX10_judge_127 N d   w y0 = some z) (hH : wH V (cC V) (AC V) s w H locs) (hl : lv_has ls 6 []) : W p l e (rmD (d + 1)) s m args below meth c H locs 0 0 (MQ below (CtI V (cC V) (AC V) z) args s 0 0 (AC V)) (F0 m 127 ls [.int y0]) := by
  unfold bX10_judge_127 at h
  obtain ⟨hx, hb, hml, hown, hg, hrt, hlk, hK⟩ := id X
  exact r_iret (pc := 127) X hH h dX10_judge_127
def bX10_judge_0 (N d : Nat)   (w : Wd) (x1 : Int32) : Option (Wd × Int32) :=
  c_cl (eX10_isRule N d w x1) fun w1 v2 =>
  if v2 = 0 then (
    some (w1, -2)
  ) else (
    c_ld w1 23 16 x1 fun v3 =>
    c_ld w1 24 16 x1 fun v4 =>
    c_nm (sI w1 1) fun x4_5 =>
    c_cl (eX3_joins N d w1 v3 v4 x1) fun w6 v7 =>
    c_cl (eX10_undoIfFull N d w6 v7 x4_5) fun w8 v9 =>
    if v9 = (-4) then (
      some (w8, -4)
    ) else (
      c_pi w8 11 0 fun w10 =>
      if v9 = 1 then (
        some (w10, 1)
      ) else (
        if (sI w10 10) = 0 then (
          some (w10, 3)
        ) else (
          c_cl (eX7_refutes N d w10 v3 v4) fun w11 v12 =>
          c_bo v12 <|
          c_pi w11 11 v12 fun w13 =>
          if (sI w13 11) = 0 then (
            bX10_judge_127 N d   w13 2
          ) else (
            bX10_judge_127 N d   w13 0
          )
        )
      )
    )
  )
set_option maxHeartbeats 4000000 in
theorem kX10_judge_0 {V : Ev} {p : Program} {l : Launch} {e : Env} {N d : Nat} {s : State} {m : MethodId} {args : Array Value} {below : List Frame} {meth : Method} {c : Code} {z : Wd × Int32} (X : CX V p s m args meth c cX10_judge 6 RX10 (some .int))    {w : Wd} {x1 : Int32} {H : Heap} {locs : List Loc} {ls : Array Slot} (h : bX10_judge_0 N d   w x1 = some z) (hH : wH V (cC V) (AC V) s w H locs) (hl : lv_has ls 6 [(0, .ref (V.2.2 0)), (1, .int x1)]) : W p l e (rmD (d + 1)) s m args below meth c H locs 0 0 (MQ below (CtI V (cC V) (AC V) z) args s 0 0 (AC V)) (F0 m 0 ls []) := by
  unfold bX10_judge_0 at h
  obtain ⟨hx, hb, hml, hown, hg, hrt, hlk, hK⟩ := id X
  refine lv_aload_n (pc := 0) hx hb dX10_judge_0 rfl (lv_at hl 0 rfl) ?_
  refine lv_iload_n (pc := 1) hx hb dX10_judge_1 rfl (lv_at hl 1 rfl) ?_
  refine r_cvI (pc := 2) (As := [.int x1]) (rest := []) X hH (fun x hx => mX10_isRule hx) cw_X10_92 (heC_0 V w) rfl rfl rfl (Nat.le_of_ble_eq_true rfl) hl.1 h dX10_judge_2 (fun w1 v2 H locs h hH => ?_)
  refine b_if_ne (pc := 5) (tgt := 11) hx hb h dX10_judge_5 (by decide) (fun h => ?_) (fun h => ?_)
  · refine lv_aload_n (pc := 11) hx hb dX10_judge_11 rfl (lv_at hl 0 rfl) ?_
    refine gC_X10_19_0 (pc := 12) X hH dX10_judge_12 ?_
    refine gC_X10_129_2 (pc := 15) X hH dX10_judge_15 ?_
    refine lv_iload_n (pc := 18) hx hb dX10_judge_18 rfl (lv_at hl 1 rfl) ?_
    refine r_ld (pc := 19) X (heC_23 V w1) hH h dX10_judge_19 (fun v3 h => ?_)
    refine lv_istore_n (pc := 20) (lv' := [(2, .int v3), (0, .ref (V.2.2 0)), (1, .int x1)]) hx hb dX10_judge_20 rfl hl (by decide) rfl (fun ls hl => ?_)
    refine lv_aload_n (pc := 21) hx hb dX10_judge_21 rfl (lv_at hl 1 rfl) ?_
    refine gC_X10_19_0 (pc := 22) X hH dX10_judge_22 ?_
    refine gC_X10_132_2 (pc := 25) X hH dX10_judge_25 ?_
    refine lv_iload_n (pc := 28) hx hb dX10_judge_28 rfl (lv_at hl 2 rfl) ?_
    refine r_ld (pc := 29) X (heC_24 V w1) hH h dX10_judge_29 (fun v4 h => ?_)
    refine lv_istore_n (pc := 30) (lv' := [(3, .int v4), (2, .int v3), (0, .ref (V.2.2 0)), (1, .int x1)]) hx hb dX10_judge_30 rfl hl (by decide) rfl (fun ls hl => ?_)
    refine lv_aload_n (pc := 31) hx hb dX10_judge_31 rfl (lv_at hl 2 rfl) ?_
    refine gC_X10_15_0 (pc := 32) X hH dX10_judge_32 ?_
    refine gC_X10_99_1 (pc := 35) X hH dX10_judge_35 ?_
    refine r_nmi h (fun x4_5 h => ?_)
    refine lv_istore (pc := 38) (lv' := [(4, .int x4_5), (3, .int v4), (2, .int v3), (0, .ref (V.2.2 0)), (1, .int x1)]) hx hb dX10_judge_38 hl (by decide) rfl (fun ls hl => ?_)
    refine lv_aload_n (pc := 40) hx hb dX10_judge_40 rfl (lv_at hl 3 rfl) ?_
    refine lv_aload_n (pc := 41) hx hb dX10_judge_41 rfl (lv_at hl 3 rfl) ?_
    refine gC_X10_28_0 (pc := 42) X hH dX10_judge_42 ?_
    refine lv_iload_n (pc := 45) hx hb dX10_judge_45 rfl (lv_at hl 2 rfl) ?_
    refine lv_iload_n (pc := 46) hx hb dX10_judge_46 rfl (lv_at hl 1 rfl) ?_
    refine lv_iload_n (pc := 47) hx hb dX10_judge_47 rfl (lv_at hl 4 rfl) ?_
    refine r_cvI (pc := 48) (As := [.int v3, .int v4, .int x1]) (rest := [.ref (V.2.2 0)]) X hH (fun x hx => mX3_joins hx) cw_X10_167 (heC_3 V w1) rfl rfl rfl (Nat.le_of_ble_eq_true rfl) hl.1 h dX10_judge_48 (fun w6 v7 H locs h hH => ?_)
    refine lv_iload (pc := 51) hx hb dX10_judge_51 (lv_at hl 0 rfl) ?_
    refine r_cvI (pc := 53) (As := [.int v7, .int x4_5]) (rest := []) X hH (fun x hx => mX10_undoIfFull hx) cw_X10_146 (heC_0 V w6) rfl rfl rfl (Nat.le_of_ble_eq_true rfl) hl.1 h dX10_judge_53 (fun w8 v9 H locs h hH => ?_)
    refine lv_istore (pc := 56) (lv' := [(5, .int v9), (4, .int x4_5), (3, .int v4), (2, .int v3), (0, .ref (V.2.2 0)), (1, .int x1)]) hx hb dX10_judge_56 hl (by decide) rfl (fun ls hl => ?_)
    refine lv_iload (pc := 58) hx hb dX10_judge_58 (lv_at hl 0 rfl) ?_
    refine lv_bipush (pc := 60) (v := -4) hx hb dX10_judge_60 (by decide) ?_
    refine b_icmp_ne (pc := 62) (tgt := 68) hx hb h dX10_judge_62 (by decide) (fun h => ?_) (fun h => ?_)
    · refine lv_aload_n (pc := 68) hx hb dX10_judge_68 rfl (lv_at hl 4 rfl) ?_
      refine gC_X10_51_0 (pc := 69) X hH dX10_judge_69 ?_
      refine lv_iconst (pc := 72) (v := 0) hx hb dX10_judge_72 (by decide) ?_
      refine pC_X10_187_6 (pc := 73) X hH (Or.inl rfl) h dX10_judge_73 (fun w10 H locs h hH => ?_)
      refine lv_iload (pc := 76) hx hb dX10_judge_76 (lv_at hl 0 rfl) ?_
      refine lv_iconst (pc := 78) (v := 1) hx hb dX10_judge_78 (by decide) ?_
      refine b_icmp_ne (pc := 79) (tgt := 84) hx hb h dX10_judge_79 (by decide) (fun h => ?_) (fun h => ?_)
      · refine lv_aload_n (pc := 84) hx hb dX10_judge_84 rfl (lv_at hl 4 rfl) ?_
        refine gC_X10_51_0 (pc := 85) X hH dX10_judge_85 ?_
        refine gC_X10_171_6 (pc := 88) X hH dX10_judge_88 ?_
        refine b_if_ne (pc := 91) (tgt := 96) hx hb h dX10_judge_91 (by decide) (fun h => ?_) (fun h => ?_)
        · refine lv_aload_n (pc := 96) hx hb dX10_judge_96 rfl (lv_at hl 4 rfl) ?_
          refine gC_X10_51_0 (pc := 97) X hH dX10_judge_97 ?_
          refine lv_aload_n (pc := 100) hx hb dX10_judge_100 rfl (lv_at hl 4 rfl) ?_
          refine gC_X10_51_0 (pc := 101) X hH dX10_judge_101 ?_
          refine lv_iload_n (pc := 104) hx hb dX10_judge_104 rfl (lv_at hl 3 rfl) ?_
          refine lv_iload_n (pc := 105) hx hb dX10_judge_105 rfl (lv_at hl 2 rfl) ?_
          refine r_cvI (pc := 106) (As := [.int v3, .int v4]) (rest := [.ref (V.2.2 6)]) X hH (fun x hx => mX7_refutes hx) cw_X10_191 (heC_6 V w10) rfl rfl rfl (Nat.le_of_ble_eq_true rfl) hl.1 h dX10_judge_106 (fun w11 v12 H locs h hH => ?_)
          refine b_bo h (fun hv h => ?_)
          refine pC_X10_187_6 (pc := 109) X hH hv h dX10_judge_109 (fun w13 H locs h hH => ?_)
          refine lv_aload_n (pc := 112) hx hb dX10_judge_112 rfl (lv_at hl 4 rfl) ?_
          refine gC_X10_51_0 (pc := 113) X hH dX10_judge_113 ?_
          refine gC_X10_187_6 (pc := 116) X hH dX10_judge_116 ?_
          refine b_if_eq (pc := 119) (tgt := 126) hx hb h dX10_judge_119 (by decide) (fun h => ?_) (fun h => ?_)
          · refine lv_iconst (pc := 126) (v := 2) hx hb dX10_judge_126 (by decide) ?_
            exact kX10_judge_127 X   h hH (lv_sub hl [] rfl)
          · refine lv_iconst (pc := 122) (v := 0) hx hb dX10_judge_122 (by decide) ?_
            refine lv_goto (pc := 123) (tgt := 127) hx hb dX10_judge_123 (by decide) ?_
            exact kX10_judge_127 X   h hH (lv_sub hl [] rfl)
        · refine lv_iconst (pc := 94) (v := 3) hx hb dX10_judge_94 (by decide) ?_
          exact r_iret (pc := 95) X hH h dX10_judge_95
      · refine lv_iconst (pc := 82) (v := 1) hx hb dX10_judge_82 (by decide) ?_
        exact r_iret (pc := 83) X hH h dX10_judge_83
    · refine lv_bipush (pc := 65) (v := -4) hx hb dX10_judge_65 (by decide) ?_
      exact r_iret (pc := 67) X hH h dX10_judge_67
  · refine lv_bipush (pc := 8) (v := -2) hx hb dX10_judge_8 (by decide) ?_
    exact r_iret (pc := 10) X hH h dX10_judge_10
def eX10_judge (N : Nat) : Nat → Wd → Int32 → Option (Wd × Int32)
  | 0 => fun _ _ => none
  | d + 1 => fun w x1 => bX10_judge_0 N d  w x1
set_option maxHeartbeats 4000000 in
set_option maxRecDepth 20000 in
theorem mX10_judge {l : Launch} {V : Ev} {N d : Nat} {w : Wd} {x1 : Int32} {z : Wd × Int32} (h : eX10_judge N d w x1 = some z) : MetI l V (cC V) (AC V) yX10_judge cX10_judge 6 (some .int) d [.ref (V.2.2 0), .int x1] w z := by
  cases d with
  | zero => exact c_none h
  | succ d =>
    refine Met.ofW (cc := cX10_judge) (maxL := 6) (ret := (some .int)) (by decide) rfl ?_
    intro p e s m args below meth c s₁ B hml hv
    obtain ⟨rfl, hP, hD, hK⟩ := hv
    have hts := atoms_spec (ws := .code yX10_judge cX10_judge 6 (some .int) :: gG) B.pre
    have X : CX V p s m ([.ref (V.2.2 0), .int x1] : List Value).toArray meth c cX10_judge 6 RX10 (some .int) := ⟨B.exec, B.bytes, hml, findClass_of_methodNamed B.named, fun w hw => hts w (List.mem_cons_of_mem _ hw), B.returns, B.notSynchronized, hK⟩
    have hl := lv_entry ([.ref (V.2.2 0), .int x1] : List Value) (n := 6) (Nat.le_of_ble_eq_true rfl)
    rw [lg_entry_eq]
    generalize (lg_sl ([.ref (V.2.2 0), .int x1] : List Value) ++ List.replicate (6 - (lg_sl ([.ref (V.2.2 0), .int x1] : List Value)).length) Slot.unset).toArray = ls at hl ⊢
    have hl : lv_has ls 6 [(0, .ref (V.2.2 0)), (1, .int x1)] := hl
    exact kX10_judge_0 (N := N) X  h ⟨hP, hD, va_S.rf⟩ hl
theorem dX10_refuted_0 : decode cX10_refuted 0 = .ok (.iload_n 1, 1) := by decide +kernel
theorem dX10_refuted_1 : decode cX10_refuted 1 = .ok (.iconst 4, 1) := by decide +kernel
theorem dX10_refuted_2 : decode cX10_refuted 2 = .ok (.invokestatic 66, 3) := by decide +kernel
theorem dX10_refuted_5 : decode cX10_refuted 5 = .ok (.ifCond .ne 6, 3) := by decide +kernel
theorem dX10_refuted_8 : decode cX10_refuted 8 = .ok (.bipush (-2), 2) := by decide +kernel
theorem dX10_refuted_10 : decode cX10_refuted 10 = .ok (.ireturn, 1) := by decide +kernel
theorem dX10_refuted_11 : decode cX10_refuted 11 = .ok (.aload_n 0, 1) := by decide +kernel
theorem dX10_refuted_12 : decode cX10_refuted 12 = .ok (.getfield 51, 3) := by decide +kernel
theorem dX10_refuted_15 : decode cX10_refuted 15 = .ok (.getfield 187, 3) := by decide +kernel
theorem dX10_refuted_18 : decode cX10_refuted 18 = .ok (.ifCond .eq 15, 3) := by decide +kernel
theorem dX10_refuted_21 : decode cX10_refuted 21 = .ok (.aload_n 0, 1) := by decide +kernel
theorem dX10_refuted_22 : decode cX10_refuted 22 = .ok (.getfield 51, 3) := by decide +kernel
theorem dX10_refuted_25 : decode cX10_refuted 25 = .ok (.getfield 194, 3) := by decide +kernel
theorem dX10_refuted_28 : decode cX10_refuted 28 = .ok (.iload_n 1, 1) := by decide +kernel
theorem dX10_refuted_29 : decode cX10_refuted 29 = .ok (.iaload, 1) := by decide +kernel
theorem dX10_refuted_30 : decode cX10_refuted 30 = .ok (.goto 4, 3) := by decide +kernel
theorem dX10_refuted_33 : decode cX10_refuted 33 = .ok (.iconst (-1), 1) := by decide +kernel
theorem dX10_refuted_34 : decode cX10_refuted 34 = .ok (.ireturn, 1) := by decide +kernel
def bX10_refuted_34 (N d : Nat)   (w : Wd) (y0 : Int32) : Option (Wd × Int32) :=
  some (w, y0)
set_option maxHeartbeats 4000000 in
theorem kX10_refuted_34 {V : Ev} {p : Program} {l : Launch} {e : Env} {N d : Nat} {s : State} {m : MethodId} {args : Array Value} {below : List Frame} {meth : Method} {c : Code} {z : Wd × Int32} (X : CX V p s m args meth c cX10_refuted 2 RX10 (some .int))    {w : Wd} {y0 : Int32} {H : Heap} {locs : List Loc} {ls : Array Slot} (h : bX10_refuted_34 N d   w y0 = some z) (hH : wH V (cC V) (AC V) s w H locs) (hl : lv_has ls 2 []) : W p l e (rmD (d + 1)) s m args below meth c H locs 0 0 (MQ below (CtI V (cC V) (AC V) z) args s 0 0 (AC V)) (F0 m 34 ls [.int y0]) := by
  unfold bX10_refuted_34 at h
  obtain ⟨hx, hb, hml, hown, hg, hrt, hlk, hK⟩ := id X
  exact r_iret (pc := 34) X hH h dX10_refuted_34
def bX10_refuted_0 (N d : Nat)   (w : Wd) (x1 : Int32) : Option (Wd × Int32) :=
  c_cl (eX10_isWithin N d w x1 4) fun w1 v2 =>
  if v2 = 0 then (
    some (w1, -2)
  ) else (
    if (sI w1 11) = 0 then (
      bX10_refuted_34 N d   w1 (-1)
    ) else (
      c_ld w1 37 8 x1 fun v3 =>
      bX10_refuted_34 N d   w1 v3
    )
  )
set_option maxHeartbeats 4000000 in
theorem kX10_refuted_0 {V : Ev} {p : Program} {l : Launch} {e : Env} {N d : Nat} {s : State} {m : MethodId} {args : Array Value} {below : List Frame} {meth : Method} {c : Code} {z : Wd × Int32} (X : CX V p s m args meth c cX10_refuted 2 RX10 (some .int))    {w : Wd} {x1 : Int32} {H : Heap} {locs : List Loc} {ls : Array Slot} (h : bX10_refuted_0 N d   w x1 = some z) (hH : wH V (cC V) (AC V) s w H locs) (hl : lv_has ls 2 [(0, .ref (V.2.2 0)), (1, .int x1)]) : W p l e (rmD (d + 1)) s m args below meth c H locs 0 0 (MQ below (CtI V (cC V) (AC V) z) args s 0 0 (AC V)) (F0 m 0 ls []) := by
  unfold bX10_refuted_0 at h
  obtain ⟨hx, hb, hml, hown, hg, hrt, hlk, hK⟩ := id X
  refine lv_iload_n (pc := 0) hx hb dX10_refuted_0 rfl (lv_at hl 1 rfl) ?_
  refine lv_iconst (pc := 1) (v := 4) hx hb dX10_refuted_1 (by decide) ?_
  refine r_csI (pc := 2) (As := [.int x1, .int 4]) (rest := []) X hH (fun x hx => mX10_isWithin hx) cs_X10_66 rfl rfl (Nat.le_of_ble_eq_true rfl) hl.1 h dX10_refuted_2 (fun w1 v2 H locs h hH => ?_)
  refine b_if_ne (pc := 5) (tgt := 11) hx hb h dX10_refuted_5 (by decide) (fun h => ?_) (fun h => ?_)
  · refine lv_aload_n (pc := 11) hx hb dX10_refuted_11 rfl (lv_at hl 0 rfl) ?_
    refine gC_X10_51_0 (pc := 12) X hH dX10_refuted_12 ?_
    refine gC_X10_187_6 (pc := 15) X hH dX10_refuted_15 ?_
    refine b_if_eq (pc := 18) (tgt := 33) hx hb h dX10_refuted_18 (by decide) (fun h => ?_) (fun h => ?_)
    · refine lv_iconst (pc := 33) (v := -1) hx hb dX10_refuted_33 (by decide) ?_
      exact kX10_refuted_34 X   h hH (lv_sub hl [] rfl)
    · refine lv_aload_n (pc := 21) hx hb dX10_refuted_21 rfl (lv_at hl 0 rfl) ?_
      refine gC_X10_51_0 (pc := 22) X hH dX10_refuted_22 ?_
      refine gC_X10_194_6 (pc := 25) X hH dX10_refuted_25 ?_
      refine lv_iload_n (pc := 28) hx hb dX10_refuted_28 rfl (lv_at hl 1 rfl) ?_
      refine r_ld (pc := 29) X (heC_36 V w1) hH h dX10_refuted_29 (fun v3 h => ?_)
      refine lv_goto (pc := 30) (tgt := 34) hx hb dX10_refuted_30 (by decide) ?_
      exact kX10_refuted_34 X   h hH (lv_sub hl [] rfl)
  · refine lv_bipush (pc := 8) (v := -2) hx hb dX10_refuted_8 (by decide) ?_
    exact r_iret (pc := 10) X hH h dX10_refuted_10
def eX10_refuted (N : Nat) : Nat → Wd → Int32 → Option (Wd × Int32)
  | 0 => fun _ _ => none
  | d + 1 => fun w x1 => bX10_refuted_0 N d  w x1
set_option maxHeartbeats 4000000 in
set_option maxRecDepth 20000 in
theorem mX10_refuted {l : Launch} {V : Ev} {N d : Nat} {w : Wd} {x1 : Int32} {z : Wd × Int32} (h : eX10_refuted N d w x1 = some z) : MetI l V (cC V) (AC V) yX10_refuted cX10_refuted 2 (some .int) d [.ref (V.2.2 0), .int x1] w z := by
  cases d with
  | zero => exact c_none h
  | succ d =>
    refine Met.ofW (cc := cX10_refuted) (maxL := 2) (ret := (some .int)) (by decide) rfl ?_
    intro p e s m args below meth c s₁ B hml hv
    obtain ⟨rfl, hP, hD, hK⟩ := hv
    have hts := atoms_spec (ws := .code yX10_refuted cX10_refuted 2 (some .int) :: gG) B.pre
    have X : CX V p s m ([.ref (V.2.2 0), .int x1] : List Value).toArray meth c cX10_refuted 2 RX10 (some .int) := ⟨B.exec, B.bytes, hml, findClass_of_methodNamed B.named, fun w hw => hts w (List.mem_cons_of_mem _ hw), B.returns, B.notSynchronized, hK⟩
    have hl := lv_entry ([.ref (V.2.2 0), .int x1] : List Value) (n := 2) (Nat.le_of_ble_eq_true rfl)
    rw [lg_entry_eq]
    generalize (lg_sl ([.ref (V.2.2 0), .int x1] : List Value) ++ List.replicate (2 - (lg_sl ([.ref (V.2.2 0), .int x1] : List Value)).length) Slot.unset).toArray = ls at hl ⊢
    have hl : lv_has ls 2 [(0, .ref (V.2.2 0)), (1, .int x1)] := hl
    exact kX10_refuted_0 (N := N) X  h ⟨hP, hD, va_S.rf⟩ hl
theorem dX8_howOften_0 : decode cX8_howOften 0 = .ok (.iconst 0, 1) := by decide +kernel
theorem dX8_howOften_1 : decode cX8_howOften 1 = .ok (.istore_n 3, 1) := by decide +kernel
theorem dX8_howOften_2 : decode cX8_howOften 2 = .ok (.iload_n 3, 1) := by decide +kernel
theorem dX8_howOften_3 : decode cX8_howOften 3 = .ok (.iload_n 1, 1) := by decide +kernel
theorem dX8_howOften_4 : decode cX8_howOften 4 = .ok (.if_icmp .gt 124, 3) := by decide +kernel
theorem dX8_howOften_7 : decode cX8_howOften 7 = .ok (.lconst 0, 1) := by decide +kernel
theorem dX8_howOften_8 : decode cX8_howOften 8 = .ok (.lstore 4, 2) := by decide +kernel
theorem dX8_howOften_10 : decode cX8_howOften 10 = .ok (.aload_n 0, 1) := by decide +kernel
theorem dX8_howOften_11 : decode cX8_howOften 11 = .ok (.getfield 34, 3) := by decide +kernel
theorem dX8_howOften_14 : decode cX8_howOften 14 = .ok (.iload_n 3, 1) := by decide +kernel
theorem dX8_howOften_15 : decode cX8_howOften 15 = .ok (.iaload, 1) := by decide +kernel
theorem dX8_howOften_16 : decode cX8_howOften 16 = .ok (.iload_n 2, 1) := by decide +kernel
theorem dX8_howOften_17 : decode cX8_howOften 17 = .ok (.ishr, 1) := by decide +kernel
theorem dX8_howOften_18 : decode cX8_howOften 18 = .ok (.iconst 1, 1) := by decide +kernel
theorem dX8_howOften_19 : decode cX8_howOften 19 = .ok (.iand, 1) := by decide +kernel
theorem dX8_howOften_20 : decode cX8_howOften 20 = .ok (.iconst 1, 1) := by decide +kernel
theorem dX8_howOften_21 : decode cX8_howOften 21 = .ok (.if_icmp .ne 78, 3) := by decide +kernel
theorem dX8_howOften_24 : decode cX8_howOften 24 = .ok (.aload_n 0, 1) := by decide +kernel
theorem dX8_howOften_25 : decode cX8_howOften 25 = .ok (.iload_n 3, 1) := by decide +kernel
theorem dX8_howOften_26 : decode cX8_howOften 26 = .ok (.invokevirtual 52, 3) := by decide +kernel
theorem dX8_howOften_29 : decode cX8_howOften 29 = .ok (.ifCond .eq 7, 3) := by decide +kernel
theorem dX8_howOften_32 : decode cX8_howOften 32 = .ok (.lconst 1, 1) := by decide +kernel
theorem dX8_howOften_33 : decode cX8_howOften 33 = .ok (.goto 4, 3) := by decide +kernel
theorem dX8_howOften_36 : decode cX8_howOften 36 = .ok (.lconst 0, 1) := by decide +kernel
theorem dX8_howOften_37 : decode cX8_howOften 37 = .ok (.lstore 4, 2) := by decide +kernel
theorem dX8_howOften_39 : decode cX8_howOften 39 = .ok (.lload 4, 2) := by decide +kernel
theorem dX8_howOften_41 : decode cX8_howOften 41 = .ok (.aload_n 0, 1) := by decide +kernel
theorem dX8_howOften_42 : decode cX8_howOften 42 = .ok (.getfield 21, 3) := by decide +kernel
theorem dX8_howOften_45 : decode cX8_howOften 45 = .ok (.iload_n 3, 1) := by decide +kernel
theorem dX8_howOften_46 : decode cX8_howOften 46 = .ok (.iaload, 1) := by decide +kernel
theorem dX8_howOften_47 : decode cX8_howOften 47 = .ok (.iconst (-1), 1) := by decide +kernel
theorem dX8_howOften_48 : decode cX8_howOften 48 = .ok (.if_icmp .ne 7, 3) := by decide +kernel
theorem dX8_howOften_51 : decode cX8_howOften 51 = .ok (.lconst 0, 1) := by decide +kernel
theorem dX8_howOften_52 : decode cX8_howOften 52 = .ok (.goto 14, 3) := by decide +kernel
theorem dX8_howOften_55 : decode cX8_howOften 55 = .ok (.aload_n 0, 1) := by decide +kernel
theorem dX8_howOften_56 : decode cX8_howOften 56 = .ok (.getfield 43, 3) := by decide +kernel
theorem dX8_howOften_59 : decode cX8_howOften 59 = .ok (.aload_n 0, 1) := by decide +kernel
theorem dX8_howOften_60 : decode cX8_howOften 60 = .ok (.getfield 21, 3) := by decide +kernel
theorem dX8_howOften_63 : decode cX8_howOften 63 = .ok (.iload_n 3, 1) := by decide +kernel
theorem dX8_howOften_64 : decode cX8_howOften 64 = .ok (.iaload, 1) := by decide +kernel
theorem dX8_howOften_65 : decode cX8_howOften 65 = .ok (.laload, 1) := by decide +kernel
theorem dX8_howOften_66 : decode cX8_howOften 66 = .ok (.ladd, 1) := by decide +kernel
theorem dX8_howOften_67 : decode cX8_howOften 67 = .ok (.lstore 4, 2) := by decide +kernel
theorem dX8_howOften_69 : decode cX8_howOften 69 = .ok (.lload 4, 2) := by decide +kernel
theorem dX8_howOften_71 : decode cX8_howOften 71 = .ok (.aload_n 0, 1) := by decide +kernel
theorem dX8_howOften_72 : decode cX8_howOften 72 = .ok (.getfield 24, 3) := by decide +kernel
theorem dX8_howOften_75 : decode cX8_howOften 75 = .ok (.iload_n 3, 1) := by decide +kernel
theorem dX8_howOften_76 : decode cX8_howOften 76 = .ok (.iaload, 1) := by decide +kernel
theorem dX8_howOften_77 : decode cX8_howOften 77 = .ok (.iconst (-1), 1) := by decide +kernel
theorem dX8_howOften_78 : decode cX8_howOften 78 = .ok (.if_icmp .ne 7, 3) := by decide +kernel
theorem dX8_howOften_81 : decode cX8_howOften 81 = .ok (.lconst 0, 1) := by decide +kernel
theorem dX8_howOften_82 : decode cX8_howOften 82 = .ok (.goto 14, 3) := by decide +kernel
theorem dX8_howOften_85 : decode cX8_howOften 85 = .ok (.aload_n 0, 1) := by decide +kernel
theorem dX8_howOften_86 : decode cX8_howOften 86 = .ok (.getfield 43, 3) := by decide +kernel
theorem dX8_howOften_89 : decode cX8_howOften 89 = .ok (.aload_n 0, 1) := by decide +kernel
theorem dX8_howOften_90 : decode cX8_howOften 90 = .ok (.getfield 24, 3) := by decide +kernel
theorem dX8_howOften_93 : decode cX8_howOften 93 = .ok (.iload_n 3, 1) := by decide +kernel
theorem dX8_howOften_94 : decode cX8_howOften 94 = .ok (.iaload, 1) := by decide +kernel
theorem dX8_howOften_95 : decode cX8_howOften 95 = .ok (.laload, 1) := by decide +kernel
theorem dX8_howOften_96 : decode cX8_howOften 96 = .ok (.ladd, 1) := by decide +kernel
theorem dX8_howOften_97 : decode cX8_howOften 97 = .ok (.lstore 4, 2) := by decide +kernel
theorem dX8_howOften_99 : decode cX8_howOften 99 = .ok (.aload_n 0, 1) := by decide +kernel
theorem dX8_howOften_100 : decode cX8_howOften 100 = .ok (.getfield 43, 3) := by decide +kernel
theorem dX8_howOften_103 : decode cX8_howOften 103 = .ok (.iload_n 3, 1) := by decide +kernel
theorem dX8_howOften_104 : decode cX8_howOften 104 = .ok (.lload 4, 2) := by decide +kernel
theorem dX8_howOften_106 : decode cX8_howOften 106 = .ok (.ldc2_w 74, 3) := by decide +kernel
theorem dX8_howOften_109 : decode cX8_howOften 109 = .ok (.lcmp, 1) := by decide +kernel
theorem dX8_howOften_110 : decode cX8_howOften 110 = .ok (.ifCond .le 9, 3) := by decide +kernel
theorem dX8_howOften_113 : decode cX8_howOften 113 = .ok (.ldc2_w 74, 3) := by decide +kernel
theorem dX8_howOften_116 : decode cX8_howOften 116 = .ok (.goto 5, 3) := by decide +kernel
theorem dX8_howOften_119 : decode cX8_howOften 119 = .ok (.lload 4, 2) := by decide +kernel
theorem dX8_howOften_121 : decode cX8_howOften 121 = .ok (.lastore, 1) := by decide +kernel
theorem dX8_howOften_122 : decode cX8_howOften 122 = .ok (.iinc 3 1, 3) := by decide +kernel
theorem dX8_howOften_125 : decode cX8_howOften 125 = .ok (.goto (-123), 3) := by decide +kernel
theorem dX8_howOften_128 : decode cX8_howOften 128 = .ok (.aload_n 0, 1) := by decide +kernel
theorem dX8_howOften_129 : decode cX8_howOften 129 = .ok (.getfield 43, 3) := by decide +kernel
theorem dX8_howOften_132 : decode cX8_howOften 132 = .ok (.iload_n 1, 1) := by decide +kernel
theorem dX8_howOften_133 : decode cX8_howOften 133 = .ok (.laload, 1) := by decide +kernel
theorem dX8_howOften_134 : decode cX8_howOften 134 = .ok (.lreturn, 1) := by decide +kernel
def bX8_howOften_121 (N d : Nat)  (rec2 : Wd → Int32 → Int32 → Int32 → Option (Wd × Int64)) (w : Wd) (x1 : Int32) (x2 : Int32) (x3 : Int32) (y1 : Int32) (y2 : Int64) : Option (Wd × Int64) :=
  c_sl w 22 1000 y1 y2 fun w3 =>
  c_nm (x3 + 1) fun x3_4 =>
  rec2 w3 x1 x2 x3_4
set_option maxHeartbeats 4000000 in
theorem kX8_howOften_121 {V : Ev} {p : Program} {l : Launch} {e : Env} {N d : Nat} {s : State} {m : MethodId} {args : Array Value} {below : List Frame} {meth : Method} {c : Code} {z : Wd × Int64} (X : CX V p s m args meth c cX8_howOften 6 RX8 (some .long))   {rec2 : Wd → Int32 → Int32 → Int32 → Option (Wd × Int64)} (hr2 : ∀ (w : Wd) (x1 : Int32) (x2 : Int32) (x3 : Int32) (H : Heap) (locs : List Loc) (ls : Array Slot), rec2 w x1 x2 x3 = some z → wH V (cC V) (AC V) s w H locs → lv_has ls 6 [(0, .ref (V.2.2 1)), (1, .int x1), (2, .int x2), (3, .int x3)] → W p l e (rmD (d + 1)) s m args below meth c H locs 0 0 (MQ below (CtL V (cC V) (AC V) z) args s 0 0 (AC V)) (F0 m 2 ls [])) {w : Wd} {x1 : Int32} {x2 : Int32} {x3 : Int32} {y1 : Int32} {y2 : Int64} {H : Heap} {locs : List Loc} {ls : Array Slot} (h : bX8_howOften_121 N d  rec2 w x1 x2 x3 y1 y2 = some z) (hH : wH V (cC V) (AC V) s w H locs) (hl : lv_has ls 6 [(0, .ref (V.2.2 1)), (1, .int x1), (2, .int x2), (3, .int x3)]) : W p l e (rmD (d + 1)) s m args below meth c H locs 0 0 (MQ below (CtL V (cC V) (AC V) z) args s 0 0 (AC V)) (F0 m 121 ls [.long y2, .int y1, .ref (V.2.2 22)]) := by
  unfold bX8_howOften_121 at h
  obtain ⟨hx, hb, hml, hown, hg, hrt, hlk, hK⟩ := id X
  refine r_sl (pc := 121) X (heC_22 V w) (hsC_22 V w) hH h dX8_howOften_121 (fun w3 H locs h hH => ?_)
  obtain ⟨x3_4, ex3_4, h⟩ := c_nm_ex h
  refine lv_iinc (pc := 122) (v := x3_4) (lv' := [(3, .int x3_4), (0, .ref (V.2.2 1)), (1, .int x1), (2, .int x2)]) hx hb dX8_howOften_122 hl (k := 3) rfl (by rw [← ex3_4]; rfl) (by decide) rfl (fun ls hl => ?_)
  refine lv_goto (pc := 125) (tgt := 2) hx hb dX8_howOften_125 (by decide) ?_
  exact hr2 _ _ _ _ _ _ _ h hH (lv_sub hl [1, 2, 3, 0] rfl)
def bX8_howOften_99 (N d : Nat)  (rec2 : Wd → Int32 → Int32 → Int32 → Option (Wd × Int64)) (w : Wd) (x1 : Int32) (x2 : Int32) (x3 : Int32) (x4 : Int64) : Option (Wd × Int64) :=
  if (lg_cmp x4 1000000000000000) ≤ 0 then (
    bX8_howOften_121 N d  rec2 w x1 x2 x3 x3 x4
  ) else (
    bX8_howOften_121 N d  rec2 w x1 x2 x3 x3 1000000000000000
  )
set_option maxHeartbeats 4000000 in
theorem kX8_howOften_99 {V : Ev} {p : Program} {l : Launch} {e : Env} {N d : Nat} {s : State} {m : MethodId} {args : Array Value} {below : List Frame} {meth : Method} {c : Code} {z : Wd × Int64} (X : CX V p s m args meth c cX8_howOften 6 RX8 (some .long))   {rec2 : Wd → Int32 → Int32 → Int32 → Option (Wd × Int64)} (hr2 : ∀ (w : Wd) (x1 : Int32) (x2 : Int32) (x3 : Int32) (H : Heap) (locs : List Loc) (ls : Array Slot), rec2 w x1 x2 x3 = some z → wH V (cC V) (AC V) s w H locs → lv_has ls 6 [(0, .ref (V.2.2 1)), (1, .int x1), (2, .int x2), (3, .int x3)] → W p l e (rmD (d + 1)) s m args below meth c H locs 0 0 (MQ below (CtL V (cC V) (AC V) z) args s 0 0 (AC V)) (F0 m 2 ls [])) {w : Wd} {x1 : Int32} {x2 : Int32} {x3 : Int32} {x4 : Int64} {H : Heap} {locs : List Loc} {ls : Array Slot} (h : bX8_howOften_99 N d  rec2 w x1 x2 x3 x4 = some z) (hH : wH V (cC V) (AC V) s w H locs) (hl : lv_has ls 6 [(0, .ref (V.2.2 1)), (1, .int x1), (2, .int x2), (3, .int x3), (4, .long x4)]) : W p l e (rmD (d + 1)) s m args below meth c H locs 0 0 (MQ below (CtL V (cC V) (AC V) z) args s 0 0 (AC V)) (F0 m 99 ls []) := by
  unfold bX8_howOften_99 at h
  obtain ⟨hx, hb, hml, hown, hg, hrt, hlk, hK⟩ := id X
  refine lv_aload_n (pc := 99) hx hb dX8_howOften_99 rfl (lv_at hl 0 rfl) ?_
  refine gC_X8_43_1 (pc := 100) X hH dX8_howOften_100 ?_
  refine lv_iload_n (pc := 103) hx hb dX8_howOften_103 rfl (lv_at hl 3 rfl) ?_
  refine lv_lload (pc := 104) hx hb dX8_howOften_104 (lv_at hl 4 rfl) ?_
  refine lv_ldc2 (pc := 106) hx hb hown (hg _ wL_445) dX8_howOften_106 ?_
  refine W.lcmp (pc := 109) hx hb dX8_howOften_109 ?_
  refine b_if_le (pc := 110) (tgt := 119) hx hb h dX8_howOften_110 (by decide) (fun h => ?_) (fun h => ?_)
  · refine lv_lload (pc := 119) hx hb dX8_howOften_119 (lv_at hl 4 rfl) ?_
    exact kX8_howOften_121 X  hr2 h hH (lv_sub hl [0, 1, 2, 3] rfl)
  · refine lv_ldc2 (pc := 113) hx hb hown (hg _ wL_445) dX8_howOften_113 ?_
    refine lv_goto (pc := 116) (tgt := 121) hx hb dX8_howOften_116 (by decide) ?_
    exact kX8_howOften_121 X  hr2 h hH (lv_sub hl [0, 1, 2, 3] rfl)
def bX8_howOften_96 (N d : Nat)  (rec2 : Wd → Int32 → Int32 → Int32 → Option (Wd × Int64)) (w : Wd) (x1 : Int32) (x2 : Int32) (x3 : Int32) (y0 : Int64) (y1 : Int64) : Option (Wd × Int64) :=
  c_nm (y0 + y1) fun x4_14 =>
  bX8_howOften_99 N d  rec2 w x1 x2 x3 x4_14
set_option maxHeartbeats 4000000 in
theorem kX8_howOften_96 {V : Ev} {p : Program} {l : Launch} {e : Env} {N d : Nat} {s : State} {m : MethodId} {args : Array Value} {below : List Frame} {meth : Method} {c : Code} {z : Wd × Int64} (X : CX V p s m args meth c cX8_howOften 6 RX8 (some .long))   {rec2 : Wd → Int32 → Int32 → Int32 → Option (Wd × Int64)} (hr2 : ∀ (w : Wd) (x1 : Int32) (x2 : Int32) (x3 : Int32) (H : Heap) (locs : List Loc) (ls : Array Slot), rec2 w x1 x2 x3 = some z → wH V (cC V) (AC V) s w H locs → lv_has ls 6 [(0, .ref (V.2.2 1)), (1, .int x1), (2, .int x2), (3, .int x3)] → W p l e (rmD (d + 1)) s m args below meth c H locs 0 0 (MQ below (CtL V (cC V) (AC V) z) args s 0 0 (AC V)) (F0 m 2 ls [])) {w : Wd} {x1 : Int32} {x2 : Int32} {x3 : Int32} {y0 : Int64} {y1 : Int64} {H : Heap} {locs : List Loc} {ls : Array Slot} (h : bX8_howOften_96 N d  rec2 w x1 x2 x3 y0 y1 = some z) (hH : wH V (cC V) (AC V) s w H locs) (hl : lv_has ls 6 [(0, .ref (V.2.2 1)), (1, .int x1), (2, .int x2), (3, .int x3)]) : W p l e (rmD (d + 1)) s m args below meth c H locs 0 0 (MQ below (CtL V (cC V) (AC V) z) args s 0 0 (AC V)) (F0 m 96 ls [.long y1, .long y0]) := by
  unfold bX8_howOften_96 at h
  obtain ⟨hx, hb, hml, hown, hg, hrt, hlk, hK⟩ := id X
  refine lv_ladd (pc := 96) hx hb dX8_howOften_96 ?_
  refine r_nml h (fun x4_14 h => ?_)
  refine lv_lstore (pc := 97) (lv' := [(4, .long x4_14), (0, .ref (V.2.2 1)), (1, .int x1), (2, .int x2), (3, .int x3)]) hx hb dX8_howOften_97 hl (by decide) rfl (fun ls hl => ?_)
  exact kX8_howOften_99 X  hr2 h hH (lv_sub hl [1, 2, 3, 4, 0] rfl)
def bX8_howOften_66 (N d : Nat)  (rec2 : Wd → Int32 → Int32 → Int32 → Option (Wd × Int64)) (w : Wd) (x1 : Int32) (x2 : Int32) (x3 : Int32) (y0 : Int64) (y1 : Int64) : Option (Wd × Int64) :=
  c_nm (y0 + y1) fun x4_10 =>
  c_ld w 16 1000 x3 fun v11 =>
  if v11 = (-1) then (
    bX8_howOften_96 N d  rec2 w x1 x2 x3 x4_10 0
  ) else (
    c_ld w 16 1000 x3 fun v12 =>
    c_ll w 22 1000 v12 fun v13 =>
    bX8_howOften_96 N d  rec2 w x1 x2 x3 x4_10 v13
  )
set_option maxHeartbeats 4000000 in
theorem kX8_howOften_66 {V : Ev} {p : Program} {l : Launch} {e : Env} {N d : Nat} {s : State} {m : MethodId} {args : Array Value} {below : List Frame} {meth : Method} {c : Code} {z : Wd × Int64} (X : CX V p s m args meth c cX8_howOften 6 RX8 (some .long))   {rec2 : Wd → Int32 → Int32 → Int32 → Option (Wd × Int64)} (hr2 : ∀ (w : Wd) (x1 : Int32) (x2 : Int32) (x3 : Int32) (H : Heap) (locs : List Loc) (ls : Array Slot), rec2 w x1 x2 x3 = some z → wH V (cC V) (AC V) s w H locs → lv_has ls 6 [(0, .ref (V.2.2 1)), (1, .int x1), (2, .int x2), (3, .int x3)] → W p l e (rmD (d + 1)) s m args below meth c H locs 0 0 (MQ below (CtL V (cC V) (AC V) z) args s 0 0 (AC V)) (F0 m 2 ls [])) {w : Wd} {x1 : Int32} {x2 : Int32} {x3 : Int32} {y0 : Int64} {y1 : Int64} {H : Heap} {locs : List Loc} {ls : Array Slot} (h : bX8_howOften_66 N d  rec2 w x1 x2 x3 y0 y1 = some z) (hH : wH V (cC V) (AC V) s w H locs) (hl : lv_has ls 6 [(0, .ref (V.2.2 1)), (1, .int x1), (2, .int x2), (3, .int x3)]) : W p l e (rmD (d + 1)) s m args below meth c H locs 0 0 (MQ below (CtL V (cC V) (AC V) z) args s 0 0 (AC V)) (F0 m 66 ls [.long y1, .long y0]) := by
  unfold bX8_howOften_66 at h
  obtain ⟨hx, hb, hml, hown, hg, hrt, hlk, hK⟩ := id X
  refine lv_ladd (pc := 66) hx hb dX8_howOften_66 ?_
  refine r_nml h (fun x4_10 h => ?_)
  refine lv_lstore (pc := 67) (lv' := [(4, .long x4_10), (0, .ref (V.2.2 1)), (1, .int x1), (2, .int x2), (3, .int x3)]) hx hb dX8_howOften_67 hl (by decide) rfl (fun ls hl => ?_)
  refine lv_lload (pc := 69) hx hb dX8_howOften_69 (lv_at hl 0 rfl) ?_
  refine lv_aload_n (pc := 71) hx hb dX8_howOften_71 rfl (lv_at hl 1 rfl) ?_
  refine gC_X8_24_1 (pc := 72) X hH dX8_howOften_72 ?_
  refine lv_iload_n (pc := 75) hx hb dX8_howOften_75 rfl (lv_at hl 4 rfl) ?_
  refine r_ld (pc := 76) X (heC_16 V w) hH h dX8_howOften_76 (fun v11 h => ?_)
  refine lv_iconst (pc := 77) (v := -1) hx hb dX8_howOften_77 (by decide) ?_
  refine b_icmp_ne (pc := 78) (tgt := 85) hx hb h dX8_howOften_78 (by decide) (fun h => ?_) (fun h => ?_)
  · refine lv_aload_n (pc := 85) hx hb dX8_howOften_85 rfl (lv_at hl 1 rfl) ?_
    refine gC_X8_43_1 (pc := 86) X hH dX8_howOften_86 ?_
    refine lv_aload_n (pc := 89) hx hb dX8_howOften_89 rfl (lv_at hl 1 rfl) ?_
    refine gC_X8_24_1 (pc := 90) X hH dX8_howOften_90 ?_
    refine lv_iload_n (pc := 93) hx hb dX8_howOften_93 rfl (lv_at hl 4 rfl) ?_
    refine r_ld (pc := 94) X (heC_16 V w) hH h dX8_howOften_94 (fun v12 h => ?_)
    refine r_ll (pc := 95) X (heC_22 V w) hH h dX8_howOften_95 (fun v13 h => ?_)
    exact kX8_howOften_96 X  hr2 h hH (lv_sub hl [1, 2, 3, 4] rfl)
  · refine lv_lconst (pc := 81) (v := 0) hx hb dX8_howOften_81 (by decide) ?_
    refine lv_goto (pc := 82) (tgt := 96) hx hb dX8_howOften_82 (by decide) ?_
    exact kX8_howOften_96 X  hr2 h hH (lv_sub hl [1, 2, 3, 4] rfl)
def bX8_howOften_37 (N d : Nat)  (rec2 : Wd → Int32 → Int32 → Int32 → Option (Wd × Int64)) (w : Wd) (x1 : Int32) (x2 : Int32) (x3 : Int32) (y0 : Int64) : Option (Wd × Int64) :=
  c_ld w 15 1000 x3 fun v7 =>
  if v7 = (-1) then (
    bX8_howOften_66 N d  rec2 w x1 x2 x3 y0 0
  ) else (
    c_ld w 15 1000 x3 fun v8 =>
    c_ll w 22 1000 v8 fun v9 =>
    bX8_howOften_66 N d  rec2 w x1 x2 x3 y0 v9
  )
set_option maxHeartbeats 4000000 in
theorem kX8_howOften_37 {V : Ev} {p : Program} {l : Launch} {e : Env} {N d : Nat} {s : State} {m : MethodId} {args : Array Value} {below : List Frame} {meth : Method} {c : Code} {z : Wd × Int64} (X : CX V p s m args meth c cX8_howOften 6 RX8 (some .long))   {rec2 : Wd → Int32 → Int32 → Int32 → Option (Wd × Int64)} (hr2 : ∀ (w : Wd) (x1 : Int32) (x2 : Int32) (x3 : Int32) (H : Heap) (locs : List Loc) (ls : Array Slot), rec2 w x1 x2 x3 = some z → wH V (cC V) (AC V) s w H locs → lv_has ls 6 [(0, .ref (V.2.2 1)), (1, .int x1), (2, .int x2), (3, .int x3)] → W p l e (rmD (d + 1)) s m args below meth c H locs 0 0 (MQ below (CtL V (cC V) (AC V) z) args s 0 0 (AC V)) (F0 m 2 ls [])) {w : Wd} {x1 : Int32} {x2 : Int32} {x3 : Int32} {y0 : Int64} {H : Heap} {locs : List Loc} {ls : Array Slot} (h : bX8_howOften_37 N d  rec2 w x1 x2 x3 y0 = some z) (hH : wH V (cC V) (AC V) s w H locs) (hl : lv_has ls 6 [(0, .ref (V.2.2 1)), (1, .int x1), (2, .int x2), (3, .int x3)]) : W p l e (rmD (d + 1)) s m args below meth c H locs 0 0 (MQ below (CtL V (cC V) (AC V) z) args s 0 0 (AC V)) (F0 m 37 ls [.long y0]) := by
  unfold bX8_howOften_37 at h
  obtain ⟨hx, hb, hml, hown, hg, hrt, hlk, hK⟩ := id X
  refine lv_lstore (pc := 37) (lv' := [(4, .long y0), (0, .ref (V.2.2 1)), (1, .int x1), (2, .int x2), (3, .int x3)]) hx hb dX8_howOften_37 hl (by decide) rfl (fun ls hl => ?_)
  refine lv_lload (pc := 39) hx hb dX8_howOften_39 (lv_at hl 0 rfl) ?_
  refine lv_aload_n (pc := 41) hx hb dX8_howOften_41 rfl (lv_at hl 1 rfl) ?_
  refine gC_X8_21_1 (pc := 42) X hH dX8_howOften_42 ?_
  refine lv_iload_n (pc := 45) hx hb dX8_howOften_45 rfl (lv_at hl 4 rfl) ?_
  refine r_ld (pc := 46) X (heC_15 V w) hH h dX8_howOften_46 (fun v7 h => ?_)
  refine lv_iconst (pc := 47) (v := -1) hx hb dX8_howOften_47 (by decide) ?_
  refine b_icmp_ne (pc := 48) (tgt := 55) hx hb h dX8_howOften_48 (by decide) (fun h => ?_) (fun h => ?_)
  · refine lv_aload_n (pc := 55) hx hb dX8_howOften_55 rfl (lv_at hl 1 rfl) ?_
    refine gC_X8_43_1 (pc := 56) X hH dX8_howOften_56 ?_
    refine lv_aload_n (pc := 59) hx hb dX8_howOften_59 rfl (lv_at hl 1 rfl) ?_
    refine gC_X8_21_1 (pc := 60) X hH dX8_howOften_60 ?_
    refine lv_iload_n (pc := 63) hx hb dX8_howOften_63 rfl (lv_at hl 4 rfl) ?_
    refine r_ld (pc := 64) X (heC_15 V w) hH h dX8_howOften_64 (fun v8 h => ?_)
    refine r_ll (pc := 65) X (heC_22 V w) hH h dX8_howOften_65 (fun v9 h => ?_)
    exact kX8_howOften_66 X  hr2 h hH (lv_sub hl [1, 2, 3, 4] rfl)
  · refine lv_lconst (pc := 51) (v := 0) hx hb dX8_howOften_51 (by decide) ?_
    refine lv_goto (pc := 52) (tgt := 66) hx hb dX8_howOften_52 (by decide) ?_
    exact kX8_howOften_66 X  hr2 h hH (lv_sub hl [1, 2, 3, 4] rfl)
def bX8_howOften_2 (N d : Nat)  (rec2 : Wd → Int32 → Int32 → Int32 → Option (Wd × Int64)) (w : Wd) (x1 : Int32) (x2 : Int32) (x3 : Int32) : Option (Wd × Int64) :=
  if x1 < x3 then (
    c_ll w 22 1000 x1 fun v1 =>
    some (w, v1)
  ) else (
    c_ld w 19 1000 x3 fun v2 =>
    if ((v2 >>> (x2 &&& 31)) &&& 1) = 1 then (
      c_cl (eX8_isVariable N d w x3) fun w5 v6 =>
      if v6 = 0 then (
        bX8_howOften_37 N d  rec2 w5 x1 x2 x3 0
      ) else (
        bX8_howOften_37 N d  rec2 w5 x1 x2 x3 1
      )
    ) else (
      bX8_howOften_99 N d  rec2 w x1 x2 x3 ((0 : Int64))
    )
  )
set_option maxHeartbeats 4000000 in
theorem kX8_howOften_2 {V : Ev} {p : Program} {l : Launch} {e : Env} {N d : Nat} {s : State} {m : MethodId} {args : Array Value} {below : List Frame} {meth : Method} {c : Code} {z : Wd × Int64} (X : CX V p s m args meth c cX8_howOften 6 RX8 (some .long))   {rec2 : Wd → Int32 → Int32 → Int32 → Option (Wd × Int64)} (hr2 : ∀ (w : Wd) (x1 : Int32) (x2 : Int32) (x3 : Int32) (H : Heap) (locs : List Loc) (ls : Array Slot), rec2 w x1 x2 x3 = some z → wH V (cC V) (AC V) s w H locs → lv_has ls 6 [(0, .ref (V.2.2 1)), (1, .int x1), (2, .int x2), (3, .int x3)] → W p l e (rmD (d + 1)) s m args below meth c H locs 0 0 (MQ below (CtL V (cC V) (AC V) z) args s 0 0 (AC V)) (F0 m 2 ls [])) {w : Wd} {x1 : Int32} {x2 : Int32} {x3 : Int32} {H : Heap} {locs : List Loc} {ls : Array Slot} (h : bX8_howOften_2 N d  rec2 w x1 x2 x3 = some z) (hH : wH V (cC V) (AC V) s w H locs) (hl : lv_has ls 6 [(0, .ref (V.2.2 1)), (1, .int x1), (2, .int x2), (3, .int x3)]) : W p l e (rmD (d + 1)) s m args below meth c H locs 0 0 (MQ below (CtL V (cC V) (AC V) z) args s 0 0 (AC V)) (F0 m 2 ls []) := by
  unfold bX8_howOften_2 at h
  obtain ⟨hx, hb, hml, hown, hg, hrt, hlk, hK⟩ := id X
  refine lv_iload_n (pc := 2) hx hb dX8_howOften_2 rfl (lv_at hl 3 rfl) ?_
  refine lv_iload_n (pc := 3) hx hb dX8_howOften_3 rfl (lv_at hl 1 rfl) ?_
  refine b_icmp_gt (pc := 4) (tgt := 128) hx hb h dX8_howOften_4 (by decide) (fun h => ?_) (fun h => ?_)
  · refine lv_aload_n (pc := 128) hx hb dX8_howOften_128 rfl (lv_at hl 0 rfl) ?_
    refine gC_X8_43_1 (pc := 129) X hH dX8_howOften_129 ?_
    refine lv_iload_n (pc := 132) hx hb dX8_howOften_132 rfl (lv_at hl 1 rfl) ?_
    refine r_ll (pc := 133) X (heC_22 V w) hH h dX8_howOften_133 (fun v1 h => ?_)
    exact r_lret (pc := 134) X hH h dX8_howOften_134
  · refine lv_lconst (pc := 7) (v := 0) hx hb dX8_howOften_7 (by decide) ?_
    refine lv_lstore (pc := 8) (lv' := [(4, .long ((0 : Int64))), (0, .ref (V.2.2 1)), (1, .int x1), (2, .int x2), (3, .int x3)]) hx hb dX8_howOften_8 hl (by decide) rfl (fun ls hl => ?_)
    refine lv_aload_n (pc := 10) hx hb dX8_howOften_10 rfl (lv_at hl 1 rfl) ?_
    refine gC_X8_34_1 (pc := 11) X hH dX8_howOften_11 ?_
    refine lv_iload_n (pc := 14) hx hb dX8_howOften_14 rfl (lv_at hl 4 rfl) ?_
    refine r_ld (pc := 15) X (heC_19 V w) hH h dX8_howOften_15 (fun v2 h => ?_)
    refine lv_iload_n (pc := 16) hx hb dX8_howOften_16 rfl (lv_at hl 3 rfl) ?_
    refine lv_ishr (pc := 17) hx hb dX8_howOften_17 ?_
    refine lv_iconst (pc := 18) (v := 1) hx hb dX8_howOften_18 (by decide) ?_
    refine lv_iand (pc := 19) hx hb dX8_howOften_19 ?_
    refine lv_iconst (pc := 20) (v := 1) hx hb dX8_howOften_20 (by decide) ?_
    refine b_icmp_ne (pc := 21) (tgt := 99) hx hb h dX8_howOften_21 (by decide) (fun h => ?_) (fun h => ?_)
    · exact kX8_howOften_99 X  hr2 h hH (lv_sub hl [1, 2, 3, 4, 0] rfl)
    · refine lv_aload_n (pc := 24) hx hb dX8_howOften_24 rfl (lv_at hl 1 rfl) ?_
      refine lv_iload_n (pc := 25) hx hb dX8_howOften_25 rfl (lv_at hl 4 rfl) ?_
      refine r_cvI (pc := 26) (As := [.int x3]) (rest := []) X hH (fun x hx => mX8_isVariable hx) cw_X8_52 (heC_1 V w) rfl rfl rfl (Nat.le_of_ble_eq_true rfl) hl.1 h dX8_howOften_26 (fun w5 v6 H locs h hH => ?_)
      refine b_if_eq (pc := 29) (tgt := 36) hx hb h dX8_howOften_29 (by decide) (fun h => ?_) (fun h => ?_)
      · refine lv_lconst (pc := 36) (v := 0) hx hb dX8_howOften_36 (by decide) ?_
        exact kX8_howOften_37 X  hr2 h hH (lv_sub hl [1, 2, 3, 4] rfl)
      · refine lv_lconst (pc := 32) (v := 1) hx hb dX8_howOften_32 (by decide) ?_
        refine lv_goto (pc := 33) (tgt := 37) hx hb dX8_howOften_33 (by decide) ?_
        exact kX8_howOften_37 X  hr2 h hH (lv_sub hl [1, 2, 3, 4] rfl)
def fX8_howOften_2 (N d : Nat)   : Nat → Wd → Int32 → Int32 → Int32 → Option (Wd × Int64)
  | 0 => fun _ _ _ _ => none
  | n + 1 => fun w x1 x2 x3 => bX8_howOften_2 N d   (fX8_howOften_2 N d   n) w x1 x2 x3
theorem lX8_howOften_2 {V : Ev} {p : Program} {l : Launch} {e : Env} {N d : Nat} {s : State} {m : MethodId} {args : Array Value} {below : List Frame} {meth : Method} {c : Code} {z : Wd × Int64} (X : CX V p s m args meth c cX8_howOften 6 RX8 (some .long))    (n : Nat) {w : Wd} {x1 : Int32} {x2 : Int32} {x3 : Int32} {H : Heap} {locs : List Loc} {ls : Array Slot} (h : fX8_howOften_2 N d   n w x1 x2 x3 = some z) (hH : wH V (cC V) (AC V) s w H locs) (hl : lv_has ls 6 [(0, .ref (V.2.2 1)), (1, .int x1), (2, .int x2), (3, .int x3)]) : W p l e (rmD (d + 1)) s m args below meth c H locs 0 0 (MQ below (CtL V (cC V) (AC V) z) args s 0 0 (AC V)) (F0 m 2 ls []) := by
  induction n generalizing w x1 x2 x3 H locs ls with
  | zero => exact c_none h
  | succ n ih => exact kX8_howOften_2 (N := N) X  (fun _ _ _ _ _ _ _ h hH hl => ih h hH hl) h hH hl
def bX8_howOften_0 (N d : Nat)   (w : Wd) (x1 : Int32) (x2 : Int32) : Option (Wd × Int64) :=
  fX8_howOften_2 N d   N w x1 x2 ((0 : Int32))
set_option maxHeartbeats 4000000 in
theorem kX8_howOften_0 {V : Ev} {p : Program} {l : Launch} {e : Env} {N d : Nat} {s : State} {m : MethodId} {args : Array Value} {below : List Frame} {meth : Method} {c : Code} {z : Wd × Int64} (X : CX V p s m args meth c cX8_howOften 6 RX8 (some .long))    {w : Wd} {x1 : Int32} {x2 : Int32} {H : Heap} {locs : List Loc} {ls : Array Slot} (h : bX8_howOften_0 N d   w x1 x2 = some z) (hH : wH V (cC V) (AC V) s w H locs) (hl : lv_has ls 6 [(0, .ref (V.2.2 1)), (1, .int x1), (2, .int x2)]) : W p l e (rmD (d + 1)) s m args below meth c H locs 0 0 (MQ below (CtL V (cC V) (AC V) z) args s 0 0 (AC V)) (F0 m 0 ls []) := by
  unfold bX8_howOften_0 at h
  obtain ⟨hx, hb, hml, hown, hg, hrt, hlk, hK⟩ := id X
  refine lv_iconst (pc := 0) (v := 0) hx hb dX8_howOften_0 (by decide) ?_
  refine lv_istore_n (pc := 1) (lv' := [(3, .int ((0 : Int32))), (0, .ref (V.2.2 1)), (1, .int x1), (2, .int x2)]) hx hb dX8_howOften_1 rfl hl (by decide) rfl (fun ls hl => ?_)
  exact lX8_howOften_2 X   N h hH (lv_sub hl [1, 2, 3, 0] rfl)
def eX8_howOften (N : Nat) : Nat → Wd → Int32 → Int32 → Option (Wd × Int64)
  | 0 => fun _ _ _ => none
  | d + 1 => fun w x1 x2 => bX8_howOften_0 N d  w x1 x2
set_option maxHeartbeats 4000000 in
set_option maxRecDepth 20000 in
theorem mX8_howOften {l : Launch} {V : Ev} {N d : Nat} {w : Wd} {x1 : Int32} {x2 : Int32} {z : Wd × Int64} (h : eX8_howOften N d w x1 x2 = some z) : MetL l V (cC V) (AC V) yX8_howOften cX8_howOften 6 (some .long) d [.ref (V.2.2 1), .int x1, .int x2] w z := by
  cases d with
  | zero => exact c_none h
  | succ d =>
    refine Met.ofW (cc := cX8_howOften) (maxL := 6) (ret := (some .long)) (by decide) rfl ?_
    intro p e s m args below meth c s₁ B hml hv
    obtain ⟨rfl, hP, hD, hK⟩ := hv
    have hts := atoms_spec (ws := .code yX8_howOften cX8_howOften 6 (some .long) :: gG) B.pre
    have X : CX V p s m ([.ref (V.2.2 1), .int x1, .int x2] : List Value).toArray meth c cX8_howOften 6 RX8 (some .long) := ⟨B.exec, B.bytes, hml, findClass_of_methodNamed B.named, fun w hw => hts w (List.mem_cons_of_mem _ hw), B.returns, B.notSynchronized, hK⟩
    have hl := lv_entry ([.ref (V.2.2 1), .int x1, .int x2] : List Value) (n := 6) (Nat.le_of_ble_eq_true rfl)
    rw [lg_entry_eq]
    generalize (lg_sl ([.ref (V.2.2 1), .int x1, .int x2] : List Value) ++ List.replicate (6 - (lg_sl ([.ref (V.2.2 1), .int x1, .int x2] : List Value)).length) Slot.unset).toArray = ls at hl ⊢
    have hl : lv_has ls 6 [(0, .ref (V.2.2 1)), (1, .int x1), (2, .int x2)] := hl
    exact kX8_howOften_0 (N := N) X  h ⟨hP, hD, va_S.rf⟩ hl
theorem dX10_of_0 : decode cX10_of 0 = .ok (.aload_n 0, 1) := by decide +kernel
theorem dX10_of_1 : decode cX10_of 1 = .ok (.iload_n 1, 1) := by decide +kernel
theorem dX10_of_2 : decode cX10_of 2 = .ok (.invokevirtual 82, 3) := by decide +kernel
theorem dX10_of_5 : decode cX10_of 5 = .ok (.ifCond .eq 25, 3) := by decide +kernel
theorem dX10_of_8 : decode cX10_of 8 = .ok (.iload_n 2, 1) := by decide +kernel
theorem dX10_of_9 : decode cX10_of 9 = .ok (.iconst 5, 1) := by decide +kernel
theorem dX10_of_10 : decode cX10_of 10 = .ok (.invokestatic 66, 3) := by decide +kernel
theorem dX10_of_13 : decode cX10_of 13 = .ok (.ifCond .eq 17, 3) := by decide +kernel
theorem dX10_of_16 : decode cX10_of 16 = .ok (.iload_n 2, 1) := by decide +kernel
theorem dX10_of_17 : decode cX10_of 17 = .ok (.iconst 4, 1) := by decide +kernel
theorem dX10_of_18 : decode cX10_of 18 = .ok (.if_icmp .ne 16, 3) := by decide +kernel
theorem dX10_of_21 : decode cX10_of 21 = .ok (.iload_n 3, 1) := by decide +kernel
theorem dX10_of_22 : decode cX10_of 22 = .ok (.bipush 8, 2) := by decide +kernel
theorem dX10_of_24 : decode cX10_of 24 = .ok (.invokestatic 66, 3) := by decide +kernel
theorem dX10_of_27 : decode cX10_of 27 = .ok (.ifCond .ne 7, 3) := by decide +kernel
theorem dX10_of_30 : decode cX10_of 30 = .ok (.ldc2_w 115, 3) := by decide +kernel
theorem dX10_of_33 : decode cX10_of 33 = .ok (.lreturn, 1) := by decide +kernel
theorem dX10_of_34 : decode cX10_of 34 = .ok (.aload_n 0, 1) := by decide +kernel
theorem dX10_of_35 : decode cX10_of 35 = .ok (.getfield 15, 3) := by decide +kernel
theorem dX10_of_38 : decode cX10_of 38 = .ok (.getfield 197, 3) := by decide +kernel
theorem dX10_of_41 : decode cX10_of 41 = .ok (.iload_n 1, 1) := by decide +kernel
theorem dX10_of_42 : decode cX10_of 42 = .ok (.iaload, 1) := by decide +kernel
theorem dX10_of_43 : decode cX10_of 43 = .ok (.istore 4, 2) := by decide +kernel
theorem dX10_of_45 : decode cX10_of 45 = .ok (.iload_n 2, 1) := by decide +kernel
theorem dX10_of_46 : decode cX10_of 46 = .ok (.tableswitch 87 0 3 #[30, 47, 67, 77], 30) := by decide +kernel
theorem dX10_of_76 : decode cX10_of 76 = .ok (.iload 4, 2) := by decide +kernel
theorem dX10_of_78 : decode cX10_of 78 = .ok (.bipush 10, 2) := by decide +kernel
theorem dX10_of_80 : decode cX10_of 80 = .ok (.if_icmp .ge 9, 3) := by decide +kernel
theorem dX10_of_83 : decode cX10_of 83 = .ok (.iload 4, 2) := by decide +kernel
theorem dX10_of_85 : decode cX10_of 85 = .ok (.i2l, 1) := by decide +kernel
theorem dX10_of_86 : decode cX10_of 86 = .ok (.goto 6, 3) := by decide +kernel
theorem dX10_of_89 : decode cX10_of 89 = .ok (.ldc2_w 120, 3) := by decide +kernel
theorem dX10_of_92 : decode cX10_of 92 = .ok (.lreturn, 1) := by decide +kernel
theorem dX10_of_93 : decode cX10_of 93 = .ok (.iload 4, 2) := by decide +kernel
theorem dX10_of_95 : decode cX10_of 95 = .ok (.bipush 10, 2) := by decide +kernel
theorem dX10_of_97 : decode cX10_of 97 = .ok (.if_icmp .ge 9, 3) := by decide +kernel
theorem dX10_of_100 : decode cX10_of 100 = .ok (.ldc2_w 120, 3) := by decide +kernel
theorem dX10_of_103 : decode cX10_of 103 = .ok (.goto 9, 3) := by decide +kernel
theorem dX10_of_106 : decode cX10_of 106 = .ok (.iload 4, 2) := by decide +kernel
theorem dX10_of_108 : decode cX10_of 108 = .ok (.bipush 10, 2) := by decide +kernel
theorem dX10_of_110 : decode cX10_of 110 = .ok (.isub, 1) := by decide +kernel
theorem dX10_of_111 : decode cX10_of 111 = .ok (.i2l, 1) := by decide +kernel
theorem dX10_of_112 : decode cX10_of 112 = .ok (.lreturn, 1) := by decide +kernel
theorem dX10_of_113 : decode cX10_of 113 = .ok (.aload_n 0, 1) := by decide +kernel
theorem dX10_of_114 : decode cX10_of 114 = .ok (.getfield 15, 3) := by decide +kernel
theorem dX10_of_117 : decode cX10_of 117 = .ok (.getfield 200, 3) := by decide +kernel
theorem dX10_of_120 : decode cX10_of 120 = .ok (.iload_n 1, 1) := by decide +kernel
theorem dX10_of_121 : decode cX10_of 121 = .ok (.laload, 1) := by decide +kernel
theorem dX10_of_122 : decode cX10_of 122 = .ok (.lreturn, 1) := by decide +kernel
theorem dX10_of_123 : decode cX10_of 123 = .ok (.aload_n 0, 1) := by decide +kernel
theorem dX10_of_124 : decode cX10_of 124 = .ok (.getfield 15, 3) := by decide +kernel
theorem dX10_of_127 : decode cX10_of 127 = .ok (.getfield 203, 3) := by decide +kernel
theorem dX10_of_130 : decode cX10_of 130 = .ok (.iload_n 1, 1) := by decide +kernel
theorem dX10_of_131 : decode cX10_of 131 = .ok (.laload, 1) := by decide +kernel
theorem dX10_of_132 : decode cX10_of 132 = .ok (.lreturn, 1) := by decide +kernel
theorem dX10_of_133 : decode cX10_of 133 = .ok (.aload_n 0, 1) := by decide +kernel
theorem dX10_of_134 : decode cX10_of 134 = .ok (.getfield 15, 3) := by decide +kernel
theorem dX10_of_137 : decode cX10_of 137 = .ok (.iload_n 1, 1) := by decide +kernel
theorem dX10_of_138 : decode cX10_of 138 = .ok (.iload_n 3, 1) := by decide +kernel
theorem dX10_of_139 : decode cX10_of 139 = .ok (.invokevirtual 206, 3) := by decide +kernel
theorem dX10_of_142 : decode cX10_of 142 = .ok (.lreturn, 1) := by decide +kernel
def bX10_of_30 (N d : Nat)   (w : Wd)  : Option (Wd × Int64) :=
  some (w, -2)
set_option maxHeartbeats 4000000 in
theorem kX10_of_30 {V : Ev} {p : Program} {l : Launch} {e : Env} {N d : Nat} {s : State} {m : MethodId} {args : Array Value} {below : List Frame} {meth : Method} {c : Code} {z : Wd × Int64} (X : CX V p s m args meth c cX10_of 5 RX10 (some .long))    {w : Wd}  {H : Heap} {locs : List Loc} {ls : Array Slot} (h : bX10_of_30 N d   w  = some z) (hH : wH V (cC V) (AC V) s w H locs) (hl : lv_has ls 5 []) : W p l e (rmD (d + 1)) s m args below meth c H locs 0 0 (MQ below (CtL V (cC V) (AC V) z) args s 0 0 (AC V)) (F0 m 30 ls []) := by
  unfold bX10_of_30 at h
  obtain ⟨hx, hb, hml, hown, hg, hrt, hlk, hK⟩ := id X
  refine lv_ldc2 (pc := 30) hx hb hown (hg _ wL_577) dX10_of_30 ?_
  exact r_lret (pc := 33) X hH h dX10_of_33
def bX10_of_92 (N d : Nat)   (w : Wd) (y0 : Int64) : Option (Wd × Int64) :=
  some (w, y0)
set_option maxHeartbeats 4000000 in
theorem kX10_of_92 {V : Ev} {p : Program} {l : Launch} {e : Env} {N d : Nat} {s : State} {m : MethodId} {args : Array Value} {below : List Frame} {meth : Method} {c : Code} {z : Wd × Int64} (X : CX V p s m args meth c cX10_of 5 RX10 (some .long))    {w : Wd} {y0 : Int64} {H : Heap} {locs : List Loc} {ls : Array Slot} (h : bX10_of_92 N d   w y0 = some z) (hH : wH V (cC V) (AC V) s w H locs) (hl : lv_has ls 5 []) : W p l e (rmD (d + 1)) s m args below meth c H locs 0 0 (MQ below (CtL V (cC V) (AC V) z) args s 0 0 (AC V)) (F0 m 92 ls [.long y0]) := by
  unfold bX10_of_92 at h
  obtain ⟨hx, hb, hml, hown, hg, hrt, hlk, hK⟩ := id X
  exact r_lret (pc := 92) X hH h dX10_of_92
def bX10_of_112 (N d : Nat)   (w : Wd) (y0 : Int64) : Option (Wd × Int64) :=
  some (w, y0)
set_option maxHeartbeats 4000000 in
theorem kX10_of_112 {V : Ev} {p : Program} {l : Launch} {e : Env} {N d : Nat} {s : State} {m : MethodId} {args : Array Value} {below : List Frame} {meth : Method} {c : Code} {z : Wd × Int64} (X : CX V p s m args meth c cX10_of 5 RX10 (some .long))    {w : Wd} {y0 : Int64} {H : Heap} {locs : List Loc} {ls : Array Slot} (h : bX10_of_112 N d   w y0 = some z) (hH : wH V (cC V) (AC V) s w H locs) (hl : lv_has ls 5 []) : W p l e (rmD (d + 1)) s m args below meth c H locs 0 0 (MQ below (CtL V (cC V) (AC V) z) args s 0 0 (AC V)) (F0 m 112 ls [.long y0]) := by
  unfold bX10_of_112 at h
  obtain ⟨hx, hb, hml, hown, hg, hrt, hlk, hK⟩ := id X
  exact r_lret (pc := 112) X hH h dX10_of_112
def bX10_of_34 (N d : Nat)   (w : Wd) (x1 : Int32) (x2 : Int32) (x3 : Int32) : Option (Wd × Int64) :=
  c_ld w 14 1000 x1 fun v5 =>
  if x2 = 0 then (
    if 10 ≤ v5 then (
      bX10_of_92 N d   w (-1)
    ) else (
      bX10_of_92 N d   w (Int32.toInt64 v5)
    )
  ) else (
    if x2 = 1 then (
      if 10 ≤ v5 then (
        bX10_of_112 N d   w (Int32.toInt64 (v5 - 10))
      ) else (
        bX10_of_112 N d   w (-1)
      )
    ) else (
      if x2 = 2 then (
        c_ll w 17 1000 x1 fun v6 =>
        some (w, v6)
      ) else (
        if x2 = 3 then (
          c_ll w 18 1000 x1 fun v7 =>
          some (w, v7)
        ) else (
          c_cl (eX8_howOften N d w x1 x3) fun w8 v9 =>
          some (w8, v9)
        )
      )
    )
  )
set_option maxHeartbeats 4000000 in
theorem kX10_of_34 {V : Ev} {p : Program} {l : Launch} {e : Env} {N d : Nat} {s : State} {m : MethodId} {args : Array Value} {below : List Frame} {meth : Method} {c : Code} {z : Wd × Int64} (X : CX V p s m args meth c cX10_of 5 RX10 (some .long))    {w : Wd} {x1 : Int32} {x2 : Int32} {x3 : Int32} {H : Heap} {locs : List Loc} {ls : Array Slot} (h : bX10_of_34 N d   w x1 x2 x3 = some z) (hH : wH V (cC V) (AC V) s w H locs) (hl : lv_has ls 5 [(0, .ref (V.2.2 0)), (1, .int x1), (2, .int x2), (3, .int x3)]) : W p l e (rmD (d + 1)) s m args below meth c H locs 0 0 (MQ below (CtL V (cC V) (AC V) z) args s 0 0 (AC V)) (F0 m 34 ls []) := by
  unfold bX10_of_34 at h
  obtain ⟨hx, hb, hml, hown, hg, hrt, hlk, hK⟩ := id X
  refine lv_aload_n (pc := 34) hx hb dX10_of_34 rfl (lv_at hl 0 rfl) ?_
  refine gC_X10_15_0 (pc := 35) X hH dX10_of_35 ?_
  refine gC_X10_197_1 (pc := 38) X hH dX10_of_38 ?_
  refine lv_iload_n (pc := 41) hx hb dX10_of_41 rfl (lv_at hl 1 rfl) ?_
  refine r_ld (pc := 42) X (heC_14 V w) hH h dX10_of_42 (fun v5 h => ?_)
  refine lv_istore (pc := 43) (lv' := [(4, .int v5), (0, .ref (V.2.2 0)), (1, .int x1), (2, .int x2), (3, .int x3)]) hx hb dX10_of_43 hl (by decide) rfl (fun ls hl => ?_)
  refine lv_iload_n (pc := 45) hx hb dX10_of_45 rfl (lv_at hl 3 rfl) ?_
  refine b_sw h (fun q0 h => ?_) (fun q0 h => ?_)
  · refine lv_tableIn (pc := 46) (tgt := 76) hx hb dX10_of_46 (by rw [q0]; decide) (by rw [q0]; decide) (by rw [q0]; rfl) (by decide) ?_
    refine lv_iload (pc := 76) hx hb dX10_of_76 (lv_at hl 0 rfl) ?_
    refine lv_bipush (pc := 78) (v := 10) hx hb dX10_of_78 (by decide) ?_
    refine b_icmp_ge (pc := 80) (tgt := 89) hx hb h dX10_of_80 (by decide) (fun h => ?_) (fun h => ?_)
    · refine lv_ldc2 (pc := 89) hx hb hown (hg _ wL_578) dX10_of_89 ?_
      exact kX10_of_92 X   h hH (lv_sub hl [] rfl)
    · refine lv_iload (pc := 83) hx hb dX10_of_83 (lv_at hl 0 rfl) ?_
      refine lv_i2l (pc := 85) hx hb dX10_of_85 rfl ?_
      refine lv_goto (pc := 86) (tgt := 92) hx hb dX10_of_86 (by decide) ?_
      exact kX10_of_92 X   h hH (lv_sub hl [] rfl)
  refine b_sw h (fun q1 h => ?_) (fun q1 h => ?_)
  · refine lv_tableIn (pc := 46) (tgt := 93) hx hb dX10_of_46 (by rw [q1]; decide) (by rw [q1]; decide) (by rw [q1]; rfl) (by decide) ?_
    refine lv_iload (pc := 93) hx hb dX10_of_93 (lv_at hl 0 rfl) ?_
    refine lv_bipush (pc := 95) (v := 10) hx hb dX10_of_95 (by decide) ?_
    refine b_icmp_ge (pc := 97) (tgt := 106) hx hb h dX10_of_97 (by decide) (fun h => ?_) (fun h => ?_)
    · refine lv_iload (pc := 106) hx hb dX10_of_106 (lv_at hl 0 rfl) ?_
      refine lv_bipush (pc := 108) (v := 10) hx hb dX10_of_108 (by decide) ?_
      refine lv_isub (pc := 110) hx hb dX10_of_110 ?_
      refine lv_i2l (pc := 111) hx hb dX10_of_111 rfl ?_
      exact kX10_of_112 X   h hH (lv_sub hl [] rfl)
    · refine lv_ldc2 (pc := 100) hx hb hown (hg _ wL_578) dX10_of_100 ?_
      refine lv_goto (pc := 103) (tgt := 112) hx hb dX10_of_103 (by decide) ?_
      exact kX10_of_112 X   h hH (lv_sub hl [] rfl)
  refine b_sw h (fun q2 h => ?_) (fun q2 h => ?_)
  · refine lv_tableIn (pc := 46) (tgt := 113) hx hb dX10_of_46 (by rw [q2]; decide) (by rw [q2]; decide) (by rw [q2]; rfl) (by decide) ?_
    refine lv_aload_n (pc := 113) hx hb dX10_of_113 rfl (lv_at hl 1 rfl) ?_
    refine gC_X10_15_0 (pc := 114) X hH dX10_of_114 ?_
    refine gC_X10_200_1 (pc := 117) X hH dX10_of_117 ?_
    refine lv_iload_n (pc := 120) hx hb dX10_of_120 rfl (lv_at hl 2 rfl) ?_
    refine r_ll (pc := 121) X (heC_17 V w) hH h dX10_of_121 (fun v6 h => ?_)
    exact r_lret (pc := 122) X hH h dX10_of_122
  refine b_sw h (fun q3 h => ?_) (fun q3 h => ?_)
  · refine lv_tableIn (pc := 46) (tgt := 123) hx hb dX10_of_46 (by rw [q3]; decide) (by rw [q3]; decide) (by rw [q3]; rfl) (by decide) ?_
    refine lv_aload_n (pc := 123) hx hb dX10_of_123 rfl (lv_at hl 1 rfl) ?_
    refine gC_X10_15_0 (pc := 124) X hH dX10_of_124 ?_
    refine gC_X10_203_1 (pc := 127) X hH dX10_of_127 ?_
    refine lv_iload_n (pc := 130) hx hb dX10_of_130 rfl (lv_at hl 2 rfl) ?_
    refine r_ll (pc := 131) X (heC_18 V w) hH h dX10_of_131 (fun v7 h => ?_)
    exact r_lret (pc := 132) X hH h dX10_of_132
  have qd : x2.toInt < 0 ∨ 3 < x2.toInt := by have := lv_neT q0 (show (0 : Int32).toInt = 0 from rfl); have := lv_neT q1 (show (1 : Int32).toInt = 1 from rfl); have := lv_neT q2 (show (2 : Int32).toInt = 2 from rfl); have := lv_neT q3 (show (3 : Int32).toInt = 3 from rfl); omega
  refine lv_tableOut (pc := 46) (tgt := 133) hx hb dX10_of_46 qd (by decide) ?_
  refine lv_aload_n (pc := 133) hx hb dX10_of_133 rfl (lv_at hl 1 rfl) ?_
  refine gC_X10_15_0 (pc := 134) X hH dX10_of_134 ?_
  refine lv_iload_n (pc := 137) hx hb dX10_of_137 rfl (lv_at hl 2 rfl) ?_
  refine lv_iload_n (pc := 138) hx hb dX10_of_138 rfl (lv_at hl 4 rfl) ?_
  refine r_cvL (pc := 139) (As := [.int x1, .int x3]) (rest := []) X hH (fun x hx => mX8_howOften hx) cw_X10_206 (heC_1 V w) rfl rfl rfl (Nat.le_of_ble_eq_true rfl) hl.1 h dX10_of_139 (fun w8 v9 H locs h hH => ?_)
  exact r_lret (pc := 142) X hH h dX10_of_142
def bX10_of_0 (N d : Nat)   (w : Wd) (x1 : Int32) (x2 : Int32) (x3 : Int32) : Option (Wd × Int64) :=
  c_cl (eX10_isTerm N d w x1) fun w1 v2 =>
  if v2 = 0 then (
    bX10_of_30 N d   w1 
  ) else (
    c_cl (eX10_isWithin N d w1 x2 5) fun w3 v4 =>
    if v4 = 0 then (
      bX10_of_30 N d   w3 
    ) else (
      if x2 = 4 then (
        c_cl (eX10_isWithin N d w3 x3 8) fun w10 v11 =>
        if v11 = 0 then (
          bX10_of_30 N d   w10 
        ) else (
          bX10_of_34 N d   w10 x1 x2 x3
        )
      ) else (
        bX10_of_34 N d   w3 x1 x2 x3
      )
    )
  )
set_option maxHeartbeats 4000000 in
theorem kX10_of_0 {V : Ev} {p : Program} {l : Launch} {e : Env} {N d : Nat} {s : State} {m : MethodId} {args : Array Value} {below : List Frame} {meth : Method} {c : Code} {z : Wd × Int64} (X : CX V p s m args meth c cX10_of 5 RX10 (some .long))    {w : Wd} {x1 : Int32} {x2 : Int32} {x3 : Int32} {H : Heap} {locs : List Loc} {ls : Array Slot} (h : bX10_of_0 N d   w x1 x2 x3 = some z) (hH : wH V (cC V) (AC V) s w H locs) (hl : lv_has ls 5 [(0, .ref (V.2.2 0)), (1, .int x1), (2, .int x2), (3, .int x3)]) : W p l e (rmD (d + 1)) s m args below meth c H locs 0 0 (MQ below (CtL V (cC V) (AC V) z) args s 0 0 (AC V)) (F0 m 0 ls []) := by
  unfold bX10_of_0 at h
  obtain ⟨hx, hb, hml, hown, hg, hrt, hlk, hK⟩ := id X
  refine lv_aload_n (pc := 0) hx hb dX10_of_0 rfl (lv_at hl 0 rfl) ?_
  refine lv_iload_n (pc := 1) hx hb dX10_of_1 rfl (lv_at hl 1 rfl) ?_
  refine r_cvI (pc := 2) (As := [.int x1]) (rest := []) X hH (fun x hx => mX10_isTerm hx) cw_X10_82 (heC_0 V w) rfl rfl rfl (Nat.le_of_ble_eq_true rfl) hl.1 h dX10_of_2 (fun w1 v2 H locs h hH => ?_)
  refine b_if_eq (pc := 5) (tgt := 30) hx hb h dX10_of_5 (by decide) (fun h => ?_) (fun h => ?_)
  · exact kX10_of_30 X   h hH (lv_sub hl [] rfl)
  · refine lv_iload_n (pc := 8) hx hb dX10_of_8 rfl (lv_at hl 2 rfl) ?_
    refine lv_iconst (pc := 9) (v := 5) hx hb dX10_of_9 (by decide) ?_
    refine r_csI (pc := 10) (As := [.int x2, .int 5]) (rest := []) X hH (fun x hx => mX10_isWithin hx) cs_X10_66 rfl rfl (Nat.le_of_ble_eq_true rfl) hl.1 h dX10_of_10 (fun w3 v4 H locs h hH => ?_)
    refine b_if_eq (pc := 13) (tgt := 30) hx hb h dX10_of_13 (by decide) (fun h => ?_) (fun h => ?_)
    · exact kX10_of_30 X   h hH (lv_sub hl [] rfl)
    · refine lv_iload_n (pc := 16) hx hb dX10_of_16 rfl (lv_at hl 2 rfl) ?_
      refine lv_iconst (pc := 17) (v := 4) hx hb dX10_of_17 (by decide) ?_
      refine b_icmp_ne (pc := 18) (tgt := 34) hx hb h dX10_of_18 (by decide) (fun h => ?_) (fun h => ?_)
      · exact kX10_of_34 X   h hH (lv_sub hl [0, 1, 2, 3] rfl)
      · refine lv_iload_n (pc := 21) hx hb dX10_of_21 rfl (lv_at hl 3 rfl) ?_
        refine lv_bipush (pc := 22) (v := 8) hx hb dX10_of_22 (by decide) ?_
        refine r_csI (pc := 24) (As := [.int x3, .int 8]) (rest := []) X hH (fun x hx => mX10_isWithin hx) cs_X10_66 rfl rfl (Nat.le_of_ble_eq_true rfl) hl.1 h dX10_of_24 (fun w10 v11 H locs h hH => ?_)
        refine b_if_ne (pc := 27) (tgt := 34) hx hb h dX10_of_27 (by decide) (fun h => ?_) (fun h => ?_)
        · exact kX10_of_34 X   h hH (lv_sub hl [0, 1, 2, 3] rfl)
        · exact kX10_of_30 X   h hH (lv_sub hl [] rfl)
def eX10_of (N : Nat) : Nat → Wd → Int32 → Int32 → Int32 → Option (Wd × Int64)
  | 0 => fun _ _ _ _ => none
  | d + 1 => fun w x1 x2 x3 => bX10_of_0 N d  w x1 x2 x3
set_option maxHeartbeats 4000000 in
set_option maxRecDepth 20000 in
theorem mX10_of {l : Launch} {V : Ev} {N d : Nat} {w : Wd} {x1 : Int32} {x2 : Int32} {x3 : Int32} {z : Wd × Int64} (h : eX10_of N d w x1 x2 x3 = some z) : MetL l V (cC V) (AC V) yX10_of cX10_of 5 (some .long) d [.ref (V.2.2 0), .int x1, .int x2, .int x3] w z := by
  cases d with
  | zero => exact c_none h
  | succ d =>
    refine Met.ofW (cc := cX10_of) (maxL := 5) (ret := (some .long)) (by decide) rfl ?_
    intro p e s m args below meth c s₁ B hml hv
    obtain ⟨rfl, hP, hD, hK⟩ := hv
    have hts := atoms_spec (ws := .code yX10_of cX10_of 5 (some .long) :: gG) B.pre
    have X : CX V p s m ([.ref (V.2.2 0), .int x1, .int x2, .int x3] : List Value).toArray meth c cX10_of 5 RX10 (some .long) := ⟨B.exec, B.bytes, hml, findClass_of_methodNamed B.named, fun w hw => hts w (List.mem_cons_of_mem _ hw), B.returns, B.notSynchronized, hK⟩
    have hl := lv_entry ([.ref (V.2.2 0), .int x1, .int x2, .int x3] : List Value) (n := 5) (Nat.le_of_ble_eq_true rfl)
    rw [lg_entry_eq]
    generalize (lg_sl ([.ref (V.2.2 0), .int x1, .int x2, .int x3] : List Value) ++ List.replicate (5 - (lg_sl ([.ref (V.2.2 0), .int x1, .int x2, .int x3] : List Value)).length) Slot.unset).toArray = ls at hl ⊢
    have hl : lv_has ls 5 [(0, .ref (V.2.2 0)), (1, .int x1), (2, .int x2), (3, .int x3)] := hl
    exact kX10_of_0 (N := N) X  h ⟨hP, hD, va_S.rf⟩ hl
theorem dX10_count_0 : decode cX10_count 0 = .ok (.iload_n 1, 1) := by decide +kernel
theorem dX10_count_1 : decode cX10_count 1 = .ok (.tableswitch 78 0 4 #[35, 43, 51, 59, 70], 35) := by decide +kernel
theorem dX10_count_36 : decode cX10_count 36 = .ok (.aload_n 0, 1) := by decide +kernel
theorem dX10_count_37 : decode cX10_count 37 = .ok (.getfield 15, 3) := by decide +kernel
theorem dX10_count_40 : decode cX10_count 40 = .ok (.getfield 74, 3) := by decide +kernel
theorem dX10_count_43 : decode cX10_count 43 = .ok (.ireturn, 1) := by decide +kernel
theorem dX10_count_44 : decode cX10_count 44 = .ok (.aload_n 0, 1) := by decide +kernel
theorem dX10_count_45 : decode cX10_count 45 = .ok (.getfield 15, 3) := by decide +kernel
theorem dX10_count_48 : decode cX10_count 48 = .ok (.getfield 99, 3) := by decide +kernel
theorem dX10_count_51 : decode cX10_count 51 = .ok (.ireturn, 1) := by decide +kernel
theorem dX10_count_52 : decode cX10_count 52 = .ok (.aload_n 0, 1) := by decide +kernel
theorem dX10_count_53 : decode cX10_count 53 = .ok (.getfield 19, 3) := by decide +kernel
theorem dX10_count_56 : decode cX10_count 56 = .ok (.getfield 222, 3) := by decide +kernel
theorem dX10_count_59 : decode cX10_count 59 = .ok (.ireturn, 1) := by decide +kernel
theorem dX10_count_60 : decode cX10_count 60 = .ok (.aload_n 0, 1) := by decide +kernel
theorem dX10_count_61 : decode cX10_count 61 = .ok (.getfield 44, 3) := by decide +kernel
theorem dX10_count_64 : decode cX10_count 64 = .ok (.getfield 149, 3) := by decide +kernel
theorem dX10_count_67 : decode cX10_count 67 = .ok (.getfield 153, 3) := by decide +kernel
theorem dX10_count_70 : decode cX10_count 70 = .ok (.ireturn, 1) := by decide +kernel
theorem dX10_count_71 : decode cX10_count 71 = .ok (.aload_n 0, 1) := by decide +kernel
theorem dX10_count_72 : decode cX10_count 72 = .ok (.getfield 51, 3) := by decide +kernel
theorem dX10_count_75 : decode cX10_count 75 = .ok (.getfield 171, 3) := by decide +kernel
theorem dX10_count_78 : decode cX10_count 78 = .ok (.ireturn, 1) := by decide +kernel
theorem dX10_count_79 : decode cX10_count 79 = .ok (.bipush (-2), 2) := by decide +kernel
theorem dX10_count_81 : decode cX10_count 81 = .ok (.ireturn, 1) := by decide +kernel
def bX10_count_0 (N d : Nat)   (w : Wd) (x1 : Int32) : Option (Wd × Int32) :=
  if x1 = 0 then (
    some (w, sI w 0)
  ) else (
    if x1 = 1 then (
      some (w, sI w 1)
    ) else (
      if x1 = 2 then (
        some (w, sI w 2)
      ) else (
        if x1 = 3 then (
          some (w, sI w 15)
        ) else (
          if x1 = 4 then (
            some (w, sI w 10)
          ) else (
            some (w, -2)
          )
        )
      )
    )
  )
set_option maxHeartbeats 4000000 in
theorem kX10_count_0 {V : Ev} {p : Program} {l : Launch} {e : Env} {N d : Nat} {s : State} {m : MethodId} {args : Array Value} {below : List Frame} {meth : Method} {c : Code} {z : Wd × Int32} (X : CX V p s m args meth c cX10_count 2 RX10 (some .int))    {w : Wd} {x1 : Int32} {H : Heap} {locs : List Loc} {ls : Array Slot} (h : bX10_count_0 N d   w x1 = some z) (hH : wH V (cC V) (AC V) s w H locs) (hl : lv_has ls 2 [(0, .ref (V.2.2 0)), (1, .int x1)]) : W p l e (rmD (d + 1)) s m args below meth c H locs 0 0 (MQ below (CtI V (cC V) (AC V) z) args s 0 0 (AC V)) (F0 m 0 ls []) := by
  unfold bX10_count_0 at h
  obtain ⟨hx, hb, hml, hown, hg, hrt, hlk, hK⟩ := id X
  refine lv_iload_n (pc := 0) hx hb dX10_count_0 rfl (lv_at hl 1 rfl) ?_
  refine b_sw h (fun q0 h => ?_) (fun q0 h => ?_)
  · refine lv_tableIn (pc := 1) (tgt := 36) hx hb dX10_count_1 (by rw [q0]; decide) (by rw [q0]; decide) (by rw [q0]; rfl) (by decide) ?_
    refine lv_aload_n (pc := 36) hx hb dX10_count_36 rfl (lv_at hl 0 rfl) ?_
    refine gC_X10_15_0 (pc := 37) X hH dX10_count_37 ?_
    refine gC_X10_74_1 (pc := 40) X hH dX10_count_40 ?_
    exact r_iret (pc := 43) X hH h dX10_count_43
  refine b_sw h (fun q1 h => ?_) (fun q1 h => ?_)
  · refine lv_tableIn (pc := 1) (tgt := 44) hx hb dX10_count_1 (by rw [q1]; decide) (by rw [q1]; decide) (by rw [q1]; rfl) (by decide) ?_
    refine lv_aload_n (pc := 44) hx hb dX10_count_44 rfl (lv_at hl 0 rfl) ?_
    refine gC_X10_15_0 (pc := 45) X hH dX10_count_45 ?_
    refine gC_X10_99_1 (pc := 48) X hH dX10_count_48 ?_
    exact r_iret (pc := 51) X hH h dX10_count_51
  refine b_sw h (fun q2 h => ?_) (fun q2 h => ?_)
  · refine lv_tableIn (pc := 1) (tgt := 52) hx hb dX10_count_1 (by rw [q2]; decide) (by rw [q2]; decide) (by rw [q2]; rfl) (by decide) ?_
    refine lv_aload_n (pc := 52) hx hb dX10_count_52 rfl (lv_at hl 0 rfl) ?_
    refine gC_X10_19_0 (pc := 53) X hH dX10_count_53 ?_
    refine gC_X10_222_2 (pc := 56) X hH dX10_count_56 ?_
    exact r_iret (pc := 59) X hH h dX10_count_59
  refine b_sw h (fun q3 h => ?_) (fun q3 h => ?_)
  · refine lv_tableIn (pc := 1) (tgt := 60) hx hb dX10_count_1 (by rw [q3]; decide) (by rw [q3]; decide) (by rw [q3]; rfl) (by decide) ?_
    refine lv_aload_n (pc := 60) hx hb dX10_count_60 rfl (lv_at hl 0 rfl) ?_
    refine gC_X10_44_0 (pc := 61) X hH dX10_count_61 ?_
    refine gC_X10_149_5 (pc := 64) X hH dX10_count_64 ?_
    refine gC_X10_153_9 (pc := 67) X hH dX10_count_67 ?_
    exact r_iret (pc := 70) X hH h dX10_count_70
  refine b_sw h (fun q4 h => ?_) (fun q4 h => ?_)
  · refine lv_tableIn (pc := 1) (tgt := 71) hx hb dX10_count_1 (by rw [q4]; decide) (by rw [q4]; decide) (by rw [q4]; rfl) (by decide) ?_
    refine lv_aload_n (pc := 71) hx hb dX10_count_71 rfl (lv_at hl 0 rfl) ?_
    refine gC_X10_51_0 (pc := 72) X hH dX10_count_72 ?_
    refine gC_X10_171_6 (pc := 75) X hH dX10_count_75 ?_
    exact r_iret (pc := 78) X hH h dX10_count_78
  have qd : x1.toInt < 0 ∨ 4 < x1.toInt := by have := lv_neT q0 (show (0 : Int32).toInt = 0 from rfl); have := lv_neT q1 (show (1 : Int32).toInt = 1 from rfl); have := lv_neT q2 (show (2 : Int32).toInt = 2 from rfl); have := lv_neT q3 (show (3 : Int32).toInt = 3 from rfl); have := lv_neT q4 (show (4 : Int32).toInt = 4 from rfl); omega
  refine lv_tableOut (pc := 1) (tgt := 79) hx hb dX10_count_1 qd (by decide) ?_
  refine lv_bipush (pc := 79) (v := -2) hx hb dX10_count_79 (by decide) ?_
  exact r_iret (pc := 81) X hH h dX10_count_81
def eX10_count (N : Nat) : Nat → Wd → Int32 → Option (Wd × Int32)
  | 0 => fun _ _ => none
  | d + 1 => fun w x1 => bX10_count_0 N d  w x1
set_option maxHeartbeats 4000000 in
set_option maxRecDepth 20000 in
theorem mX10_count {l : Launch} {V : Ev} {N d : Nat} {w : Wd} {x1 : Int32} {z : Wd × Int32} (h : eX10_count N d w x1 = some z) : MetI l V (cC V) (AC V) yX10_count cX10_count 2 (some .int) d [.ref (V.2.2 0), .int x1] w z := by
  cases d with
  | zero => exact c_none h
  | succ d =>
    refine Met.ofW (cc := cX10_count) (maxL := 2) (ret := (some .int)) (by decide) rfl ?_
    intro p e s m args below meth c s₁ B hml hv
    obtain ⟨rfl, hP, hD, hK⟩ := hv
    have hts := atoms_spec (ws := .code yX10_count cX10_count 2 (some .int) :: gG) B.pre
    have X : CX V p s m ([.ref (V.2.2 0), .int x1] : List Value).toArray meth c cX10_count 2 RX10 (some .int) := ⟨B.exec, B.bytes, hml, findClass_of_methodNamed B.named, fun w hw => hts w (List.mem_cons_of_mem _ hw), B.returns, B.notSynchronized, hK⟩
    have hl := lv_entry ([.ref (V.2.2 0), .int x1] : List Value) (n := 2) (Nat.le_of_ble_eq_true rfl)
    rw [lg_entry_eq]
    generalize (lg_sl ([.ref (V.2.2 0), .int x1] : List Value) ++ List.replicate (2 - (lg_sl ([.ref (V.2.2 0), .int x1] : List Value)).length) Slot.unset).toArray = ls at hl ⊢
    have hl : lv_has ls 2 [(0, .ref (V.2.2 0)), (1, .int x1)] := hl
    exact kX10_count_0 (N := N) X  h ⟨hP, hD, va_S.rf⟩ hl
theorem dX10_clear_0 : decode cX10_clear 0 = .ok (.aload_n 0, 1) := by decide +kernel
theorem dX10_clear_1 : decode cX10_clear 1 = .ok (.getfield 15, 3) := by decide +kernel
theorem dX10_clear_4 : decode cX10_clear 4 = .ok (.getfield 99, 3) := by decide +kernel
theorem dX10_clear_7 : decode cX10_clear 7 = .ok (.istore_n 1, 1) := by decide +kernel
theorem dX10_clear_8 : decode cX10_clear 8 = .ok (.aload_n 0, 1) := by decide +kernel
theorem dX10_clear_9 : decode cX10_clear 9 = .ok (.getfield 15, 3) := by decide +kernel
theorem dX10_clear_12 : decode cX10_clear 12 = .ok (.iconst 0, 1) := by decide +kernel
theorem dX10_clear_13 : decode cX10_clear 13 = .ok (.invokevirtual 223, 3) := by decide +kernel
theorem dX10_clear_16 : decode cX10_clear 16 = .ok (.aload_n 0, 1) := by decide +kernel
theorem dX10_clear_17 : decode cX10_clear 17 = .ok (.getfield 15, 3) := by decide +kernel
theorem dX10_clear_20 : decode cX10_clear 20 = .ok (.iconst 0, 1) := by decide +kernel
theorem dX10_clear_21 : decode cX10_clear 21 = .ok (.putfield 74, 3) := by decide +kernel
theorem dX10_clear_24 : decode cX10_clear 24 = .ok (.aload_n 0, 1) := by decide +kernel
theorem dX10_clear_25 : decode cX10_clear 25 = .ok (.getfield 19, 3) := by decide +kernel
theorem dX10_clear_28 : decode cX10_clear 28 = .ok (.iconst 0, 1) := by decide +kernel
theorem dX10_clear_29 : decode cX10_clear 29 = .ok (.putfield 222, 3) := by decide +kernel
theorem dX10_clear_32 : decode cX10_clear 32 = .ok (.aload_n 0, 1) := by decide +kernel
theorem dX10_clear_33 : decode cX10_clear 33 = .ok (.getfield 44, 3) := by decide +kernel
theorem dX10_clear_36 : decode cX10_clear 36 = .ok (.getfield 149, 3) := by decide +kernel
theorem dX10_clear_39 : decode cX10_clear 39 = .ok (.iconst 0, 1) := by decide +kernel
theorem dX10_clear_40 : decode cX10_clear 40 = .ok (.putfield 153, 3) := by decide +kernel
theorem dX10_clear_43 : decode cX10_clear 43 = .ok (.aload_n 0, 1) := by decide +kernel
theorem dX10_clear_44 : decode cX10_clear 44 = .ok (.getfield 51, 3) := by decide +kernel
theorem dX10_clear_47 : decode cX10_clear 47 = .ok (.iconst 0, 1) := by decide +kernel
theorem dX10_clear_48 : decode cX10_clear 48 = .ok (.putfield 171, 3) := by decide +kernel
theorem dX10_clear_51 : decode cX10_clear 51 = .ok (.aload_n 0, 1) := by decide +kernel
theorem dX10_clear_52 : decode cX10_clear 52 = .ok (.getfield 51, 3) := by decide +kernel
theorem dX10_clear_55 : decode cX10_clear 55 = .ok (.iconst 0, 1) := by decide +kernel
theorem dX10_clear_56 : decode cX10_clear 56 = .ok (.putfield 187, 3) := by decide +kernel
theorem dX10_clear_59 : decode cX10_clear 59 = .ok (.aload_n 0, 1) := by decide +kernel
theorem dX10_clear_60 : decode cX10_clear 60 = .ok (.getfield 58, 3) := by decide +kernel
theorem dX10_clear_63 : decode cX10_clear 63 = .ok (.iconst 0, 1) := by decide +kernel
theorem dX10_clear_64 : decode cX10_clear 64 = .ok (.putfield 117, 3) := by decide +kernel
theorem dX10_clear_67 : decode cX10_clear 67 = .ok (.iload_n 1, 1) := by decide +kernel
theorem dX10_clear_68 : decode cX10_clear 68 = .ok (.ireturn, 1) := by decide +kernel
def bX10_clear_0 (N d : Nat)   (w : Wd)  : Option (Wd × Int32) :=
  c_nm (sI w 1) fun x1_1 =>
  c_cv (eX8_shrinkTo N d w 0) fun w2 =>
  c_pi w2 0 0 fun w3 =>
  c_pi w3 2 0 fun w4 =>
  c_pi w4 15 0 fun w5 =>
  c_pi w5 10 0 fun w6 =>
  c_pi w6 11 0 fun w7 =>
  c_pi w7 13 0 fun w8 =>
  some (w8, x1_1)
set_option maxHeartbeats 4000000 in
theorem kX10_clear_0 {V : Ev} {p : Program} {l : Launch} {e : Env} {N d : Nat} {s : State} {m : MethodId} {args : Array Value} {below : List Frame} {meth : Method} {c : Code} {z : Wd × Int32} (X : CX V p s m args meth c cX10_clear 2 RX10 (some .int))    {w : Wd}  {H : Heap} {locs : List Loc} {ls : Array Slot} (h : bX10_clear_0 N d   w  = some z) (hH : wH V (cC V) (AC V) s w H locs) (hl : lv_has ls 2 [(0, .ref (V.2.2 0))]) : W p l e (rmD (d + 1)) s m args below meth c H locs 0 0 (MQ below (CtI V (cC V) (AC V) z) args s 0 0 (AC V)) (F0 m 0 ls []) := by
  unfold bX10_clear_0 at h
  obtain ⟨hx, hb, hml, hown, hg, hrt, hlk, hK⟩ := id X
  refine lv_aload_n (pc := 0) hx hb dX10_clear_0 rfl (lv_at hl 0 rfl) ?_
  refine gC_X10_15_0 (pc := 1) X hH dX10_clear_1 ?_
  refine gC_X10_99_1 (pc := 4) X hH dX10_clear_4 ?_
  refine r_nmi h (fun x1_1 h => ?_)
  refine lv_istore_n (pc := 7) (lv' := [(1, .int x1_1), (0, .ref (V.2.2 0))]) hx hb dX10_clear_7 rfl hl (by decide) rfl (fun ls hl => ?_)
  refine lv_aload_n (pc := 8) hx hb dX10_clear_8 rfl (lv_at hl 1 rfl) ?_
  refine gC_X10_15_0 (pc := 9) X hH dX10_clear_9 ?_
  refine lv_iconst (pc := 12) (v := 0) hx hb dX10_clear_12 (by decide) ?_
  refine r_cvV (pc := 13) (As := [.int 0]) (rest := []) X hH (fun x hx => mX8_shrinkTo hx) cw_X10_223 (heC_1 V w) rfl rfl rfl (Nat.le_of_ble_eq_true rfl) hl.1 h dX10_clear_13 (fun w2 H locs h hH => ?_)
  refine lv_aload_n (pc := 16) hx hb dX10_clear_16 rfl (lv_at hl 1 rfl) ?_
  refine gC_X10_15_0 (pc := 17) X hH dX10_clear_17 ?_
  refine lv_iconst (pc := 20) (v := 0) hx hb dX10_clear_20 (by decide) ?_
  refine pC_X10_74_1 (pc := 21) X hH h dX10_clear_21 (fun w3 H locs h hH => ?_)
  refine lv_aload_n (pc := 24) hx hb dX10_clear_24 rfl (lv_at hl 1 rfl) ?_
  refine gC_X10_19_0 (pc := 25) X hH dX10_clear_25 ?_
  refine lv_iconst (pc := 28) (v := 0) hx hb dX10_clear_28 (by decide) ?_
  refine pC_X10_222_2 (pc := 29) X hH h dX10_clear_29 (fun w4 H locs h hH => ?_)
  refine lv_aload_n (pc := 32) hx hb dX10_clear_32 rfl (lv_at hl 1 rfl) ?_
  refine gC_X10_44_0 (pc := 33) X hH dX10_clear_33 ?_
  refine gC_X10_149_5 (pc := 36) X hH dX10_clear_36 ?_
  refine lv_iconst (pc := 39) (v := 0) hx hb dX10_clear_39 (by decide) ?_
  refine pC_X10_153_9 (pc := 40) X hH h dX10_clear_40 (fun w5 H locs h hH => ?_)
  refine lv_aload_n (pc := 43) hx hb dX10_clear_43 rfl (lv_at hl 1 rfl) ?_
  refine gC_X10_51_0 (pc := 44) X hH dX10_clear_44 ?_
  refine lv_iconst (pc := 47) (v := 0) hx hb dX10_clear_47 (by decide) ?_
  refine pC_X10_171_6 (pc := 48) X hH h dX10_clear_48 (fun w6 H locs h hH => ?_)
  refine lv_aload_n (pc := 51) hx hb dX10_clear_51 rfl (lv_at hl 1 rfl) ?_
  refine gC_X10_51_0 (pc := 52) X hH dX10_clear_52 ?_
  refine lv_iconst (pc := 55) (v := 0) hx hb dX10_clear_55 (by decide) ?_
  refine pC_X10_187_6 (pc := 56) X hH (Or.inl rfl) h dX10_clear_56 (fun w7 H locs h hH => ?_)
  refine lv_aload_n (pc := 59) hx hb dX10_clear_59 rfl (lv_at hl 1 rfl) ?_
  refine gC_X10_58_0 (pc := 60) X hH dX10_clear_60 ?_
  refine lv_iconst (pc := 63) (v := 0) hx hb dX10_clear_63 (by decide) ?_
  refine pC_X10_117_7 (pc := 64) X hH h dX10_clear_64 (fun w8 H locs h hH => ?_)
  refine lv_iload_n (pc := 67) hx hb dX10_clear_67 rfl (lv_at hl 0 rfl) ?_
  exact r_iret (pc := 68) X hH h dX10_clear_68
def eX10_clear (N : Nat) : Nat → Wd → Option (Wd × Int32)
  | 0 => fun _  => none
  | d + 1 => fun w  => bX10_clear_0 N d  w 
set_option maxHeartbeats 4000000 in
set_option maxRecDepth 20000 in
theorem mX10_clear {l : Launch} {V : Ev} {N d : Nat} {w : Wd}  {z : Wd × Int32} (h : eX10_clear N d w  = some z) : MetI l V (cC V) (AC V) yX10_clear cX10_clear 2 (some .int) d [.ref (V.2.2 0)] w z := by
  cases d with
  | zero => exact c_none h
  | succ d =>
    refine Met.ofW (cc := cX10_clear) (maxL := 2) (ret := (some .int)) (by decide) rfl ?_
    intro p e s m args below meth c s₁ B hml hv
    obtain ⟨rfl, hP, hD, hK⟩ := hv
    have hts := atoms_spec (ws := .code yX10_clear cX10_clear 2 (some .int) :: gG) B.pre
    have X : CX V p s m ([.ref (V.2.2 0)] : List Value).toArray meth c cX10_clear 2 RX10 (some .int) := ⟨B.exec, B.bytes, hml, findClass_of_methodNamed B.named, fun w hw => hts w (List.mem_cons_of_mem _ hw), B.returns, B.notSynchronized, hK⟩
    have hl := lv_entry ([.ref (V.2.2 0)] : List Value) (n := 2) (Nat.le_of_ble_eq_true rfl)
    rw [lg_entry_eq]
    generalize (lg_sl ([.ref (V.2.2 0)] : List Value) ++ List.replicate (2 - (lg_sl ([.ref (V.2.2 0)] : List Value)).length) Slot.unset).toArray = ls at hl ⊢
    have hl : lv_has ls 2 [(0, .ref (V.2.2 0))] := hl
    exact kX10_clear_0 (N := N) X  h ⟨hP, hD, va_S.rf⟩ hl
