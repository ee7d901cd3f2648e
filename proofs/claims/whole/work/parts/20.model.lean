theorem dX11_below_0 : decode cX11_below 0 = .ok (.ldc2_w 172, 3) := by decide +kernel
theorem dX11_below_3 : decode cX11_below 3 = .ok (.lload_n 0, 1) := by decide +kernel
theorem dX11_below_4 : decode cX11_below 4 = .ok (.lmul, 1) := by decide +kernel
theorem dX11_below_5 : decode cX11_below 5 = .ok (.iload_n 2, 1) := by decide +kernel
theorem dX11_below_6 : decode cX11_below 6 = .ok (.i2l, 1) := by decide +kernel
theorem dX11_below_7 : decode cX11_below 7 = .ok (.ladd, 1) := by decide +kernel
theorem dX11_below_8 : decode cX11_below 8 = .ok (.lstore_n 3, 1) := by decide +kernel
theorem dX11_below_9 : decode cX11_below 9 = .ok (.lload_n 0, 1) := by decide +kernel
theorem dX11_below_10 : decode cX11_below 10 = .ok (.lconst 0, 1) := by decide +kernel
theorem dX11_below_11 : decode cX11_below 11 = .ok (.lcmp, 1) := by decide +kernel
theorem dX11_below_12 : decode cX11_below 12 = .ok (.ifCond .eq 11, 3) := by decide +kernel
theorem dX11_below_15 : decode cX11_below 15 = .ok (.lload_n 3, 1) := by decide +kernel
theorem dX11_below_16 : decode cX11_below 16 = .ok (.ldc2_w 174, 3) := by decide +kernel
theorem dX11_below_19 : decode cX11_below 19 = .ok (.lcmp, 1) := by decide +kernel
theorem dX11_below_20 : decode cX11_below 20 = .ok (.ifCond .lt 7, 3) := by decide +kernel
theorem dX11_below_23 : decode cX11_below 23 = .ok (.lconst 0, 1) := by decide +kernel
theorem dX11_below_24 : decode cX11_below 24 = .ok (.goto 4, 3) := by decide +kernel
theorem dX11_below_27 : decode cX11_below 27 = .ok (.lload_n 3, 1) := by decide +kernel
theorem dX11_below_28 : decode cX11_below 28 = .ok (.lreturn, 1) := by decide +kernel
def bX11_below_28 (N d : Nat)   (w : Wd) (y0 : Int64) : Option (Wd × Int64) :=
  some (w, y0)
set_option maxHeartbeats 4000000 in
theorem kX11_below_28 {V : Ev} {p : Program} {l : Launch} {e : Env} {N d : Nat} {s : State} {m : MethodId} {args : Array Value} {below : List Frame} {meth : Method} {c : Code} {z : Wd × Int64} (X : CX V p s m args meth c cX11_below 5 RX11 (some .long))    {w : Wd} {y0 : Int64} {H : Heap} {locs : List Loc} {ls : Array Slot} (h : bX11_below_28 N d   w y0 = some z) (hH : wH V (cM V) (AM V) s w H locs) (hl : lv_has ls 5 []) : W p l e (rmD (d + 1)) s m args below meth c H locs 0 0 (MQ below (CtL V (cM V) (AM V) z) args s 0 0 (AM V)) (F0 m 28 ls [.long y0]) := by
  unfold bX11_below_28 at h
  obtain ⟨hx, hb, hml, hown, hg, hrt, hlk, hK⟩ := id X
  exact r_lret (pc := 28) X hH h dX11_below_28
def bX11_below_23 (N d : Nat)   (w : Wd)  : Option (Wd × Int64) :=
  bX11_below_28 N d   w 0
set_option maxHeartbeats 4000000 in
theorem kX11_below_23 {V : Ev} {p : Program} {l : Launch} {e : Env} {N d : Nat} {s : State} {m : MethodId} {args : Array Value} {below : List Frame} {meth : Method} {c : Code} {z : Wd × Int64} (X : CX V p s m args meth c cX11_below 5 RX11 (some .long))    {w : Wd}  {H : Heap} {locs : List Loc} {ls : Array Slot} (h : bX11_below_23 N d   w  = some z) (hH : wH V (cM V) (AM V) s w H locs) (hl : lv_has ls 5 []) : W p l e (rmD (d + 1)) s m args below meth c H locs 0 0 (MQ below (CtL V (cM V) (AM V) z) args s 0 0 (AM V)) (F0 m 23 ls []) := by
  unfold bX11_below_23 at h
  obtain ⟨hx, hb, hml, hown, hg, hrt, hlk, hK⟩ := id X
  refine lv_lconst (pc := 23) (v := 0) hx hb dX11_below_23 (by decide) ?_
  refine lv_goto (pc := 24) (tgt := 28) hx hb dX11_below_24 (by decide) ?_
  exact kX11_below_28 X   h hH (lv_sub hl [] rfl)
def bX11_below_0 (N d : Nat)   (w : Wd) (x0 : Int64) (x2 : Int32) : Option (Wd × Int64) :=
  c_nm ((3 * x0) + (Int32.toInt64 x2)) fun x3_1 =>
  if (lg_cmp x0 0) = 0 then (
    bX11_below_23 N d   w 
  ) else (
    if (lg_cmp x3_1 100000000000000000) < 0 then (
      bX11_below_28 N d   w x3_1
    ) else (
      bX11_below_23 N d   w 
    )
  )
set_option maxHeartbeats 4000000 in
theorem kX11_below_0 {V : Ev} {p : Program} {l : Launch} {e : Env} {N d : Nat} {s : State} {m : MethodId} {args : Array Value} {below : List Frame} {meth : Method} {c : Code} {z : Wd × Int64} (X : CX V p s m args meth c cX11_below 5 RX11 (some .long))    {w : Wd} {x0 : Int64} {x2 : Int32} {H : Heap} {locs : List Loc} {ls : Array Slot} (h : bX11_below_0 N d   w x0 x2 = some z) (hH : wH V (cM V) (AM V) s w H locs) (hl : lv_has ls 5 [(0, .long x0), (2, .int x2)]) : W p l e (rmD (d + 1)) s m args below meth c H locs 0 0 (MQ below (CtL V (cM V) (AM V) z) args s 0 0 (AM V)) (F0 m 0 ls []) := by
  unfold bX11_below_0 at h
  obtain ⟨hx, hb, hml, hown, hg, hrt, hlk, hK⟩ := id X
  refine lv_ldc2 (pc := 0) hx hb hown (hg _ wL_1106) dX11_below_0 ?_
  refine lv_lload_n (pc := 3) hx hb dX11_below_3 rfl (lv_at hl 0 rfl) ?_
  refine lv_lmul (pc := 4) hx hb dX11_below_4 ?_
  refine lv_iload_n (pc := 5) hx hb dX11_below_5 rfl (lv_at hl 1 rfl) ?_
  refine lv_i2l (pc := 6) hx hb dX11_below_6 rfl ?_
  refine lv_ladd (pc := 7) hx hb dX11_below_7 ?_
  refine r_nml h (fun x3_1 h => ?_)
  refine lv_lstore_n (pc := 8) (lv' := [(3, .long x3_1), (0, .long x0), (2, .int x2)]) hx hb dX11_below_8 rfl hl (by decide) rfl (fun ls hl => ?_)
  refine lv_lload_n (pc := 9) hx hb dX11_below_9 rfl (lv_at hl 1 rfl) ?_
  refine lv_lconst (pc := 10) (v := 0) hx hb dX11_below_10 (by decide) ?_
  refine W.lcmp (pc := 11) hx hb dX11_below_11 ?_
  refine b_if_eq (pc := 12) (tgt := 23) hx hb h dX11_below_12 (by decide) (fun h => ?_) (fun h => ?_)
  · exact kX11_below_23 X   h hH (lv_sub hl [] rfl)
  · refine lv_lload_n (pc := 15) hx hb dX11_below_15 rfl (lv_at hl 0 rfl) ?_
    refine lv_ldc2 (pc := 16) hx hb hown (hg _ wL_1107) dX11_below_16 ?_
    refine W.lcmp (pc := 19) hx hb dX11_below_19 ?_
    refine b_if_lt (pc := 20) (tgt := 27) hx hb h dX11_below_20 (by decide) (fun h => ?_) (fun h => ?_)
    · refine lv_lload_n (pc := 27) hx hb dX11_below_27 rfl (lv_at hl 0 rfl) ?_
      exact kX11_below_28 X   h hH (lv_sub hl [] rfl)
    · exact kX11_below_23 X   h hH (lv_sub hl [] rfl)
def eX11_below (N : Nat) : Nat → Wd → Int64 → Int32 → Option (Wd × Int64)
  | 0 => fun _ _ _ => none
  | d + 1 => fun w x0 x2 => bX11_below_0 N d  w x0 x2
set_option maxHeartbeats 4000000 in
set_option maxRecDepth 20000 in
theorem mX11_below {l : Launch} {V : Ev} {N d : Nat} {w : Wd} {x0 : Int64} {x2 : Int32} {z : Wd × Int64} (h : eX11_below N d w x0 x2 = some z) : MetL l V (cM V) (AM V) yX11_below cX11_below 5 (some .long) d [.long x0, .int x2] w z := by
  cases d with
  | zero => exact c_none h
  | succ d =>
    refine Met.ofW (cc := cX11_below) (maxL := 5) (ret := (some .long)) (by decide) rfl ?_
    intro p e s m args below meth c s₁ B hml hv
    obtain ⟨rfl, hP, hD, hK⟩ := hv
    have hts := atoms_spec (ws := .code yX11_below cX11_below 5 (some .long) :: gG) B.pre
    have X : CX V p s m ([.long x0, .int x2] : List Value).toArray meth c cX11_below 5 RX11 (some .long) := ⟨B.exec, B.bytes, hml, findClass_of_methodNamed B.named, fun w hw => hts w (List.mem_cons_of_mem _ hw), B.returns, B.notSynchronized, hK⟩
    have hl := lv_entry ([.long x0, .int x2] : List Value) (n := 5) (Nat.le_of_ble_eq_true rfl)
    rw [lg_entry_eq]
    generalize (lg_sl ([.long x0, .int x2] : List Value) ++ List.replicate (5 - (lg_sl ([.long x0, .int x2] : List Value)).length) Slot.unset).toArray = ls at hl ⊢
    have hl : lv_has ls 5 [(0, .long x0), (2, .int x2)] := hl
    exact kX11_below_0 (N := N) X  h ⟨hP, hD, va_S.rf⟩ hl
theorem dX11_changed_0 : decode cX11_changed 0 = .ok (.aload_n 0, 1) := by decide +kernel
theorem dX11_changed_1 : decode cX11_changed 1 = .ok (.getfield 51, 3) := by decide +kernel
theorem dX11_changed_4 : decode cX11_changed 4 = .ok (.iload_n 1, 1) := by decide +kernel
theorem dX11_changed_5 : decode cX11_changed 5 = .ok (.iaload, 1) := by decide +kernel
theorem dX11_changed_6 : decode cX11_changed 6 = .ok (.iconst (-1), 1) := by decide +kernel
theorem dX11_changed_7 : decode cX11_changed 7 = .ok (.if_icmp .eq 14, 3) := by decide +kernel
theorem dX11_changed_10 : decode cX11_changed 10 = .ok (.aload_n 0, 1) := by decide +kernel
theorem dX11_changed_11 : decode cX11_changed 11 = .ok (.getfield 176, 3) := by decide +kernel
theorem dX11_changed_14 : decode cX11_changed 14 = .ok (.ifCond .ne 7, 3) := by decide +kernel
theorem dX11_changed_17 : decode cX11_changed 17 = .ok (.iconst 1, 1) := by decide +kernel
theorem dX11_changed_18 : decode cX11_changed 18 = .ok (.goto 4, 3) := by decide +kernel
theorem dX11_changed_21 : decode cX11_changed 21 = .ok (.iconst 0, 1) := by decide +kernel
theorem dX11_changed_22 : decode cX11_changed 22 = .ok (.istore 4, 2) := by decide +kernel
theorem dX11_changed_24 : decode cX11_changed 24 = .ok (.iconst 0, 1) := by decide +kernel
theorem dX11_changed_25 : decode cX11_changed 25 = .ok (.istore 5, 2) := by decide +kernel
theorem dX11_changed_27 : decode cX11_changed 27 = .ok (.iload 5, 2) := by decide +kernel
theorem dX11_changed_29 : decode cX11_changed 29 = .ok (.aload_n 0, 1) := by decide +kernel
theorem dX11_changed_30 : decode cX11_changed 30 = .ok (.iload_n 1, 1) := by decide +kernel
theorem dX11_changed_31 : decode cX11_changed 31 = .ok (.invokevirtual 140, 3) := by decide +kernel
theorem dX11_changed_34 : decode cX11_changed 34 = .ok (.if_icmp .ge 92, 3) := by decide +kernel
theorem dX11_changed_37 : decode cX11_changed 37 = .ok (.iload 4, 2) := by decide +kernel
theorem dX11_changed_39 : decode cX11_changed 39 = .ok (.ifCond .ne 87, 3) := by decide +kernel
theorem dX11_changed_42 : decode cX11_changed 42 = .ok (.aload_n 0, 1) := by decide +kernel
theorem dX11_changed_43 : decode cX11_changed 43 = .ok (.iload_n 1, 1) := by decide +kernel
theorem dX11_changed_44 : decode cX11_changed 44 = .ok (.iload 5, 2) := by decide +kernel
theorem dX11_changed_46 : decode cX11_changed 46 = .ok (.invokevirtual 143, 3) := by decide +kernel
theorem dX11_changed_49 : decode cX11_changed 49 = .ok (.istore 6, 2) := by decide +kernel
theorem dX11_changed_51 : decode cX11_changed 51 = .ok (.aload_n 0, 1) := by decide +kernel
theorem dX11_changed_52 : decode cX11_changed 52 = .ok (.getfield 48, 3) := by decide +kernel
theorem dX11_changed_55 : decode cX11_changed 55 = .ok (.iload 6, 2) := by decide +kernel
theorem dX11_changed_57 : decode cX11_changed 57 = .ok (.iaload, 1) := by decide +kernel
theorem dX11_changed_58 : decode cX11_changed 58 = .ok (.iconst 1, 1) := by decide +kernel
theorem dX11_changed_59 : decode cX11_changed 59 = .ok (.if_icmp .ne 61, 3) := by decide +kernel
theorem dX11_changed_62 : decode cX11_changed 62 = .ok (.aload_n 0, 1) := by decide +kernel
theorem dX11_changed_63 : decode cX11_changed 63 = .ok (.iload 6, 2) := by decide +kernel
theorem dX11_changed_65 : decode cX11_changed 65 = .ok (.lload_n 2, 1) := by decide +kernel
theorem dX11_changed_66 : decode cX11_changed 66 = .ok (.iload 5, 2) := by decide +kernel
theorem dX11_changed_68 : decode cX11_changed 68 = .ok (.invokestatic 179, 3) := by decide +kernel
theorem dX11_changed_71 : decode cX11_changed 71 = .ok (.invokevirtual 183, 3) := by decide +kernel
theorem dX11_changed_74 : decode cX11_changed 74 = .ok (.istore 7, 2) := by decide +kernel
theorem dX11_changed_76 : decode cX11_changed 76 = .ok (.aload_n 0, 1) := by decide +kernel
theorem dX11_changed_77 : decode cX11_changed 77 = .ok (.aload_n 0, 1) := by decide +kernel
theorem dX11_changed_78 : decode cX11_changed 78 = .ok (.getfield 16, 3) := by decide +kernel
theorem dX11_changed_81 : decode cX11_changed 81 = .ok (.iload_n 1, 1) := by decide +kernel
theorem dX11_changed_82 : decode cX11_changed 82 = .ok (.iaload, 1) := by decide +kernel
theorem dX11_changed_83 : decode cX11_changed 83 = .ok (.iload 5, 2) := by decide +kernel
theorem dX11_changed_85 : decode cX11_changed 85 = .ok (.ifCond .ne 8, 3) := by decide +kernel
theorem dX11_changed_88 : decode cX11_changed 88 = .ok (.iload 7, 2) := by decide +kernel
theorem dX11_changed_90 : decode cX11_changed 90 = .ok (.goto 9, 3) := by decide +kernel
theorem dX11_changed_93 : decode cX11_changed 93 = .ok (.aload_n 0, 1) := by decide +kernel
theorem dX11_changed_94 : decode cX11_changed 94 = .ok (.getfield 19, 3) := by decide +kernel
theorem dX11_changed_97 : decode cX11_changed 97 = .ok (.iload_n 1, 1) := by decide +kernel
theorem dX11_changed_98 : decode cX11_changed 98 = .ok (.iaload, 1) := by decide +kernel
theorem dX11_changed_99 : decode cX11_changed 99 = .ok (.iload 5, 2) := by decide +kernel
theorem dX11_changed_101 : decode cX11_changed 101 = .ok (.iconst 1, 1) := by decide +kernel
theorem dX11_changed_102 : decode cX11_changed 102 = .ok (.if_icmp .ne 8, 3) := by decide +kernel
theorem dX11_changed_105 : decode cX11_changed 105 = .ok (.iload 7, 2) := by decide +kernel
theorem dX11_changed_107 : decode cX11_changed 107 = .ok (.goto 9, 3) := by decide +kernel
theorem dX11_changed_110 : decode cX11_changed 110 = .ok (.aload_n 0, 1) := by decide +kernel
theorem dX11_changed_111 : decode cX11_changed 111 = .ok (.getfield 22, 3) := by decide +kernel
theorem dX11_changed_114 : decode cX11_changed 114 = .ok (.iload_n 1, 1) := by decide +kernel
theorem dX11_changed_115 : decode cX11_changed 115 = .ok (.iaload, 1) := by decide +kernel
theorem dX11_changed_116 : decode cX11_changed 116 = .ok (.invokevirtual 154, 3) := by decide +kernel
theorem dX11_changed_119 : decode cX11_changed 119 = .ok (.ireturn, 1) := by decide +kernel
theorem dX11_changed_120 : decode cX11_changed 120 = .ok (.iinc 5 1, 3) := by decide +kernel
theorem dX11_changed_123 : decode cX11_changed 123 = .ok (.goto (-96), 3) := by decide +kernel
theorem dX11_changed_126 : decode cX11_changed 126 = .ok (.aload_n 0, 1) := by decide +kernel
theorem dX11_changed_127 : decode cX11_changed 127 = .ok (.aload_n 0, 1) := by decide +kernel
theorem dX11_changed_128 : decode cX11_changed 128 = .ok (.getfield 51, 3) := by decide +kernel
theorem dX11_changed_131 : decode cX11_changed 131 = .ok (.iload_n 1, 1) := by decide +kernel
theorem dX11_changed_132 : decode cX11_changed 132 = .ok (.iaload, 1) := by decide +kernel
theorem dX11_changed_133 : decode cX11_changed 133 = .ok (.putfield 187, 3) := by decide +kernel
theorem dX11_changed_136 : decode cX11_changed 136 = .ok (.aload_n 0, 1) := by decide +kernel
theorem dX11_changed_137 : decode cX11_changed 137 = .ok (.lload_n 2, 1) := by decide +kernel
theorem dX11_changed_138 : decode cX11_changed 138 = .ok (.putfield 190, 3) := by decide +kernel
theorem dX11_changed_141 : decode cX11_changed 141 = .ok (.aload_n 0, 1) := by decide +kernel
theorem dX11_changed_142 : decode cX11_changed 142 = .ok (.aload_n 0, 1) := by decide +kernel
theorem dX11_changed_143 : decode cX11_changed 143 = .ok (.getfield 35, 3) := by decide +kernel
theorem dX11_changed_146 : decode cX11_changed 146 = .ok (.aload_n 0, 1) := by decide +kernel
theorem dX11_changed_147 : decode cX11_changed 147 = .ok (.getfield 187, 3) := by decide +kernel
theorem dX11_changed_150 : decode cX11_changed 150 = .ok (.iaload, 1) := by decide +kernel
theorem dX11_changed_151 : decode cX11_changed 151 = .ok (.iload_n 1, 1) := by decide +kernel
theorem dX11_changed_152 : decode cX11_changed 152 = .ok (.invokevirtual 164, 3) := by decide +kernel
theorem dX11_changed_155 : decode cX11_changed 155 = .ok (.istore 5, 2) := by decide +kernel
theorem dX11_changed_157 : decode cX11_changed 157 = .ok (.aload_n 0, 1) := by decide +kernel
theorem dX11_changed_158 : decode cX11_changed 158 = .ok (.aload_n 0, 1) := by decide +kernel
theorem dX11_changed_159 : decode cX11_changed 159 = .ok (.getfield 38, 3) := by decide +kernel
theorem dX11_changed_162 : decode cX11_changed 162 = .ok (.aload_n 0, 1) := by decide +kernel
theorem dX11_changed_163 : decode cX11_changed 163 = .ok (.getfield 187, 3) := by decide +kernel
theorem dX11_changed_166 : decode cX11_changed 166 = .ok (.iaload, 1) := by decide +kernel
theorem dX11_changed_167 : decode cX11_changed 167 = .ok (.invokevirtual 151, 3) := by decide +kernel
theorem dX11_changed_170 : decode cX11_changed 170 = .ok (.ireturn, 1) := by decide +kernel
def bX11_changed_126 (N d : Nat) (self_X11_changed : Wd → Int32 → Int64 → Option (Wd × Int32))  (w : Wd) (x1 : Int32) (x2 : Int64) : Option (Wd × Int32) :=
  c_ld w 14 1000 x1 fun v4 =>
  c_pi w 7 v4 fun w5 =>
  c_pl w5 0 x2 fun w6 =>
  c_ld w6 9 16 (sI w6 7) fun v7 =>
  c_cl (eX11_fits N d w6 v7 x1) fun w8 v9 =>
  c_ld w8 10 16 (sI w8 7) fun v10 =>
  c_cl (eX11_filled N d w8 v10) fun w11 v12 =>
  some (w11, v12)
set_option maxHeartbeats 4000000 in
theorem kX11_changed_126 {V : Ev} {p : Program} {l : Launch} {e : Env} {N d : Nat} {s : State} {m : MethodId} {args : Array Value} {below : List Frame} {meth : Method} {c : Code} {z : Wd × Int32} (X : CX V p s m args meth c cX11_changed 8 RX11 (some .int)) {self_X11_changed : Wd → Int32 → Int64 → Option (Wd × Int32)} (hs_X11_changed : ∀ (w : Wd) (a0 : Int32) (a1 : Int64) (x : Wd × Int32), self_X11_changed w a0 a1 = some x → MetI l V (cM V) (AM V) yX11_changed cX11_changed 8 (some .int) d [.ref (V.2.2 0), .int a0, .long a1] w x)  {w : Wd} {x1 : Int32} {x2 : Int64} {H : Heap} {locs : List Loc} {ls : Array Slot} (h : bX11_changed_126 N d self_X11_changed  w x1 x2 = some z) (hH : wH V (cM V) (AM V) s w H locs) (hl : lv_has ls 8 [(0, .ref (V.2.2 0)), (1, .int x1), (2, .long x2)]) : W p l e (rmD (d + 1)) s m args below meth c H locs 0 0 (MQ below (CtI V (cM V) (AM V) z) args s 0 0 (AM V)) (F0 m 126 ls []) := by
  unfold bX11_changed_126 at h
  obtain ⟨hx, hb, hml, hown, hg, hrt, hlk, hK⟩ := id X
  refine lv_aload_n (pc := 126) hx hb dX11_changed_126 rfl (lv_at hl 0 rfl) ?_
  refine lv_aload_n (pc := 127) hx hb dX11_changed_127 rfl (lv_at hl 0 rfl) ?_
  refine gM_X11_51_0 (pc := 128) X hH dX11_changed_128 ?_
  refine lv_iload_n (pc := 131) hx hb dX11_changed_131 rfl (lv_at hl 1 rfl) ?_
  refine r_ld (pc := 132) X (heM_14 V w) hH h dX11_changed_132 (fun v4 h => ?_)
  refine pM_X11_187_0 (pc := 133) X hH h dX11_changed_133 (fun w5 H locs h hH => ?_)
  refine lv_aload_n (pc := 136) hx hb dX11_changed_136 rfl (lv_at hl 0 rfl) ?_
  refine lv_lload_n (pc := 137) hx hb dX11_changed_137 rfl (lv_at hl 2 rfl) ?_
  refine pM_X11_190_0 (pc := 138) X hH h dX11_changed_138 (fun w6 H locs h hH => ?_)
  refine lv_aload_n (pc := 141) hx hb dX11_changed_141 rfl (lv_at hl 0 rfl) ?_
  refine lv_aload_n (pc := 142) hx hb dX11_changed_142 rfl (lv_at hl 0 rfl) ?_
  refine gM_X11_35_0 (pc := 143) X hH dX11_changed_143 ?_
  refine lv_aload_n (pc := 146) hx hb dX11_changed_146 rfl (lv_at hl 0 rfl) ?_
  refine gM_X11_187_0 (pc := 147) X hH dX11_changed_147 ?_
  refine r_ld (pc := 150) X (heM_9 V w6) hH h dX11_changed_150 (fun v7 h => ?_)
  refine lv_iload_n (pc := 151) hx hb dX11_changed_151 rfl (lv_at hl 1 rfl) ?_
  refine r_cvI (pc := 152) (As := [.int v7, .int x1]) (rest := []) X hH (fun x hx => mX11_fits hx) cw_X11_164 (heM_0 V w6) rfl rfl rfl (Nat.le_of_ble_eq_true rfl) hl.1 h dX11_changed_152 (fun w8 v9 H locs h hH => ?_)
  refine lv_istore (pc := 155) (lv' := [(5, .int v9), (0, .ref (V.2.2 0)), (1, .int x1), (2, .long x2)]) hx hb dX11_changed_155 hl (by decide) rfl (fun ls hl => ?_)
  refine lv_aload_n (pc := 157) hx hb dX11_changed_157 rfl (lv_at hl 1 rfl) ?_
  refine lv_aload_n (pc := 158) hx hb dX11_changed_158 rfl (lv_at hl 1 rfl) ?_
  refine gM_X11_38_0 (pc := 159) X hH dX11_changed_159 ?_
  refine lv_aload_n (pc := 162) hx hb dX11_changed_162 rfl (lv_at hl 1 rfl) ?_
  refine gM_X11_187_0 (pc := 163) X hH dX11_changed_163 ?_
  refine r_ld (pc := 166) X (heM_10 V w8) hH h dX11_changed_166 (fun v10 h => ?_)
  refine r_cvI (pc := 167) (As := [.int v10]) (rest := []) X hH (fun x hx => mX11_filled hx) cw_X11_151 (heM_0 V w8) rfl rfl rfl (Nat.le_of_ble_eq_true rfl) hl.1 h dX11_changed_167 (fun w11 v12 H locs h hH => ?_)
  exact r_iret (pc := 170) X hH h dX11_changed_170
def bX11_changed_116 (N d : Nat) (self_X11_changed : Wd → Int32 → Int64 → Option (Wd × Int32))  (w : Wd) (y1 : Int32) (y2 : Int32) (y3 : Int32) : Option (Wd × Int32) :=
  c_cl (eX11_make N d w y1 y2 y3) fun w24 v25 =>
  some (w24, v25)
set_option maxHeartbeats 4000000 in
theorem kX11_changed_116 {V : Ev} {p : Program} {l : Launch} {e : Env} {N d : Nat} {s : State} {m : MethodId} {args : Array Value} {below : List Frame} {meth : Method} {c : Code} {z : Wd × Int32} (X : CX V p s m args meth c cX11_changed 8 RX11 (some .int)) {self_X11_changed : Wd → Int32 → Int64 → Option (Wd × Int32)} (hs_X11_changed : ∀ (w : Wd) (a0 : Int32) (a1 : Int64) (x : Wd × Int32), self_X11_changed w a0 a1 = some x → MetI l V (cM V) (AM V) yX11_changed cX11_changed 8 (some .int) d [.ref (V.2.2 0), .int a0, .long a1] w x)  {w : Wd} {y1 : Int32} {y2 : Int32} {y3 : Int32} {H : Heap} {locs : List Loc} {ls : Array Slot} (h : bX11_changed_116 N d self_X11_changed  w y1 y2 y3 = some z) (hH : wH V (cM V) (AM V) s w H locs) (hl : lv_has ls 8 []) : W p l e (rmD (d + 1)) s m args below meth c H locs 0 0 (MQ below (CtI V (cM V) (AM V) z) args s 0 0 (AM V)) (F0 m 116 ls [.int y3, .int y2, .int y1, .ref (V.2.2 0)]) := by
  unfold bX11_changed_116 at h
  obtain ⟨hx, hb, hml, hown, hg, hrt, hlk, hK⟩ := id X
  refine r_cvI (pc := 116) (As := [.int y1, .int y2, .int y3]) (rest := []) X hH (fun x hx => mX11_make hx) cw_X11_154 (heM_0 V w) rfl rfl rfl (Nat.le_of_ble_eq_true rfl) hl.1 h dX11_changed_116 (fun w24 v25 H locs h hH => ?_)
  exact r_iret (pc := 119) X hH h dX11_changed_119
def bX11_changed_99 (N d : Nat) (self_X11_changed : Wd → Int32 → Int64 → Option (Wd × Int32))  (w : Wd) (x1 : Int32) (x5 : Int32) (x7 : Int32) (y1 : Int32) (y2 : Int32) : Option (Wd × Int32) :=
  if x5 = 1 then (
    bX11_changed_116 N d self_X11_changed  w y1 y2 x7
  ) else (
    c_ld w 5 1000 x1 fun v23 =>
    bX11_changed_116 N d self_X11_changed  w y1 y2 v23
  )
set_option maxHeartbeats 4000000 in
theorem kX11_changed_99 {V : Ev} {p : Program} {l : Launch} {e : Env} {N d : Nat} {s : State} {m : MethodId} {args : Array Value} {below : List Frame} {meth : Method} {c : Code} {z : Wd × Int32} (X : CX V p s m args meth c cX11_changed 8 RX11 (some .int)) {self_X11_changed : Wd → Int32 → Int64 → Option (Wd × Int32)} (hs_X11_changed : ∀ (w : Wd) (a0 : Int32) (a1 : Int64) (x : Wd × Int32), self_X11_changed w a0 a1 = some x → MetI l V (cM V) (AM V) yX11_changed cX11_changed 8 (some .int) d [.ref (V.2.2 0), .int a0, .long a1] w x)  {w : Wd} {x1 : Int32} {x5 : Int32} {x7 : Int32} {y1 : Int32} {y2 : Int32} {H : Heap} {locs : List Loc} {ls : Array Slot} (h : bX11_changed_99 N d self_X11_changed  w x1 x5 x7 y1 y2 = some z) (hH : wH V (cM V) (AM V) s w H locs) (hl : lv_has ls 8 [(0, .ref (V.2.2 0)), (1, .int x1), (5, .int x5), (7, .int x7)]) : W p l e (rmD (d + 1)) s m args below meth c H locs 0 0 (MQ below (CtI V (cM V) (AM V) z) args s 0 0 (AM V)) (F0 m 99 ls [.int y2, .int y1, .ref (V.2.2 0)]) := by
  unfold bX11_changed_99 at h
  obtain ⟨hx, hb, hml, hown, hg, hrt, hlk, hK⟩ := id X
  refine lv_iload (pc := 99) hx hb dX11_changed_99 (lv_at hl 2 rfl) ?_
  refine lv_iconst (pc := 101) (v := 1) hx hb dX11_changed_101 (by decide) ?_
  refine b_icmp_ne (pc := 102) (tgt := 110) hx hb h dX11_changed_102 (by decide) (fun h => ?_) (fun h => ?_)
  · refine lv_aload_n (pc := 110) hx hb dX11_changed_110 rfl (lv_at hl 0 rfl) ?_
    refine gM_X11_22_0 (pc := 111) X hH dX11_changed_111 ?_
    refine lv_iload_n (pc := 114) hx hb dX11_changed_114 rfl (lv_at hl 1 rfl) ?_
    refine r_ld (pc := 115) X (heM_5 V w) hH h dX11_changed_115 (fun v23 h => ?_)
    exact kX11_changed_116 X hs_X11_changed  h hH (lv_sub hl [] rfl)
  · refine lv_iload (pc := 105) hx hb dX11_changed_105 (lv_at hl 3 rfl) ?_
    refine lv_goto (pc := 107) (tgt := 116) hx hb dX11_changed_107 (by decide) ?_
    exact kX11_changed_116 X hs_X11_changed  h hH (lv_sub hl [] rfl)
def bX11_changed_27 (N d : Nat) (self_X11_changed : Wd → Int32 → Int64 → Option (Wd × Int32)) (rec27 : Wd → Int32 → Int64 → Int32 → Int32 → Option (Wd × Int32)) (w : Wd) (x1 : Int32) (x2 : Int64) (x4 : Int32) (x5 : Int32) : Option (Wd × Int32) :=
  c_cl (eX11_parts N d w x1) fun w2 v3 =>
  if v3 ≤ x5 then (
    bX11_changed_126 N d self_X11_changed  w2 x1 x2
  ) else (
    if x4 = 0 then (
      c_cl (eX11_partOf N d w2 x1 x5) fun w13 v14 =>
      c_ld w13 13 1000 v14 fun v15 =>
      if v15 = 1 then (
        c_cl (eX11_below N d w13 x2 x5) fun w17 v18 =>
        c_cl (self_X11_changed w17 v14 v18) fun w19 v20 =>
        c_ld w19 3 1000 x1 fun v21 =>
        if x5 = 0 then (
          bX11_changed_99 N d self_X11_changed  w19 x1 x5 v20 v21 v20
        ) else (
          c_ld w19 4 1000 x1 fun v22 =>
          bX11_changed_99 N d self_X11_changed  w19 x1 x5 v20 v21 v22
        )
      ) else (
        c_nm (x5 + 1) fun x5_16 =>
        rec27 w13 x1 x2 x4 x5_16
      )
    ) else (
      bX11_changed_126 N d self_X11_changed  w2 x1 x2
    )
  )
set_option maxHeartbeats 4000000 in
theorem kX11_changed_27 {V : Ev} {p : Program} {l : Launch} {e : Env} {N d : Nat} {s : State} {m : MethodId} {args : Array Value} {below : List Frame} {meth : Method} {c : Code} {z : Wd × Int32} (X : CX V p s m args meth c cX11_changed 8 RX11 (some .int)) {self_X11_changed : Wd → Int32 → Int64 → Option (Wd × Int32)} (hs_X11_changed : ∀ (w : Wd) (a0 : Int32) (a1 : Int64) (x : Wd × Int32), self_X11_changed w a0 a1 = some x → MetI l V (cM V) (AM V) yX11_changed cX11_changed 8 (some .int) d [.ref (V.2.2 0), .int a0, .long a1] w x) {rec27 : Wd → Int32 → Int64 → Int32 → Int32 → Option (Wd × Int32)} (hr27 : ∀ (w : Wd) (x1 : Int32) (x2 : Int64) (x4 : Int32) (x5 : Int32) (H : Heap) (locs : List Loc) (ls : Array Slot), rec27 w x1 x2 x4 x5 = some z → wH V (cM V) (AM V) s w H locs → lv_has ls 8 [(0, .ref (V.2.2 0)), (1, .int x1), (2, .long x2), (4, .int x4), (5, .int x5)] → W p l e (rmD (d + 1)) s m args below meth c H locs 0 0 (MQ below (CtI V (cM V) (AM V) z) args s 0 0 (AM V)) (F0 m 27 ls [])) {w : Wd} {x1 : Int32} {x2 : Int64} {x4 : Int32} {x5 : Int32} {H : Heap} {locs : List Loc} {ls : Array Slot} (h : bX11_changed_27 N d self_X11_changed rec27 w x1 x2 x4 x5 = some z) (hH : wH V (cM V) (AM V) s w H locs) (hl : lv_has ls 8 [(0, .ref (V.2.2 0)), (1, .int x1), (2, .long x2), (4, .int x4), (5, .int x5)]) : W p l e (rmD (d + 1)) s m args below meth c H locs 0 0 (MQ below (CtI V (cM V) (AM V) z) args s 0 0 (AM V)) (F0 m 27 ls []) := by
  unfold bX11_changed_27 at h
  obtain ⟨hx, hb, hml, hown, hg, hrt, hlk, hK⟩ := id X
  refine lv_iload (pc := 27) hx hb dX11_changed_27 (lv_at hl 4 rfl) ?_
  refine lv_aload_n (pc := 29) hx hb dX11_changed_29 rfl (lv_at hl 0 rfl) ?_
  refine lv_iload_n (pc := 30) hx hb dX11_changed_30 rfl (lv_at hl 1 rfl) ?_
  refine r_cvI (pc := 31) (As := [.int x1]) (rest := [.int x5]) X hH (fun x hx => mX11_parts hx) cw_X11_140 (heM_0 V w) rfl rfl rfl (Nat.le_of_ble_eq_true rfl) hl.1 h dX11_changed_31 (fun w2 v3 H locs h hH => ?_)
  refine b_icmp_ge (pc := 34) (tgt := 126) hx hb h dX11_changed_34 (by decide) (fun h => ?_) (fun h => ?_)
  · exact kX11_changed_126 X hs_X11_changed  h hH (lv_sub hl [0, 1, 2] rfl)
  · refine lv_iload (pc := 37) hx hb dX11_changed_37 (lv_at hl 3 rfl) ?_
    refine b_if_ne (pc := 39) (tgt := 126) hx hb h dX11_changed_39 (by decide) (fun h => ?_) (fun h => ?_)
    · exact kX11_changed_126 X hs_X11_changed  h hH (lv_sub hl [0, 1, 2] rfl)
    · refine lv_aload_n (pc := 42) hx hb dX11_changed_42 rfl (lv_at hl 0 rfl) ?_
      refine lv_iload_n (pc := 43) hx hb dX11_changed_43 rfl (lv_at hl 1 rfl) ?_
      refine lv_iload (pc := 44) hx hb dX11_changed_44 (lv_at hl 4 rfl) ?_
      refine r_cvI (pc := 46) (As := [.int x1, .int x5]) (rest := []) X hH (fun x hx => mX11_partOf hx) cw_X11_143 (heM_0 V w2) rfl rfl rfl (Nat.le_of_ble_eq_true rfl) hl.1 h dX11_changed_46 (fun w13 v14 H locs h hH => ?_)
      refine lv_istore (pc := 49) (lv' := [(6, .int v14), (0, .ref (V.2.2 0)), (1, .int x1), (2, .long x2), (4, .int x4), (5, .int x5)]) hx hb dX11_changed_49 hl (by decide) rfl (fun ls hl => ?_)
      refine lv_aload_n (pc := 51) hx hb dX11_changed_51 rfl (lv_at hl 1 rfl) ?_
      refine gM_X11_48_0 (pc := 52) X hH dX11_changed_52 ?_
      refine lv_iload (pc := 55) hx hb dX11_changed_55 (lv_at hl 0 rfl) ?_
      refine r_ld (pc := 57) X (heM_13 V w13) hH h dX11_changed_57 (fun v15 h => ?_)
      refine lv_iconst (pc := 58) (v := 1) hx hb dX11_changed_58 (by decide) ?_
      refine b_icmp_ne (pc := 59) (tgt := 120) hx hb h dX11_changed_59 (by decide) (fun h => ?_) (fun h => ?_)
      · obtain ⟨x5_16, ex5_16, h⟩ := c_nm_ex h
        refine lv_iinc (pc := 120) (v := x5_16) (lv' := [(5, .int x5_16), (6, .int v14), (0, .ref (V.2.2 0)), (1, .int x1), (2, .long x2), (4, .int x4)]) hx hb dX11_changed_120 hl (k := 5) rfl (by rw [← ex5_16]; rfl) (by decide) rfl (fun ls hl => ?_)
        refine lv_goto (pc := 123) (tgt := 27) hx hb dX11_changed_123 (by decide) ?_
        exact hr27 _ _ _ _ _ _ _ _ h hH (lv_sub hl [2, 3, 4, 5, 0] rfl)
      · refine lv_aload_n (pc := 62) hx hb dX11_changed_62 rfl (lv_at hl 1 rfl) ?_
        refine lv_iload (pc := 63) hx hb dX11_changed_63 (lv_at hl 0 rfl) ?_
        refine lv_lload_n (pc := 65) hx hb dX11_changed_65 rfl (lv_at hl 3 rfl) ?_
        refine lv_iload (pc := 66) hx hb dX11_changed_66 (lv_at hl 5 rfl) ?_
        refine r_csL (pc := 68) (As := [.long x2, .int x5]) (rest := [.int v14, .ref (V.2.2 0)]) X hH (fun x hx => mX11_below hx) cs_X11_179 rfl rfl (Nat.le_of_ble_eq_true rfl) hl.1 h dX11_changed_68 (fun w17 v18 H locs h hH => ?_)
        refine r_cvI (pc := 71) (As := [.int v14, .long v18]) (rest := []) X hH (fun x hx => hs_X11_changed _ _ _ _ hx) cw_X11_183 (heM_0 V w17) rfl rfl rfl (Nat.le_of_ble_eq_true rfl) hl.1 h dX11_changed_71 (fun w19 v20 H locs h hH => ?_)
        refine lv_istore (pc := 74) (lv' := [(7, .int v20), (6, .int v14), (0, .ref (V.2.2 0)), (1, .int x1), (2, .long x2), (4, .int x4), (5, .int x5)]) hx hb dX11_changed_74 hl (by decide) rfl (fun ls hl => ?_)
        refine lv_aload_n (pc := 76) hx hb dX11_changed_76 rfl (lv_at hl 2 rfl) ?_
        refine lv_aload_n (pc := 77) hx hb dX11_changed_77 rfl (lv_at hl 2 rfl) ?_
        refine gM_X11_16_0 (pc := 78) X hH dX11_changed_78 ?_
        refine lv_iload_n (pc := 81) hx hb dX11_changed_81 rfl (lv_at hl 3 rfl) ?_
        refine r_ld (pc := 82) X (heM_3 V w19) hH h dX11_changed_82 (fun v21 h => ?_)
        refine lv_iload (pc := 83) hx hb dX11_changed_83 (lv_at hl 6 rfl) ?_
        refine b_if_ne (pc := 85) (tgt := 93) hx hb h dX11_changed_85 (by decide) (fun h => ?_) (fun h => ?_)
        · refine lv_aload_n (pc := 93) hx hb dX11_changed_93 rfl (lv_at hl 2 rfl) ?_
          refine gM_X11_19_0 (pc := 94) X hH dX11_changed_94 ?_
          refine lv_iload_n (pc := 97) hx hb dX11_changed_97 rfl (lv_at hl 3 rfl) ?_
          refine r_ld (pc := 98) X (heM_4 V w19) hH h dX11_changed_98 (fun v22 h => ?_)
          exact kX11_changed_99 X hs_X11_changed  h hH (lv_sub hl [2, 3, 6, 0] rfl)
        · refine lv_iload (pc := 88) hx hb dX11_changed_88 (lv_at hl 0 rfl) ?_
          refine lv_goto (pc := 90) (tgt := 99) hx hb dX11_changed_90 (by decide) ?_
          exact kX11_changed_99 X hs_X11_changed  h hH (lv_sub hl [2, 3, 6, 0] rfl)
def fX11_changed_27 (N d : Nat) (self_X11_changed : Wd → Int32 → Int64 → Option (Wd × Int32))  : Nat → Wd → Int32 → Int64 → Int32 → Int32 → Option (Wd × Int32)
  | 0 => fun _ _ _ _ _ => none
  | n + 1 => fun w x1 x2 x4 x5 => bX11_changed_27 N d self_X11_changed  (fX11_changed_27 N d self_X11_changed  n) w x1 x2 x4 x5
theorem lX11_changed_27 {V : Ev} {p : Program} {l : Launch} {e : Env} {N d : Nat} {s : State} {m : MethodId} {args : Array Value} {below : List Frame} {meth : Method} {c : Code} {z : Wd × Int32} (X : CX V p s m args meth c cX11_changed 8 RX11 (some .int)) {self_X11_changed : Wd → Int32 → Int64 → Option (Wd × Int32)} (hs_X11_changed : ∀ (w : Wd) (a0 : Int32) (a1 : Int64) (x : Wd × Int32), self_X11_changed w a0 a1 = some x → MetI l V (cM V) (AM V) yX11_changed cX11_changed 8 (some .int) d [.ref (V.2.2 0), .int a0, .long a1] w x)  (n : Nat) {w : Wd} {x1 : Int32} {x2 : Int64} {x4 : Int32} {x5 : Int32} {H : Heap} {locs : List Loc} {ls : Array Slot} (h : fX11_changed_27 N d self_X11_changed  n w x1 x2 x4 x5 = some z) (hH : wH V (cM V) (AM V) s w H locs) (hl : lv_has ls 8 [(0, .ref (V.2.2 0)), (1, .int x1), (2, .long x2), (4, .int x4), (5, .int x5)]) : W p l e (rmD (d + 1)) s m args below meth c H locs 0 0 (MQ below (CtI V (cM V) (AM V) z) args s 0 0 (AM V)) (F0 m 27 ls []) := by
  induction n generalizing w x1 x2 x4 x5 H locs ls with
  | zero => exact c_none h
  | succ n ih => exact kX11_changed_27 (N := N) X hs_X11_changed (fun _ _ _ _ _ _ _ _ h hH hl => ih h hH hl) h hH hl
def bX11_changed_22 (N d : Nat) (self_X11_changed : Wd → Int32 → Int64 → Option (Wd × Int32))  (w : Wd) (x1 : Int32) (x2 : Int64) (y0 : Int32) : Option (Wd × Int32) :=
  fX11_changed_27 N d self_X11_changed  N w x1 x2 y0 ((0 : Int32))
set_option maxHeartbeats 4000000 in
theorem kX11_changed_22 {V : Ev} {p : Program} {l : Launch} {e : Env} {N d : Nat} {s : State} {m : MethodId} {args : Array Value} {below : List Frame} {meth : Method} {c : Code} {z : Wd × Int32} (X : CX V p s m args meth c cX11_changed 8 RX11 (some .int)) {self_X11_changed : Wd → Int32 → Int64 → Option (Wd × Int32)} (hs_X11_changed : ∀ (w : Wd) (a0 : Int32) (a1 : Int64) (x : Wd × Int32), self_X11_changed w a0 a1 = some x → MetI l V (cM V) (AM V) yX11_changed cX11_changed 8 (some .int) d [.ref (V.2.2 0), .int a0, .long a1] w x)  {w : Wd} {x1 : Int32} {x2 : Int64} {y0 : Int32} {H : Heap} {locs : List Loc} {ls : Array Slot} (h : bX11_changed_22 N d self_X11_changed  w x1 x2 y0 = some z) (hH : wH V (cM V) (AM V) s w H locs) (hl : lv_has ls 8 [(0, .ref (V.2.2 0)), (1, .int x1), (2, .long x2)]) : W p l e (rmD (d + 1)) s m args below meth c H locs 0 0 (MQ below (CtI V (cM V) (AM V) z) args s 0 0 (AM V)) (F0 m 22 ls [.int y0]) := by
  unfold bX11_changed_22 at h
  obtain ⟨hx, hb, hml, hown, hg, hrt, hlk, hK⟩ := id X
  refine lv_istore (pc := 22) (lv' := [(4, .int y0), (0, .ref (V.2.2 0)), (1, .int x1), (2, .long x2)]) hx hb dX11_changed_22 hl (by decide) rfl (fun ls hl => ?_)
  refine lv_iconst (pc := 24) (v := 0) hx hb dX11_changed_24 (by decide) ?_
  refine lv_istore (pc := 25) (lv' := [(5, .int ((0 : Int32))), (4, .int y0), (0, .ref (V.2.2 0)), (1, .int x1), (2, .long x2)]) hx hb dX11_changed_25 hl (by decide) rfl (fun ls hl => ?_)
  exact lX11_changed_27 X hs_X11_changed  N h hH (lv_sub hl [2, 3, 4, 1, 0] rfl)
def bX11_changed_21 (N d : Nat) (self_X11_changed : Wd → Int32 → Int64 → Option (Wd × Int32))  (w : Wd) (x1 : Int32) (x2 : Int64) : Option (Wd × Int32) :=
  bX11_changed_22 N d self_X11_changed  w x1 x2 0
set_option maxHeartbeats 4000000 in
theorem kX11_changed_21 {V : Ev} {p : Program} {l : Launch} {e : Env} {N d : Nat} {s : State} {m : MethodId} {args : Array Value} {below : List Frame} {meth : Method} {c : Code} {z : Wd × Int32} (X : CX V p s m args meth c cX11_changed 8 RX11 (some .int)) {self_X11_changed : Wd → Int32 → Int64 → Option (Wd × Int32)} (hs_X11_changed : ∀ (w : Wd) (a0 : Int32) (a1 : Int64) (x : Wd × Int32), self_X11_changed w a0 a1 = some x → MetI l V (cM V) (AM V) yX11_changed cX11_changed 8 (some .int) d [.ref (V.2.2 0), .int a0, .long a1] w x)  {w : Wd} {x1 : Int32} {x2 : Int64} {H : Heap} {locs : List Loc} {ls : Array Slot} (h : bX11_changed_21 N d self_X11_changed  w x1 x2 = some z) (hH : wH V (cM V) (AM V) s w H locs) (hl : lv_has ls 8 [(0, .ref (V.2.2 0)), (1, .int x1), (2, .long x2)]) : W p l e (rmD (d + 1)) s m args below meth c H locs 0 0 (MQ below (CtI V (cM V) (AM V) z) args s 0 0 (AM V)) (F0 m 21 ls []) := by
  unfold bX11_changed_21 at h
  obtain ⟨hx, hb, hml, hown, hg, hrt, hlk, hK⟩ := id X
  refine lv_iconst (pc := 21) (v := 0) hx hb dX11_changed_21 (by decide) ?_
  exact kX11_changed_22 X hs_X11_changed  h hH (lv_sub hl [0, 1, 2] rfl)
def bX11_changed_0 (N d : Nat) (self_X11_changed : Wd → Int32 → Int64 → Option (Wd × Int32))  (w : Wd) (x1 : Int32) (x2 : Int64) : Option (Wd × Int32) :=
  c_ld w 14 1000 x1 fun v1 =>
  if v1 = (-1) then (
    bX11_changed_21 N d self_X11_changed  w x1 x2
  ) else (
    if (sI w 6) = 0 then (
      bX11_changed_22 N d self_X11_changed  w x1 x2 1
    ) else (
      bX11_changed_21 N d self_X11_changed  w x1 x2
    )
  )
set_option maxHeartbeats 4000000 in
theorem kX11_changed_0 {V : Ev} {p : Program} {l : Launch} {e : Env} {N d : Nat} {s : State} {m : MethodId} {args : Array Value} {below : List Frame} {meth : Method} {c : Code} {z : Wd × Int32} (X : CX V p s m args meth c cX11_changed 8 RX11 (some .int)) {self_X11_changed : Wd → Int32 → Int64 → Option (Wd × Int32)} (hs_X11_changed : ∀ (w : Wd) (a0 : Int32) (a1 : Int64) (x : Wd × Int32), self_X11_changed w a0 a1 = some x → MetI l V (cM V) (AM V) yX11_changed cX11_changed 8 (some .int) d [.ref (V.2.2 0), .int a0, .long a1] w x)  {w : Wd} {x1 : Int32} {x2 : Int64} {H : Heap} {locs : List Loc} {ls : Array Slot} (h : bX11_changed_0 N d self_X11_changed  w x1 x2 = some z) (hH : wH V (cM V) (AM V) s w H locs) (hl : lv_has ls 8 [(0, .ref (V.2.2 0)), (1, .int x1), (2, .long x2)]) : W p l e (rmD (d + 1)) s m args below meth c H locs 0 0 (MQ below (CtI V (cM V) (AM V) z) args s 0 0 (AM V)) (F0 m 0 ls []) := by
  unfold bX11_changed_0 at h
  obtain ⟨hx, hb, hml, hown, hg, hrt, hlk, hK⟩ := id X
  refine lv_aload_n (pc := 0) hx hb dX11_changed_0 rfl (lv_at hl 0 rfl) ?_
  refine gM_X11_51_0 (pc := 1) X hH dX11_changed_1 ?_
  refine lv_iload_n (pc := 4) hx hb dX11_changed_4 rfl (lv_at hl 1 rfl) ?_
  refine r_ld (pc := 5) X (heM_14 V w) hH h dX11_changed_5 (fun v1 h => ?_)
  refine lv_iconst (pc := 6) (v := -1) hx hb dX11_changed_6 (by decide) ?_
  refine b_icmp_eq (pc := 7) (tgt := 21) hx hb h dX11_changed_7 (by decide) (fun h => ?_) (fun h => ?_)
  · exact kX11_changed_21 X hs_X11_changed  h hH (lv_sub hl [0, 1, 2] rfl)
  · refine lv_aload_n (pc := 10) hx hb dX11_changed_10 rfl (lv_at hl 0 rfl) ?_
    refine gM_X11_176_0 (pc := 11) X hH dX11_changed_11 ?_
    refine b_if_ne (pc := 14) (tgt := 21) hx hb h dX11_changed_14 (by decide) (fun h => ?_) (fun h => ?_)
    · exact kX11_changed_21 X hs_X11_changed  h hH (lv_sub hl [0, 1, 2] rfl)
    · refine lv_iconst (pc := 17) (v := 1) hx hb dX11_changed_17 (by decide) ?_
      refine lv_goto (pc := 18) (tgt := 22) hx hb dX11_changed_18 (by decide) ?_
      exact kX11_changed_22 X hs_X11_changed  h hH (lv_sub hl [0, 1, 2] rfl)
def eX11_changed (N : Nat) : Nat → Wd → Int32 → Int64 → Option (Wd × Int32)
  | 0 => fun _ _ _ => none
  | d + 1 => fun w x1 x2 => bX11_changed_0 N d (eX11_changed N d) w x1 x2
set_option maxHeartbeats 4000000 in
set_option maxRecDepth 20000 in
theorem mX11_changed {l : Launch} {V : Ev} {N d : Nat} {w : Wd} {x1 : Int32} {x2 : Int64} {z : Wd × Int32} (h : eX11_changed N d w x1 x2 = some z) : MetI l V (cM V) (AM V) yX11_changed cX11_changed 8 (some .int) d [.ref (V.2.2 0), .int x1, .long x2] w z := by
  induction d generalizing w x1 x2 z with
  | zero => exact c_none h
  | succ d ih =>
    refine Met.ofW (cc := cX11_changed) (maxL := 8) (ret := (some .int)) (by decide) rfl ?_
    intro p e s m args below meth c s₁ B hml hv
    obtain ⟨rfl, hP, hD, hK⟩ := hv
    have hts := atoms_spec (ws := .code yX11_changed cX11_changed 8 (some .int) :: gG) B.pre
    have X : CX V p s m ([.ref (V.2.2 0), .int x1, .long x2] : List Value).toArray meth c cX11_changed 8 RX11 (some .int) := ⟨B.exec, B.bytes, hml, findClass_of_methodNamed B.named, fun w hw => hts w (List.mem_cons_of_mem _ hw), B.returns, B.notSynchronized, hK⟩
    have hl := lv_entry ([.ref (V.2.2 0), .int x1, .long x2] : List Value) (n := 8) (Nat.le_of_ble_eq_true rfl)
    rw [lg_entry_eq]
    generalize (lg_sl ([.ref (V.2.2 0), .int x1, .long x2] : List Value) ++ List.replicate (8 - (lg_sl ([.ref (V.2.2 0), .int x1, .long x2] : List Value)).length) Slot.unset).toArray = ls at hl ⊢
    have hl : lv_has ls 8 [(0, .ref (V.2.2 0)), (1, .int x1), (2, .long x2)] := hl
    exact kX11_changed_0 (N := N) X (fun _ _ _ _ h => ih h) h ⟨hP, hD, va_S.rf⟩ hl
theorem dX11_isReady_0 : decode cX11_isReady 0 = .ok (.iconst 0, 1) := by decide +kernel
theorem dX11_isReady_1 : decode cX11_isReady 1 = .ok (.istore_n 2, 1) := by decide +kernel
theorem dX11_isReady_2 : decode cX11_isReady 2 = .ok (.iload_n 2, 1) := by decide +kernel
theorem dX11_isReady_3 : decode cX11_isReady 3 = .ok (.aload_n 0, 1) := by decide +kernel
theorem dX11_isReady_4 : decode cX11_isReady 4 = .ok (.getfield 125, 3) := by decide +kernel
theorem dX11_isReady_7 : decode cX11_isReady 7 = .ok (.if_icmp .ge 16, 3) := by decide +kernel
theorem dX11_isReady_10 : decode cX11_isReady 10 = .ok (.aload_n 0, 1) := by decide +kernel
theorem dX11_isReady_11 : decode cX11_isReady 11 = .ok (.getfield 48, 3) := by decide +kernel
theorem dX11_isReady_14 : decode cX11_isReady 14 = .ok (.iload_n 2, 1) := by decide +kernel
theorem dX11_isReady_15 : decode cX11_isReady 15 = .ok (.iconst 0, 1) := by decide +kernel
theorem dX11_isReady_16 : decode cX11_isReady 16 = .ok (.iastore, 1) := by decide +kernel
theorem dX11_isReady_17 : decode cX11_isReady 17 = .ok (.iinc 2 1, 3) := by decide +kernel
theorem dX11_isReady_20 : decode cX11_isReady 20 = .ok (.goto (-18), 3) := by decide +kernel
theorem dX11_isReady_23 : decode cX11_isReady 23 = .ok (.aload_n 0, 1) := by decide +kernel
theorem dX11_isReady_24 : decode cX11_isReady 24 = .ok (.iload_n 1, 1) := by decide +kernel
theorem dX11_isReady_25 : decode cX11_isReady 25 = .ok (.invokevirtual 170, 3) := by decide +kernel
theorem dX11_isReady_28 : decode cX11_isReady 28 = .ok (.ireturn, 1) := by decide +kernel
def bX11_isReady_2 (N d : Nat)  (rec2 : Wd → Int32 → Int32 → Option (Wd × Int32)) (w : Wd) (x1 : Int32) (x2 : Int32) : Option (Wd × Int32) :=
  if (sI w 2) ≤ x2 then (
    c_cl (eX11_can N d w x1) fun w1 v2 =>
    c_bo v2 (some (w1, v2))
  ) else (
    c_st w 13 1000 x2 0 fun w3 =>
    c_nm (x2 + 1) fun x2_4 =>
    rec2 w3 x1 x2_4
  )
set_option maxHeartbeats 4000000 in
theorem kX11_isReady_2 {V : Ev} {p : Program} {l : Launch} {e : Env} {N d : Nat} {s : State} {m : MethodId} {args : Array Value} {below : List Frame} {meth : Method} {c : Code} {z : Wd × Int32} (X : CX V p s m args meth c cX11_isReady 3 RX11 (some .boolean))   {rec2 : Wd → Int32 → Int32 → Option (Wd × Int32)} (hr2 : ∀ (w : Wd) (x1 : Int32) (x2 : Int32) (H : Heap) (locs : List Loc) (ls : Array Slot), rec2 w x1 x2 = some z → wH V (cM V) (AM V) s w H locs → lv_has ls 3 [(0, .ref (V.2.2 0)), (1, .int x1), (2, .int x2)] → W p l e (rmD (d + 1)) s m args below meth c H locs 0 0 (MQ below (CtI V (cM V) (AM V) z) args s 0 0 (AM V)) (F0 m 2 ls [])) {w : Wd} {x1 : Int32} {x2 : Int32} {H : Heap} {locs : List Loc} {ls : Array Slot} (h : bX11_isReady_2 N d  rec2 w x1 x2 = some z) (hH : wH V (cM V) (AM V) s w H locs) (hl : lv_has ls 3 [(0, .ref (V.2.2 0)), (1, .int x1), (2, .int x2)]) : W p l e (rmD (d + 1)) s m args below meth c H locs 0 0 (MQ below (CtI V (cM V) (AM V) z) args s 0 0 (AM V)) (F0 m 2 ls []) := by
  unfold bX11_isReady_2 at h
  obtain ⟨hx, hb, hml, hown, hg, hrt, hlk, hK⟩ := id X
  refine lv_iload_n (pc := 2) hx hb dX11_isReady_2 rfl (lv_at hl 2 rfl) ?_
  refine lv_aload_n (pc := 3) hx hb dX11_isReady_3 rfl (lv_at hl 0 rfl) ?_
  refine gM_X11_125_0 (pc := 4) X hH dX11_isReady_4 ?_
  refine b_icmp_ge (pc := 7) (tgt := 23) hx hb h dX11_isReady_7 (by decide) (fun h => ?_) (fun h => ?_)
  · refine lv_aload_n (pc := 23) hx hb dX11_isReady_23 rfl (lv_at hl 0 rfl) ?_
    refine lv_iload_n (pc := 24) hx hb dX11_isReady_24 rfl (lv_at hl 1 rfl) ?_
    refine r_cvI (pc := 25) (As := [.int x1]) (rest := []) X hH (fun x hx => mX11_can hx) cw_X11_170 (heM_0 V w) rfl rfl rfl (Nat.le_of_ble_eq_true rfl) hl.1 h dX11_isReady_25 (fun w1 v2 H locs h hH => ?_)
    exact r_zret (pc := 28) X hH h dX11_isReady_28
  · refine lv_aload_n (pc := 10) hx hb dX11_isReady_10 rfl (lv_at hl 0 rfl) ?_
    refine gM_X11_48_0 (pc := 11) X hH dX11_isReady_11 ?_
    refine lv_iload_n (pc := 14) hx hb dX11_isReady_14 rfl (lv_at hl 2 rfl) ?_
    refine lv_iconst (pc := 15) (v := 0) hx hb dX11_isReady_15 (by decide) ?_
    refine r_st (pc := 16) X (heM_13 V w) (hsM_13 V w) hH h dX11_isReady_16 (fun w3 H locs h hH => ?_)
    obtain ⟨x2_4, ex2_4, h⟩ := c_nm_ex h
    refine lv_iinc (pc := 17) (v := x2_4) (lv' := [(2, .int x2_4), (0, .ref (V.2.2 0)), (1, .int x1)]) hx hb dX11_isReady_17 hl (k := 2) rfl (by rw [← ex2_4]; rfl) (by decide) rfl (fun ls hl => ?_)
    refine lv_goto (pc := 20) (tgt := 2) hx hb dX11_isReady_20 (by decide) ?_
    exact hr2 _ _ _ _ _ _ h hH (lv_sub hl [1, 2, 0] rfl)
def fX11_isReady_2 (N d : Nat)   : Nat → Wd → Int32 → Int32 → Option (Wd × Int32)
  | 0 => fun _ _ _ => none
  | n + 1 => fun w x1 x2 => bX11_isReady_2 N d   (fX11_isReady_2 N d   n) w x1 x2
theorem lX11_isReady_2 {V : Ev} {p : Program} {l : Launch} {e : Env} {N d : Nat} {s : State} {m : MethodId} {args : Array Value} {below : List Frame} {meth : Method} {c : Code} {z : Wd × Int32} (X : CX V p s m args meth c cX11_isReady 3 RX11 (some .boolean))    (n : Nat) {w : Wd} {x1 : Int32} {x2 : Int32} {H : Heap} {locs : List Loc} {ls : Array Slot} (h : fX11_isReady_2 N d   n w x1 x2 = some z) (hH : wH V (cM V) (AM V) s w H locs) (hl : lv_has ls 3 [(0, .ref (V.2.2 0)), (1, .int x1), (2, .int x2)]) : W p l e (rmD (d + 1)) s m args below meth c H locs 0 0 (MQ below (CtI V (cM V) (AM V) z) args s 0 0 (AM V)) (F0 m 2 ls []) := by
  induction n generalizing w x1 x2 H locs ls with
  | zero => exact c_none h
  | succ n ih => exact kX11_isReady_2 (N := N) X  (fun _ _ _ _ _ _ h hH hl => ih h hH hl) h hH hl
def bX11_isReady_0 (N d : Nat)   (w : Wd) (x1 : Int32) : Option (Wd × Int32) :=
  fX11_isReady_2 N d   N w x1 ((0 : Int32))
set_option maxHeartbeats 4000000 in
theorem kX11_isReady_0 {V : Ev} {p : Program} {l : Launch} {e : Env} {N d : Nat} {s : State} {m : MethodId} {args : Array Value} {below : List Frame} {meth : Method} {c : Code} {z : Wd × Int32} (X : CX V p s m args meth c cX11_isReady 3 RX11 (some .boolean))    {w : Wd} {x1 : Int32} {H : Heap} {locs : List Loc} {ls : Array Slot} (h : bX11_isReady_0 N d   w x1 = some z) (hH : wH V (cM V) (AM V) s w H locs) (hl : lv_has ls 3 [(0, .ref (V.2.2 0)), (1, .int x1)]) : W p l e (rmD (d + 1)) s m args below meth c H locs 0 0 (MQ below (CtI V (cM V) (AM V) z) args s 0 0 (AM V)) (F0 m 0 ls []) := by
  unfold bX11_isReady_0 at h
  obtain ⟨hx, hb, hml, hown, hg, hrt, hlk, hK⟩ := id X
  refine lv_iconst (pc := 0) (v := 0) hx hb dX11_isReady_0 (by decide) ?_
  refine lv_istore_n (pc := 1) (lv' := [(2, .int ((0 : Int32))), (0, .ref (V.2.2 0)), (1, .int x1)]) hx hb dX11_isReady_1 rfl hl (by decide) rfl (fun ls hl => ?_)
  exact lX11_isReady_2 X   N h hH (lv_sub hl [1, 2, 0] rfl)
def eX11_isReady (N : Nat) : Nat → Wd → Int32 → Option (Wd × Int32)
  | 0 => fun _ _ => none
  | d + 1 => fun w x1 => bX11_isReady_0 N d  w x1
set_option maxHeartbeats 4000000 in
set_option maxRecDepth 20000 in
theorem mX11_isReady {l : Launch} {V : Ev} {N d : Nat} {w : Wd} {x1 : Int32} {z : Wd × Int32} (h : eX11_isReady N d w x1 = some z) : MetI l V (cM V) (AM V) yX11_isReady cX11_isReady 3 (some .boolean) d [.ref (V.2.2 0), .int x1] w z := by
  cases d with
  | zero => exact c_none h
  | succ d =>
    refine Met.ofW (cc := cX11_isReady) (maxL := 3) (ret := (some .boolean)) (by decide) rfl ?_
    intro p e s m args below meth c s₁ B hml hv
    obtain ⟨rfl, hP, hD, hK⟩ := hv
    have hts := atoms_spec (ws := .code yX11_isReady cX11_isReady 3 (some .boolean) :: gG) B.pre
    have X : CX V p s m ([.ref (V.2.2 0), .int x1] : List Value).toArray meth c cX11_isReady 3 RX11 (some .boolean) := ⟨B.exec, B.bytes, hml, findClass_of_methodNamed B.named, fun w hw => hts w (List.mem_cons_of_mem _ hw), B.returns, B.notSynchronized, hK⟩
    have hl := lv_entry ([.ref (V.2.2 0), .int x1] : List Value) (n := 3) (Nat.le_of_ble_eq_true rfl)
    rw [lg_entry_eq]
    generalize (lg_sl ([.ref (V.2.2 0), .int x1] : List Value) ++ List.replicate (3 - (lg_sl ([.ref (V.2.2 0), .int x1] : List Value)).length) Slot.unset).toArray = ls at hl ⊢
    have hl : lv_has ls 3 [(0, .ref (V.2.2 0)), (1, .int x1)] := hl
    exact kX11_isReady_0 (N := N) X  h ⟨hP, hD, va_S.rf⟩ hl
theorem dX11_stepped_0 : decode cX11_stepped 0 = .ok (.aload_n 0, 1) := by decide +kernel
theorem dX11_stepped_1 : decode cX11_stepped 1 = .ok (.iload_n 2, 1) := by decide +kernel
theorem dX11_stepped_2 : decode cX11_stepped 2 = .ok (.putfield 176, 3) := by decide +kernel
theorem dX11_stepped_5 : decode cX11_stepped 5 = .ok (.aload_n 0, 1) := by decide +kernel
theorem dX11_stepped_6 : decode cX11_stepped 6 = .ok (.iconst 0, 1) := by decide +kernel
theorem dX11_stepped_7 : decode cX11_stepped 7 = .ok (.putfield 194, 3) := by decide +kernel
theorem dX11_stepped_10 : decode cX11_stepped 10 = .ok (.iload_n 1, 1) := by decide +kernel
theorem dX11_stepped_11 : decode cX11_stepped 11 = .ok (.istore 4, 2) := by decide +kernel
theorem dX11_stepped_13 : decode cX11_stepped 13 = .ok (.aload_n 0, 1) := by decide +kernel
theorem dX11_stepped_14 : decode cX11_stepped 14 = .ok (.getfield 194, 3) := by decide +kernel
theorem dX11_stepped_17 : decode cX11_stepped 17 = .ok (.iload_n 3, 1) := by decide +kernel
theorem dX11_stepped_18 : decode cX11_stepped 18 = .ok (.if_icmp .ge 67, 3) := by decide +kernel
theorem dX11_stepped_21 : decode cX11_stepped 21 = .ok (.aload_n 0, 1) := by decide +kernel
theorem dX11_stepped_22 : decode cX11_stepped 22 = .ok (.getfield 121, 3) := by decide +kernel
theorem dX11_stepped_25 : decode cX11_stepped 25 = .ok (.ifCond .ne 60, 3) := by decide +kernel
theorem dX11_stepped_28 : decode cX11_stepped 28 = .ok (.aload_n 0, 1) := by decide +kernel
theorem dX11_stepped_29 : decode cX11_stepped 29 = .ok (.iload 4, 2) := by decide +kernel
theorem dX11_stepped_31 : decode cX11_stepped 31 = .ok (.invokevirtual 197, 3) := by decide +kernel
theorem dX11_stepped_34 : decode cX11_stepped 34 = .ok (.ifCond .eq 51, 3) := by decide +kernel
theorem dX11_stepped_37 : decode cX11_stepped 37 = .ok (.aload_n 0, 1) := by decide +kernel
theorem dX11_stepped_38 : decode cX11_stepped 38 = .ok (.iload 4, 2) := by decide +kernel
theorem dX11_stepped_40 : decode cX11_stepped 40 = .ok (.lconst 1, 1) := by decide +kernel
theorem dX11_stepped_41 : decode cX11_stepped 41 = .ok (.invokevirtual 183, 3) := by decide +kernel
theorem dX11_stepped_44 : decode cX11_stepped 44 = .ok (.istore 4, 2) := by decide +kernel
theorem dX11_stepped_46 : decode cX11_stepped 46 = .ok (.aload_n 0, 1) := by decide +kernel
theorem dX11_stepped_47 : decode cX11_stepped 47 = .ok (.getfield 60, 3) := by decide +kernel
theorem dX11_stepped_50 : decode cX11_stepped 50 = .ok (.aload_n 0, 1) := by decide +kernel
theorem dX11_stepped_51 : decode cX11_stepped 51 = .ok (.getfield 194, 3) := by decide +kernel
theorem dX11_stepped_54 : decode cX11_stepped 54 = .ok (.aload_n 0, 1) := by decide +kernel
theorem dX11_stepped_55 : decode cX11_stepped 55 = .ok (.getfield 187, 3) := by decide +kernel
theorem dX11_stepped_58 : decode cX11_stepped 58 = .ok (.iastore, 1) := by decide +kernel
theorem dX11_stepped_59 : decode cX11_stepped 59 = .ok (.aload_n 0, 1) := by decide +kernel
theorem dX11_stepped_60 : decode cX11_stepped 60 = .ok (.getfield 63, 3) := by decide +kernel
theorem dX11_stepped_63 : decode cX11_stepped 63 = .ok (.aload_n 0, 1) := by decide +kernel
theorem dX11_stepped_64 : decode cX11_stepped 64 = .ok (.getfield 194, 3) := by decide +kernel
theorem dX11_stepped_67 : decode cX11_stepped 67 = .ok (.aload_n 0, 1) := by decide +kernel
theorem dX11_stepped_68 : decode cX11_stepped 68 = .ok (.getfield 190, 3) := by decide +kernel
theorem dX11_stepped_71 : decode cX11_stepped 71 = .ok (.lastore, 1) := by decide +kernel
theorem dX11_stepped_72 : decode cX11_stepped 72 = .ok (.aload_n 0, 1) := by decide +kernel
theorem dX11_stepped_73 : decode cX11_stepped 73 = .ok (.dup, 1) := by decide +kernel
theorem dX11_stepped_74 : decode cX11_stepped 74 = .ok (.getfield 194, 3) := by decide +kernel
theorem dX11_stepped_77 : decode cX11_stepped 77 = .ok (.iconst 1, 1) := by decide +kernel
theorem dX11_stepped_78 : decode cX11_stepped 78 = .ok (.iadd, 1) := by decide +kernel
theorem dX11_stepped_79 : decode cX11_stepped 79 = .ok (.putfield 194, 3) := by decide +kernel
theorem dX11_stepped_82 : decode cX11_stepped 82 = .ok (.goto (-69), 3) := by decide +kernel
theorem dX11_stepped_85 : decode cX11_stepped 85 = .ok (.iload 4, 2) := by decide +kernel
theorem dX11_stepped_87 : decode cX11_stepped 87 = .ok (.ireturn, 1) := by decide +kernel
def bX11_stepped_85 (N d : Nat)   (w : Wd) (x4 : Int32) : Option (Wd × Int32) :=
  some (w, x4)
set_option maxHeartbeats 4000000 in
theorem kX11_stepped_85 {V : Ev} {p : Program} {l : Launch} {e : Env} {N d : Nat} {s : State} {m : MethodId} {args : Array Value} {below : List Frame} {meth : Method} {c : Code} {z : Wd × Int32} (X : CX V p s m args meth c cX11_stepped 5 RX11 (some .int))    {w : Wd} {x4 : Int32} {H : Heap} {locs : List Loc} {ls : Array Slot} (h : bX11_stepped_85 N d   w x4 = some z) (hH : wH V (cM V) (AM V) s w H locs) (hl : lv_has ls 5 [(4, .int x4)]) : W p l e (rmD (d + 1)) s m args below meth c H locs 0 0 (MQ below (CtI V (cM V) (AM V) z) args s 0 0 (AM V)) (F0 m 85 ls []) := by
  unfold bX11_stepped_85 at h
  obtain ⟨hx, hb, hml, hown, hg, hrt, hlk, hK⟩ := id X
  refine lv_iload (pc := 85) hx hb dX11_stepped_85 (lv_at hl 0 rfl) ?_
  exact r_iret (pc := 87) X hH h dX11_stepped_87
def bX11_stepped_13 (N d : Nat)  (rec13 : Wd → Int32 → Int32 → Option (Wd × Int32)) (w : Wd) (x3 : Int32) (x4 : Int32) : Option (Wd × Int32) :=
  if x3 ≤ (sI w 9) then (
    bX11_stepped_85 N d   w x4
  ) else (
    if (sI w 4) = 0 then (
      c_cl (eX11_isReady N d w x4) fun w3 v4 =>
      if v4 = 0 then (
        bX11_stepped_85 N d   w3 x4
      ) else (
        c_cl (eX11_changed N d w3 x4 1) fun w5 v6 =>
        c_st w5 17 100 (sI w5 9) (sI w5 7) fun w7 =>
        c_sl w7 18 100 (sI w7 9) (sL w7 0) fun w8 =>
        c_pi w8 9 ((sI w8 9) + 1) fun w9 =>
        rec13 w9 x3 v6
      )
    ) else (
      bX11_stepped_85 N d   w x4
    )
  )
set_option maxHeartbeats 4000000 in
theorem kX11_stepped_13 {V : Ev} {p : Program} {l : Launch} {e : Env} {N d : Nat} {s : State} {m : MethodId} {args : Array Value} {below : List Frame} {meth : Method} {c : Code} {z : Wd × Int32} (X : CX V p s m args meth c cX11_stepped 5 RX11 (some .int))   {rec13 : Wd → Int32 → Int32 → Option (Wd × Int32)} (hr13 : ∀ (w : Wd) (x3 : Int32) (x4 : Int32) (H : Heap) (locs : List Loc) (ls : Array Slot), rec13 w x3 x4 = some z → wH V (cM V) (AM V) s w H locs → lv_has ls 5 [(0, .ref (V.2.2 0)), (3, .int x3), (4, .int x4)] → W p l e (rmD (d + 1)) s m args below meth c H locs 0 0 (MQ below (CtI V (cM V) (AM V) z) args s 0 0 (AM V)) (F0 m 13 ls [])) {w : Wd} {x3 : Int32} {x4 : Int32} {H : Heap} {locs : List Loc} {ls : Array Slot} (h : bX11_stepped_13 N d  rec13 w x3 x4 = some z) (hH : wH V (cM V) (AM V) s w H locs) (hl : lv_has ls 5 [(0, .ref (V.2.2 0)), (3, .int x3), (4, .int x4)]) : W p l e (rmD (d + 1)) s m args below meth c H locs 0 0 (MQ below (CtI V (cM V) (AM V) z) args s 0 0 (AM V)) (F0 m 13 ls []) := by
  unfold bX11_stepped_13 at h
  obtain ⟨hx, hb, hml, hown, hg, hrt, hlk, hK⟩ := id X
  refine lv_aload_n (pc := 13) hx hb dX11_stepped_13 rfl (lv_at hl 0 rfl) ?_
  refine gM_X11_194_0 (pc := 14) X hH dX11_stepped_14 ?_
  refine lv_iload_n (pc := 17) hx hb dX11_stepped_17 rfl (lv_at hl 1 rfl) ?_
  refine b_icmp_ge (pc := 18) (tgt := 85) hx hb h dX11_stepped_18 (by decide) (fun h => ?_) (fun h => ?_)
  · exact kX11_stepped_85 X   h hH (lv_sub hl [2] rfl)
  · refine lv_aload_n (pc := 21) hx hb dX11_stepped_21 rfl (lv_at hl 0 rfl) ?_
    refine gM_X11_121_0 (pc := 22) X hH dX11_stepped_22 ?_
    refine b_if_ne (pc := 25) (tgt := 85) hx hb h dX11_stepped_25 (by decide) (fun h => ?_) (fun h => ?_)
    · exact kX11_stepped_85 X   h hH (lv_sub hl [2] rfl)
    · refine lv_aload_n (pc := 28) hx hb dX11_stepped_28 rfl (lv_at hl 0 rfl) ?_
      refine lv_iload (pc := 29) hx hb dX11_stepped_29 (lv_at hl 2 rfl) ?_
      refine r_cvI (pc := 31) (As := [.int x4]) (rest := []) X hH (fun x hx => mX11_isReady hx) cw_X11_197 (heM_0 V w) rfl rfl rfl (Nat.le_of_ble_eq_true rfl) hl.1 h dX11_stepped_31 (fun w3 v4 H locs h hH => ?_)
      refine b_if_eq (pc := 34) (tgt := 85) hx hb h dX11_stepped_34 (by decide) (fun h => ?_) (fun h => ?_)
      · exact kX11_stepped_85 X   h hH (lv_sub hl [2] rfl)
      · refine lv_aload_n (pc := 37) hx hb dX11_stepped_37 rfl (lv_at hl 0 rfl) ?_
        refine lv_iload (pc := 38) hx hb dX11_stepped_38 (lv_at hl 2 rfl) ?_
        refine lv_lconst (pc := 40) (v := 1) hx hb dX11_stepped_40 (by decide) ?_
        refine r_cvI (pc := 41) (As := [.int x4, .long 1]) (rest := []) X hH (fun x hx => mX11_changed hx) cw_X11_183 (heM_0 V w3) rfl rfl rfl (Nat.le_of_ble_eq_true rfl) hl.1 h dX11_stepped_41 (fun w5 v6 H locs h hH => ?_)
        refine lv_istore (pc := 44) (lv' := [(4, .int v6), (0, .ref (V.2.2 0)), (3, .int x3)]) hx hb dX11_stepped_44 hl (by decide) rfl (fun ls hl => ?_)
        refine lv_aload_n (pc := 46) hx hb dX11_stepped_46 rfl (lv_at hl 1 rfl) ?_
        refine gM_X11_60_0 (pc := 47) X hH dX11_stepped_47 ?_
        refine lv_aload_n (pc := 50) hx hb dX11_stepped_50 rfl (lv_at hl 1 rfl) ?_
        refine gM_X11_194_0 (pc := 51) X hH dX11_stepped_51 ?_
        refine lv_aload_n (pc := 54) hx hb dX11_stepped_54 rfl (lv_at hl 1 rfl) ?_
        refine gM_X11_187_0 (pc := 55) X hH dX11_stepped_55 ?_
        refine r_st (pc := 58) X (heM_17 V w5) (hsM_17 V w5) hH h dX11_stepped_58 (fun w7 H locs h hH => ?_)
        refine lv_aload_n (pc := 59) hx hb dX11_stepped_59 rfl (lv_at hl 1 rfl) ?_
        refine gM_X11_63_0 (pc := 60) X hH dX11_stepped_60 ?_
        refine lv_aload_n (pc := 63) hx hb dX11_stepped_63 rfl (lv_at hl 1 rfl) ?_
        refine gM_X11_194_0 (pc := 64) X hH dX11_stepped_64 ?_
        refine lv_aload_n (pc := 67) hx hb dX11_stepped_67 rfl (lv_at hl 1 rfl) ?_
        refine gM_X11_190_0 (pc := 68) X hH dX11_stepped_68 ?_
        refine r_sl (pc := 71) X (heM_18 V w7) (hsM_18 V w7) hH h dX11_stepped_71 (fun w8 H locs h hH => ?_)
        refine lv_aload_n (pc := 72) hx hb dX11_stepped_72 rfl (lv_at hl 1 rfl) ?_
        refine lv_dup (pc := 73) hx hb dX11_stepped_73 rfl ?_
        refine gM_X11_194_0 (pc := 74) X hH dX11_stepped_74 ?_
        refine lv_iconst (pc := 77) (v := 1) hx hb dX11_stepped_77 (by decide) ?_
        refine lv_iadd (pc := 78) hx hb dX11_stepped_78 ?_
        refine pM_X11_194_0 (pc := 79) X hH h dX11_stepped_79 (fun w9 H locs h hH => ?_)
        refine lv_goto (pc := 82) (tgt := 13) hx hb dX11_stepped_82 (by decide) ?_
        exact hr13 _ _ _ _ _ _ h hH (lv_sub hl [1, 2, 0] rfl)
def fX11_stepped_13 (N d : Nat)   : Nat → Wd → Int32 → Int32 → Option (Wd × Int32)
  | 0 => fun _ _ _ => none
  | n + 1 => fun w x3 x4 => bX11_stepped_13 N d   (fX11_stepped_13 N d   n) w x3 x4
theorem lX11_stepped_13 {V : Ev} {p : Program} {l : Launch} {e : Env} {N d : Nat} {s : State} {m : MethodId} {args : Array Value} {below : List Frame} {meth : Method} {c : Code} {z : Wd × Int32} (X : CX V p s m args meth c cX11_stepped 5 RX11 (some .int))    (n : Nat) {w : Wd} {x3 : Int32} {x4 : Int32} {H : Heap} {locs : List Loc} {ls : Array Slot} (h : fX11_stepped_13 N d   n w x3 x4 = some z) (hH : wH V (cM V) (AM V) s w H locs) (hl : lv_has ls 5 [(0, .ref (V.2.2 0)), (3, .int x3), (4, .int x4)]) : W p l e (rmD (d + 1)) s m args below meth c H locs 0 0 (MQ below (CtI V (cM V) (AM V) z) args s 0 0 (AM V)) (F0 m 13 ls []) := by
  induction n generalizing w x3 x4 H locs ls with
  | zero => exact c_none h
  | succ n ih => exact kX11_stepped_13 (N := N) X  (fun _ _ _ _ _ _ h hH hl => ih h hH hl) h hH hl
def bX11_stepped_0 (N d : Nat)   (w : Wd) (x1 : Int32) (x2 : Int32) (x3 : Int32) : Option (Wd × Int32) :=
  c_pi w 6 x2 fun w1 =>
  c_pi w1 9 0 fun w2 =>
  fX11_stepped_13 N d   N w2 x3 x1
set_option maxHeartbeats 4000000 in
theorem kX11_stepped_0 {V : Ev} {p : Program} {l : Launch} {e : Env} {N d : Nat} {s : State} {m : MethodId} {args : Array Value} {below : List Frame} {meth : Method} {c : Code} {z : Wd × Int32} (X : CX V p s m args meth c cX11_stepped 5 RX11 (some .int))    {w : Wd} {x1 : Int32} {x2 : Int32} {x3 : Int32} {H : Heap} {locs : List Loc} {ls : Array Slot} (h : bX11_stepped_0 N d   w x1 x2 x3 = some z) (hH : wH V (cM V) (AM V) s w H locs) (hl : lv_has ls 5 [(0, .ref (V.2.2 0)), (1, .int x1), (2, .int x2), (3, .int x3)]) : W p l e (rmD (d + 1)) s m args below meth c H locs 0 0 (MQ below (CtI V (cM V) (AM V) z) args s 0 0 (AM V)) (F0 m 0 ls []) := by
  unfold bX11_stepped_0 at h
  obtain ⟨hx, hb, hml, hown, hg, hrt, hlk, hK⟩ := id X
  refine lv_aload_n (pc := 0) hx hb dX11_stepped_0 rfl (lv_at hl 0 rfl) ?_
  refine lv_iload_n (pc := 1) hx hb dX11_stepped_1 rfl (lv_at hl 2 rfl) ?_
  refine pM_X11_176_0 (pc := 2) X hH h dX11_stepped_2 (fun w1 H locs h hH => ?_)
  refine lv_aload_n (pc := 5) hx hb dX11_stepped_5 rfl (lv_at hl 0 rfl) ?_
  refine lv_iconst (pc := 6) (v := 0) hx hb dX11_stepped_6 (by decide) ?_
  refine pM_X11_194_0 (pc := 7) X hH h dX11_stepped_7 (fun w2 H locs h hH => ?_)
  refine lv_iload_n (pc := 10) hx hb dX11_stepped_10 rfl (lv_at hl 1 rfl) ?_
  refine lv_istore (pc := 11) (lv' := [(4, .int x1), (0, .ref (V.2.2 0)), (1, .int x1), (2, .int x2), (3, .int x3)]) hx hb dX11_stepped_11 hl (by decide) rfl (fun ls hl => ?_)
  exact lX11_stepped_13 X   N h hH (lv_sub hl [1, 4, 0] rfl)
def eX11_stepped (N : Nat) : Nat → Wd → Int32 → Int32 → Int32 → Option (Wd × Int32)
  | 0 => fun _ _ _ _ => none
  | d + 1 => fun w x1 x2 x3 => bX11_stepped_0 N d  w x1 x2 x3
set_option maxHeartbeats 4000000 in
set_option maxRecDepth 20000 in
theorem mX11_stepped {l : Launch} {V : Ev} {N d : Nat} {w : Wd} {x1 : Int32} {x2 : Int32} {x3 : Int32} {z : Wd × Int32} (h : eX11_stepped N d w x1 x2 x3 = some z) : MetI l V (cM V) (AM V) yX11_stepped cX11_stepped 5 (some .int) d [.ref (V.2.2 0), .int x1, .int x2, .int x3] w z := by
  cases d with
  | zero => exact c_none h
  | succ d =>
    refine Met.ofW (cc := cX11_stepped) (maxL := 5) (ret := (some .int)) (by decide) rfl ?_
    intro p e s m args below meth c s₁ B hml hv
    obtain ⟨rfl, hP, hD, hK⟩ := hv
    have hts := atoms_spec (ws := .code yX11_stepped cX11_stepped 5 (some .int) :: gG) B.pre
    have X : CX V p s m ([.ref (V.2.2 0), .int x1, .int x2, .int x3] : List Value).toArray meth c cX11_stepped 5 RX11 (some .int) := ⟨B.exec, B.bytes, hml, findClass_of_methodNamed B.named, fun w hw => hts w (List.mem_cons_of_mem _ hw), B.returns, B.notSynchronized, hK⟩
    have hl := lv_entry ([.ref (V.2.2 0), .int x1, .int x2, .int x3] : List Value) (n := 5) (Nat.le_of_ble_eq_true rfl)
    rw [lg_entry_eq]
    generalize (lg_sl ([.ref (V.2.2 0), .int x1, .int x2, .int x3] : List Value) ++ List.replicate (5 - (lg_sl ([.ref (V.2.2 0), .int x1, .int x2, .int x3] : List Value)).length) Slot.unset).toArray = ls at hl ⊢
    have hl : lv_has ls 5 [(0, .ref (V.2.2 0)), (1, .int x1), (2, .int x2), (3, .int x3)] := hl
    exact kX11_stepped_0 (N := N) X  h ⟨hP, hD, va_S.rf⟩ hl
theorem dX11_normalOf_0 : decode cX11_normalOf 0 = .ok (.aload_n 0, 1) := by decide +kernel
theorem dX11_normalOf_1 : decode cX11_normalOf 1 = .ok (.iload_n 1, 1) := by decide +kernel
theorem dX11_normalOf_2 : decode cX11_normalOf 2 = .ok (.iload_n 2, 1) := by decide +kernel
theorem dX11_normalOf_3 : decode cX11_normalOf 3 = .ok (.bipush 100, 2) := by decide +kernel
theorem dX11_normalOf_5 : decode cX11_normalOf 5 = .ok (.invokevirtual 200, 3) := by decide +kernel
theorem dX11_normalOf_8 : decode cX11_normalOf 8 = .ok (.istore_n 3, 1) := by decide +kernel
theorem dX11_normalOf_9 : decode cX11_normalOf 9 = .ok (.aload_n 0, 1) := by decide +kernel
theorem dX11_normalOf_10 : decode cX11_normalOf 10 = .ok (.getfield 121, 3) := by decide +kernel
theorem dX11_normalOf_13 : decode cX11_normalOf 13 = .ok (.ifCond .ne 25, 3) := by decide +kernel
theorem dX11_normalOf_16 : decode cX11_normalOf 16 = .ok (.aload_n 0, 1) := by decide +kernel
theorem dX11_normalOf_17 : decode cX11_normalOf 17 = .ok (.getfield 194, 3) := by decide +kernel
theorem dX11_normalOf_20 : decode cX11_normalOf 20 = .ok (.bipush 100, 2) := by decide +kernel
theorem dX11_normalOf_22 : decode cX11_normalOf 22 = .ok (.if_icmp .ne 16, 3) := by decide +kernel
theorem dX11_normalOf_25 : decode cX11_normalOf 25 = .ok (.aload_n 0, 1) := by decide +kernel
theorem dX11_normalOf_26 : decode cX11_normalOf 26 = .ok (.iload_n 3, 1) := by decide +kernel
theorem dX11_normalOf_27 : decode cX11_normalOf 27 = .ok (.invokevirtual 197, 3) := by decide +kernel
theorem dX11_normalOf_30 : decode cX11_normalOf 30 = .ok (.ifCond .eq 8, 3) := by decide +kernel
theorem dX11_normalOf_33 : decode cX11_normalOf 33 = .ok (.bipush (-5), 2) := by decide +kernel
theorem dX11_normalOf_35 : decode cX11_normalOf 35 = .ok (.goto 4, 3) := by decide +kernel
theorem dX11_normalOf_38 : decode cX11_normalOf 38 = .ok (.iload_n 3, 1) := by decide +kernel
theorem dX11_normalOf_39 : decode cX11_normalOf 39 = .ok (.ireturn, 1) := by decide +kernel
def bX11_normalOf_39 (N d : Nat)   (w : Wd) (y0 : Int32) : Option (Wd × Int32) :=
  some (w, y0)
set_option maxHeartbeats 4000000 in
theorem kX11_normalOf_39 {V : Ev} {p : Program} {l : Launch} {e : Env} {N d : Nat} {s : State} {m : MethodId} {args : Array Value} {below : List Frame} {meth : Method} {c : Code} {z : Wd × Int32} (X : CX V p s m args meth c cX11_normalOf 4 RX11 (some .int))    {w : Wd} {y0 : Int32} {H : Heap} {locs : List Loc} {ls : Array Slot} (h : bX11_normalOf_39 N d   w y0 = some z) (hH : wH V (cM V) (AM V) s w H locs) (hl : lv_has ls 4 []) : W p l e (rmD (d + 1)) s m args below meth c H locs 0 0 (MQ below (CtI V (cM V) (AM V) z) args s 0 0 (AM V)) (F0 m 39 ls [.int y0]) := by
  unfold bX11_normalOf_39 at h
  obtain ⟨hx, hb, hml, hown, hg, hrt, hlk, hK⟩ := id X
  exact r_iret (pc := 39) X hH h dX11_normalOf_39
def bX11_normalOf_38 (N d : Nat)   (w : Wd) (x3 : Int32) : Option (Wd × Int32) :=
  bX11_normalOf_39 N d   w x3
set_option maxHeartbeats 4000000 in
theorem kX11_normalOf_38 {V : Ev} {p : Program} {l : Launch} {e : Env} {N d : Nat} {s : State} {m : MethodId} {args : Array Value} {below : List Frame} {meth : Method} {c : Code} {z : Wd × Int32} (X : CX V p s m args meth c cX11_normalOf 4 RX11 (some .int))    {w : Wd} {x3 : Int32} {H : Heap} {locs : List Loc} {ls : Array Slot} (h : bX11_normalOf_38 N d   w x3 = some z) (hH : wH V (cM V) (AM V) s w H locs) (hl : lv_has ls 4 [(3, .int x3)]) : W p l e (rmD (d + 1)) s m args below meth c H locs 0 0 (MQ below (CtI V (cM V) (AM V) z) args s 0 0 (AM V)) (F0 m 38 ls []) := by
  unfold bX11_normalOf_38 at h
  obtain ⟨hx, hb, hml, hown, hg, hrt, hlk, hK⟩ := id X
  refine lv_iload_n (pc := 38) hx hb dX11_normalOf_38 rfl (lv_at hl 0 rfl) ?_
  exact kX11_normalOf_39 X   h hH (lv_sub hl [] rfl)
def bX11_normalOf_0 (N d : Nat)   (w : Wd) (x1 : Int32) (x2 : Int32) : Option (Wd × Int32) :=
  c_cl (eX11_stepped N d w x1 x2 100) fun w1 v2 =>
  if (sI w1 4) = 0 then (
    if (sI w1 9) = 100 then (
      c_cl (eX11_isReady N d w1 v2) fun w3 v4 =>
      if v4 = 0 then (
        bX11_normalOf_38 N d   w3 v2
      ) else (
        bX11_normalOf_39 N d   w3 (-5)
      )
    ) else (
      bX11_normalOf_38 N d   w1 v2
    )
  ) else (
    bX11_normalOf_38 N d   w1 v2
  )
set_option maxHeartbeats 4000000 in
theorem kX11_normalOf_0 {V : Ev} {p : Program} {l : Launch} {e : Env} {N d : Nat} {s : State} {m : MethodId} {args : Array Value} {below : List Frame} {meth : Method} {c : Code} {z : Wd × Int32} (X : CX V p s m args meth c cX11_normalOf 4 RX11 (some .int))    {w : Wd} {x1 : Int32} {x2 : Int32} {H : Heap} {locs : List Loc} {ls : Array Slot} (h : bX11_normalOf_0 N d   w x1 x2 = some z) (hH : wH V (cM V) (AM V) s w H locs) (hl : lv_has ls 4 [(0, .ref (V.2.2 0)), (1, .int x1), (2, .int x2)]) : W p l e (rmD (d + 1)) s m args below meth c H locs 0 0 (MQ below (CtI V (cM V) (AM V) z) args s 0 0 (AM V)) (F0 m 0 ls []) := by
  unfold bX11_normalOf_0 at h
  obtain ⟨hx, hb, hml, hown, hg, hrt, hlk, hK⟩ := id X
  refine lv_aload_n (pc := 0) hx hb dX11_normalOf_0 rfl (lv_at hl 0 rfl) ?_
  refine lv_iload_n (pc := 1) hx hb dX11_normalOf_1 rfl (lv_at hl 1 rfl) ?_
  refine lv_iload_n (pc := 2) hx hb dX11_normalOf_2 rfl (lv_at hl 2 rfl) ?_
  refine lv_bipush (pc := 3) (v := 100) hx hb dX11_normalOf_3 (by decide) ?_
  refine r_cvI (pc := 5) (As := [.int x1, .int x2, .int 100]) (rest := []) X hH (fun x hx => mX11_stepped hx) cw_X11_200 (heM_0 V w) rfl rfl rfl (Nat.le_of_ble_eq_true rfl) hl.1 h dX11_normalOf_5 (fun w1 v2 H locs h hH => ?_)
  refine lv_istore_n (pc := 8) (lv' := [(3, .int v2), (0, .ref (V.2.2 0)), (1, .int x1), (2, .int x2)]) hx hb dX11_normalOf_8 rfl hl (by decide) rfl (fun ls hl => ?_)
  refine lv_aload_n (pc := 9) hx hb dX11_normalOf_9 rfl (lv_at hl 1 rfl) ?_
  refine gM_X11_121_0 (pc := 10) X hH dX11_normalOf_10 ?_
  refine b_if_ne (pc := 13) (tgt := 38) hx hb h dX11_normalOf_13 (by decide) (fun h => ?_) (fun h => ?_)
  · exact kX11_normalOf_38 X   h hH (lv_sub hl [0] rfl)
  · refine lv_aload_n (pc := 16) hx hb dX11_normalOf_16 rfl (lv_at hl 1 rfl) ?_
    refine gM_X11_194_0 (pc := 17) X hH dX11_normalOf_17 ?_
    refine lv_bipush (pc := 20) (v := 100) hx hb dX11_normalOf_20 (by decide) ?_
    refine b_icmp_ne (pc := 22) (tgt := 38) hx hb h dX11_normalOf_22 (by decide) (fun h => ?_) (fun h => ?_)
    · exact kX11_normalOf_38 X   h hH (lv_sub hl [0] rfl)
    · refine lv_aload_n (pc := 25) hx hb dX11_normalOf_25 rfl (lv_at hl 1 rfl) ?_
      refine lv_iload_n (pc := 26) hx hb dX11_normalOf_26 rfl (lv_at hl 0 rfl) ?_
      refine r_cvI (pc := 27) (As := [.int v2]) (rest := []) X hH (fun x hx => mX11_isReady hx) cw_X11_197 (heM_0 V w1) rfl rfl rfl (Nat.le_of_ble_eq_true rfl) hl.1 h dX11_normalOf_27 (fun w3 v4 H locs h hH => ?_)
      refine b_if_eq (pc := 30) (tgt := 38) hx hb h dX11_normalOf_30 (by decide) (fun h => ?_) (fun h => ?_)
      · exact kX11_normalOf_38 X   h hH (lv_sub hl [0] rfl)
      · refine lv_bipush (pc := 33) (v := -5) hx hb dX11_normalOf_33 (by decide) ?_
        refine lv_goto (pc := 35) (tgt := 39) hx hb dX11_normalOf_35 (by decide) ?_
        exact kX11_normalOf_39 X   h hH (lv_sub hl [] rfl)
def eX11_normalOf (N : Nat) : Nat → Wd → Int32 → Int32 → Option (Wd × Int32)
  | 0 => fun _ _ _ => none
  | d + 1 => fun w x1 x2 => bX11_normalOf_0 N d  w x1 x2
set_option maxHeartbeats 4000000 in
set_option maxRecDepth 20000 in
theorem mX11_normalOf {l : Launch} {V : Ev} {N d : Nat} {w : Wd} {x1 : Int32} {x2 : Int32} {z : Wd × Int32} (h : eX11_normalOf N d w x1 x2 = some z) : MetI l V (cM V) (AM V) yX11_normalOf cX11_normalOf 4 (some .int) d [.ref (V.2.2 0), .int x1, .int x2] w z := by
  cases d with
  | zero => exact c_none h
  | succ d =>
    refine Met.ofW (cc := cX11_normalOf) (maxL := 4) (ret := (some .int)) (by decide) rfl ?_
    intro p e s m args below meth c s₁ B hml hv
    obtain ⟨rfl, hP, hD, hK⟩ := hv
    have hts := atoms_spec (ws := .code yX11_normalOf cX11_normalOf 4 (some .int) :: gG) B.pre
    have X : CX V p s m ([.ref (V.2.2 0), .int x1, .int x2] : List Value).toArray meth c cX11_normalOf 4 RX11 (some .int) := ⟨B.exec, B.bytes, hml, findClass_of_methodNamed B.named, fun w hw => hts w (List.mem_cons_of_mem _ hw), B.returns, B.notSynchronized, hK⟩
    have hl := lv_entry ([.ref (V.2.2 0), .int x1, .int x2] : List Value) (n := 4) (Nat.le_of_ble_eq_true rfl)
    rw [lg_entry_eq]
    generalize (lg_sl ([.ref (V.2.2 0), .int x1, .int x2] : List Value) ++ List.replicate (4 - (lg_sl ([.ref (V.2.2 0), .int x1, .int x2] : List Value)).length) Slot.unset).toArray = ls at hl ⊢
    have hl : lv_has ls 4 [(0, .ref (V.2.2 0)), (1, .int x1), (2, .int x2)] := hl
    exact kX11_normalOf_0 (N := N) X  h ⟨hP, hD, va_S.rf⟩ hl
theorem dX11_keepUsed_0 : decode cX11_keepUsed 0 = .ok (.aload_n 0, 1) := by decide +kernel
theorem dX11_keepUsed_1 : decode cX11_keepUsed 1 = .ok (.aload_n 0, 1) := by decide +kernel
theorem dX11_keepUsed_2 : decode cX11_keepUsed 2 = .ok (.getfield 194, 3) := by decide +kernel
theorem dX11_keepUsed_5 : decode cX11_keepUsed 5 = .ok (.putfield 203, 3) := by decide +kernel
theorem dX11_keepUsed_8 : decode cX11_keepUsed 8 = .ok (.iconst 0, 1) := by decide +kernel
theorem dX11_keepUsed_9 : decode cX11_keepUsed 9 = .ok (.istore_n 1, 1) := by decide +kernel
theorem dX11_keepUsed_10 : decode cX11_keepUsed 10 = .ok (.iload_n 1, 1) := by decide +kernel
theorem dX11_keepUsed_11 : decode cX11_keepUsed 11 = .ok (.aload_n 0, 1) := by decide +kernel
theorem dX11_keepUsed_12 : decode cX11_keepUsed 12 = .ok (.getfield 194, 3) := by decide +kernel
theorem dX11_keepUsed_15 : decode cX11_keepUsed 15 = .ok (.if_icmp .ge 33, 3) := by decide +kernel
theorem dX11_keepUsed_18 : decode cX11_keepUsed 18 = .ok (.aload_n 0, 1) := by decide +kernel
theorem dX11_keepUsed_19 : decode cX11_keepUsed 19 = .ok (.getfield 54, 3) := by decide +kernel
theorem dX11_keepUsed_22 : decode cX11_keepUsed 22 = .ok (.iload_n 1, 1) := by decide +kernel
theorem dX11_keepUsed_23 : decode cX11_keepUsed 23 = .ok (.aload_n 0, 1) := by decide +kernel
theorem dX11_keepUsed_24 : decode cX11_keepUsed 24 = .ok (.getfield 60, 3) := by decide +kernel
theorem dX11_keepUsed_27 : decode cX11_keepUsed 27 = .ok (.iload_n 1, 1) := by decide +kernel
theorem dX11_keepUsed_28 : decode cX11_keepUsed 28 = .ok (.iaload, 1) := by decide +kernel
theorem dX11_keepUsed_29 : decode cX11_keepUsed 29 = .ok (.iastore, 1) := by decide +kernel
theorem dX11_keepUsed_30 : decode cX11_keepUsed 30 = .ok (.aload_n 0, 1) := by decide +kernel
theorem dX11_keepUsed_31 : decode cX11_keepUsed 31 = .ok (.getfield 57, 3) := by decide +kernel
theorem dX11_keepUsed_34 : decode cX11_keepUsed 34 = .ok (.iload_n 1, 1) := by decide +kernel
theorem dX11_keepUsed_35 : decode cX11_keepUsed 35 = .ok (.aload_n 0, 1) := by decide +kernel
theorem dX11_keepUsed_36 : decode cX11_keepUsed 36 = .ok (.getfield 63, 3) := by decide +kernel
theorem dX11_keepUsed_39 : decode cX11_keepUsed 39 = .ok (.iload_n 1, 1) := by decide +kernel
theorem dX11_keepUsed_40 : decode cX11_keepUsed 40 = .ok (.laload, 1) := by decide +kernel
theorem dX11_keepUsed_41 : decode cX11_keepUsed 41 = .ok (.lastore, 1) := by decide +kernel
theorem dX11_keepUsed_42 : decode cX11_keepUsed 42 = .ok (.iinc 1 1, 3) := by decide +kernel
theorem dX11_keepUsed_45 : decode cX11_keepUsed 45 = .ok (.goto (-35), 3) := by decide +kernel
theorem dX11_keepUsed_48 : decode cX11_keepUsed 48 = .ok (.return_, 1) := by decide +kernel
def bX11_keepUsed_10 (N d : Nat)  (rec10 : Wd → Int32 → Option (Wd)) (w : Wd) (x1 : Int32) : Option (Wd) :=
  if (sI w 9) ≤ x1 then (
    some w
  ) else (
    c_ld w 17 100 x1 fun v2 =>
    c_st w 15 100 x1 v2 fun w3 =>
    c_ll w3 18 100 x1 fun v4 =>
    c_sl w3 16 100 x1 v4 fun w5 =>
    c_nm (x1 + 1) fun x1_6 =>
    rec10 w5 x1_6
  )
set_option maxHeartbeats 4000000 in
theorem kX11_keepUsed_10 {V : Ev} {p : Program} {l : Launch} {e : Env} {N d : Nat} {s : State} {m : MethodId} {args : Array Value} {below : List Frame} {meth : Method} {c : Code} {z : Wd} (X : CX V p s m args meth c cX11_keepUsed 2 RX11 none)   {rec10 : Wd → Int32 → Option (Wd)} (hr10 : ∀ (w : Wd) (x1 : Int32) (H : Heap) (locs : List Loc) (ls : Array Slot), rec10 w x1 = some z → wH V (cM V) (AM V) s w H locs → lv_has ls 2 [(0, .ref (V.2.2 0)), (1, .int x1)] → W p l e (rmD (d + 1)) s m args below meth c H locs 0 0 (MQ below (CtV V (cM V) (AM V) z) args s 0 0 (AM V)) (F0 m 10 ls [])) {w : Wd} {x1 : Int32} {H : Heap} {locs : List Loc} {ls : Array Slot} (h : bX11_keepUsed_10 N d  rec10 w x1 = some z) (hH : wH V (cM V) (AM V) s w H locs) (hl : lv_has ls 2 [(0, .ref (V.2.2 0)), (1, .int x1)]) : W p l e (rmD (d + 1)) s m args below meth c H locs 0 0 (MQ below (CtV V (cM V) (AM V) z) args s 0 0 (AM V)) (F0 m 10 ls []) := by
  unfold bX11_keepUsed_10 at h
  obtain ⟨hx, hb, hml, hown, hg, hrt, hlk, hK⟩ := id X
  refine lv_iload_n (pc := 10) hx hb dX11_keepUsed_10 rfl (lv_at hl 1 rfl) ?_
  refine lv_aload_n (pc := 11) hx hb dX11_keepUsed_11 rfl (lv_at hl 0 rfl) ?_
  refine gM_X11_194_0 (pc := 12) X hH dX11_keepUsed_12 ?_
  refine b_icmp_ge (pc := 15) (tgt := 48) hx hb h dX11_keepUsed_15 (by decide) (fun h => ?_) (fun h => ?_)
  · exact r_vret (pc := 48) X hH h dX11_keepUsed_48
  · refine lv_aload_n (pc := 18) hx hb dX11_keepUsed_18 rfl (lv_at hl 0 rfl) ?_
    refine gM_X11_54_0 (pc := 19) X hH dX11_keepUsed_19 ?_
    refine lv_iload_n (pc := 22) hx hb dX11_keepUsed_22 rfl (lv_at hl 1 rfl) ?_
    refine lv_aload_n (pc := 23) hx hb dX11_keepUsed_23 rfl (lv_at hl 0 rfl) ?_
    refine gM_X11_60_0 (pc := 24) X hH dX11_keepUsed_24 ?_
    refine lv_iload_n (pc := 27) hx hb dX11_keepUsed_27 rfl (lv_at hl 1 rfl) ?_
    refine r_ld (pc := 28) X (heM_17 V w) hH h dX11_keepUsed_28 (fun v2 h => ?_)
    refine r_st (pc := 29) X (heM_15 V w) (hsM_15 V w) hH h dX11_keepUsed_29 (fun w3 H locs h hH => ?_)
    refine lv_aload_n (pc := 30) hx hb dX11_keepUsed_30 rfl (lv_at hl 0 rfl) ?_
    refine gM_X11_57_0 (pc := 31) X hH dX11_keepUsed_31 ?_
    refine lv_iload_n (pc := 34) hx hb dX11_keepUsed_34 rfl (lv_at hl 1 rfl) ?_
    refine lv_aload_n (pc := 35) hx hb dX11_keepUsed_35 rfl (lv_at hl 0 rfl) ?_
    refine gM_X11_63_0 (pc := 36) X hH dX11_keepUsed_36 ?_
    refine lv_iload_n (pc := 39) hx hb dX11_keepUsed_39 rfl (lv_at hl 1 rfl) ?_
    refine r_ll (pc := 40) X (heM_18 V w3) hH h dX11_keepUsed_40 (fun v4 h => ?_)
    refine r_sl (pc := 41) X (heM_16 V w3) (hsM_16 V w3) hH h dX11_keepUsed_41 (fun w5 H locs h hH => ?_)
    obtain ⟨x1_6, ex1_6, h⟩ := c_nm_ex h
    refine lv_iinc (pc := 42) (v := x1_6) (lv' := [(1, .int x1_6), (0, .ref (V.2.2 0))]) hx hb dX11_keepUsed_42 hl (k := 1) rfl (by rw [← ex1_6]; rfl) (by decide) rfl (fun ls hl => ?_)
    refine lv_goto (pc := 45) (tgt := 10) hx hb dX11_keepUsed_45 (by decide) ?_
    exact hr10 _ _ _ _ _ h hH (lv_sub hl [1, 0] rfl)
def fX11_keepUsed_10 (N d : Nat)   : Nat → Wd → Int32 → Option (Wd)
  | 0 => fun _ _ => none
  | n + 1 => fun w x1 => bX11_keepUsed_10 N d   (fX11_keepUsed_10 N d   n) w x1
theorem lX11_keepUsed_10 {V : Ev} {p : Program} {l : Launch} {e : Env} {N d : Nat} {s : State} {m : MethodId} {args : Array Value} {below : List Frame} {meth : Method} {c : Code} {z : Wd} (X : CX V p s m args meth c cX11_keepUsed 2 RX11 none)    (n : Nat) {w : Wd} {x1 : Int32} {H : Heap} {locs : List Loc} {ls : Array Slot} (h : fX11_keepUsed_10 N d   n w x1 = some z) (hH : wH V (cM V) (AM V) s w H locs) (hl : lv_has ls 2 [(0, .ref (V.2.2 0)), (1, .int x1)]) : W p l e (rmD (d + 1)) s m args below meth c H locs 0 0 (MQ below (CtV V (cM V) (AM V) z) args s 0 0 (AM V)) (F0 m 10 ls []) := by
  induction n generalizing w x1 H locs ls with
  | zero => exact c_none h
  | succ n ih => exact kX11_keepUsed_10 (N := N) X  (fun _ _ _ _ _ h hH hl => ih h hH hl) h hH hl
def bX11_keepUsed_0 (N d : Nat)   (w : Wd)  : Option (Wd) :=
  c_pi w 8 (sI w 9) fun w1 =>
  fX11_keepUsed_10 N d   N w1 ((0 : Int32))
set_option maxHeartbeats 4000000 in
theorem kX11_keepUsed_0 {V : Ev} {p : Program} {l : Launch} {e : Env} {N d : Nat} {s : State} {m : MethodId} {args : Array Value} {below : List Frame} {meth : Method} {c : Code} {z : Wd} (X : CX V p s m args meth c cX11_keepUsed 2 RX11 none)    {w : Wd}  {H : Heap} {locs : List Loc} {ls : Array Slot} (h : bX11_keepUsed_0 N d   w  = some z) (hH : wH V (cM V) (AM V) s w H locs) (hl : lv_has ls 2 [(0, .ref (V.2.2 0))]) : W p l e (rmD (d + 1)) s m args below meth c H locs 0 0 (MQ below (CtV V (cM V) (AM V) z) args s 0 0 (AM V)) (F0 m 0 ls []) := by
  unfold bX11_keepUsed_0 at h
  obtain ⟨hx, hb, hml, hown, hg, hrt, hlk, hK⟩ := id X
  refine lv_aload_n (pc := 0) hx hb dX11_keepUsed_0 rfl (lv_at hl 0 rfl) ?_
  refine lv_aload_n (pc := 1) hx hb dX11_keepUsed_1 rfl (lv_at hl 0 rfl) ?_
  refine gM_X11_194_0 (pc := 2) X hH dX11_keepUsed_2 ?_
  refine pM_X11_203_0 (pc := 5) X hH h dX11_keepUsed_5 (fun w1 H locs h hH => ?_)
  refine lv_iconst (pc := 8) (v := 0) hx hb dX11_keepUsed_8 (by decide) ?_
  refine lv_istore_n (pc := 9) (lv' := [(1, .int ((0 : Int32))), (0, .ref (V.2.2 0))]) hx hb dX11_keepUsed_9 rfl hl (by decide) rfl (fun ls hl => ?_)
  exact lX11_keepUsed_10 X   N h hH (lv_sub hl [1, 0] rfl)
def eX11_keepUsed (N : Nat) : Nat → Wd → Option (Wd)
  | 0 => fun _  => none
  | d + 1 => fun w  => bX11_keepUsed_0 N d  w 
set_option maxHeartbeats 4000000 in
set_option maxRecDepth 20000 in
theorem mX11_keepUsed {l : Launch} {V : Ev} {N d : Nat} {w : Wd}  {z : Wd} (h : eX11_keepUsed N d w  = some z) : MetV l V (cM V) (AM V) yX11_keepUsed cX11_keepUsed 2 none d [.ref (V.2.2 0)] w z := by
  cases d with
  | zero => exact c_none h
  | succ d =>
    refine Met.ofW (cc := cX11_keepUsed) (maxL := 2) (ret := none) (by decide) rfl ?_
    intro p e s m args below meth c s₁ B hml hv
    obtain ⟨rfl, hP, hD, hK⟩ := hv
    have hts := atoms_spec (ws := .code yX11_keepUsed cX11_keepUsed 2 none :: gG) B.pre
    have X : CX V p s m ([.ref (V.2.2 0)] : List Value).toArray meth c cX11_keepUsed 2 RX11 none := ⟨B.exec, B.bytes, hml, findClass_of_methodNamed B.named, fun w hw => hts w (List.mem_cons_of_mem _ hw), B.returns, B.notSynchronized, hK⟩
    have hl := lv_entry ([.ref (V.2.2 0)] : List Value) (n := 2) (Nat.le_of_ble_eq_true rfl)
    rw [lg_entry_eq]
    generalize (lg_sl ([.ref (V.2.2 0)] : List Value) ++ List.replicate (2 - (lg_sl ([.ref (V.2.2 0)] : List Value)).length) Slot.unset).toArray = ls at hl ⊢
    have hl : lv_has ls 2 [(0, .ref (V.2.2 0))] := hl
    exact kX11_keepUsed_0 (N := N) X  h ⟨hP, hD, va_S.rf⟩ hl
theorem dX11_refuse_0 : decode cX11_refuse 0 = .ok (.aload_n 0, 1) := by decide +kernel
theorem dX11_refuse_1 : decode cX11_refuse 1 = .ok (.iconst 0, 1) := by decide +kernel
theorem dX11_refuse_2 : decode cX11_refuse 2 = .ok (.putfield 121, 3) := by decide +kernel
theorem dX11_refuse_5 : decode cX11_refuse 5 = .ok (.aload_n 0, 1) := by decide +kernel
theorem dX11_refuse_6 : decode cX11_refuse 6 = .ok (.iload_n 1, 1) := by decide +kernel
theorem dX11_refuse_7 : decode cX11_refuse 7 = .ok (.putfield 125, 3) := by decide +kernel
theorem dX11_refuse_10 : decode cX11_refuse 10 = .ok (.bipush (-4), 2) := by decide +kernel
theorem dX11_refuse_12 : decode cX11_refuse 12 = .ok (.ireturn, 1) := by decide +kernel
def bX11_refuse_0 (N d : Nat)   (w : Wd) (x1 : Int32) : Option (Wd × Int32) :=
  c_pi w 4 0 fun w1 =>
  c_pi w1 2 x1 fun w2 =>
  some (w2, -4)
set_option maxHeartbeats 4000000 in
theorem kX11_refuse_0 {V : Ev} {p : Program} {l : Launch} {e : Env} {N d : Nat} {s : State} {m : MethodId} {args : Array Value} {below : List Frame} {meth : Method} {c : Code} {z : Wd × Int32} (X : CX V p s m args meth c cX11_refuse 2 RX11 (some .int))    {w : Wd} {x1 : Int32} {H : Heap} {locs : List Loc} {ls : Array Slot} (h : bX11_refuse_0 N d   w x1 = some z) (hH : wH V (cM V) (AM V) s w H locs) (hl : lv_has ls 2 [(0, .ref (V.2.2 0)), (1, .int x1)]) : W p l e (rmD (d + 1)) s m args below meth c H locs 0 0 (MQ below (CtI V (cM V) (AM V) z) args s 0 0 (AM V)) (F0 m 0 ls []) := by
  unfold bX11_refuse_0 at h
  obtain ⟨hx, hb, hml, hown, hg, hrt, hlk, hK⟩ := id X
  refine lv_aload_n (pc := 0) hx hb dX11_refuse_0 rfl (lv_at hl 0 rfl) ?_
  refine lv_iconst (pc := 1) (v := 0) hx hb dX11_refuse_1 (by decide) ?_
  refine pM_X11_121_0 (pc := 2) X hH (Or.inl rfl) h dX11_refuse_2 (fun w1 H locs h hH => ?_)
  refine lv_aload_n (pc := 5) hx hb dX11_refuse_5 rfl (lv_at hl 0 rfl) ?_
  refine lv_iload_n (pc := 6) hx hb dX11_refuse_6 rfl (lv_at hl 1 rfl) ?_
  refine pM_X11_125_0 (pc := 7) X hH h dX11_refuse_7 (fun w2 H locs h hH => ?_)
  refine lv_bipush (pc := 10) (v := -4) hx hb dX11_refuse_10 (by decide) ?_
  exact r_iret (pc := 12) X hH h dX11_refuse_12
def eX11_refuse (N : Nat) : Nat → Wd → Int32 → Option (Wd × Int32)
  | 0 => fun _ _ => none
  | d + 1 => fun w x1 => bX11_refuse_0 N d  w x1
set_option maxHeartbeats 4000000 in
set_option maxRecDepth 20000 in
theorem mX11_refuse {l : Launch} {V : Ev} {N d : Nat} {w : Wd} {x1 : Int32} {z : Wd × Int32} (h : eX11_refuse N d w x1 = some z) : MetI l V (cM V) (AM V) yX11_refuse cX11_refuse 2 (some .int) d [.ref (V.2.2 0), .int x1] w z := by
  cases d with
  | zero => exact c_none h
  | succ d =>
    refine Met.ofW (cc := cX11_refuse) (maxL := 2) (ret := (some .int)) (by decide) rfl ?_
    intro p e s m args below meth c s₁ B hml hv
    obtain ⟨rfl, hP, hD, hK⟩ := hv
    have hts := atoms_spec (ws := .code yX11_refuse cX11_refuse 2 (some .int) :: gG) B.pre
    have X : CX V p s m ([.ref (V.2.2 0), .int x1] : List Value).toArray meth c cX11_refuse 2 RX11 (some .int) := ⟨B.exec, B.bytes, hml, findClass_of_methodNamed B.named, fun w hw => hts w (List.mem_cons_of_mem _ hw), B.returns, B.notSynchronized, hK⟩
    have hl := lv_entry ([.ref (V.2.2 0), .int x1] : List Value) (n := 2) (Nat.le_of_ble_eq_true rfl)
    rw [lg_entry_eq]
    generalize (lg_sl ([.ref (V.2.2 0), .int x1] : List Value) ++ List.replicate (2 - (lg_sl ([.ref (V.2.2 0), .int x1] : List Value)).length) Slot.unset).toArray = ls at hl ⊢
    have hl : lv_has ls 2 [(0, .ref (V.2.2 0)), (1, .int x1)] := hl
    exact kX11_refuse_0 (N := N) X  h ⟨hP, hD, va_S.rf⟩ hl
theorem dX11_step_0 : decode cX11_step 0 = .ok (.aload_n 0, 1) := by decide +kernel
theorem dX11_step_1 : decode cX11_step 1 = .ok (.iconst 0, 1) := by decide +kernel
theorem dX11_step_2 : decode cX11_step 2 = .ok (.putfield 111, 3) := by decide +kernel
theorem dX11_step_5 : decode cX11_step 5 = .ok (.aload_n 0, 1) := by decide +kernel
theorem dX11_step_6 : decode cX11_step 6 = .ok (.iload_n 1, 1) := by decide +kernel
theorem dX11_step_7 : decode cX11_step 7 = .ok (.invokevirtual 206, 3) := by decide +kernel
theorem dX11_step_10 : decode cX11_step 10 = .ok (.ifCond .eq 13, 3) := by decide +kernel
theorem dX11_step_13 : decode cX11_step 13 = .ok (.iload_n 2, 1) := by decide +kernel
theorem dX11_step_14 : decode cX11_step 14 = .ok (.i2l, 1) := by decide +kernel
theorem dX11_step_15 : decode cX11_step 15 = .ok (.lconst 0, 1) := by decide +kernel
theorem dX11_step_16 : decode cX11_step 16 = .ok (.lconst 1, 1) := by decide +kernel
theorem dX11_step_17 : decode cX11_step 17 = .ok (.invokestatic 132, 3) := by decide +kernel
theorem dX11_step_20 : decode cX11_step 20 = .ok (.ifCond .ne 6, 3) := by decide +kernel
theorem dX11_step_23 : decode cX11_step 23 = .ok (.bipush (-2), 2) := by decide +kernel
theorem dX11_step_25 : decode cX11_step 25 = .ok (.ireturn, 1) := by decide +kernel
theorem dX11_step_26 : decode cX11_step 26 = .ok (.aload_n 0, 1) := by decide +kernel
theorem dX11_step_27 : decode cX11_step 27 = .ok (.getfield 125, 3) := by decide +kernel
theorem dX11_step_30 : decode cX11_step 30 = .ok (.istore_n 3, 1) := by decide +kernel
theorem dX11_step_31 : decode cX11_step 31 = .ok (.aload_n 0, 1) := by decide +kernel
theorem dX11_step_32 : decode cX11_step 32 = .ok (.iconst (-1), 1) := by decide +kernel
theorem dX11_step_33 : decode cX11_step 33 = .ok (.putfield 161, 3) := by decide +kernel
theorem dX11_step_36 : decode cX11_step 36 = .ok (.aload_n 0, 1) := by decide +kernel
theorem dX11_step_37 : decode cX11_step 37 = .ok (.iload_n 1, 1) := by decide +kernel
theorem dX11_step_38 : decode cX11_step 38 = .ok (.iload_n 2, 1) := by decide +kernel
theorem dX11_step_39 : decode cX11_step 39 = .ok (.iconst 1, 1) := by decide +kernel
theorem dX11_step_40 : decode cX11_step 40 = .ok (.invokevirtual 200, 3) := by decide +kernel
theorem dX11_step_43 : decode cX11_step 43 = .ok (.istore 4, 2) := by decide +kernel
theorem dX11_step_45 : decode cX11_step 45 = .ok (.aload_n 0, 1) := by decide +kernel
theorem dX11_step_46 : decode cX11_step 46 = .ok (.getfield 121, 3) := by decide +kernel
theorem dX11_step_49 : decode cX11_step 49 = .ok (.ifCond .eq 9, 3) := by decide +kernel
theorem dX11_step_52 : decode cX11_step 52 = .ok (.aload_n 0, 1) := by decide +kernel
theorem dX11_step_53 : decode cX11_step 53 = .ok (.iload_n 3, 1) := by decide +kernel
theorem dX11_step_54 : decode cX11_step 54 = .ok (.invokevirtual 209, 3) := by decide +kernel
theorem dX11_step_57 : decode cX11_step 57 = .ok (.ireturn, 1) := by decide +kernel
theorem dX11_step_58 : decode cX11_step 58 = .ok (.aload_n 0, 1) := by decide +kernel
theorem dX11_step_59 : decode cX11_step 59 = .ok (.invokevirtual 212, 3) := by decide +kernel
theorem dX11_step_62 : decode cX11_step 62 = .ok (.aload_n 0, 1) := by decide +kernel
theorem dX11_step_63 : decode cX11_step 63 = .ok (.getfield 194, 3) := by decide +kernel
theorem dX11_step_66 : decode cX11_step 66 = .ok (.ifCond .ne 7, 3) := by decide +kernel
theorem dX11_step_69 : decode cX11_step 69 = .ok (.iconst (-1), 1) := by decide +kernel
theorem dX11_step_70 : decode cX11_step 70 = .ok (.goto 5, 3) := by decide +kernel
theorem dX11_step_73 : decode cX11_step 73 = .ok (.iload 4, 2) := by decide +kernel
theorem dX11_step_75 : decode cX11_step 75 = .ok (.ireturn, 1) := by decide +kernel
def bX11_step_23 (N d : Nat)   (w : Wd)  : Option (Wd × Int32) :=
  some (w, -2)
set_option maxHeartbeats 4000000 in
theorem kX11_step_23 {V : Ev} {p : Program} {l : Launch} {e : Env} {N d : Nat} {s : State} {m : MethodId} {args : Array Value} {below : List Frame} {meth : Method} {c : Code} {z : Wd × Int32} (X : CX V p s m args meth c cX11_step 5 RX11 (some .int))    {w : Wd}  {H : Heap} {locs : List Loc} {ls : Array Slot} (h : bX11_step_23 N d   w  = some z) (hH : wH V (cM V) (AM V) s w H locs) (hl : lv_has ls 5 []) : W p l e (rmD (d + 1)) s m args below meth c H locs 0 0 (MQ below (CtI V (cM V) (AM V) z) args s 0 0 (AM V)) (F0 m 23 ls []) := by
  unfold bX11_step_23 at h
  obtain ⟨hx, hb, hml, hown, hg, hrt, hlk, hK⟩ := id X
  refine lv_bipush (pc := 23) (v := -2) hx hb dX11_step_23 (by decide) ?_
  exact r_iret (pc := 25) X hH h dX11_step_25
def bX11_step_75 (N d : Nat)   (w : Wd) (y0 : Int32) : Option (Wd × Int32) :=
  some (w, y0)
set_option maxHeartbeats 4000000 in
theorem kX11_step_75 {V : Ev} {p : Program} {l : Launch} {e : Env} {N d : Nat} {s : State} {m : MethodId} {args : Array Value} {below : List Frame} {meth : Method} {c : Code} {z : Wd × Int32} (X : CX V p s m args meth c cX11_step 5 RX11 (some .int))    {w : Wd} {y0 : Int32} {H : Heap} {locs : List Loc} {ls : Array Slot} (h : bX11_step_75 N d   w y0 = some z) (hH : wH V (cM V) (AM V) s w H locs) (hl : lv_has ls 5 []) : W p l e (rmD (d + 1)) s m args below meth c H locs 0 0 (MQ below (CtI V (cM V) (AM V) z) args s 0 0 (AM V)) (F0 m 75 ls [.int y0]) := by
  unfold bX11_step_75 at h
  obtain ⟨hx, hb, hml, hown, hg, hrt, hlk, hK⟩ := id X
  exact r_iret (pc := 75) X hH h dX11_step_75
def bX11_step_0 (N d : Nat)   (w : Wd) (x1 : Int32) (x2 : Int32) : Option (Wd × Int32) :=
  c_pi w 0 0 fun w1 =>
  c_cl (eX11_isTerm N d w1 x1) fun w2 v3 =>
  if v3 = 0 then (
    bX11_step_23 N d   w2 
  ) else (
    c_cl (eX11_in N d w2 (Int32.toInt64 x2) 0 1) fun w4 v5 =>
    if v5 = 0 then (
      bX11_step_23 N d   w4 
    ) else (
      c_nm (sI w4 2) fun x3_6 =>
      c_pi w4 5 (-1) fun w7 =>
      c_cl (eX11_stepped N d w7 x1 x2 1) fun w8 v9 =>
      if (sI w8 4) = 0 then (
        c_cv (eX11_keepUsed N d w8 ) fun w10 =>
        if (sI w10 9) = 0 then (
          bX11_step_75 N d   w10 (-1)
        ) else (
          bX11_step_75 N d   w10 v9
        )
      ) else (
        c_cl (eX11_refuse N d w8 x3_6) fun w11 v12 =>
        some (w11, v12)
      )
    )
  )
set_option maxHeartbeats 4000000 in
theorem kX11_step_0 {V : Ev} {p : Program} {l : Launch} {e : Env} {N d : Nat} {s : State} {m : MethodId} {args : Array Value} {below : List Frame} {meth : Method} {c : Code} {z : Wd × Int32} (X : CX V p s m args meth c cX11_step 5 RX11 (some .int))    {w : Wd} {x1 : Int32} {x2 : Int32} {H : Heap} {locs : List Loc} {ls : Array Slot} (h : bX11_step_0 N d   w x1 x2 = some z) (hH : wH V (cM V) (AM V) s w H locs) (hl : lv_has ls 5 [(0, .ref (V.2.2 0)), (1, .int x1), (2, .int x2)]) : W p l e (rmD (d + 1)) s m args below meth c H locs 0 0 (MQ below (CtI V (cM V) (AM V) z) args s 0 0 (AM V)) (F0 m 0 ls []) := by
  unfold bX11_step_0 at h
  obtain ⟨hx, hb, hml, hown, hg, hrt, hlk, hK⟩ := id X
  refine lv_aload_n (pc := 0) hx hb dX11_step_0 rfl (lv_at hl 0 rfl) ?_
  refine lv_iconst (pc := 1) (v := 0) hx hb dX11_step_1 (by decide) ?_
  refine pM_X11_111_0 (pc := 2) X hH h dX11_step_2 (fun w1 H locs h hH => ?_)
  refine lv_aload_n (pc := 5) hx hb dX11_step_5 rfl (lv_at hl 0 rfl) ?_
  refine lv_iload_n (pc := 6) hx hb dX11_step_6 rfl (lv_at hl 1 rfl) ?_
  refine r_cvI (pc := 7) (As := [.int x1]) (rest := []) X hH (fun x hx => mX11_isTerm hx) cw_X11_206 (heM_0 V w1) rfl rfl rfl (Nat.le_of_ble_eq_true rfl) hl.1 h dX11_step_7 (fun w2 v3 H locs h hH => ?_)
  refine b_if_eq (pc := 10) (tgt := 23) hx hb h dX11_step_10 (by decide) (fun h => ?_) (fun h => ?_)
  · exact kX11_step_23 X   h hH (lv_sub hl [] rfl)
  · refine lv_iload_n (pc := 13) hx hb dX11_step_13 rfl (lv_at hl 2 rfl) ?_
    refine lv_i2l (pc := 14) hx hb dX11_step_14 rfl ?_
    refine lv_lconst (pc := 15) (v := 0) hx hb dX11_step_15 (by decide) ?_
    refine lv_lconst (pc := 16) (v := 1) hx hb dX11_step_16 (by decide) ?_
    refine r_csI (pc := 17) (As := [.long (Int32.toInt64 x2), .long 0, .long 1]) (rest := []) X hH (fun x hx => mX11_in hx) cs_X11_132 rfl rfl (Nat.le_of_ble_eq_true rfl) hl.1 h dX11_step_17 (fun w4 v5 H locs h hH => ?_)
    refine b_if_ne (pc := 20) (tgt := 26) hx hb h dX11_step_20 (by decide) (fun h => ?_) (fun h => ?_)
    · refine lv_aload_n (pc := 26) hx hb dX11_step_26 rfl (lv_at hl 0 rfl) ?_
      refine gM_X11_125_0 (pc := 27) X hH dX11_step_27 ?_
      refine r_nmi h (fun x3_6 h => ?_)
      refine lv_istore_n (pc := 30) (lv' := [(3, .int x3_6), (0, .ref (V.2.2 0)), (1, .int x1), (2, .int x2)]) hx hb dX11_step_30 rfl hl (by decide) rfl (fun ls hl => ?_)
      refine lv_aload_n (pc := 31) hx hb dX11_step_31 rfl (lv_at hl 1 rfl) ?_
      refine lv_iconst (pc := 32) (v := -1) hx hb dX11_step_32 (by decide) ?_
      refine pM_X11_161_0 (pc := 33) X hH h dX11_step_33 (fun w7 H locs h hH => ?_)
      refine lv_aload_n (pc := 36) hx hb dX11_step_36 rfl (lv_at hl 1 rfl) ?_
      refine lv_iload_n (pc := 37) hx hb dX11_step_37 rfl (lv_at hl 2 rfl) ?_
      refine lv_iload_n (pc := 38) hx hb dX11_step_38 rfl (lv_at hl 3 rfl) ?_
      refine lv_iconst (pc := 39) (v := 1) hx hb dX11_step_39 (by decide) ?_
      refine r_cvI (pc := 40) (As := [.int x1, .int x2, .int 1]) (rest := []) X hH (fun x hx => mX11_stepped hx) cw_X11_200 (heM_0 V w7) rfl rfl rfl (Nat.le_of_ble_eq_true rfl) hl.1 h dX11_step_40 (fun w8 v9 H locs h hH => ?_)
      refine lv_istore (pc := 43) (lv' := [(4, .int v9), (3, .int x3_6), (0, .ref (V.2.2 0)), (1, .int x1), (2, .int x2)]) hx hb dX11_step_43 hl (by decide) rfl (fun ls hl => ?_)
      refine lv_aload_n (pc := 45) hx hb dX11_step_45 rfl (lv_at hl 2 rfl) ?_
      refine gM_X11_121_0 (pc := 46) X hH dX11_step_46 ?_
      refine b_if_eq (pc := 49) (tgt := 58) hx hb h dX11_step_49 (by decide) (fun h => ?_) (fun h => ?_)
      · refine lv_aload_n (pc := 58) hx hb dX11_step_58 rfl (lv_at hl 2 rfl) ?_
        refine r_cvV (pc := 59) (As := []) (rest := []) X hH (fun x hx => mX11_keepUsed hx) cw_X11_212 (heM_0 V w8) rfl rfl rfl (Nat.le_of_ble_eq_true rfl) hl.1 h dX11_step_59 (fun w10 H locs h hH => ?_)
        refine lv_aload_n (pc := 62) hx hb dX11_step_62 rfl (lv_at hl 2 rfl) ?_
        refine gM_X11_194_0 (pc := 63) X hH dX11_step_63 ?_
        refine b_if_ne (pc := 66) (tgt := 73) hx hb h dX11_step_66 (by decide) (fun h => ?_) (fun h => ?_)
        · refine lv_iload (pc := 73) hx hb dX11_step_73 (lv_at hl 0 rfl) ?_
          exact kX11_step_75 X   h hH (lv_sub hl [] rfl)
        · refine lv_iconst (pc := 69) (v := -1) hx hb dX11_step_69 (by decide) ?_
          refine lv_goto (pc := 70) (tgt := 75) hx hb dX11_step_70 (by decide) ?_
          exact kX11_step_75 X   h hH (lv_sub hl [] rfl)
      · refine lv_aload_n (pc := 52) hx hb dX11_step_52 rfl (lv_at hl 2 rfl) ?_
        refine lv_iload_n (pc := 53) hx hb dX11_step_53 rfl (lv_at hl 1 rfl) ?_
        refine r_cvI (pc := 54) (As := [.int x3_6]) (rest := []) X hH (fun x hx => mX11_refuse hx) cw_X11_209 (heM_0 V w8) rfl rfl rfl (Nat.le_of_ble_eq_true rfl) hl.1 h dX11_step_54 (fun w11 v12 H locs h hH => ?_)
        exact r_iret (pc := 57) X hH h dX11_step_57
    · exact kX11_step_23 X   h hH (lv_sub hl [] rfl)
def eX11_step (N : Nat) : Nat → Wd → Int32 → Int32 → Option (Wd × Int32)
  | 0 => fun _ _ _ => none
  | d + 1 => fun w x1 x2 => bX11_step_0 N d  w x1 x2
set_option maxHeartbeats 4000000 in
set_option maxRecDepth 20000 in
theorem mX11_step {l : Launch} {V : Ev} {N d : Nat} {w : Wd} {x1 : Int32} {x2 : Int32} {z : Wd × Int32} (h : eX11_step N d w x1 x2 = some z) : MetI l V (cM V) (AM V) yX11_step cX11_step 5 (some .int) d [.ref (V.2.2 0), .int x1, .int x2] w z := by
  cases d with
  | zero => exact c_none h
  | succ d =>
    refine Met.ofW (cc := cX11_step) (maxL := 5) (ret := (some .int)) (by decide) rfl ?_
    intro p e s m args below meth c s₁ B hml hv
    obtain ⟨rfl, hP, hD, hK⟩ := hv
    have hts := atoms_spec (ws := .code yX11_step cX11_step 5 (some .int) :: gG) B.pre
    have X : CX V p s m ([.ref (V.2.2 0), .int x1, .int x2] : List Value).toArray meth c cX11_step 5 RX11 (some .int) := ⟨B.exec, B.bytes, hml, findClass_of_methodNamed B.named, fun w hw => hts w (List.mem_cons_of_mem _ hw), B.returns, B.notSynchronized, hK⟩
    have hl := lv_entry ([.ref (V.2.2 0), .int x1, .int x2] : List Value) (n := 5) (Nat.le_of_ble_eq_true rfl)
    rw [lg_entry_eq]
    generalize (lg_sl ([.ref (V.2.2 0), .int x1, .int x2] : List Value) ++ List.replicate (5 - (lg_sl ([.ref (V.2.2 0), .int x1, .int x2] : List Value)).length) Slot.unset).toArray = ls at hl ⊢
    have hl : lv_has ls 5 [(0, .ref (V.2.2 0)), (1, .int x1), (2, .int x2)] := hl
    exact kX11_step_0 (N := N) X  h ⟨hP, hD, va_S.rf⟩ hl
theorem dX11_normal_0 : decode cX11_normal 0 = .ok (.aload_n 0, 1) := by decide +kernel
theorem dX11_normal_1 : decode cX11_normal 1 = .ok (.iconst 0, 1) := by decide +kernel
theorem dX11_normal_2 : decode cX11_normal 2 = .ok (.putfield 111, 3) := by decide +kernel
theorem dX11_normal_5 : decode cX11_normal 5 = .ok (.aload_n 0, 1) := by decide +kernel
theorem dX11_normal_6 : decode cX11_normal 6 = .ok (.iload_n 1, 1) := by decide +kernel
theorem dX11_normal_7 : decode cX11_normal 7 = .ok (.invokevirtual 206, 3) := by decide +kernel
theorem dX11_normal_10 : decode cX11_normal 10 = .ok (.ifCond .eq 13, 3) := by decide +kernel
theorem dX11_normal_13 : decode cX11_normal 13 = .ok (.iload_n 2, 1) := by decide +kernel
theorem dX11_normal_14 : decode cX11_normal 14 = .ok (.i2l, 1) := by decide +kernel
theorem dX11_normal_15 : decode cX11_normal 15 = .ok (.lconst 0, 1) := by decide +kernel
theorem dX11_normal_16 : decode cX11_normal 16 = .ok (.lconst 1, 1) := by decide +kernel
theorem dX11_normal_17 : decode cX11_normal 17 = .ok (.invokestatic 132, 3) := by decide +kernel
theorem dX11_normal_20 : decode cX11_normal 20 = .ok (.ifCond .ne 6, 3) := by decide +kernel
theorem dX11_normal_23 : decode cX11_normal 23 = .ok (.bipush (-2), 2) := by decide +kernel
theorem dX11_normal_25 : decode cX11_normal 25 = .ok (.ireturn, 1) := by decide +kernel
theorem dX11_normal_26 : decode cX11_normal 26 = .ok (.aload_n 0, 1) := by decide +kernel
theorem dX11_normal_27 : decode cX11_normal 27 = .ok (.getfield 125, 3) := by decide +kernel
theorem dX11_normal_30 : decode cX11_normal 30 = .ok (.istore_n 3, 1) := by decide +kernel
theorem dX11_normal_31 : decode cX11_normal 31 = .ok (.aload_n 0, 1) := by decide +kernel
theorem dX11_normal_32 : decode cX11_normal 32 = .ok (.iconst (-1), 1) := by decide +kernel
theorem dX11_normal_33 : decode cX11_normal 33 = .ok (.putfield 161, 3) := by decide +kernel
theorem dX11_normal_36 : decode cX11_normal 36 = .ok (.aload_n 0, 1) := by decide +kernel
theorem dX11_normal_37 : decode cX11_normal 37 = .ok (.iload_n 1, 1) := by decide +kernel
theorem dX11_normal_38 : decode cX11_normal 38 = .ok (.iload_n 2, 1) := by decide +kernel
theorem dX11_normal_39 : decode cX11_normal 39 = .ok (.invokevirtual 215, 3) := by decide +kernel
theorem dX11_normal_42 : decode cX11_normal 42 = .ok (.istore 4, 2) := by decide +kernel
theorem dX11_normal_44 : decode cX11_normal 44 = .ok (.aload_n 0, 1) := by decide +kernel
theorem dX11_normal_45 : decode cX11_normal 45 = .ok (.getfield 121, 3) := by decide +kernel
theorem dX11_normal_48 : decode cX11_normal 48 = .ok (.ifCond .eq 9, 3) := by decide +kernel
theorem dX11_normal_51 : decode cX11_normal 51 = .ok (.aload_n 0, 1) := by decide +kernel
theorem dX11_normal_52 : decode cX11_normal 52 = .ok (.iload_n 3, 1) := by decide +kernel
theorem dX11_normal_53 : decode cX11_normal 53 = .ok (.invokevirtual 209, 3) := by decide +kernel
theorem dX11_normal_56 : decode cX11_normal 56 = .ok (.ireturn, 1) := by decide +kernel
theorem dX11_normal_57 : decode cX11_normal 57 = .ok (.aload_n 0, 1) := by decide +kernel
theorem dX11_normal_58 : decode cX11_normal 58 = .ok (.invokevirtual 212, 3) := by decide +kernel
theorem dX11_normal_61 : decode cX11_normal 61 = .ok (.iload 4, 2) := by decide +kernel
theorem dX11_normal_63 : decode cX11_normal 63 = .ok (.ireturn, 1) := by decide +kernel
def bX11_normal_23 (N d : Nat)   (w : Wd)  : Option (Wd × Int32) :=
  some (w, -2)
set_option maxHeartbeats 4000000 in
theorem kX11_normal_23 {V : Ev} {p : Program} {l : Launch} {e : Env} {N d : Nat} {s : State} {m : MethodId} {args : Array Value} {below : List Frame} {meth : Method} {c : Code} {z : Wd × Int32} (X : CX V p s m args meth c cX11_normal 5 RX11 (some .int))    {w : Wd}  {H : Heap} {locs : List Loc} {ls : Array Slot} (h : bX11_normal_23 N d   w  = some z) (hH : wH V (cM V) (AM V) s w H locs) (hl : lv_has ls 5 []) : W p l e (rmD (d + 1)) s m args below meth c H locs 0 0 (MQ below (CtI V (cM V) (AM V) z) args s 0 0 (AM V)) (F0 m 23 ls []) := by
  unfold bX11_normal_23 at h
  obtain ⟨hx, hb, hml, hown, hg, hrt, hlk, hK⟩ := id X
  refine lv_bipush (pc := 23) (v := -2) hx hb dX11_normal_23 (by decide) ?_
  exact r_iret (pc := 25) X hH h dX11_normal_25
def bX11_normal_0 (N d : Nat)   (w : Wd) (x1 : Int32) (x2 : Int32) : Option (Wd × Int32) :=
  c_pi w 0 0 fun w1 =>
  c_cl (eX11_isTerm N d w1 x1) fun w2 v3 =>
  if v3 = 0 then (
    bX11_normal_23 N d   w2 
  ) else (
    c_cl (eX11_in N d w2 (Int32.toInt64 x2) 0 1) fun w4 v5 =>
    if v5 = 0 then (
      bX11_normal_23 N d   w4 
    ) else (
      c_nm (sI w4 2) fun x3_6 =>
      c_pi w4 5 (-1) fun w7 =>
      c_cl (eX11_normalOf N d w7 x1 x2) fun w8 v9 =>
      if (sI w8 4) = 0 then (
        c_cv (eX11_keepUsed N d w8 ) fun w10 =>
        some (w10, v9)
      ) else (
        c_cl (eX11_refuse N d w8 x3_6) fun w11 v12 =>
        some (w11, v12)
      )
    )
  )
set_option maxHeartbeats 4000000 in
theorem kX11_normal_0 {V : Ev} {p : Program} {l : Launch} {e : Env} {N d : Nat} {s : State} {m : MethodId} {args : Array Value} {below : List Frame} {meth : Method} {c : Code} {z : Wd × Int32} (X : CX V p s m args meth c cX11_normal 5 RX11 (some .int))    {w : Wd} {x1 : Int32} {x2 : Int32} {H : Heap} {locs : List Loc} {ls : Array Slot} (h : bX11_normal_0 N d   w x1 x2 = some z) (hH : wH V (cM V) (AM V) s w H locs) (hl : lv_has ls 5 [(0, .ref (V.2.2 0)), (1, .int x1), (2, .int x2)]) : W p l e (rmD (d + 1)) s m args below meth c H locs 0 0 (MQ below (CtI V (cM V) (AM V) z) args s 0 0 (AM V)) (F0 m 0 ls []) := by
  unfold bX11_normal_0 at h
  obtain ⟨hx, hb, hml, hown, hg, hrt, hlk, hK⟩ := id X
  refine lv_aload_n (pc := 0) hx hb dX11_normal_0 rfl (lv_at hl 0 rfl) ?_
  refine lv_iconst (pc := 1) (v := 0) hx hb dX11_normal_1 (by decide) ?_
  refine pM_X11_111_0 (pc := 2) X hH h dX11_normal_2 (fun w1 H locs h hH => ?_)
  refine lv_aload_n (pc := 5) hx hb dX11_normal_5 rfl (lv_at hl 0 rfl) ?_
  refine lv_iload_n (pc := 6) hx hb dX11_normal_6 rfl (lv_at hl 1 rfl) ?_
  refine r_cvI (pc := 7) (As := [.int x1]) (rest := []) X hH (fun x hx => mX11_isTerm hx) cw_X11_206 (heM_0 V w1) rfl rfl rfl (Nat.le_of_ble_eq_true rfl) hl.1 h dX11_normal_7 (fun w2 v3 H locs h hH => ?_)
  refine b_if_eq (pc := 10) (tgt := 23) hx hb h dX11_normal_10 (by decide) (fun h => ?_) (fun h => ?_)
  · exact kX11_normal_23 X   h hH (lv_sub hl [] rfl)
  · refine lv_iload_n (pc := 13) hx hb dX11_normal_13 rfl (lv_at hl 2 rfl) ?_
    refine lv_i2l (pc := 14) hx hb dX11_normal_14 rfl ?_
    refine lv_lconst (pc := 15) (v := 0) hx hb dX11_normal_15 (by decide) ?_
    refine lv_lconst (pc := 16) (v := 1) hx hb dX11_normal_16 (by decide) ?_
    refine r_csI (pc := 17) (As := [.long (Int32.toInt64 x2), .long 0, .long 1]) (rest := []) X hH (fun x hx => mX11_in hx) cs_X11_132 rfl rfl (Nat.le_of_ble_eq_true rfl) hl.1 h dX11_normal_17 (fun w4 v5 H locs h hH => ?_)
    refine b_if_ne (pc := 20) (tgt := 26) hx hb h dX11_normal_20 (by decide) (fun h => ?_) (fun h => ?_)
    · refine lv_aload_n (pc := 26) hx hb dX11_normal_26 rfl (lv_at hl 0 rfl) ?_
      refine gM_X11_125_0 (pc := 27) X hH dX11_normal_27 ?_
      refine r_nmi h (fun x3_6 h => ?_)
      refine lv_istore_n (pc := 30) (lv' := [(3, .int x3_6), (0, .ref (V.2.2 0)), (1, .int x1), (2, .int x2)]) hx hb dX11_normal_30 rfl hl (by decide) rfl (fun ls hl => ?_)
      refine lv_aload_n (pc := 31) hx hb dX11_normal_31 rfl (lv_at hl 1 rfl) ?_
      refine lv_iconst (pc := 32) (v := -1) hx hb dX11_normal_32 (by decide) ?_
      refine pM_X11_161_0 (pc := 33) X hH h dX11_normal_33 (fun w7 H locs h hH => ?_)
      refine lv_aload_n (pc := 36) hx hb dX11_normal_36 rfl (lv_at hl 1 rfl) ?_
      refine lv_iload_n (pc := 37) hx hb dX11_normal_37 rfl (lv_at hl 2 rfl) ?_
      refine lv_iload_n (pc := 38) hx hb dX11_normal_38 rfl (lv_at hl 3 rfl) ?_
      refine r_cvI (pc := 39) (As := [.int x1, .int x2]) (rest := []) X hH (fun x hx => mX11_normalOf hx) cw_X11_215 (heM_0 V w7) rfl rfl rfl (Nat.le_of_ble_eq_true rfl) hl.1 h dX11_normal_39 (fun w8 v9 H locs h hH => ?_)
      refine lv_istore (pc := 42) (lv' := [(4, .int v9), (3, .int x3_6), (0, .ref (V.2.2 0)), (1, .int x1), (2, .int x2)]) hx hb dX11_normal_42 hl (by decide) rfl (fun ls hl => ?_)
      refine lv_aload_n (pc := 44) hx hb dX11_normal_44 rfl (lv_at hl 2 rfl) ?_
      refine gM_X11_121_0 (pc := 45) X hH dX11_normal_45 ?_
      refine b_if_eq (pc := 48) (tgt := 57) hx hb h dX11_normal_48 (by decide) (fun h => ?_) (fun h => ?_)
      · refine lv_aload_n (pc := 57) hx hb dX11_normal_57 rfl (lv_at hl 2 rfl) ?_
        refine r_cvV (pc := 58) (As := []) (rest := []) X hH (fun x hx => mX11_keepUsed hx) cw_X11_212 (heM_0 V w8) rfl rfl rfl (Nat.le_of_ble_eq_true rfl) hl.1 h dX11_normal_58 (fun w10 H locs h hH => ?_)
        refine lv_iload (pc := 61) hx hb dX11_normal_61 (lv_at hl 0 rfl) ?_
        exact r_iret (pc := 63) X hH h dX11_normal_63
      · refine lv_aload_n (pc := 51) hx hb dX11_normal_51 rfl (lv_at hl 2 rfl) ?_
        refine lv_iload_n (pc := 52) hx hb dX11_normal_52 rfl (lv_at hl 1 rfl) ?_
        refine r_cvI (pc := 53) (As := [.int x3_6]) (rest := []) X hH (fun x hx => mX11_refuse hx) cw_X11_209 (heM_0 V w8) rfl rfl rfl (Nat.le_of_ble_eq_true rfl) hl.1 h dX11_normal_53 (fun w11 v12 H locs h hH => ?_)
        exact r_iret (pc := 56) X hH h dX11_normal_56
    · exact kX11_normal_23 X   h hH (lv_sub hl [] rfl)
def eX11_normal (N : Nat) : Nat → Wd → Int32 → Int32 → Option (Wd × Int32)
  | 0 => fun _ _ _ => none
  | d + 1 => fun w x1 x2 => bX11_normal_0 N d  w x1 x2
set_option maxHeartbeats 4000000 in
set_option maxRecDepth 20000 in
theorem mX11_normal {l : Launch} {V : Ev} {N d : Nat} {w : Wd} {x1 : Int32} {x2 : Int32} {z : Wd × Int32} (h : eX11_normal N d w x1 x2 = some z) : MetI l V (cM V) (AM V) yX11_normal cX11_normal 5 (some .int) d [.ref (V.2.2 0), .int x1, .int x2] w z := by
  cases d with
  | zero => exact c_none h
  | succ d =>
    refine Met.ofW (cc := cX11_normal) (maxL := 5) (ret := (some .int)) (by decide) rfl ?_
    intro p e s m args below meth c s₁ B hml hv
    obtain ⟨rfl, hP, hD, hK⟩ := hv
    have hts := atoms_spec (ws := .code yX11_normal cX11_normal 5 (some .int) :: gG) B.pre
    have X : CX V p s m ([.ref (V.2.2 0), .int x1, .int x2] : List Value).toArray meth c cX11_normal 5 RX11 (some .int) := ⟨B.exec, B.bytes, hml, findClass_of_methodNamed B.named, fun w hw => hts w (List.mem_cons_of_mem _ hw), B.returns, B.notSynchronized, hK⟩
    have hl := lv_entry ([.ref (V.2.2 0), .int x1, .int x2] : List Value) (n := 5) (Nat.le_of_ble_eq_true rfl)
    rw [lg_entry_eq]
    generalize (lg_sl ([.ref (V.2.2 0), .int x1, .int x2] : List Value) ++ List.replicate (5 - (lg_sl ([.ref (V.2.2 0), .int x1, .int x2] : List Value)).length) Slot.unset).toArray = ls at hl ⊢
    have hl : lv_has ls 5 [(0, .ref (V.2.2 0)), (1, .int x1), (2, .int x2)] := hl
    exact kX11_normal_0 (N := N) X  h ⟨hP, hD, va_S.rf⟩ hl
theorem dX11_used_0 : decode cX11_used 0 = .ok (.aload_n 0, 1) := by decide +kernel
theorem dX11_used_1 : decode cX11_used 1 = .ok (.iconst 0, 1) := by decide +kernel
theorem dX11_used_2 : decode cX11_used 2 = .ok (.putfield 111, 3) := by decide +kernel
theorem dX11_used_5 : decode cX11_used 5 = .ok (.iload_n 2, 1) := by decide +kernel
theorem dX11_used_6 : decode cX11_used 6 = .ok (.i2l, 1) := by decide +kernel
theorem dX11_used_7 : decode cX11_used 7 = .ok (.lconst 0, 1) := by decide +kernel
theorem dX11_used_8 : decode cX11_used 8 = .ok (.lconst 1, 1) := by decide +kernel
theorem dX11_used_9 : decode cX11_used 9 = .ok (.invokestatic 132, 3) := by decide +kernel
theorem dX11_used_12 : decode cX11_used 12 = .ok (.ifCond .ne 7, 3) := by decide +kernel
theorem dX11_used_15 : decode cX11_used 15 = .ok (.ldc2_w 218, 3) := by decide +kernel
theorem dX11_used_18 : decode cX11_used 18 = .ok (.lreturn, 1) := by decide +kernel
theorem dX11_used_19 : decode cX11_used 19 = .ok (.iload_n 1, 1) := by decide +kernel
theorem dX11_used_20 : decode cX11_used 20 = .ok (.iconst (-1), 1) := by decide +kernel
theorem dX11_used_21 : decode cX11_used 21 = .ok (.if_icmp .ne 11, 3) := by decide +kernel
theorem dX11_used_24 : decode cX11_used 24 = .ok (.aload_n 0, 1) := by decide +kernel
theorem dX11_used_25 : decode cX11_used 25 = .ok (.getfield 203, 3) := by decide +kernel
theorem dX11_used_28 : decode cX11_used 28 = .ok (.i2l, 1) := by decide +kernel
theorem dX11_used_29 : decode cX11_used 29 = .ok (.goto 45, 3) := by decide +kernel
theorem dX11_used_32 : decode cX11_used 32 = .ok (.iload_n 1, 1) := by decide +kernel
theorem dX11_used_33 : decode cX11_used 33 = .ok (.i2l, 1) := by decide +kernel
theorem dX11_used_34 : decode cX11_used 34 = .ok (.lconst 0, 1) := by decide +kernel
theorem dX11_used_35 : decode cX11_used 35 = .ok (.aload_n 0, 1) := by decide +kernel
theorem dX11_used_36 : decode cX11_used 36 = .ok (.getfield 203, 3) := by decide +kernel
theorem dX11_used_39 : decode cX11_used 39 = .ok (.iconst 1, 1) := by decide +kernel
theorem dX11_used_40 : decode cX11_used 40 = .ok (.isub, 1) := by decide +kernel
theorem dX11_used_41 : decode cX11_used 41 = .ok (.i2l, 1) := by decide +kernel
theorem dX11_used_42 : decode cX11_used 42 = .ok (.invokestatic 132, 3) := by decide +kernel
theorem dX11_used_45 : decode cX11_used 45 = .ok (.ifCond .ne 9, 3) := by decide +kernel
theorem dX11_used_48 : decode cX11_used 48 = .ok (.ldc2_w 220, 3) := by decide +kernel
theorem dX11_used_51 : decode cX11_used 51 = .ok (.goto 23, 3) := by decide +kernel
theorem dX11_used_54 : decode cX11_used 54 = .ok (.iload_n 2, 1) := by decide +kernel
theorem dX11_used_55 : decode cX11_used 55 = .ok (.ifCond .ne 13, 3) := by decide +kernel
theorem dX11_used_58 : decode cX11_used 58 = .ok (.aload_n 0, 1) := by decide +kernel
theorem dX11_used_59 : decode cX11_used 59 = .ok (.getfield 54, 3) := by decide +kernel
theorem dX11_used_62 : decode cX11_used 62 = .ok (.iload_n 1, 1) := by decide +kernel
theorem dX11_used_63 : decode cX11_used 63 = .ok (.iaload, 1) := by decide +kernel
theorem dX11_used_64 : decode cX11_used 64 = .ok (.i2l, 1) := by decide +kernel
theorem dX11_used_65 : decode cX11_used 65 = .ok (.goto 9, 3) := by decide +kernel
theorem dX11_used_68 : decode cX11_used 68 = .ok (.aload_n 0, 1) := by decide +kernel
theorem dX11_used_69 : decode cX11_used 69 = .ok (.getfield 57, 3) := by decide +kernel
theorem dX11_used_72 : decode cX11_used 72 = .ok (.iload_n 1, 1) := by decide +kernel
theorem dX11_used_73 : decode cX11_used 73 = .ok (.laload, 1) := by decide +kernel
theorem dX11_used_74 : decode cX11_used 74 = .ok (.lreturn, 1) := by decide +kernel
def bX11_used_74 (N d : Nat)   (w : Wd) (y0 : Int64) : Option (Wd × Int64) :=
  some (w, y0)
set_option maxHeartbeats 4000000 in
theorem kX11_used_74 {V : Ev} {p : Program} {l : Launch} {e : Env} {N d : Nat} {s : State} {m : MethodId} {args : Array Value} {below : List Frame} {meth : Method} {c : Code} {z : Wd × Int64} (X : CX V p s m args meth c cX11_used 3 RX11 (some .long))    {w : Wd} {y0 : Int64} {H : Heap} {locs : List Loc} {ls : Array Slot} (h : bX11_used_74 N d   w y0 = some z) (hH : wH V (cM V) (AM V) s w H locs) (hl : lv_has ls 3 []) : W p l e (rmD (d + 1)) s m args below meth c H locs 0 0 (MQ below (CtL V (cM V) (AM V) z) args s 0 0 (AM V)) (F0 m 74 ls [.long y0]) := by
  unfold bX11_used_74 at h
  obtain ⟨hx, hb, hml, hown, hg, hrt, hlk, hK⟩ := id X
  exact r_lret (pc := 74) X hH h dX11_used_74
def bX11_used_0 (N d : Nat)   (w : Wd) (x1 : Int32) (x2 : Int32) : Option (Wd × Int64) :=
  c_pi w 0 0 fun w1 =>
  c_cl (eX11_in N d w1 (Int32.toInt64 x2) 0 1) fun w2 v3 =>
  if v3 = 0 then (
    some (w2, -2)
  ) else (
    if x1 = (-1) then (
      bX11_used_74 N d   w2 (Int32.toInt64 (sI w2 8))
    ) else (
      c_cl (eX11_in N d w2 (Int32.toInt64 x1) 0 (Int32.toInt64 ((sI w2 8) - 1))) fun w4 v5 =>
      if v5 = 0 then (
        bX11_used_74 N d   w4 (-1)
      ) else (
        if x2 = 0 then (
          c_ld w4 15 100 x1 fun v7 =>
          bX11_used_74 N d   w4 (Int32.toInt64 v7)
        ) else (
          c_ll w4 16 100 x1 fun v6 =>
          bX11_used_74 N d   w4 v6
        )
      )
    )
  )
set_option maxHeartbeats 4000000 in
theorem kX11_used_0 {V : Ev} {p : Program} {l : Launch} {e : Env} {N d : Nat} {s : State} {m : MethodId} {args : Array Value} {below : List Frame} {meth : Method} {c : Code} {z : Wd × Int64} (X : CX V p s m args meth c cX11_used 3 RX11 (some .long))    {w : Wd} {x1 : Int32} {x2 : Int32} {H : Heap} {locs : List Loc} {ls : Array Slot} (h : bX11_used_0 N d   w x1 x2 = some z) (hH : wH V (cM V) (AM V) s w H locs) (hl : lv_has ls 3 [(0, .ref (V.2.2 0)), (1, .int x1), (2, .int x2)]) : W p l e (rmD (d + 1)) s m args below meth c H locs 0 0 (MQ below (CtL V (cM V) (AM V) z) args s 0 0 (AM V)) (F0 m 0 ls []) := by
  unfold bX11_used_0 at h
  obtain ⟨hx, hb, hml, hown, hg, hrt, hlk, hK⟩ := id X
  refine lv_aload_n (pc := 0) hx hb dX11_used_0 rfl (lv_at hl 0 rfl) ?_
  refine lv_iconst (pc := 1) (v := 0) hx hb dX11_used_1 (by decide) ?_
  refine pM_X11_111_0 (pc := 2) X hH h dX11_used_2 (fun w1 H locs h hH => ?_)
  refine lv_iload_n (pc := 5) hx hb dX11_used_5 rfl (lv_at hl 2 rfl) ?_
  refine lv_i2l (pc := 6) hx hb dX11_used_6 rfl ?_
  refine lv_lconst (pc := 7) (v := 0) hx hb dX11_used_7 (by decide) ?_
  refine lv_lconst (pc := 8) (v := 1) hx hb dX11_used_8 (by decide) ?_
  refine r_csI (pc := 9) (As := [.long (Int32.toInt64 x2), .long 0, .long 1]) (rest := []) X hH (fun x hx => mX11_in hx) cs_X11_132 rfl rfl (Nat.le_of_ble_eq_true rfl) hl.1 h dX11_used_9 (fun w2 v3 H locs h hH => ?_)
  refine b_if_ne (pc := 12) (tgt := 19) hx hb h dX11_used_12 (by decide) (fun h => ?_) (fun h => ?_)
  · refine lv_iload_n (pc := 19) hx hb dX11_used_19 rfl (lv_at hl 1 rfl) ?_
    refine lv_iconst (pc := 20) (v := -1) hx hb dX11_used_20 (by decide) ?_
    refine b_icmp_ne (pc := 21) (tgt := 32) hx hb h dX11_used_21 (by decide) (fun h => ?_) (fun h => ?_)
    · refine lv_iload_n (pc := 32) hx hb dX11_used_32 rfl (lv_at hl 1 rfl) ?_
      refine lv_i2l (pc := 33) hx hb dX11_used_33 rfl ?_
      refine lv_lconst (pc := 34) (v := 0) hx hb dX11_used_34 (by decide) ?_
      refine lv_aload_n (pc := 35) hx hb dX11_used_35 rfl (lv_at hl 0 rfl) ?_
      refine gM_X11_203_0 (pc := 36) X hH dX11_used_36 ?_
      refine lv_iconst (pc := 39) (v := 1) hx hb dX11_used_39 (by decide) ?_
      refine lv_isub (pc := 40) hx hb dX11_used_40 ?_
      refine lv_i2l (pc := 41) hx hb dX11_used_41 rfl ?_
      refine r_csI (pc := 42) (As := [.long (Int32.toInt64 x1), .long 0, .long (Int32.toInt64 ((sI w2 8) - 1))]) (rest := []) X hH (fun x hx => mX11_in hx) cs_X11_132 rfl rfl (Nat.le_of_ble_eq_true rfl) hl.1 h dX11_used_42 (fun w4 v5 H locs h hH => ?_)
      refine b_if_ne (pc := 45) (tgt := 54) hx hb h dX11_used_45 (by decide) (fun h => ?_) (fun h => ?_)
      · refine lv_iload_n (pc := 54) hx hb dX11_used_54 rfl (lv_at hl 2 rfl) ?_
        refine b_if_ne (pc := 55) (tgt := 68) hx hb h dX11_used_55 (by decide) (fun h => ?_) (fun h => ?_)
        · refine lv_aload_n (pc := 68) hx hb dX11_used_68 rfl (lv_at hl 0 rfl) ?_
          refine gM_X11_57_0 (pc := 69) X hH dX11_used_69 ?_
          refine lv_iload_n (pc := 72) hx hb dX11_used_72 rfl (lv_at hl 1 rfl) ?_
          refine r_ll (pc := 73) X (heM_16 V w4) hH h dX11_used_73 (fun v6 h => ?_)
          exact kX11_used_74 X   h hH (lv_sub hl [] rfl)
        · refine lv_aload_n (pc := 58) hx hb dX11_used_58 rfl (lv_at hl 0 rfl) ?_
          refine gM_X11_54_0 (pc := 59) X hH dX11_used_59 ?_
          refine lv_iload_n (pc := 62) hx hb dX11_used_62 rfl (lv_at hl 1 rfl) ?_
          refine r_ld (pc := 63) X (heM_15 V w4) hH h dX11_used_63 (fun v7 h => ?_)
          refine lv_i2l (pc := 64) hx hb dX11_used_64 rfl ?_
          refine lv_goto (pc := 65) (tgt := 74) hx hb dX11_used_65 (by decide) ?_
          exact kX11_used_74 X   h hH (lv_sub hl [] rfl)
      · refine lv_ldc2 (pc := 48) hx hb hown (hg _ wL_1141) dX11_used_48 ?_
        refine lv_goto (pc := 51) (tgt := 74) hx hb dX11_used_51 (by decide) ?_
        exact kX11_used_74 X   h hH (lv_sub hl [] rfl)
    · refine lv_aload_n (pc := 24) hx hb dX11_used_24 rfl (lv_at hl 0 rfl) ?_
      refine gM_X11_203_0 (pc := 25) X hH dX11_used_25 ?_
      refine lv_i2l (pc := 28) hx hb dX11_used_28 rfl ?_
      refine lv_goto (pc := 29) (tgt := 74) hx hb dX11_used_29 (by decide) ?_
      exact kX11_used_74 X   h hH (lv_sub hl [] rfl)
  · refine lv_ldc2 (pc := 15) hx hb hown (hg _ wL_1140) dX11_used_15 ?_
    exact r_lret (pc := 18) X hH h dX11_used_18
def eX11_used (N : Nat) : Nat → Wd → Int32 → Int32 → Option (Wd × Int64)
  | 0 => fun _ _ _ => none
  | d + 1 => fun w x1 x2 => bX11_used_0 N d  w x1 x2
set_option maxHeartbeats 4000000 in
set_option maxRecDepth 20000 in
theorem mX11_used {l : Launch} {V : Ev} {N d : Nat} {w : Wd} {x1 : Int32} {x2 : Int32} {z : Wd × Int64} (h : eX11_used N d w x1 x2 = some z) : MetL l V (cM V) (AM V) yX11_used cX11_used 3 (some .long) d [.ref (V.2.2 0), .int x1, .int x2] w z := by
  cases d with
  | zero => exact c_none h
  | succ d =>
    refine Met.ofW (cc := cX11_used) (maxL := 3) (ret := (some .long)) (by decide) rfl ?_
    intro p e s m args below meth c s₁ B hml hv
    obtain ⟨rfl, hP, hD, hK⟩ := hv
    have hts := atoms_spec (ws := .code yX11_used cX11_used 3 (some .long) :: gG) B.pre
    have X : CX V p s m ([.ref (V.2.2 0), .int x1, .int x2] : List Value).toArray meth c cX11_used 3 RX11 (some .long) := ⟨B.exec, B.bytes, hml, findClass_of_methodNamed B.named, fun w hw => hts w (List.mem_cons_of_mem _ hw), B.returns, B.notSynchronized, hK⟩
    have hl := lv_entry ([.ref (V.2.2 0), .int x1, .int x2] : List Value) (n := 3) (Nat.le_of_ble_eq_true rfl)
    rw [lg_entry_eq]
    generalize (lg_sl ([.ref (V.2.2 0), .int x1, .int x2] : List Value) ++ List.replicate (3 - (lg_sl ([.ref (V.2.2 0), .int x1, .int x2] : List Value)).length) Slot.unset).toArray = ls at hl ⊢
    have hl : lv_has ls 3 [(0, .ref (V.2.2 0)), (1, .int x1), (2, .int x2)] := hl
    exact kX11_used_0 (N := N) X  h ⟨hP, hD, va_S.rf⟩ hl
theorem dX11_sign_0 : decode cX11_sign 0 = .ok (.aload_n 0, 1) := by decide +kernel
theorem dX11_sign_1 : decode cX11_sign 1 = .ok (.iconst 0, 1) := by decide +kernel
theorem dX11_sign_2 : decode cX11_sign 2 = .ok (.putfield 111, 3) := by decide +kernel
theorem dX11_sign_5 : decode cX11_sign 5 = .ok (.iload_n 1, 1) := by decide +kernel
theorem dX11_sign_6 : decode cX11_sign 6 = .ok (.i2l, 1) := by decide +kernel
theorem dX11_sign_7 : decode cX11_sign 7 = .ok (.lconst 0, 1) := by decide +kernel
theorem dX11_sign_8 : decode cX11_sign 8 = .ok (.ldc2_w 222, 3) := by decide +kernel
theorem dX11_sign_11 : decode cX11_sign 11 = .ok (.invokestatic 132, 3) := by decide +kernel
theorem dX11_sign_14 : decode cX11_sign 14 = .ok (.ifCond .eq 15, 3) := by decide +kernel
theorem dX11_sign_17 : decode cX11_sign 17 = .ok (.iload_n 2, 1) := by decide +kernel
theorem dX11_sign_18 : decode cX11_sign 18 = .ok (.i2l, 1) := by decide +kernel
theorem dX11_sign_19 : decode cX11_sign 19 = .ok (.lconst 1, 1) := by decide +kernel
theorem dX11_sign_20 : decode cX11_sign 20 = .ok (.ldc2_w 224, 3) := by decide +kernel
theorem dX11_sign_23 : decode cX11_sign 23 = .ok (.invokestatic 132, 3) := by decide +kernel
theorem dX11_sign_26 : decode cX11_sign 26 = .ok (.ifCond .ne 6, 3) := by decide +kernel
theorem dX11_sign_29 : decode cX11_sign 29 = .ok (.bipush (-2), 2) := by decide +kernel
theorem dX11_sign_31 : decode cX11_sign 31 = .ok (.ireturn, 1) := by decide +kernel
theorem dX11_sign_32 : decode cX11_sign 32 = .ok (.aload_n 0, 1) := by decide +kernel
theorem dX11_sign_33 : decode cX11_sign 33 = .ok (.getfield 226, 3) := by decide +kernel
theorem dX11_sign_36 : decode cX11_sign 36 = .ok (.bipush 10, 2) := by decide +kernel
theorem dX11_sign_38 : decode cX11_sign 38 = .ok (.if_icmp .ne 6, 3) := by decide +kernel
theorem dX11_sign_41 : decode cX11_sign 41 = .ok (.bipush (-4), 2) := by decide +kernel
theorem dX11_sign_43 : decode cX11_sign 43 = .ok (.ireturn, 1) := by decide +kernel
theorem dX11_sign_44 : decode cX11_sign 44 = .ok (.aload_n 0, 1) := by decide +kernel
theorem dX11_sign_45 : decode cX11_sign 45 = .ok (.getfield 7, 3) := by decide +kernel
theorem dX11_sign_48 : decode cX11_sign 48 = .ok (.aload_n 0, 1) := by decide +kernel
theorem dX11_sign_49 : decode cX11_sign 49 = .ok (.getfield 226, 3) := by decide +kernel
theorem dX11_sign_52 : decode cX11_sign 52 = .ok (.iload_n 1, 1) := by decide +kernel
theorem dX11_sign_53 : decode cX11_sign 53 = .ok (.iastore, 1) := by decide +kernel
theorem dX11_sign_54 : decode cX11_sign 54 = .ok (.aload_n 0, 1) := by decide +kernel
theorem dX11_sign_55 : decode cX11_sign 55 = .ok (.getfield 13, 3) := by decide +kernel
theorem dX11_sign_58 : decode cX11_sign 58 = .ok (.aload_n 0, 1) := by decide +kernel
theorem dX11_sign_59 : decode cX11_sign 59 = .ok (.getfield 226, 3) := by decide +kernel
theorem dX11_sign_62 : decode cX11_sign 62 = .ok (.iload_n 2, 1) := by decide +kernel
theorem dX11_sign_63 : decode cX11_sign 63 = .ok (.iastore, 1) := by decide +kernel
theorem dX11_sign_64 : decode cX11_sign 64 = .ok (.iconst 0, 1) := by decide +kernel
theorem dX11_sign_65 : decode cX11_sign 65 = .ok (.istore_n 3, 1) := by decide +kernel
theorem dX11_sign_66 : decode cX11_sign 66 = .ok (.iload_n 3, 1) := by decide +kernel
theorem dX11_sign_67 : decode cX11_sign 67 = .ok (.bipush 16, 2) := by decide +kernel
theorem dX11_sign_69 : decode cX11_sign 69 = .ok (.if_icmp .ge 24, 3) := by decide +kernel
theorem dX11_sign_72 : decode cX11_sign 72 = .ok (.aload_n 0, 1) := by decide +kernel
theorem dX11_sign_73 : decode cX11_sign 73 = .ok (.getfield 96, 3) := by decide +kernel
theorem dX11_sign_76 : decode cX11_sign 76 = .ok (.bipush 16, 2) := by decide +kernel
theorem dX11_sign_78 : decode cX11_sign 78 = .ok (.aload_n 0, 1) := by decide +kernel
theorem dX11_sign_79 : decode cX11_sign 79 = .ok (.getfield 226, 3) := by decide +kernel
theorem dX11_sign_82 : decode cX11_sign 82 = .ok (.imul, 1) := by decide +kernel
theorem dX11_sign_83 : decode cX11_sign 83 = .ok (.iload_n 3, 1) := by decide +kernel
theorem dX11_sign_84 : decode cX11_sign 84 = .ok (.iadd, 1) := by decide +kernel
theorem dX11_sign_85 : decode cX11_sign 85 = .ok (.iconst 0, 1) := by decide +kernel
theorem dX11_sign_86 : decode cX11_sign 86 = .ok (.iastore, 1) := by decide +kernel
theorem dX11_sign_87 : decode cX11_sign 87 = .ok (.iinc 3 1, 3) := by decide +kernel
theorem dX11_sign_90 : decode cX11_sign 90 = .ok (.goto (-24), 3) := by decide +kernel
theorem dX11_sign_93 : decode cX11_sign 93 = .ok (.aload_n 0, 1) := by decide +kernel
theorem dX11_sign_94 : decode cX11_sign 94 = .ok (.dup, 1) := by decide +kernel
theorem dX11_sign_95 : decode cX11_sign 95 = .ok (.getfield 226, 3) := by decide +kernel
theorem dX11_sign_98 : decode cX11_sign 98 = .ok (.iconst 1, 1) := by decide +kernel
theorem dX11_sign_99 : decode cX11_sign 99 = .ok (.iadd, 1) := by decide +kernel
theorem dX11_sign_100 : decode cX11_sign 100 = .ok (.putfield 226, 3) := by decide +kernel
theorem dX11_sign_103 : decode cX11_sign 103 = .ok (.aload_n 0, 1) := by decide +kernel
theorem dX11_sign_104 : decode cX11_sign 104 = .ok (.getfield 226, 3) := by decide +kernel
theorem dX11_sign_107 : decode cX11_sign 107 = .ok (.iconst 1, 1) := by decide +kernel
theorem dX11_sign_108 : decode cX11_sign 108 = .ok (.isub, 1) := by decide +kernel
theorem dX11_sign_109 : decode cX11_sign 109 = .ok (.ireturn, 1) := by decide +kernel
def bX11_sign_29 (N d : Nat)   (w : Wd)  : Option (Wd × Int32) :=
  some (w, -2)
set_option maxHeartbeats 4000000 in
theorem kX11_sign_29 {V : Ev} {p : Program} {l : Launch} {e : Env} {N d : Nat} {s : State} {m : MethodId} {args : Array Value} {below : List Frame} {meth : Method} {c : Code} {z : Wd × Int32} (X : CX V p s m args meth c cX11_sign 4 RX11 (some .int))    {w : Wd}  {H : Heap} {locs : List Loc} {ls : Array Slot} (h : bX11_sign_29 N d   w  = some z) (hH : wH V (cM V) (AM V) s w H locs) (hl : lv_has ls 4 []) : W p l e (rmD (d + 1)) s m args below meth c H locs 0 0 (MQ below (CtI V (cM V) (AM V) z) args s 0 0 (AM V)) (F0 m 29 ls []) := by
  unfold bX11_sign_29 at h
  obtain ⟨hx, hb, hml, hown, hg, hrt, hlk, hK⟩ := id X
  refine lv_bipush (pc := 29) (v := -2) hx hb dX11_sign_29 (by decide) ?_
  exact r_iret (pc := 31) X hH h dX11_sign_31
def bX11_sign_66 (N d : Nat)  (rec66 : Wd → Int32 → Option (Wd × Int32)) (w : Wd) (x3 : Int32) : Option (Wd × Int32) :=
  if 16 ≤ x3 then (
    c_pi w 1 ((sI w 1) + 1) fun w8 =>
    some (w8, (sI w8 1) - 1)
  ) else (
    c_st w 29 160 ((16 * (sI w 1)) + x3) 0 fun w9 =>
    c_nm (x3 + 1) fun x3_10 =>
    rec66 w9 x3_10
  )
set_option maxHeartbeats 4000000 in
theorem kX11_sign_66 {V : Ev} {p : Program} {l : Launch} {e : Env} {N d : Nat} {s : State} {m : MethodId} {args : Array Value} {below : List Frame} {meth : Method} {c : Code} {z : Wd × Int32} (X : CX V p s m args meth c cX11_sign 4 RX11 (some .int))   {rec66 : Wd → Int32 → Option (Wd × Int32)} (hr66 : ∀ (w : Wd) (x3 : Int32) (H : Heap) (locs : List Loc) (ls : Array Slot), rec66 w x3 = some z → wH V (cM V) (AM V) s w H locs → lv_has ls 4 [(0, .ref (V.2.2 0)), (3, .int x3)] → W p l e (rmD (d + 1)) s m args below meth c H locs 0 0 (MQ below (CtI V (cM V) (AM V) z) args s 0 0 (AM V)) (F0 m 66 ls [])) {w : Wd} {x3 : Int32} {H : Heap} {locs : List Loc} {ls : Array Slot} (h : bX11_sign_66 N d  rec66 w x3 = some z) (hH : wH V (cM V) (AM V) s w H locs) (hl : lv_has ls 4 [(0, .ref (V.2.2 0)), (3, .int x3)]) : W p l e (rmD (d + 1)) s m args below meth c H locs 0 0 (MQ below (CtI V (cM V) (AM V) z) args s 0 0 (AM V)) (F0 m 66 ls []) := by
  unfold bX11_sign_66 at h
  obtain ⟨hx, hb, hml, hown, hg, hrt, hlk, hK⟩ := id X
  refine lv_iload_n (pc := 66) hx hb dX11_sign_66 rfl (lv_at hl 1 rfl) ?_
  refine lv_bipush (pc := 67) (v := 16) hx hb dX11_sign_67 (by decide) ?_
  refine b_icmp_ge (pc := 69) (tgt := 93) hx hb h dX11_sign_69 (by decide) (fun h => ?_) (fun h => ?_)
  · refine lv_aload_n (pc := 93) hx hb dX11_sign_93 rfl (lv_at hl 0 rfl) ?_
    refine lv_dup (pc := 94) hx hb dX11_sign_94 rfl ?_
    refine gM_X11_226_0 (pc := 95) X hH dX11_sign_95 ?_
    refine lv_iconst (pc := 98) (v := 1) hx hb dX11_sign_98 (by decide) ?_
    refine lv_iadd (pc := 99) hx hb dX11_sign_99 ?_
    refine pM_X11_226_0 (pc := 100) X hH h dX11_sign_100 (fun w8 H locs h hH => ?_)
    refine lv_aload_n (pc := 103) hx hb dX11_sign_103 rfl (lv_at hl 0 rfl) ?_
    refine gM_X11_226_0 (pc := 104) X hH dX11_sign_104 ?_
    refine lv_iconst (pc := 107) (v := 1) hx hb dX11_sign_107 (by decide) ?_
    refine lv_isub (pc := 108) hx hb dX11_sign_108 ?_
    exact r_iret (pc := 109) X hH h dX11_sign_109
  · refine lv_aload_n (pc := 72) hx hb dX11_sign_72 rfl (lv_at hl 0 rfl) ?_
    refine gM_X11_96_0 (pc := 73) X hH dX11_sign_73 ?_
    refine lv_bipush (pc := 76) (v := 16) hx hb dX11_sign_76 (by decide) ?_
    refine lv_aload_n (pc := 78) hx hb dX11_sign_78 rfl (lv_at hl 0 rfl) ?_
    refine gM_X11_226_0 (pc := 79) X hH dX11_sign_79 ?_
    refine lv_imul (pc := 82) hx hb dX11_sign_82 ?_
    refine lv_iload_n (pc := 83) hx hb dX11_sign_83 rfl (lv_at hl 1 rfl) ?_
    refine lv_iadd (pc := 84) hx hb dX11_sign_84 ?_
    refine lv_iconst (pc := 85) (v := 0) hx hb dX11_sign_85 (by decide) ?_
    refine r_st (pc := 86) X (heM_29 V w) (hsM_29 V w) hH h dX11_sign_86 (fun w9 H locs h hH => ?_)
    obtain ⟨x3_10, ex3_10, h⟩ := c_nm_ex h
    refine lv_iinc (pc := 87) (v := x3_10) (lv' := [(3, .int x3_10), (0, .ref (V.2.2 0))]) hx hb dX11_sign_87 hl (k := 1) rfl (by rw [← ex3_10]; rfl) (by decide) rfl (fun ls hl => ?_)
    refine lv_goto (pc := 90) (tgt := 66) hx hb dX11_sign_90 (by decide) ?_
    exact hr66 _ _ _ _ _ h hH (lv_sub hl [1, 0] rfl)
def fX11_sign_66 (N d : Nat)   : Nat → Wd → Int32 → Option (Wd × Int32)
  | 0 => fun _ _ => none
  | n + 1 => fun w x3 => bX11_sign_66 N d   (fX11_sign_66 N d   n) w x3
theorem lX11_sign_66 {V : Ev} {p : Program} {l : Launch} {e : Env} {N d : Nat} {s : State} {m : MethodId} {args : Array Value} {below : List Frame} {meth : Method} {c : Code} {z : Wd × Int32} (X : CX V p s m args meth c cX11_sign 4 RX11 (some .int))    (n : Nat) {w : Wd} {x3 : Int32} {H : Heap} {locs : List Loc} {ls : Array Slot} (h : fX11_sign_66 N d   n w x3 = some z) (hH : wH V (cM V) (AM V) s w H locs) (hl : lv_has ls 4 [(0, .ref (V.2.2 0)), (3, .int x3)]) : W p l e (rmD (d + 1)) s m args below meth c H locs 0 0 (MQ below (CtI V (cM V) (AM V) z) args s 0 0 (AM V)) (F0 m 66 ls []) := by
  induction n generalizing w x3 H locs ls with
  | zero => exact c_none h
  | succ n ih => exact kX11_sign_66 (N := N) X  (fun _ _ _ _ _ h hH hl => ih h hH hl) h hH hl
def bX11_sign_0 (N d : Nat)   (w : Wd) (x1 : Int32) (x2 : Int32) : Option (Wd × Int32) :=
  c_pi w 0 0 fun w1 =>
  c_cl (eX11_in N d w1 (Int32.toInt64 x1) 0 2) fun w2 v3 =>
  if v3 = 0 then (
    bX11_sign_29 N d   w2 
  ) else (
    c_cl (eX11_in N d w2 (Int32.toInt64 x2) 1 9) fun w4 v5 =>
    if v5 = 0 then (
      bX11_sign_29 N d   w4 
    ) else (
      if (sI w4 1) = 10 then (
        some (w4, -4)
      ) else (
        c_st w4 1 10 (sI w4 1) x1 fun w6 =>
        c_st w6 2 10 (sI w6 1) x2 fun w7 =>
        fX11_sign_66 N d   N w7 ((0 : Int32))
      )
    )
  )
set_option maxHeartbeats 4000000 in
theorem kX11_sign_0 {V : Ev} {p : Program} {l : Launch} {e : Env} {N d : Nat} {s : State} {m : MethodId} {args : Array Value} {below : List Frame} {meth : Method} {c : Code} {z : Wd × Int32} (X : CX V p s m args meth c cX11_sign 4 RX11 (some .int))    {w : Wd} {x1 : Int32} {x2 : Int32} {H : Heap} {locs : List Loc} {ls : Array Slot} (h : bX11_sign_0 N d   w x1 x2 = some z) (hH : wH V (cM V) (AM V) s w H locs) (hl : lv_has ls 4 [(0, .ref (V.2.2 0)), (1, .int x1), (2, .int x2)]) : W p l e (rmD (d + 1)) s m args below meth c H locs 0 0 (MQ below (CtI V (cM V) (AM V) z) args s 0 0 (AM V)) (F0 m 0 ls []) := by
  unfold bX11_sign_0 at h
  obtain ⟨hx, hb, hml, hown, hg, hrt, hlk, hK⟩ := id X
  refine lv_aload_n (pc := 0) hx hb dX11_sign_0 rfl (lv_at hl 0 rfl) ?_
  refine lv_iconst (pc := 1) (v := 0) hx hb dX11_sign_1 (by decide) ?_
  refine pM_X11_111_0 (pc := 2) X hH h dX11_sign_2 (fun w1 H locs h hH => ?_)
  refine lv_iload_n (pc := 5) hx hb dX11_sign_5 rfl (lv_at hl 1 rfl) ?_
  refine lv_i2l (pc := 6) hx hb dX11_sign_6 rfl ?_
  refine lv_lconst (pc := 7) (v := 0) hx hb dX11_sign_7 (by decide) ?_
  refine lv_ldc2 (pc := 8) hx hb hown (hg _ wL_1146) dX11_sign_8 ?_
  refine r_csI (pc := 11) (As := [.long (Int32.toInt64 x1), .long 0, .long 2]) (rest := []) X hH (fun x hx => mX11_in hx) cs_X11_132 rfl rfl (Nat.le_of_ble_eq_true rfl) hl.1 h dX11_sign_11 (fun w2 v3 H locs h hH => ?_)
  refine b_if_eq (pc := 14) (tgt := 29) hx hb h dX11_sign_14 (by decide) (fun h => ?_) (fun h => ?_)
  · exact kX11_sign_29 X   h hH (lv_sub hl [] rfl)
  · refine lv_iload_n (pc := 17) hx hb dX11_sign_17 rfl (lv_at hl 2 rfl) ?_
    refine lv_i2l (pc := 18) hx hb dX11_sign_18 rfl ?_
    refine lv_lconst (pc := 19) (v := 1) hx hb dX11_sign_19 (by decide) ?_
    refine lv_ldc2 (pc := 20) hx hb hown (hg _ wL_1147) dX11_sign_20 ?_
    refine r_csI (pc := 23) (As := [.long (Int32.toInt64 x2), .long 1, .long 9]) (rest := []) X hH (fun x hx => mX11_in hx) cs_X11_132 rfl rfl (Nat.le_of_ble_eq_true rfl) hl.1 h dX11_sign_23 (fun w4 v5 H locs h hH => ?_)
    refine b_if_ne (pc := 26) (tgt := 32) hx hb h dX11_sign_26 (by decide) (fun h => ?_) (fun h => ?_)
    · refine lv_aload_n (pc := 32) hx hb dX11_sign_32 rfl (lv_at hl 0 rfl) ?_
      refine gM_X11_226_0 (pc := 33) X hH dX11_sign_33 ?_
      refine lv_bipush (pc := 36) (v := 10) hx hb dX11_sign_36 (by decide) ?_
      refine b_icmp_ne (pc := 38) (tgt := 44) hx hb h dX11_sign_38 (by decide) (fun h => ?_) (fun h => ?_)
      · refine lv_aload_n (pc := 44) hx hb dX11_sign_44 rfl (lv_at hl 0 rfl) ?_
        refine gM_X11_7_0 (pc := 45) X hH dX11_sign_45 ?_
        refine lv_aload_n (pc := 48) hx hb dX11_sign_48 rfl (lv_at hl 0 rfl) ?_
        refine gM_X11_226_0 (pc := 49) X hH dX11_sign_49 ?_
        refine lv_iload_n (pc := 52) hx hb dX11_sign_52 rfl (lv_at hl 1 rfl) ?_
        refine r_st (pc := 53) X (heM_1 V w4) (hsM_1 V w4) hH h dX11_sign_53 (fun w6 H locs h hH => ?_)
        refine lv_aload_n (pc := 54) hx hb dX11_sign_54 rfl (lv_at hl 0 rfl) ?_
        refine gM_X11_13_0 (pc := 55) X hH dX11_sign_55 ?_
        refine lv_aload_n (pc := 58) hx hb dX11_sign_58 rfl (lv_at hl 0 rfl) ?_
        refine gM_X11_226_0 (pc := 59) X hH dX11_sign_59 ?_
        refine lv_iload_n (pc := 62) hx hb dX11_sign_62 rfl (lv_at hl 2 rfl) ?_
        refine r_st (pc := 63) X (heM_2 V w6) (hsM_2 V w6) hH h dX11_sign_63 (fun w7 H locs h hH => ?_)
        refine lv_iconst (pc := 64) (v := 0) hx hb dX11_sign_64 (by decide) ?_
        refine lv_istore_n (pc := 65) (lv' := [(3, .int ((0 : Int32))), (0, .ref (V.2.2 0)), (1, .int x1), (2, .int x2)]) hx hb dX11_sign_65 rfl hl (by decide) rfl (fun ls hl => ?_)
        exact lX11_sign_66 X   N h hH (lv_sub hl [1, 0] rfl)
      · refine lv_bipush (pc := 41) (v := -4) hx hb dX11_sign_41 (by decide) ?_
        exact r_iret (pc := 43) X hH h dX11_sign_43
    · exact kX11_sign_29 X   h hH (lv_sub hl [] rfl)
def eX11_sign (N : Nat) : Nat → Wd → Int32 → Int32 → Option (Wd × Int32)
  | 0 => fun _ _ _ => none
  | d + 1 => fun w x1 x2 => bX11_sign_0 N d  w x1 x2
set_option maxHeartbeats 4000000 in
set_option maxRecDepth 20000 in
theorem mX11_sign {l : Launch} {V : Ev} {N d : Nat} {w : Wd} {x1 : Int32} {x2 : Int32} {z : Wd × Int32} (h : eX11_sign N d w x1 x2 = some z) : MetI l V (cM V) (AM V) yX11_sign cX11_sign 4 (some .int) d [.ref (V.2.2 0), .int x1, .int x2] w z := by
  cases d with
  | zero => exact c_none h
  | succ d =>
    refine Met.ofW (cc := cX11_sign) (maxL := 4) (ret := (some .int)) (by decide) rfl ?_
    intro p e s m args below meth c s₁ B hml hv
    obtain ⟨rfl, hP, hD, hK⟩ := hv
    have hts := atoms_spec (ws := .code yX11_sign cX11_sign 4 (some .int) :: gG) B.pre
    have X : CX V p s m ([.ref (V.2.2 0), .int x1, .int x2] : List Value).toArray meth c cX11_sign 4 RX11 (some .int) := ⟨B.exec, B.bytes, hml, findClass_of_methodNamed B.named, fun w hw => hts w (List.mem_cons_of_mem _ hw), B.returns, B.notSynchronized, hK⟩
    have hl := lv_entry ([.ref (V.2.2 0), .int x1, .int x2] : List Value) (n := 4) (Nat.le_of_ble_eq_true rfl)
    rw [lg_entry_eq]
    generalize (lg_sl ([.ref (V.2.2 0), .int x1, .int x2] : List Value) ++ List.replicate (4 - (lg_sl ([.ref (V.2.2 0), .int x1, .int x2] : List Value)).length) Slot.unset).toArray = ls at hl ⊢
    have hl : lv_has ls 4 [(0, .ref (V.2.2 0)), (1, .int x1), (2, .int x2)] := hl
    exact kX11_sign_0 (N := N) X  h ⟨hP, hD, va_S.rf⟩ hl
theorem dX11_made_0 : decode cX11_made 0 = .ok (.aload_n 0, 1) := by decide +kernel
theorem dX11_made_1 : decode cX11_made 1 = .ok (.iload_n 1, 1) := by decide +kernel
theorem dX11_made_2 : decode cX11_made 2 = .ok (.iload_n 2, 1) := by decide +kernel
theorem dX11_made_3 : decode cX11_made 3 = .ok (.iload_n 3, 1) := by decide +kernel
theorem dX11_made_4 : decode cX11_made 4 = .ok (.invokevirtual 154, 3) := by decide +kernel
theorem dX11_made_7 : decode cX11_made 7 = .ok (.istore 4, 2) := by decide +kernel
theorem dX11_made_9 : decode cX11_made 9 = .ok (.aload_n 0, 1) := by decide +kernel
theorem dX11_made_10 : decode cX11_made 10 = .ok (.getfield 121, 3) := by decide +kernel
theorem dX11_made_13 : decode cX11_made 13 = .ok (.ifCond .eq 14, 3) := by decide +kernel
theorem dX11_made_16 : decode cX11_made 16 = .ok (.aload_n 0, 1) := by decide +kernel
theorem dX11_made_17 : decode cX11_made 17 = .ok (.aload_n 0, 1) := by decide +kernel
theorem dX11_made_18 : decode cX11_made 18 = .ok (.getfield 125, 3) := by decide +kernel
theorem dX11_made_21 : decode cX11_made 21 = .ok (.invokevirtual 209, 3) := by decide +kernel
theorem dX11_made_24 : decode cX11_made 24 = .ok (.goto 5, 3) := by decide +kernel
theorem dX11_made_27 : decode cX11_made 27 = .ok (.iload 4, 2) := by decide +kernel
theorem dX11_made_29 : decode cX11_made 29 = .ok (.ireturn, 1) := by decide +kernel
def bX11_made_29 (N d : Nat)   (w : Wd) (y0 : Int32) : Option (Wd × Int32) :=
  some (w, y0)
set_option maxHeartbeats 4000000 in
theorem kX11_made_29 {V : Ev} {p : Program} {l : Launch} {e : Env} {N d : Nat} {s : State} {m : MethodId} {args : Array Value} {below : List Frame} {meth : Method} {c : Code} {z : Wd × Int32} (X : CX V p s m args meth c cX11_made 5 RX11 (some .int))    {w : Wd} {y0 : Int32} {H : Heap} {locs : List Loc} {ls : Array Slot} (h : bX11_made_29 N d   w y0 = some z) (hH : wH V (cM V) (AM V) s w H locs) (hl : lv_has ls 5 []) : W p l e (rmD (d + 1)) s m args below meth c H locs 0 0 (MQ below (CtI V (cM V) (AM V) z) args s 0 0 (AM V)) (F0 m 29 ls [.int y0]) := by
  unfold bX11_made_29 at h
  obtain ⟨hx, hb, hml, hown, hg, hrt, hlk, hK⟩ := id X
  exact r_iret (pc := 29) X hH h dX11_made_29
def bX11_made_0 (N d : Nat)   (w : Wd) (x1 : Int32) (x2 : Int32) (x3 : Int32) : Option (Wd × Int32) :=
  c_cl (eX11_make N d w x1 x2 x3) fun w1 v2 =>
  if (sI w1 4) = 0 then (
    bX11_made_29 N d   w1 v2
  ) else (
    c_cl (eX11_refuse N d w1 (sI w1 2)) fun w3 v4 =>
    bX11_made_29 N d   w3 v4
  )
set_option maxHeartbeats 4000000 in
theorem kX11_made_0 {V : Ev} {p : Program} {l : Launch} {e : Env} {N d : Nat} {s : State} {m : MethodId} {args : Array Value} {below : List Frame} {meth : Method} {c : Code} {z : Wd × Int32} (X : CX V p s m args meth c cX11_made 5 RX11 (some .int))    {w : Wd} {x1 : Int32} {x2 : Int32} {x3 : Int32} {H : Heap} {locs : List Loc} {ls : Array Slot} (h : bX11_made_0 N d   w x1 x2 x3 = some z) (hH : wH V (cM V) (AM V) s w H locs) (hl : lv_has ls 5 [(0, .ref (V.2.2 0)), (1, .int x1), (2, .int x2), (3, .int x3)]) : W p l e (rmD (d + 1)) s m args below meth c H locs 0 0 (MQ below (CtI V (cM V) (AM V) z) args s 0 0 (AM V)) (F0 m 0 ls []) := by
  unfold bX11_made_0 at h
  obtain ⟨hx, hb, hml, hown, hg, hrt, hlk, hK⟩ := id X
  refine lv_aload_n (pc := 0) hx hb dX11_made_0 rfl (lv_at hl 0 rfl) ?_
  refine lv_iload_n (pc := 1) hx hb dX11_made_1 rfl (lv_at hl 1 rfl) ?_
  refine lv_iload_n (pc := 2) hx hb dX11_made_2 rfl (lv_at hl 2 rfl) ?_
  refine lv_iload_n (pc := 3) hx hb dX11_made_3 rfl (lv_at hl 3 rfl) ?_
  refine r_cvI (pc := 4) (As := [.int x1, .int x2, .int x3]) (rest := []) X hH (fun x hx => mX11_make hx) cw_X11_154 (heM_0 V w) rfl rfl rfl (Nat.le_of_ble_eq_true rfl) hl.1 h dX11_made_4 (fun w1 v2 H locs h hH => ?_)
  refine lv_istore (pc := 7) (lv' := [(4, .int v2), (0, .ref (V.2.2 0)), (1, .int x1), (2, .int x2), (3, .int x3)]) hx hb dX11_made_7 hl (by decide) rfl (fun ls hl => ?_)
  refine lv_aload_n (pc := 9) hx hb dX11_made_9 rfl (lv_at hl 1 rfl) ?_
  refine gM_X11_121_0 (pc := 10) X hH dX11_made_10 ?_
  refine b_if_eq (pc := 13) (tgt := 27) hx hb h dX11_made_13 (by decide) (fun h => ?_) (fun h => ?_)
  · refine lv_iload (pc := 27) hx hb dX11_made_27 (lv_at hl 0 rfl) ?_
    exact kX11_made_29 X   h hH (lv_sub hl [] rfl)
  · refine lv_aload_n (pc := 16) hx hb dX11_made_16 rfl (lv_at hl 1 rfl) ?_
    refine lv_aload_n (pc := 17) hx hb dX11_made_17 rfl (lv_at hl 1 rfl) ?_
    refine gM_X11_125_0 (pc := 18) X hH dX11_made_18 ?_
    refine r_cvI (pc := 21) (As := [.int (sI w1 2)]) (rest := []) X hH (fun x hx => mX11_refuse hx) cw_X11_209 (heM_0 V w1) rfl rfl rfl (Nat.le_of_ble_eq_true rfl) hl.1 h dX11_made_21 (fun w3 v4 H locs h hH => ?_)
    refine lv_goto (pc := 24) (tgt := 29) hx hb dX11_made_24 (by decide) ?_
    exact kX11_made_29 X   h hH (lv_sub hl [] rfl)
def eX11_made (N : Nat) : Nat → Wd → Int32 → Int32 → Int32 → Option (Wd × Int32)
  | 0 => fun _ _ _ _ => none
  | d + 1 => fun w x1 x2 x3 => bX11_made_0 N d  w x1 x2 x3
set_option maxHeartbeats 4000000 in
set_option maxRecDepth 20000 in
theorem mX11_made {l : Launch} {V : Ev} {N d : Nat} {w : Wd} {x1 : Int32} {x2 : Int32} {x3 : Int32} {z : Wd × Int32} (h : eX11_made N d w x1 x2 x3 = some z) : MetI l V (cM V) (AM V) yX11_made cX11_made 5 (some .int) d [.ref (V.2.2 0), .int x1, .int x2, .int x3] w z := by
  cases d with
  | zero => exact c_none h
  | succ d =>
    refine Met.ofW (cc := cX11_made) (maxL := 5) (ret := (some .int)) (by decide) rfl ?_
    intro p e s m args below meth c s₁ B hml hv
    obtain ⟨rfl, hP, hD, hK⟩ := hv
    have hts := atoms_spec (ws := .code yX11_made cX11_made 5 (some .int) :: gG) B.pre
    have X : CX V p s m ([.ref (V.2.2 0), .int x1, .int x2, .int x3] : List Value).toArray meth c cX11_made 5 RX11 (some .int) := ⟨B.exec, B.bytes, hml, findClass_of_methodNamed B.named, fun w hw => hts w (List.mem_cons_of_mem _ hw), B.returns, B.notSynchronized, hK⟩
    have hl := lv_entry ([.ref (V.2.2 0), .int x1, .int x2, .int x3] : List Value) (n := 5) (Nat.le_of_ble_eq_true rfl)
    rw [lg_entry_eq]
    generalize (lg_sl ([.ref (V.2.2 0), .int x1, .int x2, .int x3] : List Value) ++ List.replicate (5 - (lg_sl ([.ref (V.2.2 0), .int x1, .int x2, .int x3] : List Value)).length) Slot.unset).toArray = ls at hl ⊢
    have hl : lv_has ls 5 [(0, .ref (V.2.2 0)), (1, .int x1), (2, .int x2), (3, .int x3)] := hl
    exact kX11_made_0 (N := N) X  h ⟨hP, hD, va_S.rf⟩ hl
theorem dX11_variable_0 : decode cX11_variable 0 = .ok (.aload_n 0, 1) := by decide +kernel
theorem dX11_variable_1 : decode cX11_variable 1 = .ok (.iconst 0, 1) := by decide +kernel
theorem dX11_variable_2 : decode cX11_variable 2 = .ok (.putfield 111, 3) := by decide +kernel
theorem dX11_variable_5 : decode cX11_variable 5 = .ok (.iload_n 1, 1) := by decide +kernel
theorem dX11_variable_6 : decode cX11_variable 6 = .ok (.i2l, 1) := by decide +kernel
theorem dX11_variable_7 : decode cX11_variable 7 = .ok (.lconst 0, 1) := by decide +kernel
theorem dX11_variable_8 : decode cX11_variable 8 = .ok (.ldc2_w 229, 3) := by decide +kernel
theorem dX11_variable_11 : decode cX11_variable 11 = .ok (.invokestatic 132, 3) := by decide +kernel
theorem dX11_variable_14 : decode cX11_variable 14 = .ok (.ifCond .eq 15, 3) := by decide +kernel
theorem dX11_variable_17 : decode cX11_variable 17 = .ok (.aload_n 0, 1) := by decide +kernel
theorem dX11_variable_18 : decode cX11_variable 18 = .ok (.iconst (-1), 1) := by decide +kernel
theorem dX11_variable_19 : decode cX11_variable 19 = .ok (.iload_n 1, 1) := by decide +kernel
theorem dX11_variable_20 : decode cX11_variable 20 = .ok (.isub, 1) := by decide +kernel
theorem dX11_variable_21 : decode cX11_variable 21 = .ok (.iconst (-1), 1) := by decide +kernel
theorem dX11_variable_22 : decode cX11_variable 22 = .ok (.iconst (-1), 1) := by decide +kernel
theorem dX11_variable_23 : decode cX11_variable 23 = .ok (.invokevirtual 231, 3) := by decide +kernel
theorem dX11_variable_26 : decode cX11_variable 26 = .ok (.goto 5, 3) := by decide +kernel
theorem dX11_variable_29 : decode cX11_variable 29 = .ok (.bipush (-2), 2) := by decide +kernel
theorem dX11_variable_31 : decode cX11_variable 31 = .ok (.ireturn, 1) := by decide +kernel
def bX11_variable_31 (N d : Nat)   (w : Wd) (y0 : Int32) : Option (Wd × Int32) :=
  some (w, y0)
set_option maxHeartbeats 4000000 in
theorem kX11_variable_31 {V : Ev} {p : Program} {l : Launch} {e : Env} {N d : Nat} {s : State} {m : MethodId} {args : Array Value} {below : List Frame} {meth : Method} {c : Code} {z : Wd × Int32} (X : CX V p s m args meth c cX11_variable 2 RX11 (some .int))    {w : Wd} {y0 : Int32} {H : Heap} {locs : List Loc} {ls : Array Slot} (h : bX11_variable_31 N d   w y0 = some z) (hH : wH V (cM V) (AM V) s w H locs) (hl : lv_has ls 2 []) : W p l e (rmD (d + 1)) s m args below meth c H locs 0 0 (MQ below (CtI V (cM V) (AM V) z) args s 0 0 (AM V)) (F0 m 31 ls [.int y0]) := by
  unfold bX11_variable_31 at h
  obtain ⟨hx, hb, hml, hown, hg, hrt, hlk, hK⟩ := id X
  exact r_iret (pc := 31) X hH h dX11_variable_31
def bX11_variable_0 (N d : Nat)   (w : Wd) (x1 : Int32) : Option (Wd × Int32) :=
  c_pi w 0 0 fun w1 =>
  c_cl (eX11_in N d w1 (Int32.toInt64 x1) 0 7) fun w2 v3 =>
  if v3 = 0 then (
    bX11_variable_31 N d   w2 (-2)
  ) else (
    c_cl (eX11_made N d w2 ((-1) - x1) (-1) (-1)) fun w4 v5 =>
    bX11_variable_31 N d   w4 v5
  )
set_option maxHeartbeats 4000000 in
theorem kX11_variable_0 {V : Ev} {p : Program} {l : Launch} {e : Env} {N d : Nat} {s : State} {m : MethodId} {args : Array Value} {below : List Frame} {meth : Method} {c : Code} {z : Wd × Int32} (X : CX V p s m args meth c cX11_variable 2 RX11 (some .int))    {w : Wd} {x1 : Int32} {H : Heap} {locs : List Loc} {ls : Array Slot} (h : bX11_variable_0 N d   w x1 = some z) (hH : wH V (cM V) (AM V) s w H locs) (hl : lv_has ls 2 [(0, .ref (V.2.2 0)), (1, .int x1)]) : W p l e (rmD (d + 1)) s m args below meth c H locs 0 0 (MQ below (CtI V (cM V) (AM V) z) args s 0 0 (AM V)) (F0 m 0 ls []) := by
  unfold bX11_variable_0 at h
  obtain ⟨hx, hb, hml, hown, hg, hrt, hlk, hK⟩ := id X
  refine lv_aload_n (pc := 0) hx hb dX11_variable_0 rfl (lv_at hl 0 rfl) ?_
  refine lv_iconst (pc := 1) (v := 0) hx hb dX11_variable_1 (by decide) ?_
  refine pM_X11_111_0 (pc := 2) X hH h dX11_variable_2 (fun w1 H locs h hH => ?_)
  refine lv_iload_n (pc := 5) hx hb dX11_variable_5 rfl (lv_at hl 1 rfl) ?_
  refine lv_i2l (pc := 6) hx hb dX11_variable_6 rfl ?_
  refine lv_lconst (pc := 7) (v := 0) hx hb dX11_variable_7 (by decide) ?_
  refine lv_ldc2 (pc := 8) hx hb hown (hg _ wL_1152) dX11_variable_8 ?_
  refine r_csI (pc := 11) (As := [.long (Int32.toInt64 x1), .long 0, .long 7]) (rest := []) X hH (fun x hx => mX11_in hx) cs_X11_132 rfl rfl (Nat.le_of_ble_eq_true rfl) hl.1 h dX11_variable_11 (fun w2 v3 H locs h hH => ?_)
  refine b_if_eq (pc := 14) (tgt := 29) hx hb h dX11_variable_14 (by decide) (fun h => ?_) (fun h => ?_)
  · refine lv_bipush (pc := 29) (v := -2) hx hb dX11_variable_29 (by decide) ?_
    exact kX11_variable_31 X   h hH (lv_sub hl [] rfl)
  · refine lv_aload_n (pc := 17) hx hb dX11_variable_17 rfl (lv_at hl 0 rfl) ?_
    refine lv_iconst (pc := 18) (v := -1) hx hb dX11_variable_18 (by decide) ?_
    refine lv_iload_n (pc := 19) hx hb dX11_variable_19 rfl (lv_at hl 1 rfl) ?_
    refine lv_isub (pc := 20) hx hb dX11_variable_20 ?_
    refine lv_iconst (pc := 21) (v := -1) hx hb dX11_variable_21 (by decide) ?_
    refine lv_iconst (pc := 22) (v := -1) hx hb dX11_variable_22 (by decide) ?_
    refine r_cvI (pc := 23) (As := [.int ((-1) - x1), .int (-1), .int (-1)]) (rest := []) X hH (fun x hx => mX11_made hx) cw_X11_231 (heM_0 V w2) rfl rfl rfl (Nat.le_of_ble_eq_true rfl) hl.1 h dX11_variable_23 (fun w4 v5 H locs h hH => ?_)
    refine lv_goto (pc := 26) (tgt := 31) hx hb dX11_variable_26 (by decide) ?_
    exact kX11_variable_31 X   h hH (lv_sub hl [] rfl)
def eX11_variable (N : Nat) : Nat → Wd → Int32 → Option (Wd × Int32)
  | 0 => fun _ _ => none
  | d + 1 => fun w x1 => bX11_variable_0 N d  w x1
set_option maxHeartbeats 4000000 in
set_option maxRecDepth 20000 in
theorem mX11_variable {l : Launch} {V : Ev} {N d : Nat} {w : Wd} {x1 : Int32} {z : Wd × Int32} (h : eX11_variable N d w x1 = some z) : MetI l V (cM V) (AM V) yX11_variable cX11_variable 2 (some .int) d [.ref (V.2.2 0), .int x1] w z := by
  cases d with
  | zero => exact c_none h
  | succ d =>
    refine Met.ofW (cc := cX11_variable) (maxL := 2) (ret := (some .int)) (by decide) rfl ?_
    intro p e s m args below meth c s₁ B hml hv
    obtain ⟨rfl, hP, hD, hK⟩ := hv
    have hts := atoms_spec (ws := .code yX11_variable cX11_variable 2 (some .int) :: gG) B.pre
    have X : CX V p s m ([.ref (V.2.2 0), .int x1] : List Value).toArray meth c cX11_variable 2 RX11 (some .int) := ⟨B.exec, B.bytes, hml, findClass_of_methodNamed B.named, fun w hw => hts w (List.mem_cons_of_mem _ hw), B.returns, B.notSynchronized, hK⟩
    have hl := lv_entry ([.ref (V.2.2 0), .int x1] : List Value) (n := 2) (Nat.le_of_ble_eq_true rfl)
    rw [lg_entry_eq]
    generalize (lg_sl ([.ref (V.2.2 0), .int x1] : List Value) ++ List.replicate (2 - (lg_sl ([.ref (V.2.2 0), .int x1] : List Value)).length) Slot.unset).toArray = ls at hl ⊢
    have hl : lv_has ls 2 [(0, .ref (V.2.2 0)), (1, .int x1)] := hl
    exact kX11_variable_0 (N := N) X  h ⟨hP, hD, va_S.rf⟩ hl
theorem dX11_term_0 : decode cX11_term 0 = .ok (.aload_n 0, 1) := by decide +kernel
theorem dX11_term_1 : decode cX11_term 1 = .ok (.iconst 0, 1) := by decide +kernel
theorem dX11_term_2 : decode cX11_term 2 = .ok (.putfield 111, 3) := by decide +kernel
theorem dX11_term_5 : decode cX11_term 5 = .ok (.iload_n 1, 1) := by decide +kernel
theorem dX11_term_6 : decode cX11_term 6 = .ok (.i2l, 1) := by decide +kernel
theorem dX11_term_7 : decode cX11_term 7 = .ok (.lconst 0, 1) := by decide +kernel
theorem dX11_term_8 : decode cX11_term 8 = .ok (.aload_n 0, 1) := by decide +kernel
theorem dX11_term_9 : decode cX11_term 9 = .ok (.getfield 226, 3) := by decide +kernel
theorem dX11_term_12 : decode cX11_term 12 = .ok (.iconst 1, 1) := by decide +kernel
theorem dX11_term_13 : decode cX11_term 13 = .ok (.isub, 1) := by decide +kernel
theorem dX11_term_14 : decode cX11_term 14 = .ok (.i2l, 1) := by decide +kernel
theorem dX11_term_15 : decode cX11_term 15 = .ok (.invokestatic 132, 3) := by decide +kernel
theorem dX11_term_18 : decode cX11_term 18 = .ok (.ifCond .eq 38, 3) := by decide +kernel
theorem dX11_term_21 : decode cX11_term 21 = .ok (.aload_n 0, 1) := by decide +kernel
theorem dX11_term_22 : decode cX11_term 22 = .ok (.getfield 7, 3) := by decide +kernel
theorem dX11_term_25 : decode cX11_term 25 = .ok (.iload_n 1, 1) := by decide +kernel
theorem dX11_term_26 : decode cX11_term 26 = .ok (.iaload, 1) := by decide +kernel
theorem dX11_term_27 : decode cX11_term 27 = .ok (.ifCond .le 11, 3) := by decide +kernel
theorem dX11_term_30 : decode cX11_term 30 = .ok (.aload_n 0, 1) := by decide +kernel
theorem dX11_term_31 : decode cX11_term 31 = .ok (.iload_n 2, 1) := by decide +kernel
theorem dX11_term_32 : decode cX11_term 32 = .ok (.invokevirtual 206, 3) := by decide +kernel
theorem dX11_term_35 : decode cX11_term 35 = .ok (.ifCond .eq 21, 3) := by decide +kernel
theorem dX11_term_38 : decode cX11_term 38 = .ok (.aload_n 0, 1) := by decide +kernel
theorem dX11_term_39 : decode cX11_term 39 = .ok (.getfield 7, 3) := by decide +kernel
theorem dX11_term_42 : decode cX11_term 42 = .ok (.iload_n 1, 1) := by decide +kernel
theorem dX11_term_43 : decode cX11_term 43 = .ok (.iaload, 1) := by decide +kernel
theorem dX11_term_44 : decode cX11_term 44 = .ok (.iconst 1, 1) := by decide +kernel
theorem dX11_term_45 : decode cX11_term 45 = .ok (.if_icmp .le 14, 3) := by decide +kernel
theorem dX11_term_48 : decode cX11_term 48 = .ok (.aload_n 0, 1) := by decide +kernel
theorem dX11_term_49 : decode cX11_term 49 = .ok (.iload_n 3, 1) := by decide +kernel
theorem dX11_term_50 : decode cX11_term 50 = .ok (.invokevirtual 206, 3) := by decide +kernel
theorem dX11_term_53 : decode cX11_term 53 = .ok (.ifCond .ne 6, 3) := by decide +kernel
theorem dX11_term_56 : decode cX11_term 56 = .ok (.bipush (-2), 2) := by decide +kernel
theorem dX11_term_58 : decode cX11_term 58 = .ok (.ireturn, 1) := by decide +kernel
theorem dX11_term_59 : decode cX11_term 59 = .ok (.aload_n 0, 1) := by decide +kernel
theorem dX11_term_60 : decode cX11_term 60 = .ok (.iload_n 1, 1) := by decide +kernel
theorem dX11_term_61 : decode cX11_term 61 = .ok (.iload_n 2, 1) := by decide +kernel
theorem dX11_term_62 : decode cX11_term 62 = .ok (.iload_n 3, 1) := by decide +kernel
theorem dX11_term_63 : decode cX11_term 63 = .ok (.invokevirtual 231, 3) := by decide +kernel
theorem dX11_term_66 : decode cX11_term 66 = .ok (.ireturn, 1) := by decide +kernel
def bX11_term_56 (N d : Nat)   (w : Wd)  : Option (Wd × Int32) :=
  some (w, -2)
set_option maxHeartbeats 4000000 in
theorem kX11_term_56 {V : Ev} {p : Program} {l : Launch} {e : Env} {N d : Nat} {s : State} {m : MethodId} {args : Array Value} {below : List Frame} {meth : Method} {c : Code} {z : Wd × Int32} (X : CX V p s m args meth c cX11_term 4 RX11 (some .int))    {w : Wd}  {H : Heap} {locs : List Loc} {ls : Array Slot} (h : bX11_term_56 N d   w  = some z) (hH : wH V (cM V) (AM V) s w H locs) (hl : lv_has ls 4 []) : W p l e (rmD (d + 1)) s m args below meth c H locs 0 0 (MQ below (CtI V (cM V) (AM V) z) args s 0 0 (AM V)) (F0 m 56 ls []) := by
  unfold bX11_term_56 at h
  obtain ⟨hx, hb, hml, hown, hg, hrt, hlk, hK⟩ := id X
  refine lv_bipush (pc := 56) (v := -2) hx hb dX11_term_56 (by decide) ?_
  exact r_iret (pc := 58) X hH h dX11_term_58
def bX11_term_59 (N d : Nat)   (w : Wd) (x1 : Int32) (x2 : Int32) (x3 : Int32) : Option (Wd × Int32) :=
  c_cl (eX11_made N d w x1 x2 x3) fun w6 v7 =>
  some (w6, v7)
set_option maxHeartbeats 4000000 in
theorem kX11_term_59 {V : Ev} {p : Program} {l : Launch} {e : Env} {N d : Nat} {s : State} {m : MethodId} {args : Array Value} {below : List Frame} {meth : Method} {c : Code} {z : Wd × Int32} (X : CX V p s m args meth c cX11_term 4 RX11 (some .int))    {w : Wd} {x1 : Int32} {x2 : Int32} {x3 : Int32} {H : Heap} {locs : List Loc} {ls : Array Slot} (h : bX11_term_59 N d   w x1 x2 x3 = some z) (hH : wH V (cM V) (AM V) s w H locs) (hl : lv_has ls 4 [(0, .ref (V.2.2 0)), (1, .int x1), (2, .int x2), (3, .int x3)]) : W p l e (rmD (d + 1)) s m args below meth c H locs 0 0 (MQ below (CtI V (cM V) (AM V) z) args s 0 0 (AM V)) (F0 m 59 ls []) := by
  unfold bX11_term_59 at h
  obtain ⟨hx, hb, hml, hown, hg, hrt, hlk, hK⟩ := id X
  refine lv_aload_n (pc := 59) hx hb dX11_term_59 rfl (lv_at hl 0 rfl) ?_
  refine lv_iload_n (pc := 60) hx hb dX11_term_60 rfl (lv_at hl 1 rfl) ?_
  refine lv_iload_n (pc := 61) hx hb dX11_term_61 rfl (lv_at hl 2 rfl) ?_
  refine lv_iload_n (pc := 62) hx hb dX11_term_62 rfl (lv_at hl 3 rfl) ?_
  refine r_cvI (pc := 63) (As := [.int x1, .int x2, .int x3]) (rest := []) X hH (fun x hx => mX11_made hx) cw_X11_231 (heM_0 V w) rfl rfl rfl (Nat.le_of_ble_eq_true rfl) hl.1 h dX11_term_63 (fun w6 v7 H locs h hH => ?_)
  exact r_iret (pc := 66) X hH h dX11_term_66
def bX11_term_38 (N d : Nat)   (w : Wd) (x1 : Int32) (x2 : Int32) (x3 : Int32) : Option (Wd × Int32) :=
  c_ld w 1 10 x1 fun v5 =>
  if v5 ≤ 1 then (
    bX11_term_59 N d   w x1 x2 x3
  ) else (
    c_cl (eX11_isTerm N d w x3) fun w8 v9 =>
    if v9 = 0 then (
      bX11_term_56 N d   w8 
    ) else (
      bX11_term_59 N d   w8 x1 x2 x3
    )
  )
set_option maxHeartbeats 4000000 in
theorem kX11_term_38 {V : Ev} {p : Program} {l : Launch} {e : Env} {N d : Nat} {s : State} {m : MethodId} {args : Array Value} {below : List Frame} {meth : Method} {c : Code} {z : Wd × Int32} (X : CX V p s m args meth c cX11_term 4 RX11 (some .int))    {w : Wd} {x1 : Int32} {x2 : Int32} {x3 : Int32} {H : Heap} {locs : List Loc} {ls : Array Slot} (h : bX11_term_38 N d   w x1 x2 x3 = some z) (hH : wH V (cM V) (AM V) s w H locs) (hl : lv_has ls 4 [(0, .ref (V.2.2 0)), (1, .int x1), (2, .int x2), (3, .int x3)]) : W p l e (rmD (d + 1)) s m args below meth c H locs 0 0 (MQ below (CtI V (cM V) (AM V) z) args s 0 0 (AM V)) (F0 m 38 ls []) := by
  unfold bX11_term_38 at h
  obtain ⟨hx, hb, hml, hown, hg, hrt, hlk, hK⟩ := id X
  refine lv_aload_n (pc := 38) hx hb dX11_term_38 rfl (lv_at hl 0 rfl) ?_
  refine gM_X11_7_0 (pc := 39) X hH dX11_term_39 ?_
  refine lv_iload_n (pc := 42) hx hb dX11_term_42 rfl (lv_at hl 1 rfl) ?_
  refine r_ld (pc := 43) X (heM_1 V w) hH h dX11_term_43 (fun v5 h => ?_)
  refine lv_iconst (pc := 44) (v := 1) hx hb dX11_term_44 (by decide) ?_
  refine b_icmp_le (pc := 45) (tgt := 59) hx hb h dX11_term_45 (by decide) (fun h => ?_) (fun h => ?_)
  · exact kX11_term_59 X   h hH (lv_sub hl [0, 1, 2, 3] rfl)
  · refine lv_aload_n (pc := 48) hx hb dX11_term_48 rfl (lv_at hl 0 rfl) ?_
    refine lv_iload_n (pc := 49) hx hb dX11_term_49 rfl (lv_at hl 3 rfl) ?_
    refine r_cvI (pc := 50) (As := [.int x3]) (rest := []) X hH (fun x hx => mX11_isTerm hx) cw_X11_206 (heM_0 V w) rfl rfl rfl (Nat.le_of_ble_eq_true rfl) hl.1 h dX11_term_50 (fun w8 v9 H locs h hH => ?_)
    refine b_if_ne (pc := 53) (tgt := 59) hx hb h dX11_term_53 (by decide) (fun h => ?_) (fun h => ?_)
    · exact kX11_term_59 X   h hH (lv_sub hl [0, 1, 2, 3] rfl)
    · exact kX11_term_56 X   h hH (lv_sub hl [] rfl)
def bX11_term_0 (N d : Nat)   (w : Wd) (x1 : Int32) (x2 : Int32) (x3 : Int32) : Option (Wd × Int32) :=
  c_pi w 0 0 fun w1 =>
  c_cl (eX11_in N d w1 (Int32.toInt64 x1) 0 (Int32.toInt64 ((sI w1 1) - 1))) fun w2 v3 =>
  if v3 = 0 then (
    bX11_term_56 N d   w2 
  ) else (
    c_ld w2 1 10 x1 fun v4 =>
    if v4 ≤ 0 then (
      bX11_term_38 N d   w2 x1 x2 x3
    ) else (
      c_cl (eX11_isTerm N d w2 x2) fun w10 v11 =>
      if v11 = 0 then (
        bX11_term_56 N d   w10 
      ) else (
        bX11_term_38 N d   w10 x1 x2 x3
      )
    )
  )
set_option maxHeartbeats 4000000 in
theorem kX11_term_0 {V : Ev} {p : Program} {l : Launch} {e : Env} {N d : Nat} {s : State} {m : MethodId} {args : Array Value} {below : List Frame} {meth : Method} {c : Code} {z : Wd × Int32} (X : CX V p s m args meth c cX11_term 4 RX11 (some .int))    {w : Wd} {x1 : Int32} {x2 : Int32} {x3 : Int32} {H : Heap} {locs : List Loc} {ls : Array Slot} (h : bX11_term_0 N d   w x1 x2 x3 = some z) (hH : wH V (cM V) (AM V) s w H locs) (hl : lv_has ls 4 [(0, .ref (V.2.2 0)), (1, .int x1), (2, .int x2), (3, .int x3)]) : W p l e (rmD (d + 1)) s m args below meth c H locs 0 0 (MQ below (CtI V (cM V) (AM V) z) args s 0 0 (AM V)) (F0 m 0 ls []) := by
  unfold bX11_term_0 at h
  obtain ⟨hx, hb, hml, hown, hg, hrt, hlk, hK⟩ := id X
  refine lv_aload_n (pc := 0) hx hb dX11_term_0 rfl (lv_at hl 0 rfl) ?_
  refine lv_iconst (pc := 1) (v := 0) hx hb dX11_term_1 (by decide) ?_
  refine pM_X11_111_0 (pc := 2) X hH h dX11_term_2 (fun w1 H locs h hH => ?_)
  refine lv_iload_n (pc := 5) hx hb dX11_term_5 rfl (lv_at hl 1 rfl) ?_
  refine lv_i2l (pc := 6) hx hb dX11_term_6 rfl ?_
  refine lv_lconst (pc := 7) (v := 0) hx hb dX11_term_7 (by decide) ?_
  refine lv_aload_n (pc := 8) hx hb dX11_term_8 rfl (lv_at hl 0 rfl) ?_
  refine gM_X11_226_0 (pc := 9) X hH dX11_term_9 ?_
  refine lv_iconst (pc := 12) (v := 1) hx hb dX11_term_12 (by decide) ?_
  refine lv_isub (pc := 13) hx hb dX11_term_13 ?_
  refine lv_i2l (pc := 14) hx hb dX11_term_14 rfl ?_
  refine r_csI (pc := 15) (As := [.long (Int32.toInt64 x1), .long 0, .long (Int32.toInt64 ((sI w1 1) - 1))]) (rest := []) X hH (fun x hx => mX11_in hx) cs_X11_132 rfl rfl (Nat.le_of_ble_eq_true rfl) hl.1 h dX11_term_15 (fun w2 v3 H locs h hH => ?_)
  refine b_if_eq (pc := 18) (tgt := 56) hx hb h dX11_term_18 (by decide) (fun h => ?_) (fun h => ?_)
  · exact kX11_term_56 X   h hH (lv_sub hl [] rfl)
  · refine lv_aload_n (pc := 21) hx hb dX11_term_21 rfl (lv_at hl 0 rfl) ?_
    refine gM_X11_7_0 (pc := 22) X hH dX11_term_22 ?_
    refine lv_iload_n (pc := 25) hx hb dX11_term_25 rfl (lv_at hl 1 rfl) ?_
    refine r_ld (pc := 26) X (heM_1 V w2) hH h dX11_term_26 (fun v4 h => ?_)
    refine b_if_le (pc := 27) (tgt := 38) hx hb h dX11_term_27 (by decide) (fun h => ?_) (fun h => ?_)
    · exact kX11_term_38 X   h hH (lv_sub hl [0, 1, 2, 3] rfl)
    · refine lv_aload_n (pc := 30) hx hb dX11_term_30 rfl (lv_at hl 0 rfl) ?_
      refine lv_iload_n (pc := 31) hx hb dX11_term_31 rfl (lv_at hl 2 rfl) ?_
      refine r_cvI (pc := 32) (As := [.int x2]) (rest := []) X hH (fun x hx => mX11_isTerm hx) cw_X11_206 (heM_0 V w2) rfl rfl rfl (Nat.le_of_ble_eq_true rfl) hl.1 h dX11_term_32 (fun w10 v11 H locs h hH => ?_)
      refine b_if_eq (pc := 35) (tgt := 56) hx hb h dX11_term_35 (by decide) (fun h => ?_) (fun h => ?_)
      · exact kX11_term_56 X   h hH (lv_sub hl [] rfl)
      · exact kX11_term_38 X   h hH (lv_sub hl [0, 1, 2, 3] rfl)
def eX11_term (N : Nat) : Nat → Wd → Int32 → Int32 → Int32 → Option (Wd × Int32)
  | 0 => fun _ _ _ _ => none
  | d + 1 => fun w x1 x2 x3 => bX11_term_0 N d  w x1 x2 x3
set_option maxHeartbeats 4000000 in
set_option maxRecDepth 20000 in
theorem mX11_term {l : Launch} {V : Ev} {N d : Nat} {w : Wd} {x1 : Int32} {x2 : Int32} {x3 : Int32} {z : Wd × Int32} (h : eX11_term N d w x1 x2 x3 = some z) : MetI l V (cM V) (AM V) yX11_term cX11_term 4 (some .int) d [.ref (V.2.2 0), .int x1, .int x2, .int x3] w z := by
  cases d with
  | zero => exact c_none h
  | succ d =>
    refine Met.ofW (cc := cX11_term) (maxL := 4) (ret := (some .int)) (by decide) rfl ?_
    intro p e s m args below meth c s₁ B hml hv
    obtain ⟨rfl, hP, hD, hK⟩ := hv
    have hts := atoms_spec (ws := .code yX11_term cX11_term 4 (some .int) :: gG) B.pre
    have X : CX V p s m ([.ref (V.2.2 0), .int x1, .int x2, .int x3] : List Value).toArray meth c cX11_term 4 RX11 (some .int) := ⟨B.exec, B.bytes, hml, findClass_of_methodNamed B.named, fun w hw => hts w (List.mem_cons_of_mem _ hw), B.returns, B.notSynchronized, hK⟩
    have hl := lv_entry ([.ref (V.2.2 0), .int x1, .int x2, .int x3] : List Value) (n := 4) (Nat.le_of_ble_eq_true rfl)
    rw [lg_entry_eq]
    generalize (lg_sl ([.ref (V.2.2 0), .int x1, .int x2, .int x3] : List Value) ++ List.replicate (4 - (lg_sl ([.ref (V.2.2 0), .int x1, .int x2, .int x3] : List Value)).length) Slot.unset).toArray = ls at hl ⊢
    have hl : lv_has ls 4 [(0, .ref (V.2.2 0)), (1, .int x1), (2, .int x2), (3, .int x3)] := hl
    exact kX11_term_0 (N := N) X  h ⟨hP, hD, va_S.rf⟩ hl
