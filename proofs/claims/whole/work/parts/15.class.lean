theorem dX9_isRound_0 : decode cX9_isRound 0 = .ok (.iconst 0, 1) := by decide +kernel
theorem dX9_isRound_1 : decode cX9_isRound 1 = .ok (.istore_n 1, 1) := by decide +kernel
theorem dX9_isRound_2 : decode cX9_isRound 2 = .ok (.iload_n 1, 1) := by decide +kernel
theorem dX9_isRound_3 : decode cX9_isRound 3 = .ok (.bipush 8, 2) := by decide +kernel
theorem dX9_isRound_5 : decode cX9_isRound 5 = .ok (.if_icmp .ge 45, 3) := by decide +kernel
theorem dX9_isRound_8 : decode cX9_isRound 8 = .ok (.aload_n 0, 1) := by decide +kernel
theorem dX9_isRound_9 : decode cX9_isRound 9 = .ok (.getfield 29, 3) := by decide +kernel
theorem dX9_isRound_12 : decode cX9_isRound 12 = .ok (.iload_n 1, 1) := by decide +kernel
theorem dX9_isRound_13 : decode cX9_isRound 13 = .ok (.aload_n 0, 1) := by decide +kernel
theorem dX9_isRound_14 : decode cX9_isRound 14 = .ok (.getfield 20, 3) := by decide +kernel
theorem dX9_isRound_17 : decode cX9_isRound 17 = .ok (.iload_n 1, 1) := by decide +kernel
theorem dX9_isRound_18 : decode cX9_isRound 18 = .ok (.iaload, 1) := by decide +kernel
theorem dX9_isRound_19 : decode cX9_isRound 19 = .ok (.invokestatic 60, 3) := by decide +kernel
theorem dX9_isRound_22 : decode cX9_isRound 22 = .ok (.ifCond .eq 7, 3) := by decide +kernel
theorem dX9_isRound_25 : decode cX9_isRound 25 = .ok (.iconst 0, 1) := by decide +kernel
theorem dX9_isRound_26 : decode cX9_isRound 26 = .ok (.goto 17, 3) := by decide +kernel
theorem dX9_isRound_29 : decode cX9_isRound 29 = .ok (.aload_n 0, 1) := by decide +kernel
theorem dX9_isRound_30 : decode cX9_isRound 30 = .ok (.getfield 32, 3) := by decide +kernel
theorem dX9_isRound_33 : decode cX9_isRound 33 = .ok (.getfield 73, 3) := by decide +kernel
theorem dX9_isRound_36 : decode cX9_isRound 36 = .ok (.aload_n 0, 1) := by decide +kernel
theorem dX9_isRound_37 : decode cX9_isRound 37 = .ok (.getfield 20, 3) := by decide +kernel
theorem dX9_isRound_40 : decode cX9_isRound 40 = .ok (.iload_n 1, 1) := by decide +kernel
theorem dX9_isRound_41 : decode cX9_isRound 41 = .ok (.iaload, 1) := by decide +kernel
theorem dX9_isRound_42 : decode cX9_isRound 42 = .ok (.iaload, 1) := by decide +kernel
theorem dX9_isRound_43 : decode cX9_isRound 43 = .ok (.iastore, 1) := by decide +kernel
theorem dX9_isRound_44 : decode cX9_isRound 44 = .ok (.iinc 1 1, 3) := by decide +kernel
theorem dX9_isRound_47 : decode cX9_isRound 47 = .ok (.goto (-45), 3) := by decide +kernel
theorem dX9_isRound_50 : decode cX9_isRound 50 = .ok (.iconst 0, 1) := by decide +kernel
theorem dX9_isRound_51 : decode cX9_isRound 51 = .ok (.istore_n 1, 1) := by decide +kernel
theorem dX9_isRound_52 : decode cX9_isRound 52 = .ok (.iload_n 1, 1) := by decide +kernel
theorem dX9_isRound_53 : decode cX9_isRound 53 = .ok (.bipush 8, 2) := by decide +kernel
theorem dX9_isRound_55 : decode cX9_isRound 55 = .ok (.if_icmp .ge 52, 3) := by decide +kernel
theorem dX9_isRound_58 : decode cX9_isRound 58 = .ok (.iconst 0, 1) := by decide +kernel
theorem dX9_isRound_59 : decode cX9_isRound 59 = .ok (.istore_n 2, 1) := by decide +kernel
theorem dX9_isRound_60 : decode cX9_isRound 60 = .ok (.iload_n 2, 1) := by decide +kernel
theorem dX9_isRound_61 : decode cX9_isRound 61 = .ok (.bipush 8, 2) := by decide +kernel
theorem dX9_isRound_63 : decode cX9_isRound 63 = .ok (.if_icmp .ge 38, 3) := by decide +kernel
theorem dX9_isRound_66 : decode cX9_isRound 66 = .ok (.aload_n 0, 1) := by decide +kernel
theorem dX9_isRound_67 : decode cX9_isRound 67 = .ok (.getfield 29, 3) := by decide +kernel
theorem dX9_isRound_70 : decode cX9_isRound 70 = .ok (.iload_n 2, 1) := by decide +kernel
theorem dX9_isRound_71 : decode cX9_isRound 71 = .ok (.iaload, 1) := by decide +kernel
theorem dX9_isRound_72 : decode cX9_isRound 72 = .ok (.iload_n 1, 1) := by decide +kernel
theorem dX9_isRound_73 : decode cX9_isRound 73 = .ok (.ishr, 1) := by decide +kernel
theorem dX9_isRound_74 : decode cX9_isRound 74 = .ok (.iconst 1, 1) := by decide +kernel
theorem dX9_isRound_75 : decode cX9_isRound 75 = .ok (.iand, 1) := by decide +kernel
theorem dX9_isRound_76 : decode cX9_isRound 76 = .ok (.iconst 1, 1) := by decide +kernel
theorem dX9_isRound_77 : decode cX9_isRound 77 = .ok (.if_icmp .ne 18, 3) := by decide +kernel
theorem dX9_isRound_80 : decode cX9_isRound 80 = .ok (.aload_n 0, 1) := by decide +kernel
theorem dX9_isRound_81 : decode cX9_isRound 81 = .ok (.getfield 29, 3) := by decide +kernel
theorem dX9_isRound_84 : decode cX9_isRound 84 = .ok (.iload_n 2, 1) := by decide +kernel
theorem dX9_isRound_85 : decode cX9_isRound 85 = .ok (.dup2, 1) := by decide +kernel
theorem dX9_isRound_86 : decode cX9_isRound 86 = .ok (.iaload, 1) := by decide +kernel
theorem dX9_isRound_87 : decode cX9_isRound 87 = .ok (.aload_n 0, 1) := by decide +kernel
theorem dX9_isRound_88 : decode cX9_isRound 88 = .ok (.getfield 29, 3) := by decide +kernel
theorem dX9_isRound_91 : decode cX9_isRound 91 = .ok (.iload_n 1, 1) := by decide +kernel
theorem dX9_isRound_92 : decode cX9_isRound 92 = .ok (.iaload, 1) := by decide +kernel
theorem dX9_isRound_93 : decode cX9_isRound 93 = .ok (.ior, 1) := by decide +kernel
theorem dX9_isRound_94 : decode cX9_isRound 94 = .ok (.iastore, 1) := by decide +kernel
theorem dX9_isRound_95 : decode cX9_isRound 95 = .ok (.iinc 2 1, 3) := by decide +kernel
theorem dX9_isRound_98 : decode cX9_isRound 98 = .ok (.goto (-38), 3) := by decide +kernel
theorem dX9_isRound_101 : decode cX9_isRound 101 = .ok (.iinc 1 1, 3) := by decide +kernel
theorem dX9_isRound_104 : decode cX9_isRound 104 = .ok (.goto (-52), 3) := by decide +kernel
theorem dX9_isRound_107 : decode cX9_isRound 107 = .ok (.iconst 0, 1) := by decide +kernel
theorem dX9_isRound_108 : decode cX9_isRound 108 = .ok (.istore_n 1, 1) := by decide +kernel
theorem dX9_isRound_109 : decode cX9_isRound 109 = .ok (.iload_n 1, 1) := by decide +kernel
theorem dX9_isRound_110 : decode cX9_isRound 110 = .ok (.bipush 8, 2) := by decide +kernel
theorem dX9_isRound_112 : decode cX9_isRound 112 = .ok (.if_icmp .ge 25, 3) := by decide +kernel
theorem dX9_isRound_115 : decode cX9_isRound 115 = .ok (.aload_n 0, 1) := by decide +kernel
theorem dX9_isRound_116 : decode cX9_isRound 116 = .ok (.getfield 29, 3) := by decide +kernel
theorem dX9_isRound_119 : decode cX9_isRound 119 = .ok (.iload_n 1, 1) := by decide +kernel
theorem dX9_isRound_120 : decode cX9_isRound 120 = .ok (.iaload, 1) := by decide +kernel
theorem dX9_isRound_121 : decode cX9_isRound 121 = .ok (.iload_n 1, 1) := by decide +kernel
theorem dX9_isRound_122 : decode cX9_isRound 122 = .ok (.ishr, 1) := by decide +kernel
theorem dX9_isRound_123 : decode cX9_isRound 123 = .ok (.iconst 1, 1) := by decide +kernel
theorem dX9_isRound_124 : decode cX9_isRound 124 = .ok (.iand, 1) := by decide +kernel
theorem dX9_isRound_125 : decode cX9_isRound 125 = .ok (.iconst 1, 1) := by decide +kernel
theorem dX9_isRound_126 : decode cX9_isRound 126 = .ok (.if_icmp .ne 5, 3) := by decide +kernel
theorem dX9_isRound_129 : decode cX9_isRound 129 = .ok (.iconst 1, 1) := by decide +kernel
theorem dX9_isRound_130 : decode cX9_isRound 130 = .ok (.ireturn, 1) := by decide +kernel
theorem dX9_isRound_131 : decode cX9_isRound 131 = .ok (.iinc 1 1, 3) := by decide +kernel
theorem dX9_isRound_134 : decode cX9_isRound 134 = .ok (.goto (-25), 3) := by decide +kernel
theorem dX9_isRound_137 : decode cX9_isRound 137 = .ok (.iconst 0, 1) := by decide +kernel
theorem dX9_isRound_138 : decode cX9_isRound 138 = .ok (.ireturn, 1) := by decide +kernel
def bX9_isRound_109 (N d : Nat)  (rec109 : Wd → Int32 → Option (Wd × Int32)) (w : Wd) (x1 : Int32) : Option (Wd × Int32) :=
  if 8 ≤ x1 then (
    some (w, 0)
  ) else (
    c_ld w 62 8 x1 fun v1 =>
    if ((v1 >>> (x1 &&& 31)) &&& 1) = 1 then (
      some (w, 1)
    ) else (
      c_nm (x1 + 1) fun x1_2 =>
      rec109 w x1_2
    )
  )
set_option maxHeartbeats 4000000 in
theorem kX9_isRound_109 {V : Ev} {p : Program} {l : Launch} {e : Env} {N d : Nat} {s : State} {m : MethodId} {args : Array Value} {below : List Frame} {meth : Method} {c : Code} {z : Wd × Int32} (X : CX V p s m args meth c cX9_isRound 3 RX9 (some .boolean))   {rec109 : Wd → Int32 → Option (Wd × Int32)} (hr109 : ∀ (w : Wd) (x1 : Int32) (H : Heap) (locs : List Loc) (ls : Array Slot), rec109 w x1 = some z → wH V (cC V) (AC V) s w H locs → lv_has ls 3 [(0, .ref (V.2.2 11)), (1, .int x1)] → W p l e (rmD (d + 1)) s m args below meth c H locs 0 0 (MQ below (CtI V (cC V) (AC V) z) args s 0 0 (AC V)) (F0 m 109 ls [])) {w : Wd} {x1 : Int32} {H : Heap} {locs : List Loc} {ls : Array Slot} (h : bX9_isRound_109 N d  rec109 w x1 = some z) (hH : wH V (cC V) (AC V) s w H locs) (hl : lv_has ls 3 [(0, .ref (V.2.2 11)), (1, .int x1)]) : W p l e (rmD (d + 1)) s m args below meth c H locs 0 0 (MQ below (CtI V (cC V) (AC V) z) args s 0 0 (AC V)) (F0 m 109 ls []) := by
  unfold bX9_isRound_109 at h
  obtain ⟨hx, hb, hml, hown, hg, hrt, hlk, hK⟩ := id X
  refine lv_iload_n (pc := 109) hx hb dX9_isRound_109 rfl (lv_at hl 1 rfl) ?_
  refine lv_bipush (pc := 110) (v := 8) hx hb dX9_isRound_110 (by decide) ?_
  refine b_icmp_ge (pc := 112) (tgt := 137) hx hb h dX9_isRound_112 (by decide) (fun h => ?_) (fun h => ?_)
  · refine lv_iconst (pc := 137) (v := 0) hx hb dX9_isRound_137 (by decide) ?_
    exact r_zretk (pc := 138) (by decide) X hH h dX9_isRound_138
  · refine lv_aload_n (pc := 115) hx hb dX9_isRound_115 rfl (lv_at hl 0 rfl) ?_
    refine gC_X9_29_11 (pc := 116) X hH dX9_isRound_116 ?_
    refine lv_iload_n (pc := 119) hx hb dX9_isRound_119 rfl (lv_at hl 1 rfl) ?_
    refine r_ld (pc := 120) X (heC_58 V w) hH h dX9_isRound_120 (fun v1 h => ?_)
    refine lv_iload_n (pc := 121) hx hb dX9_isRound_121 rfl (lv_at hl 1 rfl) ?_
    refine lv_ishr (pc := 122) hx hb dX9_isRound_122 ?_
    refine lv_iconst (pc := 123) (v := 1) hx hb dX9_isRound_123 (by decide) ?_
    refine lv_iand (pc := 124) hx hb dX9_isRound_124 ?_
    refine lv_iconst (pc := 125) (v := 1) hx hb dX9_isRound_125 (by decide) ?_
    refine b_icmp_ne (pc := 126) (tgt := 131) hx hb h dX9_isRound_126 (by decide) (fun h => ?_) (fun h => ?_)
    · obtain ⟨x1_2, ex1_2, h⟩ := c_nm_ex h
      refine lv_iinc (pc := 131) (v := x1_2) (lv' := [(1, .int x1_2), (0, .ref (V.2.2 11))]) hx hb dX9_isRound_131 hl (k := 1) rfl (by rw [← ex1_2]; rfl) (by decide) rfl (fun ls hl => ?_)
      refine lv_goto (pc := 134) (tgt := 109) hx hb dX9_isRound_134 (by decide) ?_
      exact hr109 _ _ _ _ _ h hH (lv_sub hl [1, 0] rfl)
    · refine lv_iconst (pc := 129) (v := 1) hx hb dX9_isRound_129 (by decide) ?_
      exact r_zretk (pc := 130) (by decide) X hH h dX9_isRound_130
def fX9_isRound_109 (N d : Nat)   : Nat → Wd → Int32 → Option (Wd × Int32)
  | 0 => fun _ _ => none
  | n + 1 => fun w x1 => bX9_isRound_109 N d   (fX9_isRound_109 N d   n) w x1
theorem lX9_isRound_109 {V : Ev} {p : Program} {l : Launch} {e : Env} {N d : Nat} {s : State} {m : MethodId} {args : Array Value} {below : List Frame} {meth : Method} {c : Code} {z : Wd × Int32} (X : CX V p s m args meth c cX9_isRound 3 RX9 (some .boolean))    (n : Nat) {w : Wd} {x1 : Int32} {H : Heap} {locs : List Loc} {ls : Array Slot} (h : fX9_isRound_109 N d   n w x1 = some z) (hH : wH V (cC V) (AC V) s w H locs) (hl : lv_has ls 3 [(0, .ref (V.2.2 11)), (1, .int x1)]) : W p l e (rmD (d + 1)) s m args below meth c H locs 0 0 (MQ below (CtI V (cC V) (AC V) z) args s 0 0 (AC V)) (F0 m 109 ls []) := by
  induction n generalizing w x1 H locs ls with
  | zero => exact c_none h
  | succ n ih => exact kX9_isRound_109 (N := N) X  (fun _ _ _ _ _ h hH hl => ih h hH hl) h hH hl
def bX9_isRound_95 (N d : Nat)  (rec52 : Wd → Int32 → Option (Wd × Int32)) (rec60 : Wd → Int32 → Int32 → Option (Wd × Int32)) (w : Wd) (x1 : Int32) (x2 : Int32) : Option (Wd × Int32) :=
  c_nm (x2 + 1) fun x2_5 =>
  rec60 w x1 x2_5
set_option maxHeartbeats 4000000 in
theorem kX9_isRound_95 {V : Ev} {p : Program} {l : Launch} {e : Env} {N d : Nat} {s : State} {m : MethodId} {args : Array Value} {below : List Frame} {meth : Method} {c : Code} {z : Wd × Int32} (X : CX V p s m args meth c cX9_isRound 3 RX9 (some .boolean))   {rec52 : Wd → Int32 → Option (Wd × Int32)} (hr52 : ∀ (w : Wd) (x1 : Int32) (H : Heap) (locs : List Loc) (ls : Array Slot), rec52 w x1 = some z → wH V (cC V) (AC V) s w H locs → lv_has ls 3 [(0, .ref (V.2.2 11)), (1, .int x1)] → W p l e (rmD (d + 1)) s m args below meth c H locs 0 0 (MQ below (CtI V (cC V) (AC V) z) args s 0 0 (AC V)) (F0 m 52 ls [])) {rec60 : Wd → Int32 → Int32 → Option (Wd × Int32)} (hr60 : ∀ (w : Wd) (x1 : Int32) (x2 : Int32) (H : Heap) (locs : List Loc) (ls : Array Slot), rec60 w x1 x2 = some z → wH V (cC V) (AC V) s w H locs → lv_has ls 3 [(0, .ref (V.2.2 11)), (1, .int x1), (2, .int x2)] → W p l e (rmD (d + 1)) s m args below meth c H locs 0 0 (MQ below (CtI V (cC V) (AC V) z) args s 0 0 (AC V)) (F0 m 60 ls [])) {w : Wd} {x1 : Int32} {x2 : Int32} {H : Heap} {locs : List Loc} {ls : Array Slot} (h : bX9_isRound_95 N d  rec52 rec60 w x1 x2 = some z) (hH : wH V (cC V) (AC V) s w H locs) (hl : lv_has ls 3 [(0, .ref (V.2.2 11)), (1, .int x1), (2, .int x2)]) : W p l e (rmD (d + 1)) s m args below meth c H locs 0 0 (MQ below (CtI V (cC V) (AC V) z) args s 0 0 (AC V)) (F0 m 95 ls []) := by
  unfold bX9_isRound_95 at h
  obtain ⟨hx, hb, hml, hown, hg, hrt, hlk, hK⟩ := id X
  obtain ⟨x2_5, ex2_5, h⟩ := c_nm_ex h
  refine lv_iinc (pc := 95) (v := x2_5) (lv' := [(2, .int x2_5), (0, .ref (V.2.2 11)), (1, .int x1)]) hx hb dX9_isRound_95 hl (k := 2) rfl (by rw [← ex2_5]; rfl) (by decide) rfl (fun ls hl => ?_)
  refine lv_goto (pc := 98) (tgt := 60) hx hb dX9_isRound_98 (by decide) ?_
  exact hr60 _ _ _ _ _ _ h hH (lv_sub hl [1, 2, 0] rfl)
def bX9_isRound_60 (N d : Nat)  (rec52 : Wd → Int32 → Option (Wd × Int32)) (rec60 : Wd → Int32 → Int32 → Option (Wd × Int32)) (w : Wd) (x1 : Int32) (x2 : Int32) : Option (Wd × Int32) :=
  if 8 ≤ x2 then (
    c_nm (x1 + 1) fun x1_3 =>
    rec52 w x1_3
  ) else (
    c_ld w 62 8 x2 fun v4 =>
    if ((v4 >>> (x1 &&& 31)) &&& 1) = 1 then (
      c_ld w 62 8 x2 fun v6 =>
      c_ld w 62 8 x1 fun v7 =>
      c_st w 62 8 x2 (v6 ||| v7) fun w8 =>
      bX9_isRound_95 N d  rec52 rec60 w8 x1 x2
    ) else (
      bX9_isRound_95 N d  rec52 rec60 w x1 x2
    )
  )
set_option maxHeartbeats 4000000 in
theorem kX9_isRound_60 {V : Ev} {p : Program} {l : Launch} {e : Env} {N d : Nat} {s : State} {m : MethodId} {args : Array Value} {below : List Frame} {meth : Method} {c : Code} {z : Wd × Int32} (X : CX V p s m args meth c cX9_isRound 3 RX9 (some .boolean))   {rec52 : Wd → Int32 → Option (Wd × Int32)} (hr52 : ∀ (w : Wd) (x1 : Int32) (H : Heap) (locs : List Loc) (ls : Array Slot), rec52 w x1 = some z → wH V (cC V) (AC V) s w H locs → lv_has ls 3 [(0, .ref (V.2.2 11)), (1, .int x1)] → W p l e (rmD (d + 1)) s m args below meth c H locs 0 0 (MQ below (CtI V (cC V) (AC V) z) args s 0 0 (AC V)) (F0 m 52 ls [])) {rec60 : Wd → Int32 → Int32 → Option (Wd × Int32)} (hr60 : ∀ (w : Wd) (x1 : Int32) (x2 : Int32) (H : Heap) (locs : List Loc) (ls : Array Slot), rec60 w x1 x2 = some z → wH V (cC V) (AC V) s w H locs → lv_has ls 3 [(0, .ref (V.2.2 11)), (1, .int x1), (2, .int x2)] → W p l e (rmD (d + 1)) s m args below meth c H locs 0 0 (MQ below (CtI V (cC V) (AC V) z) args s 0 0 (AC V)) (F0 m 60 ls [])) {w : Wd} {x1 : Int32} {x2 : Int32} {H : Heap} {locs : List Loc} {ls : Array Slot} (h : bX9_isRound_60 N d  rec52 rec60 w x1 x2 = some z) (hH : wH V (cC V) (AC V) s w H locs) (hl : lv_has ls 3 [(0, .ref (V.2.2 11)), (1, .int x1), (2, .int x2)]) : W p l e (rmD (d + 1)) s m args below meth c H locs 0 0 (MQ below (CtI V (cC V) (AC V) z) args s 0 0 (AC V)) (F0 m 60 ls []) := by
  unfold bX9_isRound_60 at h
  obtain ⟨hx, hb, hml, hown, hg, hrt, hlk, hK⟩ := id X
  refine lv_iload_n (pc := 60) hx hb dX9_isRound_60 rfl (lv_at hl 2 rfl) ?_
  refine lv_bipush (pc := 61) (v := 8) hx hb dX9_isRound_61 (by decide) ?_
  refine b_icmp_ge (pc := 63) (tgt := 101) hx hb h dX9_isRound_63 (by decide) (fun h => ?_) (fun h => ?_)
  · obtain ⟨x1_3, ex1_3, h⟩ := c_nm_ex h
    refine lv_iinc (pc := 101) (v := x1_3) (lv' := [(1, .int x1_3), (0, .ref (V.2.2 11)), (2, .int x2)]) hx hb dX9_isRound_101 hl (k := 1) rfl (by rw [← ex1_3]; rfl) (by decide) rfl (fun ls hl => ?_)
    refine lv_goto (pc := 104) (tgt := 52) hx hb dX9_isRound_104 (by decide) ?_
    exact hr52 _ _ _ _ _ h hH (lv_sub hl [1, 0] rfl)
  · refine lv_aload_n (pc := 66) hx hb dX9_isRound_66 rfl (lv_at hl 0 rfl) ?_
    refine gC_X9_29_11 (pc := 67) X hH dX9_isRound_67 ?_
    refine lv_iload_n (pc := 70) hx hb dX9_isRound_70 rfl (lv_at hl 2 rfl) ?_
    refine r_ld (pc := 71) X (heC_58 V w) hH h dX9_isRound_71 (fun v4 h => ?_)
    refine lv_iload_n (pc := 72) hx hb dX9_isRound_72 rfl (lv_at hl 1 rfl) ?_
    refine lv_ishr (pc := 73) hx hb dX9_isRound_73 ?_
    refine lv_iconst (pc := 74) (v := 1) hx hb dX9_isRound_74 (by decide) ?_
    refine lv_iand (pc := 75) hx hb dX9_isRound_75 ?_
    refine lv_iconst (pc := 76) (v := 1) hx hb dX9_isRound_76 (by decide) ?_
    refine b_icmp_ne (pc := 77) (tgt := 95) hx hb h dX9_isRound_77 (by decide) (fun h => ?_) (fun h => ?_)
    · exact kX9_isRound_95 X  hr52 hr60 h hH (lv_sub hl [0, 1, 2] rfl)
    · refine lv_aload_n (pc := 80) hx hb dX9_isRound_80 rfl (lv_at hl 0 rfl) ?_
      refine gC_X9_29_11 (pc := 81) X hH dX9_isRound_81 ?_
      refine lv_iload_n (pc := 84) hx hb dX9_isRound_84 rfl (lv_at hl 2 rfl) ?_
      refine lv_dup2_11 (pc := 85) hx hb dX9_isRound_85 rfl rfl ?_
      refine r_ld (pc := 86) X (heC_58 V w) hH h dX9_isRound_86 (fun v6 h => ?_)
      refine lv_aload_n (pc := 87) hx hb dX9_isRound_87 rfl (lv_at hl 0 rfl) ?_
      refine gC_X9_29_11 (pc := 88) X hH dX9_isRound_88 ?_
      refine lv_iload_n (pc := 91) hx hb dX9_isRound_91 rfl (lv_at hl 1 rfl) ?_
      refine r_ld (pc := 92) X (heC_58 V w) hH h dX9_isRound_92 (fun v7 h => ?_)
      refine lv_ior (pc := 93) hx hb dX9_isRound_93 ?_
      refine r_st (pc := 94) X (heC_58 V w) (hsC_58 V w) hH h dX9_isRound_94 (fun w8 H locs h hH => ?_)
      exact kX9_isRound_95 X  hr52 hr60 h hH (lv_sub hl [0, 1, 2] rfl)
def fX9_isRound_60 (N d : Nat)  (rec52 : Wd → Int32 → Option (Wd × Int32)) : Nat → Wd → Int32 → Int32 → Option (Wd × Int32)
  | 0 => fun _ _ _ => none
  | n + 1 => fun w x1 x2 => bX9_isRound_60 N d  rec52 (fX9_isRound_60 N d  rec52 n) w x1 x2
theorem lX9_isRound_60 {V : Ev} {p : Program} {l : Launch} {e : Env} {N d : Nat} {s : State} {m : MethodId} {args : Array Value} {below : List Frame} {meth : Method} {c : Code} {z : Wd × Int32} (X : CX V p s m args meth c cX9_isRound 3 RX9 (some .boolean))   {rec52 : Wd → Int32 → Option (Wd × Int32)} (hr52 : ∀ (w : Wd) (x1 : Int32) (H : Heap) (locs : List Loc) (ls : Array Slot), rec52 w x1 = some z → wH V (cC V) (AC V) s w H locs → lv_has ls 3 [(0, .ref (V.2.2 11)), (1, .int x1)] → W p l e (rmD (d + 1)) s m args below meth c H locs 0 0 (MQ below (CtI V (cC V) (AC V) z) args s 0 0 (AC V)) (F0 m 52 ls [])) (n : Nat) {w : Wd} {x1 : Int32} {x2 : Int32} {H : Heap} {locs : List Loc} {ls : Array Slot} (h : fX9_isRound_60 N d  rec52 n w x1 x2 = some z) (hH : wH V (cC V) (AC V) s w H locs) (hl : lv_has ls 3 [(0, .ref (V.2.2 11)), (1, .int x1), (2, .int x2)]) : W p l e (rmD (d + 1)) s m args below meth c H locs 0 0 (MQ below (CtI V (cC V) (AC V) z) args s 0 0 (AC V)) (F0 m 60 ls []) := by
  induction n generalizing w x1 x2 H locs ls with
  | zero => exact c_none h
  | succ n ih => exact kX9_isRound_60 (N := N) X hr52 (fun _ _ _ _ _ _ h hH hl => ih h hH hl) h hH hl
def bX9_isRound_52 (N d : Nat)  (rec52 : Wd → Int32 → Option (Wd × Int32)) (w : Wd) (x1 : Int32) : Option (Wd × Int32) :=
  if 8 ≤ x1 then (
    fX9_isRound_109 N d   N w ((0 : Int32))
  ) else (
    fX9_isRound_60 N d  rec52 N w x1 ((0 : Int32))
  )
set_option maxHeartbeats 4000000 in
theorem kX9_isRound_52 {V : Ev} {p : Program} {l : Launch} {e : Env} {N d : Nat} {s : State} {m : MethodId} {args : Array Value} {below : List Frame} {meth : Method} {c : Code} {z : Wd × Int32} (X : CX V p s m args meth c cX9_isRound 3 RX9 (some .boolean))   {rec52 : Wd → Int32 → Option (Wd × Int32)} (hr52 : ∀ (w : Wd) (x1 : Int32) (H : Heap) (locs : List Loc) (ls : Array Slot), rec52 w x1 = some z → wH V (cC V) (AC V) s w H locs → lv_has ls 3 [(0, .ref (V.2.2 11)), (1, .int x1)] → W p l e (rmD (d + 1)) s m args below meth c H locs 0 0 (MQ below (CtI V (cC V) (AC V) z) args s 0 0 (AC V)) (F0 m 52 ls [])) {w : Wd} {x1 : Int32} {H : Heap} {locs : List Loc} {ls : Array Slot} (h : bX9_isRound_52 N d  rec52 w x1 = some z) (hH : wH V (cC V) (AC V) s w H locs) (hl : lv_has ls 3 [(0, .ref (V.2.2 11)), (1, .int x1)]) : W p l e (rmD (d + 1)) s m args below meth c H locs 0 0 (MQ below (CtI V (cC V) (AC V) z) args s 0 0 (AC V)) (F0 m 52 ls []) := by
  unfold bX9_isRound_52 at h
  obtain ⟨hx, hb, hml, hown, hg, hrt, hlk, hK⟩ := id X
  refine lv_iload_n (pc := 52) hx hb dX9_isRound_52 rfl (lv_at hl 1 rfl) ?_
  refine lv_bipush (pc := 53) (v := 8) hx hb dX9_isRound_53 (by decide) ?_
  refine b_icmp_ge (pc := 55) (tgt := 107) hx hb h dX9_isRound_55 (by decide) (fun h => ?_) (fun h => ?_)
  · refine lv_iconst (pc := 107) (v := 0) hx hb dX9_isRound_107 (by decide) ?_
    refine lv_istore_n (pc := 108) (lv' := [(1, .int ((0 : Int32))), (0, .ref (V.2.2 11))]) hx hb dX9_isRound_108 rfl hl (by decide) rfl (fun ls hl => ?_)
    exact lX9_isRound_109 X   N h hH (lv_sub hl [1, 0] rfl)
  · refine lv_iconst (pc := 58) (v := 0) hx hb dX9_isRound_58 (by decide) ?_
    refine lv_istore_n (pc := 59) (lv' := [(2, .int ((0 : Int32))), (0, .ref (V.2.2 11)), (1, .int x1)]) hx hb dX9_isRound_59 rfl hl (by decide) rfl (fun ls hl => ?_)
    exact lX9_isRound_60 X  hr52 N h hH (lv_sub hl [1, 2, 0] rfl)
def fX9_isRound_52 (N d : Nat)   : Nat → Wd → Int32 → Option (Wd × Int32)
  | 0 => fun _ _ => none
  | n + 1 => fun w x1 => bX9_isRound_52 N d   (fX9_isRound_52 N d   n) w x1
theorem lX9_isRound_52 {V : Ev} {p : Program} {l : Launch} {e : Env} {N d : Nat} {s : State} {m : MethodId} {args : Array Value} {below : List Frame} {meth : Method} {c : Code} {z : Wd × Int32} (X : CX V p s m args meth c cX9_isRound 3 RX9 (some .boolean))    (n : Nat) {w : Wd} {x1 : Int32} {H : Heap} {locs : List Loc} {ls : Array Slot} (h : fX9_isRound_52 N d   n w x1 = some z) (hH : wH V (cC V) (AC V) s w H locs) (hl : lv_has ls 3 [(0, .ref (V.2.2 11)), (1, .int x1)]) : W p l e (rmD (d + 1)) s m args below meth c H locs 0 0 (MQ below (CtI V (cC V) (AC V) z) args s 0 0 (AC V)) (F0 m 52 ls []) := by
  induction n generalizing w x1 H locs ls with
  | zero => exact c_none h
  | succ n ih => exact kX9_isRound_52 (N := N) X  (fun _ _ _ _ _ h hH hl => ih h hH hl) h hH hl
def bX9_isRound_43 (N d : Nat)  (rec2 : Wd → Int32 → Option (Wd × Int32)) (w : Wd) (x1 : Int32) (y1 : Int32) (y2 : Int32) : Option (Wd × Int32) :=
  c_st w 62 8 y1 y2 fun w14 =>
  c_nm (x1 + 1) fun x1_15 =>
  rec2 w14 x1_15
set_option maxHeartbeats 4000000 in
theorem kX9_isRound_43 {V : Ev} {p : Program} {l : Launch} {e : Env} {N d : Nat} {s : State} {m : MethodId} {args : Array Value} {below : List Frame} {meth : Method} {c : Code} {z : Wd × Int32} (X : CX V p s m args meth c cX9_isRound 3 RX9 (some .boolean))   {rec2 : Wd → Int32 → Option (Wd × Int32)} (hr2 : ∀ (w : Wd) (x1 : Int32) (H : Heap) (locs : List Loc) (ls : Array Slot), rec2 w x1 = some z → wH V (cC V) (AC V) s w H locs → lv_has ls 3 [(0, .ref (V.2.2 11)), (1, .int x1)] → W p l e (rmD (d + 1)) s m args below meth c H locs 0 0 (MQ below (CtI V (cC V) (AC V) z) args s 0 0 (AC V)) (F0 m 2 ls [])) {w : Wd} {x1 : Int32} {y1 : Int32} {y2 : Int32} {H : Heap} {locs : List Loc} {ls : Array Slot} (h : bX9_isRound_43 N d  rec2 w x1 y1 y2 = some z) (hH : wH V (cC V) (AC V) s w H locs) (hl : lv_has ls 3 [(0, .ref (V.2.2 11)), (1, .int x1)]) : W p l e (rmD (d + 1)) s m args below meth c H locs 0 0 (MQ below (CtI V (cC V) (AC V) z) args s 0 0 (AC V)) (F0 m 43 ls [.int y2, .int y1, .ref (V.2.2 58)]) := by
  unfold bX9_isRound_43 at h
  obtain ⟨hx, hb, hml, hown, hg, hrt, hlk, hK⟩ := id X
  refine r_st (pc := 43) X (heC_58 V w) (hsC_58 V w) hH h dX9_isRound_43 (fun w14 H locs h hH => ?_)
  obtain ⟨x1_15, ex1_15, h⟩ := c_nm_ex h
  refine lv_iinc (pc := 44) (v := x1_15) (lv' := [(1, .int x1_15), (0, .ref (V.2.2 11))]) hx hb dX9_isRound_44 hl (k := 1) rfl (by rw [← ex1_15]; rfl) (by decide) rfl (fun ls hl => ?_)
  refine lv_goto (pc := 47) (tgt := 2) hx hb dX9_isRound_47 (by decide) ?_
  exact hr2 _ _ _ _ _ h hH (lv_sub hl [1, 0] rfl)
def bX9_isRound_2 (N d : Nat)  (rec2 : Wd → Int32 → Option (Wd × Int32)) (w : Wd) (x1 : Int32) : Option (Wd × Int32) :=
  if 8 ≤ x1 then (
    fX9_isRound_52 N d   N w ((0 : Int32))
  ) else (
    c_ld w 59 158 x1 fun v9 =>
    c_cl (eX5_isVariable N d w v9) fun w10 v11 =>
    if v11 = 0 then (
      c_ld w10 59 158 x1 fun v12 =>
      c_ld w10 56 158 v12 fun v13 =>
      bX9_isRound_43 N d  rec2 w10 x1 x1 v13
    ) else (
      bX9_isRound_43 N d  rec2 w10 x1 x1 0
    )
  )
set_option maxHeartbeats 4000000 in
theorem kX9_isRound_2 {V : Ev} {p : Program} {l : Launch} {e : Env} {N d : Nat} {s : State} {m : MethodId} {args : Array Value} {below : List Frame} {meth : Method} {c : Code} {z : Wd × Int32} (X : CX V p s m args meth c cX9_isRound 3 RX9 (some .boolean))   {rec2 : Wd → Int32 → Option (Wd × Int32)} (hr2 : ∀ (w : Wd) (x1 : Int32) (H : Heap) (locs : List Loc) (ls : Array Slot), rec2 w x1 = some z → wH V (cC V) (AC V) s w H locs → lv_has ls 3 [(0, .ref (V.2.2 11)), (1, .int x1)] → W p l e (rmD (d + 1)) s m args below meth c H locs 0 0 (MQ below (CtI V (cC V) (AC V) z) args s 0 0 (AC V)) (F0 m 2 ls [])) {w : Wd} {x1 : Int32} {H : Heap} {locs : List Loc} {ls : Array Slot} (h : bX9_isRound_2 N d  rec2 w x1 = some z) (hH : wH V (cC V) (AC V) s w H locs) (hl : lv_has ls 3 [(0, .ref (V.2.2 11)), (1, .int x1)]) : W p l e (rmD (d + 1)) s m args below meth c H locs 0 0 (MQ below (CtI V (cC V) (AC V) z) args s 0 0 (AC V)) (F0 m 2 ls []) := by
  unfold bX9_isRound_2 at h
  obtain ⟨hx, hb, hml, hown, hg, hrt, hlk, hK⟩ := id X
  refine lv_iload_n (pc := 2) hx hb dX9_isRound_2 rfl (lv_at hl 1 rfl) ?_
  refine lv_bipush (pc := 3) (v := 8) hx hb dX9_isRound_3 (by decide) ?_
  refine b_icmp_ge (pc := 5) (tgt := 50) hx hb h dX9_isRound_5 (by decide) (fun h => ?_) (fun h => ?_)
  · refine lv_iconst (pc := 50) (v := 0) hx hb dX9_isRound_50 (by decide) ?_
    refine lv_istore_n (pc := 51) (lv' := [(1, .int ((0 : Int32))), (0, .ref (V.2.2 11))]) hx hb dX9_isRound_51 rfl hl (by decide) rfl (fun ls hl => ?_)
    exact lX9_isRound_52 X   N h hH (lv_sub hl [1, 0] rfl)
  · refine lv_aload_n (pc := 8) hx hb dX9_isRound_8 rfl (lv_at hl 0 rfl) ?_
    refine gC_X9_29_11 (pc := 9) X hH dX9_isRound_9 ?_
    refine lv_iload_n (pc := 12) hx hb dX9_isRound_12 rfl (lv_at hl 1 rfl) ?_
    refine lv_aload_n (pc := 13) hx hb dX9_isRound_13 rfl (lv_at hl 0 rfl) ?_
    refine gC_X9_20_11 (pc := 14) X hH dX9_isRound_14 ?_
    refine lv_iload_n (pc := 17) hx hb dX9_isRound_17 rfl (lv_at hl 1 rfl) ?_
    refine r_ld (pc := 18) X (heC_55 V w) hH h dX9_isRound_18 (fun v9 h => ?_)
    refine r_csI (pc := 19) (As := [.int v9]) (rest := [.int x1, .ref (V.2.2 58)]) X hH (fun x hx => mX5_isVariable hx) cs_X9_60 rfl rfl (Nat.le_of_ble_eq_true rfl) hl.1 h dX9_isRound_19 (fun w10 v11 H locs h hH => ?_)
    refine b_if_eq (pc := 22) (tgt := 29) hx hb h dX9_isRound_22 (by decide) (fun h => ?_) (fun h => ?_)
    · refine lv_aload_n (pc := 29) hx hb dX9_isRound_29 rfl (lv_at hl 0 rfl) ?_
      refine gC_X9_32_11 (pc := 30) X hH dX9_isRound_30 ?_
      refine gC_X9_73_10 (pc := 33) X hH dX9_isRound_33 ?_
      refine lv_aload_n (pc := 36) hx hb dX9_isRound_36 rfl (lv_at hl 0 rfl) ?_
      refine gC_X9_20_11 (pc := 37) X hH dX9_isRound_37 ?_
      refine lv_iload_n (pc := 40) hx hb dX9_isRound_40 rfl (lv_at hl 1 rfl) ?_
      refine r_ld (pc := 41) X (heC_55 V w10) hH h dX9_isRound_41 (fun v12 h => ?_)
      refine r_ld (pc := 42) X (heC_52 V w10) hH h dX9_isRound_42 (fun v13 h => ?_)
      exact kX9_isRound_43 X  hr2 h hH (lv_sub hl [0, 1] rfl)
    · refine lv_iconst (pc := 25) (v := 0) hx hb dX9_isRound_25 (by decide) ?_
      refine lv_goto (pc := 26) (tgt := 43) hx hb dX9_isRound_26 (by decide) ?_
      exact kX9_isRound_43 X  hr2 h hH (lv_sub hl [0, 1] rfl)
def fX9_isRound_2 (N d : Nat)   : Nat → Wd → Int32 → Option (Wd × Int32)
  | 0 => fun _ _ => none
  | n + 1 => fun w x1 => bX9_isRound_2 N d   (fX9_isRound_2 N d   n) w x1
theorem lX9_isRound_2 {V : Ev} {p : Program} {l : Launch} {e : Env} {N d : Nat} {s : State} {m : MethodId} {args : Array Value} {below : List Frame} {meth : Method} {c : Code} {z : Wd × Int32} (X : CX V p s m args meth c cX9_isRound 3 RX9 (some .boolean))    (n : Nat) {w : Wd} {x1 : Int32} {H : Heap} {locs : List Loc} {ls : Array Slot} (h : fX9_isRound_2 N d   n w x1 = some z) (hH : wH V (cC V) (AC V) s w H locs) (hl : lv_has ls 3 [(0, .ref (V.2.2 11)), (1, .int x1)]) : W p l e (rmD (d + 1)) s m args below meth c H locs 0 0 (MQ below (CtI V (cC V) (AC V) z) args s 0 0 (AC V)) (F0 m 2 ls []) := by
  induction n generalizing w x1 H locs ls with
  | zero => exact c_none h
  | succ n ih => exact kX9_isRound_2 (N := N) X  (fun _ _ _ _ _ h hH hl => ih h hH hl) h hH hl
def bX9_isRound_0 (N d : Nat)   (w : Wd)  : Option (Wd × Int32) :=
  fX9_isRound_2 N d   N w ((0 : Int32))
set_option maxHeartbeats 4000000 in
theorem kX9_isRound_0 {V : Ev} {p : Program} {l : Launch} {e : Env} {N d : Nat} {s : State} {m : MethodId} {args : Array Value} {below : List Frame} {meth : Method} {c : Code} {z : Wd × Int32} (X : CX V p s m args meth c cX9_isRound 3 RX9 (some .boolean))    {w : Wd}  {H : Heap} {locs : List Loc} {ls : Array Slot} (h : bX9_isRound_0 N d   w  = some z) (hH : wH V (cC V) (AC V) s w H locs) (hl : lv_has ls 3 [(0, .ref (V.2.2 11))]) : W p l e (rmD (d + 1)) s m args below meth c H locs 0 0 (MQ below (CtI V (cC V) (AC V) z) args s 0 0 (AC V)) (F0 m 0 ls []) := by
  unfold bX9_isRound_0 at h
  obtain ⟨hx, hb, hml, hown, hg, hrt, hlk, hK⟩ := id X
  refine lv_iconst (pc := 0) (v := 0) hx hb dX9_isRound_0 (by decide) ?_
  refine lv_istore_n (pc := 1) (lv' := [(1, .int ((0 : Int32))), (0, .ref (V.2.2 11))]) hx hb dX9_isRound_1 rfl hl (by decide) rfl (fun ls hl => ?_)
  exact lX9_isRound_2 X   N h hH (lv_sub hl [1, 0] rfl)
def eX9_isRound (N : Nat) : Nat → Wd → Option (Wd × Int32)
  | 0 => fun _  => none
  | d + 1 => fun w  => bX9_isRound_0 N d  w 
set_option maxHeartbeats 4000000 in
set_option maxRecDepth 20000 in
theorem mX9_isRound {l : Launch} {V : Ev} {N d : Nat} {w : Wd}  {z : Wd × Int32} (h : eX9_isRound N d w  = some z) : MetI l V (cC V) (AC V) yX9_isRound cX9_isRound 3 (some .boolean) d [.ref (V.2.2 11)] w z := by
  cases d with
  | zero => exact c_none h
  | succ d =>
    refine Met.ofW (cc := cX9_isRound) (maxL := 3) (ret := (some .boolean)) (by decide) rfl ?_
    intro p e s m args below meth c s₁ B hml hv
    obtain ⟨rfl, hP, hD, hK⟩ := hv
    have hts := atoms_spec (ws := .code yX9_isRound cX9_isRound 3 (some .boolean) :: gG) B.pre
    have X : CX V p s m ([.ref (V.2.2 11)] : List Value).toArray meth c cX9_isRound 3 RX9 (some .boolean) := ⟨B.exec, B.bytes, hml, findClass_of_methodNamed B.named, fun w hw => hts w (List.mem_cons_of_mem _ hw), B.returns, B.notSynchronized, hK⟩
    have hl := lv_entry ([.ref (V.2.2 11)] : List Value) (n := 3) (Nat.le_of_ble_eq_true rfl)
    rw [lg_entry_eq]
    generalize (lg_sl ([.ref (V.2.2 11)] : List Value) ++ List.replicate (3 - (lg_sl ([.ref (V.2.2 11)] : List Value)).length) Slot.unset).toArray = ls at hl ⊢
    have hl : lv_has ls 3 [(0, .ref (V.2.2 11))] := hl
    exact kX9_isRound_0 (N := N) X  h ⟨hP, hD, va_S.rf⟩ hl
theorem dX9_leadOf_0 : decode cX9_leadOf 0 = .ok (.iload_n 1, 1) := by decide +kernel
theorem dX9_leadOf_1 : decode cX9_leadOf 1 = .ok (.istore_n 2, 1) := by decide +kernel
theorem dX9_leadOf_2 : decode cX9_leadOf 2 = .ok (.iconst 0, 1) := by decide +kernel
theorem dX9_leadOf_3 : decode cX9_leadOf 3 = .ok (.istore_n 3, 1) := by decide +kernel
theorem dX9_leadOf_4 : decode cX9_leadOf 4 = .ok (.iload_n 3, 1) := by decide +kernel
theorem dX9_leadOf_5 : decode cX9_leadOf 5 = .ok (.sipush 158, 3) := by decide +kernel
theorem dX9_leadOf_8 : decode cX9_leadOf 8 = .ok (.if_icmp .ge 26, 3) := by decide +kernel
theorem dX9_leadOf_11 : decode cX9_leadOf 11 = .ok (.aload_n 0, 1) := by decide +kernel
theorem dX9_leadOf_12 : decode cX9_leadOf 12 = .ok (.getfield 11, 3) := by decide +kernel
theorem dX9_leadOf_15 : decode cX9_leadOf 15 = .ok (.iload_n 2, 1) := by decide +kernel
theorem dX9_leadOf_16 : decode cX9_leadOf 16 = .ok (.iaload, 1) := by decide +kernel
theorem dX9_leadOf_17 : decode cX9_leadOf 17 = .ok (.iload_n 2, 1) := by decide +kernel
theorem dX9_leadOf_18 : decode cX9_leadOf 18 = .ok (.if_icmp .eq 16, 3) := by decide +kernel
theorem dX9_leadOf_21 : decode cX9_leadOf 21 = .ok (.aload_n 0, 1) := by decide +kernel
theorem dX9_leadOf_22 : decode cX9_leadOf 22 = .ok (.getfield 11, 3) := by decide +kernel
theorem dX9_leadOf_25 : decode cX9_leadOf 25 = .ok (.iload_n 2, 1) := by decide +kernel
theorem dX9_leadOf_26 : decode cX9_leadOf 26 = .ok (.iaload, 1) := by decide +kernel
theorem dX9_leadOf_27 : decode cX9_leadOf 27 = .ok (.istore_n 2, 1) := by decide +kernel
theorem dX9_leadOf_28 : decode cX9_leadOf 28 = .ok (.iinc 3 1, 3) := by decide +kernel
theorem dX9_leadOf_31 : decode cX9_leadOf 31 = .ok (.goto (-27), 3) := by decide +kernel
theorem dX9_leadOf_34 : decode cX9_leadOf 34 = .ok (.iload_n 2, 1) := by decide +kernel
theorem dX9_leadOf_35 : decode cX9_leadOf 35 = .ok (.ireturn, 1) := by decide +kernel
def bX9_leadOf_34 (N d : Nat)   (w : Wd) (x2 : Int32) : Option (Wd × Int32) :=
  some (w, x2)
set_option maxHeartbeats 4000000 in
theorem kX9_leadOf_34 {V : Ev} {p : Program} {l : Launch} {e : Env} {N d : Nat} {s : State} {m : MethodId} {args : Array Value} {below : List Frame} {meth : Method} {c : Code} {z : Wd × Int32} (X : CX V p s m args meth c cX9_leadOf 4 RX9 (some .int))    {w : Wd} {x2 : Int32} {H : Heap} {locs : List Loc} {ls : Array Slot} (h : bX9_leadOf_34 N d   w x2 = some z) (hH : wH V (cC V) (AC V) s w H locs) (hl : lv_has ls 4 [(2, .int x2)]) : W p l e (rmD (d + 1)) s m args below meth c H locs 0 0 (MQ below (CtI V (cC V) (AC V) z) args s 0 0 (AC V)) (F0 m 34 ls []) := by
  unfold bX9_leadOf_34 at h
  obtain ⟨hx, hb, hml, hown, hg, hrt, hlk, hK⟩ := id X
  refine lv_iload_n (pc := 34) hx hb dX9_leadOf_34 rfl (lv_at hl 0 rfl) ?_
  exact r_iret (pc := 35) X hH h dX9_leadOf_35
def bX9_leadOf_4 (N d : Nat)  (rec4 : Wd → Int32 → Int32 → Option (Wd × Int32)) (w : Wd) (x2 : Int32) (x3 : Int32) : Option (Wd × Int32) :=
  if 158 ≤ x3 then (
    bX9_leadOf_34 N d   w x2
  ) else (
    c_ld w 57 158 x2 fun v1 =>
    if v1 = x2 then (
      bX9_leadOf_34 N d   w x2
    ) else (
      c_ld w 57 158 x2 fun v2 =>
      c_nm (x3 + 1) fun x3_3 =>
      rec4 w v2 x3_3
    )
  )
set_option maxHeartbeats 4000000 in
theorem kX9_leadOf_4 {V : Ev} {p : Program} {l : Launch} {e : Env} {N d : Nat} {s : State} {m : MethodId} {args : Array Value} {below : List Frame} {meth : Method} {c : Code} {z : Wd × Int32} (X : CX V p s m args meth c cX9_leadOf 4 RX9 (some .int))   {rec4 : Wd → Int32 → Int32 → Option (Wd × Int32)} (hr4 : ∀ (w : Wd) (x2 : Int32) (x3 : Int32) (H : Heap) (locs : List Loc) (ls : Array Slot), rec4 w x2 x3 = some z → wH V (cC V) (AC V) s w H locs → lv_has ls 4 [(0, .ref (V.2.2 11)), (2, .int x2), (3, .int x3)] → W p l e (rmD (d + 1)) s m args below meth c H locs 0 0 (MQ below (CtI V (cC V) (AC V) z) args s 0 0 (AC V)) (F0 m 4 ls [])) {w : Wd} {x2 : Int32} {x3 : Int32} {H : Heap} {locs : List Loc} {ls : Array Slot} (h : bX9_leadOf_4 N d  rec4 w x2 x3 = some z) (hH : wH V (cC V) (AC V) s w H locs) (hl : lv_has ls 4 [(0, .ref (V.2.2 11)), (2, .int x2), (3, .int x3)]) : W p l e (rmD (d + 1)) s m args below meth c H locs 0 0 (MQ below (CtI V (cC V) (AC V) z) args s 0 0 (AC V)) (F0 m 4 ls []) := by
  unfold bX9_leadOf_4 at h
  obtain ⟨hx, hb, hml, hown, hg, hrt, hlk, hK⟩ := id X
  refine lv_iload_n (pc := 4) hx hb dX9_leadOf_4 rfl (lv_at hl 2 rfl) ?_
  refine lv_sipush (pc := 5) (v := 158) hx hb dX9_leadOf_5 (by decide) ?_
  refine b_icmp_ge (pc := 8) (tgt := 34) hx hb h dX9_leadOf_8 (by decide) (fun h => ?_) (fun h => ?_)
  · exact kX9_leadOf_34 X   h hH (lv_sub hl [1] rfl)
  · refine lv_aload_n (pc := 11) hx hb dX9_leadOf_11 rfl (lv_at hl 0 rfl) ?_
    refine gC_X9_11_11 (pc := 12) X hH dX9_leadOf_12 ?_
    refine lv_iload_n (pc := 15) hx hb dX9_leadOf_15 rfl (lv_at hl 1 rfl) ?_
    refine r_ld (pc := 16) X (heC_53 V w) hH h dX9_leadOf_16 (fun v1 h => ?_)
    refine lv_iload_n (pc := 17) hx hb dX9_leadOf_17 rfl (lv_at hl 1 rfl) ?_
    refine b_icmp_eq (pc := 18) (tgt := 34) hx hb h dX9_leadOf_18 (by decide) (fun h => ?_) (fun h => ?_)
    · exact kX9_leadOf_34 X   h hH (lv_sub hl [1] rfl)
    · refine lv_aload_n (pc := 21) hx hb dX9_leadOf_21 rfl (lv_at hl 0 rfl) ?_
      refine gC_X9_11_11 (pc := 22) X hH dX9_leadOf_22 ?_
      refine lv_iload_n (pc := 25) hx hb dX9_leadOf_25 rfl (lv_at hl 1 rfl) ?_
      refine r_ld (pc := 26) X (heC_53 V w) hH h dX9_leadOf_26 (fun v2 h => ?_)
      refine lv_istore_n (pc := 27) (lv' := [(2, .int v2), (0, .ref (V.2.2 11)), (3, .int x3)]) hx hb dX9_leadOf_27 rfl hl (by decide) rfl (fun ls hl => ?_)
      obtain ⟨x3_3, ex3_3, h⟩ := c_nm_ex h
      refine lv_iinc (pc := 28) (v := x3_3) (lv' := [(3, .int x3_3), (2, .int v2), (0, .ref (V.2.2 11))]) hx hb dX9_leadOf_28 hl (k := 2) rfl (by rw [← ex3_3]; rfl) (by decide) rfl (fun ls hl => ?_)
      refine lv_goto (pc := 31) (tgt := 4) hx hb dX9_leadOf_31 (by decide) ?_
      exact hr4 _ _ _ _ _ _ h hH (lv_sub hl [2, 1, 0] rfl)
def fX9_leadOf_4 (N d : Nat)   : Nat → Wd → Int32 → Int32 → Option (Wd × Int32)
  | 0 => fun _ _ _ => none
  | n + 1 => fun w x2 x3 => bX9_leadOf_4 N d   (fX9_leadOf_4 N d   n) w x2 x3
theorem lX9_leadOf_4 {V : Ev} {p : Program} {l : Launch} {e : Env} {N d : Nat} {s : State} {m : MethodId} {args : Array Value} {below : List Frame} {meth : Method} {c : Code} {z : Wd × Int32} (X : CX V p s m args meth c cX9_leadOf 4 RX9 (some .int))    (n : Nat) {w : Wd} {x2 : Int32} {x3 : Int32} {H : Heap} {locs : List Loc} {ls : Array Slot} (h : fX9_leadOf_4 N d   n w x2 x3 = some z) (hH : wH V (cC V) (AC V) s w H locs) (hl : lv_has ls 4 [(0, .ref (V.2.2 11)), (2, .int x2), (3, .int x3)]) : W p l e (rmD (d + 1)) s m args below meth c H locs 0 0 (MQ below (CtI V (cC V) (AC V) z) args s 0 0 (AC V)) (F0 m 4 ls []) := by
  induction n generalizing w x2 x3 H locs ls with
  | zero => exact c_none h
  | succ n ih => exact kX9_leadOf_4 (N := N) X  (fun _ _ _ _ _ _ h hH hl => ih h hH hl) h hH hl
def bX9_leadOf_0 (N d : Nat)   (w : Wd) (x1 : Int32) : Option (Wd × Int32) :=
  fX9_leadOf_4 N d   N w x1 ((0 : Int32))
set_option maxHeartbeats 4000000 in
theorem kX9_leadOf_0 {V : Ev} {p : Program} {l : Launch} {e : Env} {N d : Nat} {s : State} {m : MethodId} {args : Array Value} {below : List Frame} {meth : Method} {c : Code} {z : Wd × Int32} (X : CX V p s m args meth c cX9_leadOf 4 RX9 (some .int))    {w : Wd} {x1 : Int32} {H : Heap} {locs : List Loc} {ls : Array Slot} (h : bX9_leadOf_0 N d   w x1 = some z) (hH : wH V (cC V) (AC V) s w H locs) (hl : lv_has ls 4 [(0, .ref (V.2.2 11)), (1, .int x1)]) : W p l e (rmD (d + 1)) s m args below meth c H locs 0 0 (MQ below (CtI V (cC V) (AC V) z) args s 0 0 (AC V)) (F0 m 0 ls []) := by
  unfold bX9_leadOf_0 at h
  obtain ⟨hx, hb, hml, hown, hg, hrt, hlk, hK⟩ := id X
  refine lv_iload_n (pc := 0) hx hb dX9_leadOf_0 rfl (lv_at hl 1 rfl) ?_
  refine lv_istore_n (pc := 1) (lv' := [(2, .int x1), (0, .ref (V.2.2 11)), (1, .int x1)]) hx hb dX9_leadOf_1 rfl hl (by decide) rfl (fun ls hl => ?_)
  refine lv_iconst (pc := 2) (v := 0) hx hb dX9_leadOf_2 (by decide) ?_
  refine lv_istore_n (pc := 3) (lv' := [(3, .int ((0 : Int32))), (2, .int x1), (0, .ref (V.2.2 11)), (1, .int x1)]) hx hb dX9_leadOf_3 rfl hl (by decide) rfl (fun ls hl => ?_)
  exact lX9_leadOf_4 X   N h hH (lv_sub hl [2, 1, 0] rfl)
def eX9_leadOf (N : Nat) : Nat → Wd → Int32 → Option (Wd × Int32)
  | 0 => fun _ _ => none
  | d + 1 => fun w x1 => bX9_leadOf_0 N d  w x1
set_option maxHeartbeats 4000000 in
set_option maxRecDepth 20000 in
theorem mX9_leadOf {l : Launch} {V : Ev} {N d : Nat} {w : Wd} {x1 : Int32} {z : Wd × Int32} (h : eX9_leadOf N d w x1 = some z) : MetI l V (cC V) (AC V) yX9_leadOf cX9_leadOf 4 (some .int) d [.ref (V.2.2 11), .int x1] w z := by
  cases d with
  | zero => exact c_none h
  | succ d =>
    refine Met.ofW (cc := cX9_leadOf) (maxL := 4) (ret := (some .int)) (by decide) rfl ?_
    intro p e s m args below meth c s₁ B hml hv
    obtain ⟨rfl, hP, hD, hK⟩ := hv
    have hts := atoms_spec (ws := .code yX9_leadOf cX9_leadOf 4 (some .int) :: gG) B.pre
    have X : CX V p s m ([.ref (V.2.2 11), .int x1] : List Value).toArray meth c cX9_leadOf 4 RX9 (some .int) := ⟨B.exec, B.bytes, hml, findClass_of_methodNamed B.named, fun w hw => hts w (List.mem_cons_of_mem _ hw), B.returns, B.notSynchronized, hK⟩
    have hl := lv_entry ([.ref (V.2.2 11), .int x1] : List Value) (n := 4) (Nat.le_of_ble_eq_true rfl)
    rw [lg_entry_eq]
    generalize (lg_sl ([.ref (V.2.2 11), .int x1] : List Value) ++ List.replicate (4 - (lg_sl ([.ref (V.2.2 11), .int x1] : List Value)).length) Slot.unset).toArray = ls at hl ⊢
    have hl : lv_has ls 4 [(0, .ref (V.2.2 11)), (1, .int x1)] := hl
    exact kX9_leadOf_0 (N := N) X  h ⟨hP, hD, va_S.rf⟩ hl
theorem dX9_merge_0 : decode cX9_merge 0 = .ok (.iload_n 1, 1) := by decide +kernel
theorem dX9_merge_1 : decode cX9_merge 1 = .ok (.iload_n 2, 1) := by decide +kernel
theorem dX9_merge_2 : decode cX9_merge 2 = .ok (.if_icmp .ne 5, 3) := by decide +kernel
theorem dX9_merge_5 : decode cX9_merge 5 = .ok (.iconst 1, 1) := by decide +kernel
theorem dX9_merge_6 : decode cX9_merge 6 = .ok (.ireturn, 1) := by decide +kernel
theorem dX9_merge_7 : decode cX9_merge 7 = .ok (.aload_n 0, 1) := by decide +kernel
theorem dX9_merge_8 : decode cX9_merge 8 = .ok (.getfield 17, 3) := by decide +kernel
theorem dX9_merge_11 : decode cX9_merge 11 = .ok (.iload_n 1, 1) := by decide +kernel
theorem dX9_merge_12 : decode cX9_merge 12 = .ok (.iaload, 1) := by decide +kernel
theorem dX9_merge_13 : decode cX9_merge 13 = .ok (.istore_n 3, 1) := by decide +kernel
theorem dX9_merge_14 : decode cX9_merge 14 = .ok (.aload_n 0, 1) := by decide +kernel
theorem dX9_merge_15 : decode cX9_merge 15 = .ok (.getfield 17, 3) := by decide +kernel
theorem dX9_merge_18 : decode cX9_merge 18 = .ok (.iload_n 2, 1) := by decide +kernel
theorem dX9_merge_19 : decode cX9_merge 19 = .ok (.iaload, 1) := by decide +kernel
theorem dX9_merge_20 : decode cX9_merge 20 = .ok (.istore 4, 2) := by decide +kernel
theorem dX9_merge_22 : decode cX9_merge 22 = .ok (.aload_n 0, 1) := by decide +kernel
theorem dX9_merge_23 : decode cX9_merge 23 = .ok (.getfield 11, 3) := by decide +kernel
theorem dX9_merge_26 : decode cX9_merge 26 = .ok (.iload_n 1, 1) := by decide +kernel
theorem dX9_merge_27 : decode cX9_merge 27 = .ok (.iload_n 2, 1) := by decide +kernel
theorem dX9_merge_28 : decode cX9_merge 28 = .ok (.iastore, 1) := by decide +kernel
theorem dX9_merge_29 : decode cX9_merge 29 = .ok (.iload 4, 2) := by decide +kernel
theorem dX9_merge_31 : decode cX9_merge 31 = .ok (.invokestatic 60, 3) := by decide +kernel
theorem dX9_merge_34 : decode cX9_merge 34 = .ok (.ifCond .eq 12, 3) := by decide +kernel
theorem dX9_merge_37 : decode cX9_merge 37 = .ok (.aload_n 0, 1) := by decide +kernel
theorem dX9_merge_38 : decode cX9_merge 38 = .ok (.getfield 17, 3) := by decide +kernel
theorem dX9_merge_41 : decode cX9_merge 41 = .ok (.iload_n 2, 1) := by decide +kernel
theorem dX9_merge_42 : decode cX9_merge 42 = .ok (.iload_n 3, 1) := by decide +kernel
theorem dX9_merge_43 : decode cX9_merge 43 = .ok (.iastore, 1) := by decide +kernel
theorem dX9_merge_44 : decode cX9_merge 44 = .ok (.iconst 1, 1) := by decide +kernel
theorem dX9_merge_45 : decode cX9_merge 45 = .ok (.ireturn, 1) := by decide +kernel
theorem dX9_merge_46 : decode cX9_merge 46 = .ok (.iload_n 3, 1) := by decide +kernel
theorem dX9_merge_47 : decode cX9_merge 47 = .ok (.invokestatic 60, 3) := by decide +kernel
theorem dX9_merge_50 : decode cX9_merge 50 = .ok (.ifCond .eq 5, 3) := by decide +kernel
theorem dX9_merge_53 : decode cX9_merge 53 = .ok (.iconst 1, 1) := by decide +kernel
theorem dX9_merge_54 : decode cX9_merge 54 = .ok (.ireturn, 1) := by decide +kernel
theorem dX9_merge_55 : decode cX9_merge 55 = .ok (.aload_n 0, 1) := by decide +kernel
theorem dX9_merge_56 : decode cX9_merge 56 = .ok (.getfield 32, 3) := by decide +kernel
theorem dX9_merge_59 : decode cX9_merge 59 = .ok (.getfield 64, 3) := by decide +kernel
theorem dX9_merge_62 : decode cX9_merge 62 = .ok (.iload_n 3, 1) := by decide +kernel
theorem dX9_merge_63 : decode cX9_merge 63 = .ok (.iaload, 1) := by decide +kernel
theorem dX9_merge_64 : decode cX9_merge 64 = .ok (.aload_n 0, 1) := by decide +kernel
theorem dX9_merge_65 : decode cX9_merge 65 = .ok (.getfield 32, 3) := by decide +kernel
theorem dX9_merge_68 : decode cX9_merge 68 = .ok (.getfield 64, 3) := by decide +kernel
theorem dX9_merge_71 : decode cX9_merge 71 = .ok (.iload 4, 2) := by decide +kernel
theorem dX9_merge_73 : decode cX9_merge 73 = .ok (.iaload, 1) := by decide +kernel
theorem dX9_merge_74 : decode cX9_merge 74 = .ok (.if_icmp .eq 5, 3) := by decide +kernel
theorem dX9_merge_77 : decode cX9_merge 77 = .ok (.iconst 0, 1) := by decide +kernel
theorem dX9_merge_78 : decode cX9_merge 78 = .ok (.ireturn, 1) := by decide +kernel
theorem dX9_merge_79 : decode cX9_merge 79 = .ok (.aload_n 0, 1) := by decide +kernel
theorem dX9_merge_80 : decode cX9_merge 80 = .ok (.aload_n 0, 1) := by decide +kernel
theorem dX9_merge_81 : decode cX9_merge 81 = .ok (.getfield 32, 3) := by decide +kernel
theorem dX9_merge_84 : decode cX9_merge 84 = .ok (.getfield 67, 3) := by decide +kernel
theorem dX9_merge_87 : decode cX9_merge 87 = .ok (.iload_n 3, 1) := by decide +kernel
theorem dX9_merge_88 : decode cX9_merge 88 = .ok (.iaload, 1) := by decide +kernel
theorem dX9_merge_89 : decode cX9_merge 89 = .ok (.aload_n 0, 1) := by decide +kernel
theorem dX9_merge_90 : decode cX9_merge 90 = .ok (.getfield 32, 3) := by decide +kernel
theorem dX9_merge_93 : decode cX9_merge 93 = .ok (.getfield 67, 3) := by decide +kernel
theorem dX9_merge_96 : decode cX9_merge 96 = .ok (.iload 4, 2) := by decide +kernel
theorem dX9_merge_98 : decode cX9_merge 98 = .ok (.iaload, 1) := by decide +kernel
theorem dX9_merge_99 : decode cX9_merge 99 = .ok (.invokevirtual 43, 3) := by decide +kernel
theorem dX9_merge_102 : decode cX9_merge 102 = .ok (.aload_n 0, 1) := by decide +kernel
theorem dX9_merge_103 : decode cX9_merge 103 = .ok (.aload_n 0, 1) := by decide +kernel
theorem dX9_merge_104 : decode cX9_merge 104 = .ok (.getfield 32, 3) := by decide +kernel
theorem dX9_merge_107 : decode cX9_merge 107 = .ok (.getfield 70, 3) := by decide +kernel
theorem dX9_merge_110 : decode cX9_merge 110 = .ok (.iload_n 3, 1) := by decide +kernel
theorem dX9_merge_111 : decode cX9_merge 111 = .ok (.iaload, 1) := by decide +kernel
theorem dX9_merge_112 : decode cX9_merge 112 = .ok (.aload_n 0, 1) := by decide +kernel
theorem dX9_merge_113 : decode cX9_merge 113 = .ok (.getfield 32, 3) := by decide +kernel
theorem dX9_merge_116 : decode cX9_merge 116 = .ok (.getfield 70, 3) := by decide +kernel
theorem dX9_merge_119 : decode cX9_merge 119 = .ok (.iload 4, 2) := by decide +kernel
theorem dX9_merge_121 : decode cX9_merge 121 = .ok (.iaload, 1) := by decide +kernel
theorem dX9_merge_122 : decode cX9_merge 122 = .ok (.invokevirtual 43, 3) := by decide +kernel
theorem dX9_merge_125 : decode cX9_merge 125 = .ok (.iconst 1, 1) := by decide +kernel
theorem dX9_merge_126 : decode cX9_merge 126 = .ok (.ireturn, 1) := by decide +kernel
def bX9_merge_0 (N d : Nat)   (w : Wd) (x1 : Int32) (x2 : Int32) : Option (Wd × Int32) :=
  if x1 = x2 then (
    some (w, 1)
  ) else (
    c_ld w 58 158 x1 fun v1 =>
    c_ld w 58 158 x2 fun v2 =>
    c_st w 57 158 x1 x2 fun w3 =>
    c_cl (eX5_isVariable N d w3 v2) fun w4 v5 =>
    if v5 = 0 then (
      c_cl (eX5_isVariable N d w4 v1) fun w6 v7 =>
      if v7 = 0 then (
        c_ld w6 50 158 v1 fun v8 =>
        c_ld w6 50 158 v2 fun v9 =>
        if v8 = v9 then (
          c_ld w6 52 158 v1 fun v10 =>
          c_ld w6 52 158 v2 fun v11 =>
          c_cv (eX9_await N d w6 v10 v11) fun w12 =>
          c_ld w12 51 158 v1 fun v13 =>
          c_ld w12 51 158 v2 fun v14 =>
          c_cv (eX9_await N d w12 v13 v14) fun w15 =>
          some (w15, 1)
        ) else (
          some (w6, 0)
        )
      ) else (
        some (w6, 1)
      )
    ) else (
      c_st w4 58 158 x2 v1 fun w16 =>
      some (w16, 1)
    )
  )
set_option maxHeartbeats 4000000 in
theorem kX9_merge_0 {V : Ev} {p : Program} {l : Launch} {e : Env} {N d : Nat} {s : State} {m : MethodId} {args : Array Value} {below : List Frame} {meth : Method} {c : Code} {z : Wd × Int32} (X : CX V p s m args meth c cX9_merge 5 RX9 (some .boolean))    {w : Wd} {x1 : Int32} {x2 : Int32} {H : Heap} {locs : List Loc} {ls : Array Slot} (h : bX9_merge_0 N d   w x1 x2 = some z) (hH : wH V (cC V) (AC V) s w H locs) (hl : lv_has ls 5 [(0, .ref (V.2.2 11)), (1, .int x1), (2, .int x2)]) : W p l e (rmD (d + 1)) s m args below meth c H locs 0 0 (MQ below (CtI V (cC V) (AC V) z) args s 0 0 (AC V)) (F0 m 0 ls []) := by
  unfold bX9_merge_0 at h
  obtain ⟨hx, hb, hml, hown, hg, hrt, hlk, hK⟩ := id X
  refine lv_iload_n (pc := 0) hx hb dX9_merge_0 rfl (lv_at hl 1 rfl) ?_
  refine lv_iload_n (pc := 1) hx hb dX9_merge_1 rfl (lv_at hl 2 rfl) ?_
  refine b_icmp_ne (pc := 2) (tgt := 7) hx hb h dX9_merge_2 (by decide) (fun h => ?_) (fun h => ?_)
  · refine lv_aload_n (pc := 7) hx hb dX9_merge_7 rfl (lv_at hl 0 rfl) ?_
    refine gC_X9_17_11 (pc := 8) X hH dX9_merge_8 ?_
    refine lv_iload_n (pc := 11) hx hb dX9_merge_11 rfl (lv_at hl 1 rfl) ?_
    refine r_ld (pc := 12) X (heC_54 V w) hH h dX9_merge_12 (fun v1 h => ?_)
    refine lv_istore_n (pc := 13) (lv' := [(3, .int v1), (0, .ref (V.2.2 11)), (1, .int x1), (2, .int x2)]) hx hb dX9_merge_13 rfl hl (by decide) rfl (fun ls hl => ?_)
    refine lv_aload_n (pc := 14) hx hb dX9_merge_14 rfl (lv_at hl 1 rfl) ?_
    refine gC_X9_17_11 (pc := 15) X hH dX9_merge_15 ?_
    refine lv_iload_n (pc := 18) hx hb dX9_merge_18 rfl (lv_at hl 3 rfl) ?_
    refine r_ld (pc := 19) X (heC_54 V w) hH h dX9_merge_19 (fun v2 h => ?_)
    refine lv_istore (pc := 20) (lv' := [(4, .int v2), (3, .int v1), (0, .ref (V.2.2 11)), (1, .int x1), (2, .int x2)]) hx hb dX9_merge_20 hl (by decide) rfl (fun ls hl => ?_)
    refine lv_aload_n (pc := 22) hx hb dX9_merge_22 rfl (lv_at hl 2 rfl) ?_
    refine gC_X9_11_11 (pc := 23) X hH dX9_merge_23 ?_
    refine lv_iload_n (pc := 26) hx hb dX9_merge_26 rfl (lv_at hl 3 rfl) ?_
    refine lv_iload_n (pc := 27) hx hb dX9_merge_27 rfl (lv_at hl 4 rfl) ?_
    refine r_st (pc := 28) X (heC_53 V w) (hsC_53 V w) hH h dX9_merge_28 (fun w3 H locs h hH => ?_)
    refine lv_iload (pc := 29) hx hb dX9_merge_29 (lv_at hl 0 rfl) ?_
    refine r_csI (pc := 31) (As := [.int v2]) (rest := []) X hH (fun x hx => mX5_isVariable hx) cs_X9_60 rfl rfl (Nat.le_of_ble_eq_true rfl) hl.1 h dX9_merge_31 (fun w4 v5 H locs h hH => ?_)
    refine b_if_eq (pc := 34) (tgt := 46) hx hb h dX9_merge_34 (by decide) (fun h => ?_) (fun h => ?_)
    · refine lv_iload_n (pc := 46) hx hb dX9_merge_46 rfl (lv_at hl 1 rfl) ?_
      refine r_csI (pc := 47) (As := [.int v1]) (rest := []) X hH (fun x hx => mX5_isVariable hx) cs_X9_60 rfl rfl (Nat.le_of_ble_eq_true rfl) hl.1 h dX9_merge_47 (fun w6 v7 H locs h hH => ?_)
      refine b_if_eq (pc := 50) (tgt := 55) hx hb h dX9_merge_50 (by decide) (fun h => ?_) (fun h => ?_)
      · refine lv_aload_n (pc := 55) hx hb dX9_merge_55 rfl (lv_at hl 2 rfl) ?_
        refine gC_X9_32_11 (pc := 56) X hH dX9_merge_56 ?_
        refine gC_X9_64_10 (pc := 59) X hH dX9_merge_59 ?_
        refine lv_iload_n (pc := 62) hx hb dX9_merge_62 rfl (lv_at hl 1 rfl) ?_
        refine r_ld (pc := 63) X (heC_46 V w6) hH h dX9_merge_63 (fun v8 h => ?_)
        refine lv_aload_n (pc := 64) hx hb dX9_merge_64 rfl (lv_at hl 2 rfl) ?_
        refine gC_X9_32_11 (pc := 65) X hH dX9_merge_65 ?_
        refine gC_X9_64_10 (pc := 68) X hH dX9_merge_68 ?_
        refine lv_iload (pc := 71) hx hb dX9_merge_71 (lv_at hl 0 rfl) ?_
        refine r_ld (pc := 73) X (heC_46 V w6) hH h dX9_merge_73 (fun v9 h => ?_)
        refine b_icmp_eq (pc := 74) (tgt := 79) hx hb h dX9_merge_74 (by decide) (fun h => ?_) (fun h => ?_)
        · refine lv_aload_n (pc := 79) hx hb dX9_merge_79 rfl (lv_at hl 2 rfl) ?_
          refine lv_aload_n (pc := 80) hx hb dX9_merge_80 rfl (lv_at hl 2 rfl) ?_
          refine gC_X9_32_11 (pc := 81) X hH dX9_merge_81 ?_
          refine gC_X9_67_10 (pc := 84) X hH dX9_merge_84 ?_
          refine lv_iload_n (pc := 87) hx hb dX9_merge_87 rfl (lv_at hl 1 rfl) ?_
          refine r_ld (pc := 88) X (heC_48 V w6) hH h dX9_merge_88 (fun v10 h => ?_)
          refine lv_aload_n (pc := 89) hx hb dX9_merge_89 rfl (lv_at hl 2 rfl) ?_
          refine gC_X9_32_11 (pc := 90) X hH dX9_merge_90 ?_
          refine gC_X9_67_10 (pc := 93) X hH dX9_merge_93 ?_
          refine lv_iload (pc := 96) hx hb dX9_merge_96 (lv_at hl 0 rfl) ?_
          refine r_ld (pc := 98) X (heC_48 V w6) hH h dX9_merge_98 (fun v11 h => ?_)
          refine r_cvV (pc := 99) (As := [.int v10, .int v11]) (rest := []) X hH (fun x hx => mX9_await hx) cw_X9_43 (heC_11 V w6) rfl rfl rfl (Nat.le_of_ble_eq_true rfl) hl.1 h dX9_merge_99 (fun w12 H locs h hH => ?_)
          refine lv_aload_n (pc := 102) hx hb dX9_merge_102 rfl (lv_at hl 2 rfl) ?_
          refine lv_aload_n (pc := 103) hx hb dX9_merge_103 rfl (lv_at hl 2 rfl) ?_
          refine gC_X9_32_11 (pc := 104) X hH dX9_merge_104 ?_
          refine gC_X9_70_10 (pc := 107) X hH dX9_merge_107 ?_
          refine lv_iload_n (pc := 110) hx hb dX9_merge_110 rfl (lv_at hl 1 rfl) ?_
          refine r_ld (pc := 111) X (heC_47 V w12) hH h dX9_merge_111 (fun v13 h => ?_)
          refine lv_aload_n (pc := 112) hx hb dX9_merge_112 rfl (lv_at hl 2 rfl) ?_
          refine gC_X9_32_11 (pc := 113) X hH dX9_merge_113 ?_
          refine gC_X9_70_10 (pc := 116) X hH dX9_merge_116 ?_
          refine lv_iload (pc := 119) hx hb dX9_merge_119 (lv_at hl 0 rfl) ?_
          refine r_ld (pc := 121) X (heC_47 V w12) hH h dX9_merge_121 (fun v14 h => ?_)
          refine r_cvV (pc := 122) (As := [.int v13, .int v14]) (rest := []) X hH (fun x hx => mX9_await hx) cw_X9_43 (heC_11 V w12) rfl rfl rfl (Nat.le_of_ble_eq_true rfl) hl.1 h dX9_merge_122 (fun w15 H locs h hH => ?_)
          refine lv_iconst (pc := 125) (v := 1) hx hb dX9_merge_125 (by decide) ?_
          exact r_zretk (pc := 126) (by decide) X hH h dX9_merge_126
        · refine lv_iconst (pc := 77) (v := 0) hx hb dX9_merge_77 (by decide) ?_
          exact r_zretk (pc := 78) (by decide) X hH h dX9_merge_78
      · refine lv_iconst (pc := 53) (v := 1) hx hb dX9_merge_53 (by decide) ?_
        exact r_zretk (pc := 54) (by decide) X hH h dX9_merge_54
    · refine lv_aload_n (pc := 37) hx hb dX9_merge_37 rfl (lv_at hl 2 rfl) ?_
      refine gC_X9_17_11 (pc := 38) X hH dX9_merge_38 ?_
      refine lv_iload_n (pc := 41) hx hb dX9_merge_41 rfl (lv_at hl 4 rfl) ?_
      refine lv_iload_n (pc := 42) hx hb dX9_merge_42 rfl (lv_at hl 1 rfl) ?_
      refine r_st (pc := 43) X (heC_54 V w4) (hsC_54 V w4) hH h dX9_merge_43 (fun w16 H locs h hH => ?_)
      refine lv_iconst (pc := 44) (v := 1) hx hb dX9_merge_44 (by decide) ?_
      exact r_zretk (pc := 45) (by decide) X hH h dX9_merge_45
  · refine lv_iconst (pc := 5) (v := 1) hx hb dX9_merge_5 (by decide) ?_
    exact r_zretk (pc := 6) (by decide) X hH h dX9_merge_6
def eX9_merge (N : Nat) : Nat → Wd → Int32 → Int32 → Option (Wd × Int32)
  | 0 => fun _ _ _ => none
  | d + 1 => fun w x1 x2 => bX9_merge_0 N d  w x1 x2
set_option maxHeartbeats 4000000 in
set_option maxRecDepth 20000 in
theorem mX9_merge {l : Launch} {V : Ev} {N d : Nat} {w : Wd} {x1 : Int32} {x2 : Int32} {z : Wd × Int32} (h : eX9_merge N d w x1 x2 = some z) : MetI l V (cC V) (AC V) yX9_merge cX9_merge 5 (some .boolean) d [.ref (V.2.2 11), .int x1, .int x2] w z := by
  cases d with
  | zero => exact c_none h
  | succ d =>
    refine Met.ofW (cc := cX9_merge) (maxL := 5) (ret := (some .boolean)) (by decide) rfl ?_
    intro p e s m args below meth c s₁ B hml hv
    obtain ⟨rfl, hP, hD, hK⟩ := hv
    have hts := atoms_spec (ws := .code yX9_merge cX9_merge 5 (some .boolean) :: gG) B.pre
    have X : CX V p s m ([.ref (V.2.2 11), .int x1, .int x2] : List Value).toArray meth c cX9_merge 5 RX9 (some .boolean) := ⟨B.exec, B.bytes, hml, findClass_of_methodNamed B.named, fun w hw => hts w (List.mem_cons_of_mem _ hw), B.returns, B.notSynchronized, hK⟩
    have hl := lv_entry ([.ref (V.2.2 11), .int x1, .int x2] : List Value) (n := 5) (Nat.le_of_ble_eq_true rfl)
    rw [lg_entry_eq]
    generalize (lg_sl ([.ref (V.2.2 11), .int x1, .int x2] : List Value) ++ List.replicate (5 - (lg_sl ([.ref (V.2.2 11), .int x1, .int x2] : List Value)).length) Slot.unset).toArray = ls at hl ⊢
    have hl : lv_has ls 5 [(0, .ref (V.2.2 11)), (1, .int x1), (2, .int x2)] := hl
    exact kX9_merge_0 (N := N) X  h ⟨hP, hD, va_S.rf⟩ hl
theorem dX9_unify_0 : decode cX9_unify 0 = .ok (.iconst 0, 1) := by decide +kernel
theorem dX9_unify_1 : decode cX9_unify 1 = .ok (.istore_n 3, 1) := by decide +kernel
theorem dX9_unify_2 : decode cX9_unify 2 = .ok (.iload_n 3, 1) := by decide +kernel
theorem dX9_unify_3 : decode cX9_unify 3 = .ok (.aload_n 0, 1) := by decide +kernel
theorem dX9_unify_4 : decode cX9_unify 4 = .ok (.getfield 32, 3) := by decide +kernel
theorem dX9_unify_7 : decode cX9_unify 7 = .ok (.getfield 36, 3) := by decide +kernel
theorem dX9_unify_10 : decode cX9_unify 10 = .ok (.if_icmp .ge 23, 3) := by decide +kernel
theorem dX9_unify_13 : decode cX9_unify 13 = .ok (.aload_n 0, 1) := by decide +kernel
theorem dX9_unify_14 : decode cX9_unify 14 = .ok (.getfield 11, 3) := by decide +kernel
theorem dX9_unify_17 : decode cX9_unify 17 = .ok (.iload_n 3, 1) := by decide +kernel
theorem dX9_unify_18 : decode cX9_unify 18 = .ok (.iload_n 3, 1) := by decide +kernel
theorem dX9_unify_19 : decode cX9_unify 19 = .ok (.iastore, 1) := by decide +kernel
theorem dX9_unify_20 : decode cX9_unify 20 = .ok (.aload_n 0, 1) := by decide +kernel
theorem dX9_unify_21 : decode cX9_unify 21 = .ok (.getfield 17, 3) := by decide +kernel
theorem dX9_unify_24 : decode cX9_unify 24 = .ok (.iload_n 3, 1) := by decide +kernel
theorem dX9_unify_25 : decode cX9_unify 25 = .ok (.iload_n 3, 1) := by decide +kernel
theorem dX9_unify_26 : decode cX9_unify 26 = .ok (.iastore, 1) := by decide +kernel
theorem dX9_unify_27 : decode cX9_unify 27 = .ok (.iinc 3 1, 3) := by decide +kernel
theorem dX9_unify_30 : decode cX9_unify 30 = .ok (.goto (-28), 3) := by decide +kernel
theorem dX9_unify_33 : decode cX9_unify 33 = .ok (.aload_n 0, 1) := by decide +kernel
theorem dX9_unify_34 : decode cX9_unify 34 = .ok (.iconst 0, 1) := by decide +kernel
theorem dX9_unify_35 : decode cX9_unify 35 = .ok (.putfield 40, 3) := by decide +kernel
theorem dX9_unify_38 : decode cX9_unify 38 = .ok (.aload_n 0, 1) := by decide +kernel
theorem dX9_unify_39 : decode cX9_unify 39 = .ok (.iload_n 1, 1) := by decide +kernel
theorem dX9_unify_40 : decode cX9_unify 40 = .ok (.iload_n 2, 1) := by decide +kernel
theorem dX9_unify_41 : decode cX9_unify 41 = .ok (.invokevirtual 43, 3) := by decide +kernel
theorem dX9_unify_44 : decode cX9_unify 44 = .ok (.iconst 0, 1) := by decide +kernel
theorem dX9_unify_45 : decode cX9_unify 45 = .ok (.istore_n 3, 1) := by decide +kernel
theorem dX9_unify_46 : decode cX9_unify 46 = .ok (.iload_n 3, 1) := by decide +kernel
theorem dX9_unify_47 : decode cX9_unify 47 = .ok (.ldc 47, 2) := by decide +kernel
theorem dX9_unify_49 : decode cX9_unify 49 = .ok (.if_icmp .ge 61, 3) := by decide +kernel
theorem dX9_unify_52 : decode cX9_unify 52 = .ok (.aload_n 0, 1) := by decide +kernel
theorem dX9_unify_53 : decode cX9_unify 53 = .ok (.getfield 40, 3) := by decide +kernel
theorem dX9_unify_56 : decode cX9_unify 56 = .ok (.ifCond .le 54, 3) := by decide +kernel
theorem dX9_unify_59 : decode cX9_unify 59 = .ok (.aload_n 0, 1) := by decide +kernel
theorem dX9_unify_60 : decode cX9_unify 60 = .ok (.dup, 1) := by decide +kernel
theorem dX9_unify_61 : decode cX9_unify 61 = .ok (.getfield 40, 3) := by decide +kernel
theorem dX9_unify_64 : decode cX9_unify 64 = .ok (.iconst 1, 1) := by decide +kernel
theorem dX9_unify_65 : decode cX9_unify 65 = .ok (.isub, 1) := by decide +kernel
theorem dX9_unify_66 : decode cX9_unify 66 = .ok (.putfield 40, 3) := by decide +kernel
theorem dX9_unify_69 : decode cX9_unify 69 = .ok (.aload_n 0, 1) := by decide +kernel
theorem dX9_unify_70 : decode cX9_unify 70 = .ok (.aload_n 0, 1) := by decide +kernel
theorem dX9_unify_71 : decode cX9_unify 71 = .ok (.aload_n 0, 1) := by decide +kernel
theorem dX9_unify_72 : decode cX9_unify 72 = .ok (.getfield 23, 3) := by decide +kernel
theorem dX9_unify_75 : decode cX9_unify 75 = .ok (.aload_n 0, 1) := by decide +kernel
theorem dX9_unify_76 : decode cX9_unify 76 = .ok (.getfield 40, 3) := by decide +kernel
theorem dX9_unify_79 : decode cX9_unify 79 = .ok (.iaload, 1) := by decide +kernel
theorem dX9_unify_80 : decode cX9_unify 80 = .ok (.invokevirtual 48, 3) := by decide +kernel
theorem dX9_unify_83 : decode cX9_unify 83 = .ok (.aload_n 0, 1) := by decide +kernel
theorem dX9_unify_84 : decode cX9_unify 84 = .ok (.aload_n 0, 1) := by decide +kernel
theorem dX9_unify_85 : decode cX9_unify 85 = .ok (.getfield 26, 3) := by decide +kernel
theorem dX9_unify_88 : decode cX9_unify 88 = .ok (.aload_n 0, 1) := by decide +kernel
theorem dX9_unify_89 : decode cX9_unify 89 = .ok (.getfield 40, 3) := by decide +kernel
theorem dX9_unify_92 : decode cX9_unify 92 = .ok (.iaload, 1) := by decide +kernel
theorem dX9_unify_93 : decode cX9_unify 93 = .ok (.invokevirtual 48, 3) := by decide +kernel
theorem dX9_unify_96 : decode cX9_unify 96 = .ok (.invokevirtual 52, 3) := by decide +kernel
theorem dX9_unify_99 : decode cX9_unify 99 = .ok (.ifCond .ne 5, 3) := by decide +kernel
theorem dX9_unify_102 : decode cX9_unify 102 = .ok (.iconst 0, 1) := by decide +kernel
theorem dX9_unify_103 : decode cX9_unify 103 = .ok (.ireturn, 1) := by decide +kernel
theorem dX9_unify_104 : decode cX9_unify 104 = .ok (.iinc 3 1, 3) := by decide +kernel
theorem dX9_unify_107 : decode cX9_unify 107 = .ok (.goto (-61), 3) := by decide +kernel
theorem dX9_unify_110 : decode cX9_unify 110 = .ok (.iconst 0, 1) := by decide +kernel
theorem dX9_unify_111 : decode cX9_unify 111 = .ok (.istore_n 3, 1) := by decide +kernel
theorem dX9_unify_112 : decode cX9_unify 112 = .ok (.iload_n 3, 1) := by decide +kernel
theorem dX9_unify_113 : decode cX9_unify 113 = .ok (.aload_n 0, 1) := by decide +kernel
theorem dX9_unify_114 : decode cX9_unify 114 = .ok (.getfield 32, 3) := by decide +kernel
theorem dX9_unify_117 : decode cX9_unify 117 = .ok (.getfield 36, 3) := by decide +kernel
theorem dX9_unify_120 : decode cX9_unify 120 = .ok (.if_icmp .ge 25, 3) := by decide +kernel
theorem dX9_unify_123 : decode cX9_unify 123 = .ok (.aload_n 0, 1) := by decide +kernel
theorem dX9_unify_124 : decode cX9_unify 124 = .ok (.getfield 20, 3) := by decide +kernel
theorem dX9_unify_127 : decode cX9_unify 127 = .ok (.iload_n 3, 1) := by decide +kernel
theorem dX9_unify_128 : decode cX9_unify 128 = .ok (.aload_n 0, 1) := by decide +kernel
theorem dX9_unify_129 : decode cX9_unify 129 = .ok (.getfield 17, 3) := by decide +kernel
theorem dX9_unify_132 : decode cX9_unify 132 = .ok (.aload_n 0, 1) := by decide +kernel
theorem dX9_unify_133 : decode cX9_unify 133 = .ok (.iload_n 3, 1) := by decide +kernel
theorem dX9_unify_134 : decode cX9_unify 134 = .ok (.invokevirtual 48, 3) := by decide +kernel
theorem dX9_unify_137 : decode cX9_unify 137 = .ok (.iaload, 1) := by decide +kernel
theorem dX9_unify_138 : decode cX9_unify 138 = .ok (.iastore, 1) := by decide +kernel
theorem dX9_unify_139 : decode cX9_unify 139 = .ok (.iinc 3 1, 3) := by decide +kernel
theorem dX9_unify_142 : decode cX9_unify 142 = .ok (.goto (-30), 3) := by decide +kernel
theorem dX9_unify_145 : decode cX9_unify 145 = .ok (.aload_n 0, 1) := by decide +kernel
theorem dX9_unify_146 : decode cX9_unify 146 = .ok (.invokevirtual 56, 3) := by decide +kernel
theorem dX9_unify_149 : decode cX9_unify 149 = .ok (.ifCond .ne 7, 3) := by decide +kernel
theorem dX9_unify_152 : decode cX9_unify 152 = .ok (.iconst 1, 1) := by decide +kernel
theorem dX9_unify_153 : decode cX9_unify 153 = .ok (.goto 4, 3) := by decide +kernel
theorem dX9_unify_156 : decode cX9_unify 156 = .ok (.iconst 0, 1) := by decide +kernel
theorem dX9_unify_157 : decode cX9_unify 157 = .ok (.ireturn, 1) := by decide +kernel
def bX9_unify_157 (N d : Nat)   (w : Wd) (y0 : Int32) : Option (Wd × Int32) :=
  c_bo y0 (some (w, y0))
set_option maxHeartbeats 4000000 in
theorem kX9_unify_157 {V : Ev} {p : Program} {l : Launch} {e : Env} {N d : Nat} {s : State} {m : MethodId} {args : Array Value} {below : List Frame} {meth : Method} {c : Code} {z : Wd × Int32} (X : CX V p s m args meth c cX9_unify 4 RX9 (some .boolean))    {w : Wd} {y0 : Int32} {H : Heap} {locs : List Loc} {ls : Array Slot} (h : bX9_unify_157 N d   w y0 = some z) (hH : wH V (cC V) (AC V) s w H locs) (hl : lv_has ls 4 []) : W p l e (rmD (d + 1)) s m args below meth c H locs 0 0 (MQ below (CtI V (cC V) (AC V) z) args s 0 0 (AC V)) (F0 m 157 ls [.int y0]) := by
  unfold bX9_unify_157 at h
  obtain ⟨hx, hb, hml, hown, hg, hrt, hlk, hK⟩ := id X
  exact r_zret (pc := 157) X hH h dX9_unify_157
def bX9_unify_112 (N d : Nat)  (rec112 : Wd → Int32 → Option (Wd × Int32)) (w : Wd) (x3 : Int32) : Option (Wd × Int32) :=
  if (sI w 19) ≤ x3 then (
    c_cl (eX9_isRound N d w ) fun w3 v4 =>
    if v4 = 0 then (
      bX9_unify_157 N d   w3 1
    ) else (
      bX9_unify_157 N d   w3 0
    )
  ) else (
    c_cl (eX9_leadOf N d w x3) fun w5 v6 =>
    c_ld w5 58 158 v6 fun v7 =>
    c_st w5 59 158 x3 v7 fun w8 =>
    c_nm (x3 + 1) fun x3_9 =>
    rec112 w8 x3_9
  )
set_option maxHeartbeats 4000000 in
theorem kX9_unify_112 {V : Ev} {p : Program} {l : Launch} {e : Env} {N d : Nat} {s : State} {m : MethodId} {args : Array Value} {below : List Frame} {meth : Method} {c : Code} {z : Wd × Int32} (X : CX V p s m args meth c cX9_unify 4 RX9 (some .boolean))   {rec112 : Wd → Int32 → Option (Wd × Int32)} (hr112 : ∀ (w : Wd) (x3 : Int32) (H : Heap) (locs : List Loc) (ls : Array Slot), rec112 w x3 = some z → wH V (cC V) (AC V) s w H locs → lv_has ls 4 [(0, .ref (V.2.2 11)), (3, .int x3)] → W p l e (rmD (d + 1)) s m args below meth c H locs 0 0 (MQ below (CtI V (cC V) (AC V) z) args s 0 0 (AC V)) (F0 m 112 ls [])) {w : Wd} {x3 : Int32} {H : Heap} {locs : List Loc} {ls : Array Slot} (h : bX9_unify_112 N d  rec112 w x3 = some z) (hH : wH V (cC V) (AC V) s w H locs) (hl : lv_has ls 4 [(0, .ref (V.2.2 11)), (3, .int x3)]) : W p l e (rmD (d + 1)) s m args below meth c H locs 0 0 (MQ below (CtI V (cC V) (AC V) z) args s 0 0 (AC V)) (F0 m 112 ls []) := by
  unfold bX9_unify_112 at h
  obtain ⟨hx, hb, hml, hown, hg, hrt, hlk, hK⟩ := id X
  refine lv_iload_n (pc := 112) hx hb dX9_unify_112 rfl (lv_at hl 1 rfl) ?_
  refine lv_aload_n (pc := 113) hx hb dX9_unify_113 rfl (lv_at hl 0 rfl) ?_
  refine gC_X9_32_11 (pc := 114) X hH dX9_unify_114 ?_
  refine gC_X9_36_10 (pc := 117) X hH dX9_unify_117 ?_
  refine b_icmp_ge (pc := 120) (tgt := 145) hx hb h dX9_unify_120 (by decide) (fun h => ?_) (fun h => ?_)
  · refine lv_aload_n (pc := 145) hx hb dX9_unify_145 rfl (lv_at hl 0 rfl) ?_
    refine r_cvI (pc := 146) (As := []) (rest := []) X hH (fun x hx => mX9_isRound hx) cw_X9_56 (heC_11 V w) rfl rfl rfl (Nat.le_of_ble_eq_true rfl) hl.1 h dX9_unify_146 (fun w3 v4 H locs h hH => ?_)
    refine b_if_ne (pc := 149) (tgt := 156) hx hb h dX9_unify_149 (by decide) (fun h => ?_) (fun h => ?_)
    · refine lv_iconst (pc := 156) (v := 0) hx hb dX9_unify_156 (by decide) ?_
      exact kX9_unify_157 X   h hH (lv_sub hl [] rfl)
    · refine lv_iconst (pc := 152) (v := 1) hx hb dX9_unify_152 (by decide) ?_
      refine lv_goto (pc := 153) (tgt := 157) hx hb dX9_unify_153 (by decide) ?_
      exact kX9_unify_157 X   h hH (lv_sub hl [] rfl)
  · refine lv_aload_n (pc := 123) hx hb dX9_unify_123 rfl (lv_at hl 0 rfl) ?_
    refine gC_X9_20_11 (pc := 124) X hH dX9_unify_124 ?_
    refine lv_iload_n (pc := 127) hx hb dX9_unify_127 rfl (lv_at hl 1 rfl) ?_
    refine lv_aload_n (pc := 128) hx hb dX9_unify_128 rfl (lv_at hl 0 rfl) ?_
    refine gC_X9_17_11 (pc := 129) X hH dX9_unify_129 ?_
    refine lv_aload_n (pc := 132) hx hb dX9_unify_132 rfl (lv_at hl 0 rfl) ?_
    refine lv_iload_n (pc := 133) hx hb dX9_unify_133 rfl (lv_at hl 1 rfl) ?_
    refine r_cvI (pc := 134) (As := [.int x3]) (rest := [.ref (V.2.2 54), .int x3, .ref (V.2.2 55)]) X hH (fun x hx => mX9_leadOf hx) cw_X9_48 (heC_11 V w) rfl rfl rfl (Nat.le_of_ble_eq_true rfl) hl.1 h dX9_unify_134 (fun w5 v6 H locs h hH => ?_)
    refine r_ld (pc := 137) X (heC_54 V w5) hH h dX9_unify_137 (fun v7 h => ?_)
    refine r_st (pc := 138) X (heC_55 V w5) (hsC_55 V w5) hH h dX9_unify_138 (fun w8 H locs h hH => ?_)
    obtain ⟨x3_9, ex3_9, h⟩ := c_nm_ex h
    refine lv_iinc (pc := 139) (v := x3_9) (lv' := [(3, .int x3_9), (0, .ref (V.2.2 11))]) hx hb dX9_unify_139 hl (k := 1) rfl (by rw [← ex3_9]; rfl) (by decide) rfl (fun ls hl => ?_)
    refine lv_goto (pc := 142) (tgt := 112) hx hb dX9_unify_142 (by decide) ?_
    exact hr112 _ _ _ _ _ h hH (lv_sub hl [1, 0] rfl)
def fX9_unify_112 (N d : Nat)   : Nat → Wd → Int32 → Option (Wd × Int32)
  | 0 => fun _ _ => none
  | n + 1 => fun w x3 => bX9_unify_112 N d   (fX9_unify_112 N d   n) w x3
theorem lX9_unify_112 {V : Ev} {p : Program} {l : Launch} {e : Env} {N d : Nat} {s : State} {m : MethodId} {args : Array Value} {below : List Frame} {meth : Method} {c : Code} {z : Wd × Int32} (X : CX V p s m args meth c cX9_unify 4 RX9 (some .boolean))    (n : Nat) {w : Wd} {x3 : Int32} {H : Heap} {locs : List Loc} {ls : Array Slot} (h : fX9_unify_112 N d   n w x3 = some z) (hH : wH V (cC V) (AC V) s w H locs) (hl : lv_has ls 4 [(0, .ref (V.2.2 11)), (3, .int x3)]) : W p l e (rmD (d + 1)) s m args below meth c H locs 0 0 (MQ below (CtI V (cC V) (AC V) z) args s 0 0 (AC V)) (F0 m 112 ls []) := by
  induction n generalizing w x3 H locs ls with
  | zero => exact c_none h
  | succ n ih => exact kX9_unify_112 (N := N) X  (fun _ _ _ _ _ h hH hl => ih h hH hl) h hH hl
def bX9_unify_110 (N d : Nat)   (w : Wd)  : Option (Wd × Int32) :=
  fX9_unify_112 N d   N w ((0 : Int32))
set_option maxHeartbeats 4000000 in
theorem kX9_unify_110 {V : Ev} {p : Program} {l : Launch} {e : Env} {N d : Nat} {s : State} {m : MethodId} {args : Array Value} {below : List Frame} {meth : Method} {c : Code} {z : Wd × Int32} (X : CX V p s m args meth c cX9_unify 4 RX9 (some .boolean))    {w : Wd}  {H : Heap} {locs : List Loc} {ls : Array Slot} (h : bX9_unify_110 N d   w  = some z) (hH : wH V (cC V) (AC V) s w H locs) (hl : lv_has ls 4 [(0, .ref (V.2.2 11))]) : W p l e (rmD (d + 1)) s m args below meth c H locs 0 0 (MQ below (CtI V (cC V) (AC V) z) args s 0 0 (AC V)) (F0 m 110 ls []) := by
  unfold bX9_unify_110 at h
  obtain ⟨hx, hb, hml, hown, hg, hrt, hlk, hK⟩ := id X
  refine lv_iconst (pc := 110) (v := 0) hx hb dX9_unify_110 (by decide) ?_
  refine lv_istore_n (pc := 111) (lv' := [(3, .int ((0 : Int32))), (0, .ref (V.2.2 11))]) hx hb dX9_unify_111 rfl hl (by decide) rfl (fun ls hl => ?_)
  exact lX9_unify_112 X   N h hH (lv_sub hl [1, 0] rfl)
def bX9_unify_46 (N d : Nat)  (rec46 : Wd → Int32 → Option (Wd × Int32)) (w : Wd) (x3 : Int32) : Option (Wd × Int32) :=
  if 1000000 ≤ x3 then (
    bX9_unify_110 N d   w 
  ) else (
    if (sI w 20) ≤ 0 then (
      bX9_unify_110 N d   w 
    ) else (
      c_pi w 20 ((sI w 20) - 1) fun w10 =>
      c_ld w10 60 158 (sI w10 20) fun v11 =>
      c_cl (eX9_leadOf N d w10 v11) fun w12 v13 =>
      c_ld w12 61 158 (sI w12 20) fun v14 =>
      c_cl (eX9_leadOf N d w12 v14) fun w15 v16 =>
      c_cl (eX9_merge N d w15 v13 v16) fun w17 v18 =>
      if v18 = 0 then (
        some (w17, 0)
      ) else (
        c_nm (x3 + 1) fun x3_19 =>
        rec46 w17 x3_19
      )
    )
  )
set_option maxHeartbeats 4000000 in
theorem kX9_unify_46 {V : Ev} {p : Program} {l : Launch} {e : Env} {N d : Nat} {s : State} {m : MethodId} {args : Array Value} {below : List Frame} {meth : Method} {c : Code} {z : Wd × Int32} (X : CX V p s m args meth c cX9_unify 4 RX9 (some .boolean))   {rec46 : Wd → Int32 → Option (Wd × Int32)} (hr46 : ∀ (w : Wd) (x3 : Int32) (H : Heap) (locs : List Loc) (ls : Array Slot), rec46 w x3 = some z → wH V (cC V) (AC V) s w H locs → lv_has ls 4 [(0, .ref (V.2.2 11)), (3, .int x3)] → W p l e (rmD (d + 1)) s m args below meth c H locs 0 0 (MQ below (CtI V (cC V) (AC V) z) args s 0 0 (AC V)) (F0 m 46 ls [])) {w : Wd} {x3 : Int32} {H : Heap} {locs : List Loc} {ls : Array Slot} (h : bX9_unify_46 N d  rec46 w x3 = some z) (hH : wH V (cC V) (AC V) s w H locs) (hl : lv_has ls 4 [(0, .ref (V.2.2 11)), (3, .int x3)]) : W p l e (rmD (d + 1)) s m args below meth c H locs 0 0 (MQ below (CtI V (cC V) (AC V) z) args s 0 0 (AC V)) (F0 m 46 ls []) := by
  unfold bX9_unify_46 at h
  obtain ⟨hx, hb, hml, hown, hg, hrt, hlk, hK⟩ := id X
  refine lv_iload_n (pc := 46) hx hb dX9_unify_46 rfl (lv_at hl 1 rfl) ?_
  refine lv_ldc (pc := 47) hx hb hown (hg _ wK_646) dX9_unify_47 ?_
  refine b_icmp_ge (pc := 49) (tgt := 110) hx hb h dX9_unify_49 (by decide) (fun h => ?_) (fun h => ?_)
  · exact kX9_unify_110 X   h hH (lv_sub hl [0] rfl)
  · refine lv_aload_n (pc := 52) hx hb dX9_unify_52 rfl (lv_at hl 0 rfl) ?_
    refine gC_X9_40_11 (pc := 53) X hH dX9_unify_53 ?_
    refine b_if_le (pc := 56) (tgt := 110) hx hb h dX9_unify_56 (by decide) (fun h => ?_) (fun h => ?_)
    · exact kX9_unify_110 X   h hH (lv_sub hl [0] rfl)
    · refine lv_aload_n (pc := 59) hx hb dX9_unify_59 rfl (lv_at hl 0 rfl) ?_
      refine lv_dup (pc := 60) hx hb dX9_unify_60 rfl ?_
      refine gC_X9_40_11 (pc := 61) X hH dX9_unify_61 ?_
      refine lv_iconst (pc := 64) (v := 1) hx hb dX9_unify_64 (by decide) ?_
      refine lv_isub (pc := 65) hx hb dX9_unify_65 ?_
      refine pC_X9_40_11 (pc := 66) X hH h dX9_unify_66 (fun w10 H locs h hH => ?_)
      refine lv_aload_n (pc := 69) hx hb dX9_unify_69 rfl (lv_at hl 0 rfl) ?_
      refine lv_aload_n (pc := 70) hx hb dX9_unify_70 rfl (lv_at hl 0 rfl) ?_
      refine lv_aload_n (pc := 71) hx hb dX9_unify_71 rfl (lv_at hl 0 rfl) ?_
      refine gC_X9_23_11 (pc := 72) X hH dX9_unify_72 ?_
      refine lv_aload_n (pc := 75) hx hb dX9_unify_75 rfl (lv_at hl 0 rfl) ?_
      refine gC_X9_40_11 (pc := 76) X hH dX9_unify_76 ?_
      refine r_ld (pc := 79) X (heC_56 V w10) hH h dX9_unify_79 (fun v11 h => ?_)
      refine r_cvI (pc := 80) (As := [.int v11]) (rest := [.ref (V.2.2 11)]) X hH (fun x hx => mX9_leadOf hx) cw_X9_48 (heC_11 V w10) rfl rfl rfl (Nat.le_of_ble_eq_true rfl) hl.1 h dX9_unify_80 (fun w12 v13 H locs h hH => ?_)
      refine lv_aload_n (pc := 83) hx hb dX9_unify_83 rfl (lv_at hl 0 rfl) ?_
      refine lv_aload_n (pc := 84) hx hb dX9_unify_84 rfl (lv_at hl 0 rfl) ?_
      refine gC_X9_26_11 (pc := 85) X hH dX9_unify_85 ?_
      refine lv_aload_n (pc := 88) hx hb dX9_unify_88 rfl (lv_at hl 0 rfl) ?_
      refine gC_X9_40_11 (pc := 89) X hH dX9_unify_89 ?_
      refine r_ld (pc := 92) X (heC_57 V w12) hH h dX9_unify_92 (fun v14 h => ?_)
      refine r_cvI (pc := 93) (As := [.int v14]) (rest := [.int v13, .ref (V.2.2 11)]) X hH (fun x hx => mX9_leadOf hx) cw_X9_48 (heC_11 V w12) rfl rfl rfl (Nat.le_of_ble_eq_true rfl) hl.1 h dX9_unify_93 (fun w15 v16 H locs h hH => ?_)
      refine r_cvI (pc := 96) (As := [.int v13, .int v16]) (rest := []) X hH (fun x hx => mX9_merge hx) cw_X9_52 (heC_11 V w15) rfl rfl rfl (Nat.le_of_ble_eq_true rfl) hl.1 h dX9_unify_96 (fun w17 v18 H locs h hH => ?_)
      refine b_if_ne (pc := 99) (tgt := 104) hx hb h dX9_unify_99 (by decide) (fun h => ?_) (fun h => ?_)
      · obtain ⟨x3_19, ex3_19, h⟩ := c_nm_ex h
        refine lv_iinc (pc := 104) (v := x3_19) (lv' := [(3, .int x3_19), (0, .ref (V.2.2 11))]) hx hb dX9_unify_104 hl (k := 1) rfl (by rw [← ex3_19]; rfl) (by decide) rfl (fun ls hl => ?_)
        refine lv_goto (pc := 107) (tgt := 46) hx hb dX9_unify_107 (by decide) ?_
        exact hr46 _ _ _ _ _ h hH (lv_sub hl [1, 0] rfl)
      · refine lv_iconst (pc := 102) (v := 0) hx hb dX9_unify_102 (by decide) ?_
        exact r_zretk (pc := 103) (by decide) X hH h dX9_unify_103
def fX9_unify_46 (N d : Nat)   : Nat → Wd → Int32 → Option (Wd × Int32)
  | 0 => fun _ _ => none
  | n + 1 => fun w x3 => bX9_unify_46 N d   (fX9_unify_46 N d   n) w x3
theorem lX9_unify_46 {V : Ev} {p : Program} {l : Launch} {e : Env} {N d : Nat} {s : State} {m : MethodId} {args : Array Value} {below : List Frame} {meth : Method} {c : Code} {z : Wd × Int32} (X : CX V p s m args meth c cX9_unify 4 RX9 (some .boolean))    (n : Nat) {w : Wd} {x3 : Int32} {H : Heap} {locs : List Loc} {ls : Array Slot} (h : fX9_unify_46 N d   n w x3 = some z) (hH : wH V (cC V) (AC V) s w H locs) (hl : lv_has ls 4 [(0, .ref (V.2.2 11)), (3, .int x3)]) : W p l e (rmD (d + 1)) s m args below meth c H locs 0 0 (MQ below (CtI V (cC V) (AC V) z) args s 0 0 (AC V)) (F0 m 46 ls []) := by
  induction n generalizing w x3 H locs ls with
  | zero => exact c_none h
  | succ n ih => exact kX9_unify_46 (N := N) X  (fun _ _ _ _ _ h hH hl => ih h hH hl) h hH hl
def bX9_unify_2 (N d : Nat)  (rec2 : Wd → Int32 → Int32 → Int32 → Option (Wd × Int32)) (w : Wd) (x1 : Int32) (x2 : Int32) (x3 : Int32) : Option (Wd × Int32) :=
  if (sI w 19) ≤ x3 then (
    c_pi w 20 0 fun w1 =>
    c_cv (eX9_await N d w1 x1 x2) fun w2 =>
    fX9_unify_46 N d   N w2 ((0 : Int32))
  ) else (
    c_st w 57 158 x3 x3 fun w20 =>
    c_st w20 58 158 x3 x3 fun w21 =>
    c_nm (x3 + 1) fun x3_22 =>
    rec2 w21 x1 x2 x3_22
  )
set_option maxHeartbeats 4000000 in
theorem kX9_unify_2 {V : Ev} {p : Program} {l : Launch} {e : Env} {N d : Nat} {s : State} {m : MethodId} {args : Array Value} {below : List Frame} {meth : Method} {c : Code} {z : Wd × Int32} (X : CX V p s m args meth c cX9_unify 4 RX9 (some .boolean))   {rec2 : Wd → Int32 → Int32 → Int32 → Option (Wd × Int32)} (hr2 : ∀ (w : Wd) (x1 : Int32) (x2 : Int32) (x3 : Int32) (H : Heap) (locs : List Loc) (ls : Array Slot), rec2 w x1 x2 x3 = some z → wH V (cC V) (AC V) s w H locs → lv_has ls 4 [(0, .ref (V.2.2 11)), (1, .int x1), (2, .int x2), (3, .int x3)] → W p l e (rmD (d + 1)) s m args below meth c H locs 0 0 (MQ below (CtI V (cC V) (AC V) z) args s 0 0 (AC V)) (F0 m 2 ls [])) {w : Wd} {x1 : Int32} {x2 : Int32} {x3 : Int32} {H : Heap} {locs : List Loc} {ls : Array Slot} (h : bX9_unify_2 N d  rec2 w x1 x2 x3 = some z) (hH : wH V (cC V) (AC V) s w H locs) (hl : lv_has ls 4 [(0, .ref (V.2.2 11)), (1, .int x1), (2, .int x2), (3, .int x3)]) : W p l e (rmD (d + 1)) s m args below meth c H locs 0 0 (MQ below (CtI V (cC V) (AC V) z) args s 0 0 (AC V)) (F0 m 2 ls []) := by
  unfold bX9_unify_2 at h
  obtain ⟨hx, hb, hml, hown, hg, hrt, hlk, hK⟩ := id X
  refine lv_iload_n (pc := 2) hx hb dX9_unify_2 rfl (lv_at hl 3 rfl) ?_
  refine lv_aload_n (pc := 3) hx hb dX9_unify_3 rfl (lv_at hl 0 rfl) ?_
  refine gC_X9_32_11 (pc := 4) X hH dX9_unify_4 ?_
  refine gC_X9_36_10 (pc := 7) X hH dX9_unify_7 ?_
  refine b_icmp_ge (pc := 10) (tgt := 33) hx hb h dX9_unify_10 (by decide) (fun h => ?_) (fun h => ?_)
  · refine lv_aload_n (pc := 33) hx hb dX9_unify_33 rfl (lv_at hl 0 rfl) ?_
    refine lv_iconst (pc := 34) (v := 0) hx hb dX9_unify_34 (by decide) ?_
    refine pC_X9_40_11 (pc := 35) X hH h dX9_unify_35 (fun w1 H locs h hH => ?_)
    refine lv_aload_n (pc := 38) hx hb dX9_unify_38 rfl (lv_at hl 0 rfl) ?_
    refine lv_iload_n (pc := 39) hx hb dX9_unify_39 rfl (lv_at hl 1 rfl) ?_
    refine lv_iload_n (pc := 40) hx hb dX9_unify_40 rfl (lv_at hl 2 rfl) ?_
    refine r_cvV (pc := 41) (As := [.int x1, .int x2]) (rest := []) X hH (fun x hx => mX9_await hx) cw_X9_43 (heC_11 V w1) rfl rfl rfl (Nat.le_of_ble_eq_true rfl) hl.1 h dX9_unify_41 (fun w2 H locs h hH => ?_)
    refine lv_iconst (pc := 44) (v := 0) hx hb dX9_unify_44 (by decide) ?_
    refine lv_istore_n (pc := 45) (lv' := [(3, .int ((0 : Int32))), (0, .ref (V.2.2 11)), (1, .int x1), (2, .int x2)]) hx hb dX9_unify_45 rfl hl (by decide) rfl (fun ls hl => ?_)
    exact lX9_unify_46 X   N h hH (lv_sub hl [1, 0] rfl)
  · refine lv_aload_n (pc := 13) hx hb dX9_unify_13 rfl (lv_at hl 0 rfl) ?_
    refine gC_X9_11_11 (pc := 14) X hH dX9_unify_14 ?_
    refine lv_iload_n (pc := 17) hx hb dX9_unify_17 rfl (lv_at hl 3 rfl) ?_
    refine lv_iload_n (pc := 18) hx hb dX9_unify_18 rfl (lv_at hl 3 rfl) ?_
    refine r_st (pc := 19) X (heC_53 V w) (hsC_53 V w) hH h dX9_unify_19 (fun w20 H locs h hH => ?_)
    refine lv_aload_n (pc := 20) hx hb dX9_unify_20 rfl (lv_at hl 0 rfl) ?_
    refine gC_X9_17_11 (pc := 21) X hH dX9_unify_21 ?_
    refine lv_iload_n (pc := 24) hx hb dX9_unify_24 rfl (lv_at hl 3 rfl) ?_
    refine lv_iload_n (pc := 25) hx hb dX9_unify_25 rfl (lv_at hl 3 rfl) ?_
    refine r_st (pc := 26) X (heC_54 V w20) (hsC_54 V w20) hH h dX9_unify_26 (fun w21 H locs h hH => ?_)
    obtain ⟨x3_22, ex3_22, h⟩ := c_nm_ex h
    refine lv_iinc (pc := 27) (v := x3_22) (lv' := [(3, .int x3_22), (0, .ref (V.2.2 11)), (1, .int x1), (2, .int x2)]) hx hb dX9_unify_27 hl (k := 3) rfl (by rw [← ex3_22]; rfl) (by decide) rfl (fun ls hl => ?_)
    refine lv_goto (pc := 30) (tgt := 2) hx hb dX9_unify_30 (by decide) ?_
    exact hr2 _ _ _ _ _ _ _ h hH (lv_sub hl [1, 2, 3, 0] rfl)
def fX9_unify_2 (N d : Nat)   : Nat → Wd → Int32 → Int32 → Int32 → Option (Wd × Int32)
  | 0 => fun _ _ _ _ => none
  | n + 1 => fun w x1 x2 x3 => bX9_unify_2 N d   (fX9_unify_2 N d   n) w x1 x2 x3
theorem lX9_unify_2 {V : Ev} {p : Program} {l : Launch} {e : Env} {N d : Nat} {s : State} {m : MethodId} {args : Array Value} {below : List Frame} {meth : Method} {c : Code} {z : Wd × Int32} (X : CX V p s m args meth c cX9_unify 4 RX9 (some .boolean))    (n : Nat) {w : Wd} {x1 : Int32} {x2 : Int32} {x3 : Int32} {H : Heap} {locs : List Loc} {ls : Array Slot} (h : fX9_unify_2 N d   n w x1 x2 x3 = some z) (hH : wH V (cC V) (AC V) s w H locs) (hl : lv_has ls 4 [(0, .ref (V.2.2 11)), (1, .int x1), (2, .int x2), (3, .int x3)]) : W p l e (rmD (d + 1)) s m args below meth c H locs 0 0 (MQ below (CtI V (cC V) (AC V) z) args s 0 0 (AC V)) (F0 m 2 ls []) := by
  induction n generalizing w x1 x2 x3 H locs ls with
  | zero => exact c_none h
  | succ n ih => exact kX9_unify_2 (N := N) X  (fun _ _ _ _ _ _ _ h hH hl => ih h hH hl) h hH hl
def bX9_unify_0 (N d : Nat)   (w : Wd) (x1 : Int32) (x2 : Int32) : Option (Wd × Int32) :=
  fX9_unify_2 N d   N w x1 x2 ((0 : Int32))
set_option maxHeartbeats 4000000 in
theorem kX9_unify_0 {V : Ev} {p : Program} {l : Launch} {e : Env} {N d : Nat} {s : State} {m : MethodId} {args : Array Value} {below : List Frame} {meth : Method} {c : Code} {z : Wd × Int32} (X : CX V p s m args meth c cX9_unify 4 RX9 (some .boolean))    {w : Wd} {x1 : Int32} {x2 : Int32} {H : Heap} {locs : List Loc} {ls : Array Slot} (h : bX9_unify_0 N d   w x1 x2 = some z) (hH : wH V (cC V) (AC V) s w H locs) (hl : lv_has ls 4 [(0, .ref (V.2.2 11)), (1, .int x1), (2, .int x2)]) : W p l e (rmD (d + 1)) s m args below meth c H locs 0 0 (MQ below (CtI V (cC V) (AC V) z) args s 0 0 (AC V)) (F0 m 0 ls []) := by
  unfold bX9_unify_0 at h
  obtain ⟨hx, hb, hml, hown, hg, hrt, hlk, hK⟩ := id X
  refine lv_iconst (pc := 0) (v := 0) hx hb dX9_unify_0 (by decide) ?_
  refine lv_istore_n (pc := 1) (lv' := [(3, .int ((0 : Int32))), (0, .ref (V.2.2 11)), (1, .int x1), (2, .int x2)]) hx hb dX9_unify_1 rfl hl (by decide) rfl (fun ls hl => ?_)
  exact lX9_unify_2 X   N h hH (lv_sub hl [1, 2, 3, 0] rfl)
def eX9_unify (N : Nat) : Nat → Wd → Int32 → Int32 → Option (Wd × Int32)
  | 0 => fun _ _ _ => none
  | d + 1 => fun w x1 x2 => bX9_unify_0 N d  w x1 x2
set_option maxHeartbeats 4000000 in
set_option maxRecDepth 20000 in
theorem mX9_unify {l : Launch} {V : Ev} {N d : Nat} {w : Wd} {x1 : Int32} {x2 : Int32} {z : Wd × Int32} (h : eX9_unify N d w x1 x2 = some z) : MetI l V (cC V) (AC V) yX9_unify cX9_unify 4 (some .boolean) d [.ref (V.2.2 11), .int x1, .int x2] w z := by
  cases d with
  | zero => exact c_none h
  | succ d =>
    refine Met.ofW (cc := cX9_unify) (maxL := 4) (ret := (some .boolean)) (by decide) rfl ?_
    intro p e s m args below meth c s₁ B hml hv
    obtain ⟨rfl, hP, hD, hK⟩ := hv
    have hts := atoms_spec (ws := .code yX9_unify cX9_unify 4 (some .boolean) :: gG) B.pre
    have X : CX V p s m ([.ref (V.2.2 11), .int x1, .int x2] : List Value).toArray meth c cX9_unify 4 RX9 (some .boolean) := ⟨B.exec, B.bytes, hml, findClass_of_methodNamed B.named, fun w hw => hts w (List.mem_cons_of_mem _ hw), B.returns, B.notSynchronized, hK⟩
    have hl := lv_entry ([.ref (V.2.2 11), .int x1, .int x2] : List Value) (n := 4) (Nat.le_of_ble_eq_true rfl)
    rw [lg_entry_eq]
    generalize (lg_sl ([.ref (V.2.2 11), .int x1, .int x2] : List Value) ++ List.replicate (4 - (lg_sl ([.ref (V.2.2 11), .int x1, .int x2] : List Value)).length) Slot.unset).toArray = ls at hl ⊢
    have hl : lv_has ls 4 [(0, .ref (V.2.2 11)), (1, .int x1), (2, .int x2)] := hl
    exact kX9_unify_0 (N := N) X  h ⟨hP, hD, va_S.rf⟩ hl
theorem dX1_push_0 : decode cX1_push 0 = .ok (.iload_n 1, 1) := by decide +kernel
theorem dX1_push_1 : decode cX1_push 1 = .ok (.iconst (-1), 1) := by decide +kernel
theorem dX1_push_2 : decode cX1_push 2 = .ok (.if_icmp .eq 12, 3) := by decide +kernel
theorem dX1_push_5 : decode cX1_push 5 = .ok (.iload_n 2, 1) := by decide +kernel
theorem dX1_push_6 : decode cX1_push 6 = .ok (.aload_n 0, 1) := by decide +kernel
theorem dX1_push_7 : decode cX1_push 7 = .ok (.getfield 31, 3) := by decide +kernel
theorem dX1_push_10 : decode cX1_push 10 = .ok (.arraylength, 1) := by decide +kernel
theorem dX1_push_11 : decode cX1_push 11 = .ok (.if_icmp .lt 5, 3) := by decide +kernel
theorem dX1_push_14 : decode cX1_push 14 = .ok (.iload_n 2, 1) := by decide +kernel
theorem dX1_push_15 : decode cX1_push 15 = .ok (.ireturn, 1) := by decide +kernel
theorem dX1_push_16 : decode cX1_push 16 = .ok (.aload_n 0, 1) := by decide +kernel
theorem dX1_push_17 : decode cX1_push 17 = .ok (.getfield 31, 3) := by decide +kernel
theorem dX1_push_20 : decode cX1_push 20 = .ok (.iload_n 2, 1) := by decide +kernel
theorem dX1_push_21 : decode cX1_push 21 = .ok (.iload_n 1, 1) := by decide +kernel
theorem dX1_push_22 : decode cX1_push 22 = .ok (.iastore, 1) := by decide +kernel
theorem dX1_push_23 : decode cX1_push 23 = .ok (.iload_n 2, 1) := by decide +kernel
theorem dX1_push_24 : decode cX1_push 24 = .ok (.iconst 1, 1) := by decide +kernel
theorem dX1_push_25 : decode cX1_push 25 = .ok (.iadd, 1) := by decide +kernel
theorem dX1_push_26 : decode cX1_push 26 = .ok (.ireturn, 1) := by decide +kernel
def bX1_push_14 (N d : Nat)   (w : Wd) (x2 : Int32) : Option (Wd × Int32) :=
  some (w, x2)
set_option maxHeartbeats 4000000 in
theorem kX1_push_14 {V : Ev} {p : Program} {l : Launch} {e : Env} {N d : Nat} {s : State} {m : MethodId} {args : Array Value} {below : List Frame} {meth : Method} {c : Code} {z : Wd × Int32} (X : CX V p s m args meth c cX1_push 3 RX1 (some .int))    {w : Wd} {x2 : Int32} {H : Heap} {locs : List Loc} {ls : Array Slot} (h : bX1_push_14 N d   w x2 = some z) (hH : wH V (cC V) (AC V) s w H locs) (hl : lv_has ls 3 [(2, .int x2)]) : W p l e (rmD (d + 1)) s m args below meth c H locs 0 0 (MQ below (CtI V (cC V) (AC V) z) args s 0 0 (AC V)) (F0 m 14 ls []) := by
  unfold bX1_push_14 at h
  obtain ⟨hx, hb, hml, hown, hg, hrt, hlk, hK⟩ := id X
  refine lv_iload_n (pc := 14) hx hb dX1_push_14 rfl (lv_at hl 0 rfl) ?_
  exact r_iret (pc := 15) X hH h dX1_push_15
def bX1_push_0 (N d : Nat)   (w : Wd) (x1 : Int32) (x2 : Int32) : Option (Wd × Int32) :=
  if x1 = (-1) then (
    bX1_push_14 N d   w x2
  ) else (
    if x2 < 158 then (
      c_st w 34 158 x2 x1 fun w1 =>
      some (w1, x2 + 1)
    ) else (
      bX1_push_14 N d   w x2
    )
  )
set_option maxHeartbeats 4000000 in
theorem kX1_push_0 {V : Ev} {p : Program} {l : Launch} {e : Env} {N d : Nat} {s : State} {m : MethodId} {args : Array Value} {below : List Frame} {meth : Method} {c : Code} {z : Wd × Int32} (X : CX V p s m args meth c cX1_push 3 RX1 (some .int))    {w : Wd} {x1 : Int32} {x2 : Int32} {H : Heap} {locs : List Loc} {ls : Array Slot} (h : bX1_push_0 N d   w x1 x2 = some z) (hH : wH V (cC V) (AC V) s w H locs) (hl : lv_has ls 3 [(0, .ref (V.2.2 5)), (1, .int x1), (2, .int x2)]) : W p l e (rmD (d + 1)) s m args below meth c H locs 0 0 (MQ below (CtI V (cC V) (AC V) z) args s 0 0 (AC V)) (F0 m 0 ls []) := by
  unfold bX1_push_0 at h
  obtain ⟨hx, hb, hml, hown, hg, hrt, hlk, hK⟩ := id X
  refine lv_iload_n (pc := 0) hx hb dX1_push_0 rfl (lv_at hl 1 rfl) ?_
  refine lv_iconst (pc := 1) (v := -1) hx hb dX1_push_1 (by decide) ?_
  refine b_icmp_eq (pc := 2) (tgt := 14) hx hb h dX1_push_2 (by decide) (fun h => ?_) (fun h => ?_)
  · exact kX1_push_14 X   h hH (lv_sub hl [2] rfl)
  · refine lv_iload_n (pc := 5) hx hb dX1_push_5 rfl (lv_at hl 2 rfl) ?_
    refine lv_aload_n (pc := 6) hx hb dX1_push_6 rfl (lv_at hl 0 rfl) ?_
    refine gC_X1_31_5 (pc := 7) X hH dX1_push_7 ?_
    refine r_al (pc := 10) (t0 := 0) (v := 158) X (heC_33 V w) rfl hH (by decide) dX1_push_10 ?_
    refine b_icmp_lt (pc := 11) (tgt := 16) hx hb h dX1_push_11 (by decide) (fun h => ?_) (fun h => ?_)
    · refine lv_aload_n (pc := 16) hx hb dX1_push_16 rfl (lv_at hl 0 rfl) ?_
      refine gC_X1_31_5 (pc := 17) X hH dX1_push_17 ?_
      refine lv_iload_n (pc := 20) hx hb dX1_push_20 rfl (lv_at hl 2 rfl) ?_
      refine lv_iload_n (pc := 21) hx hb dX1_push_21 rfl (lv_at hl 1 rfl) ?_
      refine r_st (pc := 22) X (heC_33 V w) (hsC_33 V w) hH h dX1_push_22 (fun w1 H locs h hH => ?_)
      refine lv_iload_n (pc := 23) hx hb dX1_push_23 rfl (lv_at hl 2 rfl) ?_
      refine lv_iconst (pc := 24) (v := 1) hx hb dX1_push_24 (by decide) ?_
      refine lv_iadd (pc := 25) hx hb dX1_push_25 ?_
      exact r_iret (pc := 26) X hH h dX1_push_26
    · exact kX1_push_14 X   h hH (lv_sub hl [2] rfl)
def eX1_push (N : Nat) : Nat → Wd → Int32 → Int32 → Option (Wd × Int32)
  | 0 => fun _ _ _ => none
  | d + 1 => fun w x1 x2 => bX1_push_0 N d  w x1 x2
set_option maxHeartbeats 4000000 in
set_option maxRecDepth 20000 in
theorem mX1_push {l : Launch} {V : Ev} {N d : Nat} {w : Wd} {x1 : Int32} {x2 : Int32} {z : Wd × Int32} (h : eX1_push N d w x1 x2 = some z) : MetI l V (cC V) (AC V) yX1_push cX1_push 3 (some .int) d [.ref (V.2.2 5), .int x1, .int x2] w z := by
  cases d with
  | zero => exact c_none h
  | succ d =>
    refine Met.ofW (cc := cX1_push) (maxL := 3) (ret := (some .int)) (by decide) rfl ?_
    intro p e s m args below meth c s₁ B hml hv
    obtain ⟨rfl, hP, hD, hK⟩ := hv
    have hts := atoms_spec (ws := .code yX1_push cX1_push 3 (some .int) :: gG) B.pre
    have X : CX V p s m ([.ref (V.2.2 5), .int x1, .int x2] : List Value).toArray meth c cX1_push 3 RX1 (some .int) := ⟨B.exec, B.bytes, hml, findClass_of_methodNamed B.named, fun w hw => hts w (List.mem_cons_of_mem _ hw), B.returns, B.notSynchronized, hK⟩
    have hl := lv_entry ([.ref (V.2.2 5), .int x1, .int x2] : List Value) (n := 3) (Nat.le_of_ble_eq_true rfl)
    rw [lg_entry_eq]
    generalize (lg_sl ([.ref (V.2.2 5), .int x1, .int x2] : List Value) ++ List.replicate (3 - (lg_sl ([.ref (V.2.2 5), .int x1, .int x2] : List Value)).length) Slot.unset).toArray = ls at hl ⊢
    have hl : lv_has ls 3 [(0, .ref (V.2.2 5)), (1, .int x1), (2, .int x2)] := hl
    exact kX1_push_0 (N := N) X  h ⟨hP, hD, va_S.rf⟩ hl
theorem dX1_numberVariables_0 : decode cX1_numberVariables 0 = .ok (.iconst 0, 1) := by decide +kernel
theorem dX1_numberVariables_1 : decode cX1_numberVariables 1 = .ok (.istore_n 1, 1) := by decide +kernel
theorem dX1_numberVariables_2 : decode cX1_numberVariables 2 = .ok (.iload_n 1, 1) := by decide +kernel
theorem dX1_numberVariables_3 : decode cX1_numberVariables 3 = .ok (.aload_n 0, 1) := by decide +kernel
theorem dX1_numberVariables_4 : decode cX1_numberVariables 4 = .ok (.getfield 45, 3) := by decide +kernel
theorem dX1_numberVariables_7 : decode cX1_numberVariables 7 = .ok (.getfield 82, 3) := by decide +kernel
theorem dX1_numberVariables_10 : decode cX1_numberVariables 10 = .ok (.if_icmp .ge 16, 3) := by decide +kernel
theorem dX1_numberVariables_13 : decode cX1_numberVariables 13 = .ok (.aload_n 0, 1) := by decide +kernel
theorem dX1_numberVariables_14 : decode cX1_numberVariables 14 = .ok (.getfield 24, 3) := by decide +kernel
theorem dX1_numberVariables_17 : decode cX1_numberVariables 17 = .ok (.iload_n 1, 1) := by decide +kernel
theorem dX1_numberVariables_18 : decode cX1_numberVariables 18 = .ok (.iconst 0, 1) := by decide +kernel
theorem dX1_numberVariables_19 : decode cX1_numberVariables 19 = .ok (.bastore, 1) := by decide +kernel
theorem dX1_numberVariables_20 : decode cX1_numberVariables 20 = .ok (.iinc 1 1, 3) := by decide +kernel
theorem dX1_numberVariables_23 : decode cX1_numberVariables 23 = .ok (.goto (-21), 3) := by decide +kernel
theorem dX1_numberVariables_26 : decode cX1_numberVariables 26 = .ok (.iconst 0, 1) := by decide +kernel
theorem dX1_numberVariables_27 : decode cX1_numberVariables 27 = .ok (.istore_n 1, 1) := by decide +kernel
theorem dX1_numberVariables_28 : decode cX1_numberVariables 28 = .ok (.aload_n 0, 1) := by decide +kernel
theorem dX1_numberVariables_29 : decode cX1_numberVariables 29 = .ok (.bipush 8, 2) := by decide +kernel
theorem dX1_numberVariables_31 : decode cX1_numberVariables 31 = .ok (.iconst 0, 1) := by decide +kernel
theorem dX1_numberVariables_32 : decode cX1_numberVariables 32 = .ok (.invokevirtual 144, 3) := by decide +kernel
theorem dX1_numberVariables_35 : decode cX1_numberVariables 35 = .ok (.istore_n 2, 1) := by decide +kernel
theorem dX1_numberVariables_36 : decode cX1_numberVariables 36 = .ok (.iconst 0, 1) := by decide +kernel
theorem dX1_numberVariables_37 : decode cX1_numberVariables 37 = .ok (.istore_n 3, 1) := by decide +kernel
theorem dX1_numberVariables_38 : decode cX1_numberVariables 38 = .ok (.iload_n 3, 1) := by decide +kernel
theorem dX1_numberVariables_39 : decode cX1_numberVariables 39 = .ok (.ldc 148, 2) := by decide +kernel
theorem dX1_numberVariables_41 : decode cX1_numberVariables 41 = .ok (.if_icmp .ge 107, 3) := by decide +kernel
theorem dX1_numberVariables_44 : decode cX1_numberVariables 44 = .ok (.iload_n 2, 1) := by decide +kernel
theorem dX1_numberVariables_45 : decode cX1_numberVariables 45 = .ok (.ifCond .le 103, 3) := by decide +kernel
theorem dX1_numberVariables_48 : decode cX1_numberVariables 48 = .ok (.iinc 2 (-1), 3) := by decide +kernel
theorem dX1_numberVariables_51 : decode cX1_numberVariables 51 = .ok (.aload_n 0, 1) := by decide +kernel
theorem dX1_numberVariables_52 : decode cX1_numberVariables 52 = .ok (.getfield 54, 3) := by decide +kernel
theorem dX1_numberVariables_55 : decode cX1_numberVariables 55 = .ok (.getfield 149, 3) := by decide +kernel
theorem dX1_numberVariables_58 : decode cX1_numberVariables 58 = .ok (.aload_n 0, 1) := by decide +kernel
theorem dX1_numberVariables_59 : decode cX1_numberVariables 59 = .ok (.getfield 31, 3) := by decide +kernel
theorem dX1_numberVariables_62 : decode cX1_numberVariables 62 = .ok (.iload_n 2, 1) := by decide +kernel
theorem dX1_numberVariables_63 : decode cX1_numberVariables 63 = .ok (.iaload, 1) := by decide +kernel
theorem dX1_numberVariables_64 : decode cX1_numberVariables 64 = .ok (.iaload, 1) := by decide +kernel
theorem dX1_numberVariables_65 : decode cX1_numberVariables 65 = .ok (.istore 4, 2) := by decide +kernel
theorem dX1_numberVariables_67 : decode cX1_numberVariables 67 = .ok (.aload_n 0, 1) := by decide +kernel
theorem dX1_numberVariables_68 : decode cX1_numberVariables 68 = .ok (.getfield 24, 3) := by decide +kernel
theorem dX1_numberVariables_71 : decode cX1_numberVariables 71 = .ok (.iload 4, 2) := by decide +kernel
theorem dX1_numberVariables_73 : decode cX1_numberVariables 73 = .ok (.baload, 1) := by decide +kernel
theorem dX1_numberVariables_74 : decode cX1_numberVariables 74 = .ok (.ifCond .eq 6, 3) := by decide +kernel
theorem dX1_numberVariables_77 : decode cX1_numberVariables 77 = .ok (.goto 65, 3) := by decide +kernel
theorem dX1_numberVariables_80 : decode cX1_numberVariables 80 = .ok (.aload_n 0, 1) := by decide +kernel
theorem dX1_numberVariables_81 : decode cX1_numberVariables 81 = .ok (.getfield 24, 3) := by decide +kernel
theorem dX1_numberVariables_84 : decode cX1_numberVariables 84 = .ok (.iload 4, 2) := by decide +kernel
theorem dX1_numberVariables_86 : decode cX1_numberVariables 86 = .ok (.iconst 1, 1) := by decide +kernel
theorem dX1_numberVariables_87 : decode cX1_numberVariables 87 = .ok (.bastore, 1) := by decide +kernel
theorem dX1_numberVariables_88 : decode cX1_numberVariables 88 = .ok (.iload 4, 2) := by decide +kernel
theorem dX1_numberVariables_90 : decode cX1_numberVariables 90 = .ok (.invokestatic 152, 3) := by decide +kernel
theorem dX1_numberVariables_93 : decode cX1_numberVariables 93 = .ok (.ifCond .eq 17, 3) := by decide +kernel
theorem dX1_numberVariables_96 : decode cX1_numberVariables 96 = .ok (.aload_n 0, 1) := by decide +kernel
theorem dX1_numberVariables_97 : decode cX1_numberVariables 97 = .ok (.getfield 18, 3) := by decide +kernel
theorem dX1_numberVariables_100 : decode cX1_numberVariables 100 = .ok (.iload 4, 2) := by decide +kernel
theorem dX1_numberVariables_102 : decode cX1_numberVariables 102 = .ok (.iload_n 1, 1) := by decide +kernel
theorem dX1_numberVariables_103 : decode cX1_numberVariables 103 = .ok (.iastore, 1) := by decide +kernel
theorem dX1_numberVariables_104 : decode cX1_numberVariables 104 = .ok (.iinc 1 1, 3) := by decide +kernel
theorem dX1_numberVariables_107 : decode cX1_numberVariables 107 = .ok (.goto 35, 3) := by decide +kernel
theorem dX1_numberVariables_110 : decode cX1_numberVariables 110 = .ok (.aload_n 0, 1) := by decide +kernel
theorem dX1_numberVariables_111 : decode cX1_numberVariables 111 = .ok (.aload_n 0, 1) := by decide +kernel
theorem dX1_numberVariables_112 : decode cX1_numberVariables 112 = .ok (.getfield 45, 3) := by decide +kernel
theorem dX1_numberVariables_115 : decode cX1_numberVariables 115 = .ok (.getfield 155, 3) := by decide +kernel
theorem dX1_numberVariables_118 : decode cX1_numberVariables 118 = .ok (.iload 4, 2) := by decide +kernel
theorem dX1_numberVariables_120 : decode cX1_numberVariables 120 = .ok (.iaload, 1) := by decide +kernel
theorem dX1_numberVariables_121 : decode cX1_numberVariables 121 = .ok (.iload_n 2, 1) := by decide +kernel
theorem dX1_numberVariables_122 : decode cX1_numberVariables 122 = .ok (.invokevirtual 144, 3) := by decide +kernel
theorem dX1_numberVariables_125 : decode cX1_numberVariables 125 = .ok (.istore_n 2, 1) := by decide +kernel
theorem dX1_numberVariables_126 : decode cX1_numberVariables 126 = .ok (.aload_n 0, 1) := by decide +kernel
theorem dX1_numberVariables_127 : decode cX1_numberVariables 127 = .ok (.aload_n 0, 1) := by decide +kernel
theorem dX1_numberVariables_128 : decode cX1_numberVariables 128 = .ok (.getfield 45, 3) := by decide +kernel
theorem dX1_numberVariables_131 : decode cX1_numberVariables 131 = .ok (.getfield 158, 3) := by decide +kernel
theorem dX1_numberVariables_134 : decode cX1_numberVariables 134 = .ok (.iload 4, 2) := by decide +kernel
theorem dX1_numberVariables_136 : decode cX1_numberVariables 136 = .ok (.iaload, 1) := by decide +kernel
theorem dX1_numberVariables_137 : decode cX1_numberVariables 137 = .ok (.iload_n 2, 1) := by decide +kernel
theorem dX1_numberVariables_138 : decode cX1_numberVariables 138 = .ok (.invokevirtual 144, 3) := by decide +kernel
theorem dX1_numberVariables_141 : decode cX1_numberVariables 141 = .ok (.istore_n 2, 1) := by decide +kernel
theorem dX1_numberVariables_142 : decode cX1_numberVariables 142 = .ok (.iinc 3 1, 3) := by decide +kernel
theorem dX1_numberVariables_145 : decode cX1_numberVariables 145 = .ok (.goto (-107), 3) := by decide +kernel
theorem dX1_numberVariables_148 : decode cX1_numberVariables 148 = .ok (.return_, 1) := by decide +kernel
def bX1_numberVariables_148 (N d : Nat)   (w : Wd)  : Option (Wd) :=
  some w
set_option maxHeartbeats 4000000 in
theorem kX1_numberVariables_148 {V : Ev} {p : Program} {l : Launch} {e : Env} {N d : Nat} {s : State} {m : MethodId} {args : Array Value} {below : List Frame} {meth : Method} {c : Code} {z : Wd} (X : CX V p s m args meth c cX1_numberVariables 5 RX1 none)    {w : Wd}  {H : Heap} {locs : List Loc} {ls : Array Slot} (h : bX1_numberVariables_148 N d   w  = some z) (hH : wH V (cC V) (AC V) s w H locs) (hl : lv_has ls 5 []) : W p l e (rmD (d + 1)) s m args below meth c H locs 0 0 (MQ below (CtV V (cC V) (AC V) z) args s 0 0 (AC V)) (F0 m 148 ls []) := by
  unfold bX1_numberVariables_148 at h
  obtain ⟨hx, hb, hml, hown, hg, hrt, hlk, hK⟩ := id X
  exact r_vret (pc := 148) X hH h dX1_numberVariables_148
def bX1_numberVariables_142 (N d : Nat)  (rec38 : Wd → Int32 → Int32 → Int32 → Option (Wd)) (w : Wd) (x1 : Int32) (x2 : Int32) (x3 : Int32) : Option (Wd) :=
  c_nm (x3 + 1) fun x3_16 =>
  rec38 w x1 x2 x3_16
set_option maxHeartbeats 4000000 in
theorem kX1_numberVariables_142 {V : Ev} {p : Program} {l : Launch} {e : Env} {N d : Nat} {s : State} {m : MethodId} {args : Array Value} {below : List Frame} {meth : Method} {c : Code} {z : Wd} (X : CX V p s m args meth c cX1_numberVariables 5 RX1 none)   {rec38 : Wd → Int32 → Int32 → Int32 → Option (Wd)} (hr38 : ∀ (w : Wd) (x1 : Int32) (x2 : Int32) (x3 : Int32) (H : Heap) (locs : List Loc) (ls : Array Slot), rec38 w x1 x2 x3 = some z → wH V (cC V) (AC V) s w H locs → lv_has ls 5 [(0, .ref (V.2.2 5)), (1, .int x1), (2, .int x2), (3, .int x3)] → W p l e (rmD (d + 1)) s m args below meth c H locs 0 0 (MQ below (CtV V (cC V) (AC V) z) args s 0 0 (AC V)) (F0 m 38 ls [])) {w : Wd} {x1 : Int32} {x2 : Int32} {x3 : Int32} {H : Heap} {locs : List Loc} {ls : Array Slot} (h : bX1_numberVariables_142 N d  rec38 w x1 x2 x3 = some z) (hH : wH V (cC V) (AC V) s w H locs) (hl : lv_has ls 5 [(0, .ref (V.2.2 5)), (1, .int x1), (2, .int x2), (3, .int x3)]) : W p l e (rmD (d + 1)) s m args below meth c H locs 0 0 (MQ below (CtV V (cC V) (AC V) z) args s 0 0 (AC V)) (F0 m 142 ls []) := by
  unfold bX1_numberVariables_142 at h
  obtain ⟨hx, hb, hml, hown, hg, hrt, hlk, hK⟩ := id X
  obtain ⟨x3_16, ex3_16, h⟩ := c_nm_ex h
  refine lv_iinc (pc := 142) (v := x3_16) (lv' := [(3, .int x3_16), (0, .ref (V.2.2 5)), (1, .int x1), (2, .int x2)]) hx hb dX1_numberVariables_142 hl (k := 3) rfl (by rw [← ex3_16]; rfl) (by decide) rfl (fun ls hl => ?_)
  refine lv_goto (pc := 145) (tgt := 38) hx hb dX1_numberVariables_145 (by decide) ?_
  exact hr38 _ _ _ _ _ _ _ h hH (lv_sub hl [1, 2, 3, 0] rfl)
def bX1_numberVariables_38 (N d : Nat)  (rec38 : Wd → Int32 → Int32 → Int32 → Option (Wd)) (w : Wd) (x1 : Int32) (x2 : Int32) (x3 : Int32) : Option (Wd) :=
  if 1000000 ≤ x3 then (
    bX1_numberVariables_148 N d   w 
  ) else (
    if x2 ≤ 0 then (
      bX1_numberVariables_148 N d   w 
    ) else (
      c_nm (x2 + (-1)) fun x2_3 =>
      c_ld w 34 158 x2_3 fun v4 =>
      c_ld w 59 158 v4 fun v5 =>
      c_ld w 32 158 v5 fun v6 =>
      if v6 = 0 then (
        c_sz w 32 158 v5 1 fun w7 =>
        c_cl (eX5_isVariable N d w7 v5) fun w8 v9 =>
        if v9 = 0 then (
          c_ld w8 52 158 v5 fun v10 =>
          c_cl (eX1_push N d w8 v10 x2_3) fun w11 v12 =>
          c_ld w11 51 158 v5 fun v13 =>
          c_cl (eX1_push N d w11 v13 v12) fun w14 v15 =>
          bX1_numberVariables_142 N d  rec38 w14 x1 v15 x3
        ) else (
          c_st w8 31 8 v5 x1 fun w17 =>
          c_nm (x1 + 1) fun x1_18 =>
          bX1_numberVariables_142 N d  rec38 w17 x1_18 x2_3 x3
        )
      ) else (
        bX1_numberVariables_142 N d  rec38 w x1 x2_3 x3
      )
    )
  )
set_option maxHeartbeats 4000000 in
theorem kX1_numberVariables_38 {V : Ev} {p : Program} {l : Launch} {e : Env} {N d : Nat} {s : State} {m : MethodId} {args : Array Value} {below : List Frame} {meth : Method} {c : Code} {z : Wd} (X : CX V p s m args meth c cX1_numberVariables 5 RX1 none)   {rec38 : Wd → Int32 → Int32 → Int32 → Option (Wd)} (hr38 : ∀ (w : Wd) (x1 : Int32) (x2 : Int32) (x3 : Int32) (H : Heap) (locs : List Loc) (ls : Array Slot), rec38 w x1 x2 x3 = some z → wH V (cC V) (AC V) s w H locs → lv_has ls 5 [(0, .ref (V.2.2 5)), (1, .int x1), (2, .int x2), (3, .int x3)] → W p l e (rmD (d + 1)) s m args below meth c H locs 0 0 (MQ below (CtV V (cC V) (AC V) z) args s 0 0 (AC V)) (F0 m 38 ls [])) {w : Wd} {x1 : Int32} {x2 : Int32} {x3 : Int32} {H : Heap} {locs : List Loc} {ls : Array Slot} (h : bX1_numberVariables_38 N d  rec38 w x1 x2 x3 = some z) (hH : wH V (cC V) (AC V) s w H locs) (hl : lv_has ls 5 [(0, .ref (V.2.2 5)), (1, .int x1), (2, .int x2), (3, .int x3)]) : W p l e (rmD (d + 1)) s m args below meth c H locs 0 0 (MQ below (CtV V (cC V) (AC V) z) args s 0 0 (AC V)) (F0 m 38 ls []) := by
  unfold bX1_numberVariables_38 at h
  obtain ⟨hx, hb, hml, hown, hg, hrt, hlk, hK⟩ := id X
  refine lv_iload_n (pc := 38) hx hb dX1_numberVariables_38 rfl (lv_at hl 3 rfl) ?_
  refine lv_ldc (pc := 39) hx hb hown (hg _ wK_670) dX1_numberVariables_39 ?_
  refine b_icmp_ge (pc := 41) (tgt := 148) hx hb h dX1_numberVariables_41 (by decide) (fun h => ?_) (fun h => ?_)
  · exact kX1_numberVariables_148 X   h hH (lv_sub hl [] rfl)
  · refine lv_iload_n (pc := 44) hx hb dX1_numberVariables_44 rfl (lv_at hl 2 rfl) ?_
    refine b_if_le (pc := 45) (tgt := 148) hx hb h dX1_numberVariables_45 (by decide) (fun h => ?_) (fun h => ?_)
    · exact kX1_numberVariables_148 X   h hH (lv_sub hl [] rfl)
    · obtain ⟨x2_3, ex2_3, h⟩ := c_nm_ex h
      refine lv_iinc (pc := 48) (v := x2_3) (lv' := [(2, .int x2_3), (0, .ref (V.2.2 5)), (1, .int x1), (3, .int x3)]) hx hb dX1_numberVariables_48 hl (k := 2) rfl (by rw [← ex2_3]; rfl) (by decide) rfl (fun ls hl => ?_)
      refine lv_aload_n (pc := 51) hx hb dX1_numberVariables_51 rfl (lv_at hl 1 rfl) ?_
      refine gC_X1_54_5 (pc := 52) X hH dX1_numberVariables_52 ?_
      refine gC_X1_149_11 (pc := 55) X hH dX1_numberVariables_55 ?_
      refine lv_aload_n (pc := 58) hx hb dX1_numberVariables_58 rfl (lv_at hl 1 rfl) ?_
      refine gC_X1_31_5 (pc := 59) X hH dX1_numberVariables_59 ?_
      refine lv_iload_n (pc := 62) hx hb dX1_numberVariables_62 rfl (lv_at hl 0 rfl) ?_
      refine r_ld (pc := 63) X (heC_33 V w) hH h dX1_numberVariables_63 (fun v4 h => ?_)
      refine r_ld (pc := 64) X (heC_55 V w) hH h dX1_numberVariables_64 (fun v5 h => ?_)
      refine lv_istore (pc := 65) (lv' := [(4, .int v5), (2, .int x2_3), (0, .ref (V.2.2 5)), (1, .int x1), (3, .int x3)]) hx hb dX1_numberVariables_65 hl (by decide) rfl (fun ls hl => ?_)
      refine lv_aload_n (pc := 67) hx hb dX1_numberVariables_67 rfl (lv_at hl 2 rfl) ?_
      refine gC_X1_24_5 (pc := 68) X hH dX1_numberVariables_68 ?_
      refine lv_iload (pc := 71) hx hb dX1_numberVariables_71 (lv_at hl 0 rfl) ?_
      refine r_lz (pc := 73) X (heC_31 V w) hH h dX1_numberVariables_73 (fun v6 h => ?_)
      refine b_if_eq (pc := 74) (tgt := 80) hx hb h dX1_numberVariables_74 (by decide) (fun h => ?_) (fun h => ?_)
      · refine lv_aload_n (pc := 80) hx hb dX1_numberVariables_80 rfl (lv_at hl 2 rfl) ?_
        refine gC_X1_24_5 (pc := 81) X hH dX1_numberVariables_81 ?_
        refine lv_iload (pc := 84) hx hb dX1_numberVariables_84 (lv_at hl 0 rfl) ?_
        refine lv_iconst (pc := 86) (v := 1) hx hb dX1_numberVariables_86 (by decide) ?_
        refine r_sz (pc := 87) X (heC_31 V w) (hsC_31 V w) hH h dX1_numberVariables_87 (fun w7 H locs h hH => ?_)
        refine lv_iload (pc := 88) hx hb dX1_numberVariables_88 (lv_at hl 0 rfl) ?_
        refine r_csI (pc := 90) (As := [.int v5]) (rest := []) X hH (fun x hx => mX5_isVariable hx) cs_X1_152 rfl rfl (Nat.le_of_ble_eq_true rfl) hl.1 h dX1_numberVariables_90 (fun w8 v9 H locs h hH => ?_)
        refine b_if_eq (pc := 93) (tgt := 110) hx hb h dX1_numberVariables_93 (by decide) (fun h => ?_) (fun h => ?_)
        · refine lv_aload_n (pc := 110) hx hb dX1_numberVariables_110 rfl (lv_at hl 2 rfl) ?_
          refine lv_aload_n (pc := 111) hx hb dX1_numberVariables_111 rfl (lv_at hl 2 rfl) ?_
          refine gC_X1_45_5 (pc := 112) X hH dX1_numberVariables_112 ?_
          refine gC_X1_155_10 (pc := 115) X hH dX1_numberVariables_115 ?_
          refine lv_iload (pc := 118) hx hb dX1_numberVariables_118 (lv_at hl 0 rfl) ?_
          refine r_ld (pc := 120) X (heC_48 V w8) hH h dX1_numberVariables_120 (fun v10 h => ?_)
          refine lv_iload_n (pc := 121) hx hb dX1_numberVariables_121 rfl (lv_at hl 1 rfl) ?_
          refine r_cvI (pc := 122) (As := [.int v10, .int x2_3]) (rest := []) X hH (fun x hx => mX1_push hx) cw_X1_144 (heC_5 V w8) rfl rfl rfl (Nat.le_of_ble_eq_true rfl) hl.1 h dX1_numberVariables_122 (fun w11 v12 H locs h hH => ?_)
          refine lv_istore_n (pc := 125) (lv' := [(2, .int v12), (4, .int v5), (0, .ref (V.2.2 5)), (1, .int x1), (3, .int x3)]) hx hb dX1_numberVariables_125 rfl hl (by decide) rfl (fun ls hl => ?_)
          refine lv_aload_n (pc := 126) hx hb dX1_numberVariables_126 rfl (lv_at hl 2 rfl) ?_
          refine lv_aload_n (pc := 127) hx hb dX1_numberVariables_127 rfl (lv_at hl 2 rfl) ?_
          refine gC_X1_45_5 (pc := 128) X hH dX1_numberVariables_128 ?_
          refine gC_X1_158_10 (pc := 131) X hH dX1_numberVariables_131 ?_
          refine lv_iload (pc := 134) hx hb dX1_numberVariables_134 (lv_at hl 1 rfl) ?_
          refine r_ld (pc := 136) X (heC_47 V w11) hH h dX1_numberVariables_136 (fun v13 h => ?_)
          refine lv_iload_n (pc := 137) hx hb dX1_numberVariables_137 rfl (lv_at hl 0 rfl) ?_
          refine r_cvI (pc := 138) (As := [.int v13, .int v12]) (rest := []) X hH (fun x hx => mX1_push hx) cw_X1_144 (heC_5 V w11) rfl rfl rfl (Nat.le_of_ble_eq_true rfl) hl.1 h dX1_numberVariables_138 (fun w14 v15 H locs h hH => ?_)
          refine lv_istore_n (pc := 141) (lv' := [(2, .int v15), (4, .int v5), (0, .ref (V.2.2 5)), (1, .int x1), (3, .int x3)]) hx hb dX1_numberVariables_141 rfl hl (by decide) rfl (fun ls hl => ?_)
          exact kX1_numberVariables_142 X  hr38 h hH (lv_sub hl [2, 3, 0, 4] rfl)
        · refine lv_aload_n (pc := 96) hx hb dX1_numberVariables_96 rfl (lv_at hl 2 rfl) ?_
          refine gC_X1_18_5 (pc := 97) X hH dX1_numberVariables_97 ?_
          refine lv_iload (pc := 100) hx hb dX1_numberVariables_100 (lv_at hl 0 rfl) ?_
          refine lv_iload_n (pc := 102) hx hb dX1_numberVariables_102 rfl (lv_at hl 3 rfl) ?_
          refine r_st (pc := 103) X (heC_30 V w8) (hsC_30 V w8) hH h dX1_numberVariables_103 (fun w17 H locs h hH => ?_)
          obtain ⟨x1_18, ex1_18, h⟩ := c_nm_ex h
          refine lv_iinc (pc := 104) (v := x1_18) (lv' := [(1, .int x1_18), (4, .int v5), (2, .int x2_3), (0, .ref (V.2.2 5)), (3, .int x3)]) hx hb dX1_numberVariables_104 hl (k := 3) rfl (by rw [← ex1_18]; rfl) (by decide) rfl (fun ls hl => ?_)
          refine lv_goto (pc := 107) (tgt := 142) hx hb dX1_numberVariables_107 (by decide) ?_
          exact kX1_numberVariables_142 X  hr38 h hH (lv_sub hl [3, 0, 2, 4] rfl)
      · refine lv_goto (pc := 77) (tgt := 142) hx hb dX1_numberVariables_77 (by decide) ?_
        exact kX1_numberVariables_142 X  hr38 h hH (lv_sub hl [2, 3, 1, 4] rfl)
def fX1_numberVariables_38 (N d : Nat)   : Nat → Wd → Int32 → Int32 → Int32 → Option (Wd)
  | 0 => fun _ _ _ _ => none
  | n + 1 => fun w x1 x2 x3 => bX1_numberVariables_38 N d   (fX1_numberVariables_38 N d   n) w x1 x2 x3
theorem lX1_numberVariables_38 {V : Ev} {p : Program} {l : Launch} {e : Env} {N d : Nat} {s : State} {m : MethodId} {args : Array Value} {below : List Frame} {meth : Method} {c : Code} {z : Wd} (X : CX V p s m args meth c cX1_numberVariables 5 RX1 none)    (n : Nat) {w : Wd} {x1 : Int32} {x2 : Int32} {x3 : Int32} {H : Heap} {locs : List Loc} {ls : Array Slot} (h : fX1_numberVariables_38 N d   n w x1 x2 x3 = some z) (hH : wH V (cC V) (AC V) s w H locs) (hl : lv_has ls 5 [(0, .ref (V.2.2 5)), (1, .int x1), (2, .int x2), (3, .int x3)]) : W p l e (rmD (d + 1)) s m args below meth c H locs 0 0 (MQ below (CtV V (cC V) (AC V) z) args s 0 0 (AC V)) (F0 m 38 ls []) := by
  induction n generalizing w x1 x2 x3 H locs ls with
  | zero => exact c_none h
  | succ n ih => exact kX1_numberVariables_38 (N := N) X  (fun _ _ _ _ _ _ _ h hH hl => ih h hH hl) h hH hl
def bX1_numberVariables_2 (N d : Nat)  (rec2 : Wd → Int32 → Option (Wd)) (w : Wd) (x1 : Int32) : Option (Wd) :=
  if (sI w 19) ≤ x1 then (
    c_cl (eX1_push N d w 8 0) fun w1 v2 =>
    fX1_numberVariables_38 N d   N w1 ((0 : Int32)) v2 ((0 : Int32))
  ) else (
    c_sz w 32 158 x1 0 fun w19 =>
    c_nm (x1 + 1) fun x1_20 =>
    rec2 w19 x1_20
  )
set_option maxHeartbeats 4000000 in
theorem kX1_numberVariables_2 {V : Ev} {p : Program} {l : Launch} {e : Env} {N d : Nat} {s : State} {m : MethodId} {args : Array Value} {below : List Frame} {meth : Method} {c : Code} {z : Wd} (X : CX V p s m args meth c cX1_numberVariables 5 RX1 none)   {rec2 : Wd → Int32 → Option (Wd)} (hr2 : ∀ (w : Wd) (x1 : Int32) (H : Heap) (locs : List Loc) (ls : Array Slot), rec2 w x1 = some z → wH V (cC V) (AC V) s w H locs → lv_has ls 5 [(0, .ref (V.2.2 5)), (1, .int x1)] → W p l e (rmD (d + 1)) s m args below meth c H locs 0 0 (MQ below (CtV V (cC V) (AC V) z) args s 0 0 (AC V)) (F0 m 2 ls [])) {w : Wd} {x1 : Int32} {H : Heap} {locs : List Loc} {ls : Array Slot} (h : bX1_numberVariables_2 N d  rec2 w x1 = some z) (hH : wH V (cC V) (AC V) s w H locs) (hl : lv_has ls 5 [(0, .ref (V.2.2 5)), (1, .int x1)]) : W p l e (rmD (d + 1)) s m args below meth c H locs 0 0 (MQ below (CtV V (cC V) (AC V) z) args s 0 0 (AC V)) (F0 m 2 ls []) := by
  unfold bX1_numberVariables_2 at h
  obtain ⟨hx, hb, hml, hown, hg, hrt, hlk, hK⟩ := id X
  refine lv_iload_n (pc := 2) hx hb dX1_numberVariables_2 rfl (lv_at hl 1 rfl) ?_
  refine lv_aload_n (pc := 3) hx hb dX1_numberVariables_3 rfl (lv_at hl 0 rfl) ?_
  refine gC_X1_45_5 (pc := 4) X hH dX1_numberVariables_4 ?_
  refine gC_X1_82_10 (pc := 7) X hH dX1_numberVariables_7 ?_
  refine b_icmp_ge (pc := 10) (tgt := 26) hx hb h dX1_numberVariables_10 (by decide) (fun h => ?_) (fun h => ?_)
  · refine lv_iconst (pc := 26) (v := 0) hx hb dX1_numberVariables_26 (by decide) ?_
    refine lv_istore_n (pc := 27) (lv' := [(1, .int ((0 : Int32))), (0, .ref (V.2.2 5))]) hx hb dX1_numberVariables_27 rfl hl (by decide) rfl (fun ls hl => ?_)
    refine lv_aload_n (pc := 28) hx hb dX1_numberVariables_28 rfl (lv_at hl 1 rfl) ?_
    refine lv_bipush (pc := 29) (v := 8) hx hb dX1_numberVariables_29 (by decide) ?_
    refine lv_iconst (pc := 31) (v := 0) hx hb dX1_numberVariables_31 (by decide) ?_
    refine r_cvI (pc := 32) (As := [.int 8, .int 0]) (rest := []) X hH (fun x hx => mX1_push hx) cw_X1_144 (heC_5 V w) rfl rfl rfl (Nat.le_of_ble_eq_true rfl) hl.1 h dX1_numberVariables_32 (fun w1 v2 H locs h hH => ?_)
    refine lv_istore_n (pc := 35) (lv' := [(2, .int v2), (1, .int ((0 : Int32))), (0, .ref (V.2.2 5))]) hx hb dX1_numberVariables_35 rfl hl (by decide) rfl (fun ls hl => ?_)
    refine lv_iconst (pc := 36) (v := 0) hx hb dX1_numberVariables_36 (by decide) ?_
    refine lv_istore_n (pc := 37) (lv' := [(3, .int ((0 : Int32))), (2, .int v2), (1, .int ((0 : Int32))), (0, .ref (V.2.2 5))]) hx hb dX1_numberVariables_37 rfl hl (by decide) rfl (fun ls hl => ?_)
    exact lX1_numberVariables_38 X   N h hH (lv_sub hl [3, 2, 1, 0] rfl)
  · refine lv_aload_n (pc := 13) hx hb dX1_numberVariables_13 rfl (lv_at hl 0 rfl) ?_
    refine gC_X1_24_5 (pc := 14) X hH dX1_numberVariables_14 ?_
    refine lv_iload_n (pc := 17) hx hb dX1_numberVariables_17 rfl (lv_at hl 1 rfl) ?_
    refine lv_iconst (pc := 18) (v := 0) hx hb dX1_numberVariables_18 (by decide) ?_
    refine r_sz (pc := 19) X (heC_31 V w) (hsC_31 V w) hH h dX1_numberVariables_19 (fun w19 H locs h hH => ?_)
    obtain ⟨x1_20, ex1_20, h⟩ := c_nm_ex h
    refine lv_iinc (pc := 20) (v := x1_20) (lv' := [(1, .int x1_20), (0, .ref (V.2.2 5))]) hx hb dX1_numberVariables_20 hl (k := 1) rfl (by rw [← ex1_20]; rfl) (by decide) rfl (fun ls hl => ?_)
    refine lv_goto (pc := 23) (tgt := 2) hx hb dX1_numberVariables_23 (by decide) ?_
    exact hr2 _ _ _ _ _ h hH (lv_sub hl [1, 0] rfl)
def fX1_numberVariables_2 (N d : Nat)   : Nat → Wd → Int32 → Option (Wd)
  | 0 => fun _ _ => none
  | n + 1 => fun w x1 => bX1_numberVariables_2 N d   (fX1_numberVariables_2 N d   n) w x1
theorem lX1_numberVariables_2 {V : Ev} {p : Program} {l : Launch} {e : Env} {N d : Nat} {s : State} {m : MethodId} {args : Array Value} {below : List Frame} {meth : Method} {c : Code} {z : Wd} (X : CX V p s m args meth c cX1_numberVariables 5 RX1 none)    (n : Nat) {w : Wd} {x1 : Int32} {H : Heap} {locs : List Loc} {ls : Array Slot} (h : fX1_numberVariables_2 N d   n w x1 = some z) (hH : wH V (cC V) (AC V) s w H locs) (hl : lv_has ls 5 [(0, .ref (V.2.2 5)), (1, .int x1)]) : W p l e (rmD (d + 1)) s m args below meth c H locs 0 0 (MQ below (CtV V (cC V) (AC V) z) args s 0 0 (AC V)) (F0 m 2 ls []) := by
  induction n generalizing w x1 H locs ls with
  | zero => exact c_none h
  | succ n ih => exact kX1_numberVariables_2 (N := N) X  (fun _ _ _ _ _ h hH hl => ih h hH hl) h hH hl
def bX1_numberVariables_0 (N d : Nat)   (w : Wd)  : Option (Wd) :=
  fX1_numberVariables_2 N d   N w ((0 : Int32))
set_option maxHeartbeats 4000000 in
theorem kX1_numberVariables_0 {V : Ev} {p : Program} {l : Launch} {e : Env} {N d : Nat} {s : State} {m : MethodId} {args : Array Value} {below : List Frame} {meth : Method} {c : Code} {z : Wd} (X : CX V p s m args meth c cX1_numberVariables 5 RX1 none)    {w : Wd}  {H : Heap} {locs : List Loc} {ls : Array Slot} (h : bX1_numberVariables_0 N d   w  = some z) (hH : wH V (cC V) (AC V) s w H locs) (hl : lv_has ls 5 [(0, .ref (V.2.2 5))]) : W p l e (rmD (d + 1)) s m args below meth c H locs 0 0 (MQ below (CtV V (cC V) (AC V) z) args s 0 0 (AC V)) (F0 m 0 ls []) := by
  unfold bX1_numberVariables_0 at h
  obtain ⟨hx, hb, hml, hown, hg, hrt, hlk, hK⟩ := id X
  refine lv_iconst (pc := 0) (v := 0) hx hb dX1_numberVariables_0 (by decide) ?_
  refine lv_istore_n (pc := 1) (lv' := [(1, .int ((0 : Int32))), (0, .ref (V.2.2 5))]) hx hb dX1_numberVariables_1 rfl hl (by decide) rfl (fun ls hl => ?_)
  exact lX1_numberVariables_2 X   N h hH (lv_sub hl [1, 0] rfl)
def eX1_numberVariables (N : Nat) : Nat → Wd → Option (Wd)
  | 0 => fun _  => none
  | d + 1 => fun w  => bX1_numberVariables_0 N d  w 
set_option maxHeartbeats 4000000 in
set_option maxRecDepth 20000 in
theorem mX1_numberVariables {l : Launch} {V : Ev} {N d : Nat} {w : Wd}  {z : Wd} (h : eX1_numberVariables N d w  = some z) : MetV l V (cC V) (AC V) yX1_numberVariables cX1_numberVariables 5 none d [.ref (V.2.2 5)] w z := by
  cases d with
  | zero => exact c_none h
  | succ d =>
    refine Met.ofW (cc := cX1_numberVariables) (maxL := 5) (ret := none) (by decide) rfl ?_
    intro p e s m args below meth c s₁ B hml hv
    obtain ⟨rfl, hP, hD, hK⟩ := hv
    have hts := atoms_spec (ws := .code yX1_numberVariables cX1_numberVariables 5 none :: gG) B.pre
    have X : CX V p s m ([.ref (V.2.2 5)] : List Value).toArray meth c cX1_numberVariables 5 RX1 none := ⟨B.exec, B.bytes, hml, findClass_of_methodNamed B.named, fun w hw => hts w (List.mem_cons_of_mem _ hw), B.returns, B.notSynchronized, hK⟩
    have hl := lv_entry ([.ref (V.2.2 5)] : List Value) (n := 5) (Nat.le_of_ble_eq_true rfl)
    rw [lg_entry_eq]
    generalize (lg_sl ([.ref (V.2.2 5)] : List Value) ++ List.replicate (5 - (lg_sl ([.ref (V.2.2 5)] : List Value)).length) Slot.unset).toArray = ls at hl ⊢
    have hl : lv_has ls 5 [(0, .ref (V.2.2 5))] := hl
    exact kX1_numberVariables_0 (N := N) X  h ⟨hP, hD, va_S.rf⟩ hl
theorem dX5_layReplaced_0 : decode cX5_layReplaced 0 = .ok (.iload_n 2, 1) := by decide +kernel
theorem dX5_layReplaced_1 : decode cX5_layReplaced 1 = .ok (.istore_n 3, 1) := by decide +kernel
theorem dX5_layReplaced_2 : decode cX5_layReplaced 2 = .ok (.iload_n 1, 1) := by decide +kernel
theorem dX5_layReplaced_3 : decode cX5_layReplaced 3 = .ok (.istore 4, 2) := by decide +kernel
theorem dX5_layReplaced_5 : decode cX5_layReplaced 5 = .ok (.iconst 0, 1) := by decide +kernel
theorem dX5_layReplaced_6 : decode cX5_layReplaced 6 = .ok (.istore 5, 2) := by decide +kernel
theorem dX5_layReplaced_8 : decode cX5_layReplaced 8 = .ok (.iload 5, 2) := by decide +kernel
theorem dX5_layReplaced_10 : decode cX5_layReplaced 10 = .ok (.bipush 30, 2) := by decide +kernel
theorem dX5_layReplaced_12 : decode cX5_layReplaced 12 = .ok (.if_icmp .ge 131, 3) := by decide +kernel
theorem dX5_layReplaced_15 : decode cX5_layReplaced 15 = .ok (.iload 4, 2) := by decide +kernel
theorem dX5_layReplaced_17 : decode cX5_layReplaced 17 = .ok (.bipush 8, 2) := by decide +kernel
theorem dX5_layReplaced_19 : decode cX5_layReplaced 19 = .ok (.if_icmp .le 124, 3) := by decide +kernel
theorem dX5_layReplaced_22 : decode cX5_layReplaced 22 = .ok (.aload_n 0, 1) := by decide +kernel
theorem dX5_layReplaced_23 : decode cX5_layReplaced 23 = .ok (.getfield 45, 3) := by decide +kernel
theorem dX5_layReplaced_26 : decode cX5_layReplaced 26 = .ok (.sipush 158, 3) := by decide +kernel
theorem dX5_layReplaced_29 : decode cX5_layReplaced 29 = .ok (.if_icmp .ge 114, 3) := by decide +kernel
theorem dX5_layReplaced_32 : decode cX5_layReplaced 32 = .ok (.aload_n 0, 1) := by decide +kernel
theorem dX5_layReplaced_33 : decode cX5_layReplaced 33 = .ok (.getfield 21, 3) := by decide +kernel
theorem dX5_layReplaced_36 : decode cX5_layReplaced 36 = .ok (.iload 4, 2) := by decide +kernel
theorem dX5_layReplaced_38 : decode cX5_layReplaced 38 = .ok (.iaload, 1) := by decide +kernel
theorem dX5_layReplaced_39 : decode cX5_layReplaced 39 = .ok (.istore 6, 2) := by decide +kernel
theorem dX5_layReplaced_41 : decode cX5_layReplaced 41 = .ok (.aload_n 0, 1) := by decide +kernel
theorem dX5_layReplaced_42 : decode cX5_layReplaced 42 = .ok (.getfield 11, 3) := by decide +kernel
theorem dX5_layReplaced_45 : decode cX5_layReplaced 45 = .ok (.aload_n 0, 1) := by decide +kernel
theorem dX5_layReplaced_46 : decode cX5_layReplaced 46 = .ok (.getfield 45, 3) := by decide +kernel
theorem dX5_layReplaced_49 : decode cX5_layReplaced 49 = .ok (.aload_n 0, 1) := by decide +kernel
theorem dX5_layReplaced_50 : decode cX5_layReplaced 50 = .ok (.getfield 11, 3) := by decide +kernel
theorem dX5_layReplaced_53 : decode cX5_layReplaced 53 = .ok (.iload 6, 2) := by decide +kernel
theorem dX5_layReplaced_55 : decode cX5_layReplaced 55 = .ok (.iaload, 1) := by decide +kernel
theorem dX5_layReplaced_56 : decode cX5_layReplaced 56 = .ok (.iastore, 1) := by decide +kernel
theorem dX5_layReplaced_57 : decode cX5_layReplaced 57 = .ok (.aload_n 0, 1) := by decide +kernel
theorem dX5_layReplaced_58 : decode cX5_layReplaced 58 = .ok (.getfield 15, 3) := by decide +kernel
theorem dX5_layReplaced_61 : decode cX5_layReplaced 61 = .ok (.aload_n 0, 1) := by decide +kernel
theorem dX5_layReplaced_62 : decode cX5_layReplaced 62 = .ok (.getfield 45, 3) := by decide +kernel
theorem dX5_layReplaced_65 : decode cX5_layReplaced 65 = .ok (.aload_n 0, 1) := by decide +kernel
theorem dX5_layReplaced_66 : decode cX5_layReplaced 66 = .ok (.getfield 24, 3) := by decide +kernel
theorem dX5_layReplaced_69 : decode cX5_layReplaced 69 = .ok (.iload 4, 2) := by decide +kernel
theorem dX5_layReplaced_71 : decode cX5_layReplaced 71 = .ok (.iaload, 1) := by decide +kernel
theorem dX5_layReplaced_72 : decode cX5_layReplaced 72 = .ok (.ifCond .ne 7, 3) := by decide +kernel
theorem dX5_layReplaced_75 : decode cX5_layReplaced 75 = .ok (.iload_n 3, 1) := by decide +kernel
theorem dX5_layReplaced_76 : decode cX5_layReplaced 76 = .ok (.goto 10, 3) := by decide +kernel
theorem dX5_layReplaced_79 : decode cX5_layReplaced 79 = .ok (.aload_n 0, 1) := by decide +kernel
theorem dX5_layReplaced_80 : decode cX5_layReplaced 80 = .ok (.getfield 15, 3) := by decide +kernel
theorem dX5_layReplaced_83 : decode cX5_layReplaced 83 = .ok (.iload 6, 2) := by decide +kernel
theorem dX5_layReplaced_85 : decode cX5_layReplaced 85 = .ok (.iaload, 1) := by decide +kernel
theorem dX5_layReplaced_86 : decode cX5_layReplaced 86 = .ok (.iastore, 1) := by decide +kernel
theorem dX5_layReplaced_87 : decode cX5_layReplaced 87 = .ok (.aload_n 0, 1) := by decide +kernel
theorem dX5_layReplaced_88 : decode cX5_layReplaced 88 = .ok (.getfield 18, 3) := by decide +kernel
theorem dX5_layReplaced_91 : decode cX5_layReplaced 91 = .ok (.aload_n 0, 1) := by decide +kernel
theorem dX5_layReplaced_92 : decode cX5_layReplaced 92 = .ok (.getfield 45, 3) := by decide +kernel
theorem dX5_layReplaced_95 : decode cX5_layReplaced 95 = .ok (.aload_n 0, 1) := by decide +kernel
theorem dX5_layReplaced_96 : decode cX5_layReplaced 96 = .ok (.getfield 24, 3) := by decide +kernel
theorem dX5_layReplaced_99 : decode cX5_layReplaced 99 = .ok (.iload 4, 2) := by decide +kernel
theorem dX5_layReplaced_101 : decode cX5_layReplaced 101 = .ok (.iaload, 1) := by decide +kernel
theorem dX5_layReplaced_102 : decode cX5_layReplaced 102 = .ok (.iconst 1, 1) := by decide +kernel
theorem dX5_layReplaced_103 : decode cX5_layReplaced 103 = .ok (.if_icmp .ne 7, 3) := by decide +kernel
theorem dX5_layReplaced_106 : decode cX5_layReplaced 106 = .ok (.iload_n 3, 1) := by decide +kernel
theorem dX5_layReplaced_107 : decode cX5_layReplaced 107 = .ok (.goto 10, 3) := by decide +kernel
theorem dX5_layReplaced_110 : decode cX5_layReplaced 110 = .ok (.aload_n 0, 1) := by decide +kernel
theorem dX5_layReplaced_111 : decode cX5_layReplaced 111 = .ok (.getfield 18, 3) := by decide +kernel
theorem dX5_layReplaced_114 : decode cX5_layReplaced 114 = .ok (.iload 6, 2) := by decide +kernel
theorem dX5_layReplaced_116 : decode cX5_layReplaced 116 = .ok (.iaload, 1) := by decide +kernel
theorem dX5_layReplaced_117 : decode cX5_layReplaced 117 = .ok (.iastore, 1) := by decide +kernel
theorem dX5_layReplaced_118 : decode cX5_layReplaced 118 = .ok (.aload_n 0, 1) := by decide +kernel
theorem dX5_layReplaced_119 : decode cX5_layReplaced 119 = .ok (.getfield 45, 3) := by decide +kernel
theorem dX5_layReplaced_122 : decode cX5_layReplaced 122 = .ok (.istore_n 3, 1) := by decide +kernel
theorem dX5_layReplaced_123 : decode cX5_layReplaced 123 = .ok (.aload_n 0, 1) := by decide +kernel
theorem dX5_layReplaced_124 : decode cX5_layReplaced 124 = .ok (.dup, 1) := by decide +kernel
theorem dX5_layReplaced_125 : decode cX5_layReplaced 125 = .ok (.getfield 45, 3) := by decide +kernel
theorem dX5_layReplaced_128 : decode cX5_layReplaced 128 = .ok (.iconst 1, 1) := by decide +kernel
theorem dX5_layReplaced_129 : decode cX5_layReplaced 129 = .ok (.iadd, 1) := by decide +kernel
theorem dX5_layReplaced_130 : decode cX5_layReplaced 130 = .ok (.putfield 45, 3) := by decide +kernel
theorem dX5_layReplaced_133 : decode cX5_layReplaced 133 = .ok (.iload 6, 2) := by decide +kernel
theorem dX5_layReplaced_135 : decode cX5_layReplaced 135 = .ok (.istore 4, 2) := by decide +kernel
theorem dX5_layReplaced_137 : decode cX5_layReplaced 137 = .ok (.iinc 5 1, 3) := by decide +kernel
theorem dX5_layReplaced_140 : decode cX5_layReplaced 140 = .ok (.goto (-132), 3) := by decide +kernel
theorem dX5_layReplaced_143 : decode cX5_layReplaced 143 = .ok (.iload_n 3, 1) := by decide +kernel
theorem dX5_layReplaced_144 : decode cX5_layReplaced 144 = .ok (.ireturn, 1) := by decide +kernel
def bX5_layReplaced_143 (N d : Nat)   (w : Wd) (x3 : Int32) : Option (Wd × Int32) :=
  some (w, x3)
set_option maxHeartbeats 4000000 in
theorem kX5_layReplaced_143 {V : Ev} {p : Program} {l : Launch} {e : Env} {N d : Nat} {s : State} {m : MethodId} {args : Array Value} {below : List Frame} {meth : Method} {c : Code} {z : Wd × Int32} (X : CX V p s m args meth c cX5_layReplaced 7 RX5 (some .int))    {w : Wd} {x3 : Int32} {H : Heap} {locs : List Loc} {ls : Array Slot} (h : bX5_layReplaced_143 N d   w x3 = some z) (hH : wH V (cC V) (AC V) s w H locs) (hl : lv_has ls 7 [(3, .int x3)]) : W p l e (rmD (d + 1)) s m args below meth c H locs 0 0 (MQ below (CtI V (cC V) (AC V) z) args s 0 0 (AC V)) (F0 m 143 ls []) := by
  unfold bX5_layReplaced_143 at h
  obtain ⟨hx, hb, hml, hown, hg, hrt, hlk, hK⟩ := id X
  refine lv_iload_n (pc := 143) hx hb dX5_layReplaced_143 rfl (lv_at hl 0 rfl) ?_
  exact r_iret (pc := 144) X hH h dX5_layReplaced_144
def bX5_layReplaced_117 (N d : Nat)  (rec8 : Wd → Int32 → Int32 → Int32 → Option (Wd × Int32)) (w : Wd) (x5 : Int32) (x6 : Int32) (y1 : Int32) (y2 : Int32) : Option (Wd × Int32) :=
  c_st w 52 158 y1 y2 fun w9 =>
  c_nm (sI w9 19) fun x3_10 =>
  c_pi w9 19 ((sI w9 19) + 1) fun w11 =>
  c_nm (x5 + 1) fun x5_12 =>
  rec8 w11 x3_10 x6 x5_12
set_option maxHeartbeats 4000000 in
theorem kX5_layReplaced_117 {V : Ev} {p : Program} {l : Launch} {e : Env} {N d : Nat} {s : State} {m : MethodId} {args : Array Value} {below : List Frame} {meth : Method} {c : Code} {z : Wd × Int32} (X : CX V p s m args meth c cX5_layReplaced 7 RX5 (some .int))   {rec8 : Wd → Int32 → Int32 → Int32 → Option (Wd × Int32)} (hr8 : ∀ (w : Wd) (x3 : Int32) (x4 : Int32) (x5 : Int32) (H : Heap) (locs : List Loc) (ls : Array Slot), rec8 w x3 x4 x5 = some z → wH V (cC V) (AC V) s w H locs → lv_has ls 7 [(0, .ref (V.2.2 10)), (3, .int x3), (4, .int x4), (5, .int x5)] → W p l e (rmD (d + 1)) s m args below meth c H locs 0 0 (MQ below (CtI V (cC V) (AC V) z) args s 0 0 (AC V)) (F0 m 8 ls [])) {w : Wd} {x5 : Int32} {x6 : Int32} {y1 : Int32} {y2 : Int32} {H : Heap} {locs : List Loc} {ls : Array Slot} (h : bX5_layReplaced_117 N d  rec8 w x5 x6 y1 y2 = some z) (hH : wH V (cC V) (AC V) s w H locs) (hl : lv_has ls 7 [(0, .ref (V.2.2 10)), (5, .int x5), (6, .int x6)]) : W p l e (rmD (d + 1)) s m args below meth c H locs 0 0 (MQ below (CtI V (cC V) (AC V) z) args s 0 0 (AC V)) (F0 m 117 ls [.int y2, .int y1, .ref (V.2.2 48)]) := by
  unfold bX5_layReplaced_117 at h
  obtain ⟨hx, hb, hml, hown, hg, hrt, hlk, hK⟩ := id X
  refine r_st (pc := 117) X (heC_48 V w) (hsC_48 V w) hH h dX5_layReplaced_117 (fun w9 H locs h hH => ?_)
  refine lv_aload_n (pc := 118) hx hb dX5_layReplaced_118 rfl (lv_at hl 0 rfl) ?_
  refine gC_X5_45_10 (pc := 119) X hH dX5_layReplaced_119 ?_
  refine r_nmi h (fun x3_10 h => ?_)
  refine lv_istore_n (pc := 122) (lv' := [(3, .int x3_10), (0, .ref (V.2.2 10)), (5, .int x5), (6, .int x6)]) hx hb dX5_layReplaced_122 rfl hl (by decide) rfl (fun ls hl => ?_)
  refine lv_aload_n (pc := 123) hx hb dX5_layReplaced_123 rfl (lv_at hl 1 rfl) ?_
  refine lv_dup (pc := 124) hx hb dX5_layReplaced_124 rfl ?_
  refine gC_X5_45_10 (pc := 125) X hH dX5_layReplaced_125 ?_
  refine lv_iconst (pc := 128) (v := 1) hx hb dX5_layReplaced_128 (by decide) ?_
  refine lv_iadd (pc := 129) hx hb dX5_layReplaced_129 ?_
  refine pC_X5_45_10 (pc := 130) X hH h dX5_layReplaced_130 (fun w11 H locs h hH => ?_)
  refine lv_iload (pc := 133) hx hb dX5_layReplaced_133 (lv_at hl 3 rfl) ?_
  refine lv_istore (pc := 135) (lv' := [(4, .int x6), (3, .int x3_10), (0, .ref (V.2.2 10)), (5, .int x5), (6, .int x6)]) hx hb dX5_layReplaced_135 hl (by decide) rfl (fun ls hl => ?_)
  obtain ⟨x5_12, ex5_12, h⟩ := c_nm_ex h
  refine lv_iinc (pc := 137) (v := x5_12) (lv' := [(5, .int x5_12), (4, .int x6), (3, .int x3_10), (0, .ref (V.2.2 10)), (6, .int x6)]) hx hb dX5_layReplaced_137 hl (k := 3) rfl (by rw [← ex5_12]; rfl) (by decide) rfl (fun ls hl => ?_)
  refine lv_goto (pc := 140) (tgt := 8) hx hb dX5_layReplaced_140 (by decide) ?_
  exact hr8 _ _ _ _ _ _ _ h hH (lv_sub hl [3, 2, 1, 0] rfl)
def bX5_layReplaced_86 (N d : Nat)  (rec8 : Wd → Int32 → Int32 → Int32 → Option (Wd × Int32)) (w : Wd) (x3 : Int32) (x4 : Int32) (x5 : Int32) (x6 : Int32) (y1 : Int32) (y2 : Int32) : Option (Wd × Int32) :=
  c_st w 51 158 y1 y2 fun w6 =>
  c_ld w6 54 158 x4 fun v7 =>
  if v7 = 1 then (
    bX5_layReplaced_117 N d  rec8 w6 x5 x6 (sI w6 19) x3
  ) else (
    c_ld w6 52 158 x6 fun v8 =>
    bX5_layReplaced_117 N d  rec8 w6 x5 x6 (sI w6 19) v8
  )
set_option maxHeartbeats 4000000 in
theorem kX5_layReplaced_86 {V : Ev} {p : Program} {l : Launch} {e : Env} {N d : Nat} {s : State} {m : MethodId} {args : Array Value} {below : List Frame} {meth : Method} {c : Code} {z : Wd × Int32} (X : CX V p s m args meth c cX5_layReplaced 7 RX5 (some .int))   {rec8 : Wd → Int32 → Int32 → Int32 → Option (Wd × Int32)} (hr8 : ∀ (w : Wd) (x3 : Int32) (x4 : Int32) (x5 : Int32) (H : Heap) (locs : List Loc) (ls : Array Slot), rec8 w x3 x4 x5 = some z → wH V (cC V) (AC V) s w H locs → lv_has ls 7 [(0, .ref (V.2.2 10)), (3, .int x3), (4, .int x4), (5, .int x5)] → W p l e (rmD (d + 1)) s m args below meth c H locs 0 0 (MQ below (CtI V (cC V) (AC V) z) args s 0 0 (AC V)) (F0 m 8 ls [])) {w : Wd} {x3 : Int32} {x4 : Int32} {x5 : Int32} {x6 : Int32} {y1 : Int32} {y2 : Int32} {H : Heap} {locs : List Loc} {ls : Array Slot} (h : bX5_layReplaced_86 N d  rec8 w x3 x4 x5 x6 y1 y2 = some z) (hH : wH V (cC V) (AC V) s w H locs) (hl : lv_has ls 7 [(0, .ref (V.2.2 10)), (3, .int x3), (4, .int x4), (5, .int x5), (6, .int x6)]) : W p l e (rmD (d + 1)) s m args below meth c H locs 0 0 (MQ below (CtI V (cC V) (AC V) z) args s 0 0 (AC V)) (F0 m 86 ls [.int y2, .int y1, .ref (V.2.2 47)]) := by
  unfold bX5_layReplaced_86 at h
  obtain ⟨hx, hb, hml, hown, hg, hrt, hlk, hK⟩ := id X
  refine r_st (pc := 86) X (heC_47 V w) (hsC_47 V w) hH h dX5_layReplaced_86 (fun w6 H locs h hH => ?_)
  refine lv_aload_n (pc := 87) hx hb dX5_layReplaced_87 rfl (lv_at hl 0 rfl) ?_
  refine gC_X5_18_10 (pc := 88) X hH dX5_layReplaced_88 ?_
  refine lv_aload_n (pc := 91) hx hb dX5_layReplaced_91 rfl (lv_at hl 0 rfl) ?_
  refine gC_X5_45_10 (pc := 92) X hH dX5_layReplaced_92 ?_
  refine lv_aload_n (pc := 95) hx hb dX5_layReplaced_95 rfl (lv_at hl 0 rfl) ?_
  refine gC_X5_24_10 (pc := 96) X hH dX5_layReplaced_96 ?_
  refine lv_iload (pc := 99) hx hb dX5_layReplaced_99 (lv_at hl 2 rfl) ?_
  refine r_ld (pc := 101) X (heC_50 V w6) hH h dX5_layReplaced_101 (fun v7 h => ?_)
  refine lv_iconst (pc := 102) (v := 1) hx hb dX5_layReplaced_102 (by decide) ?_
  refine b_icmp_ne (pc := 103) (tgt := 110) hx hb h dX5_layReplaced_103 (by decide) (fun h => ?_) (fun h => ?_)
  · refine lv_aload_n (pc := 110) hx hb dX5_layReplaced_110 rfl (lv_at hl 0 rfl) ?_
    refine gC_X5_18_10 (pc := 111) X hH dX5_layReplaced_111 ?_
    refine lv_iload (pc := 114) hx hb dX5_layReplaced_114 (lv_at hl 4 rfl) ?_
    refine r_ld (pc := 116) X (heC_48 V w6) hH h dX5_layReplaced_116 (fun v8 h => ?_)
    exact kX5_layReplaced_117 X  hr8 h hH (lv_sub hl [0, 3, 4] rfl)
  · refine lv_iload_n (pc := 106) hx hb dX5_layReplaced_106 rfl (lv_at hl 1 rfl) ?_
    refine lv_goto (pc := 107) (tgt := 117) hx hb dX5_layReplaced_107 (by decide) ?_
    exact kX5_layReplaced_117 X  hr8 h hH (lv_sub hl [0, 3, 4] rfl)
def bX5_layReplaced_8 (N d : Nat)  (rec8 : Wd → Int32 → Int32 → Int32 → Option (Wd × Int32)) (w : Wd) (x3 : Int32) (x4 : Int32) (x5 : Int32) : Option (Wd × Int32) :=
  if 30 ≤ x5 then (
    bX5_layReplaced_143 N d   w x3
  ) else (
    if x4 ≤ 8 then (
      bX5_layReplaced_143 N d   w x3
    ) else (
      if 158 ≤ (sI w 19) then (
        bX5_layReplaced_143 N d   w x3
      ) else (
        c_ld w 53 158 x4 fun v1 =>
        c_ld w 50 158 v1 fun v2 =>
        c_st w 50 158 (sI w 19) v2 fun w3 =>
        c_ld w3 54 158 x4 fun v4 =>
        if v4 = 0 then (
          bX5_layReplaced_86 N d  rec8 w3 x3 x4 x5 v1 (sI w3 19) x3
        ) else (
          c_ld w3 51 158 v1 fun v5 =>
          bX5_layReplaced_86 N d  rec8 w3 x3 x4 x5 v1 (sI w3 19) v5
        )
      )
    )
  )
set_option maxHeartbeats 4000000 in
theorem kX5_layReplaced_8 {V : Ev} {p : Program} {l : Launch} {e : Env} {N d : Nat} {s : State} {m : MethodId} {args : Array Value} {below : List Frame} {meth : Method} {c : Code} {z : Wd × Int32} (X : CX V p s m args meth c cX5_layReplaced 7 RX5 (some .int))   {rec8 : Wd → Int32 → Int32 → Int32 → Option (Wd × Int32)} (hr8 : ∀ (w : Wd) (x3 : Int32) (x4 : Int32) (x5 : Int32) (H : Heap) (locs : List Loc) (ls : Array Slot), rec8 w x3 x4 x5 = some z → wH V (cC V) (AC V) s w H locs → lv_has ls 7 [(0, .ref (V.2.2 10)), (3, .int x3), (4, .int x4), (5, .int x5)] → W p l e (rmD (d + 1)) s m args below meth c H locs 0 0 (MQ below (CtI V (cC V) (AC V) z) args s 0 0 (AC V)) (F0 m 8 ls [])) {w : Wd} {x3 : Int32} {x4 : Int32} {x5 : Int32} {H : Heap} {locs : List Loc} {ls : Array Slot} (h : bX5_layReplaced_8 N d  rec8 w x3 x4 x5 = some z) (hH : wH V (cC V) (AC V) s w H locs) (hl : lv_has ls 7 [(0, .ref (V.2.2 10)), (3, .int x3), (4, .int x4), (5, .int x5)]) : W p l e (rmD (d + 1)) s m args below meth c H locs 0 0 (MQ below (CtI V (cC V) (AC V) z) args s 0 0 (AC V)) (F0 m 8 ls []) := by
  unfold bX5_layReplaced_8 at h
  obtain ⟨hx, hb, hml, hown, hg, hrt, hlk, hK⟩ := id X
  refine lv_iload (pc := 8) hx hb dX5_layReplaced_8 (lv_at hl 3 rfl) ?_
  refine lv_bipush (pc := 10) (v := 30) hx hb dX5_layReplaced_10 (by decide) ?_
  refine b_icmp_ge (pc := 12) (tgt := 143) hx hb h dX5_layReplaced_12 (by decide) (fun h => ?_) (fun h => ?_)
  · exact kX5_layReplaced_143 X   h hH (lv_sub hl [1] rfl)
  · refine lv_iload (pc := 15) hx hb dX5_layReplaced_15 (lv_at hl 2 rfl) ?_
    refine lv_bipush (pc := 17) (v := 8) hx hb dX5_layReplaced_17 (by decide) ?_
    refine b_icmp_le (pc := 19) (tgt := 143) hx hb h dX5_layReplaced_19 (by decide) (fun h => ?_) (fun h => ?_)
    · exact kX5_layReplaced_143 X   h hH (lv_sub hl [1] rfl)
    · refine lv_aload_n (pc := 22) hx hb dX5_layReplaced_22 rfl (lv_at hl 0 rfl) ?_
      refine gC_X5_45_10 (pc := 23) X hH dX5_layReplaced_23 ?_
      refine lv_sipush (pc := 26) (v := 158) hx hb dX5_layReplaced_26 (by decide) ?_
      refine b_icmp_ge (pc := 29) (tgt := 143) hx hb h dX5_layReplaced_29 (by decide) (fun h => ?_) (fun h => ?_)
      · exact kX5_layReplaced_143 X   h hH (lv_sub hl [1] rfl)
      · refine lv_aload_n (pc := 32) hx hb dX5_layReplaced_32 rfl (lv_at hl 0 rfl) ?_
        refine gC_X5_21_10 (pc := 33) X hH dX5_layReplaced_33 ?_
        refine lv_iload (pc := 36) hx hb dX5_layReplaced_36 (lv_at hl 2 rfl) ?_
        refine r_ld (pc := 38) X (heC_49 V w) hH h dX5_layReplaced_38 (fun v1 h => ?_)
        refine lv_istore (pc := 39) (lv' := [(6, .int v1), (0, .ref (V.2.2 10)), (3, .int x3), (4, .int x4), (5, .int x5)]) hx hb dX5_layReplaced_39 hl (by decide) rfl (fun ls hl => ?_)
        refine lv_aload_n (pc := 41) hx hb dX5_layReplaced_41 rfl (lv_at hl 1 rfl) ?_
        refine gC_X5_11_10 (pc := 42) X hH dX5_layReplaced_42 ?_
        refine lv_aload_n (pc := 45) hx hb dX5_layReplaced_45 rfl (lv_at hl 1 rfl) ?_
        refine gC_X5_45_10 (pc := 46) X hH dX5_layReplaced_46 ?_
        refine lv_aload_n (pc := 49) hx hb dX5_layReplaced_49 rfl (lv_at hl 1 rfl) ?_
        refine gC_X5_11_10 (pc := 50) X hH dX5_layReplaced_50 ?_
        refine lv_iload (pc := 53) hx hb dX5_layReplaced_53 (lv_at hl 0 rfl) ?_
        refine r_ld (pc := 55) X (heC_46 V w) hH h dX5_layReplaced_55 (fun v2 h => ?_)
        refine r_st (pc := 56) X (heC_46 V w) (hsC_46 V w) hH h dX5_layReplaced_56 (fun w3 H locs h hH => ?_)
        refine lv_aload_n (pc := 57) hx hb dX5_layReplaced_57 rfl (lv_at hl 1 rfl) ?_
        refine gC_X5_15_10 (pc := 58) X hH dX5_layReplaced_58 ?_
        refine lv_aload_n (pc := 61) hx hb dX5_layReplaced_61 rfl (lv_at hl 1 rfl) ?_
        refine gC_X5_45_10 (pc := 62) X hH dX5_layReplaced_62 ?_
        refine lv_aload_n (pc := 65) hx hb dX5_layReplaced_65 rfl (lv_at hl 1 rfl) ?_
        refine gC_X5_24_10 (pc := 66) X hH dX5_layReplaced_66 ?_
        refine lv_iload (pc := 69) hx hb dX5_layReplaced_69 (lv_at hl 3 rfl) ?_
        refine r_ld (pc := 71) X (heC_50 V w3) hH h dX5_layReplaced_71 (fun v4 h => ?_)
        refine b_if_ne (pc := 72) (tgt := 79) hx hb h dX5_layReplaced_72 (by decide) (fun h => ?_) (fun h => ?_)
        · refine lv_aload_n (pc := 79) hx hb dX5_layReplaced_79 rfl (lv_at hl 1 rfl) ?_
          refine gC_X5_15_10 (pc := 80) X hH dX5_layReplaced_80 ?_
          refine lv_iload (pc := 83) hx hb dX5_layReplaced_83 (lv_at hl 0 rfl) ?_
          refine r_ld (pc := 85) X (heC_47 V w3) hH h dX5_layReplaced_85 (fun v5 h => ?_)
          exact kX5_layReplaced_86 X  hr8 h hH (lv_sub hl [1, 2, 3, 4, 0] rfl)
        · refine lv_iload_n (pc := 75) hx hb dX5_layReplaced_75 rfl (lv_at hl 2 rfl) ?_
          refine lv_goto (pc := 76) (tgt := 86) hx hb dX5_layReplaced_76 (by decide) ?_
          exact kX5_layReplaced_86 X  hr8 h hH (lv_sub hl [1, 2, 3, 4, 0] rfl)
def fX5_layReplaced_8 (N d : Nat)   : Nat → Wd → Int32 → Int32 → Int32 → Option (Wd × Int32)
  | 0 => fun _ _ _ _ => none
  | n + 1 => fun w x3 x4 x5 => bX5_layReplaced_8 N d   (fX5_layReplaced_8 N d   n) w x3 x4 x5
theorem lX5_layReplaced_8 {V : Ev} {p : Program} {l : Launch} {e : Env} {N d : Nat} {s : State} {m : MethodId} {args : Array Value} {below : List Frame} {meth : Method} {c : Code} {z : Wd × Int32} (X : CX V p s m args meth c cX5_layReplaced 7 RX5 (some .int))    (n : Nat) {w : Wd} {x3 : Int32} {x4 : Int32} {x5 : Int32} {H : Heap} {locs : List Loc} {ls : Array Slot} (h : fX5_layReplaced_8 N d   n w x3 x4 x5 = some z) (hH : wH V (cC V) (AC V) s w H locs) (hl : lv_has ls 7 [(0, .ref (V.2.2 10)), (3, .int x3), (4, .int x4), (5, .int x5)]) : W p l e (rmD (d + 1)) s m args below meth c H locs 0 0 (MQ below (CtI V (cC V) (AC V) z) args s 0 0 (AC V)) (F0 m 8 ls []) := by
  induction n generalizing w x3 x4 x5 H locs ls with
  | zero => exact c_none h
  | succ n ih => exact kX5_layReplaced_8 (N := N) X  (fun _ _ _ _ _ _ _ h hH hl => ih h hH hl) h hH hl
def bX5_layReplaced_0 (N d : Nat)   (w : Wd) (x1 : Int32) (x2 : Int32) : Option (Wd × Int32) :=
  fX5_layReplaced_8 N d   N w x2 x1 ((0 : Int32))
set_option maxHeartbeats 4000000 in
theorem kX5_layReplaced_0 {V : Ev} {p : Program} {l : Launch} {e : Env} {N d : Nat} {s : State} {m : MethodId} {args : Array Value} {below : List Frame} {meth : Method} {c : Code} {z : Wd × Int32} (X : CX V p s m args meth c cX5_layReplaced 7 RX5 (some .int))    {w : Wd} {x1 : Int32} {x2 : Int32} {H : Heap} {locs : List Loc} {ls : Array Slot} (h : bX5_layReplaced_0 N d   w x1 x2 = some z) (hH : wH V (cC V) (AC V) s w H locs) (hl : lv_has ls 7 [(0, .ref (V.2.2 10)), (1, .int x1), (2, .int x2)]) : W p l e (rmD (d + 1)) s m args below meth c H locs 0 0 (MQ below (CtI V (cC V) (AC V) z) args s 0 0 (AC V)) (F0 m 0 ls []) := by
  unfold bX5_layReplaced_0 at h
  obtain ⟨hx, hb, hml, hown, hg, hrt, hlk, hK⟩ := id X
  refine lv_iload_n (pc := 0) hx hb dX5_layReplaced_0 rfl (lv_at hl 2 rfl) ?_
  refine lv_istore_n (pc := 1) (lv' := [(3, .int x2), (0, .ref (V.2.2 10)), (1, .int x1), (2, .int x2)]) hx hb dX5_layReplaced_1 rfl hl (by decide) rfl (fun ls hl => ?_)
  refine lv_iload_n (pc := 2) hx hb dX5_layReplaced_2 rfl (lv_at hl 2 rfl) ?_
  refine lv_istore (pc := 3) (lv' := [(4, .int x1), (3, .int x2), (0, .ref (V.2.2 10)), (1, .int x1), (2, .int x2)]) hx hb dX5_layReplaced_3 hl (by decide) rfl (fun ls hl => ?_)
  refine lv_iconst (pc := 5) (v := 0) hx hb dX5_layReplaced_5 (by decide) ?_
  refine lv_istore (pc := 6) (lv' := [(5, .int ((0 : Int32))), (4, .int x1), (3, .int x2), (0, .ref (V.2.2 10)), (1, .int x1), (2, .int x2)]) hx hb dX5_layReplaced_6 hl (by decide) rfl (fun ls hl => ?_)
  exact lX5_layReplaced_8 X   N h hH (lv_sub hl [3, 2, 1, 0] rfl)
def eX5_layReplaced (N : Nat) : Nat → Wd → Int32 → Int32 → Option (Wd × Int32)
  | 0 => fun _ _ _ => none
  | d + 1 => fun w x1 x2 => bX5_layReplaced_0 N d  w x1 x2
set_option maxHeartbeats 4000000 in
set_option maxRecDepth 20000 in
theorem mX5_layReplaced {l : Launch} {V : Ev} {N d : Nat} {w : Wd} {x1 : Int32} {x2 : Int32} {z : Wd × Int32} (h : eX5_layReplaced N d w x1 x2 = some z) : MetI l V (cC V) (AC V) yX5_layReplaced cX5_layReplaced 7 (some .int) d [.ref (V.2.2 10), .int x1, .int x2] w z := by
  cases d with
  | zero => exact c_none h
  | succ d =>
    refine Met.ofW (cc := cX5_layReplaced) (maxL := 7) (ret := (some .int)) (by decide) rfl ?_
    intro p e s m args below meth c s₁ B hml hv
    obtain ⟨rfl, hP, hD, hK⟩ := hv
    have hts := atoms_spec (ws := .code yX5_layReplaced cX5_layReplaced 7 (some .int) :: gG) B.pre
    have X : CX V p s m ([.ref (V.2.2 10), .int x1, .int x2] : List Value).toArray meth c cX5_layReplaced 7 RX5 (some .int) := ⟨B.exec, B.bytes, hml, findClass_of_methodNamed B.named, fun w hw => hts w (List.mem_cons_of_mem _ hw), B.returns, B.notSynchronized, hK⟩
    have hl := lv_entry ([.ref (V.2.2 10), .int x1, .int x2] : List Value) (n := 7) (Nat.le_of_ble_eq_true rfl)
    rw [lg_entry_eq]
    generalize (lg_sl ([.ref (V.2.2 10), .int x1, .int x2] : List Value) ++ List.replicate (7 - (lg_sl ([.ref (V.2.2 10), .int x1, .int x2] : List Value)).length) Slot.unset).toArray = ls at hl ⊢
    have hl : lv_has ls 7 [(0, .ref (V.2.2 10)), (1, .int x1), (2, .int x2)] := hl
    exact kX5_layReplaced_0 (N := N) X  h ⟨hP, hD, va_S.rf⟩ hl
theorem dX1_copyReplaced_0 : decode cX1_copyReplaced 0 = .ok (.aload_n 0, 1) := by decide +kernel
theorem dX1_copyReplaced_1 : decode cX1_copyReplaced 1 = .ok (.getfield 45, 3) := by decide +kernel
theorem dX1_copyReplaced_4 : decode cX1_copyReplaced 4 = .ok (.getfield 82, 3) := by decide +kernel
theorem dX1_copyReplaced_7 : decode cX1_copyReplaced 7 = .ok (.istore_n 2, 1) := by decide +kernel
theorem dX1_copyReplaced_8 : decode cX1_copyReplaced 8 = .ok (.aload_n 0, 1) := by decide +kernel
theorem dX1_copyReplaced_9 : decode cX1_copyReplaced 9 = .ok (.getfield 45, 3) := by decide +kernel
theorem dX1_copyReplaced_12 : decode cX1_copyReplaced 12 = .ok (.iload_n 1, 1) := by decide +kernel
theorem dX1_copyReplaced_13 : decode cX1_copyReplaced 13 = .ok (.aload_n 0, 1) := by decide +kernel
theorem dX1_copyReplaced_14 : decode cX1_copyReplaced 14 = .ok (.getfield 111, 3) := by decide +kernel
theorem dX1_copyReplaced_17 : decode cX1_copyReplaced 17 = .ok (.invokevirtual 161, 3) := by decide +kernel
theorem dX1_copyReplaced_20 : decode cX1_copyReplaced 20 = .ok (.istore_n 3, 1) := by decide +kernel
theorem dX1_copyReplaced_21 : decode cX1_copyReplaced 21 = .ok (.iload_n 2, 1) := by decide +kernel
theorem dX1_copyReplaced_22 : decode cX1_copyReplaced 22 = .ok (.istore 4, 2) := by decide +kernel
theorem dX1_copyReplaced_24 : decode cX1_copyReplaced 24 = .ok (.iload 4, 2) := by decide +kernel
theorem dX1_copyReplaced_26 : decode cX1_copyReplaced 26 = .ok (.aload_n 0, 1) := by decide +kernel
theorem dX1_copyReplaced_27 : decode cX1_copyReplaced 27 = .ok (.getfield 45, 3) := by decide +kernel
theorem dX1_copyReplaced_30 : decode cX1_copyReplaced 30 = .ok (.getfield 82, 3) := by decide +kernel
theorem dX1_copyReplaced_33 : decode cX1_copyReplaced 33 = .ok (.if_icmp .ge 21, 3) := by decide +kernel
theorem dX1_copyReplaced_36 : decode cX1_copyReplaced 36 = .ok (.aload_n 0, 1) := by decide +kernel
theorem dX1_copyReplaced_37 : decode cX1_copyReplaced 37 = .ok (.getfield 54, 3) := by decide +kernel
theorem dX1_copyReplaced_40 : decode cX1_copyReplaced 40 = .ok (.getfield 149, 3) := by decide +kernel
theorem dX1_copyReplaced_43 : decode cX1_copyReplaced 43 = .ok (.iload 4, 2) := by decide +kernel
theorem dX1_copyReplaced_45 : decode cX1_copyReplaced 45 = .ok (.iload 4, 2) := by decide +kernel
theorem dX1_copyReplaced_47 : decode cX1_copyReplaced 47 = .ok (.iastore, 1) := by decide +kernel
theorem dX1_copyReplaced_48 : decode cX1_copyReplaced 48 = .ok (.iinc 4 1, 3) := by decide +kernel
theorem dX1_copyReplaced_51 : decode cX1_copyReplaced 51 = .ok (.goto (-27), 3) := by decide +kernel
theorem dX1_copyReplaced_54 : decode cX1_copyReplaced 54 = .ok (.iload_n 3, 1) := by decide +kernel
theorem dX1_copyReplaced_55 : decode cX1_copyReplaced 55 = .ok (.ireturn, 1) := by decide +kernel
def bX1_copyReplaced_24 (N d : Nat)  (rec24 : Wd → Int32 → Int32 → Option (Wd × Int32)) (w : Wd) (x3 : Int32) (x4 : Int32) : Option (Wd × Int32) :=
  if (sI w 19) ≤ x4 then (
    some (w, x3)
  ) else (
    c_st w 59 158 x4 x4 fun w4 =>
    c_nm (x4 + 1) fun x4_5 =>
    rec24 w4 x3 x4_5
  )
set_option maxHeartbeats 4000000 in
theorem kX1_copyReplaced_24 {V : Ev} {p : Program} {l : Launch} {e : Env} {N d : Nat} {s : State} {m : MethodId} {args : Array Value} {below : List Frame} {meth : Method} {c : Code} {z : Wd × Int32} (X : CX V p s m args meth c cX1_copyReplaced 5 RX1 (some .int))   {rec24 : Wd → Int32 → Int32 → Option (Wd × Int32)} (hr24 : ∀ (w : Wd) (x3 : Int32) (x4 : Int32) (H : Heap) (locs : List Loc) (ls : Array Slot), rec24 w x3 x4 = some z → wH V (cC V) (AC V) s w H locs → lv_has ls 5 [(0, .ref (V.2.2 5)), (3, .int x3), (4, .int x4)] → W p l e (rmD (d + 1)) s m args below meth c H locs 0 0 (MQ below (CtI V (cC V) (AC V) z) args s 0 0 (AC V)) (F0 m 24 ls [])) {w : Wd} {x3 : Int32} {x4 : Int32} {H : Heap} {locs : List Loc} {ls : Array Slot} (h : bX1_copyReplaced_24 N d  rec24 w x3 x4 = some z) (hH : wH V (cC V) (AC V) s w H locs) (hl : lv_has ls 5 [(0, .ref (V.2.2 5)), (3, .int x3), (4, .int x4)]) : W p l e (rmD (d + 1)) s m args below meth c H locs 0 0 (MQ below (CtI V (cC V) (AC V) z) args s 0 0 (AC V)) (F0 m 24 ls []) := by
  unfold bX1_copyReplaced_24 at h
  obtain ⟨hx, hb, hml, hown, hg, hrt, hlk, hK⟩ := id X
  refine lv_iload (pc := 24) hx hb dX1_copyReplaced_24 (lv_at hl 2 rfl) ?_
  refine lv_aload_n (pc := 26) hx hb dX1_copyReplaced_26 rfl (lv_at hl 0 rfl) ?_
  refine gC_X1_45_5 (pc := 27) X hH dX1_copyReplaced_27 ?_
  refine gC_X1_82_10 (pc := 30) X hH dX1_copyReplaced_30 ?_
  refine b_icmp_ge (pc := 33) (tgt := 54) hx hb h dX1_copyReplaced_33 (by decide) (fun h => ?_) (fun h => ?_)
  · refine lv_iload_n (pc := 54) hx hb dX1_copyReplaced_54 rfl (lv_at hl 1 rfl) ?_
    exact r_iret (pc := 55) X hH h dX1_copyReplaced_55
  · refine lv_aload_n (pc := 36) hx hb dX1_copyReplaced_36 rfl (lv_at hl 0 rfl) ?_
    refine gC_X1_54_5 (pc := 37) X hH dX1_copyReplaced_37 ?_
    refine gC_X1_149_11 (pc := 40) X hH dX1_copyReplaced_40 ?_
    refine lv_iload (pc := 43) hx hb dX1_copyReplaced_43 (lv_at hl 2 rfl) ?_
    refine lv_iload (pc := 45) hx hb dX1_copyReplaced_45 (lv_at hl 2 rfl) ?_
    refine r_st (pc := 47) X (heC_55 V w) (hsC_55 V w) hH h dX1_copyReplaced_47 (fun w4 H locs h hH => ?_)
    obtain ⟨x4_5, ex4_5, h⟩ := c_nm_ex h
    refine lv_iinc (pc := 48) (v := x4_5) (lv' := [(4, .int x4_5), (0, .ref (V.2.2 5)), (3, .int x3)]) hx hb dX1_copyReplaced_48 hl (k := 2) rfl (by rw [← ex4_5]; rfl) (by decide) rfl (fun ls hl => ?_)
    refine lv_goto (pc := 51) (tgt := 24) hx hb dX1_copyReplaced_51 (by decide) ?_
    exact hr24 _ _ _ _ _ _ h hH (lv_sub hl [1, 2, 0] rfl)
def fX1_copyReplaced_24 (N d : Nat)   : Nat → Wd → Int32 → Int32 → Option (Wd × Int32)
  | 0 => fun _ _ _ => none
  | n + 1 => fun w x3 x4 => bX1_copyReplaced_24 N d   (fX1_copyReplaced_24 N d   n) w x3 x4
theorem lX1_copyReplaced_24 {V : Ev} {p : Program} {l : Launch} {e : Env} {N d : Nat} {s : State} {m : MethodId} {args : Array Value} {below : List Frame} {meth : Method} {c : Code} {z : Wd × Int32} (X : CX V p s m args meth c cX1_copyReplaced 5 RX1 (some .int))    (n : Nat) {w : Wd} {x3 : Int32} {x4 : Int32} {H : Heap} {locs : List Loc} {ls : Array Slot} (h : fX1_copyReplaced_24 N d   n w x3 x4 = some z) (hH : wH V (cC V) (AC V) s w H locs) (hl : lv_has ls 5 [(0, .ref (V.2.2 5)), (3, .int x3), (4, .int x4)]) : W p l e (rmD (d + 1)) s m args below meth c H locs 0 0 (MQ below (CtI V (cC V) (AC V) z) args s 0 0 (AC V)) (F0 m 24 ls []) := by
  induction n generalizing w x3 x4 H locs ls with
  | zero => exact c_none h
  | succ n ih => exact kX1_copyReplaced_24 (N := N) X  (fun _ _ _ _ _ _ h hH hl => ih h hH hl) h hH hl
def bX1_copyReplaced_0 (N d : Nat)   (w : Wd) (x1 : Int32) : Option (Wd × Int32) :=
  c_nm (sI w 19) fun x2_1 =>
  c_cl (eX5_layReplaced N d w x1 (sI w 9)) fun w2 v3 =>
  fX1_copyReplaced_24 N d   N w2 v3 x2_1
set_option maxHeartbeats 4000000 in
theorem kX1_copyReplaced_0 {V : Ev} {p : Program} {l : Launch} {e : Env} {N d : Nat} {s : State} {m : MethodId} {args : Array Value} {below : List Frame} {meth : Method} {c : Code} {z : Wd × Int32} (X : CX V p s m args meth c cX1_copyReplaced 5 RX1 (some .int))    {w : Wd} {x1 : Int32} {H : Heap} {locs : List Loc} {ls : Array Slot} (h : bX1_copyReplaced_0 N d   w x1 = some z) (hH : wH V (cC V) (AC V) s w H locs) (hl : lv_has ls 5 [(0, .ref (V.2.2 5)), (1, .int x1)]) : W p l e (rmD (d + 1)) s m args below meth c H locs 0 0 (MQ below (CtI V (cC V) (AC V) z) args s 0 0 (AC V)) (F0 m 0 ls []) := by
  unfold bX1_copyReplaced_0 at h
  obtain ⟨hx, hb, hml, hown, hg, hrt, hlk, hK⟩ := id X
  refine lv_aload_n (pc := 0) hx hb dX1_copyReplaced_0 rfl (lv_at hl 0 rfl) ?_
  refine gC_X1_45_5 (pc := 1) X hH dX1_copyReplaced_1 ?_
  refine gC_X1_82_10 (pc := 4) X hH dX1_copyReplaced_4 ?_
  refine r_nmi h (fun x2_1 h => ?_)
  refine lv_istore_n (pc := 7) (lv' := [(2, .int x2_1), (0, .ref (V.2.2 5)), (1, .int x1)]) hx hb dX1_copyReplaced_7 rfl hl (by decide) rfl (fun ls hl => ?_)
  refine lv_aload_n (pc := 8) hx hb dX1_copyReplaced_8 rfl (lv_at hl 1 rfl) ?_
  refine gC_X1_45_5 (pc := 9) X hH dX1_copyReplaced_9 ?_
  refine lv_iload_n (pc := 12) hx hb dX1_copyReplaced_12 rfl (lv_at hl 2 rfl) ?_
  refine lv_aload_n (pc := 13) hx hb dX1_copyReplaced_13 rfl (lv_at hl 1 rfl) ?_
  refine gC_X1_111_5 (pc := 14) X hH dX1_copyReplaced_14 ?_
  refine r_cvI (pc := 17) (As := [.int x1, .int (sI w 9)]) (rest := []) X hH (fun x hx => mX5_layReplaced hx) cw_X1_161 (heC_10 V w) rfl rfl rfl (Nat.le_of_ble_eq_true rfl) hl.1 h dX1_copyReplaced_17 (fun w2 v3 H locs h hH => ?_)
  refine lv_istore_n (pc := 20) (lv' := [(3, .int v3), (2, .int x2_1), (0, .ref (V.2.2 5)), (1, .int x1)]) hx hb dX1_copyReplaced_20 rfl hl (by decide) rfl (fun ls hl => ?_)
  refine lv_iload_n (pc := 21) hx hb dX1_copyReplaced_21 rfl (lv_at hl 1 rfl) ?_
  refine lv_istore (pc := 22) (lv' := [(4, .int x2_1), (3, .int v3), (2, .int x2_1), (0, .ref (V.2.2 5)), (1, .int x1)]) hx hb dX1_copyReplaced_22 hl (by decide) rfl (fun ls hl => ?_)
  exact lX1_copyReplaced_24 X   N h hH (lv_sub hl [3, 1, 0] rfl)
def eX1_copyReplaced (N : Nat) : Nat → Wd → Int32 → Option (Wd × Int32)
  | 0 => fun _ _ => none
  | d + 1 => fun w x1 => bX1_copyReplaced_0 N d  w x1
set_option maxHeartbeats 4000000 in
set_option maxRecDepth 20000 in
theorem mX1_copyReplaced {l : Launch} {V : Ev} {N d : Nat} {w : Wd} {x1 : Int32} {z : Wd × Int32} (h : eX1_copyReplaced N d w x1 = some z) : MetI l V (cC V) (AC V) yX1_copyReplaced cX1_copyReplaced 5 (some .int) d [.ref (V.2.2 5), .int x1] w z := by
  cases d with
  | zero => exact c_none h
  | succ d =>
    refine Met.ofW (cc := cX1_copyReplaced) (maxL := 5) (ret := (some .int)) (by decide) rfl ?_
    intro p e s m args below meth c s₁ B hml hv
    obtain ⟨rfl, hP, hD, hK⟩ := hv
    have hts := atoms_spec (ws := .code yX1_copyReplaced cX1_copyReplaced 5 (some .int) :: gG) B.pre
    have X : CX V p s m ([.ref (V.2.2 5), .int x1] : List Value).toArray meth c cX1_copyReplaced 5 RX1 (some .int) := ⟨B.exec, B.bytes, hml, findClass_of_methodNamed B.named, fun w hw => hts w (List.mem_cons_of_mem _ hw), B.returns, B.notSynchronized, hK⟩
    have hl := lv_entry ([.ref (V.2.2 5), .int x1] : List Value) (n := 5) (Nat.le_of_ble_eq_true rfl)
    rw [lg_entry_eq]
    generalize (lg_sl ([.ref (V.2.2 5), .int x1] : List Value) ++ List.replicate (5 - (lg_sl ([.ref (V.2.2 5), .int x1] : List Value)).length) Slot.unset).toArray = ls at hl ⊢
    have hl : lv_has ls 5 [(0, .ref (V.2.2 5)), (1, .int x1)] := hl
    exact kX1_copyReplaced_0 (N := N) X  h ⟨hP, hD, va_S.rf⟩ hl
def bJ7_fill_53178_r33_5 (N d : Nat)  (rec5 : Wd → Int32 → Int32 → Int32 → Option (Wd)) (w : Wd) (x1 : Int32) (x2 : Int32) (x3 : Int32) : Option (Wd) :=
  if x3 ≤ x2 then (
    some w
  ) else (
    c_st w 33 158 x2 x1 fun w1 =>
    c_nm (x2 + 1) fun x2_2 =>
    rec5 w1 x1 x2_2 x3
  )
set_option maxHeartbeats 4000000 in
theorem kJ7_fill_53178_r33_5 {V : Ev} {p : Program} {l : Launch} {e : Env} {N d : Nat} {s : State} {m : MethodId} {args : Array Value} {below : List Frame} {meth : Method} {c : Code} {z : Wd} (X : CX V p s m args meth c cJ7_fill_53178 4 RJ7 none)   {rec5 : Wd → Int32 → Int32 → Int32 → Option (Wd)} (hr5 : ∀ (w : Wd) (x1 : Int32) (x2 : Int32) (x3 : Int32) (H : Heap) (locs : List Loc) (ls : Array Slot), rec5 w x1 x2 x3 = some z → wH V (cC V) (AC V) s w H locs → lv_has ls 4 [(0, .ref (V.2.2 32)), (1, .int x1), (2, .int x2), (3, .int x3)] → W p l e (rmD (d + 1)) s m args below meth c H locs 0 0 (MQ below (CtV V (cC V) (AC V) z) args s 0 0 (AC V)) (F0 m 5 ls [])) {w : Wd} {x1 : Int32} {x2 : Int32} {x3 : Int32} {H : Heap} {locs : List Loc} {ls : Array Slot} (h : bJ7_fill_53178_r33_5 N d  rec5 w x1 x2 x3 = some z) (hH : wH V (cC V) (AC V) s w H locs) (hl : lv_has ls 4 [(0, .ref (V.2.2 32)), (1, .int x1), (2, .int x2), (3, .int x3)]) : W p l e (rmD (d + 1)) s m args below meth c H locs 0 0 (MQ below (CtV V (cC V) (AC V) z) args s 0 0 (AC V)) (F0 m 5 ls []) := by
  unfold bJ7_fill_53178_r33_5 at h
  obtain ⟨hx, hb, hml, hown, hg, hrt, hlk, hK⟩ := id X
  refine lv_iload_n (pc := 5) hx hb dJ7_fill_53178_5 rfl (lv_at hl 2 rfl) ?_
  refine lv_iload_n (pc := 6) hx hb dJ7_fill_53178_6 rfl (lv_at hl 3 rfl) ?_
  refine b_icmp_ge (pc := 7) (tgt := 20) hx hb h dJ7_fill_53178_7 (by decide) (fun h => ?_) (fun h => ?_)
  · exact r_vret (pc := 20) X hH h dJ7_fill_53178_20
  · refine lv_aload_n (pc := 10) hx hb dJ7_fill_53178_10 rfl (lv_at hl 0 rfl) ?_
    refine lv_iload_n (pc := 11) hx hb dJ7_fill_53178_11 rfl (lv_at hl 2 rfl) ?_
    refine lv_iload_n (pc := 12) hx hb dJ7_fill_53178_12 rfl (lv_at hl 1 rfl) ?_
    refine r_st (pc := 13) X (heC_32 V w) (hsC_32 V w) hH h dJ7_fill_53178_13 (fun w1 H locs h hH => ?_)
    obtain ⟨x2_2, ex2_2, h⟩ := c_nm_ex h
    refine lv_iinc (pc := 14) (v := x2_2) (lv' := [(2, .int x2_2), (0, .ref (V.2.2 32)), (1, .int x1), (3, .int x3)]) hx hb dJ7_fill_53178_14 hl (k := 2) rfl (by rw [← ex2_2]; rfl) (by decide) rfl (fun ls hl => ?_)
    refine lv_goto (pc := 17) (tgt := 5) hx hb dJ7_fill_53178_17 (by decide) ?_
    exact hr5 _ _ _ _ _ _ _ h hH (lv_sub hl [1, 2, 0, 3] rfl)
def fJ7_fill_53178_r33_5 (N d : Nat)   : Nat → Wd → Int32 → Int32 → Int32 → Option (Wd)
  | 0 => fun _ _ _ _ => none
  | n + 1 => fun w x1 x2 x3 => bJ7_fill_53178_r33_5 N d   (fJ7_fill_53178_r33_5 N d   n) w x1 x2 x3
theorem lJ7_fill_53178_r33_5 {V : Ev} {p : Program} {l : Launch} {e : Env} {N d : Nat} {s : State} {m : MethodId} {args : Array Value} {below : List Frame} {meth : Method} {c : Code} {z : Wd} (X : CX V p s m args meth c cJ7_fill_53178 4 RJ7 none)    (n : Nat) {w : Wd} {x1 : Int32} {x2 : Int32} {x3 : Int32} {H : Heap} {locs : List Loc} {ls : Array Slot} (h : fJ7_fill_53178_r33_5 N d   n w x1 x2 x3 = some z) (hH : wH V (cC V) (AC V) s w H locs) (hl : lv_has ls 4 [(0, .ref (V.2.2 32)), (1, .int x1), (2, .int x2), (3, .int x3)]) : W p l e (rmD (d + 1)) s m args below meth c H locs 0 0 (MQ below (CtV V (cC V) (AC V) z) args s 0 0 (AC V)) (F0 m 5 ls []) := by
  induction n generalizing w x1 x2 x3 H locs ls with
  | zero => exact c_none h
  | succ n ih => exact kJ7_fill_53178_r33_5 (N := N) X  (fun _ _ _ _ _ _ _ h hH hl => ih h hH hl) h hH hl
def bJ7_fill_53178_r33_0 (N d : Nat)   (w : Wd) (x1 : Int32) : Option (Wd) :=
  fJ7_fill_53178_r33_5 N d   N w x1 ((0 : Int32)) ((158 : Int32))
set_option maxHeartbeats 4000000 in
theorem kJ7_fill_53178_r33_0 {V : Ev} {p : Program} {l : Launch} {e : Env} {N d : Nat} {s : State} {m : MethodId} {args : Array Value} {below : List Frame} {meth : Method} {c : Code} {z : Wd} (X : CX V p s m args meth c cJ7_fill_53178 4 RJ7 none)    {w : Wd} {x1 : Int32} {H : Heap} {locs : List Loc} {ls : Array Slot} (h : bJ7_fill_53178_r33_0 N d   w x1 = some z) (hH : wH V (cC V) (AC V) s w H locs) (hl : lv_has ls 4 [(0, .ref (V.2.2 32)), (1, .int x1)]) : W p l e (rmD (d + 1)) s m args below meth c H locs 0 0 (MQ below (CtV V (cC V) (AC V) z) args s 0 0 (AC V)) (F0 m 0 ls []) := by
  unfold bJ7_fill_53178_r33_0 at h
  obtain ⟨hx, hb, hml, hown, hg, hrt, hlk, hK⟩ := id X
  refine lv_iconst (pc := 0) (v := 0) hx hb dJ7_fill_53178_0 (by decide) ?_
  refine lv_istore_n (pc := 1) (lv' := [(2, .int ((0 : Int32))), (0, .ref (V.2.2 32)), (1, .int x1)]) hx hb dJ7_fill_53178_1 rfl hl (by decide) rfl (fun ls hl => ?_)
  refine lv_aload_n (pc := 2) hx hb dJ7_fill_53178_2 rfl (lv_at hl 1 rfl) ?_
  refine r_al (pc := 3) (t0 := 0) (v := 158) X (heC_32 V w) rfl hH (by decide) dJ7_fill_53178_3 ?_
  refine lv_istore_n (pc := 4) (lv' := [(3, .int ((158 : Int32))), (2, .int ((0 : Int32))), (0, .ref (V.2.2 32)), (1, .int x1)]) hx hb dJ7_fill_53178_4 rfl hl (by decide) rfl (fun ls hl => ?_)
  exact lJ7_fill_53178_r33_5 X   N h hH (lv_sub hl [2, 3, 1, 0] rfl)
def eJ7_fill_53178_r33 (N : Nat) : Nat → Wd → Int32 → Option (Wd)
  | 0 => fun _ _ => none
  | d + 1 => fun w x1 => bJ7_fill_53178_r33_0 N d  w x1
set_option maxHeartbeats 4000000 in
set_option maxRecDepth 20000 in
theorem mJ7_fill_53178_r33 {l : Launch} {V : Ev} {N d : Nat} {w : Wd} {x1 : Int32} {z : Wd} (h : eJ7_fill_53178_r33 N d w x1 = some z) : MetV l V (cC V) (AC V) yJ7_fill_53178 cJ7_fill_53178 4 none d [.ref (V.2.2 32), .int x1] w z := by
  cases d with
  | zero => exact c_none h
  | succ d =>
    refine Met.ofW (cc := cJ7_fill_53178) (maxL := 4) (ret := none) (by decide) rfl ?_
    intro p e s m args below meth c s₁ B hml hv
    obtain ⟨rfl, hP, hD, hK⟩ := hv
    have hts := atoms_spec (ws := .code yJ7_fill_53178 cJ7_fill_53178 4 none :: gG) B.pre
    have X : CX V p s m ([.ref (V.2.2 32), .int x1] : List Value).toArray meth c cJ7_fill_53178 4 RJ7 none := ⟨B.exec, B.bytes, hml, findClass_of_methodNamed B.named, fun w hw => hts w (List.mem_cons_of_mem _ hw), B.returns, B.notSynchronized, hK⟩
    have hl := lv_entry ([.ref (V.2.2 32), .int x1] : List Value) (n := 4) (Nat.le_of_ble_eq_true rfl)
    rw [lg_entry_eq]
    generalize (lg_sl ([.ref (V.2.2 32), .int x1] : List Value) ++ List.replicate (4 - (lg_sl ([.ref (V.2.2 32), .int x1] : List Value)).length) Slot.unset).toArray = ls at hl ⊢
    have hl : lv_has ls 4 [(0, .ref (V.2.2 32)), (1, .int x1)] := hl
    exact kJ7_fill_53178_r33_0 (N := N) X  h ⟨hP, hD, va_S.rf⟩ hl
