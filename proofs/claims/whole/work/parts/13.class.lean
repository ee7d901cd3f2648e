theorem dX3_replace_0 : decode cX3_replace 0 = .ok (.aload_n 0, 1) := by decide +kernel
theorem dX3_replace_1 : decode cX3_replace 1 = .ok (.aload_n 0, 1) := by decide +kernel
theorem dX3_replace_2 : decode cX3_replace 2 = .ok (.getfield 32, 3) := by decide +kernel
theorem dX3_replace_5 : decode cX3_replace 5 = .ok (.getfield 115, 3) := by decide +kernel
theorem dX3_replace_8 : decode cX3_replace 8 = .ok (.iload_n 1, 1) := by decide +kernel
theorem dX3_replace_9 : decode cX3_replace 9 = .ok (.iaload, 1) := by decide +kernel
theorem dX3_replace_10 : decode cX3_replace 10 = .ok (.iconst 1, 1) := by decide +kernel
theorem dX3_replace_11 : decode cX3_replace 11 = .ok (.invokevirtual 118, 3) := by decide +kernel
theorem dX3_replace_14 : decode cX3_replace 14 = .ok (.istore_n 2, 1) := by decide +kernel
theorem dX3_replace_15 : decode cX3_replace 15 = .ok (.lconst 1, 1) := by decide +kernel
theorem dX3_replace_16 : decode cX3_replace 16 = .ok (.lstore_n 3, 1) := by decide +kernel
theorem dX3_replace_17 : decode cX3_replace 17 = .ok (.iconst 0, 1) := by decide +kernel
theorem dX3_replace_18 : decode cX3_replace 18 = .ok (.istore 5, 2) := by decide +kernel
theorem dX3_replace_20 : decode cX3_replace 20 = .ok (.iload 5, 2) := by decide +kernel
theorem dX3_replace_22 : decode cX3_replace 22 = .ok (.aload_n 0, 1) := by decide +kernel
theorem dX3_replace_23 : decode cX3_replace 23 = .ok (.getfield 61, 3) := by decide +kernel
theorem dX3_replace_26 : decode cX3_replace 26 = .ok (.iconst 1, 1) := by decide +kernel
theorem dX3_replace_27 : decode cX3_replace 27 = .ok (.isub, 1) := by decide +kernel
theorem dX3_replace_28 : decode cX3_replace 28 = .ok (.if_icmp .ge 28, 3) := by decide +kernel
theorem dX3_replace_31 : decode cX3_replace 31 = .ok (.lload_n 3, 1) := by decide +kernel
theorem dX3_replace_32 : decode cX3_replace 32 = .ok (.aload_n 0, 1) := by decide +kernel
theorem dX3_replace_33 : decode cX3_replace 33 = .ok (.iload 5, 2) := by decide +kernel
theorem dX3_replace_35 : decode cX3_replace 35 = .ok (.invokevirtual 121, 3) := by decide +kernel
theorem dX3_replace_38 : decode cX3_replace 38 = .ok (.ifCond .eq 7, 3) := by decide +kernel
theorem dX3_replace_41 : decode cX3_replace 41 = .ok (.iconst 0, 1) := by decide +kernel
theorem dX3_replace_42 : decode cX3_replace 42 = .ok (.goto 4, 3) := by decide +kernel
theorem dX3_replace_45 : decode cX3_replace 45 = .ok (.iconst 1, 1) := by decide +kernel
theorem dX3_replace_46 : decode cX3_replace 46 = .ok (.invokestatic 124, 3) := by decide +kernel
theorem dX3_replace_49 : decode cX3_replace 49 = .ok (.lstore_n 3, 1) := by decide +kernel
theorem dX3_replace_50 : decode cX3_replace 50 = .ok (.iinc 5 1, 3) := by decide +kernel
theorem dX3_replace_53 : decode cX3_replace 53 = .ok (.goto (-33), 3) := by decide +kernel
theorem dX3_replace_56 : decode cX3_replace 56 = .ok (.aload_n 0, 1) := by decide +kernel
theorem dX3_replace_57 : decode cX3_replace 57 = .ok (.getfield 61, 3) := by decide +kernel
theorem dX3_replace_60 : decode cX3_replace 60 = .ok (.iconst 2, 1) := by decide +kernel
theorem dX3_replace_61 : decode cX3_replace 61 = .ok (.isub, 1) := by decide +kernel
theorem dX3_replace_62 : decode cX3_replace 62 = .ok (.istore 5, 2) := by decide +kernel
theorem dX3_replace_64 : decode cX3_replace 64 = .ok (.iload 5, 2) := by decide +kernel
theorem dX3_replace_66 : decode cX3_replace 66 = .ok (.ifCond .lt 93, 3) := by decide +kernel
theorem dX3_replace_69 : decode cX3_replace 69 = .ok (.iload_n 2, 1) := by decide +kernel
theorem dX3_replace_70 : decode cX3_replace 70 = .ok (.bipush (-4), 2) := by decide +kernel
theorem dX3_replace_72 : decode cX3_replace 72 = .ok (.if_icmp .eq 87, 3) := by decide +kernel
theorem dX3_replace_75 : decode cX3_replace 75 = .ok (.aload_n 0, 1) := by decide +kernel
theorem dX3_replace_76 : decode cX3_replace 76 = .ok (.getfield 22, 3) := by decide +kernel
theorem dX3_replace_79 : decode cX3_replace 79 = .ok (.iload 5, 2) := by decide +kernel
theorem dX3_replace_81 : decode cX3_replace 81 = .ok (.iaload, 1) := by decide +kernel
theorem dX3_replace_82 : decode cX3_replace 82 = .ok (.istore 6, 2) := by decide +kernel
theorem dX3_replace_84 : decode cX3_replace 84 = .ok (.aload_n 0, 1) := by decide +kernel
theorem dX3_replace_85 : decode cX3_replace 85 = .ok (.iload 5, 2) := by decide +kernel
theorem dX3_replace_87 : decode cX3_replace 87 = .ok (.invokevirtual 121, 3) := by decide +kernel
theorem dX3_replace_90 : decode cX3_replace 90 = .ok (.ifCond .eq 34, 3) := by decide +kernel
theorem dX3_replace_93 : decode cX3_replace 93 = .ok (.aload_n 0, 1) := by decide +kernel
theorem dX3_replace_94 : decode cX3_replace 94 = .ok (.getfield 28, 3) := by decide +kernel
theorem dX3_replace_97 : decode cX3_replace 97 = .ok (.aload_n 0, 1) := by decide +kernel
theorem dX3_replace_98 : decode cX3_replace 98 = .ok (.getfield 28, 3) := by decide +kernel
theorem dX3_replace_101 : decode cX3_replace 101 = .ok (.getfield 95, 3) := by decide +kernel
theorem dX3_replace_104 : decode cX3_replace 104 = .ok (.iload 6, 2) := by decide +kernel
theorem dX3_replace_106 : decode cX3_replace 106 = .ok (.iaload, 1) := by decide +kernel
theorem dX3_replace_107 : decode cX3_replace 107 = .ok (.iload_n 2, 1) := by decide +kernel
theorem dX3_replace_108 : decode cX3_replace 108 = .ok (.aload_n 0, 1) := by decide +kernel
theorem dX3_replace_109 : decode cX3_replace 109 = .ok (.getfield 28, 3) := by decide +kernel
theorem dX3_replace_112 : decode cX3_replace 112 = .ok (.getfield 79, 3) := by decide +kernel
theorem dX3_replace_115 : decode cX3_replace 115 = .ok (.iload 6, 2) := by decide +kernel
theorem dX3_replace_117 : decode cX3_replace 117 = .ok (.iaload, 1) := by decide +kernel
theorem dX3_replace_118 : decode cX3_replace 118 = .ok (.invokevirtual 128, 3) := by decide +kernel
theorem dX3_replace_121 : decode cX3_replace 121 = .ok (.goto 31, 3) := by decide +kernel
theorem dX3_replace_124 : decode cX3_replace 124 = .ok (.aload_n 0, 1) := by decide +kernel
theorem dX3_replace_125 : decode cX3_replace 125 = .ok (.getfield 28, 3) := by decide +kernel
theorem dX3_replace_128 : decode cX3_replace 128 = .ok (.aload_n 0, 1) := by decide +kernel
theorem dX3_replace_129 : decode cX3_replace 129 = .ok (.getfield 28, 3) := by decide +kernel
theorem dX3_replace_132 : decode cX3_replace 132 = .ok (.getfield 95, 3) := by decide +kernel
theorem dX3_replace_135 : decode cX3_replace 135 = .ok (.iload 6, 2) := by decide +kernel
theorem dX3_replace_137 : decode cX3_replace 137 = .ok (.iaload, 1) := by decide +kernel
theorem dX3_replace_138 : decode cX3_replace 138 = .ok (.aload_n 0, 1) := by decide +kernel
theorem dX3_replace_139 : decode cX3_replace 139 = .ok (.getfield 28, 3) := by decide +kernel
theorem dX3_replace_142 : decode cX3_replace 142 = .ok (.getfield 74, 3) := by decide +kernel
theorem dX3_replace_145 : decode cX3_replace 145 = .ok (.iload 6, 2) := by decide +kernel
theorem dX3_replace_147 : decode cX3_replace 147 = .ok (.iaload, 1) := by decide +kernel
theorem dX3_replace_148 : decode cX3_replace 148 = .ok (.iload_n 2, 1) := by decide +kernel
theorem dX3_replace_149 : decode cX3_replace 149 = .ok (.invokevirtual 128, 3) := by decide +kernel
theorem dX3_replace_152 : decode cX3_replace 152 = .ok (.istore_n 2, 1) := by decide +kernel
theorem dX3_replace_153 : decode cX3_replace 153 = .ok (.iinc 5 (-1), 3) := by decide +kernel
theorem dX3_replace_156 : decode cX3_replace 156 = .ok (.goto (-92), 3) := by decide +kernel
theorem dX3_replace_159 : decode cX3_replace 159 = .ok (.aload_n 0, 1) := by decide +kernel
theorem dX3_replace_160 : decode cX3_replace 160 = .ok (.getfield 12, 3) := by decide +kernel
theorem dX3_replace_163 : decode cX3_replace 163 = .ok (.iload_n 1, 1) := by decide +kernel
theorem dX3_replace_164 : decode cX3_replace 164 = .ok (.lload_n 3, 1) := by decide +kernel
theorem dX3_replace_165 : decode cX3_replace 165 = .ok (.invokevirtual 132, 3) := by decide +kernel
theorem dX3_replace_168 : decode cX3_replace 168 = .ok (.iload_n 2, 1) := by decide +kernel
theorem dX3_replace_169 : decode cX3_replace 169 = .ok (.ireturn, 1) := by decide +kernel
def bX3_replace_159 (N d : Nat)   (w : Wd) (x1 : Int32) (x2 : Int32) (x3 : Int64) : Option (Wd × Int32) :=
  c_cv (eX6_add N d w x1 x3) fun w5 =>
  some (w5, x2)
set_option maxHeartbeats 4000000 in
theorem kX3_replace_159 {V : Ev} {p : Program} {l : Launch} {e : Env} {N d : Nat} {s : State} {m : MethodId} {args : Array Value} {below : List Frame} {meth : Method} {c : Code} {z : Wd × Int32} (X : CX V p s m args meth c cX3_replace 7 RX3 (some .int))    {w : Wd} {x1 : Int32} {x2 : Int32} {x3 : Int64} {H : Heap} {locs : List Loc} {ls : Array Slot} (h : bX3_replace_159 N d   w x1 x2 x3 = some z) (hH : wH V (cC V) (AC V) s w H locs) (hl : lv_has ls 7 [(0, .ref (V.2.2 3)), (1, .int x1), (2, .int x2), (3, .long x3)]) : W p l e (rmD (d + 1)) s m args below meth c H locs 0 0 (MQ below (CtI V (cC V) (AC V) z) args s 0 0 (AC V)) (F0 m 159 ls []) := by
  unfold bX3_replace_159 at h
  obtain ⟨hx, hb, hml, hown, hg, hrt, hlk, hK⟩ := id X
  refine lv_aload_n (pc := 159) hx hb dX3_replace_159 rfl (lv_at hl 0 rfl) ?_
  refine gC_X3_12_3 (pc := 160) X hH dX3_replace_160 ?_
  refine lv_iload_n (pc := 163) hx hb dX3_replace_163 rfl (lv_at hl 1 rfl) ?_
  refine lv_lload_n (pc := 164) hx hb dX3_replace_164 rfl (lv_at hl 3 rfl) ?_
  refine r_cvV (pc := 165) (As := [.int x1, .long x3]) (rest := []) X hH (fun x hx => mX6_add hx) cw_X3_132 (heC_8 V w) rfl rfl rfl (Nat.le_of_ble_eq_true rfl) hl.1 h dX3_replace_165 (fun w5 H locs h hH => ?_)
  refine lv_iload_n (pc := 168) hx hb dX3_replace_168 rfl (lv_at hl 2 rfl) ?_
  exact r_iret (pc := 169) X hH h dX3_replace_169
def bX3_replace_152 (N d : Nat)  (rec64 : Wd → Int32 → Int32 → Int64 → Int32 → Option (Wd × Int32)) (w : Wd) (x1 : Int32) (x3 : Int64) (x5 : Int32) (y0 : Int32) : Option (Wd × Int32) :=
  c_nm (x5 + (-1)) fun x5_13 =>
  rec64 w x1 y0 x3 x5_13
set_option maxHeartbeats 4000000 in
theorem kX3_replace_152 {V : Ev} {p : Program} {l : Launch} {e : Env} {N d : Nat} {s : State} {m : MethodId} {args : Array Value} {below : List Frame} {meth : Method} {c : Code} {z : Wd × Int32} (X : CX V p s m args meth c cX3_replace 7 RX3 (some .int))   {rec64 : Wd → Int32 → Int32 → Int64 → Int32 → Option (Wd × Int32)} (hr64 : ∀ (w : Wd) (x1 : Int32) (x2 : Int32) (x3 : Int64) (x5 : Int32) (H : Heap) (locs : List Loc) (ls : Array Slot), rec64 w x1 x2 x3 x5 = some z → wH V (cC V) (AC V) s w H locs → lv_has ls 7 [(0, .ref (V.2.2 3)), (1, .int x1), (2, .int x2), (3, .long x3), (5, .int x5)] → W p l e (rmD (d + 1)) s m args below meth c H locs 0 0 (MQ below (CtI V (cC V) (AC V) z) args s 0 0 (AC V)) (F0 m 64 ls [])) {w : Wd} {x1 : Int32} {x3 : Int64} {x5 : Int32} {y0 : Int32} {H : Heap} {locs : List Loc} {ls : Array Slot} (h : bX3_replace_152 N d  rec64 w x1 x3 x5 y0 = some z) (hH : wH V (cC V) (AC V) s w H locs) (hl : lv_has ls 7 [(0, .ref (V.2.2 3)), (1, .int x1), (3, .long x3), (5, .int x5)]) : W p l e (rmD (d + 1)) s m args below meth c H locs 0 0 (MQ below (CtI V (cC V) (AC V) z) args s 0 0 (AC V)) (F0 m 152 ls [.int y0]) := by
  unfold bX3_replace_152 at h
  obtain ⟨hx, hb, hml, hown, hg, hrt, hlk, hK⟩ := id X
  refine lv_istore_n (pc := 152) (lv' := [(2, .int y0), (0, .ref (V.2.2 3)), (1, .int x1), (3, .long x3), (5, .int x5)]) hx hb dX3_replace_152 rfl hl (by decide) rfl (fun ls hl => ?_)
  obtain ⟨x5_13, ex5_13, h⟩ := c_nm_ex h
  refine lv_iinc (pc := 153) (v := x5_13) (lv' := [(5, .int x5_13), (2, .int y0), (0, .ref (V.2.2 3)), (1, .int x1), (3, .long x3)]) hx hb dX3_replace_153 hl (k := 4) rfl (by rw [← ex5_13]; rfl) (by decide) rfl (fun ls hl => ?_)
  refine lv_goto (pc := 156) (tgt := 64) hx hb dX3_replace_156 (by decide) ?_
  exact hr64 _ _ _ _ _ _ _ _ h hH (lv_sub hl [2, 3, 1, 4, 0] rfl)
def bX3_replace_64 (N d : Nat)  (rec64 : Wd → Int32 → Int32 → Int64 → Int32 → Option (Wd × Int32)) (w : Wd) (x1 : Int32) (x2 : Int32) (x3 : Int64) (x5 : Int32) : Option (Wd × Int32) :=
  if x5 < 0 then (
    bX3_replace_159 N d   w x1 x2 x3
  ) else (
    if x2 = (-4) then (
      bX3_replace_159 N d   w x1 x2 x3
    ) else (
      c_ld w 27 1000 x5 fun v6 =>
      c_cl (eX3_isInFirst N d w x5) fun w7 v8 =>
      if v8 = 0 then (
        c_ld w7 14 1000 v6 fun v9 =>
        c_ld w7 15 1000 v6 fun v10 =>
        c_cl (eX8_make N d w7 v9 v10 x2) fun w11 v12 =>
        bX3_replace_152 N d  rec64 w11 x1 x3 x5 v12
      ) else (
        c_ld w7 14 1000 v6 fun v14 =>
        c_ld w7 16 1000 v6 fun v15 =>
        c_cl (eX8_make N d w7 v14 x2 v15) fun w16 v17 =>
        bX3_replace_152 N d  rec64 w16 x1 x3 x5 v17
      )
    )
  )
set_option maxHeartbeats 4000000 in
theorem kX3_replace_64 {V : Ev} {p : Program} {l : Launch} {e : Env} {N d : Nat} {s : State} {m : MethodId} {args : Array Value} {below : List Frame} {meth : Method} {c : Code} {z : Wd × Int32} (X : CX V p s m args meth c cX3_replace 7 RX3 (some .int))   {rec64 : Wd → Int32 → Int32 → Int64 → Int32 → Option (Wd × Int32)} (hr64 : ∀ (w : Wd) (x1 : Int32) (x2 : Int32) (x3 : Int64) (x5 : Int32) (H : Heap) (locs : List Loc) (ls : Array Slot), rec64 w x1 x2 x3 x5 = some z → wH V (cC V) (AC V) s w H locs → lv_has ls 7 [(0, .ref (V.2.2 3)), (1, .int x1), (2, .int x2), (3, .long x3), (5, .int x5)] → W p l e (rmD (d + 1)) s m args below meth c H locs 0 0 (MQ below (CtI V (cC V) (AC V) z) args s 0 0 (AC V)) (F0 m 64 ls [])) {w : Wd} {x1 : Int32} {x2 : Int32} {x3 : Int64} {x5 : Int32} {H : Heap} {locs : List Loc} {ls : Array Slot} (h : bX3_replace_64 N d  rec64 w x1 x2 x3 x5 = some z) (hH : wH V (cC V) (AC V) s w H locs) (hl : lv_has ls 7 [(0, .ref (V.2.2 3)), (1, .int x1), (2, .int x2), (3, .long x3), (5, .int x5)]) : W p l e (rmD (d + 1)) s m args below meth c H locs 0 0 (MQ below (CtI V (cC V) (AC V) z) args s 0 0 (AC V)) (F0 m 64 ls []) := by
  unfold bX3_replace_64 at h
  obtain ⟨hx, hb, hml, hown, hg, hrt, hlk, hK⟩ := id X
  refine lv_iload (pc := 64) hx hb dX3_replace_64 (lv_at hl 4 rfl) ?_
  refine b_if_lt (pc := 66) (tgt := 159) hx hb h dX3_replace_66 (by decide) (fun h => ?_) (fun h => ?_)
  · exact kX3_replace_159 X   h hH (lv_sub hl [0, 1, 2, 3] rfl)
  · refine lv_iload_n (pc := 69) hx hb dX3_replace_69 rfl (lv_at hl 2 rfl) ?_
    refine lv_bipush (pc := 70) (v := -4) hx hb dX3_replace_70 (by decide) ?_
    refine b_icmp_eq (pc := 72) (tgt := 159) hx hb h dX3_replace_72 (by decide) (fun h => ?_) (fun h => ?_)
    · exact kX3_replace_159 X   h hH (lv_sub hl [0, 1, 2, 3] rfl)
    · refine lv_aload_n (pc := 75) hx hb dX3_replace_75 rfl (lv_at hl 0 rfl) ?_
      refine gC_X3_22_3 (pc := 76) X hH dX3_replace_76 ?_
      refine lv_iload (pc := 79) hx hb dX3_replace_79 (lv_at hl 4 rfl) ?_
      refine r_ld (pc := 81) X (heC_27 V w) hH h dX3_replace_81 (fun v6 h => ?_)
      refine lv_istore (pc := 82) (lv' := [(6, .int v6), (0, .ref (V.2.2 3)), (1, .int x1), (2, .int x2), (3, .long x3), (5, .int x5)]) hx hb dX3_replace_82 hl (by decide) rfl (fun ls hl => ?_)
      refine lv_aload_n (pc := 84) hx hb dX3_replace_84 rfl (lv_at hl 1 rfl) ?_
      refine lv_iload (pc := 85) hx hb dX3_replace_85 (lv_at hl 5 rfl) ?_
      refine r_cvI (pc := 87) (As := [.int x5]) (rest := []) X hH (fun x hx => mX3_isInFirst hx) cw_X3_121 (heC_3 V w) rfl rfl rfl (Nat.le_of_ble_eq_true rfl) hl.1 h dX3_replace_87 (fun w7 v8 H locs h hH => ?_)
      refine b_if_eq (pc := 90) (tgt := 124) hx hb h dX3_replace_90 (by decide) (fun h => ?_) (fun h => ?_)
      · refine lv_aload_n (pc := 124) hx hb dX3_replace_124 rfl (lv_at hl 1 rfl) ?_
        refine gC_X3_28_3 (pc := 125) X hH dX3_replace_125 ?_
        refine lv_aload_n (pc := 128) hx hb dX3_replace_128 rfl (lv_at hl 1 rfl) ?_
        refine gC_X3_28_3 (pc := 129) X hH dX3_replace_129 ?_
        refine gC_X3_95_1 (pc := 132) X hH dX3_replace_132 ?_
        refine lv_iload (pc := 135) hx hb dX3_replace_135 (lv_at hl 0 rfl) ?_
        refine r_ld (pc := 137) X (heC_14 V w7) hH h dX3_replace_137 (fun v9 h => ?_)
        refine lv_aload_n (pc := 138) hx hb dX3_replace_138 rfl (lv_at hl 1 rfl) ?_
        refine gC_X3_28_3 (pc := 139) X hH dX3_replace_139 ?_
        refine gC_X3_74_1 (pc := 142) X hH dX3_replace_142 ?_
        refine lv_iload (pc := 145) hx hb dX3_replace_145 (lv_at hl 0 rfl) ?_
        refine r_ld (pc := 147) X (heC_15 V w7) hH h dX3_replace_147 (fun v10 h => ?_)
        refine lv_iload_n (pc := 148) hx hb dX3_replace_148 rfl (lv_at hl 3 rfl) ?_
        refine r_cvI (pc := 149) (As := [.int v9, .int v10, .int x2]) (rest := []) X hH (fun x hx => mX8_make hx) cw_X3_128 (heC_1 V w7) rfl rfl rfl (Nat.le_of_ble_eq_true rfl) hl.1 h dX3_replace_149 (fun w11 v12 H locs h hH => ?_)
        exact kX3_replace_152 X  hr64 h hH (lv_sub hl [1, 2, 4, 5] rfl)
      · refine lv_aload_n (pc := 93) hx hb dX3_replace_93 rfl (lv_at hl 1 rfl) ?_
        refine gC_X3_28_3 (pc := 94) X hH dX3_replace_94 ?_
        refine lv_aload_n (pc := 97) hx hb dX3_replace_97 rfl (lv_at hl 1 rfl) ?_
        refine gC_X3_28_3 (pc := 98) X hH dX3_replace_98 ?_
        refine gC_X3_95_1 (pc := 101) X hH dX3_replace_101 ?_
        refine lv_iload (pc := 104) hx hb dX3_replace_104 (lv_at hl 0 rfl) ?_
        refine r_ld (pc := 106) X (heC_14 V w7) hH h dX3_replace_106 (fun v14 h => ?_)
        refine lv_iload_n (pc := 107) hx hb dX3_replace_107 rfl (lv_at hl 3 rfl) ?_
        refine lv_aload_n (pc := 108) hx hb dX3_replace_108 rfl (lv_at hl 1 rfl) ?_
        refine gC_X3_28_3 (pc := 109) X hH dX3_replace_109 ?_
        refine gC_X3_79_1 (pc := 112) X hH dX3_replace_112 ?_
        refine lv_iload (pc := 115) hx hb dX3_replace_115 (lv_at hl 0 rfl) ?_
        refine r_ld (pc := 117) X (heC_16 V w7) hH h dX3_replace_117 (fun v15 h => ?_)
        refine r_cvI (pc := 118) (As := [.int v14, .int x2, .int v15]) (rest := []) X hH (fun x hx => mX8_make hx) cw_X3_128 (heC_1 V w7) rfl rfl rfl (Nat.le_of_ble_eq_true rfl) hl.1 h dX3_replace_118 (fun w16 v17 H locs h hH => ?_)
        refine lv_goto (pc := 121) (tgt := 152) hx hb dX3_replace_121 (by decide) ?_
        exact kX3_replace_152 X  hr64 h hH (lv_sub hl [1, 2, 4, 5] rfl)
def fX3_replace_64 (N d : Nat)   : Nat → Wd → Int32 → Int32 → Int64 → Int32 → Option (Wd × Int32)
  | 0 => fun _ _ _ _ _ => none
  | n + 1 => fun w x1 x2 x3 x5 => bX3_replace_64 N d   (fX3_replace_64 N d   n) w x1 x2 x3 x5
theorem lX3_replace_64 {V : Ev} {p : Program} {l : Launch} {e : Env} {N d : Nat} {s : State} {m : MethodId} {args : Array Value} {below : List Frame} {meth : Method} {c : Code} {z : Wd × Int32} (X : CX V p s m args meth c cX3_replace 7 RX3 (some .int))    (n : Nat) {w : Wd} {x1 : Int32} {x2 : Int32} {x3 : Int64} {x5 : Int32} {H : Heap} {locs : List Loc} {ls : Array Slot} (h : fX3_replace_64 N d   n w x1 x2 x3 x5 = some z) (hH : wH V (cC V) (AC V) s w H locs) (hl : lv_has ls 7 [(0, .ref (V.2.2 3)), (1, .int x1), (2, .int x2), (3, .long x3), (5, .int x5)]) : W p l e (rmD (d + 1)) s m args below meth c H locs 0 0 (MQ below (CtI V (cC V) (AC V) z) args s 0 0 (AC V)) (F0 m 64 ls []) := by
  induction n generalizing w x1 x2 x3 x5 H locs ls with
  | zero => exact c_none h
  | succ n ih => exact kX3_replace_64 (N := N) X  (fun _ _ _ _ _ _ _ _ h hH hl => ih h hH hl) h hH hl
def bX3_replace_46 (N d : Nat)  (rec20 : Wd → Int32 → Int32 → Int64 → Int32 → Option (Wd × Int32)) (w : Wd) (x1 : Int32) (x2 : Int32) (x5 : Int32) (y0 : Int64) (y1 : Int32) : Option (Wd × Int32) :=
  c_cl (eX10_placeOfPart N d w y0 y1) fun w20 v21 =>
  c_nm (x5 + 1) fun x5_22 =>
  rec20 w20 x1 x2 v21 x5_22
set_option maxHeartbeats 4000000 in
theorem kX3_replace_46 {V : Ev} {p : Program} {l : Launch} {e : Env} {N d : Nat} {s : State} {m : MethodId} {args : Array Value} {below : List Frame} {meth : Method} {c : Code} {z : Wd × Int32} (X : CX V p s m args meth c cX3_replace 7 RX3 (some .int))   {rec20 : Wd → Int32 → Int32 → Int64 → Int32 → Option (Wd × Int32)} (hr20 : ∀ (w : Wd) (x1 : Int32) (x2 : Int32) (x3 : Int64) (x5 : Int32) (H : Heap) (locs : List Loc) (ls : Array Slot), rec20 w x1 x2 x3 x5 = some z → wH V (cC V) (AC V) s w H locs → lv_has ls 7 [(0, .ref (V.2.2 3)), (1, .int x1), (2, .int x2), (3, .long x3), (5, .int x5)] → W p l e (rmD (d + 1)) s m args below meth c H locs 0 0 (MQ below (CtI V (cC V) (AC V) z) args s 0 0 (AC V)) (F0 m 20 ls [])) {w : Wd} {x1 : Int32} {x2 : Int32} {x5 : Int32} {y0 : Int64} {y1 : Int32} {H : Heap} {locs : List Loc} {ls : Array Slot} (h : bX3_replace_46 N d  rec20 w x1 x2 x5 y0 y1 = some z) (hH : wH V (cC V) (AC V) s w H locs) (hl : lv_has ls 7 [(0, .ref (V.2.2 3)), (1, .int x1), (2, .int x2), (5, .int x5)]) : W p l e (rmD (d + 1)) s m args below meth c H locs 0 0 (MQ below (CtI V (cC V) (AC V) z) args s 0 0 (AC V)) (F0 m 46 ls [.int y1, .long y0]) := by
  unfold bX3_replace_46 at h
  obtain ⟨hx, hb, hml, hown, hg, hrt, hlk, hK⟩ := id X
  refine r_cnL (pc := 46) (n := 2) (As := [.long y0, .int y1]) (rest := []) X hH (fun x hx => mX10_placeOfPart hx) hK.2.1 wS_538 wI_1 wC_539 (by decide +kernel) (by decide) rfl rfl (Nat.le_of_ble_eq_true rfl) hl.1 h dX3_replace_46 (fun w20 v21 H locs h hH => ?_)
  refine lv_lstore_n (pc := 49) (lv' := [(3, .long v21), (0, .ref (V.2.2 3)), (1, .int x1), (2, .int x2), (5, .int x5)]) hx hb dX3_replace_49 rfl hl (by decide) rfl (fun ls hl => ?_)
  obtain ⟨x5_22, ex5_22, h⟩ := c_nm_ex h
  refine lv_iinc (pc := 50) (v := x5_22) (lv' := [(5, .int x5_22), (3, .long v21), (0, .ref (V.2.2 3)), (1, .int x1), (2, .int x2)]) hx hb dX3_replace_50 hl (k := 4) rfl (by rw [← ex5_22]; rfl) (by decide) rfl (fun ls hl => ?_)
  refine lv_goto (pc := 53) (tgt := 20) hx hb dX3_replace_53 (by decide) ?_
  exact hr20 _ _ _ _ _ _ _ _ h hH (lv_sub hl [2, 3, 4, 1, 0] rfl)
def bX3_replace_20 (N d : Nat)  (rec20 : Wd → Int32 → Int32 → Int64 → Int32 → Option (Wd × Int32)) (w : Wd) (x1 : Int32) (x2 : Int32) (x3 : Int64) (x5 : Int32) : Option (Wd × Int32) :=
  if ((sI w 3) - 1) ≤ x5 then (
    c_nm ((sI w 3) - 2) fun x5_4 =>
    fX3_replace_64 N d   N w x1 x2 x3 x5_4
  ) else (
    c_cl (eX3_isInFirst N d w x5) fun w18 v19 =>
    if v19 = 0 then (
      bX3_replace_46 N d  rec20 w18 x1 x2 x5 x3 1
    ) else (
      bX3_replace_46 N d  rec20 w18 x1 x2 x5 x3 0
    )
  )
set_option maxHeartbeats 4000000 in
theorem kX3_replace_20 {V : Ev} {p : Program} {l : Launch} {e : Env} {N d : Nat} {s : State} {m : MethodId} {args : Array Value} {below : List Frame} {meth : Method} {c : Code} {z : Wd × Int32} (X : CX V p s m args meth c cX3_replace 7 RX3 (some .int))   {rec20 : Wd → Int32 → Int32 → Int64 → Int32 → Option (Wd × Int32)} (hr20 : ∀ (w : Wd) (x1 : Int32) (x2 : Int32) (x3 : Int64) (x5 : Int32) (H : Heap) (locs : List Loc) (ls : Array Slot), rec20 w x1 x2 x3 x5 = some z → wH V (cC V) (AC V) s w H locs → lv_has ls 7 [(0, .ref (V.2.2 3)), (1, .int x1), (2, .int x2), (3, .long x3), (5, .int x5)] → W p l e (rmD (d + 1)) s m args below meth c H locs 0 0 (MQ below (CtI V (cC V) (AC V) z) args s 0 0 (AC V)) (F0 m 20 ls [])) {w : Wd} {x1 : Int32} {x2 : Int32} {x3 : Int64} {x5 : Int32} {H : Heap} {locs : List Loc} {ls : Array Slot} (h : bX3_replace_20 N d  rec20 w x1 x2 x3 x5 = some z) (hH : wH V (cC V) (AC V) s w H locs) (hl : lv_has ls 7 [(0, .ref (V.2.2 3)), (1, .int x1), (2, .int x2), (3, .long x3), (5, .int x5)]) : W p l e (rmD (d + 1)) s m args below meth c H locs 0 0 (MQ below (CtI V (cC V) (AC V) z) args s 0 0 (AC V)) (F0 m 20 ls []) := by
  unfold bX3_replace_20 at h
  obtain ⟨hx, hb, hml, hown, hg, hrt, hlk, hK⟩ := id X
  refine lv_iload (pc := 20) hx hb dX3_replace_20 (lv_at hl 4 rfl) ?_
  refine lv_aload_n (pc := 22) hx hb dX3_replace_22 rfl (lv_at hl 0 rfl) ?_
  refine gC_X3_61_3 (pc := 23) X hH dX3_replace_23 ?_
  refine lv_iconst (pc := 26) (v := 1) hx hb dX3_replace_26 (by decide) ?_
  refine lv_isub (pc := 27) hx hb dX3_replace_27 ?_
  refine b_icmp_ge (pc := 28) (tgt := 56) hx hb h dX3_replace_28 (by decide) (fun h => ?_) (fun h => ?_)
  · refine lv_aload_n (pc := 56) hx hb dX3_replace_56 rfl (lv_at hl 0 rfl) ?_
    refine gC_X3_61_3 (pc := 57) X hH dX3_replace_57 ?_
    refine lv_iconst (pc := 60) (v := 2) hx hb dX3_replace_60 (by decide) ?_
    refine lv_isub (pc := 61) hx hb dX3_replace_61 ?_
    refine r_nmi h (fun x5_4 h => ?_)
    refine lv_istore (pc := 62) (lv' := [(5, .int x5_4), (0, .ref (V.2.2 3)), (1, .int x1), (2, .int x2), (3, .long x3)]) hx hb dX3_replace_62 hl (by decide) rfl (fun ls hl => ?_)
    exact lX3_replace_64 X   N h hH (lv_sub hl [1, 2, 3, 4, 0] rfl)
  · refine lv_lload_n (pc := 31) hx hb dX3_replace_31 rfl (lv_at hl 3 rfl) ?_
    refine lv_aload_n (pc := 32) hx hb dX3_replace_32 rfl (lv_at hl 0 rfl) ?_
    refine lv_iload (pc := 33) hx hb dX3_replace_33 (lv_at hl 4 rfl) ?_
    refine r_cvI (pc := 35) (As := [.int x5]) (rest := [.long x3]) X hH (fun x hx => mX3_isInFirst hx) cw_X3_121 (heC_3 V w) rfl rfl rfl (Nat.le_of_ble_eq_true rfl) hl.1 h dX3_replace_35 (fun w18 v19 H locs h hH => ?_)
    refine b_if_eq (pc := 38) (tgt := 45) hx hb h dX3_replace_38 (by decide) (fun h => ?_) (fun h => ?_)
    · refine lv_iconst (pc := 45) (v := 1) hx hb dX3_replace_45 (by decide) ?_
      exact kX3_replace_46 X  hr20 h hH (lv_sub hl [0, 1, 2, 4] rfl)
    · refine lv_iconst (pc := 41) (v := 0) hx hb dX3_replace_41 (by decide) ?_
      refine lv_goto (pc := 42) (tgt := 46) hx hb dX3_replace_42 (by decide) ?_
      exact kX3_replace_46 X  hr20 h hH (lv_sub hl [0, 1, 2, 4] rfl)
def fX3_replace_20 (N d : Nat)   : Nat → Wd → Int32 → Int32 → Int64 → Int32 → Option (Wd × Int32)
  | 0 => fun _ _ _ _ _ => none
  | n + 1 => fun w x1 x2 x3 x5 => bX3_replace_20 N d   (fX3_replace_20 N d   n) w x1 x2 x3 x5
theorem lX3_replace_20 {V : Ev} {p : Program} {l : Launch} {e : Env} {N d : Nat} {s : State} {m : MethodId} {args : Array Value} {below : List Frame} {meth : Method} {c : Code} {z : Wd × Int32} (X : CX V p s m args meth c cX3_replace 7 RX3 (some .int))    (n : Nat) {w : Wd} {x1 : Int32} {x2 : Int32} {x3 : Int64} {x5 : Int32} {H : Heap} {locs : List Loc} {ls : Array Slot} (h : fX3_replace_20 N d   n w x1 x2 x3 x5 = some z) (hH : wH V (cC V) (AC V) s w H locs) (hl : lv_has ls 7 [(0, .ref (V.2.2 3)), (1, .int x1), (2, .int x2), (3, .long x3), (5, .int x5)]) : W p l e (rmD (d + 1)) s m args below meth c H locs 0 0 (MQ below (CtI V (cC V) (AC V) z) args s 0 0 (AC V)) (F0 m 20 ls []) := by
  induction n generalizing w x1 x2 x3 x5 H locs ls with
  | zero => exact c_none h
  | succ n ih => exact kX3_replace_20 (N := N) X  (fun _ _ _ _ _ _ _ _ h hH hl => ih h hH hl) h hH hl
def bX3_replace_0 (N d : Nat)   (w : Wd) (x1 : Int32) : Option (Wd × Int32) :=
  c_ld w 24 16 x1 fun v1 =>
  c_cl (eX3_instance N d w v1 1) fun w2 v3 =>
  fX3_replace_20 N d   N w2 x1 v3 ((1 : Int64)) ((0 : Int32))
set_option maxHeartbeats 4000000 in
theorem kX3_replace_0 {V : Ev} {p : Program} {l : Launch} {e : Env} {N d : Nat} {s : State} {m : MethodId} {args : Array Value} {below : List Frame} {meth : Method} {c : Code} {z : Wd × Int32} (X : CX V p s m args meth c cX3_replace 7 RX3 (some .int))    {w : Wd} {x1 : Int32} {H : Heap} {locs : List Loc} {ls : Array Slot} (h : bX3_replace_0 N d   w x1 = some z) (hH : wH V (cC V) (AC V) s w H locs) (hl : lv_has ls 7 [(0, .ref (V.2.2 3)), (1, .int x1)]) : W p l e (rmD (d + 1)) s m args below meth c H locs 0 0 (MQ below (CtI V (cC V) (AC V) z) args s 0 0 (AC V)) (F0 m 0 ls []) := by
  unfold bX3_replace_0 at h
  obtain ⟨hx, hb, hml, hown, hg, hrt, hlk, hK⟩ := id X
  refine lv_aload_n (pc := 0) hx hb dX3_replace_0 rfl (lv_at hl 0 rfl) ?_
  refine lv_aload_n (pc := 1) hx hb dX3_replace_1 rfl (lv_at hl 0 rfl) ?_
  refine gC_X3_32_3 (pc := 2) X hH dX3_replace_2 ?_
  refine gC_X3_115_2 (pc := 5) X hH dX3_replace_5 ?_
  refine lv_iload_n (pc := 8) hx hb dX3_replace_8 rfl (lv_at hl 1 rfl) ?_
  refine r_ld (pc := 9) X (heC_24 V w) hH h dX3_replace_9 (fun v1 h => ?_)
  refine lv_iconst (pc := 10) (v := 1) hx hb dX3_replace_10 (by decide) ?_
  refine r_cvI (pc := 11) (As := [.int v1, .int 1]) (rest := []) X hH (fun x hx => mX3_instance hx) cw_X3_118 (heC_3 V w) rfl rfl rfl (Nat.le_of_ble_eq_true rfl) hl.1 h dX3_replace_11 (fun w2 v3 H locs h hH => ?_)
  refine lv_istore_n (pc := 14) (lv' := [(2, .int v3), (0, .ref (V.2.2 3)), (1, .int x1)]) hx hb dX3_replace_14 rfl hl (by decide) rfl (fun ls hl => ?_)
  refine lv_lconst (pc := 15) (v := 1) hx hb dX3_replace_15 (by decide) ?_
  refine lv_lstore_n (pc := 16) (lv' := [(3, .long ((1 : Int64))), (2, .int v3), (0, .ref (V.2.2 3)), (1, .int x1)]) hx hb dX3_replace_16 rfl hl (by decide) rfl (fun ls hl => ?_)
  refine lv_iconst (pc := 17) (v := 0) hx hb dX3_replace_17 (by decide) ?_
  refine lv_istore (pc := 18) (lv' := [(5, .int ((0 : Int32))), (3, .long ((1 : Int64))), (2, .int v3), (0, .ref (V.2.2 3)), (1, .int x1)]) hx hb dX3_replace_18 hl (by decide) rfl (fun ls hl => ?_)
  exact lX3_replace_20 X   N h hH (lv_sub hl [3, 4, 2, 1, 0] rfl)
def eX3_replace (N : Nat) : Nat → Wd → Int32 → Option (Wd × Int32)
  | 0 => fun _ _ => none
  | d + 1 => fun w x1 => bX3_replace_0 N d  w x1
set_option maxHeartbeats 4000000 in
set_option maxRecDepth 20000 in
theorem mX3_replace {l : Launch} {V : Ev} {N d : Nat} {w : Wd} {x1 : Int32} {z : Wd × Int32} (h : eX3_replace N d w x1 = some z) : MetI l V (cC V) (AC V) yX3_replace cX3_replace 7 (some .int) d [.ref (V.2.2 3), .int x1] w z := by
  cases d with
  | zero => exact c_none h
  | succ d =>
    refine Met.ofW (cc := cX3_replace) (maxL := 7) (ret := (some .int)) (by decide) rfl ?_
    intro p e s m args below meth c s₁ B hml hv
    obtain ⟨rfl, hP, hD, hK⟩ := hv
    have hts := atoms_spec (ws := .code yX3_replace cX3_replace 7 (some .int) :: gG) B.pre
    have X : CX V p s m ([.ref (V.2.2 3), .int x1] : List Value).toArray meth c cX3_replace 7 RX3 (some .int) := ⟨B.exec, B.bytes, hml, findClass_of_methodNamed B.named, fun w hw => hts w (List.mem_cons_of_mem _ hw), B.returns, B.notSynchronized, hK⟩
    have hl := lv_entry ([.ref (V.2.2 3), .int x1] : List Value) (n := 7) (Nat.le_of_ble_eq_true rfl)
    rw [lg_entry_eq]
    generalize (lg_sl ([.ref (V.2.2 3), .int x1] : List Value) ++ List.replicate (7 - (lg_sl ([.ref (V.2.2 3), .int x1] : List Value)).length) Slot.unset).toArray = ls at hl ⊢
    have hl : lv_has ls 7 [(0, .ref (V.2.2 3)), (1, .int x1)] := hl
    exact kX3_replace_0 (N := N) X  h ⟨hP, hD, va_S.rf⟩ hl
theorem dX3_rewriteOnce_0 : decode cX3_rewriteOnce 0 = .ok (.aload_n 0, 1) := by decide +kernel
theorem dX3_rewriteOnce_1 : decode cX3_rewriteOnce 1 = .ok (.getfield 12, 3) := by decide +kernel
theorem dX3_rewriteOnce_4 : decode cX3_rewriteOnce 4 = .ok (.iconst 0, 1) := by decide +kernel
theorem dX3_rewriteOnce_5 : decode cX3_rewriteOnce 5 = .ok (.putfield 43, 3) := by decide +kernel
theorem dX3_rewriteOnce_8 : decode cX3_rewriteOnce 8 = .ok (.aload_n 0, 1) := by decide +kernel
theorem dX3_rewriteOnce_9 : decode cX3_rewriteOnce 9 = .ok (.iload_n 1, 1) := by decide +kernel
theorem dX3_rewriteOnce_10 : decode cX3_rewriteOnce 10 = .ok (.iload_n 2, 1) := by decide +kernel
theorem dX3_rewriteOnce_11 : decode cX3_rewriteOnce 11 = .ok (.invokevirtual 46, 3) := by decide +kernel
theorem dX3_rewriteOnce_14 : decode cX3_rewriteOnce 14 = .ok (.istore_n 3, 1) := by decide +kernel
theorem dX3_rewriteOnce_15 : decode cX3_rewriteOnce 15 = .ok (.iload_n 3, 1) := by decide +kernel
theorem dX3_rewriteOnce_16 : decode cX3_rewriteOnce 16 = .ok (.iconst (-1), 1) := by decide +kernel
theorem dX3_rewriteOnce_17 : decode cX3_rewriteOnce 17 = .ok (.if_icmp .ne 7, 3) := by decide +kernel
theorem dX3_rewriteOnce_20 : decode cX3_rewriteOnce 20 = .ok (.iconst (-1), 1) := by decide +kernel
theorem dX3_rewriteOnce_21 : decode cX3_rewriteOnce 21 = .ok (.goto 8, 3) := by decide +kernel
theorem dX3_rewriteOnce_24 : decode cX3_rewriteOnce 24 = .ok (.aload_n 0, 1) := by decide +kernel
theorem dX3_rewriteOnce_25 : decode cX3_rewriteOnce 25 = .ok (.iload_n 3, 1) := by decide +kernel
theorem dX3_rewriteOnce_26 : decode cX3_rewriteOnce 26 = .ok (.invokevirtual 50, 3) := by decide +kernel
theorem dX3_rewriteOnce_29 : decode cX3_rewriteOnce 29 = .ok (.ireturn, 1) := by decide +kernel
def bX3_rewriteOnce_29 (N d : Nat)   (w : Wd) (y0 : Int32) : Option (Wd × Int32) :=
  some (w, y0)
set_option maxHeartbeats 4000000 in
theorem kX3_rewriteOnce_29 {V : Ev} {p : Program} {l : Launch} {e : Env} {N d : Nat} {s : State} {m : MethodId} {args : Array Value} {below : List Frame} {meth : Method} {c : Code} {z : Wd × Int32} (X : CX V p s m args meth c cX3_rewriteOnce 4 RX3 (some .int))    {w : Wd} {y0 : Int32} {H : Heap} {locs : List Loc} {ls : Array Slot} (h : bX3_rewriteOnce_29 N d   w y0 = some z) (hH : wH V (cC V) (AC V) s w H locs) (hl : lv_has ls 4 []) : W p l e (rmD (d + 1)) s m args below meth c H locs 0 0 (MQ below (CtI V (cC V) (AC V) z) args s 0 0 (AC V)) (F0 m 29 ls [.int y0]) := by
  unfold bX3_rewriteOnce_29 at h
  obtain ⟨hx, hb, hml, hown, hg, hrt, hlk, hK⟩ := id X
  exact r_iret (pc := 29) X hH h dX3_rewriteOnce_29
def bX3_rewriteOnce_0 (N d : Nat)   (w : Wd) (x1 : Int32) (x2 : Int32) : Option (Wd × Int32) :=
  c_pi w 14 0 fun w1 =>
  c_cl (eX3_search N d w1 x1 x2) fun w2 v3 =>
  if v3 = (-1) then (
    bX3_rewriteOnce_29 N d   w2 (-1)
  ) else (
    c_cl (eX3_replace N d w2 v3) fun w4 v5 =>
    bX3_rewriteOnce_29 N d   w4 v5
  )
set_option maxHeartbeats 4000000 in
theorem kX3_rewriteOnce_0 {V : Ev} {p : Program} {l : Launch} {e : Env} {N d : Nat} {s : State} {m : MethodId} {args : Array Value} {below : List Frame} {meth : Method} {c : Code} {z : Wd × Int32} (X : CX V p s m args meth c cX3_rewriteOnce 4 RX3 (some .int))    {w : Wd} {x1 : Int32} {x2 : Int32} {H : Heap} {locs : List Loc} {ls : Array Slot} (h : bX3_rewriteOnce_0 N d   w x1 x2 = some z) (hH : wH V (cC V) (AC V) s w H locs) (hl : lv_has ls 4 [(0, .ref (V.2.2 3)), (1, .int x1), (2, .int x2)]) : W p l e (rmD (d + 1)) s m args below meth c H locs 0 0 (MQ below (CtI V (cC V) (AC V) z) args s 0 0 (AC V)) (F0 m 0 ls []) := by
  unfold bX3_rewriteOnce_0 at h
  obtain ⟨hx, hb, hml, hown, hg, hrt, hlk, hK⟩ := id X
  refine lv_aload_n (pc := 0) hx hb dX3_rewriteOnce_0 rfl (lv_at hl 0 rfl) ?_
  refine gC_X3_12_3 (pc := 1) X hH dX3_rewriteOnce_1 ?_
  refine lv_iconst (pc := 4) (v := 0) hx hb dX3_rewriteOnce_4 (by decide) ?_
  refine pC_X3_43_8 (pc := 5) X hH h dX3_rewriteOnce_5 (fun w1 H locs h hH => ?_)
  refine lv_aload_n (pc := 8) hx hb dX3_rewriteOnce_8 rfl (lv_at hl 0 rfl) ?_
  refine lv_iload_n (pc := 9) hx hb dX3_rewriteOnce_9 rfl (lv_at hl 1 rfl) ?_
  refine lv_iload_n (pc := 10) hx hb dX3_rewriteOnce_10 rfl (lv_at hl 2 rfl) ?_
  refine r_cvI (pc := 11) (As := [.int x1, .int x2]) (rest := []) X hH (fun x hx => mX3_search hx) cw_X3_46 (heC_3 V w1) rfl rfl rfl (Nat.le_of_ble_eq_true rfl) hl.1 h dX3_rewriteOnce_11 (fun w2 v3 H locs h hH => ?_)
  refine lv_istore_n (pc := 14) (lv' := [(3, .int v3), (0, .ref (V.2.2 3)), (1, .int x1), (2, .int x2)]) hx hb dX3_rewriteOnce_14 rfl hl (by decide) rfl (fun ls hl => ?_)
  refine lv_iload_n (pc := 15) hx hb dX3_rewriteOnce_15 rfl (lv_at hl 0 rfl) ?_
  refine lv_iconst (pc := 16) (v := -1) hx hb dX3_rewriteOnce_16 (by decide) ?_
  refine b_icmp_ne (pc := 17) (tgt := 24) hx hb h dX3_rewriteOnce_17 (by decide) (fun h => ?_) (fun h => ?_)
  · refine lv_aload_n (pc := 24) hx hb dX3_rewriteOnce_24 rfl (lv_at hl 1 rfl) ?_
    refine lv_iload_n (pc := 25) hx hb dX3_rewriteOnce_25 rfl (lv_at hl 0 rfl) ?_
    refine r_cvI (pc := 26) (As := [.int v3]) (rest := []) X hH (fun x hx => mX3_replace hx) cw_X3_50 (heC_3 V w2) rfl rfl rfl (Nat.le_of_ble_eq_true rfl) hl.1 h dX3_rewriteOnce_26 (fun w4 v5 H locs h hH => ?_)
    exact kX3_rewriteOnce_29 X   h hH (lv_sub hl [] rfl)
  · refine lv_iconst (pc := 20) (v := -1) hx hb dX3_rewriteOnce_20 (by decide) ?_
    refine lv_goto (pc := 21) (tgt := 29) hx hb dX3_rewriteOnce_21 (by decide) ?_
    exact kX3_rewriteOnce_29 X   h hH (lv_sub hl [] rfl)
def eX3_rewriteOnce (N : Nat) : Nat → Wd → Int32 → Int32 → Option (Wd × Int32)
  | 0 => fun _ _ _ => none
  | d + 1 => fun w x1 x2 => bX3_rewriteOnce_0 N d  w x1 x2
set_option maxHeartbeats 4000000 in
set_option maxRecDepth 20000 in
theorem mX3_rewriteOnce {l : Launch} {V : Ev} {N d : Nat} {w : Wd} {x1 : Int32} {x2 : Int32} {z : Wd × Int32} (h : eX3_rewriteOnce N d w x1 x2 = some z) : MetI l V (cC V) (AC V) yX3_rewriteOnce cX3_rewriteOnce 4 (some .int) d [.ref (V.2.2 3), .int x1, .int x2] w z := by
  cases d with
  | zero => exact c_none h
  | succ d =>
    refine Met.ofW (cc := cX3_rewriteOnce) (maxL := 4) (ret := (some .int)) (by decide) rfl ?_
    intro p e s m args below meth c s₁ B hml hv
    obtain ⟨rfl, hP, hD, hK⟩ := hv
    have hts := atoms_spec (ws := .code yX3_rewriteOnce cX3_rewriteOnce 4 (some .int) :: gG) B.pre
    have X : CX V p s m ([.ref (V.2.2 3), .int x1, .int x2] : List Value).toArray meth c cX3_rewriteOnce 4 RX3 (some .int) := ⟨B.exec, B.bytes, hml, findClass_of_methodNamed B.named, fun w hw => hts w (List.mem_cons_of_mem _ hw), B.returns, B.notSynchronized, hK⟩
    have hl := lv_entry ([.ref (V.2.2 3), .int x1, .int x2] : List Value) (n := 4) (Nat.le_of_ble_eq_true rfl)
    rw [lg_entry_eq]
    generalize (lg_sl ([.ref (V.2.2 3), .int x1, .int x2] : List Value) ++ List.replicate (4 - (lg_sl ([.ref (V.2.2 3), .int x1, .int x2] : List Value)).length) Slot.unset).toArray = ls at hl ⊢
    have hl : lv_has ls 4 [(0, .ref (V.2.2 3)), (1, .int x1), (2, .int x2)] := hl
    exact kX3_rewriteOnce_0 (N := N) X  h ⟨hP, hD, va_S.rf⟩ hl
theorem dX8_shrinkTo_0 : decode cX8_shrinkTo 0 = .ok (.aload_n 0, 1) := by decide +kernel
theorem dX8_shrinkTo_1 : decode cX8_shrinkTo 1 = .ok (.getfield 67, 3) := by decide +kernel
theorem dX8_shrinkTo_4 : decode cX8_shrinkTo 4 = .ok (.iconst 1, 1) := by decide +kernel
theorem dX8_shrinkTo_5 : decode cX8_shrinkTo 5 = .ok (.isub, 1) := by decide +kernel
theorem dX8_shrinkTo_6 : decode cX8_shrinkTo 6 = .ok (.istore_n 2, 1) := by decide +kernel
theorem dX8_shrinkTo_7 : decode cX8_shrinkTo 7 = .ok (.iload_n 2, 1) := by decide +kernel
theorem dX8_shrinkTo_8 : decode cX8_shrinkTo 8 = .ok (.iload_n 1, 1) := by decide +kernel
theorem dX8_shrinkTo_9 : decode cX8_shrinkTo 9 = .ok (.if_icmp .lt 41, 3) := by decide +kernel
theorem dX8_shrinkTo_12 : decode cX8_shrinkTo 12 = .ok (.aload_n 0, 1) := by decide +kernel
theorem dX8_shrinkTo_13 : decode cX8_shrinkTo 13 = .ok (.getfield 37, 3) := by decide +kernel
theorem dX8_shrinkTo_16 : decode cX8_shrinkTo 16 = .ok (.aload_n 0, 1) := by decide +kernel
theorem dX8_shrinkTo_17 : decode cX8_shrinkTo 17 = .ok (.getfield 18, 3) := by decide +kernel
theorem dX8_shrinkTo_20 : decode cX8_shrinkTo 20 = .ok (.iload_n 2, 1) := by decide +kernel
theorem dX8_shrinkTo_21 : decode cX8_shrinkTo 21 = .ok (.iaload, 1) := by decide +kernel
theorem dX8_shrinkTo_22 : decode cX8_shrinkTo 22 = .ok (.aload_n 0, 1) := by decide +kernel
theorem dX8_shrinkTo_23 : decode cX8_shrinkTo 23 = .ok (.getfield 21, 3) := by decide +kernel
theorem dX8_shrinkTo_26 : decode cX8_shrinkTo 26 = .ok (.iload_n 2, 1) := by decide +kernel
theorem dX8_shrinkTo_27 : decode cX8_shrinkTo 27 = .ok (.iaload, 1) := by decide +kernel
theorem dX8_shrinkTo_28 : decode cX8_shrinkTo 28 = .ok (.aload_n 0, 1) := by decide +kernel
theorem dX8_shrinkTo_29 : decode cX8_shrinkTo 29 = .ok (.getfield 24, 3) := by decide +kernel
theorem dX8_shrinkTo_32 : decode cX8_shrinkTo 32 = .ok (.iload_n 2, 1) := by decide +kernel
theorem dX8_shrinkTo_33 : decode cX8_shrinkTo 33 = .ok (.iaload, 1) := by decide +kernel
theorem dX8_shrinkTo_34 : decode cX8_shrinkTo 34 = .ok (.invokestatic 59, 3) := by decide +kernel
theorem dX8_shrinkTo_37 : decode cX8_shrinkTo 37 = .ok (.aload_n 0, 1) := by decide +kernel
theorem dX8_shrinkTo_38 : decode cX8_shrinkTo 38 = .ok (.getfield 40, 3) := by decide +kernel
theorem dX8_shrinkTo_41 : decode cX8_shrinkTo 41 = .ok (.iload_n 2, 1) := by decide +kernel
theorem dX8_shrinkTo_42 : decode cX8_shrinkTo 42 = .ok (.iaload, 1) := by decide +kernel
theorem dX8_shrinkTo_43 : decode cX8_shrinkTo 43 = .ok (.iastore, 1) := by decide +kernel
theorem dX8_shrinkTo_44 : decode cX8_shrinkTo 44 = .ok (.iinc 2 (-1), 3) := by decide +kernel
theorem dX8_shrinkTo_47 : decode cX8_shrinkTo 47 = .ok (.goto (-40), 3) := by decide +kernel
theorem dX8_shrinkTo_50 : decode cX8_shrinkTo 50 = .ok (.aload_n 0, 1) := by decide +kernel
theorem dX8_shrinkTo_51 : decode cX8_shrinkTo 51 = .ok (.iload_n 1, 1) := by decide +kernel
theorem dX8_shrinkTo_52 : decode cX8_shrinkTo 52 = .ok (.putfield 67, 3) := by decide +kernel
theorem dX8_shrinkTo_55 : decode cX8_shrinkTo 55 = .ok (.return_, 1) := by decide +kernel
def bX8_shrinkTo_7 (N d : Nat)  (rec7 : Wd → Int32 → Int32 → Option (Wd)) (w : Wd) (x1 : Int32) (x2 : Int32) : Option (Wd) :=
  if x2 < x1 then (
    c_pi w 1 x1 fun w2 =>
    some w2
  ) else (
    c_ld w 14 1000 x2 fun v3 =>
    c_ld w 15 1000 x2 fun v4 =>
    c_ld w 16 1000 x2 fun v5 =>
    c_cl (eX8_bucketOf N d w v3 v4 v5) fun w6 v7 =>
    c_ld w6 21 1000 x2 fun v8 =>
    c_st w6 20 256 v7 v8 fun w9 =>
    c_nm (x2 + (-1)) fun x2_10 =>
    rec7 w9 x1 x2_10
  )
set_option maxHeartbeats 4000000 in
theorem kX8_shrinkTo_7 {V : Ev} {p : Program} {l : Launch} {e : Env} {N d : Nat} {s : State} {m : MethodId} {args : Array Value} {below : List Frame} {meth : Method} {c : Code} {z : Wd} (X : CX V p s m args meth c cX8_shrinkTo 3 RX8 none)   {rec7 : Wd → Int32 → Int32 → Option (Wd)} (hr7 : ∀ (w : Wd) (x1 : Int32) (x2 : Int32) (H : Heap) (locs : List Loc) (ls : Array Slot), rec7 w x1 x2 = some z → wH V (cC V) (AC V) s w H locs → lv_has ls 3 [(0, .ref (V.2.2 1)), (1, .int x1), (2, .int x2)] → W p l e (rmD (d + 1)) s m args below meth c H locs 0 0 (MQ below (CtV V (cC V) (AC V) z) args s 0 0 (AC V)) (F0 m 7 ls [])) {w : Wd} {x1 : Int32} {x2 : Int32} {H : Heap} {locs : List Loc} {ls : Array Slot} (h : bX8_shrinkTo_7 N d  rec7 w x1 x2 = some z) (hH : wH V (cC V) (AC V) s w H locs) (hl : lv_has ls 3 [(0, .ref (V.2.2 1)), (1, .int x1), (2, .int x2)]) : W p l e (rmD (d + 1)) s m args below meth c H locs 0 0 (MQ below (CtV V (cC V) (AC V) z) args s 0 0 (AC V)) (F0 m 7 ls []) := by
  unfold bX8_shrinkTo_7 at h
  obtain ⟨hx, hb, hml, hown, hg, hrt, hlk, hK⟩ := id X
  refine lv_iload_n (pc := 7) hx hb dX8_shrinkTo_7 rfl (lv_at hl 2 rfl) ?_
  refine lv_iload_n (pc := 8) hx hb dX8_shrinkTo_8 rfl (lv_at hl 1 rfl) ?_
  refine b_icmp_lt (pc := 9) (tgt := 50) hx hb h dX8_shrinkTo_9 (by decide) (fun h => ?_) (fun h => ?_)
  · refine lv_aload_n (pc := 50) hx hb dX8_shrinkTo_50 rfl (lv_at hl 0 rfl) ?_
    refine lv_iload_n (pc := 51) hx hb dX8_shrinkTo_51 rfl (lv_at hl 1 rfl) ?_
    refine pC_X8_67_1 (pc := 52) X hH h dX8_shrinkTo_52 (fun w2 H locs h hH => ?_)
    exact r_vret (pc := 55) X hH h dX8_shrinkTo_55
  · refine lv_aload_n (pc := 12) hx hb dX8_shrinkTo_12 rfl (lv_at hl 0 rfl) ?_
    refine gC_X8_37_1 (pc := 13) X hH dX8_shrinkTo_13 ?_
    refine lv_aload_n (pc := 16) hx hb dX8_shrinkTo_16 rfl (lv_at hl 0 rfl) ?_
    refine gC_X8_18_1 (pc := 17) X hH dX8_shrinkTo_17 ?_
    refine lv_iload_n (pc := 20) hx hb dX8_shrinkTo_20 rfl (lv_at hl 2 rfl) ?_
    refine r_ld (pc := 21) X (heC_14 V w) hH h dX8_shrinkTo_21 (fun v3 h => ?_)
    refine lv_aload_n (pc := 22) hx hb dX8_shrinkTo_22 rfl (lv_at hl 0 rfl) ?_
    refine gC_X8_21_1 (pc := 23) X hH dX8_shrinkTo_23 ?_
    refine lv_iload_n (pc := 26) hx hb dX8_shrinkTo_26 rfl (lv_at hl 2 rfl) ?_
    refine r_ld (pc := 27) X (heC_15 V w) hH h dX8_shrinkTo_27 (fun v4 h => ?_)
    refine lv_aload_n (pc := 28) hx hb dX8_shrinkTo_28 rfl (lv_at hl 0 rfl) ?_
    refine gC_X8_24_1 (pc := 29) X hH dX8_shrinkTo_29 ?_
    refine lv_iload_n (pc := 32) hx hb dX8_shrinkTo_32 rfl (lv_at hl 2 rfl) ?_
    refine r_ld (pc := 33) X (heC_16 V w) hH h dX8_shrinkTo_33 (fun v5 h => ?_)
    refine r_csI (pc := 34) (As := [.int v3, .int v4, .int v5]) (rest := [.ref (V.2.2 20)]) X hH (fun x hx => mX8_bucketOf hx) cs_X8_59 rfl rfl (Nat.le_of_ble_eq_true rfl) hl.1 h dX8_shrinkTo_34 (fun w6 v7 H locs h hH => ?_)
    refine lv_aload_n (pc := 37) hx hb dX8_shrinkTo_37 rfl (lv_at hl 0 rfl) ?_
    refine gC_X8_40_1 (pc := 38) X hH dX8_shrinkTo_38 ?_
    refine lv_iload_n (pc := 41) hx hb dX8_shrinkTo_41 rfl (lv_at hl 2 rfl) ?_
    refine r_ld (pc := 42) X (heC_21 V w6) hH h dX8_shrinkTo_42 (fun v8 h => ?_)
    refine r_st (pc := 43) X (heC_20 V w6) (hsC_20 V w6) hH h dX8_shrinkTo_43 (fun w9 H locs h hH => ?_)
    obtain ⟨x2_10, ex2_10, h⟩ := c_nm_ex h
    refine lv_iinc (pc := 44) (v := x2_10) (lv' := [(2, .int x2_10), (0, .ref (V.2.2 1)), (1, .int x1)]) hx hb dX8_shrinkTo_44 hl (k := 2) rfl (by rw [← ex2_10]; rfl) (by decide) rfl (fun ls hl => ?_)
    refine lv_goto (pc := 47) (tgt := 7) hx hb dX8_shrinkTo_47 (by decide) ?_
    exact hr7 _ _ _ _ _ _ h hH (lv_sub hl [1, 2, 0] rfl)
def fX8_shrinkTo_7 (N d : Nat)   : Nat → Wd → Int32 → Int32 → Option (Wd)
  | 0 => fun _ _ _ => none
  | n + 1 => fun w x1 x2 => bX8_shrinkTo_7 N d   (fX8_shrinkTo_7 N d   n) w x1 x2
theorem lX8_shrinkTo_7 {V : Ev} {p : Program} {l : Launch} {e : Env} {N d : Nat} {s : State} {m : MethodId} {args : Array Value} {below : List Frame} {meth : Method} {c : Code} {z : Wd} (X : CX V p s m args meth c cX8_shrinkTo 3 RX8 none)    (n : Nat) {w : Wd} {x1 : Int32} {x2 : Int32} {H : Heap} {locs : List Loc} {ls : Array Slot} (h : fX8_shrinkTo_7 N d   n w x1 x2 = some z) (hH : wH V (cC V) (AC V) s w H locs) (hl : lv_has ls 3 [(0, .ref (V.2.2 1)), (1, .int x1), (2, .int x2)]) : W p l e (rmD (d + 1)) s m args below meth c H locs 0 0 (MQ below (CtV V (cC V) (AC V) z) args s 0 0 (AC V)) (F0 m 7 ls []) := by
  induction n generalizing w x1 x2 H locs ls with
  | zero => exact c_none h
  | succ n ih => exact kX8_shrinkTo_7 (N := N) X  (fun _ _ _ _ _ _ h hH hl => ih h hH hl) h hH hl
def bX8_shrinkTo_0 (N d : Nat)   (w : Wd) (x1 : Int32) : Option (Wd) :=
  c_nm ((sI w 1) - 1) fun x2_1 =>
  fX8_shrinkTo_7 N d   N w x1 x2_1
set_option maxHeartbeats 4000000 in
theorem kX8_shrinkTo_0 {V : Ev} {p : Program} {l : Launch} {e : Env} {N d : Nat} {s : State} {m : MethodId} {args : Array Value} {below : List Frame} {meth : Method} {c : Code} {z : Wd} (X : CX V p s m args meth c cX8_shrinkTo 3 RX8 none)    {w : Wd} {x1 : Int32} {H : Heap} {locs : List Loc} {ls : Array Slot} (h : bX8_shrinkTo_0 N d   w x1 = some z) (hH : wH V (cC V) (AC V) s w H locs) (hl : lv_has ls 3 [(0, .ref (V.2.2 1)), (1, .int x1)]) : W p l e (rmD (d + 1)) s m args below meth c H locs 0 0 (MQ below (CtV V (cC V) (AC V) z) args s 0 0 (AC V)) (F0 m 0 ls []) := by
  unfold bX8_shrinkTo_0 at h
  obtain ⟨hx, hb, hml, hown, hg, hrt, hlk, hK⟩ := id X
  refine lv_aload_n (pc := 0) hx hb dX8_shrinkTo_0 rfl (lv_at hl 0 rfl) ?_
  refine gC_X8_67_1 (pc := 1) X hH dX8_shrinkTo_1 ?_
  refine lv_iconst (pc := 4) (v := 1) hx hb dX8_shrinkTo_4 (by decide) ?_
  refine lv_isub (pc := 5) hx hb dX8_shrinkTo_5 ?_
  refine r_nmi h (fun x2_1 h => ?_)
  refine lv_istore_n (pc := 6) (lv' := [(2, .int x2_1), (0, .ref (V.2.2 1)), (1, .int x1)]) hx hb dX8_shrinkTo_6 rfl hl (by decide) rfl (fun ls hl => ?_)
  exact lX8_shrinkTo_7 X   N h hH (lv_sub hl [1, 2, 0] rfl)
def eX8_shrinkTo (N : Nat) : Nat → Wd → Int32 → Option (Wd)
  | 0 => fun _ _ => none
  | d + 1 => fun w x1 => bX8_shrinkTo_0 N d  w x1
set_option maxHeartbeats 4000000 in
set_option maxRecDepth 20000 in
theorem mX8_shrinkTo {l : Launch} {V : Ev} {N d : Nat} {w : Wd} {x1 : Int32} {z : Wd} (h : eX8_shrinkTo N d w x1 = some z) : MetV l V (cC V) (AC V) yX8_shrinkTo cX8_shrinkTo 3 none d [.ref (V.2.2 1), .int x1] w z := by
  cases d with
  | zero => exact c_none h
  | succ d =>
    refine Met.ofW (cc := cX8_shrinkTo) (maxL := 3) (ret := none) (by decide) rfl ?_
    intro p e s m args below meth c s₁ B hml hv
    obtain ⟨rfl, hP, hD, hK⟩ := hv
    have hts := atoms_spec (ws := .code yX8_shrinkTo cX8_shrinkTo 3 none :: gG) B.pre
    have X : CX V p s m ([.ref (V.2.2 1), .int x1] : List Value).toArray meth c cX8_shrinkTo 3 RX8 none := ⟨B.exec, B.bytes, hml, findClass_of_methodNamed B.named, fun w hw => hts w (List.mem_cons_of_mem _ hw), B.returns, B.notSynchronized, hK⟩
    have hl := lv_entry ([.ref (V.2.2 1), .int x1] : List Value) (n := 3) (Nat.le_of_ble_eq_true rfl)
    rw [lg_entry_eq]
    generalize (lg_sl ([.ref (V.2.2 1), .int x1] : List Value) ++ List.replicate (3 - (lg_sl ([.ref (V.2.2 1), .int x1] : List Value)).length) Slot.unset).toArray = ls at hl ⊢
    have hl : lv_has ls 3 [(0, .ref (V.2.2 1)), (1, .int x1)] := hl
    exact kX8_shrinkTo_0 (N := N) X  h ⟨hP, hD, va_S.rf⟩ hl
theorem dX10_undoIfFull_0 : decode cX10_undoIfFull 0 = .ok (.iload_n 1, 1) := by decide +kernel
theorem dX10_undoIfFull_1 : decode cX10_undoIfFull 1 = .ok (.bipush (-4), 2) := by decide +kernel
theorem dX10_undoIfFull_3 : decode cX10_undoIfFull 3 = .ok (.if_icmp .ne 11, 3) := by decide +kernel
theorem dX10_undoIfFull_6 : decode cX10_undoIfFull 6 = .ok (.aload_n 0, 1) := by decide +kernel
theorem dX10_undoIfFull_7 : decode cX10_undoIfFull 7 = .ok (.getfield 15, 3) := by decide +kernel
theorem dX10_undoIfFull_10 : decode cX10_undoIfFull 10 = .ok (.iload_n 2, 1) := by decide +kernel
theorem dX10_undoIfFull_11 : decode cX10_undoIfFull 11 = .ok (.invokevirtual 223, 3) := by decide +kernel
theorem dX10_undoIfFull_14 : decode cX10_undoIfFull 14 = .ok (.iload_n 1, 1) := by decide +kernel
theorem dX10_undoIfFull_15 : decode cX10_undoIfFull 15 = .ok (.ireturn, 1) := by decide +kernel
def bX10_undoIfFull_14 (N d : Nat)   (w : Wd) (x1 : Int32) : Option (Wd × Int32) :=
  some (w, x1)
set_option maxHeartbeats 4000000 in
theorem kX10_undoIfFull_14 {V : Ev} {p : Program} {l : Launch} {e : Env} {N d : Nat} {s : State} {m : MethodId} {args : Array Value} {below : List Frame} {meth : Method} {c : Code} {z : Wd × Int32} (X : CX V p s m args meth c cX10_undoIfFull 3 RX10 (some .int))    {w : Wd} {x1 : Int32} {H : Heap} {locs : List Loc} {ls : Array Slot} (h : bX10_undoIfFull_14 N d   w x1 = some z) (hH : wH V (cC V) (AC V) s w H locs) (hl : lv_has ls 3 [(1, .int x1)]) : W p l e (rmD (d + 1)) s m args below meth c H locs 0 0 (MQ below (CtI V (cC V) (AC V) z) args s 0 0 (AC V)) (F0 m 14 ls []) := by
  unfold bX10_undoIfFull_14 at h
  obtain ⟨hx, hb, hml, hown, hg, hrt, hlk, hK⟩ := id X
  refine lv_iload_n (pc := 14) hx hb dX10_undoIfFull_14 rfl (lv_at hl 0 rfl) ?_
  exact r_iret (pc := 15) X hH h dX10_undoIfFull_15
def bX10_undoIfFull_0 (N d : Nat)   (w : Wd) (x1 : Int32) (x2 : Int32) : Option (Wd × Int32) :=
  if x1 = (-4) then (
    c_cv (eX8_shrinkTo N d w x2) fun w1 =>
    bX10_undoIfFull_14 N d   w1 x1
  ) else (
    bX10_undoIfFull_14 N d   w x1
  )
set_option maxHeartbeats 4000000 in
theorem kX10_undoIfFull_0 {V : Ev} {p : Program} {l : Launch} {e : Env} {N d : Nat} {s : State} {m : MethodId} {args : Array Value} {below : List Frame} {meth : Method} {c : Code} {z : Wd × Int32} (X : CX V p s m args meth c cX10_undoIfFull 3 RX10 (some .int))    {w : Wd} {x1 : Int32} {x2 : Int32} {H : Heap} {locs : List Loc} {ls : Array Slot} (h : bX10_undoIfFull_0 N d   w x1 x2 = some z) (hH : wH V (cC V) (AC V) s w H locs) (hl : lv_has ls 3 [(0, .ref (V.2.2 0)), (1, .int x1), (2, .int x2)]) : W p l e (rmD (d + 1)) s m args below meth c H locs 0 0 (MQ below (CtI V (cC V) (AC V) z) args s 0 0 (AC V)) (F0 m 0 ls []) := by
  unfold bX10_undoIfFull_0 at h
  obtain ⟨hx, hb, hml, hown, hg, hrt, hlk, hK⟩ := id X
  refine lv_iload_n (pc := 0) hx hb dX10_undoIfFull_0 rfl (lv_at hl 1 rfl) ?_
  refine lv_bipush (pc := 1) (v := -4) hx hb dX10_undoIfFull_1 (by decide) ?_
  refine b_icmp_ne (pc := 3) (tgt := 14) hx hb h dX10_undoIfFull_3 (by decide) (fun h => ?_) (fun h => ?_)
  · exact kX10_undoIfFull_14 X   h hH (lv_sub hl [1] rfl)
  · refine lv_aload_n (pc := 6) hx hb dX10_undoIfFull_6 rfl (lv_at hl 0 rfl) ?_
    refine gC_X10_15_0 (pc := 7) X hH dX10_undoIfFull_7 ?_
    refine lv_iload_n (pc := 10) hx hb dX10_undoIfFull_10 rfl (lv_at hl 2 rfl) ?_
    refine r_cvV (pc := 11) (As := [.int x2]) (rest := []) X hH (fun x hx => mX8_shrinkTo hx) cw_X10_223 (heC_1 V w) rfl rfl rfl (Nat.le_of_ble_eq_true rfl) hl.1 h dX10_undoIfFull_11 (fun w1 H locs h hH => ?_)
    exact kX10_undoIfFull_14 X   h hH (lv_sub hl [1] rfl)
def eX10_undoIfFull (N : Nat) : Nat → Wd → Int32 → Int32 → Option (Wd × Int32)
  | 0 => fun _ _ _ => none
  | d + 1 => fun w x1 x2 => bX10_undoIfFull_0 N d  w x1 x2
set_option maxHeartbeats 4000000 in
set_option maxRecDepth 20000 in
theorem mX10_undoIfFull {l : Launch} {V : Ev} {N d : Nat} {w : Wd} {x1 : Int32} {x2 : Int32} {z : Wd × Int32} (h : eX10_undoIfFull N d w x1 x2 = some z) : MetI l V (cC V) (AC V) yX10_undoIfFull cX10_undoIfFull 3 (some .int) d [.ref (V.2.2 0), .int x1, .int x2] w z := by
  cases d with
  | zero => exact c_none h
  | succ d =>
    refine Met.ofW (cc := cX10_undoIfFull) (maxL := 3) (ret := (some .int)) (by decide) rfl ?_
    intro p e s m args below meth c s₁ B hml hv
    obtain ⟨rfl, hP, hD, hK⟩ := hv
    have hts := atoms_spec (ws := .code yX10_undoIfFull cX10_undoIfFull 3 (some .int) :: gG) B.pre
    have X : CX V p s m ([.ref (V.2.2 0), .int x1, .int x2] : List Value).toArray meth c cX10_undoIfFull 3 RX10 (some .int) := ⟨B.exec, B.bytes, hml, findClass_of_methodNamed B.named, fun w hw => hts w (List.mem_cons_of_mem _ hw), B.returns, B.notSynchronized, hK⟩
    have hl := lv_entry ([.ref (V.2.2 0), .int x1, .int x2] : List Value) (n := 3) (Nat.le_of_ble_eq_true rfl)
    rw [lg_entry_eq]
    generalize (lg_sl ([.ref (V.2.2 0), .int x1, .int x2] : List Value) ++ List.replicate (3 - (lg_sl ([.ref (V.2.2 0), .int x1, .int x2] : List Value)).length) Slot.unset).toArray = ls at hl ⊢
    have hl : lv_has ls 3 [(0, .ref (V.2.2 0)), (1, .int x1), (2, .int x2)] := hl
    exact kX10_undoIfFull_0 (N := N) X  h ⟨hP, hD, va_S.rf⟩ hl
theorem dX6_copyFrom_0 : decode cX6_copyFrom 0 = .ok (.aload_n 0, 1) := by decide +kernel
theorem dX6_copyFrom_1 : decode cX6_copyFrom 1 = .ok (.aload_n 1, 1) := by decide +kernel
theorem dX6_copyFrom_2 : decode cX6_copyFrom 2 = .ok (.getfield 19, 3) := by decide +kernel
theorem dX6_copyFrom_5 : decode cX6_copyFrom 5 = .ok (.putfield 19, 3) := by decide +kernel
theorem dX6_copyFrom_8 : decode cX6_copyFrom 8 = .ok (.aload_n 1, 1) := by decide +kernel
theorem dX6_copyFrom_9 : decode cX6_copyFrom 9 = .ok (.getfield 9, 3) := by decide +kernel
theorem dX6_copyFrom_12 : decode cX6_copyFrom 12 = .ok (.iconst 0, 1) := by decide +kernel
theorem dX6_copyFrom_13 : decode cX6_copyFrom 13 = .ok (.aload_n 0, 1) := by decide +kernel
theorem dX6_copyFrom_14 : decode cX6_copyFrom 14 = .ok (.getfield 9, 3) := by decide +kernel
theorem dX6_copyFrom_17 : decode cX6_copyFrom 17 = .ok (.iconst 0, 1) := by decide +kernel
theorem dX6_copyFrom_18 : decode cX6_copyFrom 18 = .ok (.aload_n 0, 1) := by decide +kernel
theorem dX6_copyFrom_19 : decode cX6_copyFrom 19 = .ok (.getfield 19, 3) := by decide +kernel
theorem dX6_copyFrom_22 : decode cX6_copyFrom 22 = .ok (.invokestatic 23, 3) := by decide +kernel
theorem dX6_copyFrom_25 : decode cX6_copyFrom 25 = .ok (.aload_n 1, 1) := by decide +kernel
theorem dX6_copyFrom_26 : decode cX6_copyFrom 26 = .ok (.getfield 15, 3) := by decide +kernel
theorem dX6_copyFrom_29 : decode cX6_copyFrom 29 = .ok (.iconst 0, 1) := by decide +kernel
theorem dX6_copyFrom_30 : decode cX6_copyFrom 30 = .ok (.aload_n 0, 1) := by decide +kernel
theorem dX6_copyFrom_31 : decode cX6_copyFrom 31 = .ok (.getfield 15, 3) := by decide +kernel
theorem dX6_copyFrom_34 : decode cX6_copyFrom 34 = .ok (.iconst 0, 1) := by decide +kernel
theorem dX6_copyFrom_35 : decode cX6_copyFrom 35 = .ok (.aload_n 0, 1) := by decide +kernel
theorem dX6_copyFrom_36 : decode cX6_copyFrom 36 = .ok (.getfield 19, 3) := by decide +kernel
theorem dX6_copyFrom_39 : decode cX6_copyFrom 39 = .ok (.invokestatic 23, 3) := by decide +kernel
theorem dX6_copyFrom_42 : decode cX6_copyFrom 42 = .ok (.return_, 1) := by decide +kernel
def bX6_copyFrom_r8_0 (N d : Nat)   (w : Wd)  : Option (Wd) :=
  c_pi w 13 (sI w 14) fun w1 =>
  c_cp w1 43 41 100 100 (sI w1 13) fun w2 =>
  c_cq w2 44 42 100 100 (sI w2 13) fun w3 =>
  some w3
set_option maxHeartbeats 4000000 in
theorem kX6_copyFrom_r8_0 {V : Ev} {p : Program} {l : Launch} {e : Env} {N d : Nat} {s : State} {m : MethodId} {args : Array Value} {below : List Frame} {meth : Method} {c : Code} {z : Wd} (X : CX V p s m args meth c cX6_copyFrom 2 RX6 none)    {w : Wd}  {H : Heap} {locs : List Loc} {ls : Array Slot} (h : bX6_copyFrom_r8_0 N d   w  = some z) (hH : wH V (cC V) (AC V) s w H locs) (hl : lv_has ls 2 [(0, .ref (V.2.2 7)), (1, .ref (V.2.2 8))]) : W p l e (rmD (d + 1)) s m args below meth c H locs 0 0 (MQ below (CtV V (cC V) (AC V) z) args s 0 0 (AC V)) (F0 m 0 ls []) := by
  unfold bX6_copyFrom_r8_0 at h
  obtain ⟨hx, hb, hml, hown, hg, hrt, hlk, hK⟩ := id X
  refine lv_aload_n (pc := 0) hx hb dX6_copyFrom_0 rfl (lv_at hl 0 rfl) ?_
  refine lv_aload_n (pc := 1) hx hb dX6_copyFrom_1 rfl (lv_at hl 1 rfl) ?_
  refine gC_X6_19_8 (pc := 2) X hH dX6_copyFrom_2 ?_
  refine pC_X6_19_7 (pc := 5) X hH h dX6_copyFrom_5 (fun w1 H locs h hH => ?_)
  refine lv_aload_n (pc := 8) hx hb dX6_copyFrom_8 rfl (lv_at hl 1 rfl) ?_
  refine gC_X6_9_8 (pc := 9) X hH dX6_copyFrom_9 ?_
  refine lv_iconst (pc := 12) (v := 0) hx hb dX6_copyFrom_12 (by decide) ?_
  refine lv_aload_n (pc := 13) hx hb dX6_copyFrom_13 rfl (lv_at hl 0 rfl) ?_
  refine gC_X6_9_7 (pc := 14) X hH dX6_copyFrom_14 ?_
  refine lv_iconst (pc := 17) (v := 0) hx hb dX6_copyFrom_17 (by decide) ?_
  refine lv_aload_n (pc := 18) hx hb dX6_copyFrom_18 rfl (lv_at hl 0 rfl) ?_
  refine gC_X6_19_7 (pc := 19) X hH dX6_copyFrom_19 ?_
  refine r_cpi (pc := 22) X hl.1 (heC_39 V w1) (heC_37 V w1) (hsC_37 V w1) hH wM_554 wV_556 wS_555 wI_14 (Nat.le_of_ble_eq_true rfl) h dX6_copyFrom_22 (fun w2 H locs h hH => ?_)
  refine lv_aload_n (pc := 25) hx hb dX6_copyFrom_25 rfl (lv_at hl 1 rfl) ?_
  refine gC_X6_15_8 (pc := 26) X hH dX6_copyFrom_26 ?_
  refine lv_iconst (pc := 29) (v := 0) hx hb dX6_copyFrom_29 (by decide) ?_
  refine lv_aload_n (pc := 30) hx hb dX6_copyFrom_30 rfl (lv_at hl 0 rfl) ?_
  refine gC_X6_15_7 (pc := 31) X hH dX6_copyFrom_31 ?_
  refine lv_iconst (pc := 34) (v := 0) hx hb dX6_copyFrom_34 (by decide) ?_
  refine lv_aload_n (pc := 35) hx hb dX6_copyFrom_35 rfl (lv_at hl 0 rfl) ?_
  refine gC_X6_19_7 (pc := 36) X hH dX6_copyFrom_36 ?_
  refine r_cpl (pc := 39) X hl.1 (heC_40 V w2) (heC_38 V w2) (hsC_38 V w2) hH wM_554 wV_556 wS_555 wI_14 (Nat.le_of_ble_eq_true rfl) h dX6_copyFrom_39 (fun w3 H locs h hH => ?_)
  exact r_vret (pc := 42) X hH h dX6_copyFrom_42
def eX6_copyFrom_r8 (N : Nat) : Nat → Wd → Option (Wd)
  | 0 => fun _  => none
  | d + 1 => fun w  => bX6_copyFrom_r8_0 N d  w 
set_option maxHeartbeats 4000000 in
set_option maxRecDepth 20000 in
theorem mX6_copyFrom_r8 {l : Launch} {V : Ev} {N d : Nat} {w : Wd}  {z : Wd} (h : eX6_copyFrom_r8 N d w  = some z) : MetV l V (cC V) (AC V) yX6_copyFrom cX6_copyFrom 2 none d [.ref (V.2.2 7), .ref (V.2.2 8)] w z := by
  cases d with
  | zero => exact c_none h
  | succ d =>
    refine Met.ofW (cc := cX6_copyFrom) (maxL := 2) (ret := none) (by decide) rfl ?_
    intro p e s m args below meth c s₁ B hml hv
    obtain ⟨rfl, hP, hD, hK⟩ := hv
    have hts := atoms_spec (ws := .code yX6_copyFrom cX6_copyFrom 2 none :: gG) B.pre
    have X : CX V p s m ([.ref (V.2.2 7), .ref (V.2.2 8)] : List Value).toArray meth c cX6_copyFrom 2 RX6 none := ⟨B.exec, B.bytes, hml, findClass_of_methodNamed B.named, fun w hw => hts w (List.mem_cons_of_mem _ hw), B.returns, B.notSynchronized, hK⟩
    have hl := lv_entry ([.ref (V.2.2 7), .ref (V.2.2 8)] : List Value) (n := 2) (Nat.le_of_ble_eq_true rfl)
    rw [lg_entry_eq]
    generalize (lg_sl ([.ref (V.2.2 7), .ref (V.2.2 8)] : List Value) ++ List.replicate (2 - (lg_sl ([.ref (V.2.2 7), .ref (V.2.2 8)] : List Value)).length) Slot.unset).toArray = ls at hl ⊢
    have hl : lv_has ls 2 [(0, .ref (V.2.2 7)), (1, .ref (V.2.2 8))] := hl
    exact kX6_copyFrom_r8_0 (N := N) X  h ⟨hP, hD, va_S.rf⟩ hl
theorem dX10_keepSteps_0 : decode cX10_keepSteps 0 = .ok (.iload_n 1, 1) := by decide +kernel
theorem dX10_keepSteps_1 : decode cX10_keepSteps 1 = .ok (.bipush (-4), 2) := by decide +kernel
theorem dX10_keepSteps_3 : decode cX10_keepSteps 3 = .ok (.if_icmp .eq 17, 3) := by decide +kernel
theorem dX10_keepSteps_6 : decode cX10_keepSteps 6 = .ok (.aload_n 0, 1) := by decide +kernel
theorem dX10_keepSteps_7 : decode cX10_keepSteps 7 = .ok (.getfield 58, 3) := by decide +kernel
theorem dX10_keepSteps_10 : decode cX10_keepSteps 10 = .ok (.aload_n 0, 1) := by decide +kernel
theorem dX10_keepSteps_11 : decode cX10_keepSteps 11 = .ok (.getfield 28, 3) := by decide +kernel
theorem dX10_keepSteps_14 : decode cX10_keepSteps 14 = .ok (.getfield 226, 3) := by decide +kernel
theorem dX10_keepSteps_17 : decode cX10_keepSteps 17 = .ok (.invokevirtual 229, 3) := by decide +kernel
theorem dX10_keepSteps_20 : decode cX10_keepSteps 20 = .ok (.aload_n 0, 1) := by decide +kernel
theorem dX10_keepSteps_21 : decode cX10_keepSteps 21 = .ok (.iload_n 1, 1) := by decide +kernel
theorem dX10_keepSteps_22 : decode cX10_keepSteps 22 = .ok (.iload_n 2, 1) := by decide +kernel
theorem dX10_keepSteps_23 : decode cX10_keepSteps 23 = .ok (.invokevirtual 146, 3) := by decide +kernel
theorem dX10_keepSteps_26 : decode cX10_keepSteps 26 = .ok (.ireturn, 1) := by decide +kernel
def bX10_keepSteps_20 (N d : Nat)   (w : Wd) (x1 : Int32) (x2 : Int32) : Option (Wd × Int32) :=
  c_cl (eX10_undoIfFull N d w x1 x2) fun w1 v2 =>
  some (w1, v2)
set_option maxHeartbeats 4000000 in
theorem kX10_keepSteps_20 {V : Ev} {p : Program} {l : Launch} {e : Env} {N d : Nat} {s : State} {m : MethodId} {args : Array Value} {below : List Frame} {meth : Method} {c : Code} {z : Wd × Int32} (X : CX V p s m args meth c cX10_keepSteps 3 RX10 (some .int))    {w : Wd} {x1 : Int32} {x2 : Int32} {H : Heap} {locs : List Loc} {ls : Array Slot} (h : bX10_keepSteps_20 N d   w x1 x2 = some z) (hH : wH V (cC V) (AC V) s w H locs) (hl : lv_has ls 3 [(0, .ref (V.2.2 0)), (1, .int x1), (2, .int x2)]) : W p l e (rmD (d + 1)) s m args below meth c H locs 0 0 (MQ below (CtI V (cC V) (AC V) z) args s 0 0 (AC V)) (F0 m 20 ls []) := by
  unfold bX10_keepSteps_20 at h
  obtain ⟨hx, hb, hml, hown, hg, hrt, hlk, hK⟩ := id X
  refine lv_aload_n (pc := 20) hx hb dX10_keepSteps_20 rfl (lv_at hl 0 rfl) ?_
  refine lv_iload_n (pc := 21) hx hb dX10_keepSteps_21 rfl (lv_at hl 1 rfl) ?_
  refine lv_iload_n (pc := 22) hx hb dX10_keepSteps_22 rfl (lv_at hl 2 rfl) ?_
  refine r_cvI (pc := 23) (As := [.int x1, .int x2]) (rest := []) X hH (fun x hx => mX10_undoIfFull hx) cw_X10_146 (heC_0 V w) rfl rfl rfl (Nat.le_of_ble_eq_true rfl) hl.1 h dX10_keepSteps_23 (fun w1 v2 H locs h hH => ?_)
  exact r_iret (pc := 26) X hH h dX10_keepSteps_26
def bX10_keepSteps_0 (N d : Nat)   (w : Wd) (x1 : Int32) (x2 : Int32) : Option (Wd × Int32) :=
  if x1 = (-4) then (
    bX10_keepSteps_20 N d   w x1 x2
  ) else (
    c_cv (eX6_copyFrom_r8 N d w ) fun w3 =>
    bX10_keepSteps_20 N d   w3 x1 x2
  )
set_option maxHeartbeats 4000000 in
theorem kX10_keepSteps_0 {V : Ev} {p : Program} {l : Launch} {e : Env} {N d : Nat} {s : State} {m : MethodId} {args : Array Value} {below : List Frame} {meth : Method} {c : Code} {z : Wd × Int32} (X : CX V p s m args meth c cX10_keepSteps 3 RX10 (some .int))    {w : Wd} {x1 : Int32} {x2 : Int32} {H : Heap} {locs : List Loc} {ls : Array Slot} (h : bX10_keepSteps_0 N d   w x1 x2 = some z) (hH : wH V (cC V) (AC V) s w H locs) (hl : lv_has ls 3 [(0, .ref (V.2.2 0)), (1, .int x1), (2, .int x2)]) : W p l e (rmD (d + 1)) s m args below meth c H locs 0 0 (MQ below (CtI V (cC V) (AC V) z) args s 0 0 (AC V)) (F0 m 0 ls []) := by
  unfold bX10_keepSteps_0 at h
  obtain ⟨hx, hb, hml, hown, hg, hrt, hlk, hK⟩ := id X
  refine lv_iload_n (pc := 0) hx hb dX10_keepSteps_0 rfl (lv_at hl 1 rfl) ?_
  refine lv_bipush (pc := 1) (v := -4) hx hb dX10_keepSteps_1 (by decide) ?_
  refine b_icmp_eq (pc := 3) (tgt := 20) hx hb h dX10_keepSteps_3 (by decide) (fun h => ?_) (fun h => ?_)
  · exact kX10_keepSteps_20 X   h hH (lv_sub hl [0, 1, 2] rfl)
  · refine lv_aload_n (pc := 6) hx hb dX10_keepSteps_6 rfl (lv_at hl 0 rfl) ?_
    refine gC_X10_58_0 (pc := 7) X hH dX10_keepSteps_7 ?_
    refine lv_aload_n (pc := 10) hx hb dX10_keepSteps_10 rfl (lv_at hl 0 rfl) ?_
    refine gC_X10_28_0 (pc := 11) X hH dX10_keepSteps_11 ?_
    refine gC_X10_226_3 (pc := 14) X hH dX10_keepSteps_14 ?_
    refine r_cvV (pc := 17) (As := [.ref (V.2.2 8)]) (rest := []) X hH (fun x hx => mX6_copyFrom_r8 hx) cw_X10_229 (heC_7 V w) rfl rfl rfl (Nat.le_of_ble_eq_true rfl) hl.1 h dX10_keepSteps_17 (fun w3 H locs h hH => ?_)
    exact kX10_keepSteps_20 X   h hH (lv_sub hl [0, 1, 2] rfl)
def eX10_keepSteps (N : Nat) : Nat → Wd → Int32 → Int32 → Option (Wd × Int32)
  | 0 => fun _ _ _ => none
  | d + 1 => fun w x1 x2 => bX10_keepSteps_0 N d  w x1 x2
set_option maxHeartbeats 4000000 in
set_option maxRecDepth 20000 in
theorem mX10_keepSteps {l : Launch} {V : Ev} {N d : Nat} {w : Wd} {x1 : Int32} {x2 : Int32} {z : Wd × Int32} (h : eX10_keepSteps N d w x1 x2 = some z) : MetI l V (cC V) (AC V) yX10_keepSteps cX10_keepSteps 3 (some .int) d [.ref (V.2.2 0), .int x1, .int x2] w z := by
  cases d with
  | zero => exact c_none h
  | succ d =>
    refine Met.ofW (cc := cX10_keepSteps) (maxL := 3) (ret := (some .int)) (by decide) rfl ?_
    intro p e s m args below meth c s₁ B hml hv
    obtain ⟨rfl, hP, hD, hK⟩ := hv
    have hts := atoms_spec (ws := .code yX10_keepSteps cX10_keepSteps 3 (some .int) :: gG) B.pre
    have X : CX V p s m ([.ref (V.2.2 0), .int x1, .int x2] : List Value).toArray meth c cX10_keepSteps 3 RX10 (some .int) := ⟨B.exec, B.bytes, hml, findClass_of_methodNamed B.named, fun w hw => hts w (List.mem_cons_of_mem _ hw), B.returns, B.notSynchronized, hK⟩
    have hl := lv_entry ([.ref (V.2.2 0), .int x1, .int x2] : List Value) (n := 3) (Nat.le_of_ble_eq_true rfl)
    rw [lg_entry_eq]
    generalize (lg_sl ([.ref (V.2.2 0), .int x1, .int x2] : List Value) ++ List.replicate (3 - (lg_sl ([.ref (V.2.2 0), .int x1, .int x2] : List Value)).length) Slot.unset).toArray = ls at hl ⊢
    have hl : lv_has ls 3 [(0, .ref (V.2.2 0)), (1, .int x1), (2, .int x2)] := hl
    exact kX10_keepSteps_0 (N := N) X  h ⟨hP, hD, va_S.rf⟩ hl
theorem dX10_step_0 : decode cX10_step 0 = .ok (.aload_n 0, 1) := by decide +kernel
theorem dX10_step_1 : decode cX10_step 1 = .ok (.iload_n 1, 1) := by decide +kernel
theorem dX10_step_2 : decode cX10_step 2 = .ok (.invokevirtual 82, 3) := by decide +kernel
theorem dX10_step_5 : decode cX10_step 5 = .ok (.ifCond .eq 11, 3) := by decide +kernel
theorem dX10_step_8 : decode cX10_step 8 = .ok (.iload_n 2, 1) := by decide +kernel
theorem dX10_step_9 : decode cX10_step 9 = .ok (.iconst 2, 1) := by decide +kernel
theorem dX10_step_10 : decode cX10_step 10 = .ok (.invokestatic 66, 3) := by decide +kernel
theorem dX10_step_13 : decode cX10_step 13 = .ok (.ifCond .ne 6, 3) := by decide +kernel
theorem dX10_step_16 : decode cX10_step 16 = .ok (.bipush (-2), 2) := by decide +kernel
theorem dX10_step_18 : decode cX10_step 18 = .ok (.ireturn, 1) := by decide +kernel
theorem dX10_step_19 : decode cX10_step 19 = .ok (.aload_n 0, 1) := by decide +kernel
theorem dX10_step_20 : decode cX10_step 20 = .ok (.getfield 15, 3) := by decide +kernel
theorem dX10_step_23 : decode cX10_step 23 = .ok (.getfield 99, 3) := by decide +kernel
theorem dX10_step_26 : decode cX10_step 26 = .ok (.istore_n 3, 1) := by decide +kernel
theorem dX10_step_27 : decode cX10_step 27 = .ok (.aload_n 0, 1) := by decide +kernel
theorem dX10_step_28 : decode cX10_step 28 = .ok (.getfield 28, 3) := by decide +kernel
theorem dX10_step_31 : decode cX10_step 31 = .ok (.iconst (-1), 1) := by decide +kernel
theorem dX10_step_32 : decode cX10_step 32 = .ok (.invokevirtual 102, 3) := by decide +kernel
theorem dX10_step_35 : decode cX10_step 35 = .ok (.aload_n 0, 1) := by decide +kernel
theorem dX10_step_36 : decode cX10_step 36 = .ok (.aload_n 0, 1) := by decide +kernel
theorem dX10_step_37 : decode cX10_step 37 = .ok (.getfield 28, 3) := by decide +kernel
theorem dX10_step_40 : decode cX10_step 40 = .ok (.iload_n 1, 1) := by decide +kernel
theorem dX10_step_41 : decode cX10_step 41 = .ok (.iload_n 2, 1) := by decide +kernel
theorem dX10_step_42 : decode cX10_step 42 = .ok (.invokevirtual 106, 3) := by decide +kernel
theorem dX10_step_45 : decode cX10_step 45 = .ok (.iload_n 3, 1) := by decide +kernel
theorem dX10_step_46 : decode cX10_step 46 = .ok (.invokevirtual 109, 3) := by decide +kernel
theorem dX10_step_49 : decode cX10_step 49 = .ok (.ireturn, 1) := by decide +kernel
def bX10_step_16 (N d : Nat)   (w : Wd)  : Option (Wd × Int32) :=
  some (w, -2)
set_option maxHeartbeats 4000000 in
theorem kX10_step_16 {V : Ev} {p : Program} {l : Launch} {e : Env} {N d : Nat} {s : State} {m : MethodId} {args : Array Value} {below : List Frame} {meth : Method} {c : Code} {z : Wd × Int32} (X : CX V p s m args meth c cX10_step 4 RX10 (some .int))    {w : Wd}  {H : Heap} {locs : List Loc} {ls : Array Slot} (h : bX10_step_16 N d   w  = some z) (hH : wH V (cC V) (AC V) s w H locs) (hl : lv_has ls 4 []) : W p l e (rmD (d + 1)) s m args below meth c H locs 0 0 (MQ below (CtI V (cC V) (AC V) z) args s 0 0 (AC V)) (F0 m 16 ls []) := by
  unfold bX10_step_16 at h
  obtain ⟨hx, hb, hml, hown, hg, hrt, hlk, hK⟩ := id X
  refine lv_bipush (pc := 16) (v := -2) hx hb dX10_step_16 (by decide) ?_
  exact r_iret (pc := 18) X hH h dX10_step_18
def bX10_step_0 (N d : Nat)   (w : Wd) (x1 : Int32) (x2 : Int32) : Option (Wd × Int32) :=
  c_cl (eX10_isTerm N d w x1) fun w1 v2 =>
  if v2 = 0 then (
    bX10_step_16 N d   w1 
  ) else (
    c_cl (eX10_isWithin N d w1 x2 2) fun w3 v4 =>
    if v4 = 0 then (
      bX10_step_16 N d   w3 
    ) else (
      c_nm (sI w3 1) fun x3_5 =>
      c_cv (eX3_begin N d w3 (-1)) fun w6 =>
      c_cl (eX3_rewriteOnce N d w6 x1 x2) fun w7 v8 =>
      c_cl (eX10_keepSteps N d w7 v8 x3_5) fun w9 v10 =>
      some (w9, v10)
    )
  )
set_option maxHeartbeats 4000000 in
theorem kX10_step_0 {V : Ev} {p : Program} {l : Launch} {e : Env} {N d : Nat} {s : State} {m : MethodId} {args : Array Value} {below : List Frame} {meth : Method} {c : Code} {z : Wd × Int32} (X : CX V p s m args meth c cX10_step 4 RX10 (some .int))    {w : Wd} {x1 : Int32} {x2 : Int32} {H : Heap} {locs : List Loc} {ls : Array Slot} (h : bX10_step_0 N d   w x1 x2 = some z) (hH : wH V (cC V) (AC V) s w H locs) (hl : lv_has ls 4 [(0, .ref (V.2.2 0)), (1, .int x1), (2, .int x2)]) : W p l e (rmD (d + 1)) s m args below meth c H locs 0 0 (MQ below (CtI V (cC V) (AC V) z) args s 0 0 (AC V)) (F0 m 0 ls []) := by
  unfold bX10_step_0 at h
  obtain ⟨hx, hb, hml, hown, hg, hrt, hlk, hK⟩ := id X
  refine lv_aload_n (pc := 0) hx hb dX10_step_0 rfl (lv_at hl 0 rfl) ?_
  refine lv_iload_n (pc := 1) hx hb dX10_step_1 rfl (lv_at hl 1 rfl) ?_
  refine r_cvI (pc := 2) (As := [.int x1]) (rest := []) X hH (fun x hx => mX10_isTerm hx) cw_X10_82 (heC_0 V w) rfl rfl rfl (Nat.le_of_ble_eq_true rfl) hl.1 h dX10_step_2 (fun w1 v2 H locs h hH => ?_)
  refine b_if_eq (pc := 5) (tgt := 16) hx hb h dX10_step_5 (by decide) (fun h => ?_) (fun h => ?_)
  · exact kX10_step_16 X   h hH (lv_sub hl [] rfl)
  · refine lv_iload_n (pc := 8) hx hb dX10_step_8 rfl (lv_at hl 2 rfl) ?_
    refine lv_iconst (pc := 9) (v := 2) hx hb dX10_step_9 (by decide) ?_
    refine r_csI (pc := 10) (As := [.int x2, .int 2]) (rest := []) X hH (fun x hx => mX10_isWithin hx) cs_X10_66 rfl rfl (Nat.le_of_ble_eq_true rfl) hl.1 h dX10_step_10 (fun w3 v4 H locs h hH => ?_)
    refine b_if_ne (pc := 13) (tgt := 19) hx hb h dX10_step_13 (by decide) (fun h => ?_) (fun h => ?_)
    · refine lv_aload_n (pc := 19) hx hb dX10_step_19 rfl (lv_at hl 0 rfl) ?_
      refine gC_X10_15_0 (pc := 20) X hH dX10_step_20 ?_
      refine gC_X10_99_1 (pc := 23) X hH dX10_step_23 ?_
      refine r_nmi h (fun x3_5 h => ?_)
      refine lv_istore_n (pc := 26) (lv' := [(3, .int x3_5), (0, .ref (V.2.2 0)), (1, .int x1), (2, .int x2)]) hx hb dX10_step_26 rfl hl (by decide) rfl (fun ls hl => ?_)
      refine lv_aload_n (pc := 27) hx hb dX10_step_27 rfl (lv_at hl 1 rfl) ?_
      refine gC_X10_28_0 (pc := 28) X hH dX10_step_28 ?_
      refine lv_iconst (pc := 31) (v := -1) hx hb dX10_step_31 (by decide) ?_
      refine r_cvV (pc := 32) (As := [.int (-1)]) (rest := []) X hH (fun x hx => mX3_begin hx) cw_X10_102 (heC_3 V w3) rfl rfl rfl (Nat.le_of_ble_eq_true rfl) hl.1 h dX10_step_32 (fun w6 H locs h hH => ?_)
      refine lv_aload_n (pc := 35) hx hb dX10_step_35 rfl (lv_at hl 1 rfl) ?_
      refine lv_aload_n (pc := 36) hx hb dX10_step_36 rfl (lv_at hl 1 rfl) ?_
      refine gC_X10_28_0 (pc := 37) X hH dX10_step_37 ?_
      refine lv_iload_n (pc := 40) hx hb dX10_step_40 rfl (lv_at hl 2 rfl) ?_
      refine lv_iload_n (pc := 41) hx hb dX10_step_41 rfl (lv_at hl 3 rfl) ?_
      refine r_cvI (pc := 42) (As := [.int x1, .int x2]) (rest := [.ref (V.2.2 0)]) X hH (fun x hx => mX3_rewriteOnce hx) cw_X10_106 (heC_3 V w6) rfl rfl rfl (Nat.le_of_ble_eq_true rfl) hl.1 h dX10_step_42 (fun w7 v8 H locs h hH => ?_)
      refine lv_iload_n (pc := 45) hx hb dX10_step_45 rfl (lv_at hl 0 rfl) ?_
      refine r_cvI (pc := 46) (As := [.int v8, .int x3_5]) (rest := []) X hH (fun x hx => mX10_keepSteps hx) cw_X10_109 (heC_0 V w7) rfl rfl rfl (Nat.le_of_ble_eq_true rfl) hl.1 h dX10_step_46 (fun w9 v10 H locs h hH => ?_)
      exact r_iret (pc := 49) X hH h dX10_step_49
    · exact kX10_step_16 X   h hH (lv_sub hl [] rfl)
def eX10_step (N : Nat) : Nat → Wd → Int32 → Int32 → Option (Wd × Int32)
  | 0 => fun _ _ _ => none
  | d + 1 => fun w x1 x2 => bX10_step_0 N d  w x1 x2
set_option maxHeartbeats 4000000 in
set_option maxRecDepth 20000 in
theorem mX10_step {l : Launch} {V : Ev} {N d : Nat} {w : Wd} {x1 : Int32} {x2 : Int32} {z : Wd × Int32} (h : eX10_step N d w x1 x2 = some z) : MetI l V (cC V) (AC V) yX10_step cX10_step 4 (some .int) d [.ref (V.2.2 0), .int x1, .int x2] w z := by
  cases d with
  | zero => exact c_none h
  | succ d =>
    refine Met.ofW (cc := cX10_step) (maxL := 4) (ret := (some .int)) (by decide) rfl ?_
    intro p e s m args below meth c s₁ B hml hv
    obtain ⟨rfl, hP, hD, hK⟩ := hv
    have hts := atoms_spec (ws := .code yX10_step cX10_step 4 (some .int) :: gG) B.pre
    have X : CX V p s m ([.ref (V.2.2 0), .int x1, .int x2] : List Value).toArray meth c cX10_step 4 RX10 (some .int) := ⟨B.exec, B.bytes, hml, findClass_of_methodNamed B.named, fun w hw => hts w (List.mem_cons_of_mem _ hw), B.returns, B.notSynchronized, hK⟩
    have hl := lv_entry ([.ref (V.2.2 0), .int x1, .int x2] : List Value) (n := 4) (Nat.le_of_ble_eq_true rfl)
    rw [lg_entry_eq]
    generalize (lg_sl ([.ref (V.2.2 0), .int x1, .int x2] : List Value) ++ List.replicate (4 - (lg_sl ([.ref (V.2.2 0), .int x1, .int x2] : List Value)).length) Slot.unset).toArray = ls at hl ⊢
    have hl : lv_has ls 4 [(0, .ref (V.2.2 0)), (1, .int x1), (2, .int x2)] := hl
    exact kX10_step_0 (N := N) X  h ⟨hP, hD, va_S.rf⟩ hl
theorem dX3_reduce_0 : decode cX3_reduce 0 = .ok (.aload_n 0, 1) := by decide +kernel
theorem dX3_reduce_1 : decode cX3_reduce 1 = .ok (.getfield 12, 3) := by decide +kernel
theorem dX3_reduce_4 : decode cX3_reduce 4 = .ok (.iconst 0, 1) := by decide +kernel
theorem dX3_reduce_5 : decode cX3_reduce 5 = .ok (.putfield 43, 3) := by decide +kernel
theorem dX3_reduce_8 : decode cX3_reduce 8 = .ok (.iload_n 1, 1) := by decide +kernel
theorem dX3_reduce_9 : decode cX3_reduce 9 = .ok (.istore_n 3, 1) := by decide +kernel
theorem dX3_reduce_10 : decode cX3_reduce 10 = .ok (.iconst 0, 1) := by decide +kernel
theorem dX3_reduce_11 : decode cX3_reduce 11 = .ok (.istore 4, 2) := by decide +kernel
theorem dX3_reduce_13 : decode cX3_reduce 13 = .ok (.iload 4, 2) := by decide +kernel
theorem dX3_reduce_15 : decode cX3_reduce 15 = .ok (.bipush 100, 2) := by decide +kernel
theorem dX3_reduce_17 : decode cX3_reduce 17 = .ok (.if_icmp .ge 41, 3) := by decide +kernel
theorem dX3_reduce_20 : decode cX3_reduce 20 = .ok (.aload_n 0, 1) := by decide +kernel
theorem dX3_reduce_21 : decode cX3_reduce 21 = .ok (.iload_n 3, 1) := by decide +kernel
theorem dX3_reduce_22 : decode cX3_reduce 22 = .ok (.iload_n 2, 1) := by decide +kernel
theorem dX3_reduce_23 : decode cX3_reduce 23 = .ok (.invokevirtual 46, 3) := by decide +kernel
theorem dX3_reduce_26 : decode cX3_reduce 26 = .ok (.istore 5, 2) := by decide +kernel
theorem dX3_reduce_28 : decode cX3_reduce 28 = .ok (.iload 5, 2) := by decide +kernel
theorem dX3_reduce_30 : decode cX3_reduce 30 = .ok (.iconst (-1), 1) := by decide +kernel
theorem dX3_reduce_31 : decode cX3_reduce 31 = .ok (.if_icmp .ne 5, 3) := by decide +kernel
theorem dX3_reduce_34 : decode cX3_reduce 34 = .ok (.iload_n 3, 1) := by decide +kernel
theorem dX3_reduce_35 : decode cX3_reduce 35 = .ok (.ireturn, 1) := by decide +kernel
theorem dX3_reduce_36 : decode cX3_reduce 36 = .ok (.aload_n 0, 1) := by decide +kernel
theorem dX3_reduce_37 : decode cX3_reduce 37 = .ok (.iload 5, 2) := by decide +kernel
theorem dX3_reduce_39 : decode cX3_reduce 39 = .ok (.invokevirtual 50, 3) := by decide +kernel
theorem dX3_reduce_42 : decode cX3_reduce 42 = .ok (.istore_n 3, 1) := by decide +kernel
theorem dX3_reduce_43 : decode cX3_reduce 43 = .ok (.iload_n 3, 1) := by decide +kernel
theorem dX3_reduce_44 : decode cX3_reduce 44 = .ok (.bipush (-4), 2) := by decide +kernel
theorem dX3_reduce_46 : decode cX3_reduce 46 = .ok (.if_icmp .ne 6, 3) := by decide +kernel
theorem dX3_reduce_49 : decode cX3_reduce 49 = .ok (.bipush (-4), 2) := by decide +kernel
theorem dX3_reduce_51 : decode cX3_reduce 51 = .ok (.ireturn, 1) := by decide +kernel
theorem dX3_reduce_52 : decode cX3_reduce 52 = .ok (.iinc 4 1, 3) := by decide +kernel
theorem dX3_reduce_55 : decode cX3_reduce 55 = .ok (.goto (-42), 3) := by decide +kernel
theorem dX3_reduce_58 : decode cX3_reduce 58 = .ok (.aload_n 0, 1) := by decide +kernel
theorem dX3_reduce_59 : decode cX3_reduce 59 = .ok (.iload_n 3, 1) := by decide +kernel
theorem dX3_reduce_60 : decode cX3_reduce 60 = .ok (.iload_n 2, 1) := by decide +kernel
theorem dX3_reduce_61 : decode cX3_reduce 61 = .ok (.invokevirtual 46, 3) := by decide +kernel
theorem dX3_reduce_64 : decode cX3_reduce 64 = .ok (.iconst (-1), 1) := by decide +kernel
theorem dX3_reduce_65 : decode cX3_reduce 65 = .ok (.if_icmp .ne 7, 3) := by decide +kernel
theorem dX3_reduce_68 : decode cX3_reduce 68 = .ok (.iload_n 3, 1) := by decide +kernel
theorem dX3_reduce_69 : decode cX3_reduce 69 = .ok (.goto 5, 3) := by decide +kernel
theorem dX3_reduce_72 : decode cX3_reduce 72 = .ok (.bipush (-5), 2) := by decide +kernel
theorem dX3_reduce_74 : decode cX3_reduce 74 = .ok (.ireturn, 1) := by decide +kernel
def bX3_reduce_74 (N d : Nat)   (w : Wd) (y0 : Int32) : Option (Wd × Int32) :=
  some (w, y0)
set_option maxHeartbeats 4000000 in
theorem kX3_reduce_74 {V : Ev} {p : Program} {l : Launch} {e : Env} {N d : Nat} {s : State} {m : MethodId} {args : Array Value} {below : List Frame} {meth : Method} {c : Code} {z : Wd × Int32} (X : CX V p s m args meth c cX3_reduce 6 RX3 (some .int))    {w : Wd} {y0 : Int32} {H : Heap} {locs : List Loc} {ls : Array Slot} (h : bX3_reduce_74 N d   w y0 = some z) (hH : wH V (cC V) (AC V) s w H locs) (hl : lv_has ls 6 []) : W p l e (rmD (d + 1)) s m args below meth c H locs 0 0 (MQ below (CtI V (cC V) (AC V) z) args s 0 0 (AC V)) (F0 m 74 ls [.int y0]) := by
  unfold bX3_reduce_74 at h
  obtain ⟨hx, hb, hml, hown, hg, hrt, hlk, hK⟩ := id X
  exact r_iret (pc := 74) X hH h dX3_reduce_74
def bX3_reduce_13 (N d : Nat)  (rec13 : Wd → Int32 → Int32 → Int32 → Option (Wd × Int32)) (w : Wd) (x2 : Int32) (x3 : Int32) (x4 : Int32) : Option (Wd × Int32) :=
  if 100 ≤ x4 then (
    c_cl (eX3_search N d w x3 x2) fun w2 v3 =>
    if v3 = (-1) then (
      bX3_reduce_74 N d   w2 x3
    ) else (
      bX3_reduce_74 N d   w2 (-5)
    )
  ) else (
    c_cl (eX3_search N d w x3 x2) fun w4 v5 =>
    if v5 = (-1) then (
      some (w4, x3)
    ) else (
      c_cl (eX3_replace N d w4 v5) fun w6 v7 =>
      if v7 = (-4) then (
        some (w6, -4)
      ) else (
        c_nm (x4 + 1) fun x4_8 =>
        rec13 w6 x2 v7 x4_8
      )
    )
  )
set_option maxHeartbeats 4000000 in
theorem kX3_reduce_13 {V : Ev} {p : Program} {l : Launch} {e : Env} {N d : Nat} {s : State} {m : MethodId} {args : Array Value} {below : List Frame} {meth : Method} {c : Code} {z : Wd × Int32} (X : CX V p s m args meth c cX3_reduce 6 RX3 (some .int))   {rec13 : Wd → Int32 → Int32 → Int32 → Option (Wd × Int32)} (hr13 : ∀ (w : Wd) (x2 : Int32) (x3 : Int32) (x4 : Int32) (H : Heap) (locs : List Loc) (ls : Array Slot), rec13 w x2 x3 x4 = some z → wH V (cC V) (AC V) s w H locs → lv_has ls 6 [(0, .ref (V.2.2 3)), (2, .int x2), (3, .int x3), (4, .int x4)] → W p l e (rmD (d + 1)) s m args below meth c H locs 0 0 (MQ below (CtI V (cC V) (AC V) z) args s 0 0 (AC V)) (F0 m 13 ls [])) {w : Wd} {x2 : Int32} {x3 : Int32} {x4 : Int32} {H : Heap} {locs : List Loc} {ls : Array Slot} (h : bX3_reduce_13 N d  rec13 w x2 x3 x4 = some z) (hH : wH V (cC V) (AC V) s w H locs) (hl : lv_has ls 6 [(0, .ref (V.2.2 3)), (2, .int x2), (3, .int x3), (4, .int x4)]) : W p l e (rmD (d + 1)) s m args below meth c H locs 0 0 (MQ below (CtI V (cC V) (AC V) z) args s 0 0 (AC V)) (F0 m 13 ls []) := by
  unfold bX3_reduce_13 at h
  obtain ⟨hx, hb, hml, hown, hg, hrt, hlk, hK⟩ := id X
  refine lv_iload (pc := 13) hx hb dX3_reduce_13 (lv_at hl 3 rfl) ?_
  refine lv_bipush (pc := 15) (v := 100) hx hb dX3_reduce_15 (by decide) ?_
  refine b_icmp_ge (pc := 17) (tgt := 58) hx hb h dX3_reduce_17 (by decide) (fun h => ?_) (fun h => ?_)
  · refine lv_aload_n (pc := 58) hx hb dX3_reduce_58 rfl (lv_at hl 0 rfl) ?_
    refine lv_iload_n (pc := 59) hx hb dX3_reduce_59 rfl (lv_at hl 2 rfl) ?_
    refine lv_iload_n (pc := 60) hx hb dX3_reduce_60 rfl (lv_at hl 1 rfl) ?_
    refine r_cvI (pc := 61) (As := [.int x3, .int x2]) (rest := []) X hH (fun x hx => mX3_search hx) cw_X3_46 (heC_3 V w) rfl rfl rfl (Nat.le_of_ble_eq_true rfl) hl.1 h dX3_reduce_61 (fun w2 v3 H locs h hH => ?_)
    refine lv_iconst (pc := 64) (v := -1) hx hb dX3_reduce_64 (by decide) ?_
    refine b_icmp_ne (pc := 65) (tgt := 72) hx hb h dX3_reduce_65 (by decide) (fun h => ?_) (fun h => ?_)
    · refine lv_bipush (pc := 72) (v := -5) hx hb dX3_reduce_72 (by decide) ?_
      exact kX3_reduce_74 X   h hH (lv_sub hl [] rfl)
    · refine lv_iload_n (pc := 68) hx hb dX3_reduce_68 rfl (lv_at hl 2 rfl) ?_
      refine lv_goto (pc := 69) (tgt := 74) hx hb dX3_reduce_69 (by decide) ?_
      exact kX3_reduce_74 X   h hH (lv_sub hl [] rfl)
  · refine lv_aload_n (pc := 20) hx hb dX3_reduce_20 rfl (lv_at hl 0 rfl) ?_
    refine lv_iload_n (pc := 21) hx hb dX3_reduce_21 rfl (lv_at hl 2 rfl) ?_
    refine lv_iload_n (pc := 22) hx hb dX3_reduce_22 rfl (lv_at hl 1 rfl) ?_
    refine r_cvI (pc := 23) (As := [.int x3, .int x2]) (rest := []) X hH (fun x hx => mX3_search hx) cw_X3_46 (heC_3 V w) rfl rfl rfl (Nat.le_of_ble_eq_true rfl) hl.1 h dX3_reduce_23 (fun w4 v5 H locs h hH => ?_)
    refine lv_istore (pc := 26) (lv' := [(5, .int v5), (0, .ref (V.2.2 3)), (2, .int x2), (3, .int x3), (4, .int x4)]) hx hb dX3_reduce_26 hl (by decide) rfl (fun ls hl => ?_)
    refine lv_iload (pc := 28) hx hb dX3_reduce_28 (lv_at hl 0 rfl) ?_
    refine lv_iconst (pc := 30) (v := -1) hx hb dX3_reduce_30 (by decide) ?_
    refine b_icmp_ne (pc := 31) (tgt := 36) hx hb h dX3_reduce_31 (by decide) (fun h => ?_) (fun h => ?_)
    · refine lv_aload_n (pc := 36) hx hb dX3_reduce_36 rfl (lv_at hl 1 rfl) ?_
      refine lv_iload (pc := 37) hx hb dX3_reduce_37 (lv_at hl 0 rfl) ?_
      refine r_cvI (pc := 39) (As := [.int v5]) (rest := []) X hH (fun x hx => mX3_replace hx) cw_X3_50 (heC_3 V w4) rfl rfl rfl (Nat.le_of_ble_eq_true rfl) hl.1 h dX3_reduce_39 (fun w6 v7 H locs h hH => ?_)
      refine lv_istore_n (pc := 42) (lv' := [(3, .int v7), (5, .int v5), (0, .ref (V.2.2 3)), (2, .int x2), (4, .int x4)]) hx hb dX3_reduce_42 rfl hl (by decide) rfl (fun ls hl => ?_)
      refine lv_iload_n (pc := 43) hx hb dX3_reduce_43 rfl (lv_at hl 0 rfl) ?_
      refine lv_bipush (pc := 44) (v := -4) hx hb dX3_reduce_44 (by decide) ?_
      refine b_icmp_ne (pc := 46) (tgt := 52) hx hb h dX3_reduce_46 (by decide) (fun h => ?_) (fun h => ?_)
      · obtain ⟨x4_8, ex4_8, h⟩ := c_nm_ex h
        refine lv_iinc (pc := 52) (v := x4_8) (lv' := [(4, .int x4_8), (3, .int v7), (5, .int v5), (0, .ref (V.2.2 3)), (2, .int x2)]) hx hb dX3_reduce_52 hl (k := 4) rfl (by rw [← ex4_8]; rfl) (by decide) rfl (fun ls hl => ?_)
        refine lv_goto (pc := 55) (tgt := 13) hx hb dX3_reduce_55 (by decide) ?_
        exact hr13 _ _ _ _ _ _ _ h hH (lv_sub hl [3, 4, 1, 0] rfl)
      · refine lv_bipush (pc := 49) (v := -4) hx hb dX3_reduce_49 (by decide) ?_
        exact r_iret (pc := 51) X hH h dX3_reduce_51
    · refine lv_iload_n (pc := 34) hx hb dX3_reduce_34 rfl (lv_at hl 3 rfl) ?_
      exact r_iret (pc := 35) X hH h dX3_reduce_35
def fX3_reduce_13 (N d : Nat)   : Nat → Wd → Int32 → Int32 → Int32 → Option (Wd × Int32)
  | 0 => fun _ _ _ _ => none
  | n + 1 => fun w x2 x3 x4 => bX3_reduce_13 N d   (fX3_reduce_13 N d   n) w x2 x3 x4
theorem lX3_reduce_13 {V : Ev} {p : Program} {l : Launch} {e : Env} {N d : Nat} {s : State} {m : MethodId} {args : Array Value} {below : List Frame} {meth : Method} {c : Code} {z : Wd × Int32} (X : CX V p s m args meth c cX3_reduce 6 RX3 (some .int))    (n : Nat) {w : Wd} {x2 : Int32} {x3 : Int32} {x4 : Int32} {H : Heap} {locs : List Loc} {ls : Array Slot} (h : fX3_reduce_13 N d   n w x2 x3 x4 = some z) (hH : wH V (cC V) (AC V) s w H locs) (hl : lv_has ls 6 [(0, .ref (V.2.2 3)), (2, .int x2), (3, .int x3), (4, .int x4)]) : W p l e (rmD (d + 1)) s m args below meth c H locs 0 0 (MQ below (CtI V (cC V) (AC V) z) args s 0 0 (AC V)) (F0 m 13 ls []) := by
  induction n generalizing w x2 x3 x4 H locs ls with
  | zero => exact c_none h
  | succ n ih => exact kX3_reduce_13 (N := N) X  (fun _ _ _ _ _ _ _ h hH hl => ih h hH hl) h hH hl
def bX3_reduce_0 (N d : Nat)   (w : Wd) (x1 : Int32) (x2 : Int32) : Option (Wd × Int32) :=
  c_pi w 14 0 fun w1 =>
  fX3_reduce_13 N d   N w1 x2 x1 ((0 : Int32))
set_option maxHeartbeats 4000000 in
theorem kX3_reduce_0 {V : Ev} {p : Program} {l : Launch} {e : Env} {N d : Nat} {s : State} {m : MethodId} {args : Array Value} {below : List Frame} {meth : Method} {c : Code} {z : Wd × Int32} (X : CX V p s m args meth c cX3_reduce 6 RX3 (some .int))    {w : Wd} {x1 : Int32} {x2 : Int32} {H : Heap} {locs : List Loc} {ls : Array Slot} (h : bX3_reduce_0 N d   w x1 x2 = some z) (hH : wH V (cC V) (AC V) s w H locs) (hl : lv_has ls 6 [(0, .ref (V.2.2 3)), (1, .int x1), (2, .int x2)]) : W p l e (rmD (d + 1)) s m args below meth c H locs 0 0 (MQ below (CtI V (cC V) (AC V) z) args s 0 0 (AC V)) (F0 m 0 ls []) := by
  unfold bX3_reduce_0 at h
  obtain ⟨hx, hb, hml, hown, hg, hrt, hlk, hK⟩ := id X
  refine lv_aload_n (pc := 0) hx hb dX3_reduce_0 rfl (lv_at hl 0 rfl) ?_
  refine gC_X3_12_3 (pc := 1) X hH dX3_reduce_1 ?_
  refine lv_iconst (pc := 4) (v := 0) hx hb dX3_reduce_4 (by decide) ?_
  refine pC_X3_43_8 (pc := 5) X hH h dX3_reduce_5 (fun w1 H locs h hH => ?_)
  refine lv_iload_n (pc := 8) hx hb dX3_reduce_8 rfl (lv_at hl 1 rfl) ?_
  refine lv_istore_n (pc := 9) (lv' := [(3, .int x1), (0, .ref (V.2.2 3)), (1, .int x1), (2, .int x2)]) hx hb dX3_reduce_9 rfl hl (by decide) rfl (fun ls hl => ?_)
  refine lv_iconst (pc := 10) (v := 0) hx hb dX3_reduce_10 (by decide) ?_
  refine lv_istore (pc := 11) (lv' := [(4, .int ((0 : Int32))), (3, .int x1), (0, .ref (V.2.2 3)), (1, .int x1), (2, .int x2)]) hx hb dX3_reduce_11 hl (by decide) rfl (fun ls hl => ?_)
  exact lX3_reduce_13 X   N h hH (lv_sub hl [2, 4, 1, 0] rfl)
def eX3_reduce (N : Nat) : Nat → Wd → Int32 → Int32 → Option (Wd × Int32)
  | 0 => fun _ _ _ => none
  | d + 1 => fun w x1 x2 => bX3_reduce_0 N d  w x1 x2
set_option maxHeartbeats 4000000 in
set_option maxRecDepth 20000 in
theorem mX3_reduce {l : Launch} {V : Ev} {N d : Nat} {w : Wd} {x1 : Int32} {x2 : Int32} {z : Wd × Int32} (h : eX3_reduce N d w x1 x2 = some z) : MetI l V (cC V) (AC V) yX3_reduce cX3_reduce 6 (some .int) d [.ref (V.2.2 3), .int x1, .int x2] w z := by
  cases d with
  | zero => exact c_none h
  | succ d =>
    refine Met.ofW (cc := cX3_reduce) (maxL := 6) (ret := (some .int)) (by decide) rfl ?_
    intro p e s m args below meth c s₁ B hml hv
    obtain ⟨rfl, hP, hD, hK⟩ := hv
    have hts := atoms_spec (ws := .code yX3_reduce cX3_reduce 6 (some .int) :: gG) B.pre
    have X : CX V p s m ([.ref (V.2.2 3), .int x1, .int x2] : List Value).toArray meth c cX3_reduce 6 RX3 (some .int) := ⟨B.exec, B.bytes, hml, findClass_of_methodNamed B.named, fun w hw => hts w (List.mem_cons_of_mem _ hw), B.returns, B.notSynchronized, hK⟩
    have hl := lv_entry ([.ref (V.2.2 3), .int x1, .int x2] : List Value) (n := 6) (Nat.le_of_ble_eq_true rfl)
    rw [lg_entry_eq]
    generalize (lg_sl ([.ref (V.2.2 3), .int x1, .int x2] : List Value) ++ List.replicate (6 - (lg_sl ([.ref (V.2.2 3), .int x1, .int x2] : List Value)).length) Slot.unset).toArray = ls at hl ⊢
    have hl : lv_has ls 6 [(0, .ref (V.2.2 3)), (1, .int x1), (2, .int x2)] := hl
    exact kX3_reduce_0 (N := N) X  h ⟨hP, hD, va_S.rf⟩ hl
theorem dX10_normal_0 : decode cX10_normal 0 = .ok (.aload_n 0, 1) := by decide +kernel
theorem dX10_normal_1 : decode cX10_normal 1 = .ok (.iload_n 1, 1) := by decide +kernel
theorem dX10_normal_2 : decode cX10_normal 2 = .ok (.invokevirtual 82, 3) := by decide +kernel
theorem dX10_normal_5 : decode cX10_normal 5 = .ok (.ifCond .eq 11, 3) := by decide +kernel
theorem dX10_normal_8 : decode cX10_normal 8 = .ok (.iload_n 2, 1) := by decide +kernel
theorem dX10_normal_9 : decode cX10_normal 9 = .ok (.iconst 2, 1) := by decide +kernel
theorem dX10_normal_10 : decode cX10_normal 10 = .ok (.invokestatic 66, 3) := by decide +kernel
theorem dX10_normal_13 : decode cX10_normal 13 = .ok (.ifCond .ne 6, 3) := by decide +kernel
theorem dX10_normal_16 : decode cX10_normal 16 = .ok (.bipush (-2), 2) := by decide +kernel
theorem dX10_normal_18 : decode cX10_normal 18 = .ok (.ireturn, 1) := by decide +kernel
theorem dX10_normal_19 : decode cX10_normal 19 = .ok (.aload_n 0, 1) := by decide +kernel
theorem dX10_normal_20 : decode cX10_normal 20 = .ok (.getfield 15, 3) := by decide +kernel
theorem dX10_normal_23 : decode cX10_normal 23 = .ok (.getfield 99, 3) := by decide +kernel
theorem dX10_normal_26 : decode cX10_normal 26 = .ok (.istore_n 3, 1) := by decide +kernel
theorem dX10_normal_27 : decode cX10_normal 27 = .ok (.aload_n 0, 1) := by decide +kernel
theorem dX10_normal_28 : decode cX10_normal 28 = .ok (.getfield 28, 3) := by decide +kernel
theorem dX10_normal_31 : decode cX10_normal 31 = .ok (.iconst (-1), 1) := by decide +kernel
theorem dX10_normal_32 : decode cX10_normal 32 = .ok (.invokevirtual 102, 3) := by decide +kernel
theorem dX10_normal_35 : decode cX10_normal 35 = .ok (.aload_n 0, 1) := by decide +kernel
theorem dX10_normal_36 : decode cX10_normal 36 = .ok (.aload_n 0, 1) := by decide +kernel
theorem dX10_normal_37 : decode cX10_normal 37 = .ok (.getfield 28, 3) := by decide +kernel
theorem dX10_normal_40 : decode cX10_normal 40 = .ok (.iload_n 1, 1) := by decide +kernel
theorem dX10_normal_41 : decode cX10_normal 41 = .ok (.iload_n 2, 1) := by decide +kernel
theorem dX10_normal_42 : decode cX10_normal 42 = .ok (.invokevirtual 112, 3) := by decide +kernel
theorem dX10_normal_45 : decode cX10_normal 45 = .ok (.iload_n 3, 1) := by decide +kernel
theorem dX10_normal_46 : decode cX10_normal 46 = .ok (.invokevirtual 109, 3) := by decide +kernel
theorem dX10_normal_49 : decode cX10_normal 49 = .ok (.ireturn, 1) := by decide +kernel
def bX10_normal_16 (N d : Nat)   (w : Wd)  : Option (Wd × Int32) :=
  some (w, -2)
set_option maxHeartbeats 4000000 in
theorem kX10_normal_16 {V : Ev} {p : Program} {l : Launch} {e : Env} {N d : Nat} {s : State} {m : MethodId} {args : Array Value} {below : List Frame} {meth : Method} {c : Code} {z : Wd × Int32} (X : CX V p s m args meth c cX10_normal 4 RX10 (some .int))    {w : Wd}  {H : Heap} {locs : List Loc} {ls : Array Slot} (h : bX10_normal_16 N d   w  = some z) (hH : wH V (cC V) (AC V) s w H locs) (hl : lv_has ls 4 []) : W p l e (rmD (d + 1)) s m args below meth c H locs 0 0 (MQ below (CtI V (cC V) (AC V) z) args s 0 0 (AC V)) (F0 m 16 ls []) := by
  unfold bX10_normal_16 at h
  obtain ⟨hx, hb, hml, hown, hg, hrt, hlk, hK⟩ := id X
  refine lv_bipush (pc := 16) (v := -2) hx hb dX10_normal_16 (by decide) ?_
  exact r_iret (pc := 18) X hH h dX10_normal_18
def bX10_normal_0 (N d : Nat)   (w : Wd) (x1 : Int32) (x2 : Int32) : Option (Wd × Int32) :=
  c_cl (eX10_isTerm N d w x1) fun w1 v2 =>
  if v2 = 0 then (
    bX10_normal_16 N d   w1 
  ) else (
    c_cl (eX10_isWithin N d w1 x2 2) fun w3 v4 =>
    if v4 = 0 then (
      bX10_normal_16 N d   w3 
    ) else (
      c_nm (sI w3 1) fun x3_5 =>
      c_cv (eX3_begin N d w3 (-1)) fun w6 =>
      c_cl (eX3_reduce N d w6 x1 x2) fun w7 v8 =>
      c_cl (eX10_keepSteps N d w7 v8 x3_5) fun w9 v10 =>
      some (w9, v10)
    )
  )
set_option maxHeartbeats 4000000 in
theorem kX10_normal_0 {V : Ev} {p : Program} {l : Launch} {e : Env} {N d : Nat} {s : State} {m : MethodId} {args : Array Value} {below : List Frame} {meth : Method} {c : Code} {z : Wd × Int32} (X : CX V p s m args meth c cX10_normal 4 RX10 (some .int))    {w : Wd} {x1 : Int32} {x2 : Int32} {H : Heap} {locs : List Loc} {ls : Array Slot} (h : bX10_normal_0 N d   w x1 x2 = some z) (hH : wH V (cC V) (AC V) s w H locs) (hl : lv_has ls 4 [(0, .ref (V.2.2 0)), (1, .int x1), (2, .int x2)]) : W p l e (rmD (d + 1)) s m args below meth c H locs 0 0 (MQ below (CtI V (cC V) (AC V) z) args s 0 0 (AC V)) (F0 m 0 ls []) := by
  unfold bX10_normal_0 at h
  obtain ⟨hx, hb, hml, hown, hg, hrt, hlk, hK⟩ := id X
  refine lv_aload_n (pc := 0) hx hb dX10_normal_0 rfl (lv_at hl 0 rfl) ?_
  refine lv_iload_n (pc := 1) hx hb dX10_normal_1 rfl (lv_at hl 1 rfl) ?_
  refine r_cvI (pc := 2) (As := [.int x1]) (rest := []) X hH (fun x hx => mX10_isTerm hx) cw_X10_82 (heC_0 V w) rfl rfl rfl (Nat.le_of_ble_eq_true rfl) hl.1 h dX10_normal_2 (fun w1 v2 H locs h hH => ?_)
  refine b_if_eq (pc := 5) (tgt := 16) hx hb h dX10_normal_5 (by decide) (fun h => ?_) (fun h => ?_)
  · exact kX10_normal_16 X   h hH (lv_sub hl [] rfl)
  · refine lv_iload_n (pc := 8) hx hb dX10_normal_8 rfl (lv_at hl 2 rfl) ?_
    refine lv_iconst (pc := 9) (v := 2) hx hb dX10_normal_9 (by decide) ?_
    refine r_csI (pc := 10) (As := [.int x2, .int 2]) (rest := []) X hH (fun x hx => mX10_isWithin hx) cs_X10_66 rfl rfl (Nat.le_of_ble_eq_true rfl) hl.1 h dX10_normal_10 (fun w3 v4 H locs h hH => ?_)
    refine b_if_ne (pc := 13) (tgt := 19) hx hb h dX10_normal_13 (by decide) (fun h => ?_) (fun h => ?_)
    · refine lv_aload_n (pc := 19) hx hb dX10_normal_19 rfl (lv_at hl 0 rfl) ?_
      refine gC_X10_15_0 (pc := 20) X hH dX10_normal_20 ?_
      refine gC_X10_99_1 (pc := 23) X hH dX10_normal_23 ?_
      refine r_nmi h (fun x3_5 h => ?_)
      refine lv_istore_n (pc := 26) (lv' := [(3, .int x3_5), (0, .ref (V.2.2 0)), (1, .int x1), (2, .int x2)]) hx hb dX10_normal_26 rfl hl (by decide) rfl (fun ls hl => ?_)
      refine lv_aload_n (pc := 27) hx hb dX10_normal_27 rfl (lv_at hl 1 rfl) ?_
      refine gC_X10_28_0 (pc := 28) X hH dX10_normal_28 ?_
      refine lv_iconst (pc := 31) (v := -1) hx hb dX10_normal_31 (by decide) ?_
      refine r_cvV (pc := 32) (As := [.int (-1)]) (rest := []) X hH (fun x hx => mX3_begin hx) cw_X10_102 (heC_3 V w3) rfl rfl rfl (Nat.le_of_ble_eq_true rfl) hl.1 h dX10_normal_32 (fun w6 H locs h hH => ?_)
      refine lv_aload_n (pc := 35) hx hb dX10_normal_35 rfl (lv_at hl 1 rfl) ?_
      refine lv_aload_n (pc := 36) hx hb dX10_normal_36 rfl (lv_at hl 1 rfl) ?_
      refine gC_X10_28_0 (pc := 37) X hH dX10_normal_37 ?_
      refine lv_iload_n (pc := 40) hx hb dX10_normal_40 rfl (lv_at hl 2 rfl) ?_
      refine lv_iload_n (pc := 41) hx hb dX10_normal_41 rfl (lv_at hl 3 rfl) ?_
      refine r_cvI (pc := 42) (As := [.int x1, .int x2]) (rest := [.ref (V.2.2 0)]) X hH (fun x hx => mX3_reduce hx) cw_X10_112 (heC_3 V w6) rfl rfl rfl (Nat.le_of_ble_eq_true rfl) hl.1 h dX10_normal_42 (fun w7 v8 H locs h hH => ?_)
      refine lv_iload_n (pc := 45) hx hb dX10_normal_45 rfl (lv_at hl 0 rfl) ?_
      refine r_cvI (pc := 46) (As := [.int v8, .int x3_5]) (rest := []) X hH (fun x hx => mX10_keepSteps hx) cw_X10_109 (heC_0 V w7) rfl rfl rfl (Nat.le_of_ble_eq_true rfl) hl.1 h dX10_normal_46 (fun w9 v10 H locs h hH => ?_)
      exact r_iret (pc := 49) X hH h dX10_normal_49
    · exact kX10_normal_16 X   h hH (lv_sub hl [] rfl)
def eX10_normal (N : Nat) : Nat → Wd → Int32 → Int32 → Option (Wd × Int32)
  | 0 => fun _ _ _ => none
  | d + 1 => fun w x1 x2 => bX10_normal_0 N d  w x1 x2
set_option maxHeartbeats 4000000 in
set_option maxRecDepth 20000 in
theorem mX10_normal {l : Launch} {V : Ev} {N d : Nat} {w : Wd} {x1 : Int32} {x2 : Int32} {z : Wd × Int32} (h : eX10_normal N d w x1 x2 = some z) : MetI l V (cC V) (AC V) yX10_normal cX10_normal 4 (some .int) d [.ref (V.2.2 0), .int x1, .int x2] w z := by
  cases d with
  | zero => exact c_none h
  | succ d =>
    refine Met.ofW (cc := cX10_normal) (maxL := 4) (ret := (some .int)) (by decide) rfl ?_
    intro p e s m args below meth c s₁ B hml hv
    obtain ⟨rfl, hP, hD, hK⟩ := hv
    have hts := atoms_spec (ws := .code yX10_normal cX10_normal 4 (some .int) :: gG) B.pre
    have X : CX V p s m ([.ref (V.2.2 0), .int x1, .int x2] : List Value).toArray meth c cX10_normal 4 RX10 (some .int) := ⟨B.exec, B.bytes, hml, findClass_of_methodNamed B.named, fun w hw => hts w (List.mem_cons_of_mem _ hw), B.returns, B.notSynchronized, hK⟩
    have hl := lv_entry ([.ref (V.2.2 0), .int x1, .int x2] : List Value) (n := 4) (Nat.le_of_ble_eq_true rfl)
    rw [lg_entry_eq]
    generalize (lg_sl ([.ref (V.2.2 0), .int x1, .int x2] : List Value) ++ List.replicate (4 - (lg_sl ([.ref (V.2.2 0), .int x1, .int x2] : List Value)).length) Slot.unset).toArray = ls at hl ⊢
    have hl : lv_has ls 4 [(0, .ref (V.2.2 0)), (1, .int x1), (2, .int x2)] := hl
    exact kX10_normal_0 (N := N) X  h ⟨hP, hD, va_S.rf⟩ hl
theorem dX10_used_0 : decode cX10_used 0 = .ok (.iload_n 2, 1) := by decide +kernel
theorem dX10_used_1 : decode cX10_used 1 = .ok (.iconst 2, 1) := by decide +kernel
theorem dX10_used_2 : decode cX10_used 2 = .ok (.invokestatic 66, 3) := by decide +kernel
theorem dX10_used_5 : decode cX10_used 5 = .ok (.ifCond .ne 7, 3) := by decide +kernel
theorem dX10_used_8 : decode cX10_used 8 = .ok (.ldc2_w 115, 3) := by decide +kernel
theorem dX10_used_11 : decode cX10_used 11 = .ok (.lreturn, 1) := by decide +kernel
theorem dX10_used_12 : decode cX10_used 12 = .ok (.iload_n 1, 1) := by decide +kernel
theorem dX10_used_13 : decode cX10_used 13 = .ok (.iconst (-1), 1) := by decide +kernel
theorem dX10_used_14 : decode cX10_used 14 = .ok (.if_icmp .ne 12, 3) := by decide +kernel
theorem dX10_used_17 : decode cX10_used 17 = .ok (.aload_n 0, 1) := by decide +kernel
theorem dX10_used_18 : decode cX10_used 18 = .ok (.getfield 58, 3) := by decide +kernel
theorem dX10_used_21 : decode cX10_used 21 = .ok (.getfield 117, 3) := by decide +kernel
theorem dX10_used_24 : decode cX10_used 24 = .ok (.i2l, 1) := by decide +kernel
theorem dX10_used_25 : decode cX10_used 25 = .ok (.lreturn, 1) := by decide +kernel
theorem dX10_used_26 : decode cX10_used 26 = .ok (.iload_n 1, 1) := by decide +kernel
theorem dX10_used_27 : decode cX10_used 27 = .ok (.aload_n 0, 1) := by decide +kernel
theorem dX10_used_28 : decode cX10_used 28 = .ok (.getfield 58, 3) := by decide +kernel
theorem dX10_used_31 : decode cX10_used 31 = .ok (.getfield 117, 3) := by decide +kernel
theorem dX10_used_34 : decode cX10_used 34 = .ok (.invokestatic 66, 3) := by decide +kernel
theorem dX10_used_37 : decode cX10_used 37 = .ok (.ifCond .ne 7, 3) := by decide +kernel
theorem dX10_used_40 : decode cX10_used 40 = .ok (.ldc2_w 120, 3) := by decide +kernel
theorem dX10_used_43 : decode cX10_used 43 = .ok (.lreturn, 1) := by decide +kernel
theorem dX10_used_44 : decode cX10_used 44 = .ok (.iload_n 2, 1) := by decide +kernel
theorem dX10_used_45 : decode cX10_used 45 = .ok (.ifCond .ne 16, 3) := by decide +kernel
theorem dX10_used_48 : decode cX10_used 48 = .ok (.aload_n 0, 1) := by decide +kernel
theorem dX10_used_49 : decode cX10_used 49 = .ok (.getfield 58, 3) := by decide +kernel
theorem dX10_used_52 : decode cX10_used 52 = .ok (.getfield 122, 3) := by decide +kernel
theorem dX10_used_55 : decode cX10_used 55 = .ok (.iload_n 1, 1) := by decide +kernel
theorem dX10_used_56 : decode cX10_used 56 = .ok (.iaload, 1) := by decide +kernel
theorem dX10_used_57 : decode cX10_used 57 = .ok (.i2l, 1) := by decide +kernel
theorem dX10_used_58 : decode cX10_used 58 = .ok (.goto 12, 3) := by decide +kernel
theorem dX10_used_61 : decode cX10_used 61 = .ok (.aload_n 0, 1) := by decide +kernel
theorem dX10_used_62 : decode cX10_used 62 = .ok (.getfield 58, 3) := by decide +kernel
theorem dX10_used_65 : decode cX10_used 65 = .ok (.getfield 125, 3) := by decide +kernel
theorem dX10_used_68 : decode cX10_used 68 = .ok (.iload_n 1, 1) := by decide +kernel
theorem dX10_used_69 : decode cX10_used 69 = .ok (.laload, 1) := by decide +kernel
theorem dX10_used_70 : decode cX10_used 70 = .ok (.lreturn, 1) := by decide +kernel
def bX10_used_70 (N d : Nat)   (w : Wd) (y0 : Int64) : Option (Wd × Int64) :=
  some (w, y0)
set_option maxHeartbeats 4000000 in
theorem kX10_used_70 {V : Ev} {p : Program} {l : Launch} {e : Env} {N d : Nat} {s : State} {m : MethodId} {args : Array Value} {below : List Frame} {meth : Method} {c : Code} {z : Wd × Int64} (X : CX V p s m args meth c cX10_used 3 RX10 (some .long))    {w : Wd} {y0 : Int64} {H : Heap} {locs : List Loc} {ls : Array Slot} (h : bX10_used_70 N d   w y0 = some z) (hH : wH V (cC V) (AC V) s w H locs) (hl : lv_has ls 3 []) : W p l e (rmD (d + 1)) s m args below meth c H locs 0 0 (MQ below (CtL V (cC V) (AC V) z) args s 0 0 (AC V)) (F0 m 70 ls [.long y0]) := by
  unfold bX10_used_70 at h
  obtain ⟨hx, hb, hml, hown, hg, hrt, hlk, hK⟩ := id X
  exact r_lret (pc := 70) X hH h dX10_used_70
def bX10_used_0 (N d : Nat)   (w : Wd) (x1 : Int32) (x2 : Int32) : Option (Wd × Int64) :=
  c_cl (eX10_isWithin N d w x2 2) fun w1 v2 =>
  if v2 = 0 then (
    some (w1, -2)
  ) else (
    if x1 = (-1) then (
      some (w1, Int32.toInt64 (sI w1 13))
    ) else (
      c_cl (eX10_isWithin N d w1 x1 (sI w1 13)) fun w3 v4 =>
      if v4 = 0 then (
        some (w3, -1)
      ) else (
        if x2 = 0 then (
          c_ld w3 41 100 x1 fun v6 =>
          bX10_used_70 N d   w3 (Int32.toInt64 v6)
        ) else (
          c_ll w3 42 100 x1 fun v5 =>
          bX10_used_70 N d   w3 v5
        )
      )
    )
  )
set_option maxHeartbeats 4000000 in
theorem kX10_used_0 {V : Ev} {p : Program} {l : Launch} {e : Env} {N d : Nat} {s : State} {m : MethodId} {args : Array Value} {below : List Frame} {meth : Method} {c : Code} {z : Wd × Int64} (X : CX V p s m args meth c cX10_used 3 RX10 (some .long))    {w : Wd} {x1 : Int32} {x2 : Int32} {H : Heap} {locs : List Loc} {ls : Array Slot} (h : bX10_used_0 N d   w x1 x2 = some z) (hH : wH V (cC V) (AC V) s w H locs) (hl : lv_has ls 3 [(0, .ref (V.2.2 0)), (1, .int x1), (2, .int x2)]) : W p l e (rmD (d + 1)) s m args below meth c H locs 0 0 (MQ below (CtL V (cC V) (AC V) z) args s 0 0 (AC V)) (F0 m 0 ls []) := by
  unfold bX10_used_0 at h
  obtain ⟨hx, hb, hml, hown, hg, hrt, hlk, hK⟩ := id X
  refine lv_iload_n (pc := 0) hx hb dX10_used_0 rfl (lv_at hl 2 rfl) ?_
  refine lv_iconst (pc := 1) (v := 2) hx hb dX10_used_1 (by decide) ?_
  refine r_csI (pc := 2) (As := [.int x2, .int 2]) (rest := []) X hH (fun x hx => mX10_isWithin hx) cs_X10_66 rfl rfl (Nat.le_of_ble_eq_true rfl) hl.1 h dX10_used_2 (fun w1 v2 H locs h hH => ?_)
  refine b_if_ne (pc := 5) (tgt := 12) hx hb h dX10_used_5 (by decide) (fun h => ?_) (fun h => ?_)
  · refine lv_iload_n (pc := 12) hx hb dX10_used_12 rfl (lv_at hl 1 rfl) ?_
    refine lv_iconst (pc := 13) (v := -1) hx hb dX10_used_13 (by decide) ?_
    refine b_icmp_ne (pc := 14) (tgt := 26) hx hb h dX10_used_14 (by decide) (fun h => ?_) (fun h => ?_)
    · refine lv_iload_n (pc := 26) hx hb dX10_used_26 rfl (lv_at hl 1 rfl) ?_
      refine lv_aload_n (pc := 27) hx hb dX10_used_27 rfl (lv_at hl 0 rfl) ?_
      refine gC_X10_58_0 (pc := 28) X hH dX10_used_28 ?_
      refine gC_X10_117_7 (pc := 31) X hH dX10_used_31 ?_
      refine r_csI (pc := 34) (As := [.int x1, .int (sI w1 13)]) (rest := []) X hH (fun x hx => mX10_isWithin hx) cs_X10_66 rfl rfl (Nat.le_of_ble_eq_true rfl) hl.1 h dX10_used_34 (fun w3 v4 H locs h hH => ?_)
      refine b_if_ne (pc := 37) (tgt := 44) hx hb h dX10_used_37 (by decide) (fun h => ?_) (fun h => ?_)
      · refine lv_iload_n (pc := 44) hx hb dX10_used_44 rfl (lv_at hl 2 rfl) ?_
        refine b_if_ne (pc := 45) (tgt := 61) hx hb h dX10_used_45 (by decide) (fun h => ?_) (fun h => ?_)
        · refine lv_aload_n (pc := 61) hx hb dX10_used_61 rfl (lv_at hl 0 rfl) ?_
          refine gC_X10_58_0 (pc := 62) X hH dX10_used_62 ?_
          refine gC_X10_125_7 (pc := 65) X hH dX10_used_65 ?_
          refine lv_iload_n (pc := 68) hx hb dX10_used_68 rfl (lv_at hl 1 rfl) ?_
          refine r_ll (pc := 69) X (heC_38 V w3) hH h dX10_used_69 (fun v5 h => ?_)
          exact kX10_used_70 X   h hH (lv_sub hl [] rfl)
        · refine lv_aload_n (pc := 48) hx hb dX10_used_48 rfl (lv_at hl 0 rfl) ?_
          refine gC_X10_58_0 (pc := 49) X hH dX10_used_49 ?_
          refine gC_X10_122_7 (pc := 52) X hH dX10_used_52 ?_
          refine lv_iload_n (pc := 55) hx hb dX10_used_55 rfl (lv_at hl 1 rfl) ?_
          refine r_ld (pc := 56) X (heC_37 V w3) hH h dX10_used_56 (fun v6 h => ?_)
          refine lv_i2l (pc := 57) hx hb dX10_used_57 rfl ?_
          refine lv_goto (pc := 58) (tgt := 70) hx hb dX10_used_58 (by decide) ?_
          exact kX10_used_70 X   h hH (lv_sub hl [] rfl)
      · refine lv_ldc2 (pc := 40) hx hb hown (hg _ wL_578) dX10_used_40 ?_
        exact r_lret (pc := 43) X hH h dX10_used_43
    · refine lv_aload_n (pc := 17) hx hb dX10_used_17 rfl (lv_at hl 0 rfl) ?_
      refine gC_X10_58_0 (pc := 18) X hH dX10_used_18 ?_
      refine gC_X10_117_7 (pc := 21) X hH dX10_used_21 ?_
      refine lv_i2l (pc := 24) hx hb dX10_used_24 rfl ?_
      exact r_lret (pc := 25) X hH h dX10_used_25
  · refine lv_ldc2 (pc := 8) hx hb hown (hg _ wL_577) dX10_used_8 ?_
    exact r_lret (pc := 11) X hH h dX10_used_11
def eX10_used (N : Nat) : Nat → Wd → Int32 → Int32 → Option (Wd × Int64)
  | 0 => fun _ _ _ => none
  | d + 1 => fun w x1 x2 => bX10_used_0 N d  w x1 x2
set_option maxHeartbeats 4000000 in
set_option maxRecDepth 20000 in
theorem mX10_used {l : Launch} {V : Ev} {N d : Nat} {w : Wd} {x1 : Int32} {x2 : Int32} {z : Wd × Int64} (h : eX10_used N d w x1 x2 = some z) : MetL l V (cC V) (AC V) yX10_used cX10_used 3 (some .long) d [.ref (V.2.2 0), .int x1, .int x2] w z := by
  cases d with
  | zero => exact c_none h
  | succ d =>
    refine Met.ofW (cc := cX10_used) (maxL := 3) (ret := (some .long)) (by decide) rfl ?_
    intro p e s m args below meth c s₁ B hml hv
    obtain ⟨rfl, hP, hD, hK⟩ := hv
    have hts := atoms_spec (ws := .code yX10_used cX10_used 3 (some .long) :: gG) B.pre
    have X : CX V p s m ([.ref (V.2.2 0), .int x1, .int x2] : List Value).toArray meth c cX10_used 3 RX10 (some .long) := ⟨B.exec, B.bytes, hml, findClass_of_methodNamed B.named, fun w hw => hts w (List.mem_cons_of_mem _ hw), B.returns, B.notSynchronized, hK⟩
    have hl := lv_entry ([.ref (V.2.2 0), .int x1, .int x2] : List Value) (n := 3) (Nat.le_of_ble_eq_true rfl)
    rw [lg_entry_eq]
    generalize (lg_sl ([.ref (V.2.2 0), .int x1, .int x2] : List Value) ++ List.replicate (3 - (lg_sl ([.ref (V.2.2 0), .int x1, .int x2] : List Value)).length) Slot.unset).toArray = ls at hl ⊢
    have hl : lv_has ls 3 [(0, .ref (V.2.2 0)), (1, .int x1), (2, .int x2)] := hl
    exact kX10_used_0 (N := N) X  h ⟨hP, hD, va_S.rf⟩ hl
def bJ7_fill_53178_r30_5 (N d : Nat)  (rec5 : Wd → Int32 → Int32 → Int32 → Option (Wd)) (w : Wd) (x1 : Int32) (x2 : Int32) (x3 : Int32) : Option (Wd) :=
  if x3 ≤ x2 then (
    some w
  ) else (
    c_st w 30 8 x2 x1 fun w1 =>
    c_nm (x2 + 1) fun x2_2 =>
    rec5 w1 x1 x2_2 x3
  )
set_option maxHeartbeats 4000000 in
theorem kJ7_fill_53178_r30_5 {V : Ev} {p : Program} {l : Launch} {e : Env} {N d : Nat} {s : State} {m : MethodId} {args : Array Value} {below : List Frame} {meth : Method} {c : Code} {z : Wd} (X : CX V p s m args meth c cJ7_fill_53178 4 RJ7 none)   {rec5 : Wd → Int32 → Int32 → Int32 → Option (Wd)} (hr5 : ∀ (w : Wd) (x1 : Int32) (x2 : Int32) (x3 : Int32) (H : Heap) (locs : List Loc) (ls : Array Slot), rec5 w x1 x2 x3 = some z → wH V (cC V) (AC V) s w H locs → lv_has ls 4 [(0, .ref (V.2.2 29)), (1, .int x1), (2, .int x2), (3, .int x3)] → W p l e (rmD (d + 1)) s m args below meth c H locs 0 0 (MQ below (CtV V (cC V) (AC V) z) args s 0 0 (AC V)) (F0 m 5 ls [])) {w : Wd} {x1 : Int32} {x2 : Int32} {x3 : Int32} {H : Heap} {locs : List Loc} {ls : Array Slot} (h : bJ7_fill_53178_r30_5 N d  rec5 w x1 x2 x3 = some z) (hH : wH V (cC V) (AC V) s w H locs) (hl : lv_has ls 4 [(0, .ref (V.2.2 29)), (1, .int x1), (2, .int x2), (3, .int x3)]) : W p l e (rmD (d + 1)) s m args below meth c H locs 0 0 (MQ below (CtV V (cC V) (AC V) z) args s 0 0 (AC V)) (F0 m 5 ls []) := by
  unfold bJ7_fill_53178_r30_5 at h
  obtain ⟨hx, hb, hml, hown, hg, hrt, hlk, hK⟩ := id X
  refine lv_iload_n (pc := 5) hx hb dJ7_fill_53178_5 rfl (lv_at hl 2 rfl) ?_
  refine lv_iload_n (pc := 6) hx hb dJ7_fill_53178_6 rfl (lv_at hl 3 rfl) ?_
  refine b_icmp_ge (pc := 7) (tgt := 20) hx hb h dJ7_fill_53178_7 (by decide) (fun h => ?_) (fun h => ?_)
  · exact r_vret (pc := 20) X hH h dJ7_fill_53178_20
  · refine lv_aload_n (pc := 10) hx hb dJ7_fill_53178_10 rfl (lv_at hl 0 rfl) ?_
    refine lv_iload_n (pc := 11) hx hb dJ7_fill_53178_11 rfl (lv_at hl 2 rfl) ?_
    refine lv_iload_n (pc := 12) hx hb dJ7_fill_53178_12 rfl (lv_at hl 1 rfl) ?_
    refine r_st (pc := 13) X (heC_29 V w) (hsC_29 V w) hH h dJ7_fill_53178_13 (fun w1 H locs h hH => ?_)
    obtain ⟨x2_2, ex2_2, h⟩ := c_nm_ex h
    refine lv_iinc (pc := 14) (v := x2_2) (lv' := [(2, .int x2_2), (0, .ref (V.2.2 29)), (1, .int x1), (3, .int x3)]) hx hb dJ7_fill_53178_14 hl (k := 2) rfl (by rw [← ex2_2]; rfl) (by decide) rfl (fun ls hl => ?_)
    refine lv_goto (pc := 17) (tgt := 5) hx hb dJ7_fill_53178_17 (by decide) ?_
    exact hr5 _ _ _ _ _ _ _ h hH (lv_sub hl [1, 2, 0, 3] rfl)
def fJ7_fill_53178_r30_5 (N d : Nat)   : Nat → Wd → Int32 → Int32 → Int32 → Option (Wd)
  | 0 => fun _ _ _ _ => none
  | n + 1 => fun w x1 x2 x3 => bJ7_fill_53178_r30_5 N d   (fJ7_fill_53178_r30_5 N d   n) w x1 x2 x3
theorem lJ7_fill_53178_r30_5 {V : Ev} {p : Program} {l : Launch} {e : Env} {N d : Nat} {s : State} {m : MethodId} {args : Array Value} {below : List Frame} {meth : Method} {c : Code} {z : Wd} (X : CX V p s m args meth c cJ7_fill_53178 4 RJ7 none)    (n : Nat) {w : Wd} {x1 : Int32} {x2 : Int32} {x3 : Int32} {H : Heap} {locs : List Loc} {ls : Array Slot} (h : fJ7_fill_53178_r30_5 N d   n w x1 x2 x3 = some z) (hH : wH V (cC V) (AC V) s w H locs) (hl : lv_has ls 4 [(0, .ref (V.2.2 29)), (1, .int x1), (2, .int x2), (3, .int x3)]) : W p l e (rmD (d + 1)) s m args below meth c H locs 0 0 (MQ below (CtV V (cC V) (AC V) z) args s 0 0 (AC V)) (F0 m 5 ls []) := by
  induction n generalizing w x1 x2 x3 H locs ls with
  | zero => exact c_none h
  | succ n ih => exact kJ7_fill_53178_r30_5 (N := N) X  (fun _ _ _ _ _ _ _ h hH hl => ih h hH hl) h hH hl
def bJ7_fill_53178_r30_0 (N d : Nat)   (w : Wd) (x1 : Int32) : Option (Wd) :=
  fJ7_fill_53178_r30_5 N d   N w x1 ((0 : Int32)) ((8 : Int32))
set_option maxHeartbeats 4000000 in
theorem kJ7_fill_53178_r30_0 {V : Ev} {p : Program} {l : Launch} {e : Env} {N d : Nat} {s : State} {m : MethodId} {args : Array Value} {below : List Frame} {meth : Method} {c : Code} {z : Wd} (X : CX V p s m args meth c cJ7_fill_53178 4 RJ7 none)    {w : Wd} {x1 : Int32} {H : Heap} {locs : List Loc} {ls : Array Slot} (h : bJ7_fill_53178_r30_0 N d   w x1 = some z) (hH : wH V (cC V) (AC V) s w H locs) (hl : lv_has ls 4 [(0, .ref (V.2.2 29)), (1, .int x1)]) : W p l e (rmD (d + 1)) s m args below meth c H locs 0 0 (MQ below (CtV V (cC V) (AC V) z) args s 0 0 (AC V)) (F0 m 0 ls []) := by
  unfold bJ7_fill_53178_r30_0 at h
  obtain ⟨hx, hb, hml, hown, hg, hrt, hlk, hK⟩ := id X
  refine lv_iconst (pc := 0) (v := 0) hx hb dJ7_fill_53178_0 (by decide) ?_
  refine lv_istore_n (pc := 1) (lv' := [(2, .int ((0 : Int32))), (0, .ref (V.2.2 29)), (1, .int x1)]) hx hb dJ7_fill_53178_1 rfl hl (by decide) rfl (fun ls hl => ?_)
  refine lv_aload_n (pc := 2) hx hb dJ7_fill_53178_2 rfl (lv_at hl 1 rfl) ?_
  refine r_al (pc := 3) (t0 := 0) (v := 8) X (heC_29 V w) rfl hH (by decide) dJ7_fill_53178_3 ?_
  refine lv_istore_n (pc := 4) (lv' := [(3, .int ((8 : Int32))), (2, .int ((0 : Int32))), (0, .ref (V.2.2 29)), (1, .int x1)]) hx hb dJ7_fill_53178_4 rfl hl (by decide) rfl (fun ls hl => ?_)
  exact lJ7_fill_53178_r30_5 X   N h hH (lv_sub hl [2, 3, 1, 0] rfl)
def eJ7_fill_53178_r30 (N : Nat) : Nat → Wd → Int32 → Option (Wd)
  | 0 => fun _ _ => none
  | d + 1 => fun w x1 => bJ7_fill_53178_r30_0 N d  w x1
set_option maxHeartbeats 4000000 in
set_option maxRecDepth 20000 in
theorem mJ7_fill_53178_r30 {l : Launch} {V : Ev} {N d : Nat} {w : Wd} {x1 : Int32} {z : Wd} (h : eJ7_fill_53178_r30 N d w x1 = some z) : MetV l V (cC V) (AC V) yJ7_fill_53178 cJ7_fill_53178 4 none d [.ref (V.2.2 29), .int x1] w z := by
  cases d with
  | zero => exact c_none h
  | succ d =>
    refine Met.ofW (cc := cJ7_fill_53178) (maxL := 4) (ret := none) (by decide) rfl ?_
    intro p e s m args below meth c s₁ B hml hv
    obtain ⟨rfl, hP, hD, hK⟩ := hv
    have hts := atoms_spec (ws := .code yJ7_fill_53178 cJ7_fill_53178 4 none :: gG) B.pre
    have X : CX V p s m ([.ref (V.2.2 29), .int x1] : List Value).toArray meth c cJ7_fill_53178 4 RJ7 none := ⟨B.exec, B.bytes, hml, findClass_of_methodNamed B.named, fun w hw => hts w (List.mem_cons_of_mem _ hw), B.returns, B.notSynchronized, hK⟩
    have hl := lv_entry ([.ref (V.2.2 29), .int x1] : List Value) (n := 4) (Nat.le_of_ble_eq_true rfl)
    rw [lg_entry_eq]
    generalize (lg_sl ([.ref (V.2.2 29), .int x1] : List Value) ++ List.replicate (4 - (lg_sl ([.ref (V.2.2 29), .int x1] : List Value)).length) Slot.unset).toArray = ls at hl ⊢
    have hl : lv_has ls 4 [(0, .ref (V.2.2 29)), (1, .int x1)] := hl
    exact kJ7_fill_53178_r30_0 (N := N) X  h ⟨hP, hD, va_S.rf⟩ hl
theorem dX0_addVariables_0 : decode cX0_addVariables 0 = .ok (.aload_n 0, 1) := by decide +kernel
theorem dX0_addVariables_1 : decode cX0_addVariables 1 = .ok (.getfield 15, 3) := by decide +kernel
theorem dX0_addVariables_4 : decode cX0_addVariables 4 = .ok (.getfield 56, 3) := by decide +kernel
theorem dX0_addVariables_7 : decode cX0_addVariables 7 = .ok (.iload_n 1, 1) := by decide +kernel
theorem dX0_addVariables_8 : decode cX0_addVariables 8 = .ok (.iaload, 1) := by decide +kernel
theorem dX0_addVariables_9 : decode cX0_addVariables 9 = .ok (.ifCond .eq 9, 3) := by decide +kernel
theorem dX0_addVariables_12 : decode cX0_addVariables 12 = .ok (.iload_n 3, 1) := by decide +kernel
theorem dX0_addVariables_13 : decode cX0_addVariables 13 = .ok (.bipush 30, 2) := by decide +kernel
theorem dX0_addVariables_15 : decode cX0_addVariables 15 = .ok (.if_icmp .le 4, 3) := by decide +kernel
theorem dX0_addVariables_18 : decode cX0_addVariables 18 = .ok (.return_, 1) := by decide +kernel
theorem dX0_addVariables_19 : decode cX0_addVariables 19 = .ok (.aload_n 0, 1) := by decide +kernel
theorem dX0_addVariables_20 : decode cX0_addVariables 20 = .ok (.getfield 15, 3) := by decide +kernel
theorem dX0_addVariables_23 : decode cX0_addVariables 23 = .ok (.iload_n 1, 1) := by decide +kernel
theorem dX0_addVariables_24 : decode cX0_addVariables 24 = .ok (.invokevirtual 29, 3) := by decide +kernel
theorem dX0_addVariables_27 : decode cX0_addVariables 27 = .ok (.ifCond .eq 25, 3) := by decide +kernel
theorem dX0_addVariables_30 : decode cX0_addVariables 30 = .ok (.aload_n 0, 1) := by decide +kernel
theorem dX0_addVariables_31 : decode cX0_addVariables 31 = .ok (.getfield 9, 3) := by decide +kernel
theorem dX0_addVariables_34 : decode cX0_addVariables 34 = .ok (.aload_n 0, 1) := by decide +kernel
theorem dX0_addVariables_35 : decode cX0_addVariables 35 = .ok (.getfield 15, 3) := by decide +kernel
theorem dX0_addVariables_38 : decode cX0_addVariables 38 = .ok (.getfield 33, 3) := by decide +kernel
theorem dX0_addVariables_41 : decode cX0_addVariables 41 = .ok (.iload_n 1, 1) := by decide +kernel
theorem dX0_addVariables_42 : decode cX0_addVariables 42 = .ok (.iaload, 1) := by decide +kernel
theorem dX0_addVariables_43 : decode cX0_addVariables 43 = .ok (.bipush 10, 2) := by decide +kernel
theorem dX0_addVariables_45 : decode cX0_addVariables 45 = .ok (.isub, 1) := by decide +kernel
theorem dX0_addVariables_46 : decode cX0_addVariables 46 = .ok (.dup2, 1) := by decide +kernel
theorem dX0_addVariables_47 : decode cX0_addVariables 47 = .ok (.iaload, 1) := by decide +kernel
theorem dX0_addVariables_48 : decode cX0_addVariables 48 = .ok (.iload_n 2, 1) := by decide +kernel
theorem dX0_addVariables_49 : decode cX0_addVariables 49 = .ok (.iadd, 1) := by decide +kernel
theorem dX0_addVariables_50 : decode cX0_addVariables 50 = .ok (.iastore, 1) := by decide +kernel
theorem dX0_addVariables_51 : decode cX0_addVariables 51 = .ok (.return_, 1) := by decide +kernel
theorem dX0_addVariables_52 : decode cX0_addVariables 52 = .ok (.aload_n 0, 1) := by decide +kernel
theorem dX0_addVariables_53 : decode cX0_addVariables 53 = .ok (.aload_n 0, 1) := by decide +kernel
theorem dX0_addVariables_54 : decode cX0_addVariables 54 = .ok (.getfield 15, 3) := by decide +kernel
theorem dX0_addVariables_57 : decode cX0_addVariables 57 = .ok (.getfield 36, 3) := by decide +kernel
theorem dX0_addVariables_60 : decode cX0_addVariables 60 = .ok (.iload_n 1, 1) := by decide +kernel
theorem dX0_addVariables_61 : decode cX0_addVariables 61 = .ok (.iaload, 1) := by decide +kernel
theorem dX0_addVariables_62 : decode cX0_addVariables 62 = .ok (.iload_n 2, 1) := by decide +kernel
theorem dX0_addVariables_63 : decode cX0_addVariables 63 = .ok (.iload_n 3, 1) := by decide +kernel
theorem dX0_addVariables_64 : decode cX0_addVariables 64 = .ok (.iconst 1, 1) := by decide +kernel
theorem dX0_addVariables_65 : decode cX0_addVariables 65 = .ok (.iadd, 1) := by decide +kernel
theorem dX0_addVariables_66 : decode cX0_addVariables 66 = .ok (.invokevirtual 52, 3) := by decide +kernel
theorem dX0_addVariables_69 : decode cX0_addVariables 69 = .ok (.aload_n 0, 1) := by decide +kernel
theorem dX0_addVariables_70 : decode cX0_addVariables 70 = .ok (.getfield 15, 3) := by decide +kernel
theorem dX0_addVariables_73 : decode cX0_addVariables 73 = .ok (.getfield 43, 3) := by decide +kernel
theorem dX0_addVariables_76 : decode cX0_addVariables 76 = .ok (.iload_n 1, 1) := by decide +kernel
theorem dX0_addVariables_77 : decode cX0_addVariables 77 = .ok (.iaload, 1) := by decide +kernel
theorem dX0_addVariables_78 : decode cX0_addVariables 78 = .ok (.iconst (-1), 1) := by decide +kernel
theorem dX0_addVariables_79 : decode cX0_addVariables 79 = .ok (.if_icmp .eq 20, 3) := by decide +kernel
theorem dX0_addVariables_82 : decode cX0_addVariables 82 = .ok (.aload_n 0, 1) := by decide +kernel
theorem dX0_addVariables_83 : decode cX0_addVariables 83 = .ok (.aload_n 0, 1) := by decide +kernel
theorem dX0_addVariables_84 : decode cX0_addVariables 84 = .ok (.getfield 15, 3) := by decide +kernel
theorem dX0_addVariables_87 : decode cX0_addVariables 87 = .ok (.getfield 43, 3) := by decide +kernel
theorem dX0_addVariables_90 : decode cX0_addVariables 90 = .ok (.iload_n 1, 1) := by decide +kernel
theorem dX0_addVariables_91 : decode cX0_addVariables 91 = .ok (.iaload, 1) := by decide +kernel
theorem dX0_addVariables_92 : decode cX0_addVariables 92 = .ok (.iload_n 2, 1) := by decide +kernel
theorem dX0_addVariables_93 : decode cX0_addVariables 93 = .ok (.iload_n 3, 1) := by decide +kernel
theorem dX0_addVariables_94 : decode cX0_addVariables 94 = .ok (.iconst 1, 1) := by decide +kernel
theorem dX0_addVariables_95 : decode cX0_addVariables 95 = .ok (.iadd, 1) := by decide +kernel
theorem dX0_addVariables_96 : decode cX0_addVariables 96 = .ok (.invokevirtual 52, 3) := by decide +kernel
theorem dX0_addVariables_99 : decode cX0_addVariables 99 = .ok (.return_, 1) := by decide +kernel
def bX0_addVariables_18 (N d : Nat) (self_X0_addVariables : Wd → Int32 → Int32 → Int32 → Option (Wd))  (w : Wd)  : Option (Wd) :=
  some w
set_option maxHeartbeats 4000000 in
theorem kX0_addVariables_18 {V : Ev} {p : Program} {l : Launch} {e : Env} {N d : Nat} {s : State} {m : MethodId} {args : Array Value} {below : List Frame} {meth : Method} {c : Code} {z : Wd} (X : CX V p s m args meth c cX0_addVariables 4 RX0 none) {self_X0_addVariables : Wd → Int32 → Int32 → Int32 → Option (Wd)} (hs_X0_addVariables : ∀ (w : Wd) (a0 : Int32) (a1 : Int32) (a2 : Int32) (x : Wd), self_X0_addVariables w a0 a1 a2 = some x → MetV l V (cC V) (AC V) yX0_addVariables cX0_addVariables 4 none d [.ref (V.2.2 4), .int a0, .int a1, .int a2] w x)  {w : Wd}  {H : Heap} {locs : List Loc} {ls : Array Slot} (h : bX0_addVariables_18 N d self_X0_addVariables  w  = some z) (hH : wH V (cC V) (AC V) s w H locs) (hl : lv_has ls 4 []) : W p l e (rmD (d + 1)) s m args below meth c H locs 0 0 (MQ below (CtV V (cC V) (AC V) z) args s 0 0 (AC V)) (F0 m 18 ls []) := by
  unfold bX0_addVariables_18 at h
  obtain ⟨hx, hb, hml, hown, hg, hrt, hlk, hK⟩ := id X
  exact r_vret (pc := 18) X hH h dX0_addVariables_18
def bX0_addVariables_99 (N d : Nat) (self_X0_addVariables : Wd → Int32 → Int32 → Int32 → Option (Wd))  (w : Wd)  : Option (Wd) :=
  some w
set_option maxHeartbeats 4000000 in
theorem kX0_addVariables_99 {V : Ev} {p : Program} {l : Launch} {e : Env} {N d : Nat} {s : State} {m : MethodId} {args : Array Value} {below : List Frame} {meth : Method} {c : Code} {z : Wd} (X : CX V p s m args meth c cX0_addVariables 4 RX0 none) {self_X0_addVariables : Wd → Int32 → Int32 → Int32 → Option (Wd)} (hs_X0_addVariables : ∀ (w : Wd) (a0 : Int32) (a1 : Int32) (a2 : Int32) (x : Wd), self_X0_addVariables w a0 a1 a2 = some x → MetV l V (cC V) (AC V) yX0_addVariables cX0_addVariables 4 none d [.ref (V.2.2 4), .int a0, .int a1, .int a2] w x)  {w : Wd}  {H : Heap} {locs : List Loc} {ls : Array Slot} (h : bX0_addVariables_99 N d self_X0_addVariables  w  = some z) (hH : wH V (cC V) (AC V) s w H locs) (hl : lv_has ls 4 []) : W p l e (rmD (d + 1)) s m args below meth c H locs 0 0 (MQ below (CtV V (cC V) (AC V) z) args s 0 0 (AC V)) (F0 m 99 ls []) := by
  unfold bX0_addVariables_99 at h
  obtain ⟨hx, hb, hml, hown, hg, hrt, hlk, hK⟩ := id X
  exact r_vret (pc := 99) X hH h dX0_addVariables_99
def bX0_addVariables_0 (N d : Nat) (self_X0_addVariables : Wd → Int32 → Int32 → Int32 → Option (Wd))  (w : Wd) (x1 : Int32) (x2 : Int32) (x3 : Int32) : Option (Wd) :=
  c_ld w 19 1000 x1 fun v1 =>
  if v1 = 0 then (
    bX0_addVariables_18 N d self_X0_addVariables  w 
  ) else (
    if x3 ≤ 30 then (
      c_cl (eX8_isVariable N d w x1) fun w2 v3 =>
      if v3 = 0 then (
        c_ld w2 15 1000 x1 fun v4 =>
        c_cv (self_X0_addVariables w2 v4 x2 (x3 + 1)) fun w5 =>
        c_ld w5 16 1000 x1 fun v6 =>
        if v6 = (-1) then (
          bX0_addVariables_99 N d self_X0_addVariables  w5 
        ) else (
          c_ld w5 16 1000 x1 fun v7 =>
          c_cv (self_X0_addVariables w5 v7 x2 (x3 + 1)) fun w8 =>
          bX0_addVariables_99 N d self_X0_addVariables  w8 
        )
      ) else (
        c_ld w2 14 1000 x1 fun v9 =>
        c_ld w2 30 8 (v9 - 10) fun v10 =>
        c_st w2 30 8 (v9 - 10) (v10 + x2) fun w11 =>
        some w11
      )
    ) else (
      bX0_addVariables_18 N d self_X0_addVariables  w 
    )
  )
set_option maxHeartbeats 4000000 in
theorem kX0_addVariables_0 {V : Ev} {p : Program} {l : Launch} {e : Env} {N d : Nat} {s : State} {m : MethodId} {args : Array Value} {below : List Frame} {meth : Method} {c : Code} {z : Wd} (X : CX V p s m args meth c cX0_addVariables 4 RX0 none) {self_X0_addVariables : Wd → Int32 → Int32 → Int32 → Option (Wd)} (hs_X0_addVariables : ∀ (w : Wd) (a0 : Int32) (a1 : Int32) (a2 : Int32) (x : Wd), self_X0_addVariables w a0 a1 a2 = some x → MetV l V (cC V) (AC V) yX0_addVariables cX0_addVariables 4 none d [.ref (V.2.2 4), .int a0, .int a1, .int a2] w x)  {w : Wd} {x1 : Int32} {x2 : Int32} {x3 : Int32} {H : Heap} {locs : List Loc} {ls : Array Slot} (h : bX0_addVariables_0 N d self_X0_addVariables  w x1 x2 x3 = some z) (hH : wH V (cC V) (AC V) s w H locs) (hl : lv_has ls 4 [(0, .ref (V.2.2 4)), (1, .int x1), (2, .int x2), (3, .int x3)]) : W p l e (rmD (d + 1)) s m args below meth c H locs 0 0 (MQ below (CtV V (cC V) (AC V) z) args s 0 0 (AC V)) (F0 m 0 ls []) := by
  unfold bX0_addVariables_0 at h
  obtain ⟨hx, hb, hml, hown, hg, hrt, hlk, hK⟩ := id X
  refine lv_aload_n (pc := 0) hx hb dX0_addVariables_0 rfl (lv_at hl 0 rfl) ?_
  refine gC_X0_15_4 (pc := 1) X hH dX0_addVariables_1 ?_
  refine gC_X0_56_1 (pc := 4) X hH dX0_addVariables_4 ?_
  refine lv_iload_n (pc := 7) hx hb dX0_addVariables_7 rfl (lv_at hl 1 rfl) ?_
  refine r_ld (pc := 8) X (heC_19 V w) hH h dX0_addVariables_8 (fun v1 h => ?_)
  refine b_if_eq (pc := 9) (tgt := 18) hx hb h dX0_addVariables_9 (by decide) (fun h => ?_) (fun h => ?_)
  · exact kX0_addVariables_18 X hs_X0_addVariables  h hH (lv_sub hl [] rfl)
  · refine lv_iload_n (pc := 12) hx hb dX0_addVariables_12 rfl (lv_at hl 3 rfl) ?_
    refine lv_bipush (pc := 13) (v := 30) hx hb dX0_addVariables_13 (by decide) ?_
    refine b_icmp_le (pc := 15) (tgt := 19) hx hb h dX0_addVariables_15 (by decide) (fun h => ?_) (fun h => ?_)
    · refine lv_aload_n (pc := 19) hx hb dX0_addVariables_19 rfl (lv_at hl 0 rfl) ?_
      refine gC_X0_15_4 (pc := 20) X hH dX0_addVariables_20 ?_
      refine lv_iload_n (pc := 23) hx hb dX0_addVariables_23 rfl (lv_at hl 1 rfl) ?_
      refine r_cvI (pc := 24) (As := [.int x1]) (rest := []) X hH (fun x hx => mX8_isVariable hx) cw_X0_29 (heC_1 V w) rfl rfl rfl (Nat.le_of_ble_eq_true rfl) hl.1 h dX0_addVariables_24 (fun w2 v3 H locs h hH => ?_)
      refine b_if_eq (pc := 27) (tgt := 52) hx hb h dX0_addVariables_27 (by decide) (fun h => ?_) (fun h => ?_)
      · refine lv_aload_n (pc := 52) hx hb dX0_addVariables_52 rfl (lv_at hl 0 rfl) ?_
        refine lv_aload_n (pc := 53) hx hb dX0_addVariables_53 rfl (lv_at hl 0 rfl) ?_
        refine gC_X0_15_4 (pc := 54) X hH dX0_addVariables_54 ?_
        refine gC_X0_36_1 (pc := 57) X hH dX0_addVariables_57 ?_
        refine lv_iload_n (pc := 60) hx hb dX0_addVariables_60 rfl (lv_at hl 1 rfl) ?_
        refine r_ld (pc := 61) X (heC_15 V w2) hH h dX0_addVariables_61 (fun v4 h => ?_)
        refine lv_iload_n (pc := 62) hx hb dX0_addVariables_62 rfl (lv_at hl 2 rfl) ?_
        refine lv_iload_n (pc := 63) hx hb dX0_addVariables_63 rfl (lv_at hl 3 rfl) ?_
        refine lv_iconst (pc := 64) (v := 1) hx hb dX0_addVariables_64 (by decide) ?_
        refine lv_iadd (pc := 65) hx hb dX0_addVariables_65 ?_
        refine r_cvV (pc := 66) (As := [.int v4, .int x2, .int (x3 + 1)]) (rest := []) X hH (fun x hx => hs_X0_addVariables _ _ _ _ _ hx) cw_X0_52 (heC_4 V w2) rfl rfl rfl (Nat.le_of_ble_eq_true rfl) hl.1 h dX0_addVariables_66 (fun w5 H locs h hH => ?_)
        refine lv_aload_n (pc := 69) hx hb dX0_addVariables_69 rfl (lv_at hl 0 rfl) ?_
        refine gC_X0_15_4 (pc := 70) X hH dX0_addVariables_70 ?_
        refine gC_X0_43_1 (pc := 73) X hH dX0_addVariables_73 ?_
        refine lv_iload_n (pc := 76) hx hb dX0_addVariables_76 rfl (lv_at hl 1 rfl) ?_
        refine r_ld (pc := 77) X (heC_16 V w5) hH h dX0_addVariables_77 (fun v6 h => ?_)
        refine lv_iconst (pc := 78) (v := -1) hx hb dX0_addVariables_78 (by decide) ?_
        refine b_icmp_eq (pc := 79) (tgt := 99) hx hb h dX0_addVariables_79 (by decide) (fun h => ?_) (fun h => ?_)
        · exact kX0_addVariables_99 X hs_X0_addVariables  h hH (lv_sub hl [] rfl)
        · refine lv_aload_n (pc := 82) hx hb dX0_addVariables_82 rfl (lv_at hl 0 rfl) ?_
          refine lv_aload_n (pc := 83) hx hb dX0_addVariables_83 rfl (lv_at hl 0 rfl) ?_
          refine gC_X0_15_4 (pc := 84) X hH dX0_addVariables_84 ?_
          refine gC_X0_43_1 (pc := 87) X hH dX0_addVariables_87 ?_
          refine lv_iload_n (pc := 90) hx hb dX0_addVariables_90 rfl (lv_at hl 1 rfl) ?_
          refine r_ld (pc := 91) X (heC_16 V w5) hH h dX0_addVariables_91 (fun v7 h => ?_)
          refine lv_iload_n (pc := 92) hx hb dX0_addVariables_92 rfl (lv_at hl 2 rfl) ?_
          refine lv_iload_n (pc := 93) hx hb dX0_addVariables_93 rfl (lv_at hl 3 rfl) ?_
          refine lv_iconst (pc := 94) (v := 1) hx hb dX0_addVariables_94 (by decide) ?_
          refine lv_iadd (pc := 95) hx hb dX0_addVariables_95 ?_
          refine r_cvV (pc := 96) (As := [.int v7, .int x2, .int (x3 + 1)]) (rest := []) X hH (fun x hx => hs_X0_addVariables _ _ _ _ _ hx) cw_X0_52 (heC_4 V w5) rfl rfl rfl (Nat.le_of_ble_eq_true rfl) hl.1 h dX0_addVariables_96 (fun w8 H locs h hH => ?_)
          exact kX0_addVariables_99 X hs_X0_addVariables  h hH (lv_sub hl [] rfl)
      · refine lv_aload_n (pc := 30) hx hb dX0_addVariables_30 rfl (lv_at hl 0 rfl) ?_
        refine gC_X0_9_4 (pc := 31) X hH dX0_addVariables_31 ?_
        refine lv_aload_n (pc := 34) hx hb dX0_addVariables_34 rfl (lv_at hl 0 rfl) ?_
        refine gC_X0_15_4 (pc := 35) X hH dX0_addVariables_35 ?_
        refine gC_X0_33_1 (pc := 38) X hH dX0_addVariables_38 ?_
        refine lv_iload_n (pc := 41) hx hb dX0_addVariables_41 rfl (lv_at hl 1 rfl) ?_
        refine r_ld (pc := 42) X (heC_14 V w2) hH h dX0_addVariables_42 (fun v9 h => ?_)
        refine lv_bipush (pc := 43) (v := 10) hx hb dX0_addVariables_43 (by decide) ?_
        refine lv_isub (pc := 45) hx hb dX0_addVariables_45 ?_
        refine lv_dup2_11 (pc := 46) hx hb dX0_addVariables_46 rfl rfl ?_
        refine r_ld (pc := 47) X (heC_29 V w2) hH h dX0_addVariables_47 (fun v10 h => ?_)
        refine lv_iload_n (pc := 48) hx hb dX0_addVariables_48 rfl (lv_at hl 2 rfl) ?_
        refine lv_iadd (pc := 49) hx hb dX0_addVariables_49 ?_
        refine r_st (pc := 50) X (heC_29 V w2) (hsC_29 V w2) hH h dX0_addVariables_50 (fun w11 H locs h hH => ?_)
        exact r_vret (pc := 51) X hH h dX0_addVariables_51
    · exact kX0_addVariables_18 X hs_X0_addVariables  h hH (lv_sub hl [] rfl)
def eX0_addVariables (N : Nat) : Nat → Wd → Int32 → Int32 → Int32 → Option (Wd)
  | 0 => fun _ _ _ _ => none
  | d + 1 => fun w x1 x2 x3 => bX0_addVariables_0 N d (eX0_addVariables N d) w x1 x2 x3
set_option maxHeartbeats 4000000 in
set_option maxRecDepth 20000 in
theorem mX0_addVariables {l : Launch} {V : Ev} {N d : Nat} {w : Wd} {x1 : Int32} {x2 : Int32} {x3 : Int32} {z : Wd} (h : eX0_addVariables N d w x1 x2 x3 = some z) : MetV l V (cC V) (AC V) yX0_addVariables cX0_addVariables 4 none d [.ref (V.2.2 4), .int x1, .int x2, .int x3] w z := by
  induction d generalizing w x1 x2 x3 z with
  | zero => exact c_none h
  | succ d ih =>
    refine Met.ofW (cc := cX0_addVariables) (maxL := 4) (ret := none) (by decide) rfl ?_
    intro p e s m args below meth c s₁ B hml hv
    obtain ⟨rfl, hP, hD, hK⟩ := hv
    have hts := atoms_spec (ws := .code yX0_addVariables cX0_addVariables 4 none :: gG) B.pre
    have X : CX V p s m ([.ref (V.2.2 4), .int x1, .int x2, .int x3] : List Value).toArray meth c cX0_addVariables 4 RX0 none := ⟨B.exec, B.bytes, hml, findClass_of_methodNamed B.named, fun w hw => hts w (List.mem_cons_of_mem _ hw), B.returns, B.notSynchronized, hK⟩
    have hl := lv_entry ([.ref (V.2.2 4), .int x1, .int x2, .int x3] : List Value) (n := 4) (Nat.le_of_ble_eq_true rfl)
    rw [lg_entry_eq]
    generalize (lg_sl ([.ref (V.2.2 4), .int x1, .int x2, .int x3] : List Value) ++ List.replicate (4 - (lg_sl ([.ref (V.2.2 4), .int x1, .int x2, .int x3] : List Value)).length) Slot.unset).toArray = ls at hl ⊢
    have hl : lv_has ls 4 [(0, .ref (V.2.2 4)), (1, .int x1), (2, .int x2), (3, .int x3)] := hl
    exact kX0_addVariables_0 (N := N) X (fun _ _ _ _ _ h => ih h) h ⟨hP, hD, va_S.rf⟩ hl
theorem dX0_hasVariablesOf_0 : decode cX0_hasVariablesOf 0 = .ok (.aload_n 0, 1) := by decide +kernel
theorem dX0_hasVariablesOf_1 : decode cX0_hasVariablesOf 1 = .ok (.getfield 9, 3) := by decide +kernel
theorem dX0_hasVariablesOf_4 : decode cX0_hasVariablesOf 4 = .ok (.iconst 0, 1) := by decide +kernel
theorem dX0_hasVariablesOf_5 : decode cX0_hasVariablesOf 5 = .ok (.invokestatic 46, 3) := by decide +kernel
theorem dX0_hasVariablesOf_8 : decode cX0_hasVariablesOf 8 = .ok (.aload_n 0, 1) := by decide +kernel
theorem dX0_hasVariablesOf_9 : decode cX0_hasVariablesOf 9 = .ok (.iload_n 1, 1) := by decide +kernel
theorem dX0_hasVariablesOf_10 : decode cX0_hasVariablesOf 10 = .ok (.iconst 1, 1) := by decide +kernel
theorem dX0_hasVariablesOf_11 : decode cX0_hasVariablesOf 11 = .ok (.iconst 1, 1) := by decide +kernel
theorem dX0_hasVariablesOf_12 : decode cX0_hasVariablesOf 12 = .ok (.invokevirtual 52, 3) := by decide +kernel
theorem dX0_hasVariablesOf_15 : decode cX0_hasVariablesOf 15 = .ok (.aload_n 0, 1) := by decide +kernel
theorem dX0_hasVariablesOf_16 : decode cX0_hasVariablesOf 16 = .ok (.iload_n 2, 1) := by decide +kernel
theorem dX0_hasVariablesOf_17 : decode cX0_hasVariablesOf 17 = .ok (.iconst (-1), 1) := by decide +kernel
theorem dX0_hasVariablesOf_18 : decode cX0_hasVariablesOf 18 = .ok (.iconst 1, 1) := by decide +kernel
theorem dX0_hasVariablesOf_19 : decode cX0_hasVariablesOf 19 = .ok (.invokevirtual 52, 3) := by decide +kernel
theorem dX0_hasVariablesOf_22 : decode cX0_hasVariablesOf 22 = .ok (.iconst 0, 1) := by decide +kernel
theorem dX0_hasVariablesOf_23 : decode cX0_hasVariablesOf 23 = .ok (.istore_n 3, 1) := by decide +kernel
theorem dX0_hasVariablesOf_24 : decode cX0_hasVariablesOf 24 = .ok (.iload_n 3, 1) := by decide +kernel
theorem dX0_hasVariablesOf_25 : decode cX0_hasVariablesOf 25 = .ok (.bipush 8, 2) := by decide +kernel
theorem dX0_hasVariablesOf_27 : decode cX0_hasVariablesOf 27 = .ok (.if_icmp .ge 20, 3) := by decide +kernel
theorem dX0_hasVariablesOf_30 : decode cX0_hasVariablesOf 30 = .ok (.aload_n 0, 1) := by decide +kernel
theorem dX0_hasVariablesOf_31 : decode cX0_hasVariablesOf 31 = .ok (.getfield 9, 3) := by decide +kernel
theorem dX0_hasVariablesOf_34 : decode cX0_hasVariablesOf 34 = .ok (.iload_n 3, 1) := by decide +kernel
theorem dX0_hasVariablesOf_35 : decode cX0_hasVariablesOf 35 = .ok (.iaload, 1) := by decide +kernel
theorem dX0_hasVariablesOf_36 : decode cX0_hasVariablesOf 36 = .ok (.ifCond .ge 5, 3) := by decide +kernel
theorem dX0_hasVariablesOf_39 : decode cX0_hasVariablesOf 39 = .ok (.iconst 0, 1) := by decide +kernel
theorem dX0_hasVariablesOf_40 : decode cX0_hasVariablesOf 40 = .ok (.ireturn, 1) := by decide +kernel
theorem dX0_hasVariablesOf_41 : decode cX0_hasVariablesOf 41 = .ok (.iinc 3 1, 3) := by decide +kernel
theorem dX0_hasVariablesOf_44 : decode cX0_hasVariablesOf 44 = .ok (.goto (-20), 3) := by decide +kernel
theorem dX0_hasVariablesOf_47 : decode cX0_hasVariablesOf 47 = .ok (.iconst 1, 1) := by decide +kernel
theorem dX0_hasVariablesOf_48 : decode cX0_hasVariablesOf 48 = .ok (.ireturn, 1) := by decide +kernel
def bX0_hasVariablesOf_24 (N d : Nat)  (rec24 : Wd → Int32 → Option (Wd × Int32)) (w : Wd) (x3 : Int32) : Option (Wd × Int32) :=
  if 8 ≤ x3 then (
    some (w, 1)
  ) else (
    c_ld w 30 8 x3 fun v4 =>
    if 0 ≤ v4 then (
      c_nm (x3 + 1) fun x3_5 =>
      rec24 w x3_5
    ) else (
      some (w, 0)
    )
  )
set_option maxHeartbeats 4000000 in
theorem kX0_hasVariablesOf_24 {V : Ev} {p : Program} {l : Launch} {e : Env} {N d : Nat} {s : State} {m : MethodId} {args : Array Value} {below : List Frame} {meth : Method} {c : Code} {z : Wd × Int32} (X : CX V p s m args meth c cX0_hasVariablesOf 4 RX0 (some .boolean))   {rec24 : Wd → Int32 → Option (Wd × Int32)} (hr24 : ∀ (w : Wd) (x3 : Int32) (H : Heap) (locs : List Loc) (ls : Array Slot), rec24 w x3 = some z → wH V (cC V) (AC V) s w H locs → lv_has ls 4 [(0, .ref (V.2.2 4)), (3, .int x3)] → W p l e (rmD (d + 1)) s m args below meth c H locs 0 0 (MQ below (CtI V (cC V) (AC V) z) args s 0 0 (AC V)) (F0 m 24 ls [])) {w : Wd} {x3 : Int32} {H : Heap} {locs : List Loc} {ls : Array Slot} (h : bX0_hasVariablesOf_24 N d  rec24 w x3 = some z) (hH : wH V (cC V) (AC V) s w H locs) (hl : lv_has ls 4 [(0, .ref (V.2.2 4)), (3, .int x3)]) : W p l e (rmD (d + 1)) s m args below meth c H locs 0 0 (MQ below (CtI V (cC V) (AC V) z) args s 0 0 (AC V)) (F0 m 24 ls []) := by
  unfold bX0_hasVariablesOf_24 at h
  obtain ⟨hx, hb, hml, hown, hg, hrt, hlk, hK⟩ := id X
  refine lv_iload_n (pc := 24) hx hb dX0_hasVariablesOf_24 rfl (lv_at hl 1 rfl) ?_
  refine lv_bipush (pc := 25) (v := 8) hx hb dX0_hasVariablesOf_25 (by decide) ?_
  refine b_icmp_ge (pc := 27) (tgt := 47) hx hb h dX0_hasVariablesOf_27 (by decide) (fun h => ?_) (fun h => ?_)
  · refine lv_iconst (pc := 47) (v := 1) hx hb dX0_hasVariablesOf_47 (by decide) ?_
    exact r_zretk (pc := 48) (by decide) X hH h dX0_hasVariablesOf_48
  · refine lv_aload_n (pc := 30) hx hb dX0_hasVariablesOf_30 rfl (lv_at hl 0 rfl) ?_
    refine gC_X0_9_4 (pc := 31) X hH dX0_hasVariablesOf_31 ?_
    refine lv_iload_n (pc := 34) hx hb dX0_hasVariablesOf_34 rfl (lv_at hl 1 rfl) ?_
    refine r_ld (pc := 35) X (heC_29 V w) hH h dX0_hasVariablesOf_35 (fun v4 h => ?_)
    refine b_if_ge (pc := 36) (tgt := 41) hx hb h dX0_hasVariablesOf_36 (by decide) (fun h => ?_) (fun h => ?_)
    · obtain ⟨x3_5, ex3_5, h⟩ := c_nm_ex h
      refine lv_iinc (pc := 41) (v := x3_5) (lv' := [(3, .int x3_5), (0, .ref (V.2.2 4))]) hx hb dX0_hasVariablesOf_41 hl (k := 1) rfl (by rw [← ex3_5]; rfl) (by decide) rfl (fun ls hl => ?_)
      refine lv_goto (pc := 44) (tgt := 24) hx hb dX0_hasVariablesOf_44 (by decide) ?_
      exact hr24 _ _ _ _ _ h hH (lv_sub hl [1, 0] rfl)
    · refine lv_iconst (pc := 39) (v := 0) hx hb dX0_hasVariablesOf_39 (by decide) ?_
      exact r_zretk (pc := 40) (by decide) X hH h dX0_hasVariablesOf_40
def fX0_hasVariablesOf_24 (N d : Nat)   : Nat → Wd → Int32 → Option (Wd × Int32)
  | 0 => fun _ _ => none
  | n + 1 => fun w x3 => bX0_hasVariablesOf_24 N d   (fX0_hasVariablesOf_24 N d   n) w x3
theorem lX0_hasVariablesOf_24 {V : Ev} {p : Program} {l : Launch} {e : Env} {N d : Nat} {s : State} {m : MethodId} {args : Array Value} {below : List Frame} {meth : Method} {c : Code} {z : Wd × Int32} (X : CX V p s m args meth c cX0_hasVariablesOf 4 RX0 (some .boolean))    (n : Nat) {w : Wd} {x3 : Int32} {H : Heap} {locs : List Loc} {ls : Array Slot} (h : fX0_hasVariablesOf_24 N d   n w x3 = some z) (hH : wH V (cC V) (AC V) s w H locs) (hl : lv_has ls 4 [(0, .ref (V.2.2 4)), (3, .int x3)]) : W p l e (rmD (d + 1)) s m args below meth c H locs 0 0 (MQ below (CtI V (cC V) (AC V) z) args s 0 0 (AC V)) (F0 m 24 ls []) := by
  induction n generalizing w x3 H locs ls with
  | zero => exact c_none h
  | succ n ih => exact kX0_hasVariablesOf_24 (N := N) X  (fun _ _ _ _ _ h hH hl => ih h hH hl) h hH hl
def bX0_hasVariablesOf_0 (N d : Nat)   (w : Wd) (x1 : Int32) (x2 : Int32) : Option (Wd × Int32) :=
  c_cv (eJ7_fill_53178_r30 N d w 0) fun w1 =>
  c_cv (eX0_addVariables N d w1 x1 1 1) fun w2 =>
  c_cv (eX0_addVariables N d w2 x2 (-1) 1) fun w3 =>
  fX0_hasVariablesOf_24 N d   N w3 ((0 : Int32))
set_option maxHeartbeats 4000000 in
theorem kX0_hasVariablesOf_0 {V : Ev} {p : Program} {l : Launch} {e : Env} {N d : Nat} {s : State} {m : MethodId} {args : Array Value} {below : List Frame} {meth : Method} {c : Code} {z : Wd × Int32} (X : CX V p s m args meth c cX0_hasVariablesOf 4 RX0 (some .boolean))    {w : Wd} {x1 : Int32} {x2 : Int32} {H : Heap} {locs : List Loc} {ls : Array Slot} (h : bX0_hasVariablesOf_0 N d   w x1 x2 = some z) (hH : wH V (cC V) (AC V) s w H locs) (hl : lv_has ls 4 [(0, .ref (V.2.2 4)), (1, .int x1), (2, .int x2)]) : W p l e (rmD (d + 1)) s m args below meth c H locs 0 0 (MQ below (CtI V (cC V) (AC V) z) args s 0 0 (AC V)) (F0 m 0 ls []) := by
  unfold bX0_hasVariablesOf_0 at h
  obtain ⟨hx, hb, hml, hown, hg, hrt, hlk, hK⟩ := id X
  refine lv_aload_n (pc := 0) hx hb dX0_hasVariablesOf_0 rfl (lv_at hl 0 rfl) ?_
  refine gC_X0_9_4 (pc := 1) X hH dX0_hasVariablesOf_1 ?_
  refine lv_iconst (pc := 4) (v := 0) hx hb dX0_hasVariablesOf_4 (by decide) ?_
  refine r_csV (pc := 5) (As := [.ref (V.2.2 29), .int 0]) (rest := []) X hH (fun x hx => mJ7_fill_53178_r30 hx) cs_X0_46 rfl rfl (Nat.le_of_ble_eq_true rfl) hl.1 h dX0_hasVariablesOf_5 (fun w1 H locs h hH => ?_)
  refine lv_aload_n (pc := 8) hx hb dX0_hasVariablesOf_8 rfl (lv_at hl 0 rfl) ?_
  refine lv_iload_n (pc := 9) hx hb dX0_hasVariablesOf_9 rfl (lv_at hl 1 rfl) ?_
  refine lv_iconst (pc := 10) (v := 1) hx hb dX0_hasVariablesOf_10 (by decide) ?_
  refine lv_iconst (pc := 11) (v := 1) hx hb dX0_hasVariablesOf_11 (by decide) ?_
  refine r_cvV (pc := 12) (As := [.int x1, .int 1, .int 1]) (rest := []) X hH (fun x hx => mX0_addVariables hx) cw_X0_52 (heC_4 V w1) rfl rfl rfl (Nat.le_of_ble_eq_true rfl) hl.1 h dX0_hasVariablesOf_12 (fun w2 H locs h hH => ?_)
  refine lv_aload_n (pc := 15) hx hb dX0_hasVariablesOf_15 rfl (lv_at hl 0 rfl) ?_
  refine lv_iload_n (pc := 16) hx hb dX0_hasVariablesOf_16 rfl (lv_at hl 2 rfl) ?_
  refine lv_iconst (pc := 17) (v := -1) hx hb dX0_hasVariablesOf_17 (by decide) ?_
  refine lv_iconst (pc := 18) (v := 1) hx hb dX0_hasVariablesOf_18 (by decide) ?_
  refine r_cvV (pc := 19) (As := [.int x2, .int (-1), .int 1]) (rest := []) X hH (fun x hx => mX0_addVariables hx) cw_X0_52 (heC_4 V w2) rfl rfl rfl (Nat.le_of_ble_eq_true rfl) hl.1 h dX0_hasVariablesOf_19 (fun w3 H locs h hH => ?_)
  refine lv_iconst (pc := 22) (v := 0) hx hb dX0_hasVariablesOf_22 (by decide) ?_
  refine lv_istore_n (pc := 23) (lv' := [(3, .int ((0 : Int32))), (0, .ref (V.2.2 4)), (1, .int x1), (2, .int x2)]) hx hb dX0_hasVariablesOf_23 rfl hl (by decide) rfl (fun ls hl => ?_)
  exact lX0_hasVariablesOf_24 X   N h hH (lv_sub hl [1, 0] rfl)
def eX0_hasVariablesOf (N : Nat) : Nat → Wd → Int32 → Int32 → Option (Wd × Int32)
  | 0 => fun _ _ _ => none
  | d + 1 => fun w x1 x2 => bX0_hasVariablesOf_0 N d  w x1 x2
set_option maxHeartbeats 4000000 in
set_option maxRecDepth 20000 in
theorem mX0_hasVariablesOf {l : Launch} {V : Ev} {N d : Nat} {w : Wd} {x1 : Int32} {x2 : Int32} {z : Wd × Int32} (h : eX0_hasVariablesOf N d w x1 x2 = some z) : MetI l V (cC V) (AC V) yX0_hasVariablesOf cX0_hasVariablesOf 4 (some .boolean) d [.ref (V.2.2 4), .int x1, .int x2] w z := by
  cases d with
  | zero => exact c_none h
  | succ d =>
    refine Met.ofW (cc := cX0_hasVariablesOf) (maxL := 4) (ret := (some .boolean)) (by decide) rfl ?_
    intro p e s m args below meth c s₁ B hml hv
    obtain ⟨rfl, hP, hD, hK⟩ := hv
    have hts := atoms_spec (ws := .code yX0_hasVariablesOf cX0_hasVariablesOf 4 (some .boolean) :: gG) B.pre
    have X : CX V p s m ([.ref (V.2.2 4), .int x1, .int x2] : List Value).toArray meth c cX0_hasVariablesOf 4 RX0 (some .boolean) := ⟨B.exec, B.bytes, hml, findClass_of_methodNamed B.named, fun w hw => hts w (List.mem_cons_of_mem _ hw), B.returns, B.notSynchronized, hK⟩
    have hl := lv_entry ([.ref (V.2.2 4), .int x1, .int x2] : List Value) (n := 4) (Nat.le_of_ble_eq_true rfl)
    rw [lg_entry_eq]
    generalize (lg_sl ([.ref (V.2.2 4), .int x1, .int x2] : List Value) ++ List.replicate (4 - (lg_sl ([.ref (V.2.2 4), .int x1, .int x2] : List Value)).length) Slot.unset).toArray = ls at hl ⊢
    have hl : lv_has ls 4 [(0, .ref (V.2.2 4)), (1, .int x1), (2, .int x2)] := hl
    exact kX0_hasVariablesOf_0 (N := N) X  h ⟨hP, hD, va_S.rf⟩ hl
