theorem dX11_rule_0 : decode cX11_rule 0 = .ok (.aload_n 0, 1) := by decide +kernel
theorem dX11_rule_1 : decode cX11_rule 1 = .ok (.iconst 0, 1) := by decide +kernel
theorem dX11_rule_2 : decode cX11_rule 2 = .ok (.putfield 111, 3) := by decide +kernel
theorem dX11_rule_5 : decode cX11_rule 5 = .ok (.aload_n 0, 1) := by decide +kernel
theorem dX11_rule_6 : decode cX11_rule 6 = .ok (.iload_n 1, 1) := by decide +kernel
theorem dX11_rule_7 : decode cX11_rule 7 = .ok (.invokevirtual 206, 3) := by decide +kernel
theorem dX11_rule_10 : decode cX11_rule 10 = .ok (.ifCond .eq 11, 3) := by decide +kernel
theorem dX11_rule_13 : decode cX11_rule 13 = .ok (.aload_n 0, 1) := by decide +kernel
theorem dX11_rule_14 : decode cX11_rule 14 = .ok (.iload_n 2, 1) := by decide +kernel
theorem dX11_rule_15 : decode cX11_rule 15 = .ok (.invokevirtual 206, 3) := by decide +kernel
theorem dX11_rule_18 : decode cX11_rule 18 = .ok (.ifCond .ne 6, 3) := by decide +kernel
theorem dX11_rule_21 : decode cX11_rule 21 = .ok (.bipush (-2), 2) := by decide +kernel
theorem dX11_rule_23 : decode cX11_rule 23 = .ok (.ireturn, 1) := by decide +kernel
theorem dX11_rule_24 : decode cX11_rule 24 = .ok (.aload_n 0, 1) := by decide +kernel
theorem dX11_rule_25 : decode cX11_rule 25 = .ok (.iload_n 1, 1) := by decide +kernel
theorem dX11_rule_26 : decode cX11_rule 26 = .ok (.invokevirtual 117, 3) := by decide +kernel
theorem dX11_rule_29 : decode cX11_rule 29 = .ok (.ifCond .ne 33, 3) := by decide +kernel
theorem dX11_rule_32 : decode cX11_rule 32 = .ok (.aload_n 0, 1) := by decide +kernel
theorem dX11_rule_33 : decode cX11_rule 33 = .ok (.getfield 25, 3) := by decide +kernel
theorem dX11_rule_36 : decode cX11_rule 36 = .ok (.iload_n 1, 1) := by decide +kernel
theorem dX11_rule_37 : decode cX11_rule 37 = .ok (.laload, 1) := by decide +kernel
theorem dX11_rule_38 : decode cX11_rule 38 = .ok (.ldc2_w 234, 3) := by decide +kernel
theorem dX11_rule_41 : decode cX11_rule 41 = .ok (.lcmp, 1) := by decide +kernel
theorem dX11_rule_42 : decode cX11_rule 42 = .ok (.ifCond .gt 20, 3) := by decide +kernel
theorem dX11_rule_45 : decode cX11_rule 45 = .ok (.aload_n 0, 1) := by decide +kernel
theorem dX11_rule_46 : decode cX11_rule 46 = .ok (.getfield 25, 3) := by decide +kernel
theorem dX11_rule_49 : decode cX11_rule 49 = .ok (.iload_n 2, 1) := by decide +kernel
theorem dX11_rule_50 : decode cX11_rule 50 = .ok (.laload, 1) := by decide +kernel
theorem dX11_rule_51 : decode cX11_rule 51 = .ok (.ldc2_w 234, 3) := by decide +kernel
theorem dX11_rule_54 : decode cX11_rule 54 = .ok (.lcmp, 1) := by decide +kernel
theorem dX11_rule_55 : decode cX11_rule 55 = .ok (.ifCond .gt 7, 3) := by decide +kernel
theorem dX11_rule_58 : decode cX11_rule 58 = .ok (.iconst 1, 1) := by decide +kernel
theorem dX11_rule_59 : decode cX11_rule 59 = .ok (.goto 4, 3) := by decide +kernel
theorem dX11_rule_62 : decode cX11_rule 62 = .ok (.iconst 0, 1) := by decide +kernel
theorem dX11_rule_63 : decode cX11_rule 63 = .ok (.istore_n 3, 1) := by decide +kernel
theorem dX11_rule_64 : decode cX11_rule 64 = .ok (.iconst 0, 1) := by decide +kernel
theorem dX11_rule_65 : decode cX11_rule 65 = .ok (.istore 4, 2) := by decide +kernel
theorem dX11_rule_67 : decode cX11_rule 67 = .ok (.iload 4, 2) := by decide +kernel
theorem dX11_rule_69 : decode cX11_rule 69 = .ok (.bipush 8, 2) := by decide +kernel
theorem dX11_rule_71 : decode cX11_rule 71 = .ok (.if_icmp .ge 76, 3) := by decide +kernel
theorem dX11_rule_74 : decode cX11_rule 74 = .ok (.aload_n 0, 1) := by decide +kernel
theorem dX11_rule_75 : decode cX11_rule 75 = .ok (.getfield 32, 3) := by decide +kernel
theorem dX11_rule_78 : decode cX11_rule 78 = .ok (.bipush 8, 2) := by decide +kernel
theorem dX11_rule_80 : decode cX11_rule 80 = .ok (.iload_n 1, 1) := by decide +kernel
theorem dX11_rule_81 : decode cX11_rule 81 = .ok (.imul, 1) := by decide +kernel
theorem dX11_rule_82 : decode cX11_rule 82 = .ok (.iload 4, 2) := by decide +kernel
theorem dX11_rule_84 : decode cX11_rule 84 = .ok (.iadd, 1) := by decide +kernel
theorem dX11_rule_85 : decode cX11_rule 85 = .ok (.laload, 1) := by decide +kernel
theorem dX11_rule_86 : decode cX11_rule 86 = .ok (.lconst 0, 1) := by decide +kernel
theorem dX11_rule_87 : decode cX11_rule 87 = .ok (.lcmp, 1) := by decide +kernel
theorem dX11_rule_88 : decode cX11_rule 88 = .ok (.ifCond .le 7, 3) := by decide +kernel
theorem dX11_rule_91 : decode cX11_rule 91 = .ok (.iconst 1, 1) := by decide +kernel
theorem dX11_rule_92 : decode cX11_rule 92 = .ok (.goto 4, 3) := by decide +kernel
theorem dX11_rule_95 : decode cX11_rule 95 = .ok (.iconst 0, 1) := by decide +kernel
theorem dX11_rule_96 : decode cX11_rule 96 = .ok (.istore 5, 2) := by decide +kernel
theorem dX11_rule_98 : decode cX11_rule 98 = .ok (.iload_n 3, 1) := by decide +kernel
theorem dX11_rule_99 : decode cX11_rule 99 = .ok (.ifCond .eq 40, 3) := by decide +kernel
theorem dX11_rule_102 : decode cX11_rule 102 = .ok (.iload 4, 2) := by decide +kernel
theorem dX11_rule_104 : decode cX11_rule 104 = .ok (.iconst 4, 1) := by decide +kernel
theorem dX11_rule_105 : decode cX11_rule 105 = .ok (.if_icmp .lt 8, 3) := by decide +kernel
theorem dX11_rule_108 : decode cX11_rule 108 = .ok (.iload 5, 2) := by decide +kernel
theorem dX11_rule_110 : decode cX11_rule 110 = .ok (.ifCond .ne 29, 3) := by decide +kernel
theorem dX11_rule_113 : decode cX11_rule 113 = .ok (.iload 5, 2) := by decide +kernel
theorem dX11_rule_115 : decode cX11_rule 115 = .ok (.ifCond .ne 20, 3) := by decide +kernel
theorem dX11_rule_118 : decode cX11_rule 118 = .ok (.aload_n 0, 1) := by decide +kernel
theorem dX11_rule_119 : decode cX11_rule 119 = .ok (.getfield 32, 3) := by decide +kernel
theorem dX11_rule_122 : decode cX11_rule 122 = .ok (.bipush 8, 2) := by decide +kernel
theorem dX11_rule_124 : decode cX11_rule 124 = .ok (.iload_n 2, 1) := by decide +kernel
theorem dX11_rule_125 : decode cX11_rule 125 = .ok (.imul, 1) := by decide +kernel
theorem dX11_rule_126 : decode cX11_rule 126 = .ok (.iload 4, 2) := by decide +kernel
theorem dX11_rule_128 : decode cX11_rule 128 = .ok (.iadd, 1) := by decide +kernel
theorem dX11_rule_129 : decode cX11_rule 129 = .ok (.laload, 1) := by decide +kernel
theorem dX11_rule_130 : decode cX11_rule 130 = .ok (.lconst 0, 1) := by decide +kernel
theorem dX11_rule_131 : decode cX11_rule 131 = .ok (.lcmp, 1) := by decide +kernel
theorem dX11_rule_132 : decode cX11_rule 132 = .ok (.ifCond .ne 7, 3) := by decide +kernel
theorem dX11_rule_135 : decode cX11_rule 135 = .ok (.iconst 1, 1) := by decide +kernel
theorem dX11_rule_136 : decode cX11_rule 136 = .ok (.goto 4, 3) := by decide +kernel
theorem dX11_rule_139 : decode cX11_rule 139 = .ok (.iconst 0, 1) := by decide +kernel
theorem dX11_rule_140 : decode cX11_rule 140 = .ok (.istore_n 3, 1) := by decide +kernel
theorem dX11_rule_141 : decode cX11_rule 141 = .ok (.iinc 4 1, 3) := by decide +kernel
theorem dX11_rule_144 : decode cX11_rule 144 = .ok (.goto (-77), 3) := by decide +kernel
theorem dX11_rule_147 : decode cX11_rule 147 = .ok (.iload_n 3, 1) := by decide +kernel
theorem dX11_rule_148 : decode cX11_rule 148 = .ok (.ifCond .ne 6, 3) := by decide +kernel
theorem dX11_rule_151 : decode cX11_rule 151 = .ok (.bipush (-3), 2) := by decide +kernel
theorem dX11_rule_153 : decode cX11_rule 153 = .ok (.ireturn, 1) := by decide +kernel
theorem dX11_rule_154 : decode cX11_rule 154 = .ok (.aload_n 0, 1) := by decide +kernel
theorem dX11_rule_155 : decode cX11_rule 155 = .ok (.getfield 158, 3) := by decide +kernel
theorem dX11_rule_158 : decode cX11_rule 158 = .ok (.bipush 16, 2) := by decide +kernel
theorem dX11_rule_160 : decode cX11_rule 160 = .ok (.if_icmp .ne 6, 3) := by decide +kernel
theorem dX11_rule_163 : decode cX11_rule 163 = .ok (.bipush (-4), 2) := by decide +kernel
theorem dX11_rule_165 : decode cX11_rule 165 = .ok (.ireturn, 1) := by decide +kernel
theorem dX11_rule_166 : decode cX11_rule 166 = .ok (.aload_n 0, 1) := by decide +kernel
theorem dX11_rule_167 : decode cX11_rule 167 = .ok (.getfield 35, 3) := by decide +kernel
theorem dX11_rule_170 : decode cX11_rule 170 = .ok (.aload_n 0, 1) := by decide +kernel
theorem dX11_rule_171 : decode cX11_rule 171 = .ok (.getfield 158, 3) := by decide +kernel
theorem dX11_rule_174 : decode cX11_rule 174 = .ok (.iload_n 1, 1) := by decide +kernel
theorem dX11_rule_175 : decode cX11_rule 175 = .ok (.iastore, 1) := by decide +kernel
theorem dX11_rule_176 : decode cX11_rule 176 = .ok (.aload_n 0, 1) := by decide +kernel
theorem dX11_rule_177 : decode cX11_rule 177 = .ok (.getfield 38, 3) := by decide +kernel
theorem dX11_rule_180 : decode cX11_rule 180 = .ok (.aload_n 0, 1) := by decide +kernel
theorem dX11_rule_181 : decode cX11_rule 181 = .ok (.getfield 158, 3) := by decide +kernel
theorem dX11_rule_184 : decode cX11_rule 184 = .ok (.iload_n 2, 1) := by decide +kernel
theorem dX11_rule_185 : decode cX11_rule 185 = .ok (.iastore, 1) := by decide +kernel
theorem dX11_rule_186 : decode cX11_rule 186 = .ok (.aload_n 0, 1) := by decide +kernel
theorem dX11_rule_187 : decode cX11_rule 187 = .ok (.getfield 41, 3) := by decide +kernel
theorem dX11_rule_190 : decode cX11_rule 190 = .ok (.aload_n 0, 1) := by decide +kernel
theorem dX11_rule_191 : decode cX11_rule 191 = .ok (.getfield 158, 3) := by decide +kernel
theorem dX11_rule_194 : decode cX11_rule 194 = .ok (.iconst 1, 1) := by decide +kernel
theorem dX11_rule_195 : decode cX11_rule 195 = .ok (.bastore, 1) := by decide +kernel
theorem dX11_rule_196 : decode cX11_rule 196 = .ok (.aload_n 0, 1) := by decide +kernel
theorem dX11_rule_197 : decode cX11_rule 197 = .ok (.dup, 1) := by decide +kernel
theorem dX11_rule_198 : decode cX11_rule 198 = .ok (.getfield 158, 3) := by decide +kernel
theorem dX11_rule_201 : decode cX11_rule 201 = .ok (.iconst 1, 1) := by decide +kernel
theorem dX11_rule_202 : decode cX11_rule 202 = .ok (.iadd, 1) := by decide +kernel
theorem dX11_rule_203 : decode cX11_rule 203 = .ok (.putfield 158, 3) := by decide +kernel
theorem dX11_rule_206 : decode cX11_rule 206 = .ok (.aload_n 0, 1) := by decide +kernel
theorem dX11_rule_207 : decode cX11_rule 207 = .ok (.getfield 158, 3) := by decide +kernel
theorem dX11_rule_210 : decode cX11_rule 210 = .ok (.iconst 1, 1) := by decide +kernel
theorem dX11_rule_211 : decode cX11_rule 211 = .ok (.isub, 1) := by decide +kernel
theorem dX11_rule_212 : decode cX11_rule 212 = .ok (.ireturn, 1) := by decide +kernel
def bX11_rule_21 (N d : Nat)   (w : Wd)  : Option (Wd × Int32) :=
  some (w, -2)
set_option maxHeartbeats 4000000 in
theorem kX11_rule_21 {V : Ev} {p : Program} {l : Launch} {e : Env} {N d : Nat} {s : State} {m : MethodId} {args : Array Value} {below : List Frame} {meth : Method} {c : Code} {z : Wd × Int32} (X : CX V p s m args meth c cX11_rule 6 RX11 (some .int))    {w : Wd}  {H : Heap} {locs : List Loc} {ls : Array Slot} (h : bX11_rule_21 N d   w  = some z) (hH : wH V (cM V) (AM V) s w H locs) (hl : lv_has ls 6 []) : W p l e (rmD (d + 1)) s m args below meth c H locs 0 0 (MQ below (CtI V (cM V) (AM V) z) args s 0 0 (AM V)) (F0 m 21 ls []) := by
  unfold bX11_rule_21 at h
  obtain ⟨hx, hb, hml, hown, hg, hrt, hlk, hK⟩ := id X
  refine lv_bipush (pc := 21) (v := -2) hx hb dX11_rule_21 (by decide) ?_
  exact r_iret (pc := 23) X hH h dX11_rule_23
def bX11_rule_140 (N d : Nat)  (rec67 : Wd → Int32 → Int32 → Int32 → Int32 → Option (Wd × Int32)) (w : Wd) (x1 : Int32) (x2 : Int32) (x4 : Int32) (y0 : Int32) : Option (Wd × Int32) :=
  c_nm (x4 + 1) fun x4_13 =>
  rec67 w x1 x2 y0 x4_13
set_option maxHeartbeats 4000000 in
theorem kX11_rule_140 {V : Ev} {p : Program} {l : Launch} {e : Env} {N d : Nat} {s : State} {m : MethodId} {args : Array Value} {below : List Frame} {meth : Method} {c : Code} {z : Wd × Int32} (X : CX V p s m args meth c cX11_rule 6 RX11 (some .int))   {rec67 : Wd → Int32 → Int32 → Int32 → Int32 → Option (Wd × Int32)} (hr67 : ∀ (w : Wd) (x1 : Int32) (x2 : Int32) (x3 : Int32) (x4 : Int32) (H : Heap) (locs : List Loc) (ls : Array Slot), rec67 w x1 x2 x3 x4 = some z → wH V (cM V) (AM V) s w H locs → lv_has ls 6 [(0, .ref (V.2.2 0)), (1, .int x1), (2, .int x2), (3, .int x3), (4, .int x4)] → W p l e (rmD (d + 1)) s m args below meth c H locs 0 0 (MQ below (CtI V (cM V) (AM V) z) args s 0 0 (AM V)) (F0 m 67 ls [])) {w : Wd} {x1 : Int32} {x2 : Int32} {x4 : Int32} {y0 : Int32} {H : Heap} {locs : List Loc} {ls : Array Slot} (h : bX11_rule_140 N d  rec67 w x1 x2 x4 y0 = some z) (hH : wH V (cM V) (AM V) s w H locs) (hl : lv_has ls 6 [(0, .ref (V.2.2 0)), (1, .int x1), (2, .int x2), (4, .int x4)]) : W p l e (rmD (d + 1)) s m args below meth c H locs 0 0 (MQ below (CtI V (cM V) (AM V) z) args s 0 0 (AM V)) (F0 m 140 ls [.int y0]) := by
  unfold bX11_rule_140 at h
  obtain ⟨hx, hb, hml, hown, hg, hrt, hlk, hK⟩ := id X
  refine lv_istore_n (pc := 140) (lv' := [(3, .int y0), (0, .ref (V.2.2 0)), (1, .int x1), (2, .int x2), (4, .int x4)]) hx hb dX11_rule_140 rfl hl (by decide) rfl (fun ls hl => ?_)
  obtain ⟨x4_13, ex4_13, h⟩ := c_nm_ex h
  refine lv_iinc (pc := 141) (v := x4_13) (lv' := [(4, .int x4_13), (3, .int y0), (0, .ref (V.2.2 0)), (1, .int x1), (2, .int x2)]) hx hb dX11_rule_141 hl (k := 4) rfl (by rw [← ex4_13]; rfl) (by decide) rfl (fun ls hl => ?_)
  refine lv_goto (pc := 144) (tgt := 67) hx hb dX11_rule_144 (by decide) ?_
  exact hr67 _ _ _ _ _ _ _ _ h hH (lv_sub hl [2, 3, 4, 1, 0] rfl)
def bX11_rule_139 (N d : Nat)  (rec67 : Wd → Int32 → Int32 → Int32 → Int32 → Option (Wd × Int32)) (w : Wd) (x1 : Int32) (x2 : Int32) (x4 : Int32) : Option (Wd × Int32) :=
  bX11_rule_140 N d  rec67 w x1 x2 x4 0
set_option maxHeartbeats 4000000 in
theorem kX11_rule_139 {V : Ev} {p : Program} {l : Launch} {e : Env} {N d : Nat} {s : State} {m : MethodId} {args : Array Value} {below : List Frame} {meth : Method} {c : Code} {z : Wd × Int32} (X : CX V p s m args meth c cX11_rule 6 RX11 (some .int))   {rec67 : Wd → Int32 → Int32 → Int32 → Int32 → Option (Wd × Int32)} (hr67 : ∀ (w : Wd) (x1 : Int32) (x2 : Int32) (x3 : Int32) (x4 : Int32) (H : Heap) (locs : List Loc) (ls : Array Slot), rec67 w x1 x2 x3 x4 = some z → wH V (cM V) (AM V) s w H locs → lv_has ls 6 [(0, .ref (V.2.2 0)), (1, .int x1), (2, .int x2), (3, .int x3), (4, .int x4)] → W p l e (rmD (d + 1)) s m args below meth c H locs 0 0 (MQ below (CtI V (cM V) (AM V) z) args s 0 0 (AM V)) (F0 m 67 ls [])) {w : Wd} {x1 : Int32} {x2 : Int32} {x4 : Int32} {H : Heap} {locs : List Loc} {ls : Array Slot} (h : bX11_rule_139 N d  rec67 w x1 x2 x4 = some z) (hH : wH V (cM V) (AM V) s w H locs) (hl : lv_has ls 6 [(0, .ref (V.2.2 0)), (1, .int x1), (2, .int x2), (4, .int x4)]) : W p l e (rmD (d + 1)) s m args below meth c H locs 0 0 (MQ below (CtI V (cM V) (AM V) z) args s 0 0 (AM V)) (F0 m 139 ls []) := by
  unfold bX11_rule_139 at h
  obtain ⟨hx, hb, hml, hown, hg, hrt, hlk, hK⟩ := id X
  refine lv_iconst (pc := 139) (v := 0) hx hb dX11_rule_139 (by decide) ?_
  exact kX11_rule_140 X  hr67 h hH (lv_sub hl [0, 1, 2, 3] rfl)
def bX11_rule_135 (N d : Nat)  (rec67 : Wd → Int32 → Int32 → Int32 → Int32 → Option (Wd × Int32)) (w : Wd) (x1 : Int32) (x2 : Int32) (x4 : Int32) : Option (Wd × Int32) :=
  bX11_rule_140 N d  rec67 w x1 x2 x4 1
set_option maxHeartbeats 4000000 in
theorem kX11_rule_135 {V : Ev} {p : Program} {l : Launch} {e : Env} {N d : Nat} {s : State} {m : MethodId} {args : Array Value} {below : List Frame} {meth : Method} {c : Code} {z : Wd × Int32} (X : CX V p s m args meth c cX11_rule 6 RX11 (some .int))   {rec67 : Wd → Int32 → Int32 → Int32 → Int32 → Option (Wd × Int32)} (hr67 : ∀ (w : Wd) (x1 : Int32) (x2 : Int32) (x3 : Int32) (x4 : Int32) (H : Heap) (locs : List Loc) (ls : Array Slot), rec67 w x1 x2 x3 x4 = some z → wH V (cM V) (AM V) s w H locs → lv_has ls 6 [(0, .ref (V.2.2 0)), (1, .int x1), (2, .int x2), (3, .int x3), (4, .int x4)] → W p l e (rmD (d + 1)) s m args below meth c H locs 0 0 (MQ below (CtI V (cM V) (AM V) z) args s 0 0 (AM V)) (F0 m 67 ls [])) {w : Wd} {x1 : Int32} {x2 : Int32} {x4 : Int32} {H : Heap} {locs : List Loc} {ls : Array Slot} (h : bX11_rule_135 N d  rec67 w x1 x2 x4 = some z) (hH : wH V (cM V) (AM V) s w H locs) (hl : lv_has ls 6 [(0, .ref (V.2.2 0)), (1, .int x1), (2, .int x2), (4, .int x4)]) : W p l e (rmD (d + 1)) s m args below meth c H locs 0 0 (MQ below (CtI V (cM V) (AM V) z) args s 0 0 (AM V)) (F0 m 135 ls []) := by
  unfold bX11_rule_135 at h
  obtain ⟨hx, hb, hml, hown, hg, hrt, hlk, hK⟩ := id X
  refine lv_iconst (pc := 135) (v := 1) hx hb dX11_rule_135 (by decide) ?_
  refine lv_goto (pc := 136) (tgt := 140) hx hb dX11_rule_136 (by decide) ?_
  exact kX11_rule_140 X  hr67 h hH (lv_sub hl [0, 1, 2, 3] rfl)
def bX11_rule_113 (N d : Nat)  (rec67 : Wd → Int32 → Int32 → Int32 → Int32 → Option (Wd × Int32)) (w : Wd) (x1 : Int32) (x2 : Int32) (x4 : Int32) (x5 : Int32) : Option (Wd × Int32) :=
  if x5 = 0 then (
    c_ll w 8 8000 ((8 * x2) + x4) fun v14 =>
    if (lg_cmp v14 0) = 0 then (
      bX11_rule_135 N d  rec67 w x1 x2 x4
    ) else (
      bX11_rule_139 N d  rec67 w x1 x2 x4
    )
  ) else (
    bX11_rule_135 N d  rec67 w x1 x2 x4
  )
set_option maxHeartbeats 4000000 in
theorem kX11_rule_113 {V : Ev} {p : Program} {l : Launch} {e : Env} {N d : Nat} {s : State} {m : MethodId} {args : Array Value} {below : List Frame} {meth : Method} {c : Code} {z : Wd × Int32} (X : CX V p s m args meth c cX11_rule 6 RX11 (some .int))   {rec67 : Wd → Int32 → Int32 → Int32 → Int32 → Option (Wd × Int32)} (hr67 : ∀ (w : Wd) (x1 : Int32) (x2 : Int32) (x3 : Int32) (x4 : Int32) (H : Heap) (locs : List Loc) (ls : Array Slot), rec67 w x1 x2 x3 x4 = some z → wH V (cM V) (AM V) s w H locs → lv_has ls 6 [(0, .ref (V.2.2 0)), (1, .int x1), (2, .int x2), (3, .int x3), (4, .int x4)] → W p l e (rmD (d + 1)) s m args below meth c H locs 0 0 (MQ below (CtI V (cM V) (AM V) z) args s 0 0 (AM V)) (F0 m 67 ls [])) {w : Wd} {x1 : Int32} {x2 : Int32} {x4 : Int32} {x5 : Int32} {H : Heap} {locs : List Loc} {ls : Array Slot} (h : bX11_rule_113 N d  rec67 w x1 x2 x4 x5 = some z) (hH : wH V (cM V) (AM V) s w H locs) (hl : lv_has ls 6 [(0, .ref (V.2.2 0)), (1, .int x1), (2, .int x2), (4, .int x4), (5, .int x5)]) : W p l e (rmD (d + 1)) s m args below meth c H locs 0 0 (MQ below (CtI V (cM V) (AM V) z) args s 0 0 (AM V)) (F0 m 113 ls []) := by
  unfold bX11_rule_113 at h
  obtain ⟨hx, hb, hml, hown, hg, hrt, hlk, hK⟩ := id X
  refine lv_iload (pc := 113) hx hb dX11_rule_113 (lv_at hl 4 rfl) ?_
  refine b_if_ne (pc := 115) (tgt := 135) hx hb h dX11_rule_115 (by decide) (fun h => ?_) (fun h => ?_)
  · exact kX11_rule_135 X  hr67 h hH (lv_sub hl [0, 1, 2, 3] rfl)
  · refine lv_aload_n (pc := 118) hx hb dX11_rule_118 rfl (lv_at hl 0 rfl) ?_
    refine gM_X11_32_0 (pc := 119) X hH dX11_rule_119 ?_
    refine lv_bipush (pc := 122) (v := 8) hx hb dX11_rule_122 (by decide) ?_
    refine lv_iload_n (pc := 124) hx hb dX11_rule_124 rfl (lv_at hl 2 rfl) ?_
    refine lv_imul (pc := 125) hx hb dX11_rule_125 ?_
    refine lv_iload (pc := 126) hx hb dX11_rule_126 (lv_at hl 3 rfl) ?_
    refine lv_iadd (pc := 128) hx hb dX11_rule_128 ?_
    refine r_ll (pc := 129) X (heM_8 V w) hH h dX11_rule_129 (fun v14 h => ?_)
    refine lv_lconst (pc := 130) (v := 0) hx hb dX11_rule_130 (by decide) ?_
    refine W.lcmp (pc := 131) hx hb dX11_rule_131 ?_
    refine b_if_ne (pc := 132) (tgt := 139) hx hb h dX11_rule_132 (by decide) (fun h => ?_) (fun h => ?_)
    · exact kX11_rule_139 X  hr67 h hH (lv_sub hl [0, 1, 2, 3] rfl)
    · exact kX11_rule_135 X  hr67 h hH (lv_sub hl [0, 1, 2, 3] rfl)
def bX11_rule_96 (N d : Nat)  (rec67 : Wd → Int32 → Int32 → Int32 → Int32 → Option (Wd × Int32)) (w : Wd) (x1 : Int32) (x2 : Int32) (x3 : Int32) (x4 : Int32) (y0 : Int32) : Option (Wd × Int32) :=
  if x3 = 0 then (
    bX11_rule_139 N d  rec67 w x1 x2 x4
  ) else (
    if x4 < 4 then (
      bX11_rule_113 N d  rec67 w x1 x2 x4 y0
    ) else (
      if y0 = 0 then (
        bX11_rule_113 N d  rec67 w x1 x2 x4 y0
      ) else (
        bX11_rule_139 N d  rec67 w x1 x2 x4
      )
    )
  )
set_option maxHeartbeats 4000000 in
theorem kX11_rule_96 {V : Ev} {p : Program} {l : Launch} {e : Env} {N d : Nat} {s : State} {m : MethodId} {args : Array Value} {below : List Frame} {meth : Method} {c : Code} {z : Wd × Int32} (X : CX V p s m args meth c cX11_rule 6 RX11 (some .int))   {rec67 : Wd → Int32 → Int32 → Int32 → Int32 → Option (Wd × Int32)} (hr67 : ∀ (w : Wd) (x1 : Int32) (x2 : Int32) (x3 : Int32) (x4 : Int32) (H : Heap) (locs : List Loc) (ls : Array Slot), rec67 w x1 x2 x3 x4 = some z → wH V (cM V) (AM V) s w H locs → lv_has ls 6 [(0, .ref (V.2.2 0)), (1, .int x1), (2, .int x2), (3, .int x3), (4, .int x4)] → W p l e (rmD (d + 1)) s m args below meth c H locs 0 0 (MQ below (CtI V (cM V) (AM V) z) args s 0 0 (AM V)) (F0 m 67 ls [])) {w : Wd} {x1 : Int32} {x2 : Int32} {x3 : Int32} {x4 : Int32} {y0 : Int32} {H : Heap} {locs : List Loc} {ls : Array Slot} (h : bX11_rule_96 N d  rec67 w x1 x2 x3 x4 y0 = some z) (hH : wH V (cM V) (AM V) s w H locs) (hl : lv_has ls 6 [(0, .ref (V.2.2 0)), (1, .int x1), (2, .int x2), (3, .int x3), (4, .int x4)]) : W p l e (rmD (d + 1)) s m args below meth c H locs 0 0 (MQ below (CtI V (cM V) (AM V) z) args s 0 0 (AM V)) (F0 m 96 ls [.int y0]) := by
  unfold bX11_rule_96 at h
  obtain ⟨hx, hb, hml, hown, hg, hrt, hlk, hK⟩ := id X
  refine lv_istore (pc := 96) (lv' := [(5, .int y0), (0, .ref (V.2.2 0)), (1, .int x1), (2, .int x2), (3, .int x3), (4, .int x4)]) hx hb dX11_rule_96 hl (by decide) rfl (fun ls hl => ?_)
  refine lv_iload_n (pc := 98) hx hb dX11_rule_98 rfl (lv_at hl 4 rfl) ?_
  refine b_if_eq (pc := 99) (tgt := 139) hx hb h dX11_rule_99 (by decide) (fun h => ?_) (fun h => ?_)
  · exact kX11_rule_139 X  hr67 h hH (lv_sub hl [1, 2, 3, 5] rfl)
  · refine lv_iload (pc := 102) hx hb dX11_rule_102 (lv_at hl 5 rfl) ?_
    refine lv_iconst (pc := 104) (v := 4) hx hb dX11_rule_104 (by decide) ?_
    refine b_icmp_lt (pc := 105) (tgt := 113) hx hb h dX11_rule_105 (by decide) (fun h => ?_) (fun h => ?_)
    · exact kX11_rule_113 X  hr67 h hH (lv_sub hl [1, 2, 3, 5, 0] rfl)
    · refine lv_iload (pc := 108) hx hb dX11_rule_108 (lv_at hl 0 rfl) ?_
      refine b_if_ne (pc := 110) (tgt := 139) hx hb h dX11_rule_110 (by decide) (fun h => ?_) (fun h => ?_)
      · exact kX11_rule_139 X  hr67 h hH (lv_sub hl [1, 2, 3, 5] rfl)
      · exact kX11_rule_113 X  hr67 h hH (lv_sub hl [1, 2, 3, 5, 0] rfl)
def bX11_rule_67 (N d : Nat)  (rec67 : Wd → Int32 → Int32 → Int32 → Int32 → Option (Wd × Int32)) (w : Wd) (x1 : Int32) (x2 : Int32) (x3 : Int32) (x4 : Int32) : Option (Wd × Int32) :=
  if 8 ≤ x4 then (
    if x3 = 0 then (
      some (w, -3)
    ) else (
      if (sI w 3) = 16 then (
        some (w, -4)
      ) else (
        c_st w 9 16 (sI w 3) x1 fun w8 =>
        c_st w8 10 16 (sI w8 3) x2 fun w9 =>
        c_sz w9 11 16 (sI w9 3) 1 fun w10 =>
        c_pi w10 3 ((sI w10 3) + 1) fun w11 =>
        some (w11, (sI w11 3) - 1)
      )
    )
  ) else (
    c_ll w 8 8000 ((8 * x1) + x4) fun v12 =>
    if (lg_cmp v12 0) ≤ 0 then (
      bX11_rule_96 N d  rec67 w x1 x2 x3 x4 0
    ) else (
      bX11_rule_96 N d  rec67 w x1 x2 x3 x4 1
    )
  )
set_option maxHeartbeats 4000000 in
theorem kX11_rule_67 {V : Ev} {p : Program} {l : Launch} {e : Env} {N d : Nat} {s : State} {m : MethodId} {args : Array Value} {below : List Frame} {meth : Method} {c : Code} {z : Wd × Int32} (X : CX V p s m args meth c cX11_rule 6 RX11 (some .int))   {rec67 : Wd → Int32 → Int32 → Int32 → Int32 → Option (Wd × Int32)} (hr67 : ∀ (w : Wd) (x1 : Int32) (x2 : Int32) (x3 : Int32) (x4 : Int32) (H : Heap) (locs : List Loc) (ls : Array Slot), rec67 w x1 x2 x3 x4 = some z → wH V (cM V) (AM V) s w H locs → lv_has ls 6 [(0, .ref (V.2.2 0)), (1, .int x1), (2, .int x2), (3, .int x3), (4, .int x4)] → W p l e (rmD (d + 1)) s m args below meth c H locs 0 0 (MQ below (CtI V (cM V) (AM V) z) args s 0 0 (AM V)) (F0 m 67 ls [])) {w : Wd} {x1 : Int32} {x2 : Int32} {x3 : Int32} {x4 : Int32} {H : Heap} {locs : List Loc} {ls : Array Slot} (h : bX11_rule_67 N d  rec67 w x1 x2 x3 x4 = some z) (hH : wH V (cM V) (AM V) s w H locs) (hl : lv_has ls 6 [(0, .ref (V.2.2 0)), (1, .int x1), (2, .int x2), (3, .int x3), (4, .int x4)]) : W p l e (rmD (d + 1)) s m args below meth c H locs 0 0 (MQ below (CtI V (cM V) (AM V) z) args s 0 0 (AM V)) (F0 m 67 ls []) := by
  unfold bX11_rule_67 at h
  obtain ⟨hx, hb, hml, hown, hg, hrt, hlk, hK⟩ := id X
  refine lv_iload (pc := 67) hx hb dX11_rule_67 (lv_at hl 4 rfl) ?_
  refine lv_bipush (pc := 69) (v := 8) hx hb dX11_rule_69 (by decide) ?_
  refine b_icmp_ge (pc := 71) (tgt := 147) hx hb h dX11_rule_71 (by decide) (fun h => ?_) (fun h => ?_)
  · refine lv_iload_n (pc := 147) hx hb dX11_rule_147 rfl (lv_at hl 3 rfl) ?_
    refine b_if_ne (pc := 148) (tgt := 154) hx hb h dX11_rule_148 (by decide) (fun h => ?_) (fun h => ?_)
    · refine lv_aload_n (pc := 154) hx hb dX11_rule_154 rfl (lv_at hl 0 rfl) ?_
      refine gM_X11_158_0 (pc := 155) X hH dX11_rule_155 ?_
      refine lv_bipush (pc := 158) (v := 16) hx hb dX11_rule_158 (by decide) ?_
      refine b_icmp_ne (pc := 160) (tgt := 166) hx hb h dX11_rule_160 (by decide) (fun h => ?_) (fun h => ?_)
      · refine lv_aload_n (pc := 166) hx hb dX11_rule_166 rfl (lv_at hl 0 rfl) ?_
        refine gM_X11_35_0 (pc := 167) X hH dX11_rule_167 ?_
        refine lv_aload_n (pc := 170) hx hb dX11_rule_170 rfl (lv_at hl 0 rfl) ?_
        refine gM_X11_158_0 (pc := 171) X hH dX11_rule_171 ?_
        refine lv_iload_n (pc := 174) hx hb dX11_rule_174 rfl (lv_at hl 1 rfl) ?_
        refine r_st (pc := 175) X (heM_9 V w) (hsM_9 V w) hH h dX11_rule_175 (fun w8 H locs h hH => ?_)
        refine lv_aload_n (pc := 176) hx hb dX11_rule_176 rfl (lv_at hl 0 rfl) ?_
        refine gM_X11_38_0 (pc := 177) X hH dX11_rule_177 ?_
        refine lv_aload_n (pc := 180) hx hb dX11_rule_180 rfl (lv_at hl 0 rfl) ?_
        refine gM_X11_158_0 (pc := 181) X hH dX11_rule_181 ?_
        refine lv_iload_n (pc := 184) hx hb dX11_rule_184 rfl (lv_at hl 2 rfl) ?_
        refine r_st (pc := 185) X (heM_10 V w8) (hsM_10 V w8) hH h dX11_rule_185 (fun w9 H locs h hH => ?_)
        refine lv_aload_n (pc := 186) hx hb dX11_rule_186 rfl (lv_at hl 0 rfl) ?_
        refine gM_X11_41_0 (pc := 187) X hH dX11_rule_187 ?_
        refine lv_aload_n (pc := 190) hx hb dX11_rule_190 rfl (lv_at hl 0 rfl) ?_
        refine gM_X11_158_0 (pc := 191) X hH dX11_rule_191 ?_
        refine lv_iconst (pc := 194) (v := 1) hx hb dX11_rule_194 (by decide) ?_
        refine r_sz (pc := 195) X (heM_11 V w9) (hsM_11 V w9) hH h dX11_rule_195 (fun w10 H locs h hH => ?_)
        refine lv_aload_n (pc := 196) hx hb dX11_rule_196 rfl (lv_at hl 0 rfl) ?_
        refine lv_dup (pc := 197) hx hb dX11_rule_197 rfl ?_
        refine gM_X11_158_0 (pc := 198) X hH dX11_rule_198 ?_
        refine lv_iconst (pc := 201) (v := 1) hx hb dX11_rule_201 (by decide) ?_
        refine lv_iadd (pc := 202) hx hb dX11_rule_202 ?_
        refine pM_X11_158_0 (pc := 203) X hH h dX11_rule_203 (fun w11 H locs h hH => ?_)
        refine lv_aload_n (pc := 206) hx hb dX11_rule_206 rfl (lv_at hl 0 rfl) ?_
        refine gM_X11_158_0 (pc := 207) X hH dX11_rule_207 ?_
        refine lv_iconst (pc := 210) (v := 1) hx hb dX11_rule_210 (by decide) ?_
        refine lv_isub (pc := 211) hx hb dX11_rule_211 ?_
        exact r_iret (pc := 212) X hH h dX11_rule_212
      · refine lv_bipush (pc := 163) (v := -4) hx hb dX11_rule_163 (by decide) ?_
        exact r_iret (pc := 165) X hH h dX11_rule_165
    · refine lv_bipush (pc := 151) (v := -3) hx hb dX11_rule_151 (by decide) ?_
      exact r_iret (pc := 153) X hH h dX11_rule_153
  · refine lv_aload_n (pc := 74) hx hb dX11_rule_74 rfl (lv_at hl 0 rfl) ?_
    refine gM_X11_32_0 (pc := 75) X hH dX11_rule_75 ?_
    refine lv_bipush (pc := 78) (v := 8) hx hb dX11_rule_78 (by decide) ?_
    refine lv_iload_n (pc := 80) hx hb dX11_rule_80 rfl (lv_at hl 1 rfl) ?_
    refine lv_imul (pc := 81) hx hb dX11_rule_81 ?_
    refine lv_iload (pc := 82) hx hb dX11_rule_82 (lv_at hl 4 rfl) ?_
    refine lv_iadd (pc := 84) hx hb dX11_rule_84 ?_
    refine r_ll (pc := 85) X (heM_8 V w) hH h dX11_rule_85 (fun v12 h => ?_)
    refine lv_lconst (pc := 86) (v := 0) hx hb dX11_rule_86 (by decide) ?_
    refine W.lcmp (pc := 87) hx hb dX11_rule_87 ?_
    refine b_if_le (pc := 88) (tgt := 95) hx hb h dX11_rule_88 (by decide) (fun h => ?_) (fun h => ?_)
    · refine lv_iconst (pc := 95) (v := 0) hx hb dX11_rule_95 (by decide) ?_
      exact kX11_rule_96 X  hr67 h hH (lv_sub hl [0, 1, 2, 3, 4] rfl)
    · refine lv_iconst (pc := 91) (v := 1) hx hb dX11_rule_91 (by decide) ?_
      refine lv_goto (pc := 92) (tgt := 96) hx hb dX11_rule_92 (by decide) ?_
      exact kX11_rule_96 X  hr67 h hH (lv_sub hl [0, 1, 2, 3, 4] rfl)
def fX11_rule_67 (N d : Nat)   : Nat → Wd → Int32 → Int32 → Int32 → Int32 → Option (Wd × Int32)
  | 0 => fun _ _ _ _ _ => none
  | n + 1 => fun w x1 x2 x3 x4 => bX11_rule_67 N d   (fX11_rule_67 N d   n) w x1 x2 x3 x4
theorem lX11_rule_67 {V : Ev} {p : Program} {l : Launch} {e : Env} {N d : Nat} {s : State} {m : MethodId} {args : Array Value} {below : List Frame} {meth : Method} {c : Code} {z : Wd × Int32} (X : CX V p s m args meth c cX11_rule 6 RX11 (some .int))    (n : Nat) {w : Wd} {x1 : Int32} {x2 : Int32} {x3 : Int32} {x4 : Int32} {H : Heap} {locs : List Loc} {ls : Array Slot} (h : fX11_rule_67 N d   n w x1 x2 x3 x4 = some z) (hH : wH V (cM V) (AM V) s w H locs) (hl : lv_has ls 6 [(0, .ref (V.2.2 0)), (1, .int x1), (2, .int x2), (3, .int x3), (4, .int x4)]) : W p l e (rmD (d + 1)) s m args below meth c H locs 0 0 (MQ below (CtI V (cM V) (AM V) z) args s 0 0 (AM V)) (F0 m 67 ls []) := by
  induction n generalizing w x1 x2 x3 x4 H locs ls with
  | zero => exact c_none h
  | succ n ih => exact kX11_rule_67 (N := N) X  (fun _ _ _ _ _ _ _ _ h hH hl => ih h hH hl) h hH hl
def bX11_rule_63 (N d : Nat)   (w : Wd) (x1 : Int32) (x2 : Int32) (y0 : Int32) : Option (Wd × Int32) :=
  fX11_rule_67 N d   N w x1 x2 y0 ((0 : Int32))
set_option maxHeartbeats 4000000 in
theorem kX11_rule_63 {V : Ev} {p : Program} {l : Launch} {e : Env} {N d : Nat} {s : State} {m : MethodId} {args : Array Value} {below : List Frame} {meth : Method} {c : Code} {z : Wd × Int32} (X : CX V p s m args meth c cX11_rule 6 RX11 (some .int))    {w : Wd} {x1 : Int32} {x2 : Int32} {y0 : Int32} {H : Heap} {locs : List Loc} {ls : Array Slot} (h : bX11_rule_63 N d   w x1 x2 y0 = some z) (hH : wH V (cM V) (AM V) s w H locs) (hl : lv_has ls 6 [(0, .ref (V.2.2 0)), (1, .int x1), (2, .int x2)]) : W p l e (rmD (d + 1)) s m args below meth c H locs 0 0 (MQ below (CtI V (cM V) (AM V) z) args s 0 0 (AM V)) (F0 m 63 ls [.int y0]) := by
  unfold bX11_rule_63 at h
  obtain ⟨hx, hb, hml, hown, hg, hrt, hlk, hK⟩ := id X
  refine lv_istore_n (pc := 63) (lv' := [(3, .int y0), (0, .ref (V.2.2 0)), (1, .int x1), (2, .int x2)]) hx hb dX11_rule_63 rfl hl (by decide) rfl (fun ls hl => ?_)
  refine lv_iconst (pc := 64) (v := 0) hx hb dX11_rule_64 (by decide) ?_
  refine lv_istore (pc := 65) (lv' := [(4, .int ((0 : Int32))), (3, .int y0), (0, .ref (V.2.2 0)), (1, .int x1), (2, .int x2)]) hx hb dX11_rule_65 hl (by decide) rfl (fun ls hl => ?_)
  exact lX11_rule_67 X   N h hH (lv_sub hl [2, 3, 4, 1, 0] rfl)
def bX11_rule_62 (N d : Nat)   (w : Wd) (x1 : Int32) (x2 : Int32) : Option (Wd × Int32) :=
  bX11_rule_63 N d   w x1 x2 0
set_option maxHeartbeats 4000000 in
theorem kX11_rule_62 {V : Ev} {p : Program} {l : Launch} {e : Env} {N d : Nat} {s : State} {m : MethodId} {args : Array Value} {below : List Frame} {meth : Method} {c : Code} {z : Wd × Int32} (X : CX V p s m args meth c cX11_rule 6 RX11 (some .int))    {w : Wd} {x1 : Int32} {x2 : Int32} {H : Heap} {locs : List Loc} {ls : Array Slot} (h : bX11_rule_62 N d   w x1 x2 = some z) (hH : wH V (cM V) (AM V) s w H locs) (hl : lv_has ls 6 [(0, .ref (V.2.2 0)), (1, .int x1), (2, .int x2)]) : W p l e (rmD (d + 1)) s m args below meth c H locs 0 0 (MQ below (CtI V (cM V) (AM V) z) args s 0 0 (AM V)) (F0 m 62 ls []) := by
  unfold bX11_rule_62 at h
  obtain ⟨hx, hb, hml, hown, hg, hrt, hlk, hK⟩ := id X
  refine lv_iconst (pc := 62) (v := 0) hx hb dX11_rule_62 (by decide) ?_
  exact kX11_rule_63 X   h hH (lv_sub hl [0, 1, 2] rfl)
def bX11_rule_0 (N d : Nat)   (w : Wd) (x1 : Int32) (x2 : Int32) : Option (Wd × Int32) :=
  c_pi w 0 0 fun w1 =>
  c_cl (eX11_isTerm N d w1 x1) fun w2 v3 =>
  if v3 = 0 then (
    bX11_rule_21 N d   w2 
  ) else (
    c_cl (eX11_isTerm N d w2 x2) fun w4 v5 =>
    if v5 = 0 then (
      bX11_rule_21 N d   w4 
    ) else (
      c_cl (eX11_isVariable N d w4 x1) fun w6 v7 =>
      if v7 = 0 then (
        c_ll w6 6 1000 x1 fun v15 =>
        if 0 < (lg_cmp v15 30) then (
          bX11_rule_62 N d   w6 x1 x2
        ) else (
          c_ll w6 6 1000 x2 fun v16 =>
          if 0 < (lg_cmp v16 30) then (
            bX11_rule_62 N d   w6 x1 x2
          ) else (
            bX11_rule_63 N d   w6 x1 x2 1
          )
        )
      ) else (
        bX11_rule_62 N d   w6 x1 x2
      )
    )
  )
set_option maxHeartbeats 4000000 in
theorem kX11_rule_0 {V : Ev} {p : Program} {l : Launch} {e : Env} {N d : Nat} {s : State} {m : MethodId} {args : Array Value} {below : List Frame} {meth : Method} {c : Code} {z : Wd × Int32} (X : CX V p s m args meth c cX11_rule 6 RX11 (some .int))    {w : Wd} {x1 : Int32} {x2 : Int32} {H : Heap} {locs : List Loc} {ls : Array Slot} (h : bX11_rule_0 N d   w x1 x2 = some z) (hH : wH V (cM V) (AM V) s w H locs) (hl : lv_has ls 6 [(0, .ref (V.2.2 0)), (1, .int x1), (2, .int x2)]) : W p l e (rmD (d + 1)) s m args below meth c H locs 0 0 (MQ below (CtI V (cM V) (AM V) z) args s 0 0 (AM V)) (F0 m 0 ls []) := by
  unfold bX11_rule_0 at h
  obtain ⟨hx, hb, hml, hown, hg, hrt, hlk, hK⟩ := id X
  refine lv_aload_n (pc := 0) hx hb dX11_rule_0 rfl (lv_at hl 0 rfl) ?_
  refine lv_iconst (pc := 1) (v := 0) hx hb dX11_rule_1 (by decide) ?_
  refine pM_X11_111_0 (pc := 2) X hH h dX11_rule_2 (fun w1 H locs h hH => ?_)
  refine lv_aload_n (pc := 5) hx hb dX11_rule_5 rfl (lv_at hl 0 rfl) ?_
  refine lv_iload_n (pc := 6) hx hb dX11_rule_6 rfl (lv_at hl 1 rfl) ?_
  refine r_cvI (pc := 7) (As := [.int x1]) (rest := []) X hH (fun x hx => mX11_isTerm hx) cw_X11_206 (heM_0 V w1) rfl rfl rfl (Nat.le_of_ble_eq_true rfl) hl.1 h dX11_rule_7 (fun w2 v3 H locs h hH => ?_)
  refine b_if_eq (pc := 10) (tgt := 21) hx hb h dX11_rule_10 (by decide) (fun h => ?_) (fun h => ?_)
  · exact kX11_rule_21 X   h hH (lv_sub hl [] rfl)
  · refine lv_aload_n (pc := 13) hx hb dX11_rule_13 rfl (lv_at hl 0 rfl) ?_
    refine lv_iload_n (pc := 14) hx hb dX11_rule_14 rfl (lv_at hl 2 rfl) ?_
    refine r_cvI (pc := 15) (As := [.int x2]) (rest := []) X hH (fun x hx => mX11_isTerm hx) cw_X11_206 (heM_0 V w2) rfl rfl rfl (Nat.le_of_ble_eq_true rfl) hl.1 h dX11_rule_15 (fun w4 v5 H locs h hH => ?_)
    refine b_if_ne (pc := 18) (tgt := 24) hx hb h dX11_rule_18 (by decide) (fun h => ?_) (fun h => ?_)
    · refine lv_aload_n (pc := 24) hx hb dX11_rule_24 rfl (lv_at hl 0 rfl) ?_
      refine lv_iload_n (pc := 25) hx hb dX11_rule_25 rfl (lv_at hl 1 rfl) ?_
      refine r_cvI (pc := 26) (As := [.int x1]) (rest := []) X hH (fun x hx => mX11_isVariable hx) cw_X11_117 (heM_0 V w4) rfl rfl rfl (Nat.le_of_ble_eq_true rfl) hl.1 h dX11_rule_26 (fun w6 v7 H locs h hH => ?_)
      refine b_if_ne (pc := 29) (tgt := 62) hx hb h dX11_rule_29 (by decide) (fun h => ?_) (fun h => ?_)
      · exact kX11_rule_62 X   h hH (lv_sub hl [0, 1, 2] rfl)
      · refine lv_aload_n (pc := 32) hx hb dX11_rule_32 rfl (lv_at hl 0 rfl) ?_
        refine gM_X11_25_0 (pc := 33) X hH dX11_rule_33 ?_
        refine lv_iload_n (pc := 36) hx hb dX11_rule_36 rfl (lv_at hl 1 rfl) ?_
        refine r_ll (pc := 37) X (heM_6 V w6) hH h dX11_rule_37 (fun v15 h => ?_)
        refine lv_ldc2 (pc := 38) hx hb hown (hg _ wL_1165) dX11_rule_38 ?_
        refine W.lcmp (pc := 41) hx hb dX11_rule_41 ?_
        refine b_if_gt (pc := 42) (tgt := 62) hx hb h dX11_rule_42 (by decide) (fun h => ?_) (fun h => ?_)
        · exact kX11_rule_62 X   h hH (lv_sub hl [0, 1, 2] rfl)
        · refine lv_aload_n (pc := 45) hx hb dX11_rule_45 rfl (lv_at hl 0 rfl) ?_
          refine gM_X11_25_0 (pc := 46) X hH dX11_rule_46 ?_
          refine lv_iload_n (pc := 49) hx hb dX11_rule_49 rfl (lv_at hl 2 rfl) ?_
          refine r_ll (pc := 50) X (heM_6 V w6) hH h dX11_rule_50 (fun v16 h => ?_)
          refine lv_ldc2 (pc := 51) hx hb hown (hg _ wL_1165) dX11_rule_51 ?_
          refine W.lcmp (pc := 54) hx hb dX11_rule_54 ?_
          refine b_if_gt (pc := 55) (tgt := 62) hx hb h dX11_rule_55 (by decide) (fun h => ?_) (fun h => ?_)
          · exact kX11_rule_62 X   h hH (lv_sub hl [0, 1, 2] rfl)
          · refine lv_iconst (pc := 58) (v := 1) hx hb dX11_rule_58 (by decide) ?_
            refine lv_goto (pc := 59) (tgt := 63) hx hb dX11_rule_59 (by decide) ?_
            exact kX11_rule_63 X   h hH (lv_sub hl [0, 1, 2] rfl)
    · exact kX11_rule_21 X   h hH (lv_sub hl [] rfl)
def eX11_rule (N : Nat) : Nat → Wd → Int32 → Int32 → Option (Wd × Int32)
  | 0 => fun _ _ _ => none
  | d + 1 => fun w x1 x2 => bX11_rule_0 N d  w x1 x2
set_option maxHeartbeats 4000000 in
set_option maxRecDepth 20000 in
theorem mX11_rule {l : Launch} {V : Ev} {N d : Nat} {w : Wd} {x1 : Int32} {x2 : Int32} {z : Wd × Int32} (h : eX11_rule N d w x1 x2 = some z) : MetI l V (cM V) (AM V) yX11_rule cX11_rule 6 (some .int) d [.ref (V.2.2 0), .int x1, .int x2] w z := by
  cases d with
  | zero => exact c_none h
  | succ d =>
    refine Met.ofW (cc := cX11_rule) (maxL := 6) (ret := (some .int)) (by decide) rfl ?_
    intro p e s m args below meth c s₁ B hml hv
    obtain ⟨rfl, hP, hD, hK⟩ := hv
    have hts := atoms_spec (ws := .code yX11_rule cX11_rule 6 (some .int) :: gG) B.pre
    have X : CX V p s m ([.ref (V.2.2 0), .int x1, .int x2] : List Value).toArray meth c cX11_rule 6 RX11 (some .int) := ⟨B.exec, B.bytes, hml, findClass_of_methodNamed B.named, fun w hw => hts w (List.mem_cons_of_mem _ hw), B.returns, B.notSynchronized, hK⟩
    have hl := lv_entry ([.ref (V.2.2 0), .int x1, .int x2] : List Value) (n := 6) (Nat.le_of_ble_eq_true rfl)
    rw [lg_entry_eq]
    generalize (lg_sl ([.ref (V.2.2 0), .int x1, .int x2] : List Value) ++ List.replicate (6 - (lg_sl ([.ref (V.2.2 0), .int x1, .int x2] : List Value)).length) Slot.unset).toArray = ls at hl ⊢
    have hl : lv_has ls 6 [(0, .ref (V.2.2 0)), (1, .int x1), (2, .int x2)] := hl
    exact kX11_rule_0 (N := N) X  h ⟨hP, hD, va_S.rf⟩ hl
theorem dX11_isRule_0 : decode cX11_isRule 0 = .ok (.iload_n 1, 1) := by decide +kernel
theorem dX11_isRule_1 : decode cX11_isRule 1 = .ok (.i2l, 1) := by decide +kernel
theorem dX11_isRule_2 : decode cX11_isRule 2 = .ok (.lconst 0, 1) := by decide +kernel
theorem dX11_isRule_3 : decode cX11_isRule 3 = .ok (.aload_n 0, 1) := by decide +kernel
theorem dX11_isRule_4 : decode cX11_isRule 4 = .ok (.getfield 158, 3) := by decide +kernel
theorem dX11_isRule_7 : decode cX11_isRule 7 = .ok (.iconst 1, 1) := by decide +kernel
theorem dX11_isRule_8 : decode cX11_isRule 8 = .ok (.isub, 1) := by decide +kernel
theorem dX11_isRule_9 : decode cX11_isRule 9 = .ok (.i2l, 1) := by decide +kernel
theorem dX11_isRule_10 : decode cX11_isRule 10 = .ok (.invokestatic 132, 3) := by decide +kernel
theorem dX11_isRule_13 : decode cX11_isRule 13 = .ok (.ireturn, 1) := by decide +kernel
def bX11_isRule_0 (N d : Nat)   (w : Wd) (x1 : Int32) : Option (Wd × Int32) :=
  c_cl (eX11_in N d w (Int32.toInt64 x1) 0 (Int32.toInt64 ((sI w 3) - 1))) fun w1 v2 =>
  c_bo v2 (some (w1, v2))
set_option maxHeartbeats 4000000 in
theorem kX11_isRule_0 {V : Ev} {p : Program} {l : Launch} {e : Env} {N d : Nat} {s : State} {m : MethodId} {args : Array Value} {below : List Frame} {meth : Method} {c : Code} {z : Wd × Int32} (X : CX V p s m args meth c cX11_isRule 2 RX11 (some .boolean))    {w : Wd} {x1 : Int32} {H : Heap} {locs : List Loc} {ls : Array Slot} (h : bX11_isRule_0 N d   w x1 = some z) (hH : wH V (cM V) (AM V) s w H locs) (hl : lv_has ls 2 [(0, .ref (V.2.2 0)), (1, .int x1)]) : W p l e (rmD (d + 1)) s m args below meth c H locs 0 0 (MQ below (CtI V (cM V) (AM V) z) args s 0 0 (AM V)) (F0 m 0 ls []) := by
  unfold bX11_isRule_0 at h
  obtain ⟨hx, hb, hml, hown, hg, hrt, hlk, hK⟩ := id X
  refine lv_iload_n (pc := 0) hx hb dX11_isRule_0 rfl (lv_at hl 1 rfl) ?_
  refine lv_i2l (pc := 1) hx hb dX11_isRule_1 rfl ?_
  refine lv_lconst (pc := 2) (v := 0) hx hb dX11_isRule_2 (by decide) ?_
  refine lv_aload_n (pc := 3) hx hb dX11_isRule_3 rfl (lv_at hl 0 rfl) ?_
  refine gM_X11_158_0 (pc := 4) X hH dX11_isRule_4 ?_
  refine lv_iconst (pc := 7) (v := 1) hx hb dX11_isRule_7 (by decide) ?_
  refine lv_isub (pc := 8) hx hb dX11_isRule_8 ?_
  refine lv_i2l (pc := 9) hx hb dX11_isRule_9 rfl ?_
  refine r_csI (pc := 10) (As := [.long (Int32.toInt64 x1), .long 0, .long (Int32.toInt64 ((sI w 3) - 1))]) (rest := []) X hH (fun x hx => mX11_in hx) cs_X11_132 rfl rfl (Nat.le_of_ble_eq_true rfl) hl.1 h dX11_isRule_10 (fun w1 v2 H locs h hH => ?_)
  exact r_zret (pc := 13) X hH h dX11_isRule_13
def eX11_isRule (N : Nat) : Nat → Wd → Int32 → Option (Wd × Int32)
  | 0 => fun _ _ => none
  | d + 1 => fun w x1 => bX11_isRule_0 N d  w x1
set_option maxHeartbeats 4000000 in
set_option maxRecDepth 20000 in
theorem mX11_isRule {l : Launch} {V : Ev} {N d : Nat} {w : Wd} {x1 : Int32} {z : Wd × Int32} (h : eX11_isRule N d w x1 = some z) : MetI l V (cM V) (AM V) yX11_isRule cX11_isRule 2 (some .boolean) d [.ref (V.2.2 0), .int x1] w z := by
  cases d with
  | zero => exact c_none h
  | succ d =>
    refine Met.ofW (cc := cX11_isRule) (maxL := 2) (ret := (some .boolean)) (by decide) rfl ?_
    intro p e s m args below meth c s₁ B hml hv
    obtain ⟨rfl, hP, hD, hK⟩ := hv
    have hts := atoms_spec (ws := .code yX11_isRule cX11_isRule 2 (some .boolean) :: gG) B.pre
    have X : CX V p s m ([.ref (V.2.2 0), .int x1] : List Value).toArray meth c cX11_isRule 2 RX11 (some .boolean) := ⟨B.exec, B.bytes, hml, findClass_of_methodNamed B.named, fun w hw => hts w (List.mem_cons_of_mem _ hw), B.returns, B.notSynchronized, hK⟩
    have hl := lv_entry ([.ref (V.2.2 0), .int x1] : List Value) (n := 2) (Nat.le_of_ble_eq_true rfl)
    rw [lg_entry_eq]
    generalize (lg_sl ([.ref (V.2.2 0), .int x1] : List Value) ++ List.replicate (2 - (lg_sl ([.ref (V.2.2 0), .int x1] : List Value)).length) Slot.unset).toArray = ls at hl ⊢
    have hl : lv_has ls 2 [(0, .ref (V.2.2 0)), (1, .int x1)] := hl
    exact kX11_isRule_0 (N := N) X  h ⟨hP, hD, va_S.rf⟩ hl
theorem dX11_on_0 : decode cX11_on 0 = .ok (.aload_n 0, 1) := by decide +kernel
theorem dX11_on_1 : decode cX11_on 1 = .ok (.iconst 0, 1) := by decide +kernel
theorem dX11_on_2 : decode cX11_on 2 = .ok (.putfield 111, 3) := by decide +kernel
theorem dX11_on_5 : decode cX11_on 5 = .ok (.aload_n 0, 1) := by decide +kernel
theorem dX11_on_6 : decode cX11_on 6 = .ok (.iload_n 1, 1) := by decide +kernel
theorem dX11_on_7 : decode cX11_on 7 = .ok (.invokevirtual 236, 3) := by decide +kernel
theorem dX11_on_10 : decode cX11_on 10 = .ok (.ifCond .ne 6, 3) := by decide +kernel
theorem dX11_on_13 : decode cX11_on 13 = .ok (.bipush (-2), 2) := by decide +kernel
theorem dX11_on_15 : decode cX11_on 15 = .ok (.ireturn, 1) := by decide +kernel
theorem dX11_on_16 : decode cX11_on 16 = .ok (.aload_n 0, 1) := by decide +kernel
theorem dX11_on_17 : decode cX11_on 17 = .ok (.getfield 41, 3) := by decide +kernel
theorem dX11_on_20 : decode cX11_on 20 = .ok (.iload_n 1, 1) := by decide +kernel
theorem dX11_on_21 : decode cX11_on 21 = .ok (.baload, 1) := by decide +kernel
theorem dX11_on_22 : decode cX11_on 22 = .ok (.ifCond .eq 7, 3) := by decide +kernel
theorem dX11_on_25 : decode cX11_on 25 = .ok (.iconst 1, 1) := by decide +kernel
theorem dX11_on_26 : decode cX11_on 26 = .ok (.goto 4, 3) := by decide +kernel
theorem dX11_on_29 : decode cX11_on 29 = .ok (.iconst 0, 1) := by decide +kernel
theorem dX11_on_30 : decode cX11_on 30 = .ok (.istore_n 3, 1) := by decide +kernel
theorem dX11_on_31 : decode cX11_on 31 = .ok (.aload_n 0, 1) := by decide +kernel
theorem dX11_on_32 : decode cX11_on 32 = .ok (.getfield 41, 3) := by decide +kernel
theorem dX11_on_35 : decode cX11_on 35 = .ok (.iload_n 1, 1) := by decide +kernel
theorem dX11_on_36 : decode cX11_on 36 = .ok (.iload_n 2, 1) := by decide +kernel
theorem dX11_on_37 : decode cX11_on 37 = .ok (.bastore, 1) := by decide +kernel
theorem dX11_on_38 : decode cX11_on 38 = .ok (.iload_n 3, 1) := by decide +kernel
theorem dX11_on_39 : decode cX11_on 39 = .ok (.ireturn, 1) := by decide +kernel
def bX11_on_30 (N d : Nat)   (w : Wd) (x1 : Int32) (x2 : Int32) (y0 : Int32) : Option (Wd × Int32) :=
  c_sz w 11 16 x1 x2 fun w5 =>
  some (w5, y0)
set_option maxHeartbeats 4000000 in
theorem kX11_on_30 {V : Ev} {p : Program} {l : Launch} {e : Env} {N d : Nat} {s : State} {m : MethodId} {args : Array Value} {below : List Frame} {meth : Method} {c : Code} {z : Wd × Int32} (X : CX V p s m args meth c cX11_on 4 RX11 (some .int))    {w : Wd} {x1 : Int32} {x2 : Int32} {y0 : Int32} {H : Heap} {locs : List Loc} {ls : Array Slot} (h : bX11_on_30 N d   w x1 x2 y0 = some z) (hH : wH V (cM V) (AM V) s w H locs) (hl : lv_has ls 4 [(0, .ref (V.2.2 0)), (1, .int x1), (2, .int x2)]) : W p l e (rmD (d + 1)) s m args below meth c H locs 0 0 (MQ below (CtI V (cM V) (AM V) z) args s 0 0 (AM V)) (F0 m 30 ls [.int y0]) := by
  unfold bX11_on_30 at h
  obtain ⟨hx, hb, hml, hown, hg, hrt, hlk, hK⟩ := id X
  refine lv_istore_n (pc := 30) (lv' := [(3, .int y0), (0, .ref (V.2.2 0)), (1, .int x1), (2, .int x2)]) hx hb dX11_on_30 rfl hl (by decide) rfl (fun ls hl => ?_)
  refine lv_aload_n (pc := 31) hx hb dX11_on_31 rfl (lv_at hl 1 rfl) ?_
  refine gM_X11_41_0 (pc := 32) X hH dX11_on_32 ?_
  refine lv_iload_n (pc := 35) hx hb dX11_on_35 rfl (lv_at hl 2 rfl) ?_
  refine lv_iload_n (pc := 36) hx hb dX11_on_36 rfl (lv_at hl 3 rfl) ?_
  refine r_sz (pc := 37) X (heM_11 V w) (hsM_11 V w) hH h dX11_on_37 (fun w5 H locs h hH => ?_)
  refine lv_iload_n (pc := 38) hx hb dX11_on_38 rfl (lv_at hl 0 rfl) ?_
  exact r_iret (pc := 39) X hH h dX11_on_39
def bX11_on_0 (N d : Nat)   (w : Wd) (x1 : Int32) (x2 : Int32) : Option (Wd × Int32) :=
  c_pi w 0 0 fun w1 =>
  c_cl (eX11_isRule N d w1 x1) fun w2 v3 =>
  if v3 = 0 then (
    some (w2, -2)
  ) else (
    c_ld w2 11 16 x1 fun v4 =>
    if v4 = 0 then (
      bX11_on_30 N d   w2 x1 x2 0
    ) else (
      bX11_on_30 N d   w2 x1 x2 1
    )
  )
set_option maxHeartbeats 4000000 in
theorem kX11_on_0 {V : Ev} {p : Program} {l : Launch} {e : Env} {N d : Nat} {s : State} {m : MethodId} {args : Array Value} {below : List Frame} {meth : Method} {c : Code} {z : Wd × Int32} (X : CX V p s m args meth c cX11_on 4 RX11 (some .int))    {w : Wd} {x1 : Int32} {x2 : Int32} {H : Heap} {locs : List Loc} {ls : Array Slot} (h : bX11_on_0 N d   w x1 x2 = some z) (hH : wH V (cM V) (AM V) s w H locs) (hl : lv_has ls 4 [(0, .ref (V.2.2 0)), (1, .int x1), (2, .int x2)]) : W p l e (rmD (d + 1)) s m args below meth c H locs 0 0 (MQ below (CtI V (cM V) (AM V) z) args s 0 0 (AM V)) (F0 m 0 ls []) := by
  unfold bX11_on_0 at h
  obtain ⟨hx, hb, hml, hown, hg, hrt, hlk, hK⟩ := id X
  refine lv_aload_n (pc := 0) hx hb dX11_on_0 rfl (lv_at hl 0 rfl) ?_
  refine lv_iconst (pc := 1) (v := 0) hx hb dX11_on_1 (by decide) ?_
  refine pM_X11_111_0 (pc := 2) X hH h dX11_on_2 (fun w1 H locs h hH => ?_)
  refine lv_aload_n (pc := 5) hx hb dX11_on_5 rfl (lv_at hl 0 rfl) ?_
  refine lv_iload_n (pc := 6) hx hb dX11_on_6 rfl (lv_at hl 1 rfl) ?_
  refine r_cvI (pc := 7) (As := [.int x1]) (rest := []) X hH (fun x hx => mX11_isRule hx) cw_X11_236 (heM_0 V w1) rfl rfl rfl (Nat.le_of_ble_eq_true rfl) hl.1 h dX11_on_7 (fun w2 v3 H locs h hH => ?_)
  refine b_if_ne (pc := 10) (tgt := 16) hx hb h dX11_on_10 (by decide) (fun h => ?_) (fun h => ?_)
  · refine lv_aload_n (pc := 16) hx hb dX11_on_16 rfl (lv_at hl 0 rfl) ?_
    refine gM_X11_41_0 (pc := 17) X hH dX11_on_17 ?_
    refine lv_iload_n (pc := 20) hx hb dX11_on_20 rfl (lv_at hl 1 rfl) ?_
    refine r_lz (pc := 21) X (heM_11 V w2) hH h dX11_on_21 (fun v4 h => ?_)
    refine b_if_eq (pc := 22) (tgt := 29) hx hb h dX11_on_22 (by decide) (fun h => ?_) (fun h => ?_)
    · refine lv_iconst (pc := 29) (v := 0) hx hb dX11_on_29 (by decide) ?_
      exact kX11_on_30 X   h hH (lv_sub hl [0, 1, 2] rfl)
    · refine lv_iconst (pc := 25) (v := 1) hx hb dX11_on_25 (by decide) ?_
      refine lv_goto (pc := 26) (tgt := 30) hx hb dX11_on_26 (by decide) ?_
      exact kX11_on_30 X   h hH (lv_sub hl [0, 1, 2] rfl)
  · refine lv_bipush (pc := 13) (v := -2) hx hb dX11_on_13 (by decide) ?_
    exact r_iret (pc := 15) X hH h dX11_on_15
def eX11_on (N : Nat) : Nat → Wd → Int32 → Int32 → Option (Wd × Int32)
  | 0 => fun _ _ _ => none
  | d + 1 => fun w x1 x2 => bX11_on_0 N d  w x1 x2
set_option maxHeartbeats 4000000 in
set_option maxRecDepth 20000 in
theorem mX11_on {l : Launch} {V : Ev} {N d : Nat} {w : Wd} {x1 : Int32} {x2 : Int32} {z : Wd × Int32} (h : eX11_on N d w x1 x2 = some z) : MetI l V (cM V) (AM V) yX11_on cX11_on 4 (some .int) d [.ref (V.2.2 0), .int x1, .int x2] w z := by
  cases d with
  | zero => exact c_none h
  | succ d =>
    refine Met.ofW (cc := cX11_on) (maxL := 4) (ret := (some .int)) (by decide) rfl ?_
    intro p e s m args below meth c s₁ B hml hv
    obtain ⟨rfl, hP, hD, hK⟩ := hv
    have hts := atoms_spec (ws := .code yX11_on cX11_on 4 (some .int) :: gG) B.pre
    have X : CX V p s m ([.ref (V.2.2 0), .int x1, .int x2] : List Value).toArray meth c cX11_on 4 RX11 (some .int) := ⟨B.exec, B.bytes, hml, findClass_of_methodNamed B.named, fun w hw => hts w (List.mem_cons_of_mem _ hw), B.returns, B.notSynchronized, hK⟩
    have hl := lv_entry ([.ref (V.2.2 0), .int x1, .int x2] : List Value) (n := 4) (Nat.le_of_ble_eq_true rfl)
    rw [lg_entry_eq]
    generalize (lg_sl ([.ref (V.2.2 0), .int x1, .int x2] : List Value) ++ List.replicate (4 - (lg_sl ([.ref (V.2.2 0), .int x1, .int x2] : List Value)).length) Slot.unset).toArray = ls at hl ⊢
    have hl : lv_has ls 4 [(0, .ref (V.2.2 0)), (1, .int x1), (2, .int x2)] := hl
    exact kX11_on_0 (N := N) X  h ⟨hP, hD, va_S.rf⟩ hl
theorem dX11_isAbove_0 : decode cX11_isAbove 0 = .ok (.iconst 0, 1) := by decide +kernel
theorem dX11_isAbove_1 : decode cX11_isAbove 1 = .ok (.istore_n 3, 1) := by decide +kernel
theorem dX11_isAbove_2 : decode cX11_isAbove 2 = .ok (.iload_n 3, 1) := by decide +kernel
theorem dX11_isAbove_3 : decode cX11_isAbove 3 = .ok (.bipush 8, 2) := by decide +kernel
theorem dX11_isAbove_5 : decode cX11_isAbove 5 = .ok (.if_icmp .ge 37, 3) := by decide +kernel
theorem dX11_isAbove_8 : decode cX11_isAbove 8 = .ok (.aload_n 0, 1) := by decide +kernel
theorem dX11_isAbove_9 : decode cX11_isAbove 9 = .ok (.getfield 32, 3) := by decide +kernel
theorem dX11_isAbove_12 : decode cX11_isAbove 12 = .ok (.bipush 8, 2) := by decide +kernel
theorem dX11_isAbove_14 : decode cX11_isAbove 14 = .ok (.iload_n 2, 1) := by decide +kernel
theorem dX11_isAbove_15 : decode cX11_isAbove 15 = .ok (.imul, 1) := by decide +kernel
theorem dX11_isAbove_16 : decode cX11_isAbove 16 = .ok (.iload_n 3, 1) := by decide +kernel
theorem dX11_isAbove_17 : decode cX11_isAbove 17 = .ok (.iadd, 1) := by decide +kernel
theorem dX11_isAbove_18 : decode cX11_isAbove 18 = .ok (.laload, 1) := by decide +kernel
theorem dX11_isAbove_19 : decode cX11_isAbove 19 = .ok (.aload_n 0, 1) := by decide +kernel
theorem dX11_isAbove_20 : decode cX11_isAbove 20 = .ok (.getfield 32, 3) := by decide +kernel
theorem dX11_isAbove_23 : decode cX11_isAbove 23 = .ok (.bipush 8, 2) := by decide +kernel
theorem dX11_isAbove_25 : decode cX11_isAbove 25 = .ok (.iload_n 1, 1) := by decide +kernel
theorem dX11_isAbove_26 : decode cX11_isAbove 26 = .ok (.imul, 1) := by decide +kernel
theorem dX11_isAbove_27 : decode cX11_isAbove 27 = .ok (.iload_n 3, 1) := by decide +kernel
theorem dX11_isAbove_28 : decode cX11_isAbove 28 = .ok (.iadd, 1) := by decide +kernel
theorem dX11_isAbove_29 : decode cX11_isAbove 29 = .ok (.laload, 1) := by decide +kernel
theorem dX11_isAbove_30 : decode cX11_isAbove 30 = .ok (.lcmp, 1) := by decide +kernel
theorem dX11_isAbove_31 : decode cX11_isAbove 31 = .ok (.ifCond .le 5, 3) := by decide +kernel
theorem dX11_isAbove_34 : decode cX11_isAbove 34 = .ok (.iconst 0, 1) := by decide +kernel
theorem dX11_isAbove_35 : decode cX11_isAbove 35 = .ok (.ireturn, 1) := by decide +kernel
theorem dX11_isAbove_36 : decode cX11_isAbove 36 = .ok (.iinc 3 1, 3) := by decide +kernel
theorem dX11_isAbove_39 : decode cX11_isAbove 39 = .ok (.goto (-37), 3) := by decide +kernel
theorem dX11_isAbove_42 : decode cX11_isAbove 42 = .ok (.aload_n 0, 1) := by decide +kernel
theorem dX11_isAbove_43 : decode cX11_isAbove 43 = .ok (.getfield 29, 3) := by decide +kernel
theorem dX11_isAbove_46 : decode cX11_isAbove 46 = .ok (.iload_n 1, 1) := by decide +kernel
theorem dX11_isAbove_47 : decode cX11_isAbove 47 = .ok (.laload, 1) := by decide +kernel
theorem dX11_isAbove_48 : decode cX11_isAbove 48 = .ok (.aload_n 0, 1) := by decide +kernel
theorem dX11_isAbove_49 : decode cX11_isAbove 49 = .ok (.getfield 29, 3) := by decide +kernel
theorem dX11_isAbove_52 : decode cX11_isAbove 52 = .ok (.iload_n 2, 1) := by decide +kernel
theorem dX11_isAbove_53 : decode cX11_isAbove 53 = .ok (.laload, 1) := by decide +kernel
theorem dX11_isAbove_54 : decode cX11_isAbove 54 = .ok (.lcmp, 1) := by decide +kernel
theorem dX11_isAbove_55 : decode cX11_isAbove 55 = .ok (.ifCond .eq 25, 3) := by decide +kernel
theorem dX11_isAbove_58 : decode cX11_isAbove 58 = .ok (.aload_n 0, 1) := by decide +kernel
theorem dX11_isAbove_59 : decode cX11_isAbove 59 = .ok (.getfield 29, 3) := by decide +kernel
theorem dX11_isAbove_62 : decode cX11_isAbove 62 = .ok (.iload_n 1, 1) := by decide +kernel
theorem dX11_isAbove_63 : decode cX11_isAbove 63 = .ok (.laload, 1) := by decide +kernel
theorem dX11_isAbove_64 : decode cX11_isAbove 64 = .ok (.aload_n 0, 1) := by decide +kernel
theorem dX11_isAbove_65 : decode cX11_isAbove 65 = .ok (.getfield 29, 3) := by decide +kernel
theorem dX11_isAbove_68 : decode cX11_isAbove 68 = .ok (.iload_n 2, 1) := by decide +kernel
theorem dX11_isAbove_69 : decode cX11_isAbove 69 = .ok (.laload, 1) := by decide +kernel
theorem dX11_isAbove_70 : decode cX11_isAbove 70 = .ok (.lcmp, 1) := by decide +kernel
theorem dX11_isAbove_71 : decode cX11_isAbove 71 = .ok (.ifCond .le 7, 3) := by decide +kernel
theorem dX11_isAbove_74 : decode cX11_isAbove 74 = .ok (.iconst 1, 1) := by decide +kernel
theorem dX11_isAbove_75 : decode cX11_isAbove 75 = .ok (.goto 4, 3) := by decide +kernel
theorem dX11_isAbove_78 : decode cX11_isAbove 78 = .ok (.iconst 0, 1) := by decide +kernel
theorem dX11_isAbove_79 : decode cX11_isAbove 79 = .ok (.ireturn, 1) := by decide +kernel
theorem dX11_isAbove_80 : decode cX11_isAbove 80 = .ok (.aload_n 0, 1) := by decide +kernel
theorem dX11_isAbove_81 : decode cX11_isAbove 81 = .ok (.iload_n 1, 1) := by decide +kernel
theorem dX11_isAbove_82 : decode cX11_isAbove 82 = .ok (.invokevirtual 117, 3) := by decide +kernel
theorem dX11_isAbove_85 : decode cX11_isAbove 85 = .ok (.ifCond .ne 11, 3) := by decide +kernel
theorem dX11_isAbove_88 : decode cX11_isAbove 88 = .ok (.aload_n 0, 1) := by decide +kernel
theorem dX11_isAbove_89 : decode cX11_isAbove 89 = .ok (.iload_n 2, 1) := by decide +kernel
theorem dX11_isAbove_90 : decode cX11_isAbove 90 = .ok (.invokevirtual 117, 3) := by decide +kernel
theorem dX11_isAbove_93 : decode cX11_isAbove 93 = .ok (.ifCond .eq 17, 3) := by decide +kernel
theorem dX11_isAbove_96 : decode cX11_isAbove 96 = .ok (.aload_n 0, 1) := by decide +kernel
theorem dX11_isAbove_97 : decode cX11_isAbove 97 = .ok (.iload_n 1, 1) := by decide +kernel
theorem dX11_isAbove_98 : decode cX11_isAbove 98 = .ok (.invokevirtual 117, 3) := by decide +kernel
theorem dX11_isAbove_101 : decode cX11_isAbove 101 = .ok (.ifCond .ne 7, 3) := by decide +kernel
theorem dX11_isAbove_104 : decode cX11_isAbove 104 = .ok (.iconst 1, 1) := by decide +kernel
theorem dX11_isAbove_105 : decode cX11_isAbove 105 = .ok (.goto 4, 3) := by decide +kernel
theorem dX11_isAbove_108 : decode cX11_isAbove 108 = .ok (.iconst 0, 1) := by decide +kernel
theorem dX11_isAbove_109 : decode cX11_isAbove 109 = .ok (.ireturn, 1) := by decide +kernel
theorem dX11_isAbove_110 : decode cX11_isAbove 110 = .ok (.aload_n 0, 1) := by decide +kernel
theorem dX11_isAbove_111 : decode cX11_isAbove 111 = .ok (.getfield 16, 3) := by decide +kernel
theorem dX11_isAbove_114 : decode cX11_isAbove 114 = .ok (.iload_n 1, 1) := by decide +kernel
theorem dX11_isAbove_115 : decode cX11_isAbove 115 = .ok (.iaload, 1) := by decide +kernel
theorem dX11_isAbove_116 : decode cX11_isAbove 116 = .ok (.aload_n 0, 1) := by decide +kernel
theorem dX11_isAbove_117 : decode cX11_isAbove 117 = .ok (.getfield 16, 3) := by decide +kernel
theorem dX11_isAbove_120 : decode cX11_isAbove 120 = .ok (.iload_n 2, 1) := by decide +kernel
theorem dX11_isAbove_121 : decode cX11_isAbove 121 = .ok (.iaload, 1) := by decide +kernel
theorem dX11_isAbove_122 : decode cX11_isAbove 122 = .ok (.if_icmp .eq 24, 3) := by decide +kernel
theorem dX11_isAbove_125 : decode cX11_isAbove 125 = .ok (.aload_n 0, 1) := by decide +kernel
theorem dX11_isAbove_126 : decode cX11_isAbove 126 = .ok (.getfield 16, 3) := by decide +kernel
theorem dX11_isAbove_129 : decode cX11_isAbove 129 = .ok (.iload_n 1, 1) := by decide +kernel
theorem dX11_isAbove_130 : decode cX11_isAbove 130 = .ok (.iaload, 1) := by decide +kernel
theorem dX11_isAbove_131 : decode cX11_isAbove 131 = .ok (.aload_n 0, 1) := by decide +kernel
theorem dX11_isAbove_132 : decode cX11_isAbove 132 = .ok (.getfield 16, 3) := by decide +kernel
theorem dX11_isAbove_135 : decode cX11_isAbove 135 = .ok (.iload_n 2, 1) := by decide +kernel
theorem dX11_isAbove_136 : decode cX11_isAbove 136 = .ok (.iaload, 1) := by decide +kernel
theorem dX11_isAbove_137 : decode cX11_isAbove 137 = .ok (.if_icmp .le 7, 3) := by decide +kernel
theorem dX11_isAbove_140 : decode cX11_isAbove 140 = .ok (.iconst 1, 1) := by decide +kernel
theorem dX11_isAbove_141 : decode cX11_isAbove 141 = .ok (.goto 4, 3) := by decide +kernel
theorem dX11_isAbove_144 : decode cX11_isAbove 144 = .ok (.iconst 0, 1) := by decide +kernel
theorem dX11_isAbove_145 : decode cX11_isAbove 145 = .ok (.ireturn, 1) := by decide +kernel
theorem dX11_isAbove_146 : decode cX11_isAbove 146 = .ok (.iconst 0, 1) := by decide +kernel
theorem dX11_isAbove_147 : decode cX11_isAbove 147 = .ok (.istore_n 3, 1) := by decide +kernel
theorem dX11_isAbove_148 : decode cX11_isAbove 148 = .ok (.iload_n 3, 1) := by decide +kernel
theorem dX11_isAbove_149 : decode cX11_isAbove 149 = .ok (.aload_n 0, 1) := by decide +kernel
theorem dX11_isAbove_150 : decode cX11_isAbove 150 = .ok (.iload_n 1, 1) := by decide +kernel
theorem dX11_isAbove_151 : decode cX11_isAbove 151 = .ok (.invokevirtual 140, 3) := by decide +kernel
theorem dX11_isAbove_154 : decode cX11_isAbove 154 = .ok (.if_icmp .ge 41, 3) := by decide +kernel
theorem dX11_isAbove_157 : decode cX11_isAbove 157 = .ok (.aload_n 0, 1) := by decide +kernel
theorem dX11_isAbove_158 : decode cX11_isAbove 158 = .ok (.iload_n 1, 1) := by decide +kernel
theorem dX11_isAbove_159 : decode cX11_isAbove 159 = .ok (.iload_n 3, 1) := by decide +kernel
theorem dX11_isAbove_160 : decode cX11_isAbove 160 = .ok (.invokevirtual 143, 3) := by decide +kernel
theorem dX11_isAbove_163 : decode cX11_isAbove 163 = .ok (.aload_n 0, 1) := by decide +kernel
theorem dX11_isAbove_164 : decode cX11_isAbove 164 = .ok (.iload_n 2, 1) := by decide +kernel
theorem dX11_isAbove_165 : decode cX11_isAbove 165 = .ok (.iload_n 3, 1) := by decide +kernel
theorem dX11_isAbove_166 : decode cX11_isAbove 166 = .ok (.invokevirtual 143, 3) := by decide +kernel
theorem dX11_isAbove_169 : decode cX11_isAbove 169 = .ok (.if_icmp .eq 20, 3) := by decide +kernel
theorem dX11_isAbove_172 : decode cX11_isAbove 172 = .ok (.aload_n 0, 1) := by decide +kernel
theorem dX11_isAbove_173 : decode cX11_isAbove 173 = .ok (.aload_n 0, 1) := by decide +kernel
theorem dX11_isAbove_174 : decode cX11_isAbove 174 = .ok (.iload_n 1, 1) := by decide +kernel
theorem dX11_isAbove_175 : decode cX11_isAbove 175 = .ok (.iload_n 3, 1) := by decide +kernel
theorem dX11_isAbove_176 : decode cX11_isAbove 176 = .ok (.invokevirtual 143, 3) := by decide +kernel
theorem dX11_isAbove_179 : decode cX11_isAbove 179 = .ok (.aload_n 0, 1) := by decide +kernel
theorem dX11_isAbove_180 : decode cX11_isAbove 180 = .ok (.iload_n 2, 1) := by decide +kernel
theorem dX11_isAbove_181 : decode cX11_isAbove 181 = .ok (.iload_n 3, 1) := by decide +kernel
theorem dX11_isAbove_182 : decode cX11_isAbove 182 = .ok (.invokevirtual 143, 3) := by decide +kernel
theorem dX11_isAbove_185 : decode cX11_isAbove 185 = .ok (.invokevirtual 239, 3) := by decide +kernel
theorem dX11_isAbove_188 : decode cX11_isAbove 188 = .ok (.ireturn, 1) := by decide +kernel
theorem dX11_isAbove_189 : decode cX11_isAbove 189 = .ok (.iinc 3 1, 3) := by decide +kernel
theorem dX11_isAbove_192 : decode cX11_isAbove 192 = .ok (.goto (-44), 3) := by decide +kernel
theorem dX11_isAbove_195 : decode cX11_isAbove 195 = .ok (.iconst 0, 1) := by decide +kernel
theorem dX11_isAbove_196 : decode cX11_isAbove 196 = .ok (.ireturn, 1) := by decide +kernel
def bX11_isAbove_109 (N d : Nat) (self_X11_isAbove : Wd → Int32 → Int32 → Option (Wd × Int32))  (w : Wd) (y0 : Int32) : Option (Wd × Int32) :=
  c_bo y0 (some (w, y0))
set_option maxHeartbeats 4000000 in
theorem kX11_isAbove_109 {V : Ev} {p : Program} {l : Launch} {e : Env} {N d : Nat} {s : State} {m : MethodId} {args : Array Value} {below : List Frame} {meth : Method} {c : Code} {z : Wd × Int32} (X : CX V p s m args meth c cX11_isAbove 4 RX11 (some .boolean)) {self_X11_isAbove : Wd → Int32 → Int32 → Option (Wd × Int32)} (hs_X11_isAbove : ∀ (w : Wd) (a0 : Int32) (a1 : Int32) (x : Wd × Int32), self_X11_isAbove w a0 a1 = some x → MetI l V (cM V) (AM V) yX11_isAbove cX11_isAbove 4 (some .boolean) d [.ref (V.2.2 0), .int a0, .int a1] w x)  {w : Wd} {y0 : Int32} {H : Heap} {locs : List Loc} {ls : Array Slot} (h : bX11_isAbove_109 N d self_X11_isAbove  w y0 = some z) (hH : wH V (cM V) (AM V) s w H locs) (hl : lv_has ls 4 []) : W p l e (rmD (d + 1)) s m args below meth c H locs 0 0 (MQ below (CtI V (cM V) (AM V) z) args s 0 0 (AM V)) (F0 m 109 ls [.int y0]) := by
  unfold bX11_isAbove_109 at h
  obtain ⟨hx, hb, hml, hown, hg, hrt, hlk, hK⟩ := id X
  exact r_zret (pc := 109) X hH h dX11_isAbove_109
def bX11_isAbove_96 (N d : Nat) (self_X11_isAbove : Wd → Int32 → Int32 → Option (Wd × Int32))  (w : Wd) (x1 : Int32) : Option (Wd × Int32) :=
  c_cl (eX11_isVariable N d w x1) fun w5 v6 =>
  if v6 = 0 then (
    bX11_isAbove_109 N d self_X11_isAbove  w5 1
  ) else (
    bX11_isAbove_109 N d self_X11_isAbove  w5 0
  )
set_option maxHeartbeats 4000000 in
theorem kX11_isAbove_96 {V : Ev} {p : Program} {l : Launch} {e : Env} {N d : Nat} {s : State} {m : MethodId} {args : Array Value} {below : List Frame} {meth : Method} {c : Code} {z : Wd × Int32} (X : CX V p s m args meth c cX11_isAbove 4 RX11 (some .boolean)) {self_X11_isAbove : Wd → Int32 → Int32 → Option (Wd × Int32)} (hs_X11_isAbove : ∀ (w : Wd) (a0 : Int32) (a1 : Int32) (x : Wd × Int32), self_X11_isAbove w a0 a1 = some x → MetI l V (cM V) (AM V) yX11_isAbove cX11_isAbove 4 (some .boolean) d [.ref (V.2.2 0), .int a0, .int a1] w x)  {w : Wd} {x1 : Int32} {H : Heap} {locs : List Loc} {ls : Array Slot} (h : bX11_isAbove_96 N d self_X11_isAbove  w x1 = some z) (hH : wH V (cM V) (AM V) s w H locs) (hl : lv_has ls 4 [(0, .ref (V.2.2 0)), (1, .int x1)]) : W p l e (rmD (d + 1)) s m args below meth c H locs 0 0 (MQ below (CtI V (cM V) (AM V) z) args s 0 0 (AM V)) (F0 m 96 ls []) := by
  unfold bX11_isAbove_96 at h
  obtain ⟨hx, hb, hml, hown, hg, hrt, hlk, hK⟩ := id X
  refine lv_aload_n (pc := 96) hx hb dX11_isAbove_96 rfl (lv_at hl 0 rfl) ?_
  refine lv_iload_n (pc := 97) hx hb dX11_isAbove_97 rfl (lv_at hl 1 rfl) ?_
  refine r_cvI (pc := 98) (As := [.int x1]) (rest := []) X hH (fun x hx => mX11_isVariable hx) cw_X11_117 (heM_0 V w) rfl rfl rfl (Nat.le_of_ble_eq_true rfl) hl.1 h dX11_isAbove_98 (fun w5 v6 H locs h hH => ?_)
  refine b_if_ne (pc := 101) (tgt := 108) hx hb h dX11_isAbove_101 (by decide) (fun h => ?_) (fun h => ?_)
  · refine lv_iconst (pc := 108) (v := 0) hx hb dX11_isAbove_108 (by decide) ?_
    exact kX11_isAbove_109 X hs_X11_isAbove  h hH (lv_sub hl [] rfl)
  · refine lv_iconst (pc := 104) (v := 1) hx hb dX11_isAbove_104 (by decide) ?_
    refine lv_goto (pc := 105) (tgt := 109) hx hb dX11_isAbove_105 (by decide) ?_
    exact kX11_isAbove_109 X hs_X11_isAbove  h hH (lv_sub hl [] rfl)
def bX11_isAbove_148 (N d : Nat) (self_X11_isAbove : Wd → Int32 → Int32 → Option (Wd × Int32)) (rec148 : Wd → Int32 → Int32 → Int32 → Option (Wd × Int32)) (w : Wd) (x1 : Int32) (x2 : Int32) (x3 : Int32) : Option (Wd × Int32) :=
  c_cl (eX11_parts N d w x1) fun w11 v12 =>
  if v12 ≤ x3 then (
    some (w11, 0)
  ) else (
    c_cl (eX11_partOf N d w11 x1 x3) fun w13 v14 =>
    c_cl (eX11_partOf N d w13 x2 x3) fun w15 v16 =>
    if v14 = v16 then (
      c_nm (x3 + 1) fun x3_17 =>
      rec148 w15 x1 x2 x3_17
    ) else (
      c_cl (eX11_partOf N d w15 x1 x3) fun w18 v19 =>
      c_cl (eX11_partOf N d w18 x2 x3) fun w20 v21 =>
      c_cl (self_X11_isAbove w20 v19 v21) fun w22 v23 =>
      c_bo v23 (some (w22, v23))
    )
  )
set_option maxHeartbeats 4000000 in
theorem kX11_isAbove_148 {V : Ev} {p : Program} {l : Launch} {e : Env} {N d : Nat} {s : State} {m : MethodId} {args : Array Value} {below : List Frame} {meth : Method} {c : Code} {z : Wd × Int32} (X : CX V p s m args meth c cX11_isAbove 4 RX11 (some .boolean)) {self_X11_isAbove : Wd → Int32 → Int32 → Option (Wd × Int32)} (hs_X11_isAbove : ∀ (w : Wd) (a0 : Int32) (a1 : Int32) (x : Wd × Int32), self_X11_isAbove w a0 a1 = some x → MetI l V (cM V) (AM V) yX11_isAbove cX11_isAbove 4 (some .boolean) d [.ref (V.2.2 0), .int a0, .int a1] w x) {rec148 : Wd → Int32 → Int32 → Int32 → Option (Wd × Int32)} (hr148 : ∀ (w : Wd) (x1 : Int32) (x2 : Int32) (x3 : Int32) (H : Heap) (locs : List Loc) (ls : Array Slot), rec148 w x1 x2 x3 = some z → wH V (cM V) (AM V) s w H locs → lv_has ls 4 [(0, .ref (V.2.2 0)), (1, .int x1), (2, .int x2), (3, .int x3)] → W p l e (rmD (d + 1)) s m args below meth c H locs 0 0 (MQ below (CtI V (cM V) (AM V) z) args s 0 0 (AM V)) (F0 m 148 ls [])) {w : Wd} {x1 : Int32} {x2 : Int32} {x3 : Int32} {H : Heap} {locs : List Loc} {ls : Array Slot} (h : bX11_isAbove_148 N d self_X11_isAbove rec148 w x1 x2 x3 = some z) (hH : wH V (cM V) (AM V) s w H locs) (hl : lv_has ls 4 [(0, .ref (V.2.2 0)), (1, .int x1), (2, .int x2), (3, .int x3)]) : W p l e (rmD (d + 1)) s m args below meth c H locs 0 0 (MQ below (CtI V (cM V) (AM V) z) args s 0 0 (AM V)) (F0 m 148 ls []) := by
  unfold bX11_isAbove_148 at h
  obtain ⟨hx, hb, hml, hown, hg, hrt, hlk, hK⟩ := id X
  refine lv_iload_n (pc := 148) hx hb dX11_isAbove_148 rfl (lv_at hl 3 rfl) ?_
  refine lv_aload_n (pc := 149) hx hb dX11_isAbove_149 rfl (lv_at hl 0 rfl) ?_
  refine lv_iload_n (pc := 150) hx hb dX11_isAbove_150 rfl (lv_at hl 1 rfl) ?_
  refine r_cvI (pc := 151) (As := [.int x1]) (rest := [.int x3]) X hH (fun x hx => mX11_parts hx) cw_X11_140 (heM_0 V w) rfl rfl rfl (Nat.le_of_ble_eq_true rfl) hl.1 h dX11_isAbove_151 (fun w11 v12 H locs h hH => ?_)
  refine b_icmp_ge (pc := 154) (tgt := 195) hx hb h dX11_isAbove_154 (by decide) (fun h => ?_) (fun h => ?_)
  · refine lv_iconst (pc := 195) (v := 0) hx hb dX11_isAbove_195 (by decide) ?_
    exact r_zretk (pc := 196) (by decide) X hH h dX11_isAbove_196
  · refine lv_aload_n (pc := 157) hx hb dX11_isAbove_157 rfl (lv_at hl 0 rfl) ?_
    refine lv_iload_n (pc := 158) hx hb dX11_isAbove_158 rfl (lv_at hl 1 rfl) ?_
    refine lv_iload_n (pc := 159) hx hb dX11_isAbove_159 rfl (lv_at hl 3 rfl) ?_
    refine r_cvI (pc := 160) (As := [.int x1, .int x3]) (rest := []) X hH (fun x hx => mX11_partOf hx) cw_X11_143 (heM_0 V w11) rfl rfl rfl (Nat.le_of_ble_eq_true rfl) hl.1 h dX11_isAbove_160 (fun w13 v14 H locs h hH => ?_)
    refine lv_aload_n (pc := 163) hx hb dX11_isAbove_163 rfl (lv_at hl 0 rfl) ?_
    refine lv_iload_n (pc := 164) hx hb dX11_isAbove_164 rfl (lv_at hl 2 rfl) ?_
    refine lv_iload_n (pc := 165) hx hb dX11_isAbove_165 rfl (lv_at hl 3 rfl) ?_
    refine r_cvI (pc := 166) (As := [.int x2, .int x3]) (rest := [.int v14]) X hH (fun x hx => mX11_partOf hx) cw_X11_143 (heM_0 V w13) rfl rfl rfl (Nat.le_of_ble_eq_true rfl) hl.1 h dX11_isAbove_166 (fun w15 v16 H locs h hH => ?_)
    refine b_icmp_eq (pc := 169) (tgt := 189) hx hb h dX11_isAbove_169 (by decide) (fun h => ?_) (fun h => ?_)
    · obtain ⟨x3_17, ex3_17, h⟩ := c_nm_ex h
      refine lv_iinc (pc := 189) (v := x3_17) (lv' := [(3, .int x3_17), (0, .ref (V.2.2 0)), (1, .int x1), (2, .int x2)]) hx hb dX11_isAbove_189 hl (k := 3) rfl (by rw [← ex3_17]; rfl) (by decide) rfl (fun ls hl => ?_)
      refine lv_goto (pc := 192) (tgt := 148) hx hb dX11_isAbove_192 (by decide) ?_
      exact hr148 _ _ _ _ _ _ _ h hH (lv_sub hl [1, 2, 3, 0] rfl)
    · refine lv_aload_n (pc := 172) hx hb dX11_isAbove_172 rfl (lv_at hl 0 rfl) ?_
      refine lv_aload_n (pc := 173) hx hb dX11_isAbove_173 rfl (lv_at hl 0 rfl) ?_
      refine lv_iload_n (pc := 174) hx hb dX11_isAbove_174 rfl (lv_at hl 1 rfl) ?_
      refine lv_iload_n (pc := 175) hx hb dX11_isAbove_175 rfl (lv_at hl 3 rfl) ?_
      refine r_cvI (pc := 176) (As := [.int x1, .int x3]) (rest := [.ref (V.2.2 0)]) X hH (fun x hx => mX11_partOf hx) cw_X11_143 (heM_0 V w15) rfl rfl rfl (Nat.le_of_ble_eq_true rfl) hl.1 h dX11_isAbove_176 (fun w18 v19 H locs h hH => ?_)
      refine lv_aload_n (pc := 179) hx hb dX11_isAbove_179 rfl (lv_at hl 0 rfl) ?_
      refine lv_iload_n (pc := 180) hx hb dX11_isAbove_180 rfl (lv_at hl 2 rfl) ?_
      refine lv_iload_n (pc := 181) hx hb dX11_isAbove_181 rfl (lv_at hl 3 rfl) ?_
      refine r_cvI (pc := 182) (As := [.int x2, .int x3]) (rest := [.int v19, .ref (V.2.2 0)]) X hH (fun x hx => mX11_partOf hx) cw_X11_143 (heM_0 V w18) rfl rfl rfl (Nat.le_of_ble_eq_true rfl) hl.1 h dX11_isAbove_182 (fun w20 v21 H locs h hH => ?_)
      refine r_cvI (pc := 185) (As := [.int v19, .int v21]) (rest := []) X hH (fun x hx => hs_X11_isAbove _ _ _ _ hx) cw_X11_239 (heM_0 V w20) rfl rfl rfl (Nat.le_of_ble_eq_true rfl) hl.1 h dX11_isAbove_185 (fun w22 v23 H locs h hH => ?_)
      exact r_zret (pc := 188) X hH h dX11_isAbove_188
def fX11_isAbove_148 (N d : Nat) (self_X11_isAbove : Wd → Int32 → Int32 → Option (Wd × Int32))  : Nat → Wd → Int32 → Int32 → Int32 → Option (Wd × Int32)
  | 0 => fun _ _ _ _ => none
  | n + 1 => fun w x1 x2 x3 => bX11_isAbove_148 N d self_X11_isAbove  (fX11_isAbove_148 N d self_X11_isAbove  n) w x1 x2 x3
theorem lX11_isAbove_148 {V : Ev} {p : Program} {l : Launch} {e : Env} {N d : Nat} {s : State} {m : MethodId} {args : Array Value} {below : List Frame} {meth : Method} {c : Code} {z : Wd × Int32} (X : CX V p s m args meth c cX11_isAbove 4 RX11 (some .boolean)) {self_X11_isAbove : Wd → Int32 → Int32 → Option (Wd × Int32)} (hs_X11_isAbove : ∀ (w : Wd) (a0 : Int32) (a1 : Int32) (x : Wd × Int32), self_X11_isAbove w a0 a1 = some x → MetI l V (cM V) (AM V) yX11_isAbove cX11_isAbove 4 (some .boolean) d [.ref (V.2.2 0), .int a0, .int a1] w x)  (n : Nat) {w : Wd} {x1 : Int32} {x2 : Int32} {x3 : Int32} {H : Heap} {locs : List Loc} {ls : Array Slot} (h : fX11_isAbove_148 N d self_X11_isAbove  n w x1 x2 x3 = some z) (hH : wH V (cM V) (AM V) s w H locs) (hl : lv_has ls 4 [(0, .ref (V.2.2 0)), (1, .int x1), (2, .int x2), (3, .int x3)]) : W p l e (rmD (d + 1)) s m args below meth c H locs 0 0 (MQ below (CtI V (cM V) (AM V) z) args s 0 0 (AM V)) (F0 m 148 ls []) := by
  induction n generalizing w x1 x2 x3 H locs ls with
  | zero => exact c_none h
  | succ n ih => exact kX11_isAbove_148 (N := N) X hs_X11_isAbove (fun _ _ _ _ _ _ _ h hH hl => ih h hH hl) h hH hl
def bX11_isAbove_145 (N d : Nat) (self_X11_isAbove : Wd → Int32 → Int32 → Option (Wd × Int32))  (w : Wd) (y0 : Int32) : Option (Wd × Int32) :=
  c_bo y0 (some (w, y0))
set_option maxHeartbeats 4000000 in
theorem kX11_isAbove_145 {V : Ev} {p : Program} {l : Launch} {e : Env} {N d : Nat} {s : State} {m : MethodId} {args : Array Value} {below : List Frame} {meth : Method} {c : Code} {z : Wd × Int32} (X : CX V p s m args meth c cX11_isAbove 4 RX11 (some .boolean)) {self_X11_isAbove : Wd → Int32 → Int32 → Option (Wd × Int32)} (hs_X11_isAbove : ∀ (w : Wd) (a0 : Int32) (a1 : Int32) (x : Wd × Int32), self_X11_isAbove w a0 a1 = some x → MetI l V (cM V) (AM V) yX11_isAbove cX11_isAbove 4 (some .boolean) d [.ref (V.2.2 0), .int a0, .int a1] w x)  {w : Wd} {y0 : Int32} {H : Heap} {locs : List Loc} {ls : Array Slot} (h : bX11_isAbove_145 N d self_X11_isAbove  w y0 = some z) (hH : wH V (cM V) (AM V) s w H locs) (hl : lv_has ls 4 []) : W p l e (rmD (d + 1)) s m args below meth c H locs 0 0 (MQ below (CtI V (cM V) (AM V) z) args s 0 0 (AM V)) (F0 m 145 ls [.int y0]) := by
  unfold bX11_isAbove_145 at h
  obtain ⟨hx, hb, hml, hown, hg, hrt, hlk, hK⟩ := id X
  exact r_zret (pc := 145) X hH h dX11_isAbove_145
def bX11_isAbove_79 (N d : Nat) (self_X11_isAbove : Wd → Int32 → Int32 → Option (Wd × Int32))  (w : Wd) (y0 : Int32) : Option (Wd × Int32) :=
  c_bo y0 (some (w, y0))
set_option maxHeartbeats 4000000 in
theorem kX11_isAbove_79 {V : Ev} {p : Program} {l : Launch} {e : Env} {N d : Nat} {s : State} {m : MethodId} {args : Array Value} {below : List Frame} {meth : Method} {c : Code} {z : Wd × Int32} (X : CX V p s m args meth c cX11_isAbove 4 RX11 (some .boolean)) {self_X11_isAbove : Wd → Int32 → Int32 → Option (Wd × Int32)} (hs_X11_isAbove : ∀ (w : Wd) (a0 : Int32) (a1 : Int32) (x : Wd × Int32), self_X11_isAbove w a0 a1 = some x → MetI l V (cM V) (AM V) yX11_isAbove cX11_isAbove 4 (some .boolean) d [.ref (V.2.2 0), .int a0, .int a1] w x)  {w : Wd} {y0 : Int32} {H : Heap} {locs : List Loc} {ls : Array Slot} (h : bX11_isAbove_79 N d self_X11_isAbove  w y0 = some z) (hH : wH V (cM V) (AM V) s w H locs) (hl : lv_has ls 4 []) : W p l e (rmD (d + 1)) s m args below meth c H locs 0 0 (MQ below (CtI V (cM V) (AM V) z) args s 0 0 (AM V)) (F0 m 79 ls [.int y0]) := by
  unfold bX11_isAbove_79 at h
  obtain ⟨hx, hb, hml, hown, hg, hrt, hlk, hK⟩ := id X
  exact r_zret (pc := 79) X hH h dX11_isAbove_79
def bX11_isAbove_2 (N d : Nat) (self_X11_isAbove : Wd → Int32 → Int32 → Option (Wd × Int32)) (rec2 : Wd → Int32 → Int32 → Int32 → Option (Wd × Int32)) (w : Wd) (x1 : Int32) (x2 : Int32) (x3 : Int32) : Option (Wd × Int32) :=
  if 8 ≤ x3 then (
    c_ll w 7 1000 x1 fun v1 =>
    c_ll w 7 1000 x2 fun v2 =>
    if (lg_cmp v1 v2) = 0 then (
      c_cl (eX11_isVariable N d w x1) fun w3 v4 =>
      if v4 = 0 then (
        c_cl (eX11_isVariable N d w3 x2) fun w7 v8 =>
        if v8 = 0 then (
          c_ld w7 3 1000 x1 fun v9 =>
          c_ld w7 3 1000 x2 fun v10 =>
          if v9 = v10 then (
            fX11_isAbove_148 N d self_X11_isAbove  N w7 x1 x2 ((0 : Int32))
          ) else (
            c_ld w7 3 1000 x1 fun v24 =>
            c_ld w7 3 1000 x2 fun v25 =>
            if v24 ≤ v25 then (
              bX11_isAbove_145 N d self_X11_isAbove  w7 0
            ) else (
              bX11_isAbove_145 N d self_X11_isAbove  w7 1
            )
          )
        ) else (
          bX11_isAbove_96 N d self_X11_isAbove  w7 x1
        )
      ) else (
        bX11_isAbove_96 N d self_X11_isAbove  w3 x1
      )
    ) else (
      c_ll w 7 1000 x1 fun v26 =>
      c_ll w 7 1000 x2 fun v27 =>
      if (lg_cmp v26 v27) ≤ 0 then (
        bX11_isAbove_79 N d self_X11_isAbove  w 0
      ) else (
        bX11_isAbove_79 N d self_X11_isAbove  w 1
      )
    )
  ) else (
    c_ll w 8 8000 ((8 * x2) + x3) fun v28 =>
    c_ll w 8 8000 ((8 * x1) + x3) fun v29 =>
    if (lg_cmp v28 v29) ≤ 0 then (
      c_nm (x3 + 1) fun x3_30 =>
      rec2 w x1 x2 x3_30
    ) else (
      some (w, 0)
    )
  )
set_option maxHeartbeats 4000000 in
theorem kX11_isAbove_2 {V : Ev} {p : Program} {l : Launch} {e : Env} {N d : Nat} {s : State} {m : MethodId} {args : Array Value} {below : List Frame} {meth : Method} {c : Code} {z : Wd × Int32} (X : CX V p s m args meth c cX11_isAbove 4 RX11 (some .boolean)) {self_X11_isAbove : Wd → Int32 → Int32 → Option (Wd × Int32)} (hs_X11_isAbove : ∀ (w : Wd) (a0 : Int32) (a1 : Int32) (x : Wd × Int32), self_X11_isAbove w a0 a1 = some x → MetI l V (cM V) (AM V) yX11_isAbove cX11_isAbove 4 (some .boolean) d [.ref (V.2.2 0), .int a0, .int a1] w x) {rec2 : Wd → Int32 → Int32 → Int32 → Option (Wd × Int32)} (hr2 : ∀ (w : Wd) (x1 : Int32) (x2 : Int32) (x3 : Int32) (H : Heap) (locs : List Loc) (ls : Array Slot), rec2 w x1 x2 x3 = some z → wH V (cM V) (AM V) s w H locs → lv_has ls 4 [(0, .ref (V.2.2 0)), (1, .int x1), (2, .int x2), (3, .int x3)] → W p l e (rmD (d + 1)) s m args below meth c H locs 0 0 (MQ below (CtI V (cM V) (AM V) z) args s 0 0 (AM V)) (F0 m 2 ls [])) {w : Wd} {x1 : Int32} {x2 : Int32} {x3 : Int32} {H : Heap} {locs : List Loc} {ls : Array Slot} (h : bX11_isAbove_2 N d self_X11_isAbove rec2 w x1 x2 x3 = some z) (hH : wH V (cM V) (AM V) s w H locs) (hl : lv_has ls 4 [(0, .ref (V.2.2 0)), (1, .int x1), (2, .int x2), (3, .int x3)]) : W p l e (rmD (d + 1)) s m args below meth c H locs 0 0 (MQ below (CtI V (cM V) (AM V) z) args s 0 0 (AM V)) (F0 m 2 ls []) := by
  unfold bX11_isAbove_2 at h
  obtain ⟨hx, hb, hml, hown, hg, hrt, hlk, hK⟩ := id X
  refine lv_iload_n (pc := 2) hx hb dX11_isAbove_2 rfl (lv_at hl 3 rfl) ?_
  refine lv_bipush (pc := 3) (v := 8) hx hb dX11_isAbove_3 (by decide) ?_
  refine b_icmp_ge (pc := 5) (tgt := 42) hx hb h dX11_isAbove_5 (by decide) (fun h => ?_) (fun h => ?_)
  · refine lv_aload_n (pc := 42) hx hb dX11_isAbove_42 rfl (lv_at hl 0 rfl) ?_
    refine gM_X11_29_0 (pc := 43) X hH dX11_isAbove_43 ?_
    refine lv_iload_n (pc := 46) hx hb dX11_isAbove_46 rfl (lv_at hl 1 rfl) ?_
    refine r_ll (pc := 47) X (heM_7 V w) hH h dX11_isAbove_47 (fun v1 h => ?_)
    refine lv_aload_n (pc := 48) hx hb dX11_isAbove_48 rfl (lv_at hl 0 rfl) ?_
    refine gM_X11_29_0 (pc := 49) X hH dX11_isAbove_49 ?_
    refine lv_iload_n (pc := 52) hx hb dX11_isAbove_52 rfl (lv_at hl 2 rfl) ?_
    refine r_ll (pc := 53) X (heM_7 V w) hH h dX11_isAbove_53 (fun v2 h => ?_)
    refine W.lcmp (pc := 54) hx hb dX11_isAbove_54 ?_
    refine b_if_eq (pc := 55) (tgt := 80) hx hb h dX11_isAbove_55 (by decide) (fun h => ?_) (fun h => ?_)
    · refine lv_aload_n (pc := 80) hx hb dX11_isAbove_80 rfl (lv_at hl 0 rfl) ?_
      refine lv_iload_n (pc := 81) hx hb dX11_isAbove_81 rfl (lv_at hl 1 rfl) ?_
      refine r_cvI (pc := 82) (As := [.int x1]) (rest := []) X hH (fun x hx => mX11_isVariable hx) cw_X11_117 (heM_0 V w) rfl rfl rfl (Nat.le_of_ble_eq_true rfl) hl.1 h dX11_isAbove_82 (fun w3 v4 H locs h hH => ?_)
      refine b_if_ne (pc := 85) (tgt := 96) hx hb h dX11_isAbove_85 (by decide) (fun h => ?_) (fun h => ?_)
      · exact kX11_isAbove_96 X hs_X11_isAbove  h hH (lv_sub hl [0, 1] rfl)
      · refine lv_aload_n (pc := 88) hx hb dX11_isAbove_88 rfl (lv_at hl 0 rfl) ?_
        refine lv_iload_n (pc := 89) hx hb dX11_isAbove_89 rfl (lv_at hl 2 rfl) ?_
        refine r_cvI (pc := 90) (As := [.int x2]) (rest := []) X hH (fun x hx => mX11_isVariable hx) cw_X11_117 (heM_0 V w3) rfl rfl rfl (Nat.le_of_ble_eq_true rfl) hl.1 h dX11_isAbove_90 (fun w7 v8 H locs h hH => ?_)
        refine b_if_eq (pc := 93) (tgt := 110) hx hb h dX11_isAbove_93 (by decide) (fun h => ?_) (fun h => ?_)
        · refine lv_aload_n (pc := 110) hx hb dX11_isAbove_110 rfl (lv_at hl 0 rfl) ?_
          refine gM_X11_16_0 (pc := 111) X hH dX11_isAbove_111 ?_
          refine lv_iload_n (pc := 114) hx hb dX11_isAbove_114 rfl (lv_at hl 1 rfl) ?_
          refine r_ld (pc := 115) X (heM_3 V w7) hH h dX11_isAbove_115 (fun v9 h => ?_)
          refine lv_aload_n (pc := 116) hx hb dX11_isAbove_116 rfl (lv_at hl 0 rfl) ?_
          refine gM_X11_16_0 (pc := 117) X hH dX11_isAbove_117 ?_
          refine lv_iload_n (pc := 120) hx hb dX11_isAbove_120 rfl (lv_at hl 2 rfl) ?_
          refine r_ld (pc := 121) X (heM_3 V w7) hH h dX11_isAbove_121 (fun v10 h => ?_)
          refine b_icmp_eq (pc := 122) (tgt := 146) hx hb h dX11_isAbove_122 (by decide) (fun h => ?_) (fun h => ?_)
          · refine lv_iconst (pc := 146) (v := 0) hx hb dX11_isAbove_146 (by decide) ?_
            refine lv_istore_n (pc := 147) (lv' := [(3, .int ((0 : Int32))), (0, .ref (V.2.2 0)), (1, .int x1), (2, .int x2)]) hx hb dX11_isAbove_147 rfl hl (by decide) rfl (fun ls hl => ?_)
            exact lX11_isAbove_148 X hs_X11_isAbove  N h hH (lv_sub hl [1, 2, 3, 0] rfl)
          · refine lv_aload_n (pc := 125) hx hb dX11_isAbove_125 rfl (lv_at hl 0 rfl) ?_
            refine gM_X11_16_0 (pc := 126) X hH dX11_isAbove_126 ?_
            refine lv_iload_n (pc := 129) hx hb dX11_isAbove_129 rfl (lv_at hl 1 rfl) ?_
            refine r_ld (pc := 130) X (heM_3 V w7) hH h dX11_isAbove_130 (fun v24 h => ?_)
            refine lv_aload_n (pc := 131) hx hb dX11_isAbove_131 rfl (lv_at hl 0 rfl) ?_
            refine gM_X11_16_0 (pc := 132) X hH dX11_isAbove_132 ?_
            refine lv_iload_n (pc := 135) hx hb dX11_isAbove_135 rfl (lv_at hl 2 rfl) ?_
            refine r_ld (pc := 136) X (heM_3 V w7) hH h dX11_isAbove_136 (fun v25 h => ?_)
            refine b_icmp_le (pc := 137) (tgt := 144) hx hb h dX11_isAbove_137 (by decide) (fun h => ?_) (fun h => ?_)
            · refine lv_iconst (pc := 144) (v := 0) hx hb dX11_isAbove_144 (by decide) ?_
              exact kX11_isAbove_145 X hs_X11_isAbove  h hH (lv_sub hl [] rfl)
            · refine lv_iconst (pc := 140) (v := 1) hx hb dX11_isAbove_140 (by decide) ?_
              refine lv_goto (pc := 141) (tgt := 145) hx hb dX11_isAbove_141 (by decide) ?_
              exact kX11_isAbove_145 X hs_X11_isAbove  h hH (lv_sub hl [] rfl)
        · exact kX11_isAbove_96 X hs_X11_isAbove  h hH (lv_sub hl [0, 1] rfl)
    · refine lv_aload_n (pc := 58) hx hb dX11_isAbove_58 rfl (lv_at hl 0 rfl) ?_
      refine gM_X11_29_0 (pc := 59) X hH dX11_isAbove_59 ?_
      refine lv_iload_n (pc := 62) hx hb dX11_isAbove_62 rfl (lv_at hl 1 rfl) ?_
      refine r_ll (pc := 63) X (heM_7 V w) hH h dX11_isAbove_63 (fun v26 h => ?_)
      refine lv_aload_n (pc := 64) hx hb dX11_isAbove_64 rfl (lv_at hl 0 rfl) ?_
      refine gM_X11_29_0 (pc := 65) X hH dX11_isAbove_65 ?_
      refine lv_iload_n (pc := 68) hx hb dX11_isAbove_68 rfl (lv_at hl 2 rfl) ?_
      refine r_ll (pc := 69) X (heM_7 V w) hH h dX11_isAbove_69 (fun v27 h => ?_)
      refine W.lcmp (pc := 70) hx hb dX11_isAbove_70 ?_
      refine b_if_le (pc := 71) (tgt := 78) hx hb h dX11_isAbove_71 (by decide) (fun h => ?_) (fun h => ?_)
      · refine lv_iconst (pc := 78) (v := 0) hx hb dX11_isAbove_78 (by decide) ?_
        exact kX11_isAbove_79 X hs_X11_isAbove  h hH (lv_sub hl [] rfl)
      · refine lv_iconst (pc := 74) (v := 1) hx hb dX11_isAbove_74 (by decide) ?_
        refine lv_goto (pc := 75) (tgt := 79) hx hb dX11_isAbove_75 (by decide) ?_
        exact kX11_isAbove_79 X hs_X11_isAbove  h hH (lv_sub hl [] rfl)
  · refine lv_aload_n (pc := 8) hx hb dX11_isAbove_8 rfl (lv_at hl 0 rfl) ?_
    refine gM_X11_32_0 (pc := 9) X hH dX11_isAbove_9 ?_
    refine lv_bipush (pc := 12) (v := 8) hx hb dX11_isAbove_12 (by decide) ?_
    refine lv_iload_n (pc := 14) hx hb dX11_isAbove_14 rfl (lv_at hl 2 rfl) ?_
    refine lv_imul (pc := 15) hx hb dX11_isAbove_15 ?_
    refine lv_iload_n (pc := 16) hx hb dX11_isAbove_16 rfl (lv_at hl 3 rfl) ?_
    refine lv_iadd (pc := 17) hx hb dX11_isAbove_17 ?_
    refine r_ll (pc := 18) X (heM_8 V w) hH h dX11_isAbove_18 (fun v28 h => ?_)
    refine lv_aload_n (pc := 19) hx hb dX11_isAbove_19 rfl (lv_at hl 0 rfl) ?_
    refine gM_X11_32_0 (pc := 20) X hH dX11_isAbove_20 ?_
    refine lv_bipush (pc := 23) (v := 8) hx hb dX11_isAbove_23 (by decide) ?_
    refine lv_iload_n (pc := 25) hx hb dX11_isAbove_25 rfl (lv_at hl 1 rfl) ?_
    refine lv_imul (pc := 26) hx hb dX11_isAbove_26 ?_
    refine lv_iload_n (pc := 27) hx hb dX11_isAbove_27 rfl (lv_at hl 3 rfl) ?_
    refine lv_iadd (pc := 28) hx hb dX11_isAbove_28 ?_
    refine r_ll (pc := 29) X (heM_8 V w) hH h dX11_isAbove_29 (fun v29 h => ?_)
    refine W.lcmp (pc := 30) hx hb dX11_isAbove_30 ?_
    refine b_if_le (pc := 31) (tgt := 36) hx hb h dX11_isAbove_31 (by decide) (fun h => ?_) (fun h => ?_)
    · obtain ⟨x3_30, ex3_30, h⟩ := c_nm_ex h
      refine lv_iinc (pc := 36) (v := x3_30) (lv' := [(3, .int x3_30), (0, .ref (V.2.2 0)), (1, .int x1), (2, .int x2)]) hx hb dX11_isAbove_36 hl (k := 3) rfl (by rw [← ex3_30]; rfl) (by decide) rfl (fun ls hl => ?_)
      refine lv_goto (pc := 39) (tgt := 2) hx hb dX11_isAbove_39 (by decide) ?_
      exact hr2 _ _ _ _ _ _ _ h hH (lv_sub hl [1, 2, 3, 0] rfl)
    · refine lv_iconst (pc := 34) (v := 0) hx hb dX11_isAbove_34 (by decide) ?_
      exact r_zretk (pc := 35) (by decide) X hH h dX11_isAbove_35
def fX11_isAbove_2 (N d : Nat) (self_X11_isAbove : Wd → Int32 → Int32 → Option (Wd × Int32))  : Nat → Wd → Int32 → Int32 → Int32 → Option (Wd × Int32)
  | 0 => fun _ _ _ _ => none
  | n + 1 => fun w x1 x2 x3 => bX11_isAbove_2 N d self_X11_isAbove  (fX11_isAbove_2 N d self_X11_isAbove  n) w x1 x2 x3
theorem lX11_isAbove_2 {V : Ev} {p : Program} {l : Launch} {e : Env} {N d : Nat} {s : State} {m : MethodId} {args : Array Value} {below : List Frame} {meth : Method} {c : Code} {z : Wd × Int32} (X : CX V p s m args meth c cX11_isAbove 4 RX11 (some .boolean)) {self_X11_isAbove : Wd → Int32 → Int32 → Option (Wd × Int32)} (hs_X11_isAbove : ∀ (w : Wd) (a0 : Int32) (a1 : Int32) (x : Wd × Int32), self_X11_isAbove w a0 a1 = some x → MetI l V (cM V) (AM V) yX11_isAbove cX11_isAbove 4 (some .boolean) d [.ref (V.2.2 0), .int a0, .int a1] w x)  (n : Nat) {w : Wd} {x1 : Int32} {x2 : Int32} {x3 : Int32} {H : Heap} {locs : List Loc} {ls : Array Slot} (h : fX11_isAbove_2 N d self_X11_isAbove  n w x1 x2 x3 = some z) (hH : wH V (cM V) (AM V) s w H locs) (hl : lv_has ls 4 [(0, .ref (V.2.2 0)), (1, .int x1), (2, .int x2), (3, .int x3)]) : W p l e (rmD (d + 1)) s m args below meth c H locs 0 0 (MQ below (CtI V (cM V) (AM V) z) args s 0 0 (AM V)) (F0 m 2 ls []) := by
  induction n generalizing w x1 x2 x3 H locs ls with
  | zero => exact c_none h
  | succ n ih => exact kX11_isAbove_2 (N := N) X hs_X11_isAbove (fun _ _ _ _ _ _ _ h hH hl => ih h hH hl) h hH hl
def bX11_isAbove_0 (N d : Nat) (self_X11_isAbove : Wd → Int32 → Int32 → Option (Wd × Int32))  (w : Wd) (x1 : Int32) (x2 : Int32) : Option (Wd × Int32) :=
  fX11_isAbove_2 N d self_X11_isAbove  N w x1 x2 ((0 : Int32))
set_option maxHeartbeats 4000000 in
theorem kX11_isAbove_0 {V : Ev} {p : Program} {l : Launch} {e : Env} {N d : Nat} {s : State} {m : MethodId} {args : Array Value} {below : List Frame} {meth : Method} {c : Code} {z : Wd × Int32} (X : CX V p s m args meth c cX11_isAbove 4 RX11 (some .boolean)) {self_X11_isAbove : Wd → Int32 → Int32 → Option (Wd × Int32)} (hs_X11_isAbove : ∀ (w : Wd) (a0 : Int32) (a1 : Int32) (x : Wd × Int32), self_X11_isAbove w a0 a1 = some x → MetI l V (cM V) (AM V) yX11_isAbove cX11_isAbove 4 (some .boolean) d [.ref (V.2.2 0), .int a0, .int a1] w x)  {w : Wd} {x1 : Int32} {x2 : Int32} {H : Heap} {locs : List Loc} {ls : Array Slot} (h : bX11_isAbove_0 N d self_X11_isAbove  w x1 x2 = some z) (hH : wH V (cM V) (AM V) s w H locs) (hl : lv_has ls 4 [(0, .ref (V.2.2 0)), (1, .int x1), (2, .int x2)]) : W p l e (rmD (d + 1)) s m args below meth c H locs 0 0 (MQ below (CtI V (cM V) (AM V) z) args s 0 0 (AM V)) (F0 m 0 ls []) := by
  unfold bX11_isAbove_0 at h
  obtain ⟨hx, hb, hml, hown, hg, hrt, hlk, hK⟩ := id X
  refine lv_iconst (pc := 0) (v := 0) hx hb dX11_isAbove_0 (by decide) ?_
  refine lv_istore_n (pc := 1) (lv' := [(3, .int ((0 : Int32))), (0, .ref (V.2.2 0)), (1, .int x1), (2, .int x2)]) hx hb dX11_isAbove_1 rfl hl (by decide) rfl (fun ls hl => ?_)
  exact lX11_isAbove_2 X hs_X11_isAbove  N h hH (lv_sub hl [1, 2, 3, 0] rfl)
def eX11_isAbove (N : Nat) : Nat → Wd → Int32 → Int32 → Option (Wd × Int32)
  | 0 => fun _ _ _ => none
  | d + 1 => fun w x1 x2 => bX11_isAbove_0 N d (eX11_isAbove N d) w x1 x2
set_option maxHeartbeats 4000000 in
set_option maxRecDepth 20000 in
theorem mX11_isAbove {l : Launch} {V : Ev} {N d : Nat} {w : Wd} {x1 : Int32} {x2 : Int32} {z : Wd × Int32} (h : eX11_isAbove N d w x1 x2 = some z) : MetI l V (cM V) (AM V) yX11_isAbove cX11_isAbove 4 (some .boolean) d [.ref (V.2.2 0), .int x1, .int x2] w z := by
  induction d generalizing w x1 x2 z with
  | zero => exact c_none h
  | succ d ih =>
    refine Met.ofW (cc := cX11_isAbove) (maxL := 4) (ret := (some .boolean)) (by decide) rfl ?_
    intro p e s m args below meth c s₁ B hml hv
    obtain ⟨rfl, hP, hD, hK⟩ := hv
    have hts := atoms_spec (ws := .code yX11_isAbove cX11_isAbove 4 (some .boolean) :: gG) B.pre
    have X : CX V p s m ([.ref (V.2.2 0), .int x1, .int x2] : List Value).toArray meth c cX11_isAbove 4 RX11 (some .boolean) := ⟨B.exec, B.bytes, hml, findClass_of_methodNamed B.named, fun w hw => hts w (List.mem_cons_of_mem _ hw), B.returns, B.notSynchronized, hK⟩
    have hl := lv_entry ([.ref (V.2.2 0), .int x1, .int x2] : List Value) (n := 4) (Nat.le_of_ble_eq_true rfl)
    rw [lg_entry_eq]
    generalize (lg_sl ([.ref (V.2.2 0), .int x1, .int x2] : List Value) ++ List.replicate (4 - (lg_sl ([.ref (V.2.2 0), .int x1, .int x2] : List Value)).length) Slot.unset).toArray = ls at hl ⊢
    have hl : lv_has ls 4 [(0, .ref (V.2.2 0)), (1, .int x1), (2, .int x2)] := hl
    exact kX11_isAbove_0 (N := N) X (fun _ _ _ _ h => ih h) h ⟨hP, hD, va_S.rf⟩ hl
theorem dX11_ends_0 : decode cX11_ends 0 = .ok (.aload_n 0, 1) := by decide +kernel
theorem dX11_ends_1 : decode cX11_ends 1 = .ok (.iconst 0, 1) := by decide +kernel
theorem dX11_ends_2 : decode cX11_ends 2 = .ok (.putfield 111, 3) := by decide +kernel
theorem dX11_ends_5 : decode cX11_ends 5 = .ok (.aload_n 0, 1) := by decide +kernel
theorem dX11_ends_6 : decode cX11_ends 6 = .ok (.iload_n 1, 1) := by decide +kernel
theorem dX11_ends_7 : decode cX11_ends 7 = .ok (.invokevirtual 236, 3) := by decide +kernel
theorem dX11_ends_10 : decode cX11_ends 10 = .ok (.ifCond .ne 8, 3) := by decide +kernel
theorem dX11_ends_13 : decode cX11_ends 13 = .ok (.bipush (-2), 2) := by decide +kernel
theorem dX11_ends_15 : decode cX11_ends 15 = .ok (.goto 27, 3) := by decide +kernel
theorem dX11_ends_18 : decode cX11_ends 18 = .ok (.aload_n 0, 1) := by decide +kernel
theorem dX11_ends_19 : decode cX11_ends 19 = .ok (.aload_n 0, 1) := by decide +kernel
theorem dX11_ends_20 : decode cX11_ends 20 = .ok (.getfield 35, 3) := by decide +kernel
theorem dX11_ends_23 : decode cX11_ends 23 = .ok (.iload_n 1, 1) := by decide +kernel
theorem dX11_ends_24 : decode cX11_ends 24 = .ok (.iaload, 1) := by decide +kernel
theorem dX11_ends_25 : decode cX11_ends 25 = .ok (.aload_n 0, 1) := by decide +kernel
theorem dX11_ends_26 : decode cX11_ends 26 = .ok (.getfield 38, 3) := by decide +kernel
theorem dX11_ends_29 : decode cX11_ends 29 = .ok (.iload_n 1, 1) := by decide +kernel
theorem dX11_ends_30 : decode cX11_ends 30 = .ok (.iaload, 1) := by decide +kernel
theorem dX11_ends_31 : decode cX11_ends 31 = .ok (.invokevirtual 239, 3) := by decide +kernel
theorem dX11_ends_34 : decode cX11_ends 34 = .ok (.ifCond .eq 7, 3) := by decide +kernel
theorem dX11_ends_37 : decode cX11_ends 37 = .ok (.iconst 1, 1) := by decide +kernel
theorem dX11_ends_38 : decode cX11_ends 38 = .ok (.goto 4, 3) := by decide +kernel
theorem dX11_ends_41 : decode cX11_ends 41 = .ok (.iconst 0, 1) := by decide +kernel
theorem dX11_ends_42 : decode cX11_ends 42 = .ok (.ireturn, 1) := by decide +kernel
def bX11_ends_42 (N d : Nat)   (w : Wd) (y0 : Int32) : Option (Wd × Int32) :=
  some (w, y0)
set_option maxHeartbeats 4000000 in
theorem kX11_ends_42 {V : Ev} {p : Program} {l : Launch} {e : Env} {N d : Nat} {s : State} {m : MethodId} {args : Array Value} {below : List Frame} {meth : Method} {c : Code} {z : Wd × Int32} (X : CX V p s m args meth c cX11_ends 2 RX11 (some .int))    {w : Wd} {y0 : Int32} {H : Heap} {locs : List Loc} {ls : Array Slot} (h : bX11_ends_42 N d   w y0 = some z) (hH : wH V (cM V) (AM V) s w H locs) (hl : lv_has ls 2 []) : W p l e (rmD (d + 1)) s m args below meth c H locs 0 0 (MQ below (CtI V (cM V) (AM V) z) args s 0 0 (AM V)) (F0 m 42 ls [.int y0]) := by
  unfold bX11_ends_42 at h
  obtain ⟨hx, hb, hml, hown, hg, hrt, hlk, hK⟩ := id X
  exact r_iret (pc := 42) X hH h dX11_ends_42
def bX11_ends_0 (N d : Nat)   (w : Wd) (x1 : Int32) : Option (Wd × Int32) :=
  c_pi w 0 0 fun w1 =>
  c_cl (eX11_isRule N d w1 x1) fun w2 v3 =>
  if v3 = 0 then (
    bX11_ends_42 N d   w2 (-2)
  ) else (
    c_ld w2 9 16 x1 fun v4 =>
    c_ld w2 10 16 x1 fun v5 =>
    c_cl (eX11_isAbove N d w2 v4 v5) fun w6 v7 =>
    if v7 = 0 then (
      bX11_ends_42 N d   w6 0
    ) else (
      bX11_ends_42 N d   w6 1
    )
  )
set_option maxHeartbeats 4000000 in
theorem kX11_ends_0 {V : Ev} {p : Program} {l : Launch} {e : Env} {N d : Nat} {s : State} {m : MethodId} {args : Array Value} {below : List Frame} {meth : Method} {c : Code} {z : Wd × Int32} (X : CX V p s m args meth c cX11_ends 2 RX11 (some .int))    {w : Wd} {x1 : Int32} {H : Heap} {locs : List Loc} {ls : Array Slot} (h : bX11_ends_0 N d   w x1 = some z) (hH : wH V (cM V) (AM V) s w H locs) (hl : lv_has ls 2 [(0, .ref (V.2.2 0)), (1, .int x1)]) : W p l e (rmD (d + 1)) s m args below meth c H locs 0 0 (MQ below (CtI V (cM V) (AM V) z) args s 0 0 (AM V)) (F0 m 0 ls []) := by
  unfold bX11_ends_0 at h
  obtain ⟨hx, hb, hml, hown, hg, hrt, hlk, hK⟩ := id X
  refine lv_aload_n (pc := 0) hx hb dX11_ends_0 rfl (lv_at hl 0 rfl) ?_
  refine lv_iconst (pc := 1) (v := 0) hx hb dX11_ends_1 (by decide) ?_
  refine pM_X11_111_0 (pc := 2) X hH h dX11_ends_2 (fun w1 H locs h hH => ?_)
  refine lv_aload_n (pc := 5) hx hb dX11_ends_5 rfl (lv_at hl 0 rfl) ?_
  refine lv_iload_n (pc := 6) hx hb dX11_ends_6 rfl (lv_at hl 1 rfl) ?_
  refine r_cvI (pc := 7) (As := [.int x1]) (rest := []) X hH (fun x hx => mX11_isRule hx) cw_X11_236 (heM_0 V w1) rfl rfl rfl (Nat.le_of_ble_eq_true rfl) hl.1 h dX11_ends_7 (fun w2 v3 H locs h hH => ?_)
  refine b_if_ne (pc := 10) (tgt := 18) hx hb h dX11_ends_10 (by decide) (fun h => ?_) (fun h => ?_)
  · refine lv_aload_n (pc := 18) hx hb dX11_ends_18 rfl (lv_at hl 0 rfl) ?_
    refine lv_aload_n (pc := 19) hx hb dX11_ends_19 rfl (lv_at hl 0 rfl) ?_
    refine gM_X11_35_0 (pc := 20) X hH dX11_ends_20 ?_
    refine lv_iload_n (pc := 23) hx hb dX11_ends_23 rfl (lv_at hl 1 rfl) ?_
    refine r_ld (pc := 24) X (heM_9 V w2) hH h dX11_ends_24 (fun v4 h => ?_)
    refine lv_aload_n (pc := 25) hx hb dX11_ends_25 rfl (lv_at hl 0 rfl) ?_
    refine gM_X11_38_0 (pc := 26) X hH dX11_ends_26 ?_
    refine lv_iload_n (pc := 29) hx hb dX11_ends_29 rfl (lv_at hl 1 rfl) ?_
    refine r_ld (pc := 30) X (heM_10 V w2) hH h dX11_ends_30 (fun v5 h => ?_)
    refine r_cvI (pc := 31) (As := [.int v4, .int v5]) (rest := []) X hH (fun x hx => mX11_isAbove hx) cw_X11_239 (heM_0 V w2) rfl rfl rfl (Nat.le_of_ble_eq_true rfl) hl.1 h dX11_ends_31 (fun w6 v7 H locs h hH => ?_)
    refine b_if_eq (pc := 34) (tgt := 41) hx hb h dX11_ends_34 (by decide) (fun h => ?_) (fun h => ?_)
    · refine lv_iconst (pc := 41) (v := 0) hx hb dX11_ends_41 (by decide) ?_
      exact kX11_ends_42 X   h hH (lv_sub hl [] rfl)
    · refine lv_iconst (pc := 37) (v := 1) hx hb dX11_ends_37 (by decide) ?_
      refine lv_goto (pc := 38) (tgt := 42) hx hb dX11_ends_38 (by decide) ?_
      exact kX11_ends_42 X   h hH (lv_sub hl [] rfl)
  · refine lv_bipush (pc := 13) (v := -2) hx hb dX11_ends_13 (by decide) ?_
    refine lv_goto (pc := 15) (tgt := 42) hx hb dX11_ends_15 (by decide) ?_
    exact kX11_ends_42 X   h hH (lv_sub hl [] rfl)
def eX11_ends (N : Nat) : Nat → Wd → Int32 → Option (Wd × Int32)
  | 0 => fun _ _ => none
  | d + 1 => fun w x1 => bX11_ends_0 N d  w x1
set_option maxHeartbeats 4000000 in
set_option maxRecDepth 20000 in
theorem mX11_ends {l : Launch} {V : Ev} {N d : Nat} {w : Wd} {x1 : Int32} {z : Wd × Int32} (h : eX11_ends N d w x1 = some z) : MetI l V (cM V) (AM V) yX11_ends cX11_ends 2 (some .int) d [.ref (V.2.2 0), .int x1] w z := by
  cases d with
  | zero => exact c_none h
  | succ d =>
    refine Met.ofW (cc := cX11_ends) (maxL := 2) (ret := (some .int)) (by decide) rfl ?_
    intro p e s m args below meth c s₁ B hml hv
    obtain ⟨rfl, hP, hD, hK⟩ := hv
    have hts := atoms_spec (ws := .code yX11_ends cX11_ends 2 (some .int) :: gG) B.pre
    have X : CX V p s m ([.ref (V.2.2 0), .int x1] : List Value).toArray meth c cX11_ends 2 RX11 (some .int) := ⟨B.exec, B.bytes, hml, findClass_of_methodNamed B.named, fun w hw => hts w (List.mem_cons_of_mem _ hw), B.returns, B.notSynchronized, hK⟩
    have hl := lv_entry ([.ref (V.2.2 0), .int x1] : List Value) (n := 2) (Nat.le_of_ble_eq_true rfl)
    rw [lg_entry_eq]
    generalize (lg_sl ([.ref (V.2.2 0), .int x1] : List Value) ++ List.replicate (2 - (lg_sl ([.ref (V.2.2 0), .int x1] : List Value)).length) Slot.unset).toArray = ls at hl ⊢
    have hl : lv_has ls 2 [(0, .ref (V.2.2 0)), (1, .int x1)] := hl
    exact kX11_ends_0 (N := N) X  h ⟨hP, hD, va_S.rf⟩ hl
theorem dX11_above_0 : decode cX11_above 0 = .ok (.aload_n 0, 1) := by decide +kernel
theorem dX11_above_1 : decode cX11_above 1 = .ok (.iconst 0, 1) := by decide +kernel
theorem dX11_above_2 : decode cX11_above 2 = .ok (.putfield 111, 3) := by decide +kernel
theorem dX11_above_5 : decode cX11_above 5 = .ok (.aload_n 0, 1) := by decide +kernel
theorem dX11_above_6 : decode cX11_above 6 = .ok (.iload_n 1, 1) := by decide +kernel
theorem dX11_above_7 : decode cX11_above 7 = .ok (.invokevirtual 206, 3) := by decide +kernel
theorem dX11_above_10 : decode cX11_above 10 = .ok (.ifCond .eq 11, 3) := by decide +kernel
theorem dX11_above_13 : decode cX11_above 13 = .ok (.aload_n 0, 1) := by decide +kernel
theorem dX11_above_14 : decode cX11_above 14 = .ok (.iload_n 2, 1) := by decide +kernel
theorem dX11_above_15 : decode cX11_above 15 = .ok (.invokevirtual 206, 3) := by decide +kernel
theorem dX11_above_18 : decode cX11_above 18 = .ok (.ifCond .ne 6, 3) := by decide +kernel
theorem dX11_above_21 : decode cX11_above 21 = .ok (.bipush (-2), 2) := by decide +kernel
theorem dX11_above_23 : decode cX11_above 23 = .ok (.ireturn, 1) := by decide +kernel
theorem dX11_above_24 : decode cX11_above 24 = .ok (.aload_n 0, 1) := by decide +kernel
theorem dX11_above_25 : decode cX11_above 25 = .ok (.getfield 25, 3) := by decide +kernel
theorem dX11_above_28 : decode cX11_above 28 = .ok (.iload_n 1, 1) := by decide +kernel
theorem dX11_above_29 : decode cX11_above 29 = .ok (.laload, 1) := by decide +kernel
theorem dX11_above_30 : decode cX11_above 30 = .ok (.ldc2_w 234, 3) := by decide +kernel
theorem dX11_above_33 : decode cX11_above 33 = .ok (.lcmp, 1) := by decide +kernel
theorem dX11_above_34 : decode cX11_above 34 = .ok (.ifCond .gt 16, 3) := by decide +kernel
theorem dX11_above_37 : decode cX11_above 37 = .ok (.aload_n 0, 1) := by decide +kernel
theorem dX11_above_38 : decode cX11_above 38 = .ok (.getfield 25, 3) := by decide +kernel
theorem dX11_above_41 : decode cX11_above 41 = .ok (.iload_n 2, 1) := by decide +kernel
theorem dX11_above_42 : decode cX11_above 42 = .ok (.laload, 1) := by decide +kernel
theorem dX11_above_43 : decode cX11_above 43 = .ok (.ldc2_w 234, 3) := by decide +kernel
theorem dX11_above_46 : decode cX11_above 46 = .ok (.lcmp, 1) := by decide +kernel
theorem dX11_above_47 : decode cX11_above 47 = .ok (.ifCond .le 8, 3) := by decide +kernel
theorem dX11_above_50 : decode cX11_above 50 = .ok (.bipush (-3), 2) := by decide +kernel
theorem dX11_above_52 : decode cX11_above 52 = .ok (.goto 17, 3) := by decide +kernel
theorem dX11_above_55 : decode cX11_above 55 = .ok (.aload_n 0, 1) := by decide +kernel
theorem dX11_above_56 : decode cX11_above 56 = .ok (.iload_n 1, 1) := by decide +kernel
theorem dX11_above_57 : decode cX11_above 57 = .ok (.iload_n 2, 1) := by decide +kernel
theorem dX11_above_58 : decode cX11_above 58 = .ok (.invokevirtual 239, 3) := by decide +kernel
theorem dX11_above_61 : decode cX11_above 61 = .ok (.ifCond .eq 7, 3) := by decide +kernel
theorem dX11_above_64 : decode cX11_above 64 = .ok (.iconst 1, 1) := by decide +kernel
theorem dX11_above_65 : decode cX11_above 65 = .ok (.goto 4, 3) := by decide +kernel
theorem dX11_above_68 : decode cX11_above 68 = .ok (.iconst 0, 1) := by decide +kernel
theorem dX11_above_69 : decode cX11_above 69 = .ok (.ireturn, 1) := by decide +kernel
def bX11_above_21 (N d : Nat)   (w : Wd)  : Option (Wd × Int32) :=
  some (w, -2)
set_option maxHeartbeats 4000000 in
theorem kX11_above_21 {V : Ev} {p : Program} {l : Launch} {e : Env} {N d : Nat} {s : State} {m : MethodId} {args : Array Value} {below : List Frame} {meth : Method} {c : Code} {z : Wd × Int32} (X : CX V p s m args meth c cX11_above 3 RX11 (some .int))    {w : Wd}  {H : Heap} {locs : List Loc} {ls : Array Slot} (h : bX11_above_21 N d   w  = some z) (hH : wH V (cM V) (AM V) s w H locs) (hl : lv_has ls 3 []) : W p l e (rmD (d + 1)) s m args below meth c H locs 0 0 (MQ below (CtI V (cM V) (AM V) z) args s 0 0 (AM V)) (F0 m 21 ls []) := by
  unfold bX11_above_21 at h
  obtain ⟨hx, hb, hml, hown, hg, hrt, hlk, hK⟩ := id X
  refine lv_bipush (pc := 21) (v := -2) hx hb dX11_above_21 (by decide) ?_
  exact r_iret (pc := 23) X hH h dX11_above_23
def bX11_above_69 (N d : Nat)   (w : Wd) (y0 : Int32) : Option (Wd × Int32) :=
  some (w, y0)
set_option maxHeartbeats 4000000 in
theorem kX11_above_69 {V : Ev} {p : Program} {l : Launch} {e : Env} {N d : Nat} {s : State} {m : MethodId} {args : Array Value} {below : List Frame} {meth : Method} {c : Code} {z : Wd × Int32} (X : CX V p s m args meth c cX11_above 3 RX11 (some .int))    {w : Wd} {y0 : Int32} {H : Heap} {locs : List Loc} {ls : Array Slot} (h : bX11_above_69 N d   w y0 = some z) (hH : wH V (cM V) (AM V) s w H locs) (hl : lv_has ls 3 []) : W p l e (rmD (d + 1)) s m args below meth c H locs 0 0 (MQ below (CtI V (cM V) (AM V) z) args s 0 0 (AM V)) (F0 m 69 ls [.int y0]) := by
  unfold bX11_above_69 at h
  obtain ⟨hx, hb, hml, hown, hg, hrt, hlk, hK⟩ := id X
  exact r_iret (pc := 69) X hH h dX11_above_69
def bX11_above_50 (N d : Nat)   (w : Wd)  : Option (Wd × Int32) :=
  bX11_above_69 N d   w (-3)
set_option maxHeartbeats 4000000 in
theorem kX11_above_50 {V : Ev} {p : Program} {l : Launch} {e : Env} {N d : Nat} {s : State} {m : MethodId} {args : Array Value} {below : List Frame} {meth : Method} {c : Code} {z : Wd × Int32} (X : CX V p s m args meth c cX11_above 3 RX11 (some .int))    {w : Wd}  {H : Heap} {locs : List Loc} {ls : Array Slot} (h : bX11_above_50 N d   w  = some z) (hH : wH V (cM V) (AM V) s w H locs) (hl : lv_has ls 3 []) : W p l e (rmD (d + 1)) s m args below meth c H locs 0 0 (MQ below (CtI V (cM V) (AM V) z) args s 0 0 (AM V)) (F0 m 50 ls []) := by
  unfold bX11_above_50 at h
  obtain ⟨hx, hb, hml, hown, hg, hrt, hlk, hK⟩ := id X
  refine lv_bipush (pc := 50) (v := -3) hx hb dX11_above_50 (by decide) ?_
  refine lv_goto (pc := 52) (tgt := 69) hx hb dX11_above_52 (by decide) ?_
  exact kX11_above_69 X   h hH (lv_sub hl [] rfl)
def bX11_above_0 (N d : Nat)   (w : Wd) (x1 : Int32) (x2 : Int32) : Option (Wd × Int32) :=
  c_pi w 0 0 fun w1 =>
  c_cl (eX11_isTerm N d w1 x1) fun w2 v3 =>
  if v3 = 0 then (
    bX11_above_21 N d   w2 
  ) else (
    c_cl (eX11_isTerm N d w2 x2) fun w4 v5 =>
    if v5 = 0 then (
      bX11_above_21 N d   w4 
    ) else (
      c_ll w4 6 1000 x1 fun v6 =>
      if 0 < (lg_cmp v6 30) then (
        bX11_above_50 N d   w4 
      ) else (
        c_ll w4 6 1000 x2 fun v7 =>
        if (lg_cmp v7 30) ≤ 0 then (
          c_cl (eX11_isAbove N d w4 x1 x2) fun w8 v9 =>
          if v9 = 0 then (
            bX11_above_69 N d   w8 0
          ) else (
            bX11_above_69 N d   w8 1
          )
        ) else (
          bX11_above_50 N d   w4 
        )
      )
    )
  )
set_option maxHeartbeats 4000000 in
theorem kX11_above_0 {V : Ev} {p : Program} {l : Launch} {e : Env} {N d : Nat} {s : State} {m : MethodId} {args : Array Value} {below : List Frame} {meth : Method} {c : Code} {z : Wd × Int32} (X : CX V p s m args meth c cX11_above 3 RX11 (some .int))    {w : Wd} {x1 : Int32} {x2 : Int32} {H : Heap} {locs : List Loc} {ls : Array Slot} (h : bX11_above_0 N d   w x1 x2 = some z) (hH : wH V (cM V) (AM V) s w H locs) (hl : lv_has ls 3 [(0, .ref (V.2.2 0)), (1, .int x1), (2, .int x2)]) : W p l e (rmD (d + 1)) s m args below meth c H locs 0 0 (MQ below (CtI V (cM V) (AM V) z) args s 0 0 (AM V)) (F0 m 0 ls []) := by
  unfold bX11_above_0 at h
  obtain ⟨hx, hb, hml, hown, hg, hrt, hlk, hK⟩ := id X
  refine lv_aload_n (pc := 0) hx hb dX11_above_0 rfl (lv_at hl 0 rfl) ?_
  refine lv_iconst (pc := 1) (v := 0) hx hb dX11_above_1 (by decide) ?_
  refine pM_X11_111_0 (pc := 2) X hH h dX11_above_2 (fun w1 H locs h hH => ?_)
  refine lv_aload_n (pc := 5) hx hb dX11_above_5 rfl (lv_at hl 0 rfl) ?_
  refine lv_iload_n (pc := 6) hx hb dX11_above_6 rfl (lv_at hl 1 rfl) ?_
  refine r_cvI (pc := 7) (As := [.int x1]) (rest := []) X hH (fun x hx => mX11_isTerm hx) cw_X11_206 (heM_0 V w1) rfl rfl rfl (Nat.le_of_ble_eq_true rfl) hl.1 h dX11_above_7 (fun w2 v3 H locs h hH => ?_)
  refine b_if_eq (pc := 10) (tgt := 21) hx hb h dX11_above_10 (by decide) (fun h => ?_) (fun h => ?_)
  · exact kX11_above_21 X   h hH (lv_sub hl [] rfl)
  · refine lv_aload_n (pc := 13) hx hb dX11_above_13 rfl (lv_at hl 0 rfl) ?_
    refine lv_iload_n (pc := 14) hx hb dX11_above_14 rfl (lv_at hl 2 rfl) ?_
    refine r_cvI (pc := 15) (As := [.int x2]) (rest := []) X hH (fun x hx => mX11_isTerm hx) cw_X11_206 (heM_0 V w2) rfl rfl rfl (Nat.le_of_ble_eq_true rfl) hl.1 h dX11_above_15 (fun w4 v5 H locs h hH => ?_)
    refine b_if_ne (pc := 18) (tgt := 24) hx hb h dX11_above_18 (by decide) (fun h => ?_) (fun h => ?_)
    · refine lv_aload_n (pc := 24) hx hb dX11_above_24 rfl (lv_at hl 0 rfl) ?_
      refine gM_X11_25_0 (pc := 25) X hH dX11_above_25 ?_
      refine lv_iload_n (pc := 28) hx hb dX11_above_28 rfl (lv_at hl 1 rfl) ?_
      refine r_ll (pc := 29) X (heM_6 V w4) hH h dX11_above_29 (fun v6 h => ?_)
      refine lv_ldc2 (pc := 30) hx hb hown (hg _ wL_1165) dX11_above_30 ?_
      refine W.lcmp (pc := 33) hx hb dX11_above_33 ?_
      refine b_if_gt (pc := 34) (tgt := 50) hx hb h dX11_above_34 (by decide) (fun h => ?_) (fun h => ?_)
      · exact kX11_above_50 X   h hH (lv_sub hl [] rfl)
      · refine lv_aload_n (pc := 37) hx hb dX11_above_37 rfl (lv_at hl 0 rfl) ?_
        refine gM_X11_25_0 (pc := 38) X hH dX11_above_38 ?_
        refine lv_iload_n (pc := 41) hx hb dX11_above_41 rfl (lv_at hl 2 rfl) ?_
        refine r_ll (pc := 42) X (heM_6 V w4) hH h dX11_above_42 (fun v7 h => ?_)
        refine lv_ldc2 (pc := 43) hx hb hown (hg _ wL_1165) dX11_above_43 ?_
        refine W.lcmp (pc := 46) hx hb dX11_above_46 ?_
        refine b_if_le (pc := 47) (tgt := 55) hx hb h dX11_above_47 (by decide) (fun h => ?_) (fun h => ?_)
        · refine lv_aload_n (pc := 55) hx hb dX11_above_55 rfl (lv_at hl 0 rfl) ?_
          refine lv_iload_n (pc := 56) hx hb dX11_above_56 rfl (lv_at hl 1 rfl) ?_
          refine lv_iload_n (pc := 57) hx hb dX11_above_57 rfl (lv_at hl 2 rfl) ?_
          refine r_cvI (pc := 58) (As := [.int x1, .int x2]) (rest := []) X hH (fun x hx => mX11_isAbove hx) cw_X11_239 (heM_0 V w4) rfl rfl rfl (Nat.le_of_ble_eq_true rfl) hl.1 h dX11_above_58 (fun w8 v9 H locs h hH => ?_)
          refine b_if_eq (pc := 61) (tgt := 68) hx hb h dX11_above_61 (by decide) (fun h => ?_) (fun h => ?_)
          · refine lv_iconst (pc := 68) (v := 0) hx hb dX11_above_68 (by decide) ?_
            exact kX11_above_69 X   h hH (lv_sub hl [] rfl)
          · refine lv_iconst (pc := 64) (v := 1) hx hb dX11_above_64 (by decide) ?_
            refine lv_goto (pc := 65) (tgt := 69) hx hb dX11_above_65 (by decide) ?_
            exact kX11_above_69 X   h hH (lv_sub hl [] rfl)
        · exact kX11_above_50 X   h hH (lv_sub hl [] rfl)
    · exact kX11_above_21 X   h hH (lv_sub hl [] rfl)
def eX11_above (N : Nat) : Nat → Wd → Int32 → Int32 → Option (Wd × Int32)
  | 0 => fun _ _ _ => none
  | d + 1 => fun w x1 x2 => bX11_above_0 N d  w x1 x2
set_option maxHeartbeats 4000000 in
set_option maxRecDepth 20000 in
theorem mX11_above {l : Launch} {V : Ev} {N d : Nat} {w : Wd} {x1 : Int32} {x2 : Int32} {z : Wd × Int32} (h : eX11_above N d w x1 x2 = some z) : MetI l V (cM V) (AM V) yX11_above cX11_above 3 (some .int) d [.ref (V.2.2 0), .int x1, .int x2] w z := by
  cases d with
  | zero => exact c_none h
  | succ d =>
    refine Met.ofW (cc := cX11_above) (maxL := 3) (ret := (some .int)) (by decide) rfl ?_
    intro p e s m args below meth c s₁ B hml hv
    obtain ⟨rfl, hP, hD, hK⟩ := hv
    have hts := atoms_spec (ws := .code yX11_above cX11_above 3 (some .int) :: gG) B.pre
    have X : CX V p s m ([.ref (V.2.2 0), .int x1, .int x2] : List Value).toArray meth c cX11_above 3 RX11 (some .int) := ⟨B.exec, B.bytes, hml, findClass_of_methodNamed B.named, fun w hw => hts w (List.mem_cons_of_mem _ hw), B.returns, B.notSynchronized, hK⟩
    have hl := lv_entry ([.ref (V.2.2 0), .int x1, .int x2] : List Value) (n := 3) (Nat.le_of_ble_eq_true rfl)
    rw [lg_entry_eq]
    generalize (lg_sl ([.ref (V.2.2 0), .int x1, .int x2] : List Value) ++ List.replicate (3 - (lg_sl ([.ref (V.2.2 0), .int x1, .int x2] : List Value)).length) Slot.unset).toArray = ls at hl ⊢
    have hl : lv_has ls 3 [(0, .ref (V.2.2 0)), (1, .int x1), (2, .int x2)] := hl
    exact kX11_above_0 (N := N) X  h ⟨hP, hD, va_S.rf⟩ hl
theorem dX11_walk_0 : decode cX11_walk 0 = .ok (.aload_n 0, 1) := by decide +kernel
theorem dX11_walk_1 : decode cX11_walk 1 = .ok (.iload_n 1, 1) := by decide +kernel
theorem dX11_walk_2 : decode cX11_walk 2 = .ok (.putfield 242, 3) := by decide +kernel
theorem dX11_walk_5 : decode cX11_walk 5 = .ok (.aload_n 0, 1) := by decide +kernel
theorem dX11_walk_6 : decode cX11_walk 6 = .ok (.iload_n 2, 1) := by decide +kernel
theorem dX11_walk_7 : decode cX11_walk 7 = .ok (.putfield 245, 3) := by decide +kernel
theorem dX11_walk_10 : decode cX11_walk 10 = .ok (.aload_n 0, 1) := by decide +kernel
theorem dX11_walk_11 : decode cX11_walk 11 = .ok (.aload_n 0, 1) := by decide +kernel
theorem dX11_walk_12 : decode cX11_walk 12 = .ok (.getfield 242, 3) := by decide +kernel
theorem dX11_walk_15 : decode cX11_walk 15 = .ok (.invokevirtual 117, 3) := by decide +kernel
theorem dX11_walk_18 : decode cX11_walk 18 = .ok (.ifCond .eq 62, 3) := by decide +kernel
theorem dX11_walk_21 : decode cX11_walk 21 = .ok (.aload_n 0, 1) := by decide +kernel
theorem dX11_walk_22 : decode cX11_walk 22 = .ok (.getfield 66, 3) := by decide +kernel
theorem dX11_walk_25 : decode cX11_walk 25 = .ok (.aload_n 0, 1) := by decide +kernel
theorem dX11_walk_26 : decode cX11_walk 26 = .ok (.aload_n 0, 1) := by decide +kernel
theorem dX11_walk_27 : decode cX11_walk 27 = .ok (.getfield 242, 3) := by decide +kernel
theorem dX11_walk_30 : decode cX11_walk 30 = .ok (.invokevirtual 136, 3) := by decide +kernel
theorem dX11_walk_33 : decode cX11_walk 33 = .ok (.aload_n 0, 1) := by decide +kernel
theorem dX11_walk_34 : decode cX11_walk 34 = .ok (.getfield 245, 3) := by decide +kernel
theorem dX11_walk_37 : decode cX11_walk 37 = .ok (.iadd, 1) := by decide +kernel
theorem dX11_walk_38 : decode cX11_walk 38 = .ok (.iaload, 1) := by decide +kernel
theorem dX11_walk_39 : decode cX11_walk 39 = .ok (.iconst (-1), 1) := by decide +kernel
theorem dX11_walk_40 : decode cX11_walk 40 = .ok (.if_icmp .eq 40, 3) := by decide +kernel
theorem dX11_walk_43 : decode cX11_walk 43 = .ok (.aload_n 0, 1) := by decide +kernel
theorem dX11_walk_44 : decode cX11_walk 44 = .ok (.aload_n 0, 1) := by decide +kernel
theorem dX11_walk_45 : decode cX11_walk 45 = .ok (.getfield 242, 3) := by decide +kernel
theorem dX11_walk_48 : decode cX11_walk 48 = .ok (.invokevirtual 136, 3) := by decide +kernel
theorem dX11_walk_51 : decode cX11_walk 51 = .ok (.aload_n 0, 1) := by decide +kernel
theorem dX11_walk_52 : decode cX11_walk 52 = .ok (.getfield 245, 3) := by decide +kernel
theorem dX11_walk_55 : decode cX11_walk 55 = .ok (.iadd, 1) := by decide +kernel
theorem dX11_walk_56 : decode cX11_walk 56 = .ok (.istore_n 3, 1) := by decide +kernel
theorem dX11_walk_57 : decode cX11_walk 57 = .ok (.aload_n 0, 1) := by decide +kernel
theorem dX11_walk_58 : decode cX11_walk 58 = .ok (.aload_n 0, 1) := by decide +kernel
theorem dX11_walk_59 : decode cX11_walk 59 = .ok (.getfield 66, 3) := by decide +kernel
theorem dX11_walk_62 : decode cX11_walk 62 = .ok (.iload_n 3, 1) := by decide +kernel
theorem dX11_walk_63 : decode cX11_walk 63 = .ok (.iaload, 1) := by decide +kernel
theorem dX11_walk_64 : decode cX11_walk 64 = .ok (.putfield 242, 3) := by decide +kernel
theorem dX11_walk_67 : decode cX11_walk 67 = .ok (.aload_n 0, 1) := by decide +kernel
theorem dX11_walk_68 : decode cX11_walk 68 = .ok (.aload_n 0, 1) := by decide +kernel
theorem dX11_walk_69 : decode cX11_walk 69 = .ok (.getfield 69, 3) := by decide +kernel
theorem dX11_walk_72 : decode cX11_walk 72 = .ok (.iload_n 3, 1) := by decide +kernel
theorem dX11_walk_73 : decode cX11_walk 73 = .ok (.iaload, 1) := by decide +kernel
theorem dX11_walk_74 : decode cX11_walk 74 = .ok (.putfield 245, 3) := by decide +kernel
theorem dX11_walk_77 : decode cX11_walk 77 = .ok (.goto (-67), 3) := by decide +kernel
theorem dX11_walk_80 : decode cX11_walk 80 = .ok (.return_, 1) := by decide +kernel
def bX11_walk_80 (N d : Nat)   (w : Wd)  : Option (Wd) :=
  some w
set_option maxHeartbeats 4000000 in
theorem kX11_walk_80 {V : Ev} {p : Program} {l : Launch} {e : Env} {N d : Nat} {s : State} {m : MethodId} {args : Array Value} {below : List Frame} {meth : Method} {c : Code} {z : Wd} (X : CX V p s m args meth c cX11_walk 4 RX11 none)    {w : Wd}  {H : Heap} {locs : List Loc} {ls : Array Slot} (h : bX11_walk_80 N d   w  = some z) (hH : wH V (cM V) (AM V) s w H locs) (hl : lv_has ls 4 []) : W p l e (rmD (d + 1)) s m args below meth c H locs 0 0 (MQ below (CtV V (cM V) (AM V) z) args s 0 0 (AM V)) (F0 m 80 ls []) := by
  unfold bX11_walk_80 at h
  obtain ⟨hx, hb, hml, hown, hg, hrt, hlk, hK⟩ := id X
  exact r_vret (pc := 80) X hH h dX11_walk_80
def bX11_walk_10 (N d : Nat)  (rec10 : Wd → Option (Wd)) (w : Wd)  : Option (Wd) :=
  c_cl (eX11_isVariable N d w (sI w 10)) fun w3 v4 =>
  if v4 = 0 then (
    bX11_walk_80 N d   w3 
  ) else (
    c_cl (eX11_variableOf N d w3 (sI w3 10)) fun w5 v6 =>
    c_ld w5 19 8 (v6 + (sI w5 11)) fun v7 =>
    if v7 = (-1) then (
      bX11_walk_80 N d   w5 
    ) else (
      c_cl (eX11_variableOf N d w5 (sI w5 10)) fun w8 v9 =>
      c_nm (v9 + (sI w8 11)) fun x3_10 =>
      c_ld w8 19 8 x3_10 fun v11 =>
      c_pi w8 10 v11 fun w12 =>
      c_ld w12 20 8 x3_10 fun v13 =>
      c_pi w12 11 v13 fun w14 =>
      rec10 w14 
    )
  )
set_option maxHeartbeats 4000000 in
theorem kX11_walk_10 {V : Ev} {p : Program} {l : Launch} {e : Env} {N d : Nat} {s : State} {m : MethodId} {args : Array Value} {below : List Frame} {meth : Method} {c : Code} {z : Wd} (X : CX V p s m args meth c cX11_walk 4 RX11 none)   {rec10 : Wd → Option (Wd)} (hr10 : ∀ (w : Wd)  (H : Heap) (locs : List Loc) (ls : Array Slot), rec10 w  = some z → wH V (cM V) (AM V) s w H locs → lv_has ls 4 [(0, .ref (V.2.2 0))] → W p l e (rmD (d + 1)) s m args below meth c H locs 0 0 (MQ below (CtV V (cM V) (AM V) z) args s 0 0 (AM V)) (F0 m 10 ls [])) {w : Wd}  {H : Heap} {locs : List Loc} {ls : Array Slot} (h : bX11_walk_10 N d  rec10 w  = some z) (hH : wH V (cM V) (AM V) s w H locs) (hl : lv_has ls 4 [(0, .ref (V.2.2 0))]) : W p l e (rmD (d + 1)) s m args below meth c H locs 0 0 (MQ below (CtV V (cM V) (AM V) z) args s 0 0 (AM V)) (F0 m 10 ls []) := by
  unfold bX11_walk_10 at h
  obtain ⟨hx, hb, hml, hown, hg, hrt, hlk, hK⟩ := id X
  refine lv_aload_n (pc := 10) hx hb dX11_walk_10 rfl (lv_at hl 0 rfl) ?_
  refine lv_aload_n (pc := 11) hx hb dX11_walk_11 rfl (lv_at hl 0 rfl) ?_
  refine gM_X11_242_0 (pc := 12) X hH dX11_walk_12 ?_
  refine r_cvI (pc := 15) (As := [.int (sI w 10)]) (rest := []) X hH (fun x hx => mX11_isVariable hx) cw_X11_117 (heM_0 V w) rfl rfl rfl (Nat.le_of_ble_eq_true rfl) hl.1 h dX11_walk_15 (fun w3 v4 H locs h hH => ?_)
  refine b_if_eq (pc := 18) (tgt := 80) hx hb h dX11_walk_18 (by decide) (fun h => ?_) (fun h => ?_)
  · exact kX11_walk_80 X   h hH (lv_sub hl [] rfl)
  · refine lv_aload_n (pc := 21) hx hb dX11_walk_21 rfl (lv_at hl 0 rfl) ?_
    refine gM_X11_66_0 (pc := 22) X hH dX11_walk_22 ?_
    refine lv_aload_n (pc := 25) hx hb dX11_walk_25 rfl (lv_at hl 0 rfl) ?_
    refine lv_aload_n (pc := 26) hx hb dX11_walk_26 rfl (lv_at hl 0 rfl) ?_
    refine gM_X11_242_0 (pc := 27) X hH dX11_walk_27 ?_
    refine r_cvI (pc := 30) (As := [.int (sI w3 10)]) (rest := [.ref (V.2.2 19)]) X hH (fun x hx => mX11_variableOf hx) cw_X11_136 (heM_0 V w3) rfl rfl rfl (Nat.le_of_ble_eq_true rfl) hl.1 h dX11_walk_30 (fun w5 v6 H locs h hH => ?_)
    refine lv_aload_n (pc := 33) hx hb dX11_walk_33 rfl (lv_at hl 0 rfl) ?_
    refine gM_X11_245_0 (pc := 34) X hH dX11_walk_34 ?_
    refine lv_iadd (pc := 37) hx hb dX11_walk_37 ?_
    refine r_ld (pc := 38) X (heM_19 V w5) hH h dX11_walk_38 (fun v7 h => ?_)
    refine lv_iconst (pc := 39) (v := -1) hx hb dX11_walk_39 (by decide) ?_
    refine b_icmp_eq (pc := 40) (tgt := 80) hx hb h dX11_walk_40 (by decide) (fun h => ?_) (fun h => ?_)
    · exact kX11_walk_80 X   h hH (lv_sub hl [] rfl)
    · refine lv_aload_n (pc := 43) hx hb dX11_walk_43 rfl (lv_at hl 0 rfl) ?_
      refine lv_aload_n (pc := 44) hx hb dX11_walk_44 rfl (lv_at hl 0 rfl) ?_
      refine gM_X11_242_0 (pc := 45) X hH dX11_walk_45 ?_
      refine r_cvI (pc := 48) (As := [.int (sI w5 10)]) (rest := []) X hH (fun x hx => mX11_variableOf hx) cw_X11_136 (heM_0 V w5) rfl rfl rfl (Nat.le_of_ble_eq_true rfl) hl.1 h dX11_walk_48 (fun w8 v9 H locs h hH => ?_)
      refine lv_aload_n (pc := 51) hx hb dX11_walk_51 rfl (lv_at hl 0 rfl) ?_
      refine gM_X11_245_0 (pc := 52) X hH dX11_walk_52 ?_
      refine lv_iadd (pc := 55) hx hb dX11_walk_55 ?_
      refine r_nmi h (fun x3_10 h => ?_)
      refine lv_istore_n (pc := 56) (lv' := [(3, .int x3_10), (0, .ref (V.2.2 0))]) hx hb dX11_walk_56 rfl hl (by decide) rfl (fun ls hl => ?_)
      refine lv_aload_n (pc := 57) hx hb dX11_walk_57 rfl (lv_at hl 1 rfl) ?_
      refine lv_aload_n (pc := 58) hx hb dX11_walk_58 rfl (lv_at hl 1 rfl) ?_
      refine gM_X11_66_0 (pc := 59) X hH dX11_walk_59 ?_
      refine lv_iload_n (pc := 62) hx hb dX11_walk_62 rfl (lv_at hl 0 rfl) ?_
      refine r_ld (pc := 63) X (heM_19 V w8) hH h dX11_walk_63 (fun v11 h => ?_)
      refine pM_X11_242_0 (pc := 64) X hH h dX11_walk_64 (fun w12 H locs h hH => ?_)
      refine lv_aload_n (pc := 67) hx hb dX11_walk_67 rfl (lv_at hl 1 rfl) ?_
      refine lv_aload_n (pc := 68) hx hb dX11_walk_68 rfl (lv_at hl 1 rfl) ?_
      refine gM_X11_69_0 (pc := 69) X hH dX11_walk_69 ?_
      refine lv_iload_n (pc := 72) hx hb dX11_walk_72 rfl (lv_at hl 0 rfl) ?_
      refine r_ld (pc := 73) X (heM_20 V w12) hH h dX11_walk_73 (fun v13 h => ?_)
      refine pM_X11_245_0 (pc := 74) X hH h dX11_walk_74 (fun w14 H locs h hH => ?_)
      refine lv_goto (pc := 77) (tgt := 10) hx hb dX11_walk_77 (by decide) ?_
      exact hr10 _  _ _ _ h hH (lv_sub hl [1] rfl)
def fX11_walk_10 (N d : Nat)   : Nat → Wd → Option (Wd)
  | 0 => fun _  => none
  | n + 1 => fun w  => bX11_walk_10 N d   (fX11_walk_10 N d   n) w 
theorem lX11_walk_10 {V : Ev} {p : Program} {l : Launch} {e : Env} {N d : Nat} {s : State} {m : MethodId} {args : Array Value} {below : List Frame} {meth : Method} {c : Code} {z : Wd} (X : CX V p s m args meth c cX11_walk 4 RX11 none)    (n : Nat) {w : Wd}  {H : Heap} {locs : List Loc} {ls : Array Slot} (h : fX11_walk_10 N d   n w  = some z) (hH : wH V (cM V) (AM V) s w H locs) (hl : lv_has ls 4 [(0, .ref (V.2.2 0))]) : W p l e (rmD (d + 1)) s m args below meth c H locs 0 0 (MQ below (CtV V (cM V) (AM V) z) args s 0 0 (AM V)) (F0 m 10 ls []) := by
  induction n generalizing w  H locs ls with
  | zero => exact c_none h
  | succ n ih => exact kX11_walk_10 (N := N) X  (fun _  _ _ _ h hH hl => ih h hH hl) h hH hl
def bX11_walk_0 (N d : Nat)   (w : Wd) (x1 : Int32) (x2 : Int32) : Option (Wd) :=
  c_pi w 10 x1 fun w1 =>
  c_pi w1 11 x2 fun w2 =>
  fX11_walk_10 N d   N w2 
set_option maxHeartbeats 4000000 in
theorem kX11_walk_0 {V : Ev} {p : Program} {l : Launch} {e : Env} {N d : Nat} {s : State} {m : MethodId} {args : Array Value} {below : List Frame} {meth : Method} {c : Code} {z : Wd} (X : CX V p s m args meth c cX11_walk 4 RX11 none)    {w : Wd} {x1 : Int32} {x2 : Int32} {H : Heap} {locs : List Loc} {ls : Array Slot} (h : bX11_walk_0 N d   w x1 x2 = some z) (hH : wH V (cM V) (AM V) s w H locs) (hl : lv_has ls 4 [(0, .ref (V.2.2 0)), (1, .int x1), (2, .int x2)]) : W p l e (rmD (d + 1)) s m args below meth c H locs 0 0 (MQ below (CtV V (cM V) (AM V) z) args s 0 0 (AM V)) (F0 m 0 ls []) := by
  unfold bX11_walk_0 at h
  obtain ⟨hx, hb, hml, hown, hg, hrt, hlk, hK⟩ := id X
  refine lv_aload_n (pc := 0) hx hb dX11_walk_0 rfl (lv_at hl 0 rfl) ?_
  refine lv_iload_n (pc := 1) hx hb dX11_walk_1 rfl (lv_at hl 1 rfl) ?_
  refine pM_X11_242_0 (pc := 2) X hH h dX11_walk_2 (fun w1 H locs h hH => ?_)
  refine lv_aload_n (pc := 5) hx hb dX11_walk_5 rfl (lv_at hl 0 rfl) ?_
  refine lv_iload_n (pc := 6) hx hb dX11_walk_6 rfl (lv_at hl 2 rfl) ?_
  refine pM_X11_245_0 (pc := 7) X hH h dX11_walk_7 (fun w2 H locs h hH => ?_)
  exact lX11_walk_10 X   N h hH (lv_sub hl [0] rfl)
def eX11_walk (N : Nat) : Nat → Wd → Int32 → Int32 → Option (Wd)
  | 0 => fun _ _ _ => none
  | d + 1 => fun w x1 x2 => bX11_walk_0 N d  w x1 x2
set_option maxHeartbeats 4000000 in
set_option maxRecDepth 20000 in
theorem mX11_walk {l : Launch} {V : Ev} {N d : Nat} {w : Wd} {x1 : Int32} {x2 : Int32} {z : Wd} (h : eX11_walk N d w x1 x2 = some z) : MetV l V (cM V) (AM V) yX11_walk cX11_walk 4 none d [.ref (V.2.2 0), .int x1, .int x2] w z := by
  cases d with
  | zero => exact c_none h
  | succ d =>
    refine Met.ofW (cc := cX11_walk) (maxL := 4) (ret := none) (by decide) rfl ?_
    intro p e s m args below meth c s₁ B hml hv
    obtain ⟨rfl, hP, hD, hK⟩ := hv
    have hts := atoms_spec (ws := .code yX11_walk cX11_walk 4 none :: gG) B.pre
    have X : CX V p s m ([.ref (V.2.2 0), .int x1, .int x2] : List Value).toArray meth c cX11_walk 4 RX11 none := ⟨B.exec, B.bytes, hml, findClass_of_methodNamed B.named, fun w hw => hts w (List.mem_cons_of_mem _ hw), B.returns, B.notSynchronized, hK⟩
    have hl := lv_entry ([.ref (V.2.2 0), .int x1, .int x2] : List Value) (n := 4) (Nat.le_of_ble_eq_true rfl)
    rw [lg_entry_eq]
    generalize (lg_sl ([.ref (V.2.2 0), .int x1, .int x2] : List Value) ++ List.replicate (4 - (lg_sl ([.ref (V.2.2 0), .int x1, .int x2] : List Value)).length) Slot.unset).toArray = ls at hl ⊢
    have hl : lv_has ls 4 [(0, .ref (V.2.2 0)), (1, .int x1), (2, .int x2)] := hl
    exact kX11_walk_0 (N := N) X  h ⟨hP, hD, va_S.rf⟩ hl
theorem dX11_standsIn_0 : decode cX11_standsIn 0 = .ok (.aload_n 0, 1) := by decide +kernel
theorem dX11_standsIn_1 : decode cX11_standsIn 1 = .ok (.iload_n 2, 1) := by decide +kernel
theorem dX11_standsIn_2 : decode cX11_standsIn 2 = .ok (.iload_n 3, 1) := by decide +kernel
theorem dX11_standsIn_3 : decode cX11_standsIn 3 = .ok (.invokevirtual 248, 3) := by decide +kernel
theorem dX11_standsIn_6 : decode cX11_standsIn 6 = .ok (.aload_n 0, 1) := by decide +kernel
theorem dX11_standsIn_7 : decode cX11_standsIn 7 = .ok (.getfield 242, 3) := by decide +kernel
theorem dX11_standsIn_10 : decode cX11_standsIn 10 = .ok (.istore 4, 2) := by decide +kernel
theorem dX11_standsIn_12 : decode cX11_standsIn 12 = .ok (.aload_n 0, 1) := by decide +kernel
theorem dX11_standsIn_13 : decode cX11_standsIn 13 = .ok (.getfield 245, 3) := by decide +kernel
theorem dX11_standsIn_16 : decode cX11_standsIn 16 = .ok (.istore 5, 2) := by decide +kernel
theorem dX11_standsIn_18 : decode cX11_standsIn 18 = .ok (.aload_n 0, 1) := by decide +kernel
theorem dX11_standsIn_19 : decode cX11_standsIn 19 = .ok (.iload 4, 2) := by decide +kernel
theorem dX11_standsIn_21 : decode cX11_standsIn 21 = .ok (.invokevirtual 117, 3) := by decide +kernel
theorem dX11_standsIn_24 : decode cX11_standsIn 24 = .ok (.ifCond .eq 22, 3) := by decide +kernel
theorem dX11_standsIn_27 : decode cX11_standsIn 27 = .ok (.aload_n 0, 1) := by decide +kernel
theorem dX11_standsIn_28 : decode cX11_standsIn 28 = .ok (.iload 4, 2) := by decide +kernel
theorem dX11_standsIn_30 : decode cX11_standsIn 30 = .ok (.invokevirtual 136, 3) := by decide +kernel
theorem dX11_standsIn_33 : decode cX11_standsIn 33 = .ok (.iload 5, 2) := by decide +kernel
theorem dX11_standsIn_35 : decode cX11_standsIn 35 = .ok (.iadd, 1) := by decide +kernel
theorem dX11_standsIn_36 : decode cX11_standsIn 36 = .ok (.iload_n 1, 1) := by decide +kernel
theorem dX11_standsIn_37 : decode cX11_standsIn 37 = .ok (.if_icmp .ne 7, 3) := by decide +kernel
theorem dX11_standsIn_40 : decode cX11_standsIn 40 = .ok (.iconst 1, 1) := by decide +kernel
theorem dX11_standsIn_41 : decode cX11_standsIn 41 = .ok (.goto 4, 3) := by decide +kernel
theorem dX11_standsIn_44 : decode cX11_standsIn 44 = .ok (.iconst 0, 1) := by decide +kernel
theorem dX11_standsIn_45 : decode cX11_standsIn 45 = .ok (.ireturn, 1) := by decide +kernel
theorem dX11_standsIn_46 : decode cX11_standsIn 46 = .ok (.iconst 0, 1) := by decide +kernel
theorem dX11_standsIn_47 : decode cX11_standsIn 47 = .ok (.istore 6, 2) := by decide +kernel
theorem dX11_standsIn_49 : decode cX11_standsIn 49 = .ok (.iload 6, 2) := by decide +kernel
theorem dX11_standsIn_51 : decode cX11_standsIn 51 = .ok (.aload_n 0, 1) := by decide +kernel
theorem dX11_standsIn_52 : decode cX11_standsIn 52 = .ok (.iload 4, 2) := by decide +kernel
theorem dX11_standsIn_54 : decode cX11_standsIn 54 = .ok (.invokevirtual 140, 3) := by decide +kernel
theorem dX11_standsIn_57 : decode cX11_standsIn 57 = .ok (.if_icmp .ge 29, 3) := by decide +kernel
theorem dX11_standsIn_60 : decode cX11_standsIn 60 = .ok (.aload_n 0, 1) := by decide +kernel
theorem dX11_standsIn_61 : decode cX11_standsIn 61 = .ok (.iload_n 1, 1) := by decide +kernel
theorem dX11_standsIn_62 : decode cX11_standsIn 62 = .ok (.aload_n 0, 1) := by decide +kernel
theorem dX11_standsIn_63 : decode cX11_standsIn 63 = .ok (.iload 4, 2) := by decide +kernel
theorem dX11_standsIn_65 : decode cX11_standsIn 65 = .ok (.iload 6, 2) := by decide +kernel
theorem dX11_standsIn_67 : decode cX11_standsIn 67 = .ok (.invokevirtual 143, 3) := by decide +kernel
theorem dX11_standsIn_70 : decode cX11_standsIn 70 = .ok (.iload 5, 2) := by decide +kernel
theorem dX11_standsIn_72 : decode cX11_standsIn 72 = .ok (.invokevirtual 252, 3) := by decide +kernel
theorem dX11_standsIn_75 : decode cX11_standsIn 75 = .ok (.ifCond .eq 5, 3) := by decide +kernel
theorem dX11_standsIn_78 : decode cX11_standsIn 78 = .ok (.iconst 1, 1) := by decide +kernel
theorem dX11_standsIn_79 : decode cX11_standsIn 79 = .ok (.ireturn, 1) := by decide +kernel
theorem dX11_standsIn_80 : decode cX11_standsIn 80 = .ok (.iinc 6 1, 3) := by decide +kernel
theorem dX11_standsIn_83 : decode cX11_standsIn 83 = .ok (.goto (-34), 3) := by decide +kernel
theorem dX11_standsIn_86 : decode cX11_standsIn 86 = .ok (.iconst 0, 1) := by decide +kernel
theorem dX11_standsIn_87 : decode cX11_standsIn 87 = .ok (.ireturn, 1) := by decide +kernel
def bX11_standsIn_49 (N d : Nat) (self_X11_standsIn : Wd → Int32 → Int32 → Int32 → Option (Wd × Int32)) (rec49 : Wd → Int32 → Int32 → Int32 → Int32 → Option (Wd × Int32)) (w : Wd) (x1 : Int32) (x4 : Int32) (x5 : Int32) (x6 : Int32) : Option (Wd × Int32) :=
  c_cl (eX11_parts N d w x4) fun w6 v7 =>
  if v7 ≤ x6 then (
    some (w6, 0)
  ) else (
    c_cl (eX11_partOf N d w6 x4 x6) fun w8 v9 =>
    c_cl (self_X11_standsIn w8 x1 v9 x5) fun w10 v11 =>
    if v11 = 0 then (
      c_nm (x6 + 1) fun x6_12 =>
      rec49 w10 x1 x4 x5 x6_12
    ) else (
      some (w10, 1)
    )
  )
set_option maxHeartbeats 4000000 in
theorem kX11_standsIn_49 {V : Ev} {p : Program} {l : Launch} {e : Env} {N d : Nat} {s : State} {m : MethodId} {args : Array Value} {below : List Frame} {meth : Method} {c : Code} {z : Wd × Int32} (X : CX V p s m args meth c cX11_standsIn 7 RX11 (some .boolean)) {self_X11_standsIn : Wd → Int32 → Int32 → Int32 → Option (Wd × Int32)} (hs_X11_standsIn : ∀ (w : Wd) (a0 : Int32) (a1 : Int32) (a2 : Int32) (x : Wd × Int32), self_X11_standsIn w a0 a1 a2 = some x → MetI l V (cM V) (AM V) yX11_standsIn cX11_standsIn 7 (some .boolean) d [.ref (V.2.2 0), .int a0, .int a1, .int a2] w x) {rec49 : Wd → Int32 → Int32 → Int32 → Int32 → Option (Wd × Int32)} (hr49 : ∀ (w : Wd) (x1 : Int32) (x4 : Int32) (x5 : Int32) (x6 : Int32) (H : Heap) (locs : List Loc) (ls : Array Slot), rec49 w x1 x4 x5 x6 = some z → wH V (cM V) (AM V) s w H locs → lv_has ls 7 [(0, .ref (V.2.2 0)), (1, .int x1), (4, .int x4), (5, .int x5), (6, .int x6)] → W p l e (rmD (d + 1)) s m args below meth c H locs 0 0 (MQ below (CtI V (cM V) (AM V) z) args s 0 0 (AM V)) (F0 m 49 ls [])) {w : Wd} {x1 : Int32} {x4 : Int32} {x5 : Int32} {x6 : Int32} {H : Heap} {locs : List Loc} {ls : Array Slot} (h : bX11_standsIn_49 N d self_X11_standsIn rec49 w x1 x4 x5 x6 = some z) (hH : wH V (cM V) (AM V) s w H locs) (hl : lv_has ls 7 [(0, .ref (V.2.2 0)), (1, .int x1), (4, .int x4), (5, .int x5), (6, .int x6)]) : W p l e (rmD (d + 1)) s m args below meth c H locs 0 0 (MQ below (CtI V (cM V) (AM V) z) args s 0 0 (AM V)) (F0 m 49 ls []) := by
  unfold bX11_standsIn_49 at h
  obtain ⟨hx, hb, hml, hown, hg, hrt, hlk, hK⟩ := id X
  refine lv_iload (pc := 49) hx hb dX11_standsIn_49 (lv_at hl 4 rfl) ?_
  refine lv_aload_n (pc := 51) hx hb dX11_standsIn_51 rfl (lv_at hl 0 rfl) ?_
  refine lv_iload (pc := 52) hx hb dX11_standsIn_52 (lv_at hl 2 rfl) ?_
  refine r_cvI (pc := 54) (As := [.int x4]) (rest := [.int x6]) X hH (fun x hx => mX11_parts hx) cw_X11_140 (heM_0 V w) rfl rfl rfl (Nat.le_of_ble_eq_true rfl) hl.1 h dX11_standsIn_54 (fun w6 v7 H locs h hH => ?_)
  refine b_icmp_ge (pc := 57) (tgt := 86) hx hb h dX11_standsIn_57 (by decide) (fun h => ?_) (fun h => ?_)
  · refine lv_iconst (pc := 86) (v := 0) hx hb dX11_standsIn_86 (by decide) ?_
    exact r_zretk (pc := 87) (by decide) X hH h dX11_standsIn_87
  · refine lv_aload_n (pc := 60) hx hb dX11_standsIn_60 rfl (lv_at hl 0 rfl) ?_
    refine lv_iload_n (pc := 61) hx hb dX11_standsIn_61 rfl (lv_at hl 1 rfl) ?_
    refine lv_aload_n (pc := 62) hx hb dX11_standsIn_62 rfl (lv_at hl 0 rfl) ?_
    refine lv_iload (pc := 63) hx hb dX11_standsIn_63 (lv_at hl 2 rfl) ?_
    refine lv_iload (pc := 65) hx hb dX11_standsIn_65 (lv_at hl 4 rfl) ?_
    refine r_cvI (pc := 67) (As := [.int x4, .int x6]) (rest := [.int x1, .ref (V.2.2 0)]) X hH (fun x hx => mX11_partOf hx) cw_X11_143 (heM_0 V w6) rfl rfl rfl (Nat.le_of_ble_eq_true rfl) hl.1 h dX11_standsIn_67 (fun w8 v9 H locs h hH => ?_)
    refine lv_iload (pc := 70) hx hb dX11_standsIn_70 (lv_at hl 3 rfl) ?_
    refine r_cvI (pc := 72) (As := [.int x1, .int v9, .int x5]) (rest := []) X hH (fun x hx => hs_X11_standsIn _ _ _ _ _ hx) cw_X11_252 (heM_0 V w8) rfl rfl rfl (Nat.le_of_ble_eq_true rfl) hl.1 h dX11_standsIn_72 (fun w10 v11 H locs h hH => ?_)
    refine b_if_eq (pc := 75) (tgt := 80) hx hb h dX11_standsIn_75 (by decide) (fun h => ?_) (fun h => ?_)
    · obtain ⟨x6_12, ex6_12, h⟩ := c_nm_ex h
      refine lv_iinc (pc := 80) (v := x6_12) (lv' := [(6, .int x6_12), (0, .ref (V.2.2 0)), (1, .int x1), (4, .int x4), (5, .int x5)]) hx hb dX11_standsIn_80 hl (k := 4) rfl (by rw [← ex6_12]; rfl) (by decide) rfl (fun ls hl => ?_)
      refine lv_goto (pc := 83) (tgt := 49) hx hb dX11_standsIn_83 (by decide) ?_
      exact hr49 _ _ _ _ _ _ _ _ h hH (lv_sub hl [1, 2, 3, 4, 0] rfl)
    · refine lv_iconst (pc := 78) (v := 1) hx hb dX11_standsIn_78 (by decide) ?_
      exact r_zretk (pc := 79) (by decide) X hH h dX11_standsIn_79
def fX11_standsIn_49 (N d : Nat) (self_X11_standsIn : Wd → Int32 → Int32 → Int32 → Option (Wd × Int32))  : Nat → Wd → Int32 → Int32 → Int32 → Int32 → Option (Wd × Int32)
  | 0 => fun _ _ _ _ _ => none
  | n + 1 => fun w x1 x4 x5 x6 => bX11_standsIn_49 N d self_X11_standsIn  (fX11_standsIn_49 N d self_X11_standsIn  n) w x1 x4 x5 x6
theorem lX11_standsIn_49 {V : Ev} {p : Program} {l : Launch} {e : Env} {N d : Nat} {s : State} {m : MethodId} {args : Array Value} {below : List Frame} {meth : Method} {c : Code} {z : Wd × Int32} (X : CX V p s m args meth c cX11_standsIn 7 RX11 (some .boolean)) {self_X11_standsIn : Wd → Int32 → Int32 → Int32 → Option (Wd × Int32)} (hs_X11_standsIn : ∀ (w : Wd) (a0 : Int32) (a1 : Int32) (a2 : Int32) (x : Wd × Int32), self_X11_standsIn w a0 a1 a2 = some x → MetI l V (cM V) (AM V) yX11_standsIn cX11_standsIn 7 (some .boolean) d [.ref (V.2.2 0), .int a0, .int a1, .int a2] w x)  (n : Nat) {w : Wd} {x1 : Int32} {x4 : Int32} {x5 : Int32} {x6 : Int32} {H : Heap} {locs : List Loc} {ls : Array Slot} (h : fX11_standsIn_49 N d self_X11_standsIn  n w x1 x4 x5 x6 = some z) (hH : wH V (cM V) (AM V) s w H locs) (hl : lv_has ls 7 [(0, .ref (V.2.2 0)), (1, .int x1), (4, .int x4), (5, .int x5), (6, .int x6)]) : W p l e (rmD (d + 1)) s m args below meth c H locs 0 0 (MQ below (CtI V (cM V) (AM V) z) args s 0 0 (AM V)) (F0 m 49 ls []) := by
  induction n generalizing w x1 x4 x5 x6 H locs ls with
  | zero => exact c_none h
  | succ n ih => exact kX11_standsIn_49 (N := N) X hs_X11_standsIn (fun _ _ _ _ _ _ _ _ h hH hl => ih h hH hl) h hH hl
def bX11_standsIn_45 (N d : Nat) (self_X11_standsIn : Wd → Int32 → Int32 → Int32 → Option (Wd × Int32))  (w : Wd) (y0 : Int32) : Option (Wd × Int32) :=
  c_bo y0 (some (w, y0))
set_option maxHeartbeats 4000000 in
theorem kX11_standsIn_45 {V : Ev} {p : Program} {l : Launch} {e : Env} {N d : Nat} {s : State} {m : MethodId} {args : Array Value} {below : List Frame} {meth : Method} {c : Code} {z : Wd × Int32} (X : CX V p s m args meth c cX11_standsIn 7 RX11 (some .boolean)) {self_X11_standsIn : Wd → Int32 → Int32 → Int32 → Option (Wd × Int32)} (hs_X11_standsIn : ∀ (w : Wd) (a0 : Int32) (a1 : Int32) (a2 : Int32) (x : Wd × Int32), self_X11_standsIn w a0 a1 a2 = some x → MetI l V (cM V) (AM V) yX11_standsIn cX11_standsIn 7 (some .boolean) d [.ref (V.2.2 0), .int a0, .int a1, .int a2] w x)  {w : Wd} {y0 : Int32} {H : Heap} {locs : List Loc} {ls : Array Slot} (h : bX11_standsIn_45 N d self_X11_standsIn  w y0 = some z) (hH : wH V (cM V) (AM V) s w H locs) (hl : lv_has ls 7 []) : W p l e (rmD (d + 1)) s m args below meth c H locs 0 0 (MQ below (CtI V (cM V) (AM V) z) args s 0 0 (AM V)) (F0 m 45 ls [.int y0]) := by
  unfold bX11_standsIn_45 at h
  obtain ⟨hx, hb, hml, hown, hg, hrt, hlk, hK⟩ := id X
  exact r_zret (pc := 45) X hH h dX11_standsIn_45
def bX11_standsIn_0 (N d : Nat) (self_X11_standsIn : Wd → Int32 → Int32 → Int32 → Option (Wd × Int32))  (w : Wd) (x1 : Int32) (x2 : Int32) (x3 : Int32) : Option (Wd × Int32) :=
  c_cv (eX11_walk N d w x2 x3) fun w1 =>
  c_nm (sI w1 10) fun x4_2 =>
  c_nm (sI w1 11) fun x5_3 =>
  c_cl (eX11_isVariable N d w1 x4_2) fun w4 v5 =>
  if v5 = 0 then (
    fX11_standsIn_49 N d self_X11_standsIn  N w4 x1 x4_2 x5_3 ((0 : Int32))
  ) else (
    c_cl (eX11_variableOf N d w4 x4_2) fun w13 v14 =>
    if (v14 + x5_3) = x1 then (
      bX11_standsIn_45 N d self_X11_standsIn  w13 1
    ) else (
      bX11_standsIn_45 N d self_X11_standsIn  w13 0
    )
  )
set_option maxHeartbeats 4000000 in
theorem kX11_standsIn_0 {V : Ev} {p : Program} {l : Launch} {e : Env} {N d : Nat} {s : State} {m : MethodId} {args : Array Value} {below : List Frame} {meth : Method} {c : Code} {z : Wd × Int32} (X : CX V p s m args meth c cX11_standsIn 7 RX11 (some .boolean)) {self_X11_standsIn : Wd → Int32 → Int32 → Int32 → Option (Wd × Int32)} (hs_X11_standsIn : ∀ (w : Wd) (a0 : Int32) (a1 : Int32) (a2 : Int32) (x : Wd × Int32), self_X11_standsIn w a0 a1 a2 = some x → MetI l V (cM V) (AM V) yX11_standsIn cX11_standsIn 7 (some .boolean) d [.ref (V.2.2 0), .int a0, .int a1, .int a2] w x)  {w : Wd} {x1 : Int32} {x2 : Int32} {x3 : Int32} {H : Heap} {locs : List Loc} {ls : Array Slot} (h : bX11_standsIn_0 N d self_X11_standsIn  w x1 x2 x3 = some z) (hH : wH V (cM V) (AM V) s w H locs) (hl : lv_has ls 7 [(0, .ref (V.2.2 0)), (1, .int x1), (2, .int x2), (3, .int x3)]) : W p l e (rmD (d + 1)) s m args below meth c H locs 0 0 (MQ below (CtI V (cM V) (AM V) z) args s 0 0 (AM V)) (F0 m 0 ls []) := by
  unfold bX11_standsIn_0 at h
  obtain ⟨hx, hb, hml, hown, hg, hrt, hlk, hK⟩ := id X
  refine lv_aload_n (pc := 0) hx hb dX11_standsIn_0 rfl (lv_at hl 0 rfl) ?_
  refine lv_iload_n (pc := 1) hx hb dX11_standsIn_1 rfl (lv_at hl 2 rfl) ?_
  refine lv_iload_n (pc := 2) hx hb dX11_standsIn_2 rfl (lv_at hl 3 rfl) ?_
  refine r_cvV (pc := 3) (As := [.int x2, .int x3]) (rest := []) X hH (fun x hx => mX11_walk hx) cw_X11_248 (heM_0 V w) rfl rfl rfl (Nat.le_of_ble_eq_true rfl) hl.1 h dX11_standsIn_3 (fun w1 H locs h hH => ?_)
  refine lv_aload_n (pc := 6) hx hb dX11_standsIn_6 rfl (lv_at hl 0 rfl) ?_
  refine gM_X11_242_0 (pc := 7) X hH dX11_standsIn_7 ?_
  refine r_nmi h (fun x4_2 h => ?_)
  refine lv_istore (pc := 10) (lv' := [(4, .int x4_2), (0, .ref (V.2.2 0)), (1, .int x1), (2, .int x2), (3, .int x3)]) hx hb dX11_standsIn_10 hl (by decide) rfl (fun ls hl => ?_)
  refine lv_aload_n (pc := 12) hx hb dX11_standsIn_12 rfl (lv_at hl 1 rfl) ?_
  refine gM_X11_245_0 (pc := 13) X hH dX11_standsIn_13 ?_
  refine r_nmi h (fun x5_3 h => ?_)
  refine lv_istore (pc := 16) (lv' := [(5, .int x5_3), (4, .int x4_2), (0, .ref (V.2.2 0)), (1, .int x1), (2, .int x2), (3, .int x3)]) hx hb dX11_standsIn_16 hl (by decide) rfl (fun ls hl => ?_)
  refine lv_aload_n (pc := 18) hx hb dX11_standsIn_18 rfl (lv_at hl 2 rfl) ?_
  refine lv_iload (pc := 19) hx hb dX11_standsIn_19 (lv_at hl 1 rfl) ?_
  refine r_cvI (pc := 21) (As := [.int x4_2]) (rest := []) X hH (fun x hx => mX11_isVariable hx) cw_X11_117 (heM_0 V w1) rfl rfl rfl (Nat.le_of_ble_eq_true rfl) hl.1 h dX11_standsIn_21 (fun w4 v5 H locs h hH => ?_)
  refine b_if_eq (pc := 24) (tgt := 46) hx hb h dX11_standsIn_24 (by decide) (fun h => ?_) (fun h => ?_)
  · refine lv_iconst (pc := 46) (v := 0) hx hb dX11_standsIn_46 (by decide) ?_
    refine lv_istore (pc := 47) (lv' := [(6, .int ((0 : Int32))), (5, .int x5_3), (4, .int x4_2), (0, .ref (V.2.2 0)), (1, .int x1), (2, .int x2), (3, .int x3)]) hx hb dX11_standsIn_47 hl (by decide) rfl (fun ls hl => ?_)
    exact lX11_standsIn_49 X hs_X11_standsIn  N h hH (lv_sub hl [3, 4, 2, 1, 0] rfl)
  · refine lv_aload_n (pc := 27) hx hb dX11_standsIn_27 rfl (lv_at hl 2 rfl) ?_
    refine lv_iload (pc := 28) hx hb dX11_standsIn_28 (lv_at hl 1 rfl) ?_
    refine r_cvI (pc := 30) (As := [.int x4_2]) (rest := []) X hH (fun x hx => mX11_variableOf hx) cw_X11_136 (heM_0 V w4) rfl rfl rfl (Nat.le_of_ble_eq_true rfl) hl.1 h dX11_standsIn_30 (fun w13 v14 H locs h hH => ?_)
    refine lv_iload (pc := 33) hx hb dX11_standsIn_33 (lv_at hl 0 rfl) ?_
    refine lv_iadd (pc := 35) hx hb dX11_standsIn_35 ?_
    refine lv_iload_n (pc := 36) hx hb dX11_standsIn_36 rfl (lv_at hl 3 rfl) ?_
    refine b_icmp_ne (pc := 37) (tgt := 44) hx hb h dX11_standsIn_37 (by decide) (fun h => ?_) (fun h => ?_)
    · refine lv_iconst (pc := 44) (v := 0) hx hb dX11_standsIn_44 (by decide) ?_
      exact kX11_standsIn_45 X hs_X11_standsIn  h hH (lv_sub hl [] rfl)
    · refine lv_iconst (pc := 40) (v := 1) hx hb dX11_standsIn_40 (by decide) ?_
      refine lv_goto (pc := 41) (tgt := 45) hx hb dX11_standsIn_41 (by decide) ?_
      exact kX11_standsIn_45 X hs_X11_standsIn  h hH (lv_sub hl [] rfl)
def eX11_standsIn (N : Nat) : Nat → Wd → Int32 → Int32 → Int32 → Option (Wd × Int32)
  | 0 => fun _ _ _ _ => none
  | d + 1 => fun w x1 x2 x3 => bX11_standsIn_0 N d (eX11_standsIn N d) w x1 x2 x3
set_option maxHeartbeats 4000000 in
set_option maxRecDepth 20000 in
theorem mX11_standsIn {l : Launch} {V : Ev} {N d : Nat} {w : Wd} {x1 : Int32} {x2 : Int32} {x3 : Int32} {z : Wd × Int32} (h : eX11_standsIn N d w x1 x2 x3 = some z) : MetI l V (cM V) (AM V) yX11_standsIn cX11_standsIn 7 (some .boolean) d [.ref (V.2.2 0), .int x1, .int x2, .int x3] w z := by
  induction d generalizing w x1 x2 x3 z with
  | zero => exact c_none h
  | succ d ih =>
    refine Met.ofW (cc := cX11_standsIn) (maxL := 7) (ret := (some .boolean)) (by decide) rfl ?_
    intro p e s m args below meth c s₁ B hml hv
    obtain ⟨rfl, hP, hD, hK⟩ := hv
    have hts := atoms_spec (ws := .code yX11_standsIn cX11_standsIn 7 (some .boolean) :: gG) B.pre
    have X : CX V p s m ([.ref (V.2.2 0), .int x1, .int x2, .int x3] : List Value).toArray meth c cX11_standsIn 7 RX11 (some .boolean) := ⟨B.exec, B.bytes, hml, findClass_of_methodNamed B.named, fun w hw => hts w (List.mem_cons_of_mem _ hw), B.returns, B.notSynchronized, hK⟩
    have hl := lv_entry ([.ref (V.2.2 0), .int x1, .int x2, .int x3] : List Value) (n := 7) (Nat.le_of_ble_eq_true rfl)
    rw [lg_entry_eq]
    generalize (lg_sl ([.ref (V.2.2 0), .int x1, .int x2, .int x3] : List Value) ++ List.replicate (7 - (lg_sl ([.ref (V.2.2 0), .int x1, .int x2, .int x3] : List Value)).length) Slot.unset).toArray = ls at hl ⊢
    have hl : lv_has ls 7 [(0, .ref (V.2.2 0)), (1, .int x1), (2, .int x2), (3, .int x3)] := hl
    exact kX11_standsIn_0 (N := N) X (fun _ _ _ _ _ h => ih h) h ⟨hP, hD, va_S.rf⟩ hl
theorem dX11_bind_0 : decode cX11_bind 0 = .ok (.aload_n 0, 1) := by decide +kernel
theorem dX11_bind_1 : decode cX11_bind 1 = .ok (.iload_n 1, 1) := by decide +kernel
theorem dX11_bind_2 : decode cX11_bind 2 = .ok (.iload_n 2, 1) := by decide +kernel
theorem dX11_bind_3 : decode cX11_bind 3 = .ok (.iload_n 3, 1) := by decide +kernel
theorem dX11_bind_4 : decode cX11_bind 4 = .ok (.invokevirtual 252, 3) := by decide +kernel
theorem dX11_bind_7 : decode cX11_bind 7 = .ok (.ifCond .eq 5, 3) := by decide +kernel
theorem dX11_bind_10 : decode cX11_bind 10 = .ok (.iconst 0, 1) := by decide +kernel
theorem dX11_bind_11 : decode cX11_bind 11 = .ok (.ireturn, 1) := by decide +kernel
theorem dX11_bind_12 : decode cX11_bind 12 = .ok (.aload_n 0, 1) := by decide +kernel
theorem dX11_bind_13 : decode cX11_bind 13 = .ok (.getfield 66, 3) := by decide +kernel
theorem dX11_bind_16 : decode cX11_bind 16 = .ok (.iload_n 1, 1) := by decide +kernel
theorem dX11_bind_17 : decode cX11_bind 17 = .ok (.iload_n 2, 1) := by decide +kernel
theorem dX11_bind_18 : decode cX11_bind 18 = .ok (.iastore, 1) := by decide +kernel
theorem dX11_bind_19 : decode cX11_bind 19 = .ok (.aload_n 0, 1) := by decide +kernel
theorem dX11_bind_20 : decode cX11_bind 20 = .ok (.getfield 69, 3) := by decide +kernel
theorem dX11_bind_23 : decode cX11_bind 23 = .ok (.iload_n 1, 1) := by decide +kernel
theorem dX11_bind_24 : decode cX11_bind 24 = .ok (.iload_n 3, 1) := by decide +kernel
theorem dX11_bind_25 : decode cX11_bind 25 = .ok (.iastore, 1) := by decide +kernel
theorem dX11_bind_26 : decode cX11_bind 26 = .ok (.iconst 1, 1) := by decide +kernel
theorem dX11_bind_27 : decode cX11_bind 27 = .ok (.ireturn, 1) := by decide +kernel
def bX11_bind_0 (N d : Nat)   (w : Wd) (x1 : Int32) (x2 : Int32) (x3 : Int32) : Option (Wd × Int32) :=
  c_cl (eX11_standsIn N d w x1 x2 x3) fun w1 v2 =>
  if v2 = 0 then (
    c_st w1 19 8 x1 x2 fun w3 =>
    c_st w3 20 8 x1 x3 fun w4 =>
    some (w4, 1)
  ) else (
    some (w1, 0)
  )
set_option maxHeartbeats 4000000 in
theorem kX11_bind_0 {V : Ev} {p : Program} {l : Launch} {e : Env} {N d : Nat} {s : State} {m : MethodId} {args : Array Value} {below : List Frame} {meth : Method} {c : Code} {z : Wd × Int32} (X : CX V p s m args meth c cX11_bind 4 RX11 (some .boolean))    {w : Wd} {x1 : Int32} {x2 : Int32} {x3 : Int32} {H : Heap} {locs : List Loc} {ls : Array Slot} (h : bX11_bind_0 N d   w x1 x2 x3 = some z) (hH : wH V (cM V) (AM V) s w H locs) (hl : lv_has ls 4 [(0, .ref (V.2.2 0)), (1, .int x1), (2, .int x2), (3, .int x3)]) : W p l e (rmD (d + 1)) s m args below meth c H locs 0 0 (MQ below (CtI V (cM V) (AM V) z) args s 0 0 (AM V)) (F0 m 0 ls []) := by
  unfold bX11_bind_0 at h
  obtain ⟨hx, hb, hml, hown, hg, hrt, hlk, hK⟩ := id X
  refine lv_aload_n (pc := 0) hx hb dX11_bind_0 rfl (lv_at hl 0 rfl) ?_
  refine lv_iload_n (pc := 1) hx hb dX11_bind_1 rfl (lv_at hl 1 rfl) ?_
  refine lv_iload_n (pc := 2) hx hb dX11_bind_2 rfl (lv_at hl 2 rfl) ?_
  refine lv_iload_n (pc := 3) hx hb dX11_bind_3 rfl (lv_at hl 3 rfl) ?_
  refine r_cvI (pc := 4) (As := [.int x1, .int x2, .int x3]) (rest := []) X hH (fun x hx => mX11_standsIn hx) cw_X11_252 (heM_0 V w) rfl rfl rfl (Nat.le_of_ble_eq_true rfl) hl.1 h dX11_bind_4 (fun w1 v2 H locs h hH => ?_)
  refine b_if_eq (pc := 7) (tgt := 12) hx hb h dX11_bind_7 (by decide) (fun h => ?_) (fun h => ?_)
  · refine lv_aload_n (pc := 12) hx hb dX11_bind_12 rfl (lv_at hl 0 rfl) ?_
    refine gM_X11_66_0 (pc := 13) X hH dX11_bind_13 ?_
    refine lv_iload_n (pc := 16) hx hb dX11_bind_16 rfl (lv_at hl 1 rfl) ?_
    refine lv_iload_n (pc := 17) hx hb dX11_bind_17 rfl (lv_at hl 2 rfl) ?_
    refine r_st (pc := 18) X (heM_19 V w1) (hsM_19 V w1) hH h dX11_bind_18 (fun w3 H locs h hH => ?_)
    refine lv_aload_n (pc := 19) hx hb dX11_bind_19 rfl (lv_at hl 0 rfl) ?_
    refine gM_X11_69_0 (pc := 20) X hH dX11_bind_20 ?_
    refine lv_iload_n (pc := 23) hx hb dX11_bind_23 rfl (lv_at hl 1 rfl) ?_
    refine lv_iload_n (pc := 24) hx hb dX11_bind_24 rfl (lv_at hl 3 rfl) ?_
    refine r_st (pc := 25) X (heM_20 V w3) (hsM_20 V w3) hH h dX11_bind_25 (fun w4 H locs h hH => ?_)
    refine lv_iconst (pc := 26) (v := 1) hx hb dX11_bind_26 (by decide) ?_
    exact r_zretk (pc := 27) (by decide) X hH h dX11_bind_27
  · refine lv_iconst (pc := 10) (v := 0) hx hb dX11_bind_10 (by decide) ?_
    exact r_zretk (pc := 11) (by decide) X hH h dX11_bind_11
def eX11_bind (N : Nat) : Nat → Wd → Int32 → Int32 → Int32 → Option (Wd × Int32)
  | 0 => fun _ _ _ _ => none
  | d + 1 => fun w x1 x2 x3 => bX11_bind_0 N d  w x1 x2 x3
set_option maxHeartbeats 4000000 in
set_option maxRecDepth 20000 in
theorem mX11_bind {l : Launch} {V : Ev} {N d : Nat} {w : Wd} {x1 : Int32} {x2 : Int32} {x3 : Int32} {z : Wd × Int32} (h : eX11_bind N d w x1 x2 x3 = some z) : MetI l V (cM V) (AM V) yX11_bind cX11_bind 4 (some .boolean) d [.ref (V.2.2 0), .int x1, .int x2, .int x3] w z := by
  cases d with
  | zero => exact c_none h
  | succ d =>
    refine Met.ofW (cc := cX11_bind) (maxL := 4) (ret := (some .boolean)) (by decide) rfl ?_
    intro p e s m args below meth c s₁ B hml hv
    obtain ⟨rfl, hP, hD, hK⟩ := hv
    have hts := atoms_spec (ws := .code yX11_bind cX11_bind 4 (some .boolean) :: gG) B.pre
    have X : CX V p s m ([.ref (V.2.2 0), .int x1, .int x2, .int x3] : List Value).toArray meth c cX11_bind 4 RX11 (some .boolean) := ⟨B.exec, B.bytes, hml, findClass_of_methodNamed B.named, fun w hw => hts w (List.mem_cons_of_mem _ hw), B.returns, B.notSynchronized, hK⟩
    have hl := lv_entry ([.ref (V.2.2 0), .int x1, .int x2, .int x3] : List Value) (n := 4) (Nat.le_of_ble_eq_true rfl)
    rw [lg_entry_eq]
    generalize (lg_sl ([.ref (V.2.2 0), .int x1, .int x2, .int x3] : List Value) ++ List.replicate (4 - (lg_sl ([.ref (V.2.2 0), .int x1, .int x2, .int x3] : List Value)).length) Slot.unset).toArray = ls at hl ⊢
    have hl : lv_has ls 4 [(0, .ref (V.2.2 0)), (1, .int x1), (2, .int x2), (3, .int x3)] := hl
    exact kX11_bind_0 (N := N) X  h ⟨hP, hD, va_S.rf⟩ hl
