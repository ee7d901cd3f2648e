theorem dX0_isAbove_0 : decode cX0_isAbove 0 = .ok (.iload_n 1, 1) := by decide +kernel
theorem dX0_isAbove_1 : decode cX0_isAbove 1 = .ok (.iload_n 2, 1) := by decide +kernel
theorem dX0_isAbove_2 : decode cX0_isAbove 2 = .ok (.if_icmp .eq 18, 3) := by decide +kernel
theorem dX0_isAbove_5 : decode cX0_isAbove 5 = .ok (.iload_n 3, 1) := by decide +kernel
theorem dX0_isAbove_6 : decode cX0_isAbove 6 = .ok (.bipush 30, 2) := by decide +kernel
theorem dX0_isAbove_8 : decode cX0_isAbove 8 = .ok (.if_icmp .gt 12, 3) := by decide +kernel
theorem dX0_isAbove_11 : decode cX0_isAbove 11 = .ok (.aload_n 0, 1) := by decide +kernel
theorem dX0_isAbove_12 : decode cX0_isAbove 12 = .ok (.iload_n 1, 1) := by decide +kernel
theorem dX0_isAbove_13 : decode cX0_isAbove 13 = .ok (.iload_n 2, 1) := by decide +kernel
theorem dX0_isAbove_14 : decode cX0_isAbove 14 = .ok (.invokevirtual 19, 3) := by decide +kernel
theorem dX0_isAbove_17 : decode cX0_isAbove 17 = .ok (.ifCond .ne 5, 3) := by decide +kernel
theorem dX0_isAbove_20 : decode cX0_isAbove 20 = .ok (.iconst 0, 1) := by decide +kernel
theorem dX0_isAbove_21 : decode cX0_isAbove 21 = .ok (.ireturn, 1) := by decide +kernel
theorem dX0_isAbove_22 : decode cX0_isAbove 22 = .ok (.aload_n 0, 1) := by decide +kernel
theorem dX0_isAbove_23 : decode cX0_isAbove 23 = .ok (.getfield 15, 3) := by decide +kernel
theorem dX0_isAbove_26 : decode cX0_isAbove 26 = .ok (.getfield 23, 3) := by decide +kernel
theorem dX0_isAbove_29 : decode cX0_isAbove 29 = .ok (.iload_n 1, 1) := by decide +kernel
theorem dX0_isAbove_30 : decode cX0_isAbove 30 = .ok (.laload, 1) := by decide +kernel
theorem dX0_isAbove_31 : decode cX0_isAbove 31 = .ok (.aload_n 0, 1) := by decide +kernel
theorem dX0_isAbove_32 : decode cX0_isAbove 32 = .ok (.getfield 15, 3) := by decide +kernel
theorem dX0_isAbove_35 : decode cX0_isAbove 35 = .ok (.getfield 23, 3) := by decide +kernel
theorem dX0_isAbove_38 : decode cX0_isAbove 38 = .ok (.iload_n 2, 1) := by decide +kernel
theorem dX0_isAbove_39 : decode cX0_isAbove 39 = .ok (.laload, 1) := by decide +kernel
theorem dX0_isAbove_40 : decode cX0_isAbove 40 = .ok (.lcmp, 1) := by decide +kernel
theorem dX0_isAbove_41 : decode cX0_isAbove 41 = .ok (.ifCond .eq 31, 3) := by decide +kernel
theorem dX0_isAbove_44 : decode cX0_isAbove 44 = .ok (.aload_n 0, 1) := by decide +kernel
theorem dX0_isAbove_45 : decode cX0_isAbove 45 = .ok (.getfield 15, 3) := by decide +kernel
theorem dX0_isAbove_48 : decode cX0_isAbove 48 = .ok (.getfield 23, 3) := by decide +kernel
theorem dX0_isAbove_51 : decode cX0_isAbove 51 = .ok (.iload_n 1, 1) := by decide +kernel
theorem dX0_isAbove_52 : decode cX0_isAbove 52 = .ok (.laload, 1) := by decide +kernel
theorem dX0_isAbove_53 : decode cX0_isAbove 53 = .ok (.aload_n 0, 1) := by decide +kernel
theorem dX0_isAbove_54 : decode cX0_isAbove 54 = .ok (.getfield 15, 3) := by decide +kernel
theorem dX0_isAbove_57 : decode cX0_isAbove 57 = .ok (.getfield 23, 3) := by decide +kernel
theorem dX0_isAbove_60 : decode cX0_isAbove 60 = .ok (.iload_n 2, 1) := by decide +kernel
theorem dX0_isAbove_61 : decode cX0_isAbove 61 = .ok (.laload, 1) := by decide +kernel
theorem dX0_isAbove_62 : decode cX0_isAbove 62 = .ok (.lcmp, 1) := by decide +kernel
theorem dX0_isAbove_63 : decode cX0_isAbove 63 = .ok (.ifCond .le 7, 3) := by decide +kernel
theorem dX0_isAbove_66 : decode cX0_isAbove 66 = .ok (.iconst 1, 1) := by decide +kernel
theorem dX0_isAbove_67 : decode cX0_isAbove 67 = .ok (.goto 4, 3) := by decide +kernel
theorem dX0_isAbove_70 : decode cX0_isAbove 70 = .ok (.iconst 0, 1) := by decide +kernel
theorem dX0_isAbove_71 : decode cX0_isAbove 71 = .ok (.ireturn, 1) := by decide +kernel
theorem dX0_isAbove_72 : decode cX0_isAbove 72 = .ok (.aload_n 0, 1) := by decide +kernel
theorem dX0_isAbove_73 : decode cX0_isAbove 73 = .ok (.getfield 15, 3) := by decide +kernel
theorem dX0_isAbove_76 : decode cX0_isAbove 76 = .ok (.iload_n 1, 1) := by decide +kernel
theorem dX0_isAbove_77 : decode cX0_isAbove 77 = .ok (.invokevirtual 29, 3) := by decide +kernel
theorem dX0_isAbove_80 : decode cX0_isAbove 80 = .ok (.ifCond .ne 14, 3) := by decide +kernel
theorem dX0_isAbove_83 : decode cX0_isAbove 83 = .ok (.aload_n 0, 1) := by decide +kernel
theorem dX0_isAbove_84 : decode cX0_isAbove 84 = .ok (.getfield 15, 3) := by decide +kernel
theorem dX0_isAbove_87 : decode cX0_isAbove 87 = .ok (.iload_n 2, 1) := by decide +kernel
theorem dX0_isAbove_88 : decode cX0_isAbove 88 = .ok (.invokevirtual 29, 3) := by decide +kernel
theorem dX0_isAbove_91 : decode cX0_isAbove 91 = .ok (.ifCond .eq 20, 3) := by decide +kernel
theorem dX0_isAbove_94 : decode cX0_isAbove 94 = .ok (.aload_n 0, 1) := by decide +kernel
theorem dX0_isAbove_95 : decode cX0_isAbove 95 = .ok (.getfield 15, 3) := by decide +kernel
theorem dX0_isAbove_98 : decode cX0_isAbove 98 = .ok (.iload_n 1, 1) := by decide +kernel
theorem dX0_isAbove_99 : decode cX0_isAbove 99 = .ok (.invokevirtual 29, 3) := by decide +kernel
theorem dX0_isAbove_102 : decode cX0_isAbove 102 = .ok (.ifCond .ne 7, 3) := by decide +kernel
theorem dX0_isAbove_105 : decode cX0_isAbove 105 = .ok (.iconst 1, 1) := by decide +kernel
theorem dX0_isAbove_106 : decode cX0_isAbove 106 = .ok (.goto 4, 3) := by decide +kernel
theorem dX0_isAbove_109 : decode cX0_isAbove 109 = .ok (.iconst 0, 1) := by decide +kernel
theorem dX0_isAbove_110 : decode cX0_isAbove 110 = .ok (.ireturn, 1) := by decide +kernel
theorem dX0_isAbove_111 : decode cX0_isAbove 111 = .ok (.aload_n 0, 1) := by decide +kernel
theorem dX0_isAbove_112 : decode cX0_isAbove 112 = .ok (.getfield 15, 3) := by decide +kernel
theorem dX0_isAbove_115 : decode cX0_isAbove 115 = .ok (.getfield 33, 3) := by decide +kernel
theorem dX0_isAbove_118 : decode cX0_isAbove 118 = .ok (.iload_n 1, 1) := by decide +kernel
theorem dX0_isAbove_119 : decode cX0_isAbove 119 = .ok (.iaload, 1) := by decide +kernel
theorem dX0_isAbove_120 : decode cX0_isAbove 120 = .ok (.aload_n 0, 1) := by decide +kernel
theorem dX0_isAbove_121 : decode cX0_isAbove 121 = .ok (.getfield 15, 3) := by decide +kernel
theorem dX0_isAbove_124 : decode cX0_isAbove 124 = .ok (.getfield 33, 3) := by decide +kernel
theorem dX0_isAbove_127 : decode cX0_isAbove 127 = .ok (.iload_n 2, 1) := by decide +kernel
theorem dX0_isAbove_128 : decode cX0_isAbove 128 = .ok (.iaload, 1) := by decide +kernel
theorem dX0_isAbove_129 : decode cX0_isAbove 129 = .ok (.if_icmp .eq 30, 3) := by decide +kernel
theorem dX0_isAbove_132 : decode cX0_isAbove 132 = .ok (.aload_n 0, 1) := by decide +kernel
theorem dX0_isAbove_133 : decode cX0_isAbove 133 = .ok (.getfield 15, 3) := by decide +kernel
theorem dX0_isAbove_136 : decode cX0_isAbove 136 = .ok (.getfield 33, 3) := by decide +kernel
theorem dX0_isAbove_139 : decode cX0_isAbove 139 = .ok (.iload_n 1, 1) := by decide +kernel
theorem dX0_isAbove_140 : decode cX0_isAbove 140 = .ok (.iaload, 1) := by decide +kernel
theorem dX0_isAbove_141 : decode cX0_isAbove 141 = .ok (.aload_n 0, 1) := by decide +kernel
theorem dX0_isAbove_142 : decode cX0_isAbove 142 = .ok (.getfield 15, 3) := by decide +kernel
theorem dX0_isAbove_145 : decode cX0_isAbove 145 = .ok (.getfield 33, 3) := by decide +kernel
theorem dX0_isAbove_148 : decode cX0_isAbove 148 = .ok (.iload_n 2, 1) := by decide +kernel
theorem dX0_isAbove_149 : decode cX0_isAbove 149 = .ok (.iaload, 1) := by decide +kernel
theorem dX0_isAbove_150 : decode cX0_isAbove 150 = .ok (.if_icmp .le 7, 3) := by decide +kernel
theorem dX0_isAbove_153 : decode cX0_isAbove 153 = .ok (.iconst 1, 1) := by decide +kernel
theorem dX0_isAbove_154 : decode cX0_isAbove 154 = .ok (.goto 4, 3) := by decide +kernel
theorem dX0_isAbove_157 : decode cX0_isAbove 157 = .ok (.iconst 0, 1) := by decide +kernel
theorem dX0_isAbove_158 : decode cX0_isAbove 158 = .ok (.ireturn, 1) := by decide +kernel
theorem dX0_isAbove_159 : decode cX0_isAbove 159 = .ok (.aload_n 0, 1) := by decide +kernel
theorem dX0_isAbove_160 : decode cX0_isAbove 160 = .ok (.getfield 15, 3) := by decide +kernel
theorem dX0_isAbove_163 : decode cX0_isAbove 163 = .ok (.getfield 36, 3) := by decide +kernel
theorem dX0_isAbove_166 : decode cX0_isAbove 166 = .ok (.iload_n 1, 1) := by decide +kernel
theorem dX0_isAbove_167 : decode cX0_isAbove 167 = .ok (.iaload, 1) := by decide +kernel
theorem dX0_isAbove_168 : decode cX0_isAbove 168 = .ok (.aload_n 0, 1) := by decide +kernel
theorem dX0_isAbove_169 : decode cX0_isAbove 169 = .ok (.getfield 15, 3) := by decide +kernel
theorem dX0_isAbove_172 : decode cX0_isAbove 172 = .ok (.getfield 36, 3) := by decide +kernel
theorem dX0_isAbove_175 : decode cX0_isAbove 175 = .ok (.iload_n 2, 1) := by decide +kernel
theorem dX0_isAbove_176 : decode cX0_isAbove 176 = .ok (.iaload, 1) := by decide +kernel
theorem dX0_isAbove_177 : decode cX0_isAbove 177 = .ok (.if_icmp .eq 29, 3) := by decide +kernel
theorem dX0_isAbove_180 : decode cX0_isAbove 180 = .ok (.aload_n 0, 1) := by decide +kernel
theorem dX0_isAbove_181 : decode cX0_isAbove 181 = .ok (.aload_n 0, 1) := by decide +kernel
theorem dX0_isAbove_182 : decode cX0_isAbove 182 = .ok (.getfield 15, 3) := by decide +kernel
theorem dX0_isAbove_185 : decode cX0_isAbove 185 = .ok (.getfield 36, 3) := by decide +kernel
theorem dX0_isAbove_188 : decode cX0_isAbove 188 = .ok (.iload_n 1, 1) := by decide +kernel
theorem dX0_isAbove_189 : decode cX0_isAbove 189 = .ok (.iaload, 1) := by decide +kernel
theorem dX0_isAbove_190 : decode cX0_isAbove 190 = .ok (.aload_n 0, 1) := by decide +kernel
theorem dX0_isAbove_191 : decode cX0_isAbove 191 = .ok (.getfield 15, 3) := by decide +kernel
theorem dX0_isAbove_194 : decode cX0_isAbove 194 = .ok (.getfield 36, 3) := by decide +kernel
theorem dX0_isAbove_197 : decode cX0_isAbove 197 = .ok (.iload_n 2, 1) := by decide +kernel
theorem dX0_isAbove_198 : decode cX0_isAbove 198 = .ok (.iaload, 1) := by decide +kernel
theorem dX0_isAbove_199 : decode cX0_isAbove 199 = .ok (.iload_n 3, 1) := by decide +kernel
theorem dX0_isAbove_200 : decode cX0_isAbove 200 = .ok (.iconst 1, 1) := by decide +kernel
theorem dX0_isAbove_201 : decode cX0_isAbove 201 = .ok (.iadd, 1) := by decide +kernel
theorem dX0_isAbove_202 : decode cX0_isAbove 202 = .ok (.invokevirtual 39, 3) := by decide +kernel
theorem dX0_isAbove_205 : decode cX0_isAbove 205 = .ok (.ireturn, 1) := by decide +kernel
theorem dX0_isAbove_206 : decode cX0_isAbove 206 = .ok (.aload_n 0, 1) := by decide +kernel
theorem dX0_isAbove_207 : decode cX0_isAbove 207 = .ok (.aload_n 0, 1) := by decide +kernel
theorem dX0_isAbove_208 : decode cX0_isAbove 208 = .ok (.getfield 15, 3) := by decide +kernel
theorem dX0_isAbove_211 : decode cX0_isAbove 211 = .ok (.getfield 43, 3) := by decide +kernel
theorem dX0_isAbove_214 : decode cX0_isAbove 214 = .ok (.iload_n 1, 1) := by decide +kernel
theorem dX0_isAbove_215 : decode cX0_isAbove 215 = .ok (.iaload, 1) := by decide +kernel
theorem dX0_isAbove_216 : decode cX0_isAbove 216 = .ok (.aload_n 0, 1) := by decide +kernel
theorem dX0_isAbove_217 : decode cX0_isAbove 217 = .ok (.getfield 15, 3) := by decide +kernel
theorem dX0_isAbove_220 : decode cX0_isAbove 220 = .ok (.getfield 43, 3) := by decide +kernel
theorem dX0_isAbove_223 : decode cX0_isAbove 223 = .ok (.iload_n 2, 1) := by decide +kernel
theorem dX0_isAbove_224 : decode cX0_isAbove 224 = .ok (.iaload, 1) := by decide +kernel
theorem dX0_isAbove_225 : decode cX0_isAbove 225 = .ok (.iload_n 3, 1) := by decide +kernel
theorem dX0_isAbove_226 : decode cX0_isAbove 226 = .ok (.iconst 1, 1) := by decide +kernel
theorem dX0_isAbove_227 : decode cX0_isAbove 227 = .ok (.iadd, 1) := by decide +kernel
theorem dX0_isAbove_228 : decode cX0_isAbove 228 = .ok (.invokevirtual 39, 3) := by decide +kernel
theorem dX0_isAbove_231 : decode cX0_isAbove 231 = .ok (.ireturn, 1) := by decide +kernel
def bX0_isAbove_20 (N d : Nat) (self_X0_isAbove : Wd → Int32 → Int32 → Int32 → Option (Wd × Int32))  (w : Wd)  : Option (Wd × Int32) :=
  some (w, 0)
set_option maxHeartbeats 4000000 in
theorem kX0_isAbove_20 {V : Ev} {p : Program} {l : Launch} {e : Env} {N d : Nat} {s : State} {m : MethodId} {args : Array Value} {below : List Frame} {meth : Method} {c : Code} {z : Wd × Int32} (X : CX V p s m args meth c cX0_isAbove 4 RX0 (some .boolean)) {self_X0_isAbove : Wd → Int32 → Int32 → Int32 → Option (Wd × Int32)} (hs_X0_isAbove : ∀ (w : Wd) (a0 : Int32) (a1 : Int32) (a2 : Int32) (x : Wd × Int32), self_X0_isAbove w a0 a1 a2 = some x → MetI l V (cC V) (AC V) yX0_isAbove cX0_isAbove 4 (some .boolean) d [.ref (V.2.2 4), .int a0, .int a1, .int a2] w x)  {w : Wd}  {H : Heap} {locs : List Loc} {ls : Array Slot} (h : bX0_isAbove_20 N d self_X0_isAbove  w  = some z) (hH : wH V (cC V) (AC V) s w H locs) (hl : lv_has ls 4 []) : W p l e (rmD (d + 1)) s m args below meth c H locs 0 0 (MQ below (CtI V (cC V) (AC V) z) args s 0 0 (AC V)) (F0 m 20 ls []) := by
  unfold bX0_isAbove_20 at h
  obtain ⟨hx, hb, hml, hown, hg, hrt, hlk, hK⟩ := id X
  refine lv_iconst (pc := 20) (v := 0) hx hb dX0_isAbove_20 (by decide) ?_
  exact r_zretk (pc := 21) (by decide) X hH h dX0_isAbove_21
def bX0_isAbove_110 (N d : Nat) (self_X0_isAbove : Wd → Int32 → Int32 → Int32 → Option (Wd × Int32))  (w : Wd) (y0 : Int32) : Option (Wd × Int32) :=
  c_bo y0 (some (w, y0))
set_option maxHeartbeats 4000000 in
theorem kX0_isAbove_110 {V : Ev} {p : Program} {l : Launch} {e : Env} {N d : Nat} {s : State} {m : MethodId} {args : Array Value} {below : List Frame} {meth : Method} {c : Code} {z : Wd × Int32} (X : CX V p s m args meth c cX0_isAbove 4 RX0 (some .boolean)) {self_X0_isAbove : Wd → Int32 → Int32 → Int32 → Option (Wd × Int32)} (hs_X0_isAbove : ∀ (w : Wd) (a0 : Int32) (a1 : Int32) (a2 : Int32) (x : Wd × Int32), self_X0_isAbove w a0 a1 a2 = some x → MetI l V (cC V) (AC V) yX0_isAbove cX0_isAbove 4 (some .boolean) d [.ref (V.2.2 4), .int a0, .int a1, .int a2] w x)  {w : Wd} {y0 : Int32} {H : Heap} {locs : List Loc} {ls : Array Slot} (h : bX0_isAbove_110 N d self_X0_isAbove  w y0 = some z) (hH : wH V (cC V) (AC V) s w H locs) (hl : lv_has ls 4 []) : W p l e (rmD (d + 1)) s m args below meth c H locs 0 0 (MQ below (CtI V (cC V) (AC V) z) args s 0 0 (AC V)) (F0 m 110 ls [.int y0]) := by
  unfold bX0_isAbove_110 at h
  obtain ⟨hx, hb, hml, hown, hg, hrt, hlk, hK⟩ := id X
  exact r_zret (pc := 110) X hH h dX0_isAbove_110
def bX0_isAbove_94 (N d : Nat) (self_X0_isAbove : Wd → Int32 → Int32 → Int32 → Option (Wd × Int32))  (w : Wd) (x1 : Int32) : Option (Wd × Int32) :=
  c_cl (eX8_isVariable N d w x1) fun w7 v8 =>
  if v8 = 0 then (
    bX0_isAbove_110 N d self_X0_isAbove  w7 1
  ) else (
    bX0_isAbove_110 N d self_X0_isAbove  w7 0
  )
set_option maxHeartbeats 4000000 in
theorem kX0_isAbove_94 {V : Ev} {p : Program} {l : Launch} {e : Env} {N d : Nat} {s : State} {m : MethodId} {args : Array Value} {below : List Frame} {meth : Method} {c : Code} {z : Wd × Int32} (X : CX V p s m args meth c cX0_isAbove 4 RX0 (some .boolean)) {self_X0_isAbove : Wd → Int32 → Int32 → Int32 → Option (Wd × Int32)} (hs_X0_isAbove : ∀ (w : Wd) (a0 : Int32) (a1 : Int32) (a2 : Int32) (x : Wd × Int32), self_X0_isAbove w a0 a1 a2 = some x → MetI l V (cC V) (AC V) yX0_isAbove cX0_isAbove 4 (some .boolean) d [.ref (V.2.2 4), .int a0, .int a1, .int a2] w x)  {w : Wd} {x1 : Int32} {H : Heap} {locs : List Loc} {ls : Array Slot} (h : bX0_isAbove_94 N d self_X0_isAbove  w x1 = some z) (hH : wH V (cC V) (AC V) s w H locs) (hl : lv_has ls 4 [(0, .ref (V.2.2 4)), (1, .int x1)]) : W p l e (rmD (d + 1)) s m args below meth c H locs 0 0 (MQ below (CtI V (cC V) (AC V) z) args s 0 0 (AC V)) (F0 m 94 ls []) := by
  unfold bX0_isAbove_94 at h
  obtain ⟨hx, hb, hml, hown, hg, hrt, hlk, hK⟩ := id X
  refine lv_aload_n (pc := 94) hx hb dX0_isAbove_94 rfl (lv_at hl 0 rfl) ?_
  refine gC_X0_15_4 (pc := 95) X hH dX0_isAbove_95 ?_
  refine lv_iload_n (pc := 98) hx hb dX0_isAbove_98 rfl (lv_at hl 1 rfl) ?_
  refine r_cvI (pc := 99) (As := [.int x1]) (rest := []) X hH (fun x hx => mX8_isVariable hx) cw_X0_29 (heC_1 V w) rfl rfl rfl (Nat.le_of_ble_eq_true rfl) hl.1 h dX0_isAbove_99 (fun w7 v8 H locs h hH => ?_)
  refine b_if_ne (pc := 102) (tgt := 109) hx hb h dX0_isAbove_102 (by decide) (fun h => ?_) (fun h => ?_)
  · refine lv_iconst (pc := 109) (v := 0) hx hb dX0_isAbove_109 (by decide) ?_
    exact kX0_isAbove_110 X hs_X0_isAbove  h hH (lv_sub hl [] rfl)
  · refine lv_iconst (pc := 105) (v := 1) hx hb dX0_isAbove_105 (by decide) ?_
    refine lv_goto (pc := 106) (tgt := 110) hx hb dX0_isAbove_106 (by decide) ?_
    exact kX0_isAbove_110 X hs_X0_isAbove  h hH (lv_sub hl [] rfl)
def bX0_isAbove_158 (N d : Nat) (self_X0_isAbove : Wd → Int32 → Int32 → Int32 → Option (Wd × Int32))  (w : Wd) (y0 : Int32) : Option (Wd × Int32) :=
  c_bo y0 (some (w, y0))
set_option maxHeartbeats 4000000 in
theorem kX0_isAbove_158 {V : Ev} {p : Program} {l : Launch} {e : Env} {N d : Nat} {s : State} {m : MethodId} {args : Array Value} {below : List Frame} {meth : Method} {c : Code} {z : Wd × Int32} (X : CX V p s m args meth c cX0_isAbove 4 RX0 (some .boolean)) {self_X0_isAbove : Wd → Int32 → Int32 → Int32 → Option (Wd × Int32)} (hs_X0_isAbove : ∀ (w : Wd) (a0 : Int32) (a1 : Int32) (a2 : Int32) (x : Wd × Int32), self_X0_isAbove w a0 a1 a2 = some x → MetI l V (cC V) (AC V) yX0_isAbove cX0_isAbove 4 (some .boolean) d [.ref (V.2.2 4), .int a0, .int a1, .int a2] w x)  {w : Wd} {y0 : Int32} {H : Heap} {locs : List Loc} {ls : Array Slot} (h : bX0_isAbove_158 N d self_X0_isAbove  w y0 = some z) (hH : wH V (cC V) (AC V) s w H locs) (hl : lv_has ls 4 []) : W p l e (rmD (d + 1)) s m args below meth c H locs 0 0 (MQ below (CtI V (cC V) (AC V) z) args s 0 0 (AC V)) (F0 m 158 ls [.int y0]) := by
  unfold bX0_isAbove_158 at h
  obtain ⟨hx, hb, hml, hown, hg, hrt, hlk, hK⟩ := id X
  exact r_zret (pc := 158) X hH h dX0_isAbove_158
def bX0_isAbove_71 (N d : Nat) (self_X0_isAbove : Wd → Int32 → Int32 → Int32 → Option (Wd × Int32))  (w : Wd) (y0 : Int32) : Option (Wd × Int32) :=
  c_bo y0 (some (w, y0))
set_option maxHeartbeats 4000000 in
theorem kX0_isAbove_71 {V : Ev} {p : Program} {l : Launch} {e : Env} {N d : Nat} {s : State} {m : MethodId} {args : Array Value} {below : List Frame} {meth : Method} {c : Code} {z : Wd × Int32} (X : CX V p s m args meth c cX0_isAbove 4 RX0 (some .boolean)) {self_X0_isAbove : Wd → Int32 → Int32 → Int32 → Option (Wd × Int32)} (hs_X0_isAbove : ∀ (w : Wd) (a0 : Int32) (a1 : Int32) (a2 : Int32) (x : Wd × Int32), self_X0_isAbove w a0 a1 a2 = some x → MetI l V (cC V) (AC V) yX0_isAbove cX0_isAbove 4 (some .boolean) d [.ref (V.2.2 4), .int a0, .int a1, .int a2] w x)  {w : Wd} {y0 : Int32} {H : Heap} {locs : List Loc} {ls : Array Slot} (h : bX0_isAbove_71 N d self_X0_isAbove  w y0 = some z) (hH : wH V (cC V) (AC V) s w H locs) (hl : lv_has ls 4 []) : W p l e (rmD (d + 1)) s m args below meth c H locs 0 0 (MQ below (CtI V (cC V) (AC V) z) args s 0 0 (AC V)) (F0 m 71 ls [.int y0]) := by
  unfold bX0_isAbove_71 at h
  obtain ⟨hx, hb, hml, hown, hg, hrt, hlk, hK⟩ := id X
  exact r_zret (pc := 71) X hH h dX0_isAbove_71
def bX0_isAbove_0 (N d : Nat) (self_X0_isAbove : Wd → Int32 → Int32 → Int32 → Option (Wd × Int32))  (w : Wd) (x1 : Int32) (x2 : Int32) (x3 : Int32) : Option (Wd × Int32) :=
  if x1 = x2 then (
    bX0_isAbove_20 N d self_X0_isAbove  w 
  ) else (
    if 30 < x3 then (
      bX0_isAbove_20 N d self_X0_isAbove  w 
    ) else (
      c_cl (eX0_hasVariablesOf N d w x1 x2) fun w1 v2 =>
      if v2 = 0 then (
        bX0_isAbove_20 N d self_X0_isAbove  w1 
      ) else (
        c_ll w1 18 1000 x1 fun v3 =>
        c_ll w1 18 1000 x2 fun v4 =>
        if (lg_cmp v3 v4) = 0 then (
          c_cl (eX8_isVariable N d w1 x1) fun w5 v6 =>
          if v6 = 0 then (
            c_cl (eX8_isVariable N d w5 x2) fun w9 v10 =>
            if v10 = 0 then (
              c_ld w9 14 1000 x1 fun v11 =>
              c_ld w9 14 1000 x2 fun v12 =>
              if v11 = v12 then (
                c_ld w9 15 1000 x1 fun v13 =>
                c_ld w9 15 1000 x2 fun v14 =>
                if v13 = v14 then (
                  c_ld w9 16 1000 x1 fun v15 =>
                  c_ld w9 16 1000 x2 fun v16 =>
                  c_cl (self_X0_isAbove w9 v15 v16 (x3 + 1)) fun w17 v18 =>
                  c_bo v18 (some (w17, v18))
                ) else (
                  c_ld w9 15 1000 x1 fun v19 =>
                  c_ld w9 15 1000 x2 fun v20 =>
                  c_cl (self_X0_isAbove w9 v19 v20 (x3 + 1)) fun w21 v22 =>
                  c_bo v22 (some (w21, v22))
                )
              ) else (
                c_ld w9 14 1000 x1 fun v23 =>
                c_ld w9 14 1000 x2 fun v24 =>
                if v23 ≤ v24 then (
                  bX0_isAbove_158 N d self_X0_isAbove  w9 0
                ) else (
                  bX0_isAbove_158 N d self_X0_isAbove  w9 1
                )
              )
            ) else (
              bX0_isAbove_94 N d self_X0_isAbove  w9 x1
            )
          ) else (
            bX0_isAbove_94 N d self_X0_isAbove  w5 x1
          )
        ) else (
          c_ll w1 18 1000 x1 fun v25 =>
          c_ll w1 18 1000 x2 fun v26 =>
          if (lg_cmp v25 v26) ≤ 0 then (
            bX0_isAbove_71 N d self_X0_isAbove  w1 0
          ) else (
            bX0_isAbove_71 N d self_X0_isAbove  w1 1
          )
        )
      )
    )
  )
set_option maxHeartbeats 4000000 in
theorem kX0_isAbove_0 {V : Ev} {p : Program} {l : Launch} {e : Env} {N d : Nat} {s : State} {m : MethodId} {args : Array Value} {below : List Frame} {meth : Method} {c : Code} {z : Wd × Int32} (X : CX V p s m args meth c cX0_isAbove 4 RX0 (some .boolean)) {self_X0_isAbove : Wd → Int32 → Int32 → Int32 → Option (Wd × Int32)} (hs_X0_isAbove : ∀ (w : Wd) (a0 : Int32) (a1 : Int32) (a2 : Int32) (x : Wd × Int32), self_X0_isAbove w a0 a1 a2 = some x → MetI l V (cC V) (AC V) yX0_isAbove cX0_isAbove 4 (some .boolean) d [.ref (V.2.2 4), .int a0, .int a1, .int a2] w x)  {w : Wd} {x1 : Int32} {x2 : Int32} {x3 : Int32} {H : Heap} {locs : List Loc} {ls : Array Slot} (h : bX0_isAbove_0 N d self_X0_isAbove  w x1 x2 x3 = some z) (hH : wH V (cC V) (AC V) s w H locs) (hl : lv_has ls 4 [(0, .ref (V.2.2 4)), (1, .int x1), (2, .int x2), (3, .int x3)]) : W p l e (rmD (d + 1)) s m args below meth c H locs 0 0 (MQ below (CtI V (cC V) (AC V) z) args s 0 0 (AC V)) (F0 m 0 ls []) := by
  unfold bX0_isAbove_0 at h
  obtain ⟨hx, hb, hml, hown, hg, hrt, hlk, hK⟩ := id X
  refine lv_iload_n (pc := 0) hx hb dX0_isAbove_0 rfl (lv_at hl 1 rfl) ?_
  refine lv_iload_n (pc := 1) hx hb dX0_isAbove_1 rfl (lv_at hl 2 rfl) ?_
  refine b_icmp_eq (pc := 2) (tgt := 20) hx hb h dX0_isAbove_2 (by decide) (fun h => ?_) (fun h => ?_)
  · exact kX0_isAbove_20 X hs_X0_isAbove  h hH (lv_sub hl [] rfl)
  · refine lv_iload_n (pc := 5) hx hb dX0_isAbove_5 rfl (lv_at hl 3 rfl) ?_
    refine lv_bipush (pc := 6) (v := 30) hx hb dX0_isAbove_6 (by decide) ?_
    refine b_icmp_gt (pc := 8) (tgt := 20) hx hb h dX0_isAbove_8 (by decide) (fun h => ?_) (fun h => ?_)
    · exact kX0_isAbove_20 X hs_X0_isAbove  h hH (lv_sub hl [] rfl)
    · refine lv_aload_n (pc := 11) hx hb dX0_isAbove_11 rfl (lv_at hl 0 rfl) ?_
      refine lv_iload_n (pc := 12) hx hb dX0_isAbove_12 rfl (lv_at hl 1 rfl) ?_
      refine lv_iload_n (pc := 13) hx hb dX0_isAbove_13 rfl (lv_at hl 2 rfl) ?_
      refine r_cvI (pc := 14) (As := [.int x1, .int x2]) (rest := []) X hH (fun x hx => mX0_hasVariablesOf hx) cw_X0_19 (heC_4 V w) rfl rfl rfl (Nat.le_of_ble_eq_true rfl) hl.1 h dX0_isAbove_14 (fun w1 v2 H locs h hH => ?_)
      refine b_if_ne (pc := 17) (tgt := 22) hx hb h dX0_isAbove_17 (by decide) (fun h => ?_) (fun h => ?_)
      · refine lv_aload_n (pc := 22) hx hb dX0_isAbove_22 rfl (lv_at hl 0 rfl) ?_
        refine gC_X0_15_4 (pc := 23) X hH dX0_isAbove_23 ?_
        refine gC_X0_23_1 (pc := 26) X hH dX0_isAbove_26 ?_
        refine lv_iload_n (pc := 29) hx hb dX0_isAbove_29 rfl (lv_at hl 1 rfl) ?_
        refine r_ll (pc := 30) X (heC_18 V w1) hH h dX0_isAbove_30 (fun v3 h => ?_)
        refine lv_aload_n (pc := 31) hx hb dX0_isAbove_31 rfl (lv_at hl 0 rfl) ?_
        refine gC_X0_15_4 (pc := 32) X hH dX0_isAbove_32 ?_
        refine gC_X0_23_1 (pc := 35) X hH dX0_isAbove_35 ?_
        refine lv_iload_n (pc := 38) hx hb dX0_isAbove_38 rfl (lv_at hl 2 rfl) ?_
        refine r_ll (pc := 39) X (heC_18 V w1) hH h dX0_isAbove_39 (fun v4 h => ?_)
        refine W.lcmp (pc := 40) hx hb dX0_isAbove_40 ?_
        refine b_if_eq (pc := 41) (tgt := 72) hx hb h dX0_isAbove_41 (by decide) (fun h => ?_) (fun h => ?_)
        · refine lv_aload_n (pc := 72) hx hb dX0_isAbove_72 rfl (lv_at hl 0 rfl) ?_
          refine gC_X0_15_4 (pc := 73) X hH dX0_isAbove_73 ?_
          refine lv_iload_n (pc := 76) hx hb dX0_isAbove_76 rfl (lv_at hl 1 rfl) ?_
          refine r_cvI (pc := 77) (As := [.int x1]) (rest := []) X hH (fun x hx => mX8_isVariable hx) cw_X0_29 (heC_1 V w1) rfl rfl rfl (Nat.le_of_ble_eq_true rfl) hl.1 h dX0_isAbove_77 (fun w5 v6 H locs h hH => ?_)
          refine b_if_ne (pc := 80) (tgt := 94) hx hb h dX0_isAbove_80 (by decide) (fun h => ?_) (fun h => ?_)
          · exact kX0_isAbove_94 X hs_X0_isAbove  h hH (lv_sub hl [0, 1] rfl)
          · refine lv_aload_n (pc := 83) hx hb dX0_isAbove_83 rfl (lv_at hl 0 rfl) ?_
            refine gC_X0_15_4 (pc := 84) X hH dX0_isAbove_84 ?_
            refine lv_iload_n (pc := 87) hx hb dX0_isAbove_87 rfl (lv_at hl 2 rfl) ?_
            refine r_cvI (pc := 88) (As := [.int x2]) (rest := []) X hH (fun x hx => mX8_isVariable hx) cw_X0_29 (heC_1 V w5) rfl rfl rfl (Nat.le_of_ble_eq_true rfl) hl.1 h dX0_isAbove_88 (fun w9 v10 H locs h hH => ?_)
            refine b_if_eq (pc := 91) (tgt := 111) hx hb h dX0_isAbove_91 (by decide) (fun h => ?_) (fun h => ?_)
            · refine lv_aload_n (pc := 111) hx hb dX0_isAbove_111 rfl (lv_at hl 0 rfl) ?_
              refine gC_X0_15_4 (pc := 112) X hH dX0_isAbove_112 ?_
              refine gC_X0_33_1 (pc := 115) X hH dX0_isAbove_115 ?_
              refine lv_iload_n (pc := 118) hx hb dX0_isAbove_118 rfl (lv_at hl 1 rfl) ?_
              refine r_ld (pc := 119) X (heC_14 V w9) hH h dX0_isAbove_119 (fun v11 h => ?_)
              refine lv_aload_n (pc := 120) hx hb dX0_isAbove_120 rfl (lv_at hl 0 rfl) ?_
              refine gC_X0_15_4 (pc := 121) X hH dX0_isAbove_121 ?_
              refine gC_X0_33_1 (pc := 124) X hH dX0_isAbove_124 ?_
              refine lv_iload_n (pc := 127) hx hb dX0_isAbove_127 rfl (lv_at hl 2 rfl) ?_
              refine r_ld (pc := 128) X (heC_14 V w9) hH h dX0_isAbove_128 (fun v12 h => ?_)
              refine b_icmp_eq (pc := 129) (tgt := 159) hx hb h dX0_isAbove_129 (by decide) (fun h => ?_) (fun h => ?_)
              · refine lv_aload_n (pc := 159) hx hb dX0_isAbove_159 rfl (lv_at hl 0 rfl) ?_
                refine gC_X0_15_4 (pc := 160) X hH dX0_isAbove_160 ?_
                refine gC_X0_36_1 (pc := 163) X hH dX0_isAbove_163 ?_
                refine lv_iload_n (pc := 166) hx hb dX0_isAbove_166 rfl (lv_at hl 1 rfl) ?_
                refine r_ld (pc := 167) X (heC_15 V w9) hH h dX0_isAbove_167 (fun v13 h => ?_)
                refine lv_aload_n (pc := 168) hx hb dX0_isAbove_168 rfl (lv_at hl 0 rfl) ?_
                refine gC_X0_15_4 (pc := 169) X hH dX0_isAbove_169 ?_
                refine gC_X0_36_1 (pc := 172) X hH dX0_isAbove_172 ?_
                refine lv_iload_n (pc := 175) hx hb dX0_isAbove_175 rfl (lv_at hl 2 rfl) ?_
                refine r_ld (pc := 176) X (heC_15 V w9) hH h dX0_isAbove_176 (fun v14 h => ?_)
                refine b_icmp_eq (pc := 177) (tgt := 206) hx hb h dX0_isAbove_177 (by decide) (fun h => ?_) (fun h => ?_)
                · refine lv_aload_n (pc := 206) hx hb dX0_isAbove_206 rfl (lv_at hl 0 rfl) ?_
                  refine lv_aload_n (pc := 207) hx hb dX0_isAbove_207 rfl (lv_at hl 0 rfl) ?_
                  refine gC_X0_15_4 (pc := 208) X hH dX0_isAbove_208 ?_
                  refine gC_X0_43_1 (pc := 211) X hH dX0_isAbove_211 ?_
                  refine lv_iload_n (pc := 214) hx hb dX0_isAbove_214 rfl (lv_at hl 1 rfl) ?_
                  refine r_ld (pc := 215) X (heC_16 V w9) hH h dX0_isAbove_215 (fun v15 h => ?_)
                  refine lv_aload_n (pc := 216) hx hb dX0_isAbove_216 rfl (lv_at hl 0 rfl) ?_
                  refine gC_X0_15_4 (pc := 217) X hH dX0_isAbove_217 ?_
                  refine gC_X0_43_1 (pc := 220) X hH dX0_isAbove_220 ?_
                  refine lv_iload_n (pc := 223) hx hb dX0_isAbove_223 rfl (lv_at hl 2 rfl) ?_
                  refine r_ld (pc := 224) X (heC_16 V w9) hH h dX0_isAbove_224 (fun v16 h => ?_)
                  refine lv_iload_n (pc := 225) hx hb dX0_isAbove_225 rfl (lv_at hl 3 rfl) ?_
                  refine lv_iconst (pc := 226) (v := 1) hx hb dX0_isAbove_226 (by decide) ?_
                  refine lv_iadd (pc := 227) hx hb dX0_isAbove_227 ?_
                  refine r_cvI (pc := 228) (As := [.int v15, .int v16, .int (x3 + 1)]) (rest := []) X hH (fun x hx => hs_X0_isAbove _ _ _ _ _ hx) cw_X0_39 (heC_4 V w9) rfl rfl rfl (Nat.le_of_ble_eq_true rfl) hl.1 h dX0_isAbove_228 (fun w17 v18 H locs h hH => ?_)
                  exact r_zret (pc := 231) X hH h dX0_isAbove_231
                · refine lv_aload_n (pc := 180) hx hb dX0_isAbove_180 rfl (lv_at hl 0 rfl) ?_
                  refine lv_aload_n (pc := 181) hx hb dX0_isAbove_181 rfl (lv_at hl 0 rfl) ?_
                  refine gC_X0_15_4 (pc := 182) X hH dX0_isAbove_182 ?_
                  refine gC_X0_36_1 (pc := 185) X hH dX0_isAbove_185 ?_
                  refine lv_iload_n (pc := 188) hx hb dX0_isAbove_188 rfl (lv_at hl 1 rfl) ?_
                  refine r_ld (pc := 189) X (heC_15 V w9) hH h dX0_isAbove_189 (fun v19 h => ?_)
                  refine lv_aload_n (pc := 190) hx hb dX0_isAbove_190 rfl (lv_at hl 0 rfl) ?_
                  refine gC_X0_15_4 (pc := 191) X hH dX0_isAbove_191 ?_
                  refine gC_X0_36_1 (pc := 194) X hH dX0_isAbove_194 ?_
                  refine lv_iload_n (pc := 197) hx hb dX0_isAbove_197 rfl (lv_at hl 2 rfl) ?_
                  refine r_ld (pc := 198) X (heC_15 V w9) hH h dX0_isAbove_198 (fun v20 h => ?_)
                  refine lv_iload_n (pc := 199) hx hb dX0_isAbove_199 rfl (lv_at hl 3 rfl) ?_
                  refine lv_iconst (pc := 200) (v := 1) hx hb dX0_isAbove_200 (by decide) ?_
                  refine lv_iadd (pc := 201) hx hb dX0_isAbove_201 ?_
                  refine r_cvI (pc := 202) (As := [.int v19, .int v20, .int (x3 + 1)]) (rest := []) X hH (fun x hx => hs_X0_isAbove _ _ _ _ _ hx) cw_X0_39 (heC_4 V w9) rfl rfl rfl (Nat.le_of_ble_eq_true rfl) hl.1 h dX0_isAbove_202 (fun w21 v22 H locs h hH => ?_)
                  exact r_zret (pc := 205) X hH h dX0_isAbove_205
              · refine lv_aload_n (pc := 132) hx hb dX0_isAbove_132 rfl (lv_at hl 0 rfl) ?_
                refine gC_X0_15_4 (pc := 133) X hH dX0_isAbove_133 ?_
                refine gC_X0_33_1 (pc := 136) X hH dX0_isAbove_136 ?_
                refine lv_iload_n (pc := 139) hx hb dX0_isAbove_139 rfl (lv_at hl 1 rfl) ?_
                refine r_ld (pc := 140) X (heC_14 V w9) hH h dX0_isAbove_140 (fun v23 h => ?_)
                refine lv_aload_n (pc := 141) hx hb dX0_isAbove_141 rfl (lv_at hl 0 rfl) ?_
                refine gC_X0_15_4 (pc := 142) X hH dX0_isAbove_142 ?_
                refine gC_X0_33_1 (pc := 145) X hH dX0_isAbove_145 ?_
                refine lv_iload_n (pc := 148) hx hb dX0_isAbove_148 rfl (lv_at hl 2 rfl) ?_
                refine r_ld (pc := 149) X (heC_14 V w9) hH h dX0_isAbove_149 (fun v24 h => ?_)
                refine b_icmp_le (pc := 150) (tgt := 157) hx hb h dX0_isAbove_150 (by decide) (fun h => ?_) (fun h => ?_)
                · refine lv_iconst (pc := 157) (v := 0) hx hb dX0_isAbove_157 (by decide) ?_
                  exact kX0_isAbove_158 X hs_X0_isAbove  h hH (lv_sub hl [] rfl)
                · refine lv_iconst (pc := 153) (v := 1) hx hb dX0_isAbove_153 (by decide) ?_
                  refine lv_goto (pc := 154) (tgt := 158) hx hb dX0_isAbove_154 (by decide) ?_
                  exact kX0_isAbove_158 X hs_X0_isAbove  h hH (lv_sub hl [] rfl)
            · exact kX0_isAbove_94 X hs_X0_isAbove  h hH (lv_sub hl [0, 1] rfl)
        · refine lv_aload_n (pc := 44) hx hb dX0_isAbove_44 rfl (lv_at hl 0 rfl) ?_
          refine gC_X0_15_4 (pc := 45) X hH dX0_isAbove_45 ?_
          refine gC_X0_23_1 (pc := 48) X hH dX0_isAbove_48 ?_
          refine lv_iload_n (pc := 51) hx hb dX0_isAbove_51 rfl (lv_at hl 1 rfl) ?_
          refine r_ll (pc := 52) X (heC_18 V w1) hH h dX0_isAbove_52 (fun v25 h => ?_)
          refine lv_aload_n (pc := 53) hx hb dX0_isAbove_53 rfl (lv_at hl 0 rfl) ?_
          refine gC_X0_15_4 (pc := 54) X hH dX0_isAbove_54 ?_
          refine gC_X0_23_1 (pc := 57) X hH dX0_isAbove_57 ?_
          refine lv_iload_n (pc := 60) hx hb dX0_isAbove_60 rfl (lv_at hl 2 rfl) ?_
          refine r_ll (pc := 61) X (heC_18 V w1) hH h dX0_isAbove_61 (fun v26 h => ?_)
          refine W.lcmp (pc := 62) hx hb dX0_isAbove_62 ?_
          refine b_if_le (pc := 63) (tgt := 70) hx hb h dX0_isAbove_63 (by decide) (fun h => ?_) (fun h => ?_)
          · refine lv_iconst (pc := 70) (v := 0) hx hb dX0_isAbove_70 (by decide) ?_
            exact kX0_isAbove_71 X hs_X0_isAbove  h hH (lv_sub hl [] rfl)
          · refine lv_iconst (pc := 66) (v := 1) hx hb dX0_isAbove_66 (by decide) ?_
            refine lv_goto (pc := 67) (tgt := 71) hx hb dX0_isAbove_67 (by decide) ?_
            exact kX0_isAbove_71 X hs_X0_isAbove  h hH (lv_sub hl [] rfl)
      · exact kX0_isAbove_20 X hs_X0_isAbove  h hH (lv_sub hl [] rfl)
def eX0_isAbove (N : Nat) : Nat → Wd → Int32 → Int32 → Int32 → Option (Wd × Int32)
  | 0 => fun _ _ _ _ => none
  | d + 1 => fun w x1 x2 x3 => bX0_isAbove_0 N d (eX0_isAbove N d) w x1 x2 x3
set_option maxHeartbeats 4000000 in
set_option maxRecDepth 20000 in
theorem mX0_isAbove {l : Launch} {V : Ev} {N d : Nat} {w : Wd} {x1 : Int32} {x2 : Int32} {x3 : Int32} {z : Wd × Int32} (h : eX0_isAbove N d w x1 x2 x3 = some z) : MetI l V (cC V) (AC V) yX0_isAbove cX0_isAbove 4 (some .boolean) d [.ref (V.2.2 4), .int x1, .int x2, .int x3] w z := by
  induction d generalizing w x1 x2 x3 z with
  | zero => exact c_none h
  | succ d ih =>
    refine Met.ofW (cc := cX0_isAbove) (maxL := 4) (ret := (some .boolean)) (by decide) rfl ?_
    intro p e s m args below meth c s₁ B hml hv
    obtain ⟨rfl, hP, hD, hK⟩ := hv
    have hts := atoms_spec (ws := .code yX0_isAbove cX0_isAbove 4 (some .boolean) :: gG) B.pre
    have X : CX V p s m ([.ref (V.2.2 4), .int x1, .int x2, .int x3] : List Value).toArray meth c cX0_isAbove 4 RX0 (some .boolean) := ⟨B.exec, B.bytes, hml, findClass_of_methodNamed B.named, fun w hw => hts w (List.mem_cons_of_mem _ hw), B.returns, B.notSynchronized, hK⟩
    have hl := lv_entry ([.ref (V.2.2 4), .int x1, .int x2, .int x3] : List Value) (n := 4) (Nat.le_of_ble_eq_true rfl)
    rw [lg_entry_eq]
    generalize (lg_sl ([.ref (V.2.2 4), .int x1, .int x2, .int x3] : List Value) ++ List.replicate (4 - (lg_sl ([.ref (V.2.2 4), .int x1, .int x2, .int x3] : List Value)).length) Slot.unset).toArray = ls at hl ⊢
    have hl : lv_has ls 4 [(0, .ref (V.2.2 4)), (1, .int x1), (2, .int x2), (3, .int x3)] := hl
    exact kX0_isAbove_0 (N := N) X (fun _ _ _ _ _ h => ih h) h ⟨hP, hD, va_S.rf⟩ hl
theorem dX10_ends_0 : decode cX10_ends 0 = .ok (.aload_n 0, 1) := by decide +kernel
theorem dX10_ends_1 : decode cX10_ends 1 = .ok (.iload_n 1, 1) := by decide +kernel
theorem dX10_ends_2 : decode cX10_ends 2 = .ok (.invokevirtual 92, 3) := by decide +kernel
theorem dX10_ends_5 : decode cX10_ends 5 = .ok (.ifCond .ne 6, 3) := by decide +kernel
theorem dX10_ends_8 : decode cX10_ends 8 = .ok (.bipush (-2), 2) := by decide +kernel
theorem dX10_ends_10 : decode cX10_ends 10 = .ok (.ireturn, 1) := by decide +kernel
theorem dX10_ends_11 : decode cX10_ends 11 = .ok (.aload_n 0, 1) := by decide +kernel
theorem dX10_ends_12 : decode cX10_ends 12 = .ok (.getfield 37, 3) := by decide +kernel
theorem dX10_ends_15 : decode cX10_ends 15 = .ok (.aload_n 0, 1) := by decide +kernel
theorem dX10_ends_16 : decode cX10_ends 16 = .ok (.getfield 19, 3) := by decide +kernel
theorem dX10_ends_19 : decode cX10_ends 19 = .ok (.getfield 129, 3) := by decide +kernel
theorem dX10_ends_22 : decode cX10_ends 22 = .ok (.iload_n 1, 1) := by decide +kernel
theorem dX10_ends_23 : decode cX10_ends 23 = .ok (.iaload, 1) := by decide +kernel
theorem dX10_ends_24 : decode cX10_ends 24 = .ok (.aload_n 0, 1) := by decide +kernel
theorem dX10_ends_25 : decode cX10_ends 25 = .ok (.getfield 19, 3) := by decide +kernel
theorem dX10_ends_28 : decode cX10_ends 28 = .ok (.getfield 132, 3) := by decide +kernel
theorem dX10_ends_31 : decode cX10_ends 31 = .ok (.iload_n 1, 1) := by decide +kernel
theorem dX10_ends_32 : decode cX10_ends 32 = .ok (.iaload, 1) := by decide +kernel
theorem dX10_ends_33 : decode cX10_ends 33 = .ok (.iconst 1, 1) := by decide +kernel
theorem dX10_ends_34 : decode cX10_ends 34 = .ok (.invokevirtual 135, 3) := by decide +kernel
theorem dX10_ends_37 : decode cX10_ends 37 = .ok (.ifCond .eq 7, 3) := by decide +kernel
theorem dX10_ends_40 : decode cX10_ends 40 = .ok (.iconst 1, 1) := by decide +kernel
theorem dX10_ends_41 : decode cX10_ends 41 = .ok (.goto 4, 3) := by decide +kernel
theorem dX10_ends_44 : decode cX10_ends 44 = .ok (.iconst 0, 1) := by decide +kernel
theorem dX10_ends_45 : decode cX10_ends 45 = .ok (.ireturn, 1) := by decide +kernel
def bX10_ends_45 (N d : Nat)   (w : Wd) (y0 : Int32) : Option (Wd × Int32) :=
  some (w, y0)
set_option maxHeartbeats 4000000 in
theorem kX10_ends_45 {V : Ev} {p : Program} {l : Launch} {e : Env} {N d : Nat} {s : State} {m : MethodId} {args : Array Value} {below : List Frame} {meth : Method} {c : Code} {z : Wd × Int32} (X : CX V p s m args meth c cX10_ends 2 RX10 (some .int))    {w : Wd} {y0 : Int32} {H : Heap} {locs : List Loc} {ls : Array Slot} (h : bX10_ends_45 N d   w y0 = some z) (hH : wH V (cC V) (AC V) s w H locs) (hl : lv_has ls 2 []) : W p l e (rmD (d + 1)) s m args below meth c H locs 0 0 (MQ below (CtI V (cC V) (AC V) z) args s 0 0 (AC V)) (F0 m 45 ls [.int y0]) := by
  unfold bX10_ends_45 at h
  obtain ⟨hx, hb, hml, hown, hg, hrt, hlk, hK⟩ := id X
  exact r_iret (pc := 45) X hH h dX10_ends_45
def bX10_ends_0 (N d : Nat)   (w : Wd) (x1 : Int32) : Option (Wd × Int32) :=
  c_cl (eX10_isRule N d w x1) fun w1 v2 =>
  if v2 = 0 then (
    some (w1, -2)
  ) else (
    c_ld w1 23 16 x1 fun v3 =>
    c_ld w1 24 16 x1 fun v4 =>
    c_cl (eX0_isAbove N d w1 v3 v4 1) fun w5 v6 =>
    if v6 = 0 then (
      bX10_ends_45 N d   w5 0
    ) else (
      bX10_ends_45 N d   w5 1
    )
  )
set_option maxHeartbeats 4000000 in
theorem kX10_ends_0 {V : Ev} {p : Program} {l : Launch} {e : Env} {N d : Nat} {s : State} {m : MethodId} {args : Array Value} {below : List Frame} {meth : Method} {c : Code} {z : Wd × Int32} (X : CX V p s m args meth c cX10_ends 2 RX10 (some .int))    {w : Wd} {x1 : Int32} {H : Heap} {locs : List Loc} {ls : Array Slot} (h : bX10_ends_0 N d   w x1 = some z) (hH : wH V (cC V) (AC V) s w H locs) (hl : lv_has ls 2 [(0, .ref (V.2.2 0)), (1, .int x1)]) : W p l e (rmD (d + 1)) s m args below meth c H locs 0 0 (MQ below (CtI V (cC V) (AC V) z) args s 0 0 (AC V)) (F0 m 0 ls []) := by
  unfold bX10_ends_0 at h
  obtain ⟨hx, hb, hml, hown, hg, hrt, hlk, hK⟩ := id X
  refine lv_aload_n (pc := 0) hx hb dX10_ends_0 rfl (lv_at hl 0 rfl) ?_
  refine lv_iload_n (pc := 1) hx hb dX10_ends_1 rfl (lv_at hl 1 rfl) ?_
  refine r_cvI (pc := 2) (As := [.int x1]) (rest := []) X hH (fun x hx => mX10_isRule hx) cw_X10_92 (heC_0 V w) rfl rfl rfl (Nat.le_of_ble_eq_true rfl) hl.1 h dX10_ends_2 (fun w1 v2 H locs h hH => ?_)
  refine b_if_ne (pc := 5) (tgt := 11) hx hb h dX10_ends_5 (by decide) (fun h => ?_) (fun h => ?_)
  · refine lv_aload_n (pc := 11) hx hb dX10_ends_11 rfl (lv_at hl 0 rfl) ?_
    refine gC_X10_37_0 (pc := 12) X hH dX10_ends_12 ?_
    refine lv_aload_n (pc := 15) hx hb dX10_ends_15 rfl (lv_at hl 0 rfl) ?_
    refine gC_X10_19_0 (pc := 16) X hH dX10_ends_16 ?_
    refine gC_X10_129_2 (pc := 19) X hH dX10_ends_19 ?_
    refine lv_iload_n (pc := 22) hx hb dX10_ends_22 rfl (lv_at hl 1 rfl) ?_
    refine r_ld (pc := 23) X (heC_23 V w1) hH h dX10_ends_23 (fun v3 h => ?_)
    refine lv_aload_n (pc := 24) hx hb dX10_ends_24 rfl (lv_at hl 0 rfl) ?_
    refine gC_X10_19_0 (pc := 25) X hH dX10_ends_25 ?_
    refine gC_X10_132_2 (pc := 28) X hH dX10_ends_28 ?_
    refine lv_iload_n (pc := 31) hx hb dX10_ends_31 rfl (lv_at hl 1 rfl) ?_
    refine r_ld (pc := 32) X (heC_24 V w1) hH h dX10_ends_32 (fun v4 h => ?_)
    refine lv_iconst (pc := 33) (v := 1) hx hb dX10_ends_33 (by decide) ?_
    refine r_cvI (pc := 34) (As := [.int v3, .int v4, .int 1]) (rest := []) X hH (fun x hx => mX0_isAbove hx) cw_X10_135 (heC_4 V w1) rfl rfl rfl (Nat.le_of_ble_eq_true rfl) hl.1 h dX10_ends_34 (fun w5 v6 H locs h hH => ?_)
    refine b_if_eq (pc := 37) (tgt := 44) hx hb h dX10_ends_37 (by decide) (fun h => ?_) (fun h => ?_)
    · refine lv_iconst (pc := 44) (v := 0) hx hb dX10_ends_44 (by decide) ?_
      exact kX10_ends_45 X   h hH (lv_sub hl [] rfl)
    · refine lv_iconst (pc := 40) (v := 1) hx hb dX10_ends_40 (by decide) ?_
      refine lv_goto (pc := 41) (tgt := 45) hx hb dX10_ends_41 (by decide) ?_
      exact kX10_ends_45 X   h hH (lv_sub hl [] rfl)
  · refine lv_bipush (pc := 8) (v := -2) hx hb dX10_ends_8 (by decide) ?_
    exact r_iret (pc := 10) X hH h dX10_ends_10
def eX10_ends (N : Nat) : Nat → Wd → Int32 → Option (Wd × Int32)
  | 0 => fun _ _ => none
  | d + 1 => fun w x1 => bX10_ends_0 N d  w x1
set_option maxHeartbeats 4000000 in
set_option maxRecDepth 20000 in
theorem mX10_ends {l : Launch} {V : Ev} {N d : Nat} {w : Wd} {x1 : Int32} {z : Wd × Int32} (h : eX10_ends N d w x1 = some z) : MetI l V (cC V) (AC V) yX10_ends cX10_ends 2 (some .int) d [.ref (V.2.2 0), .int x1] w z := by
  cases d with
  | zero => exact c_none h
  | succ d =>
    refine Met.ofW (cc := cX10_ends) (maxL := 2) (ret := (some .int)) (by decide) rfl ?_
    intro p e s m args below meth c s₁ B hml hv
    obtain ⟨rfl, hP, hD, hK⟩ := hv
    have hts := atoms_spec (ws := .code yX10_ends cX10_ends 2 (some .int) :: gG) B.pre
    have X : CX V p s m ([.ref (V.2.2 0), .int x1] : List Value).toArray meth c cX10_ends 2 RX10 (some .int) := ⟨B.exec, B.bytes, hml, findClass_of_methodNamed B.named, fun w hw => hts w (List.mem_cons_of_mem _ hw), B.returns, B.notSynchronized, hK⟩
    have hl := lv_entry ([.ref (V.2.2 0), .int x1] : List Value) (n := 2) (Nat.le_of_ble_eq_true rfl)
    rw [lg_entry_eq]
    generalize (lg_sl ([.ref (V.2.2 0), .int x1] : List Value) ++ List.replicate (2 - (lg_sl ([.ref (V.2.2 0), .int x1] : List Value)).length) Slot.unset).toArray = ls at hl ⊢
    have hl : lv_has ls 2 [(0, .ref (V.2.2 0)), (1, .int x1)] := hl
    exact kX10_ends_0 (N := N) X  h ⟨hP, hD, va_S.rf⟩ hl
theorem dX10_above_0 : decode cX10_above 0 = .ok (.aload_n 0, 1) := by decide +kernel
theorem dX10_above_1 : decode cX10_above 1 = .ok (.iload_n 1, 1) := by decide +kernel
theorem dX10_above_2 : decode cX10_above 2 = .ok (.invokevirtual 82, 3) := by decide +kernel
theorem dX10_above_5 : decode cX10_above 5 = .ok (.ifCond .eq 11, 3) := by decide +kernel
theorem dX10_above_8 : decode cX10_above 8 = .ok (.aload_n 0, 1) := by decide +kernel
theorem dX10_above_9 : decode cX10_above 9 = .ok (.iload_n 2, 1) := by decide +kernel
theorem dX10_above_10 : decode cX10_above 10 = .ok (.invokevirtual 82, 3) := by decide +kernel
theorem dX10_above_13 : decode cX10_above 13 = .ok (.ifCond .ne 6, 3) := by decide +kernel
theorem dX10_above_16 : decode cX10_above 16 = .ok (.bipush (-2), 2) := by decide +kernel
theorem dX10_above_18 : decode cX10_above 18 = .ok (.ireturn, 1) := by decide +kernel
theorem dX10_above_19 : decode cX10_above 19 = .ok (.aload_n 0, 1) := by decide +kernel
theorem dX10_above_20 : decode cX10_above 20 = .ok (.getfield 15, 3) := by decide +kernel
theorem dX10_above_23 : decode cX10_above 23 = .ok (.iload_n 1, 1) := by decide +kernel
theorem dX10_above_24 : decode cX10_above 24 = .ok (.invokevirtual 139, 3) := by decide +kernel
theorem dX10_above_27 : decode cX10_above 27 = .ok (.ifCond .eq 14, 3) := by decide +kernel
theorem dX10_above_30 : decode cX10_above 30 = .ok (.aload_n 0, 1) := by decide +kernel
theorem dX10_above_31 : decode cX10_above 31 = .ok (.getfield 15, 3) := by decide +kernel
theorem dX10_above_34 : decode cX10_above 34 = .ok (.iload_n 2, 1) := by decide +kernel
theorem dX10_above_35 : decode cX10_above 35 = .ok (.invokevirtual 139, 3) := by decide +kernel
theorem dX10_above_38 : decode cX10_above 38 = .ok (.ifCond .ne 6, 3) := by decide +kernel
theorem dX10_above_41 : decode cX10_above 41 = .ok (.bipush (-3), 2) := by decide +kernel
theorem dX10_above_43 : decode cX10_above 43 = .ok (.ireturn, 1) := by decide +kernel
theorem dX10_above_44 : decode cX10_above 44 = .ok (.aload_n 0, 1) := by decide +kernel
theorem dX10_above_45 : decode cX10_above 45 = .ok (.getfield 37, 3) := by decide +kernel
theorem dX10_above_48 : decode cX10_above 48 = .ok (.iload_n 1, 1) := by decide +kernel
theorem dX10_above_49 : decode cX10_above 49 = .ok (.iload_n 2, 1) := by decide +kernel
theorem dX10_above_50 : decode cX10_above 50 = .ok (.iconst 1, 1) := by decide +kernel
theorem dX10_above_51 : decode cX10_above 51 = .ok (.invokevirtual 135, 3) := by decide +kernel
theorem dX10_above_54 : decode cX10_above 54 = .ok (.ifCond .eq 7, 3) := by decide +kernel
theorem dX10_above_57 : decode cX10_above 57 = .ok (.iconst 1, 1) := by decide +kernel
theorem dX10_above_58 : decode cX10_above 58 = .ok (.goto 4, 3) := by decide +kernel
theorem dX10_above_61 : decode cX10_above 61 = .ok (.iconst 0, 1) := by decide +kernel
theorem dX10_above_62 : decode cX10_above 62 = .ok (.ireturn, 1) := by decide +kernel
def bX10_above_16 (N d : Nat)   (w : Wd)  : Option (Wd × Int32) :=
  some (w, -2)
set_option maxHeartbeats 4000000 in
theorem kX10_above_16 {V : Ev} {p : Program} {l : Launch} {e : Env} {N d : Nat} {s : State} {m : MethodId} {args : Array Value} {below : List Frame} {meth : Method} {c : Code} {z : Wd × Int32} (X : CX V p s m args meth c cX10_above 3 RX10 (some .int))    {w : Wd}  {H : Heap} {locs : List Loc} {ls : Array Slot} (h : bX10_above_16 N d   w  = some z) (hH : wH V (cC V) (AC V) s w H locs) (hl : lv_has ls 3 []) : W p l e (rmD (d + 1)) s m args below meth c H locs 0 0 (MQ below (CtI V (cC V) (AC V) z) args s 0 0 (AC V)) (F0 m 16 ls []) := by
  unfold bX10_above_16 at h
  obtain ⟨hx, hb, hml, hown, hg, hrt, hlk, hK⟩ := id X
  refine lv_bipush (pc := 16) (v := -2) hx hb dX10_above_16 (by decide) ?_
  exact r_iret (pc := 18) X hH h dX10_above_18
def bX10_above_41 (N d : Nat)   (w : Wd)  : Option (Wd × Int32) :=
  some (w, -3)
set_option maxHeartbeats 4000000 in
theorem kX10_above_41 {V : Ev} {p : Program} {l : Launch} {e : Env} {N d : Nat} {s : State} {m : MethodId} {args : Array Value} {below : List Frame} {meth : Method} {c : Code} {z : Wd × Int32} (X : CX V p s m args meth c cX10_above 3 RX10 (some .int))    {w : Wd}  {H : Heap} {locs : List Loc} {ls : Array Slot} (h : bX10_above_41 N d   w  = some z) (hH : wH V (cC V) (AC V) s w H locs) (hl : lv_has ls 3 []) : W p l e (rmD (d + 1)) s m args below meth c H locs 0 0 (MQ below (CtI V (cC V) (AC V) z) args s 0 0 (AC V)) (F0 m 41 ls []) := by
  unfold bX10_above_41 at h
  obtain ⟨hx, hb, hml, hown, hg, hrt, hlk, hK⟩ := id X
  refine lv_bipush (pc := 41) (v := -3) hx hb dX10_above_41 (by decide) ?_
  exact r_iret (pc := 43) X hH h dX10_above_43
def bX10_above_62 (N d : Nat)   (w : Wd) (y0 : Int32) : Option (Wd × Int32) :=
  some (w, y0)
set_option maxHeartbeats 4000000 in
theorem kX10_above_62 {V : Ev} {p : Program} {l : Launch} {e : Env} {N d : Nat} {s : State} {m : MethodId} {args : Array Value} {below : List Frame} {meth : Method} {c : Code} {z : Wd × Int32} (X : CX V p s m args meth c cX10_above 3 RX10 (some .int))    {w : Wd} {y0 : Int32} {H : Heap} {locs : List Loc} {ls : Array Slot} (h : bX10_above_62 N d   w y0 = some z) (hH : wH V (cC V) (AC V) s w H locs) (hl : lv_has ls 3 []) : W p l e (rmD (d + 1)) s m args below meth c H locs 0 0 (MQ below (CtI V (cC V) (AC V) z) args s 0 0 (AC V)) (F0 m 62 ls [.int y0]) := by
  unfold bX10_above_62 at h
  obtain ⟨hx, hb, hml, hown, hg, hrt, hlk, hK⟩ := id X
  exact r_iret (pc := 62) X hH h dX10_above_62
def bX10_above_0 (N d : Nat)   (w : Wd) (x1 : Int32) (x2 : Int32) : Option (Wd × Int32) :=
  c_cl (eX10_isTerm N d w x1) fun w1 v2 =>
  if v2 = 0 then (
    bX10_above_16 N d   w1 
  ) else (
    c_cl (eX10_isTerm N d w1 x2) fun w3 v4 =>
    if v4 = 0 then (
      bX10_above_16 N d   w3 
    ) else (
      c_cl (eX8_isSmall N d w3 x1) fun w5 v6 =>
      if v6 = 0 then (
        bX10_above_41 N d   w5 
      ) else (
        c_cl (eX8_isSmall N d w5 x2) fun w7 v8 =>
        if v8 = 0 then (
          bX10_above_41 N d   w7 
        ) else (
          c_cl (eX0_isAbove N d w7 x1 x2 1) fun w9 v10 =>
          if v10 = 0 then (
            bX10_above_62 N d   w9 0
          ) else (
            bX10_above_62 N d   w9 1
          )
        )
      )
    )
  )
set_option maxHeartbeats 4000000 in
theorem kX10_above_0 {V : Ev} {p : Program} {l : Launch} {e : Env} {N d : Nat} {s : State} {m : MethodId} {args : Array Value} {below : List Frame} {meth : Method} {c : Code} {z : Wd × Int32} (X : CX V p s m args meth c cX10_above 3 RX10 (some .int))    {w : Wd} {x1 : Int32} {x2 : Int32} {H : Heap} {locs : List Loc} {ls : Array Slot} (h : bX10_above_0 N d   w x1 x2 = some z) (hH : wH V (cC V) (AC V) s w H locs) (hl : lv_has ls 3 [(0, .ref (V.2.2 0)), (1, .int x1), (2, .int x2)]) : W p l e (rmD (d + 1)) s m args below meth c H locs 0 0 (MQ below (CtI V (cC V) (AC V) z) args s 0 0 (AC V)) (F0 m 0 ls []) := by
  unfold bX10_above_0 at h
  obtain ⟨hx, hb, hml, hown, hg, hrt, hlk, hK⟩ := id X
  refine lv_aload_n (pc := 0) hx hb dX10_above_0 rfl (lv_at hl 0 rfl) ?_
  refine lv_iload_n (pc := 1) hx hb dX10_above_1 rfl (lv_at hl 1 rfl) ?_
  refine r_cvI (pc := 2) (As := [.int x1]) (rest := []) X hH (fun x hx => mX10_isTerm hx) cw_X10_82 (heC_0 V w) rfl rfl rfl (Nat.le_of_ble_eq_true rfl) hl.1 h dX10_above_2 (fun w1 v2 H locs h hH => ?_)
  refine b_if_eq (pc := 5) (tgt := 16) hx hb h dX10_above_5 (by decide) (fun h => ?_) (fun h => ?_)
  · exact kX10_above_16 X   h hH (lv_sub hl [] rfl)
  · refine lv_aload_n (pc := 8) hx hb dX10_above_8 rfl (lv_at hl 0 rfl) ?_
    refine lv_iload_n (pc := 9) hx hb dX10_above_9 rfl (lv_at hl 2 rfl) ?_
    refine r_cvI (pc := 10) (As := [.int x2]) (rest := []) X hH (fun x hx => mX10_isTerm hx) cw_X10_82 (heC_0 V w1) rfl rfl rfl (Nat.le_of_ble_eq_true rfl) hl.1 h dX10_above_10 (fun w3 v4 H locs h hH => ?_)
    refine b_if_ne (pc := 13) (tgt := 19) hx hb h dX10_above_13 (by decide) (fun h => ?_) (fun h => ?_)
    · refine lv_aload_n (pc := 19) hx hb dX10_above_19 rfl (lv_at hl 0 rfl) ?_
      refine gC_X10_15_0 (pc := 20) X hH dX10_above_20 ?_
      refine lv_iload_n (pc := 23) hx hb dX10_above_23 rfl (lv_at hl 1 rfl) ?_
      refine r_cvI (pc := 24) (As := [.int x1]) (rest := []) X hH (fun x hx => mX8_isSmall hx) cw_X10_139 (heC_1 V w3) rfl rfl rfl (Nat.le_of_ble_eq_true rfl) hl.1 h dX10_above_24 (fun w5 v6 H locs h hH => ?_)
      refine b_if_eq (pc := 27) (tgt := 41) hx hb h dX10_above_27 (by decide) (fun h => ?_) (fun h => ?_)
      · exact kX10_above_41 X   h hH (lv_sub hl [] rfl)
      · refine lv_aload_n (pc := 30) hx hb dX10_above_30 rfl (lv_at hl 0 rfl) ?_
        refine gC_X10_15_0 (pc := 31) X hH dX10_above_31 ?_
        refine lv_iload_n (pc := 34) hx hb dX10_above_34 rfl (lv_at hl 2 rfl) ?_
        refine r_cvI (pc := 35) (As := [.int x2]) (rest := []) X hH (fun x hx => mX8_isSmall hx) cw_X10_139 (heC_1 V w5) rfl rfl rfl (Nat.le_of_ble_eq_true rfl) hl.1 h dX10_above_35 (fun w7 v8 H locs h hH => ?_)
        refine b_if_ne (pc := 38) (tgt := 44) hx hb h dX10_above_38 (by decide) (fun h => ?_) (fun h => ?_)
        · refine lv_aload_n (pc := 44) hx hb dX10_above_44 rfl (lv_at hl 0 rfl) ?_
          refine gC_X10_37_0 (pc := 45) X hH dX10_above_45 ?_
          refine lv_iload_n (pc := 48) hx hb dX10_above_48 rfl (lv_at hl 1 rfl) ?_
          refine lv_iload_n (pc := 49) hx hb dX10_above_49 rfl (lv_at hl 2 rfl) ?_
          refine lv_iconst (pc := 50) (v := 1) hx hb dX10_above_50 (by decide) ?_
          refine r_cvI (pc := 51) (As := [.int x1, .int x2, .int 1]) (rest := []) X hH (fun x hx => mX0_isAbove hx) cw_X10_135 (heC_4 V w7) rfl rfl rfl (Nat.le_of_ble_eq_true rfl) hl.1 h dX10_above_51 (fun w9 v10 H locs h hH => ?_)
          refine b_if_eq (pc := 54) (tgt := 61) hx hb h dX10_above_54 (by decide) (fun h => ?_) (fun h => ?_)
          · refine lv_iconst (pc := 61) (v := 0) hx hb dX10_above_61 (by decide) ?_
            exact kX10_above_62 X   h hH (lv_sub hl [] rfl)
          · refine lv_iconst (pc := 57) (v := 1) hx hb dX10_above_57 (by decide) ?_
            refine lv_goto (pc := 58) (tgt := 62) hx hb dX10_above_58 (by decide) ?_
            exact kX10_above_62 X   h hH (lv_sub hl [] rfl)
        · exact kX10_above_41 X   h hH (lv_sub hl [] rfl)
    · exact kX10_above_16 X   h hH (lv_sub hl [] rfl)
def eX10_above (N : Nat) : Nat → Wd → Int32 → Int32 → Option (Wd × Int32)
  | 0 => fun _ _ _ => none
  | d + 1 => fun w x1 x2 => bX10_above_0 N d  w x1 x2
set_option maxHeartbeats 4000000 in
set_option maxRecDepth 20000 in
theorem mX10_above {l : Launch} {V : Ev} {N d : Nat} {w : Wd} {x1 : Int32} {x2 : Int32} {z : Wd × Int32} (h : eX10_above N d w x1 x2 = some z) : MetI l V (cC V) (AC V) yX10_above cX10_above 3 (some .int) d [.ref (V.2.2 0), .int x1, .int x2] w z := by
  cases d with
  | zero => exact c_none h
  | succ d =>
    refine Met.ofW (cc := cX10_above) (maxL := 3) (ret := (some .int)) (by decide) rfl ?_
    intro p e s m args below meth c s₁ B hml hv
    obtain ⟨rfl, hP, hD, hK⟩ := hv
    have hts := atoms_spec (ws := .code yX10_above cX10_above 3 (some .int) :: gG) B.pre
    have X : CX V p s m ([.ref (V.2.2 0), .int x1, .int x2] : List Value).toArray meth c cX10_above 3 RX10 (some .int) := ⟨B.exec, B.bytes, hml, findClass_of_methodNamed B.named, fun w hw => hts w (List.mem_cons_of_mem _ hw), B.returns, B.notSynchronized, hK⟩
    have hl := lv_entry ([.ref (V.2.2 0), .int x1, .int x2] : List Value) (n := 3) (Nat.le_of_ble_eq_true rfl)
    rw [lg_entry_eq]
    generalize (lg_sl ([.ref (V.2.2 0), .int x1, .int x2] : List Value) ++ List.replicate (3 - (lg_sl ([.ref (V.2.2 0), .int x1, .int x2] : List Value)).length) Slot.unset).toArray = ls at hl ⊢
    have hl : lv_has ls 3 [(0, .ref (V.2.2 0)), (1, .int x1), (2, .int x2)] := hl
    exact kX10_above_0 (N := N) X  h ⟨hP, hD, va_S.rf⟩ hl
theorem dX2_takeFresh_0 : decode cX2_takeFresh 0 = .ok (.aload_n 0, 1) := by decide +kernel
theorem dX2_takeFresh_1 : decode cX2_takeFresh 1 = .ok (.getfield 35, 3) := by decide +kernel
theorem dX2_takeFresh_4 : decode cX2_takeFresh 4 = .ok (.istore_n 1, 1) := by decide +kernel
theorem dX2_takeFresh_5 : decode cX2_takeFresh 5 = .ok (.aload_n 0, 1) := by decide +kernel
theorem dX2_takeFresh_6 : decode cX2_takeFresh 6 = .ok (.aload_n 0, 1) := by decide +kernel
theorem dX2_takeFresh_7 : decode cX2_takeFresh 7 = .ok (.getfield 9, 3) := by decide +kernel
theorem dX2_takeFresh_10 : decode cX2_takeFresh 10 = .ok (.putfield 35, 3) := by decide +kernel
theorem dX2_takeFresh_13 : decode cX2_takeFresh 13 = .ok (.aload_n 0, 1) := by decide +kernel
theorem dX2_takeFresh_14 : decode cX2_takeFresh 14 = .ok (.iload_n 1, 1) := by decide +kernel
theorem dX2_takeFresh_15 : decode cX2_takeFresh 15 = .ok (.putfield 9, 3) := by decide +kernel
theorem dX2_takeFresh_18 : decode cX2_takeFresh 18 = .ok (.aload_n 0, 1) := by decide +kernel
theorem dX2_takeFresh_19 : decode cX2_takeFresh 19 = .ok (.aload_n 0, 1) := by decide +kernel
theorem dX2_takeFresh_20 : decode cX2_takeFresh 20 = .ok (.getfield 32, 3) := by decide +kernel
theorem dX2_takeFresh_23 : decode cX2_takeFresh 23 = .ok (.putfield 38, 3) := by decide +kernel
theorem dX2_takeFresh_26 : decode cX2_takeFresh 26 = .ok (.return_, 1) := by decide +kernel
def bX2_takeFresh_0 (N d : Nat)   (w : Wd)  : Option (Wd) :=
  c_nm (sI w 17) fun x1_1 =>
  c_pi w 17 (sI w 18) fun w2 =>
  c_pi w2 18 x1_1 fun w3 =>
  c_pi w3 15 (sI w3 16) fun w4 =>
  some w4
set_option maxHeartbeats 4000000 in
theorem kX2_takeFresh_0 {V : Ev} {p : Program} {l : Launch} {e : Env} {N d : Nat} {s : State} {m : MethodId} {args : Array Value} {below : List Frame} {meth : Method} {c : Code} {z : Wd} (X : CX V p s m args meth c cX2_takeFresh 2 RX2 none)    {w : Wd}  {H : Heap} {locs : List Loc} {ls : Array Slot} (h : bX2_takeFresh_0 N d   w  = some z) (hH : wH V (cC V) (AC V) s w H locs) (hl : lv_has ls 2 [(0, .ref (V.2.2 9))]) : W p l e (rmD (d + 1)) s m args below meth c H locs 0 0 (MQ below (CtV V (cC V) (AC V) z) args s 0 0 (AC V)) (F0 m 0 ls []) := by
  unfold bX2_takeFresh_0 at h
  obtain ⟨hx, hb, hml, hown, hg, hrt, hlk, hK⟩ := id X
  refine lv_aload_n (pc := 0) hx hb dX2_takeFresh_0 rfl (lv_at hl 0 rfl) ?_
  refine gC_X2_35_9 (pc := 1) X hH dX2_takeFresh_1 ?_
  refine r_nmi h (fun x1_1 h => ?_)
  refine lv_istore_n (pc := 4) (lv' := [(1, .int x1_1), (0, .ref (V.2.2 9))]) hx hb dX2_takeFresh_4 rfl hl (by decide) rfl (fun ls hl => ?_)
  refine lv_aload_n (pc := 5) hx hb dX2_takeFresh_5 rfl (lv_at hl 1 rfl) ?_
  refine lv_aload_n (pc := 6) hx hb dX2_takeFresh_6 rfl (lv_at hl 1 rfl) ?_
  refine gC_X2_9_9 (pc := 7) X hH dX2_takeFresh_7 ?_
  refine pC_X2_35_9 (pc := 10) X hH h dX2_takeFresh_10 (fun w2 H locs h hH => ?_)
  refine lv_aload_n (pc := 13) hx hb dX2_takeFresh_13 rfl (lv_at hl 1 rfl) ?_
  refine lv_iload_n (pc := 14) hx hb dX2_takeFresh_14 rfl (lv_at hl 0 rfl) ?_
  refine pC_X2_9_9 (pc := 15) X hH h dX2_takeFresh_15 (fun w3 H locs h hH => ?_)
  refine lv_aload_n (pc := 18) hx hb dX2_takeFresh_18 rfl (lv_at hl 1 rfl) ?_
  refine lv_aload_n (pc := 19) hx hb dX2_takeFresh_19 rfl (lv_at hl 1 rfl) ?_
  refine gC_X2_32_9 (pc := 20) X hH dX2_takeFresh_20 ?_
  refine pC_X2_38_9 (pc := 23) X hH h dX2_takeFresh_23 (fun w4 H locs h hH => ?_)
  exact r_vret (pc := 26) X hH h dX2_takeFresh_26
def eX2_takeFresh (N : Nat) : Nat → Wd → Option (Wd)
  | 0 => fun _  => none
  | d + 1 => fun w  => bX2_takeFresh_0 N d  w 
set_option maxHeartbeats 4000000 in
set_option maxRecDepth 20000 in
theorem mX2_takeFresh {l : Launch} {V : Ev} {N d : Nat} {w : Wd}  {z : Wd} (h : eX2_takeFresh N d w  = some z) : MetV l V (cC V) (AC V) yX2_takeFresh cX2_takeFresh 2 none d [.ref (V.2.2 9)] w z := by
  cases d with
  | zero => exact c_none h
  | succ d =>
    refine Met.ofW (cc := cX2_takeFresh) (maxL := 2) (ret := none) (by decide) rfl ?_
    intro p e s m args below meth c s₁ B hml hv
    obtain ⟨rfl, hP, hD, hK⟩ := hv
    have hts := atoms_spec (ws := .code yX2_takeFresh cX2_takeFresh 2 none :: gG) B.pre
    have X : CX V p s m ([.ref (V.2.2 9)] : List Value).toArray meth c cX2_takeFresh 2 RX2 none := ⟨B.exec, B.bytes, hml, findClass_of_methodNamed B.named, fun w hw => hts w (List.mem_cons_of_mem _ hw), B.returns, B.notSynchronized, hK⟩
    have hl := lv_entry ([.ref (V.2.2 9)] : List Value) (n := 2) (Nat.le_of_ble_eq_true rfl)
    rw [lg_entry_eq]
    generalize (lg_sl ([.ref (V.2.2 9)] : List Value) ++ List.replicate (2 - (lg_sl ([.ref (V.2.2 9)] : List Value)).length) Slot.unset).toArray = ls at hl ⊢
    have hl : lv_has ls 2 [(0, .ref (V.2.2 9))] := hl
    exact kX2_takeFresh_0 (N := N) X  h ⟨hP, hD, va_S.rf⟩ hl
theorem dX5_layPart_0 : decode cX5_layPart 0 = .ok (.iload_n 2, 1) := by decide +kernel
theorem dX5_layPart_1 : decode cX5_layPart 1 = .ok (.iconst (-1), 1) := by decide +kernel
theorem dX5_layPart_2 : decode cX5_layPart 2 = .ok (.if_icmp .ne 5, 3) := by decide +kernel
theorem dX5_layPart_5 : decode cX5_layPart 5 = .ok (.iconst (-1), 1) := by decide +kernel
theorem dX5_layPart_6 : decode cX5_layPart 6 = .ok (.ireturn, 1) := by decide +kernel
theorem dX5_layPart_7 : decode cX5_layPart 7 = .ok (.aload_n 0, 1) := by decide +kernel
theorem dX5_layPart_8 : decode cX5_layPart 8 = .ok (.iload_n 2, 1) := by decide +kernel
theorem dX5_layPart_9 : decode cX5_layPart 9 = .ok (.iload 4, 2) := by decide +kernel
theorem dX5_layPart_11 : decode cX5_layPart 11 = .ok (.aload_n 0, 1) := by decide +kernel
theorem dX5_layPart_12 : decode cX5_layPart 12 = .ok (.getfield 27, 3) := by decide +kernel
theorem dX5_layPart_15 : decode cX5_layPart 15 = .ok (.iload_n 1, 1) := by decide +kernel
theorem dX5_layPart_16 : decode cX5_layPart 16 = .ok (.laload, 1) := by decide +kernel
theorem dX5_layPart_17 : decode cX5_layPart 17 = .ok (.iload_n 3, 1) := by decide +kernel
theorem dX5_layPart_18 : decode cX5_layPart 18 = .ok (.invokestatic 56, 3) := by decide +kernel
theorem dX5_layPart_21 : decode cX5_layPart 21 = .ok (.iload 5, 2) := by decide +kernel
theorem dX5_layPart_23 : decode cX5_layPart 23 = .ok (.iconst 1, 1) := by decide +kernel
theorem dX5_layPart_24 : decode cX5_layPart 24 = .ok (.iadd, 1) := by decide +kernel
theorem dX5_layPart_25 : decode cX5_layPart 25 = .ok (.invokevirtual 60, 3) := by decide +kernel
theorem dX5_layPart_28 : decode cX5_layPart 28 = .ok (.istore 6, 2) := by decide +kernel
theorem dX5_layPart_30 : decode cX5_layPart 30 = .ok (.iload 6, 2) := by decide +kernel
theorem dX5_layPart_32 : decode cX5_layPart 32 = .ok (.bipush 8, 2) := by decide +kernel
theorem dX5_layPart_34 : decode cX5_layPart 34 = .ok (.if_icmp .lt 19, 3) := by decide +kernel
theorem dX5_layPart_37 : decode cX5_layPart 37 = .ok (.aload_n 0, 1) := by decide +kernel
theorem dX5_layPart_38 : decode cX5_layPart 38 = .ok (.getfield 21, 3) := by decide +kernel
theorem dX5_layPart_41 : decode cX5_layPart 41 = .ok (.iload 6, 2) := by decide +kernel
theorem dX5_layPart_43 : decode cX5_layPart 43 = .ok (.iload_n 1, 1) := by decide +kernel
theorem dX5_layPart_44 : decode cX5_layPart 44 = .ok (.iastore, 1) := by decide +kernel
theorem dX5_layPart_45 : decode cX5_layPart 45 = .ok (.aload_n 0, 1) := by decide +kernel
theorem dX5_layPart_46 : decode cX5_layPart 46 = .ok (.getfield 24, 3) := by decide +kernel
theorem dX5_layPart_49 : decode cX5_layPart 49 = .ok (.iload 6, 2) := by decide +kernel
theorem dX5_layPart_51 : decode cX5_layPart 51 = .ok (.iload_n 3, 1) := by decide +kernel
theorem dX5_layPart_52 : decode cX5_layPart 52 = .ok (.iastore, 1) := by decide +kernel
theorem dX5_layPart_53 : decode cX5_layPart 53 = .ok (.iload 6, 2) := by decide +kernel
theorem dX5_layPart_55 : decode cX5_layPart 55 = .ok (.ireturn, 1) := by decide +kernel
theorem dX5_lay_0 : decode cX5_lay 0 = .ok (.aload_n 0, 1) := by decide +kernel
theorem dX5_lay_1 : decode cX5_lay 1 = .ok (.getfield 34, 3) := by decide +kernel
theorem dX5_lay_4 : decode cX5_lay 4 = .ok (.iload_n 1, 1) := by decide +kernel
theorem dX5_lay_5 : decode cX5_lay 5 = .ok (.invokevirtual 38, 3) := by decide +kernel
theorem dX5_lay_8 : decode cX5_lay 8 = .ok (.ifCond .eq 18, 3) := by decide +kernel
theorem dX5_lay_11 : decode cX5_lay 11 = .ok (.aload_n 0, 1) := by decide +kernel
theorem dX5_lay_12 : decode cX5_lay 12 = .ok (.getfield 34, 3) := by decide +kernel
theorem dX5_lay_15 : decode cX5_lay 15 = .ok (.getfield 44, 3) := by decide +kernel
theorem dX5_lay_18 : decode cX5_lay 18 = .ok (.iload_n 1, 1) := by decide +kernel
theorem dX5_lay_19 : decode cX5_lay 19 = .ok (.iaload, 1) := by decide +kernel
theorem dX5_lay_20 : decode cX5_lay 20 = .ok (.bipush 10, 2) := by decide +kernel
theorem dX5_lay_22 : decode cX5_lay 22 = .ok (.isub, 1) := by decide +kernel
theorem dX5_lay_23 : decode cX5_lay 23 = .ok (.iload_n 2, 1) := by decide +kernel
theorem dX5_lay_24 : decode cX5_lay 24 = .ok (.iadd, 1) := by decide +kernel
theorem dX5_lay_25 : decode cX5_lay 25 = .ok (.ireturn, 1) := by decide +kernel
theorem dX5_lay_26 : decode cX5_lay 26 = .ok (.iload 5, 2) := by decide +kernel
theorem dX5_lay_28 : decode cX5_lay 28 = .ok (.bipush 30, 2) := by decide +kernel
theorem dX5_lay_30 : decode cX5_lay 30 = .ok (.if_icmp .gt 13, 3) := by decide +kernel
theorem dX5_lay_33 : decode cX5_lay 33 = .ok (.aload_n 0, 1) := by decide +kernel
theorem dX5_lay_34 : decode cX5_lay 34 = .ok (.getfield 45, 3) := by decide +kernel
theorem dX5_lay_37 : decode cX5_lay 37 = .ok (.sipush 158, 3) := by decide +kernel
theorem dX5_lay_40 : decode cX5_lay 40 = .ok (.if_icmp .lt 5, 3) := by decide +kernel
theorem dX5_lay_43 : decode cX5_lay 43 = .ok (.iconst (-1), 1) := by decide +kernel
theorem dX5_lay_44 : decode cX5_lay 44 = .ok (.ireturn, 1) := by decide +kernel
theorem dX5_lay_45 : decode cX5_lay 45 = .ok (.aload_n 0, 1) := by decide +kernel
theorem dX5_lay_46 : decode cX5_lay 46 = .ok (.getfield 45, 3) := by decide +kernel
theorem dX5_lay_49 : decode cX5_lay 49 = .ok (.istore 6, 2) := by decide +kernel
theorem dX5_lay_51 : decode cX5_lay 51 = .ok (.aload_n 0, 1) := by decide +kernel
theorem dX5_lay_52 : decode cX5_lay 52 = .ok (.dup, 1) := by decide +kernel
theorem dX5_lay_53 : decode cX5_lay 53 = .ok (.getfield 45, 3) := by decide +kernel
theorem dX5_lay_56 : decode cX5_lay 56 = .ok (.iconst 1, 1) := by decide +kernel
theorem dX5_lay_57 : decode cX5_lay 57 = .ok (.iadd, 1) := by decide +kernel
theorem dX5_lay_58 : decode cX5_lay 58 = .ok (.putfield 45, 3) := by decide +kernel
theorem dX5_lay_61 : decode cX5_lay 61 = .ok (.aload_n 0, 1) := by decide +kernel
theorem dX5_lay_62 : decode cX5_lay 62 = .ok (.getfield 11, 3) := by decide +kernel
theorem dX5_lay_65 : decode cX5_lay 65 = .ok (.iload 6, 2) := by decide +kernel
theorem dX5_lay_67 : decode cX5_lay 67 = .ok (.aload_n 0, 1) := by decide +kernel
theorem dX5_lay_68 : decode cX5_lay 68 = .ok (.getfield 34, 3) := by decide +kernel
theorem dX5_lay_71 : decode cX5_lay 71 = .ok (.getfield 44, 3) := by decide +kernel
theorem dX5_lay_74 : decode cX5_lay 74 = .ok (.iload_n 1, 1) := by decide +kernel
theorem dX5_lay_75 : decode cX5_lay 75 = .ok (.iaload, 1) := by decide +kernel
theorem dX5_lay_76 : decode cX5_lay 76 = .ok (.iastore, 1) := by decide +kernel
theorem dX5_lay_77 : decode cX5_lay 77 = .ok (.aload_n 0, 1) := by decide +kernel
theorem dX5_lay_78 : decode cX5_lay 78 = .ok (.getfield 27, 3) := by decide +kernel
theorem dX5_lay_81 : decode cX5_lay 81 = .ok (.iload 6, 2) := by decide +kernel
theorem dX5_lay_83 : decode cX5_lay 83 = .ok (.lload_n 3, 1) := by decide +kernel
theorem dX5_lay_84 : decode cX5_lay 84 = .ok (.lastore, 1) := by decide +kernel
theorem dX5_lay_85 : decode cX5_lay 85 = .ok (.aload_n 0, 1) := by decide +kernel
theorem dX5_lay_86 : decode cX5_lay 86 = .ok (.getfield 31, 3) := by decide +kernel
theorem dX5_lay_89 : decode cX5_lay 89 = .ok (.iload 6, 2) := by decide +kernel
theorem dX5_lay_91 : decode cX5_lay 91 = .ok (.aload_n 0, 1) := by decide +kernel
theorem dX5_lay_92 : decode cX5_lay 92 = .ok (.getfield 34, 3) := by decide +kernel
theorem dX5_lay_95 : decode cX5_lay 95 = .ok (.getfield 49, 3) := by decide +kernel
theorem dX5_lay_98 : decode cX5_lay 98 = .ok (.iload_n 1, 1) := by decide +kernel
theorem dX5_lay_99 : decode cX5_lay 99 = .ok (.iaload, 1) := by decide +kernel
theorem dX5_lay_100 : decode cX5_lay 100 = .ok (.iload_n 2, 1) := by decide +kernel
theorem dX5_lay_101 : decode cX5_lay 101 = .ok (.ishl, 1) := by decide +kernel
theorem dX5_lay_102 : decode cX5_lay 102 = .ok (.iastore, 1) := by decide +kernel
theorem dX5_lay_103 : decode cX5_lay 103 = .ok (.aload_n 0, 1) := by decide +kernel
theorem dX5_lay_104 : decode cX5_lay 104 = .ok (.getfield 15, 3) := by decide +kernel
theorem dX5_lay_107 : decode cX5_lay 107 = .ok (.iload 6, 2) := by decide +kernel
theorem dX5_lay_109 : decode cX5_lay 109 = .ok (.aload_n 0, 1) := by decide +kernel
theorem dX5_lay_110 : decode cX5_lay 110 = .ok (.iload 6, 2) := by decide +kernel
theorem dX5_lay_112 : decode cX5_lay 112 = .ok (.aload_n 0, 1) := by decide +kernel
theorem dX5_lay_113 : decode cX5_lay 113 = .ok (.getfield 34, 3) := by decide +kernel
theorem dX5_lay_116 : decode cX5_lay 116 = .ok (.getfield 50, 3) := by decide +kernel
theorem dX5_lay_119 : decode cX5_lay 119 = .ok (.iload_n 1, 1) := by decide +kernel
theorem dX5_lay_120 : decode cX5_lay 120 = .ok (.iaload, 1) := by decide +kernel
theorem dX5_lay_121 : decode cX5_lay 121 = .ok (.iconst 0, 1) := by decide +kernel
theorem dX5_lay_122 : decode cX5_lay 122 = .ok (.iload_n 2, 1) := by decide +kernel
theorem dX5_lay_123 : decode cX5_lay 123 = .ok (.iload 5, 2) := by decide +kernel
theorem dX5_lay_125 : decode cX5_lay 125 = .ok (.invokevirtual 51, 3) := by decide +kernel
theorem dX5_lay_128 : decode cX5_lay 128 = .ok (.iastore, 1) := by decide +kernel
theorem dX5_lay_129 : decode cX5_lay 129 = .ok (.aload_n 0, 1) := by decide +kernel
theorem dX5_lay_130 : decode cX5_lay 130 = .ok (.getfield 18, 3) := by decide +kernel
theorem dX5_lay_133 : decode cX5_lay 133 = .ok (.iload 6, 2) := by decide +kernel
theorem dX5_lay_135 : decode cX5_lay 135 = .ok (.aload_n 0, 1) := by decide +kernel
theorem dX5_lay_136 : decode cX5_lay 136 = .ok (.iload 6, 2) := by decide +kernel
theorem dX5_lay_138 : decode cX5_lay 138 = .ok (.aload_n 0, 1) := by decide +kernel
theorem dX5_lay_139 : decode cX5_lay 139 = .ok (.getfield 34, 3) := by decide +kernel
theorem dX5_lay_142 : decode cX5_lay 142 = .ok (.getfield 55, 3) := by decide +kernel
theorem dX5_lay_145 : decode cX5_lay 145 = .ok (.iload_n 1, 1) := by decide +kernel
theorem dX5_lay_146 : decode cX5_lay 146 = .ok (.iaload, 1) := by decide +kernel
theorem dX5_lay_147 : decode cX5_lay 147 = .ok (.iconst 1, 1) := by decide +kernel
theorem dX5_lay_148 : decode cX5_lay 148 = .ok (.iload_n 2, 1) := by decide +kernel
theorem dX5_lay_149 : decode cX5_lay 149 = .ok (.iload 5, 2) := by decide +kernel
theorem dX5_lay_151 : decode cX5_lay 151 = .ok (.invokevirtual 51, 3) := by decide +kernel
theorem dX5_lay_154 : decode cX5_lay 154 = .ok (.iastore, 1) := by decide +kernel
theorem dX5_lay_155 : decode cX5_lay 155 = .ok (.iload 6, 2) := by decide +kernel
theorem dX5_lay_157 : decode cX5_lay 157 = .ok (.ireturn, 1) := by decide +kernel
def bX5_layPart_53 (N d : Nat) (self_X5_lay : Wd → Int32 → Int32 → Int64 → Int32 → Option (Wd × Int32))  (w : Wd) (x6 : Int32) : Option (Wd × Int32) :=
  some (w, x6)
set_option maxHeartbeats 4000000 in
theorem kX5_layPart_53 {V : Ev} {p : Program} {l : Launch} {e : Env} {N d : Nat} {s : State} {m : MethodId} {args : Array Value} {below : List Frame} {meth : Method} {c : Code} {z : Wd × Int32} (X : CX V p s m args meth c cX5_layPart 7 RX5 (some .int)) {self_X5_lay : Wd → Int32 → Int32 → Int64 → Int32 → Option (Wd × Int32)} (hs_X5_lay : ∀ (w : Wd) (a0 : Int32) (a1 : Int32) (a2 : Int64) (a3 : Int32) (x : Wd × Int32), self_X5_lay w a0 a1 a2 a3 = some x → MetI l V (cC V) (AC V) yX5_lay cX5_lay 7 (some .int) d [.ref (V.2.2 10), .int a0, .int a1, .long a2, .int a3] w x)  {w : Wd} {x6 : Int32} {H : Heap} {locs : List Loc} {ls : Array Slot} (h : bX5_layPart_53 N d self_X5_lay  w x6 = some z) (hH : wH V (cC V) (AC V) s w H locs) (hl : lv_has ls 7 [(6, .int x6)]) : W p l e (rmD (d + 1)) s m args below meth c H locs 0 0 (MQ below (CtI V (cC V) (AC V) z) args s 0 0 (AC V)) (F0 m 53 ls []) := by
  unfold bX5_layPart_53 at h
  obtain ⟨hx, hb, hml, hown, hg, hrt, hlk, hK⟩ := id X
  refine lv_iload (pc := 53) hx hb dX5_layPart_53 (lv_at hl 0 rfl) ?_
  exact r_iret (pc := 55) X hH h dX5_layPart_55
def bX5_layPart_0 (N d : Nat) (self_X5_lay : Wd → Int32 → Int32 → Int64 → Int32 → Option (Wd × Int32))  (w : Wd) (x1 : Int32) (x2 : Int32) (x3 : Int32) (x4 : Int32) (x5 : Int32) : Option (Wd × Int32) :=
  if x2 = (-1) then (
    some (w, -1)
  ) else (
    c_ll w 55 158 x1 fun v1 =>
    c_cl (eX10_placeOfPart N d w v1 x3) fun w2 v3 =>
    c_cl (self_X5_lay w2 x2 x4 v3 (x5 + 1)) fun w4 v5 =>
    if v5 < 8 then (
      bX5_layPart_53 N d self_X5_lay  w4 v5
    ) else (
      c_st w4 53 158 v5 x1 fun w6 =>
      c_st w6 54 158 v5 x3 fun w7 =>
      bX5_layPart_53 N d self_X5_lay  w7 v5
    )
  )
set_option maxHeartbeats 4000000 in
theorem kX5_layPart_0 {V : Ev} {p : Program} {l : Launch} {e : Env} {N d : Nat} {s : State} {m : MethodId} {args : Array Value} {below : List Frame} {meth : Method} {c : Code} {z : Wd × Int32} (X : CX V p s m args meth c cX5_layPart 7 RX5 (some .int)) {self_X5_lay : Wd → Int32 → Int32 → Int64 → Int32 → Option (Wd × Int32)} (hs_X5_lay : ∀ (w : Wd) (a0 : Int32) (a1 : Int32) (a2 : Int64) (a3 : Int32) (x : Wd × Int32), self_X5_lay w a0 a1 a2 a3 = some x → MetI l V (cC V) (AC V) yX5_lay cX5_lay 7 (some .int) d [.ref (V.2.2 10), .int a0, .int a1, .long a2, .int a3] w x)  {w : Wd} {x1 : Int32} {x2 : Int32} {x3 : Int32} {x4 : Int32} {x5 : Int32} {H : Heap} {locs : List Loc} {ls : Array Slot} (h : bX5_layPart_0 N d self_X5_lay  w x1 x2 x3 x4 x5 = some z) (hH : wH V (cC V) (AC V) s w H locs) (hl : lv_has ls 7 [(0, .ref (V.2.2 10)), (1, .int x1), (2, .int x2), (3, .int x3), (4, .int x4), (5, .int x5)]) : W p l e (rmD (d + 1)) s m args below meth c H locs 0 0 (MQ below (CtI V (cC V) (AC V) z) args s 0 0 (AC V)) (F0 m 0 ls []) := by
  unfold bX5_layPart_0 at h
  obtain ⟨hx, hb, hml, hown, hg, hrt, hlk, hK⟩ := id X
  refine lv_iload_n (pc := 0) hx hb dX5_layPart_0 rfl (lv_at hl 2 rfl) ?_
  refine lv_iconst (pc := 1) (v := -1) hx hb dX5_layPart_1 (by decide) ?_
  refine b_icmp_ne (pc := 2) (tgt := 7) hx hb h dX5_layPart_2 (by decide) (fun h => ?_) (fun h => ?_)
  · refine lv_aload_n (pc := 7) hx hb dX5_layPart_7 rfl (lv_at hl 0 rfl) ?_
    refine lv_iload_n (pc := 8) hx hb dX5_layPart_8 rfl (lv_at hl 2 rfl) ?_
    refine lv_iload (pc := 9) hx hb dX5_layPart_9 (lv_at hl 4 rfl) ?_
    refine lv_aload_n (pc := 11) hx hb dX5_layPart_11 rfl (lv_at hl 0 rfl) ?_
    refine gC_X5_27_10 (pc := 12) X hH dX5_layPart_12 ?_
    refine lv_iload_n (pc := 15) hx hb dX5_layPart_15 rfl (lv_at hl 1 rfl) ?_
    refine r_ll (pc := 16) X (heC_51 V w) hH h dX5_layPart_16 (fun v1 h => ?_)
    refine lv_iload_n (pc := 17) hx hb dX5_layPart_17 rfl (lv_at hl 3 rfl) ?_
    refine r_cnL (pc := 18) (n := 2) (As := [.long v1, .int x3]) (rest := [.int x4, .int x2, .ref (V.2.2 10)]) X hH (fun x hx => mX10_placeOfPart hx) hK.2.2 wS_538 wI_1 wC_539 (by decide +kernel) (by decide) rfl rfl (Nat.le_of_ble_eq_true rfl) hl.1 h dX5_layPart_18 (fun w2 v3 H locs h hH => ?_)
    refine lv_iload (pc := 21) hx hb dX5_layPart_21 (lv_at hl 5 rfl) ?_
    refine lv_iconst (pc := 23) (v := 1) hx hb dX5_layPart_23 (by decide) ?_
    refine lv_iadd (pc := 24) hx hb dX5_layPart_24 ?_
    refine r_cvI (pc := 25) (As := [.int x2, .int x4, .long v3, .int (x5 + 1)]) (rest := []) X hH (fun x hx => hs_X5_lay _ _ _ _ _ _ hx) cw_X5_60 (heC_10 V w2) rfl rfl rfl (Nat.le_of_ble_eq_true rfl) hl.1 h dX5_layPart_25 (fun w4 v5 H locs h hH => ?_)
    refine lv_istore (pc := 28) (lv' := [(6, .int v5), (0, .ref (V.2.2 10)), (1, .int x1), (2, .int x2), (3, .int x3), (4, .int x4), (5, .int x5)]) hx hb dX5_layPart_28 hl (by decide) rfl (fun ls hl => ?_)
    refine lv_iload (pc := 30) hx hb dX5_layPart_30 (lv_at hl 0 rfl) ?_
    refine lv_bipush (pc := 32) (v := 8) hx hb dX5_layPart_32 (by decide) ?_
    refine b_icmp_lt (pc := 34) (tgt := 53) hx hb h dX5_layPart_34 (by decide) (fun h => ?_) (fun h => ?_)
    · exact kX5_layPart_53 X hs_X5_lay  h hH (lv_sub hl [0] rfl)
    · refine lv_aload_n (pc := 37) hx hb dX5_layPart_37 rfl (lv_at hl 1 rfl) ?_
      refine gC_X5_21_10 (pc := 38) X hH dX5_layPart_38 ?_
      refine lv_iload (pc := 41) hx hb dX5_layPart_41 (lv_at hl 0 rfl) ?_
      refine lv_iload_n (pc := 43) hx hb dX5_layPart_43 rfl (lv_at hl 2 rfl) ?_
      refine r_st (pc := 44) X (heC_49 V w4) (hsC_49 V w4) hH h dX5_layPart_44 (fun w6 H locs h hH => ?_)
      refine lv_aload_n (pc := 45) hx hb dX5_layPart_45 rfl (lv_at hl 1 rfl) ?_
      refine gC_X5_24_10 (pc := 46) X hH dX5_layPart_46 ?_
      refine lv_iload (pc := 49) hx hb dX5_layPart_49 (lv_at hl 0 rfl) ?_
      refine lv_iload_n (pc := 51) hx hb dX5_layPart_51 rfl (lv_at hl 4 rfl) ?_
      refine r_st (pc := 52) X (heC_50 V w6) (hsC_50 V w6) hH h dX5_layPart_52 (fun w7 H locs h hH => ?_)
      exact kX5_layPart_53 X hs_X5_lay  h hH (lv_sub hl [0] rfl)
  · refine lv_iconst (pc := 5) (v := -1) hx hb dX5_layPart_5 (by decide) ?_
    exact r_iret (pc := 6) X hH h dX5_layPart_6
def bX5_lay_43 (N d : Nat) (self_X5_layPart : Wd → Int32 → Int32 → Int32 → Int32 → Int32 → Option (Wd × Int32))  (w : Wd)  : Option (Wd × Int32) :=
  some (w, -1)
set_option maxHeartbeats 4000000 in
theorem kX5_lay_43 {V : Ev} {p : Program} {l : Launch} {e : Env} {N d : Nat} {s : State} {m : MethodId} {args : Array Value} {below : List Frame} {meth : Method} {c : Code} {z : Wd × Int32} (X : CX V p s m args meth c cX5_lay 7 RX5 (some .int)) {self_X5_layPart : Wd → Int32 → Int32 → Int32 → Int32 → Int32 → Option (Wd × Int32)} (hs_X5_layPart : ∀ (w : Wd) (a0 : Int32) (a1 : Int32) (a2 : Int32) (a3 : Int32) (a4 : Int32) (x : Wd × Int32), self_X5_layPart w a0 a1 a2 a3 a4 = some x → MetI l V (cC V) (AC V) yX5_layPart cX5_layPart 7 (some .int) d [.ref (V.2.2 10), .int a0, .int a1, .int a2, .int a3, .int a4] w x)  {w : Wd}  {H : Heap} {locs : List Loc} {ls : Array Slot} (h : bX5_lay_43 N d self_X5_layPart  w  = some z) (hH : wH V (cC V) (AC V) s w H locs) (hl : lv_has ls 7 []) : W p l e (rmD (d + 1)) s m args below meth c H locs 0 0 (MQ below (CtI V (cC V) (AC V) z) args s 0 0 (AC V)) (F0 m 43 ls []) := by
  unfold bX5_lay_43 at h
  obtain ⟨hx, hb, hml, hown, hg, hrt, hlk, hK⟩ := id X
  refine lv_iconst (pc := 43) (v := -1) hx hb dX5_lay_43 (by decide) ?_
  exact r_iret (pc := 44) X hH h dX5_lay_44
def bX5_lay_0 (N d : Nat) (self_X5_layPart : Wd → Int32 → Int32 → Int32 → Int32 → Int32 → Option (Wd × Int32))  (w : Wd) (x1 : Int32) (x2 : Int32) (x3 : Int64) (x5 : Int32) : Option (Wd × Int32) :=
  c_cl (eX8_isVariable N d w x1) fun w1 v2 =>
  if v2 = 0 then (
    if 30 < x5 then (
      bX5_lay_43 N d self_X5_layPart  w1 
    ) else (
      if (sI w1 19) < 158 then (
        c_nm (sI w1 19) fun x6_3 =>
        c_pi w1 19 ((sI w1 19) + 1) fun w4 =>
        c_ld w4 14 1000 x1 fun v5 =>
        c_st w4 50 158 x6_3 v5 fun w6 =>
        c_sl w6 55 158 x6_3 x3 fun w7 =>
        c_ld w7 19 1000 x1 fun v8 =>
        c_st w7 56 158 x6_3 (v8 <<< (x2 &&& 31)) fun w9 =>
        c_ld w9 15 1000 x1 fun v10 =>
        c_cl (self_X5_layPart w9 x6_3 v10 0 x2 x5) fun w11 v12 =>
        c_st w11 51 158 x6_3 v12 fun w13 =>
        c_ld w13 16 1000 x1 fun v14 =>
        c_cl (self_X5_layPart w13 x6_3 v14 1 x2 x5) fun w15 v16 =>
        c_st w15 52 158 x6_3 v16 fun w17 =>
        some (w17, x6_3)
      ) else (
        bX5_lay_43 N d self_X5_layPart  w1 
      )
    )
  ) else (
    c_ld w1 14 1000 x1 fun v18 =>
    some (w1, (v18 - 10) + x2)
  )
set_option maxHeartbeats 4000000 in
theorem kX5_lay_0 {V : Ev} {p : Program} {l : Launch} {e : Env} {N d : Nat} {s : State} {m : MethodId} {args : Array Value} {below : List Frame} {meth : Method} {c : Code} {z : Wd × Int32} (X : CX V p s m args meth c cX5_lay 7 RX5 (some .int)) {self_X5_layPart : Wd → Int32 → Int32 → Int32 → Int32 → Int32 → Option (Wd × Int32)} (hs_X5_layPart : ∀ (w : Wd) (a0 : Int32) (a1 : Int32) (a2 : Int32) (a3 : Int32) (a4 : Int32) (x : Wd × Int32), self_X5_layPart w a0 a1 a2 a3 a4 = some x → MetI l V (cC V) (AC V) yX5_layPart cX5_layPart 7 (some .int) d [.ref (V.2.2 10), .int a0, .int a1, .int a2, .int a3, .int a4] w x)  {w : Wd} {x1 : Int32} {x2 : Int32} {x3 : Int64} {x5 : Int32} {H : Heap} {locs : List Loc} {ls : Array Slot} (h : bX5_lay_0 N d self_X5_layPart  w x1 x2 x3 x5 = some z) (hH : wH V (cC V) (AC V) s w H locs) (hl : lv_has ls 7 [(0, .ref (V.2.2 10)), (1, .int x1), (2, .int x2), (3, .long x3), (5, .int x5)]) : W p l e (rmD (d + 1)) s m args below meth c H locs 0 0 (MQ below (CtI V (cC V) (AC V) z) args s 0 0 (AC V)) (F0 m 0 ls []) := by
  unfold bX5_lay_0 at h
  obtain ⟨hx, hb, hml, hown, hg, hrt, hlk, hK⟩ := id X
  refine lv_aload_n (pc := 0) hx hb dX5_lay_0 rfl (lv_at hl 0 rfl) ?_
  refine gC_X5_34_10 (pc := 1) X hH dX5_lay_1 ?_
  refine lv_iload_n (pc := 4) hx hb dX5_lay_4 rfl (lv_at hl 1 rfl) ?_
  refine r_cvI (pc := 5) (As := [.int x1]) (rest := []) X hH (fun x hx => mX8_isVariable hx) cw_X5_38 (heC_1 V w) rfl rfl rfl (Nat.le_of_ble_eq_true rfl) hl.1 h dX5_lay_5 (fun w1 v2 H locs h hH => ?_)
  refine b_if_eq (pc := 8) (tgt := 26) hx hb h dX5_lay_8 (by decide) (fun h => ?_) (fun h => ?_)
  · refine lv_iload (pc := 26) hx hb dX5_lay_26 (lv_at hl 4 rfl) ?_
    refine lv_bipush (pc := 28) (v := 30) hx hb dX5_lay_28 (by decide) ?_
    refine b_icmp_gt (pc := 30) (tgt := 43) hx hb h dX5_lay_30 (by decide) (fun h => ?_) (fun h => ?_)
    · exact kX5_lay_43 X hs_X5_layPart  h hH (lv_sub hl [] rfl)
    · refine lv_aload_n (pc := 33) hx hb dX5_lay_33 rfl (lv_at hl 0 rfl) ?_
      refine gC_X5_45_10 (pc := 34) X hH dX5_lay_34 ?_
      refine lv_sipush (pc := 37) (v := 158) hx hb dX5_lay_37 (by decide) ?_
      refine b_icmp_lt (pc := 40) (tgt := 45) hx hb h dX5_lay_40 (by decide) (fun h => ?_) (fun h => ?_)
      · refine lv_aload_n (pc := 45) hx hb dX5_lay_45 rfl (lv_at hl 0 rfl) ?_
        refine gC_X5_45_10 (pc := 46) X hH dX5_lay_46 ?_
        refine r_nmi h (fun x6_3 h => ?_)
        refine lv_istore (pc := 49) (lv' := [(6, .int x6_3), (0, .ref (V.2.2 10)), (1, .int x1), (2, .int x2), (3, .long x3), (5, .int x5)]) hx hb dX5_lay_49 hl (by decide) rfl (fun ls hl => ?_)
        refine lv_aload_n (pc := 51) hx hb dX5_lay_51 rfl (lv_at hl 1 rfl) ?_
        refine lv_dup (pc := 52) hx hb dX5_lay_52 rfl ?_
        refine gC_X5_45_10 (pc := 53) X hH dX5_lay_53 ?_
        refine lv_iconst (pc := 56) (v := 1) hx hb dX5_lay_56 (by decide) ?_
        refine lv_iadd (pc := 57) hx hb dX5_lay_57 ?_
        refine pC_X5_45_10 (pc := 58) X hH h dX5_lay_58 (fun w4 H locs h hH => ?_)
        refine lv_aload_n (pc := 61) hx hb dX5_lay_61 rfl (lv_at hl 1 rfl) ?_
        refine gC_X5_11_10 (pc := 62) X hH dX5_lay_62 ?_
        refine lv_iload (pc := 65) hx hb dX5_lay_65 (lv_at hl 0 rfl) ?_
        refine lv_aload_n (pc := 67) hx hb dX5_lay_67 rfl (lv_at hl 1 rfl) ?_
        refine gC_X5_34_10 (pc := 68) X hH dX5_lay_68 ?_
        refine gC_X5_44_1 (pc := 71) X hH dX5_lay_71 ?_
        refine lv_iload_n (pc := 74) hx hb dX5_lay_74 rfl (lv_at hl 2 rfl) ?_
        refine r_ld (pc := 75) X (heC_14 V w4) hH h dX5_lay_75 (fun v5 h => ?_)
        refine r_st (pc := 76) X (heC_46 V w4) (hsC_46 V w4) hH h dX5_lay_76 (fun w6 H locs h hH => ?_)
        refine lv_aload_n (pc := 77) hx hb dX5_lay_77 rfl (lv_at hl 1 rfl) ?_
        refine gC_X5_27_10 (pc := 78) X hH dX5_lay_78 ?_
        refine lv_iload (pc := 81) hx hb dX5_lay_81 (lv_at hl 0 rfl) ?_
        refine lv_lload_n (pc := 83) hx hb dX5_lay_83 rfl (lv_at hl 4 rfl) ?_
        refine r_sl (pc := 84) X (heC_51 V w6) (hsC_51 V w6) hH h dX5_lay_84 (fun w7 H locs h hH => ?_)
        refine lv_aload_n (pc := 85) hx hb dX5_lay_85 rfl (lv_at hl 1 rfl) ?_
        refine gC_X5_31_10 (pc := 86) X hH dX5_lay_86 ?_
        refine lv_iload (pc := 89) hx hb dX5_lay_89 (lv_at hl 0 rfl) ?_
        refine lv_aload_n (pc := 91) hx hb dX5_lay_91 rfl (lv_at hl 1 rfl) ?_
        refine gC_X5_34_10 (pc := 92) X hH dX5_lay_92 ?_
        refine gC_X5_49_1 (pc := 95) X hH dX5_lay_95 ?_
        refine lv_iload_n (pc := 98) hx hb dX5_lay_98 rfl (lv_at hl 2 rfl) ?_
        refine r_ld (pc := 99) X (heC_19 V w7) hH h dX5_lay_99 (fun v8 h => ?_)
        refine lv_iload_n (pc := 100) hx hb dX5_lay_100 rfl (lv_at hl 3 rfl) ?_
        refine lv_ishl (pc := 101) hx hb dX5_lay_101 ?_
        refine r_st (pc := 102) X (heC_52 V w7) (hsC_52 V w7) hH h dX5_lay_102 (fun w9 H locs h hH => ?_)
        refine lv_aload_n (pc := 103) hx hb dX5_lay_103 rfl (lv_at hl 1 rfl) ?_
        refine gC_X5_15_10 (pc := 104) X hH dX5_lay_104 ?_
        refine lv_iload (pc := 107) hx hb dX5_lay_107 (lv_at hl 0 rfl) ?_
        refine lv_aload_n (pc := 109) hx hb dX5_lay_109 rfl (lv_at hl 1 rfl) ?_
        refine lv_iload (pc := 110) hx hb dX5_lay_110 (lv_at hl 0 rfl) ?_
        refine lv_aload_n (pc := 112) hx hb dX5_lay_112 rfl (lv_at hl 1 rfl) ?_
        refine gC_X5_34_10 (pc := 113) X hH dX5_lay_113 ?_
        refine gC_X5_50_1 (pc := 116) X hH dX5_lay_116 ?_
        refine lv_iload_n (pc := 119) hx hb dX5_lay_119 rfl (lv_at hl 2 rfl) ?_
        refine r_ld (pc := 120) X (heC_15 V w9) hH h dX5_lay_120 (fun v10 h => ?_)
        refine lv_iconst (pc := 121) (v := 0) hx hb dX5_lay_121 (by decide) ?_
        refine lv_iload_n (pc := 122) hx hb dX5_lay_122 rfl (lv_at hl 3 rfl) ?_
        refine lv_iload (pc := 123) hx hb dX5_lay_123 (lv_at hl 5 rfl) ?_
        refine r_cvI (pc := 125) (As := [.int x6_3, .int v10, .int 0, .int x2, .int x5]) (rest := [.int x6_3, .ref (V.2.2 47)]) X hH (fun x hx => hs_X5_layPart _ _ _ _ _ _ _ hx) cw_X5_51 (heC_10 V w9) rfl rfl rfl (Nat.le_of_ble_eq_true rfl) hl.1 h dX5_lay_125 (fun w11 v12 H locs h hH => ?_)
        refine r_st (pc := 128) X (heC_47 V w11) (hsC_47 V w11) hH h dX5_lay_128 (fun w13 H locs h hH => ?_)
        refine lv_aload_n (pc := 129) hx hb dX5_lay_129 rfl (lv_at hl 1 rfl) ?_
        refine gC_X5_18_10 (pc := 130) X hH dX5_lay_130 ?_
        refine lv_iload (pc := 133) hx hb dX5_lay_133 (lv_at hl 0 rfl) ?_
        refine lv_aload_n (pc := 135) hx hb dX5_lay_135 rfl (lv_at hl 1 rfl) ?_
        refine lv_iload (pc := 136) hx hb dX5_lay_136 (lv_at hl 0 rfl) ?_
        refine lv_aload_n (pc := 138) hx hb dX5_lay_138 rfl (lv_at hl 1 rfl) ?_
        refine gC_X5_34_10 (pc := 139) X hH dX5_lay_139 ?_
        refine gC_X5_55_1 (pc := 142) X hH dX5_lay_142 ?_
        refine lv_iload_n (pc := 145) hx hb dX5_lay_145 rfl (lv_at hl 2 rfl) ?_
        refine r_ld (pc := 146) X (heC_16 V w13) hH h dX5_lay_146 (fun v14 h => ?_)
        refine lv_iconst (pc := 147) (v := 1) hx hb dX5_lay_147 (by decide) ?_
        refine lv_iload_n (pc := 148) hx hb dX5_lay_148 rfl (lv_at hl 3 rfl) ?_
        refine lv_iload (pc := 149) hx hb dX5_lay_149 (lv_at hl 5 rfl) ?_
        refine r_cvI (pc := 151) (As := [.int x6_3, .int v14, .int 1, .int x2, .int x5]) (rest := [.int x6_3, .ref (V.2.2 48)]) X hH (fun x hx => hs_X5_layPart _ _ _ _ _ _ _ hx) cw_X5_51 (heC_10 V w13) rfl rfl rfl (Nat.le_of_ble_eq_true rfl) hl.1 h dX5_lay_151 (fun w15 v16 H locs h hH => ?_)
        refine r_st (pc := 154) X (heC_48 V w15) (hsC_48 V w15) hH h dX5_lay_154 (fun w17 H locs h hH => ?_)
        refine lv_iload (pc := 155) hx hb dX5_lay_155 (lv_at hl 0 rfl) ?_
        exact r_iret (pc := 157) X hH h dX5_lay_157
      · exact kX5_lay_43 X hs_X5_layPart  h hH (lv_sub hl [] rfl)
  · refine lv_aload_n (pc := 11) hx hb dX5_lay_11 rfl (lv_at hl 0 rfl) ?_
    refine gC_X5_34_10 (pc := 12) X hH dX5_lay_12 ?_
    refine gC_X5_44_1 (pc := 15) X hH dX5_lay_15 ?_
    refine lv_iload_n (pc := 18) hx hb dX5_lay_18 rfl (lv_at hl 1 rfl) ?_
    refine r_ld (pc := 19) X (heC_14 V w1) hH h dX5_lay_19 (fun v18 h => ?_)
    refine lv_bipush (pc := 20) (v := 10) hx hb dX5_lay_20 (by decide) ?_
    refine lv_isub (pc := 22) hx hb dX5_lay_22 ?_
    refine lv_iload_n (pc := 23) hx hb dX5_lay_23 rfl (lv_at hl 2 rfl) ?_
    refine lv_iadd (pc := 24) hx hb dX5_lay_24 ?_
    exact r_iret (pc := 25) X hH h dX5_lay_25
def eX5_layPart_X5_lay (N : Nat) : Nat → (Wd → Int32 → Int32 → Int32 → Int32 → Int32 → Option (Wd × Int32)) × (Wd → Int32 → Int32 → Int64 → Int32 → Option (Wd × Int32))
  | 0 => (fun _ _ _ _ _ _ => none, fun _ _ _ _ _ => none)
  | d + 1 => (fun w x1 x2 x3 x4 x5 => bX5_layPart_0 N d (eX5_layPart_X5_lay N d).2 w x1 x2 x3 x4 x5, fun w x1 x2 x3 x5 => bX5_lay_0 N d (eX5_layPart_X5_lay N d).1 w x1 x2 x3 x5)
def eX5_layPart (N d : Nat) : Wd → Int32 → Int32 → Int32 → Int32 → Int32 → Option (Wd × Int32) := (eX5_layPart_X5_lay N d).1
def eX5_lay (N d : Nat) : Wd → Int32 → Int32 → Int64 → Int32 → Option (Wd × Int32) := (eX5_layPart_X5_lay N d).2
theorem mX5_layPart_X5_lay {l : Launch} {V : Ev} {N : Nat} (d : Nat) : (∀ (w : Wd) (x1 : Int32) (x2 : Int32) (x3 : Int32) (x4 : Int32) (x5 : Int32) (z : Wd × Int32), (eX5_layPart_X5_lay N d).1 w x1 x2 x3 x4 x5 = some z → MetI l V (cC V) (AC V) yX5_layPart cX5_layPart 7 (some .int) d [.ref (V.2.2 10), .int x1, .int x2, .int x3, .int x4, .int x5] w z) ∧ (∀ (w : Wd) (x1 : Int32) (x2 : Int32) (x3 : Int64) (x5 : Int32) (z : Wd × Int32), (eX5_layPart_X5_lay N d).2 w x1 x2 x3 x5 = some z → MetI l V (cC V) (AC V) yX5_lay cX5_lay 7 (some .int) d [.ref (V.2.2 10), .int x1, .int x2, .long x3, .int x5] w z) := by
  induction d with
  | zero => exact ⟨fun _ _ _ _ _ _ _ h => c_none h, fun _ _ _ _ _ _ h => c_none h⟩
  | succ d ih =>
    refine ⟨?_, ?_⟩
    · intro w x1 x2 x3 x4 x5 z h
      refine Met.ofW (cc := cX5_layPart) (maxL := 7) (ret := (some .int)) (by decide) rfl ?_
      intro p e s m args below meth c s₁ B hml hv
      obtain ⟨rfl, hP, hD, hK⟩ := hv
      have hts := atoms_spec (ws := .code yX5_layPart cX5_layPart 7 (some .int) :: gG) B.pre
      have X : CX V p s m ([.ref (V.2.2 10), .int x1, .int x2, .int x3, .int x4, .int x5] : List Value).toArray meth c cX5_layPart 7 RX5 (some .int) := ⟨B.exec, B.bytes, hml, findClass_of_methodNamed B.named, fun w hw => hts w (List.mem_cons_of_mem _ hw), B.returns, B.notSynchronized, hK⟩
      have hl := lv_entry ([.ref (V.2.2 10), .int x1, .int x2, .int x3, .int x4, .int x5] : List Value) (n := 7) (Nat.le_of_ble_eq_true rfl)
      rw [lg_entry_eq]
      generalize (lg_sl ([.ref (V.2.2 10), .int x1, .int x2, .int x3, .int x4, .int x5] : List Value) ++ List.replicate (7 - (lg_sl ([.ref (V.2.2 10), .int x1, .int x2, .int x3, .int x4, .int x5] : List Value)).length) Slot.unset).toArray = ls at hl ⊢
      have hl : lv_has ls 7 [(0, .ref (V.2.2 10)), (1, .int x1), (2, .int x2), (3, .int x3), (4, .int x4), (5, .int x5)] := hl
      exact kX5_layPart_0 (N := N) X ih.2 h ⟨hP, hD, va_S.rf⟩ hl
    · intro w x1 x2 x3 x5 z h
      refine Met.ofW (cc := cX5_lay) (maxL := 7) (ret := (some .int)) (by decide) rfl ?_
      intro p e s m args below meth c s₁ B hml hv
      obtain ⟨rfl, hP, hD, hK⟩ := hv
      have hts := atoms_spec (ws := .code yX5_lay cX5_lay 7 (some .int) :: gG) B.pre
      have X : CX V p s m ([.ref (V.2.2 10), .int x1, .int x2, .long x3, .int x5] : List Value).toArray meth c cX5_lay 7 RX5 (some .int) := ⟨B.exec, B.bytes, hml, findClass_of_methodNamed B.named, fun w hw => hts w (List.mem_cons_of_mem _ hw), B.returns, B.notSynchronized, hK⟩
      have hl := lv_entry ([.ref (V.2.2 10), .int x1, .int x2, .long x3, .int x5] : List Value) (n := 7) (Nat.le_of_ble_eq_true rfl)
      rw [lg_entry_eq]
      generalize (lg_sl ([.ref (V.2.2 10), .int x1, .int x2, .long x3, .int x5] : List Value) ++ List.replicate (7 - (lg_sl ([.ref (V.2.2 10), .int x1, .int x2, .long x3, .int x5] : List Value)).length) Slot.unset).toArray = ls at hl ⊢
      have hl : lv_has ls 7 [(0, .ref (V.2.2 10)), (1, .int x1), (2, .int x2), (3, .long x3), (5, .int x5)] := hl
      exact kX5_lay_0 (N := N) X ih.1 h ⟨hP, hD, va_S.rf⟩ hl
theorem mX5_layPart {l : Launch} {V : Ev} {N d : Nat} {w : Wd} {x1 : Int32} {x2 : Int32} {x3 : Int32} {x4 : Int32} {x5 : Int32} {z : Wd × Int32} (h : eX5_layPart N d w x1 x2 x3 x4 x5 = some z) : MetI l V (cC V) (AC V) yX5_layPart cX5_layPart 7 (some .int) d [.ref (V.2.2 10), .int x1, .int x2, .int x3, .int x4, .int x5] w z := (mX5_layPart_X5_lay d).1 w x1 x2 x3 x4 x5 z h
theorem mX5_lay {l : Launch} {V : Ev} {N d : Nat} {w : Wd} {x1 : Int32} {x2 : Int32} {x3 : Int64} {x5 : Int32} {z : Wd × Int32} (h : eX5_lay N d w x1 x2 x3 x5 = some z) : MetI l V (cC V) (AC V) yX5_lay cX5_lay 7 (some .int) d [.ref (V.2.2 10), .int x1, .int x2, .long x3, .int x5] w z := (mX5_layPart_X5_lay d).2 w x1 x2 x3 x5 z h
theorem dX1_layFirst_0 : decode cX1_layFirst 0 = .ok (.aload_n 0, 1) := by decide +kernel
theorem dX1_layFirst_1 : decode cX1_layFirst 1 = .ok (.getfield 45, 3) := by decide +kernel
theorem dX1_layFirst_4 : decode cX1_layFirst 4 = .ok (.bipush 8, 2) := by decide +kernel
theorem dX1_layFirst_6 : decode cX1_layFirst 6 = .ok (.putfield 82, 3) := by decide +kernel
theorem dX1_layFirst_9 : decode cX1_layFirst 9 = .ok (.aload_n 0, 1) := by decide +kernel
theorem dX1_layFirst_10 : decode cX1_layFirst 10 = .ok (.getfield 45, 3) := by decide +kernel
theorem dX1_layFirst_13 : decode cX1_layFirst 13 = .ok (.aload_n 0, 1) := by decide +kernel
theorem dX1_layFirst_14 : decode cX1_layFirst 14 = .ok (.getfield 41, 3) := by decide +kernel
theorem dX1_layFirst_17 : decode cX1_layFirst 17 = .ok (.getfield 92, 3) := by decide +kernel
theorem dX1_layFirst_20 : decode cX1_layFirst 20 = .ok (.iload_n 1, 1) := by decide +kernel
theorem dX1_layFirst_21 : decode cX1_layFirst 21 = .ok (.iaload, 1) := by decide +kernel
theorem dX1_layFirst_22 : decode cX1_layFirst 22 = .ok (.iconst 0, 1) := by decide +kernel
theorem dX1_layFirst_23 : decode cX1_layFirst 23 = .ok (.lconst 1, 1) := by decide +kernel
theorem dX1_layFirst_24 : decode cX1_layFirst 24 = .ok (.iconst 1, 1) := by decide +kernel
theorem dX1_layFirst_25 : decode cX1_layFirst 25 = .ok (.invokevirtual 95, 3) := by decide +kernel
theorem dX1_layFirst_28 : decode cX1_layFirst 28 = .ok (.pop, 1) := by decide +kernel
theorem dX1_layFirst_29 : decode cX1_layFirst 29 = .ok (.aload_n 0, 1) := by decide +kernel
theorem dX1_layFirst_30 : decode cX1_layFirst 30 = .ok (.aload_n 0, 1) := by decide +kernel
theorem dX1_layFirst_31 : decode cX1_layFirst 31 = .ok (.getfield 45, 3) := by decide +kernel
theorem dX1_layFirst_34 : decode cX1_layFirst 34 = .ok (.getfield 82, 3) := by decide +kernel
theorem dX1_layFirst_37 : decode cX1_layFirst 37 = .ok (.putfield 99, 3) := by decide +kernel
theorem dX1_layFirst_40 : decode cX1_layFirst 40 = .ok (.aload_n 0, 1) := by decide +kernel
theorem dX1_layFirst_41 : decode cX1_layFirst 41 = .ok (.aload_n 0, 1) := by decide +kernel
theorem dX1_layFirst_42 : decode cX1_layFirst 42 = .ok (.getfield 45, 3) := by decide +kernel
theorem dX1_layFirst_45 : decode cX1_layFirst 45 = .ok (.aload_n 0, 1) := by decide +kernel
theorem dX1_layFirst_46 : decode cX1_layFirst 46 = .ok (.getfield 41, 3) := by decide +kernel
theorem dX1_layFirst_49 : decode cX1_layFirst 49 = .ok (.getfield 102, 3) := by decide +kernel
theorem dX1_layFirst_52 : decode cX1_layFirst 52 = .ok (.iload_n 1, 1) := by decide +kernel
theorem dX1_layFirst_53 : decode cX1_layFirst 53 = .ok (.iaload, 1) := by decide +kernel
theorem dX1_layFirst_54 : decode cX1_layFirst 54 = .ok (.iconst 0, 1) := by decide +kernel
theorem dX1_layFirst_55 : decode cX1_layFirst 55 = .ok (.lconst 1, 1) := by decide +kernel
theorem dX1_layFirst_56 : decode cX1_layFirst 56 = .ok (.iconst 1, 1) := by decide +kernel
theorem dX1_layFirst_57 : decode cX1_layFirst 57 = .ok (.invokevirtual 95, 3) := by decide +kernel
theorem dX1_layFirst_60 : decode cX1_layFirst 60 = .ok (.putfield 105, 3) := by decide +kernel
theorem dX1_layFirst_63 : decode cX1_layFirst 63 = .ok (.return_, 1) := by decide +kernel
def bX1_layFirst_0 (N d : Nat)   (w : Wd) (x1 : Int32) : Option (Wd) :=
  c_pi w 19 8 fun w1 =>
  c_ld w1 23 16 x1 fun v2 =>
  c_cl (eX5_lay N d w1 v2 0 1 1) fun w3 v4 =>
  c_pi w3 6 (sI w3 19) fun w5 =>
  c_ld w5 24 16 x1 fun v6 =>
  c_cl (eX5_lay N d w5 v6 0 1 1) fun w7 v8 =>
  c_pi w7 7 v8 fun w9 =>
  some w9
set_option maxHeartbeats 4000000 in
theorem kX1_layFirst_0 {V : Ev} {p : Program} {l : Launch} {e : Env} {N d : Nat} {s : State} {m : MethodId} {args : Array Value} {below : List Frame} {meth : Method} {c : Code} {z : Wd} (X : CX V p s m args meth c cX1_layFirst 2 RX1 none)    {w : Wd} {x1 : Int32} {H : Heap} {locs : List Loc} {ls : Array Slot} (h : bX1_layFirst_0 N d   w x1 = some z) (hH : wH V (cC V) (AC V) s w H locs) (hl : lv_has ls 2 [(0, .ref (V.2.2 5)), (1, .int x1)]) : W p l e (rmD (d + 1)) s m args below meth c H locs 0 0 (MQ below (CtV V (cC V) (AC V) z) args s 0 0 (AC V)) (F0 m 0 ls []) := by
  unfold bX1_layFirst_0 at h
  obtain ⟨hx, hb, hml, hown, hg, hrt, hlk, hK⟩ := id X
  refine lv_aload_n (pc := 0) hx hb dX1_layFirst_0 rfl (lv_at hl 0 rfl) ?_
  refine gC_X1_45_5 (pc := 1) X hH dX1_layFirst_1 ?_
  refine lv_bipush (pc := 4) (v := 8) hx hb dX1_layFirst_4 (by decide) ?_
  refine pC_X1_82_10 (pc := 6) X hH h dX1_layFirst_6 (fun w1 H locs h hH => ?_)
  refine lv_aload_n (pc := 9) hx hb dX1_layFirst_9 rfl (lv_at hl 0 rfl) ?_
  refine gC_X1_45_5 (pc := 10) X hH dX1_layFirst_10 ?_
  refine lv_aload_n (pc := 13) hx hb dX1_layFirst_13 rfl (lv_at hl 0 rfl) ?_
  refine gC_X1_41_5 (pc := 14) X hH dX1_layFirst_14 ?_
  refine gC_X1_92_2 (pc := 17) X hH dX1_layFirst_17 ?_
  refine lv_iload_n (pc := 20) hx hb dX1_layFirst_20 rfl (lv_at hl 1 rfl) ?_
  refine r_ld (pc := 21) X (heC_23 V w1) hH h dX1_layFirst_21 (fun v2 h => ?_)
  refine lv_iconst (pc := 22) (v := 0) hx hb dX1_layFirst_22 (by decide) ?_
  refine lv_lconst (pc := 23) (v := 1) hx hb dX1_layFirst_23 (by decide) ?_
  refine lv_iconst (pc := 24) (v := 1) hx hb dX1_layFirst_24 (by decide) ?_
  refine r_cvI (pc := 25) (As := [.int v2, .int 0, .long 1, .int 1]) (rest := []) X hH (fun x hx => mX5_lay hx) cw_X1_95 (heC_10 V w1) rfl rfl rfl (Nat.le_of_ble_eq_true rfl) hl.1 h dX1_layFirst_25 (fun w3 v4 H locs h hH => ?_)
  refine lv_pop (pc := 28) hx hb dX1_layFirst_28 rfl ?_
  refine lv_aload_n (pc := 29) hx hb dX1_layFirst_29 rfl (lv_at hl 0 rfl) ?_
  refine lv_aload_n (pc := 30) hx hb dX1_layFirst_30 rfl (lv_at hl 0 rfl) ?_
  refine gC_X1_45_5 (pc := 31) X hH dX1_layFirst_31 ?_
  refine gC_X1_82_10 (pc := 34) X hH dX1_layFirst_34 ?_
  refine pC_X1_99_5 (pc := 37) X hH h dX1_layFirst_37 (fun w5 H locs h hH => ?_)
  refine lv_aload_n (pc := 40) hx hb dX1_layFirst_40 rfl (lv_at hl 0 rfl) ?_
  refine lv_aload_n (pc := 41) hx hb dX1_layFirst_41 rfl (lv_at hl 0 rfl) ?_
  refine gC_X1_45_5 (pc := 42) X hH dX1_layFirst_42 ?_
  refine lv_aload_n (pc := 45) hx hb dX1_layFirst_45 rfl (lv_at hl 0 rfl) ?_
  refine gC_X1_41_5 (pc := 46) X hH dX1_layFirst_46 ?_
  refine gC_X1_102_2 (pc := 49) X hH dX1_layFirst_49 ?_
  refine lv_iload_n (pc := 52) hx hb dX1_layFirst_52 rfl (lv_at hl 1 rfl) ?_
  refine r_ld (pc := 53) X (heC_24 V w5) hH h dX1_layFirst_53 (fun v6 h => ?_)
  refine lv_iconst (pc := 54) (v := 0) hx hb dX1_layFirst_54 (by decide) ?_
  refine lv_lconst (pc := 55) (v := 1) hx hb dX1_layFirst_55 (by decide) ?_
  refine lv_iconst (pc := 56) (v := 1) hx hb dX1_layFirst_56 (by decide) ?_
  refine r_cvI (pc := 57) (As := [.int v6, .int 0, .long 1, .int 1]) (rest := [.ref (V.2.2 5)]) X hH (fun x hx => mX5_lay hx) cw_X1_95 (heC_10 V w5) rfl rfl rfl (Nat.le_of_ble_eq_true rfl) hl.1 h dX1_layFirst_57 (fun w7 v8 H locs h hH => ?_)
  refine pC_X1_105_5 (pc := 60) X hH h dX1_layFirst_60 (fun w9 H locs h hH => ?_)
  exact r_vret (pc := 63) X hH h dX1_layFirst_63
def eX1_layFirst (N : Nat) : Nat → Wd → Int32 → Option (Wd)
  | 0 => fun _ _ => none
  | d + 1 => fun w x1 => bX1_layFirst_0 N d  w x1
set_option maxHeartbeats 4000000 in
set_option maxRecDepth 20000 in
theorem mX1_layFirst {l : Launch} {V : Ev} {N d : Nat} {w : Wd} {x1 : Int32} {z : Wd} (h : eX1_layFirst N d w x1 = some z) : MetV l V (cC V) (AC V) yX1_layFirst cX1_layFirst 2 none d [.ref (V.2.2 5), .int x1] w z := by
  cases d with
  | zero => exact c_none h
  | succ d =>
    refine Met.ofW (cc := cX1_layFirst) (maxL := 2) (ret := none) (by decide) rfl ?_
    intro p e s m args below meth c s₁ B hml hv
    obtain ⟨rfl, hP, hD, hK⟩ := hv
    have hts := atoms_spec (ws := .code yX1_layFirst cX1_layFirst 2 none :: gG) B.pre
    have X : CX V p s m ([.ref (V.2.2 5), .int x1] : List Value).toArray meth c cX1_layFirst 2 RX1 none := ⟨B.exec, B.bytes, hml, findClass_of_methodNamed B.named, fun w hw => hts w (List.mem_cons_of_mem _ hw), B.returns, B.notSynchronized, hK⟩
    have hl := lv_entry ([.ref (V.2.2 5), .int x1] : List Value) (n := 2) (Nat.le_of_ble_eq_true rfl)
    rw [lg_entry_eq]
    generalize (lg_sl ([.ref (V.2.2 5), .int x1] : List Value) ++ List.replicate (2 - (lg_sl ([.ref (V.2.2 5), .int x1] : List Value)).length) Slot.unset).toArray = ls at hl ⊢
    have hl : lv_has ls 2 [(0, .ref (V.2.2 5)), (1, .int x1)] := hl
    exact kX1_layFirst_0 (N := N) X  h ⟨hP, hD, va_S.rf⟩ hl
theorem dX1_laySecond_0 : decode cX1_laySecond 0 = .ok (.aload_n 0, 1) := by decide +kernel
theorem dX1_laySecond_1 : decode cX1_laySecond 1 = .ok (.aload_n 0, 1) := by decide +kernel
theorem dX1_laySecond_2 : decode cX1_laySecond 2 = .ok (.getfield 45, 3) := by decide +kernel
theorem dX1_laySecond_5 : decode cX1_laySecond 5 = .ok (.aload_n 0, 1) := by decide +kernel
theorem dX1_laySecond_6 : decode cX1_laySecond 6 = .ok (.getfield 41, 3) := by decide +kernel
theorem dX1_laySecond_9 : decode cX1_laySecond 9 = .ok (.getfield 92, 3) := by decide +kernel
theorem dX1_laySecond_12 : decode cX1_laySecond 12 = .ok (.iload_n 1, 1) := by decide +kernel
theorem dX1_laySecond_13 : decode cX1_laySecond 13 = .ok (.iaload, 1) := by decide +kernel
theorem dX1_laySecond_14 : decode cX1_laySecond 14 = .ok (.iconst 4, 1) := by decide +kernel
theorem dX1_laySecond_15 : decode cX1_laySecond 15 = .ok (.lconst 1, 1) := by decide +kernel
theorem dX1_laySecond_16 : decode cX1_laySecond 16 = .ok (.iconst 1, 1) := by decide +kernel
theorem dX1_laySecond_17 : decode cX1_laySecond 17 = .ok (.invokevirtual 95, 3) := by decide +kernel
theorem dX1_laySecond_20 : decode cX1_laySecond 20 = .ok (.putfield 108, 3) := by decide +kernel
theorem dX1_laySecond_23 : decode cX1_laySecond 23 = .ok (.aload_n 0, 1) := by decide +kernel
theorem dX1_laySecond_24 : decode cX1_laySecond 24 = .ok (.aload_n 0, 1) := by decide +kernel
theorem dX1_laySecond_25 : decode cX1_laySecond 25 = .ok (.getfield 45, 3) := by decide +kernel
theorem dX1_laySecond_28 : decode cX1_laySecond 28 = .ok (.aload_n 0, 1) := by decide +kernel
theorem dX1_laySecond_29 : decode cX1_laySecond 29 = .ok (.getfield 41, 3) := by decide +kernel
theorem dX1_laySecond_32 : decode cX1_laySecond 32 = .ok (.getfield 102, 3) := by decide +kernel
theorem dX1_laySecond_35 : decode cX1_laySecond 35 = .ok (.iload_n 1, 1) := by decide +kernel
theorem dX1_laySecond_36 : decode cX1_laySecond 36 = .ok (.iaload, 1) := by decide +kernel
theorem dX1_laySecond_37 : decode cX1_laySecond 37 = .ok (.iconst 4, 1) := by decide +kernel
theorem dX1_laySecond_38 : decode cX1_laySecond 38 = .ok (.lconst 1, 1) := by decide +kernel
theorem dX1_laySecond_39 : decode cX1_laySecond 39 = .ok (.iconst 1, 1) := by decide +kernel
theorem dX1_laySecond_40 : decode cX1_laySecond 40 = .ok (.invokevirtual 95, 3) := by decide +kernel
theorem dX1_laySecond_43 : decode cX1_laySecond 43 = .ok (.putfield 111, 3) := by decide +kernel
theorem dX1_laySecond_46 : decode cX1_laySecond 46 = .ok (.return_, 1) := by decide +kernel
def bX1_laySecond_0 (N d : Nat)   (w : Wd) (x1 : Int32) : Option (Wd) :=
  c_ld w 23 16 x1 fun v1 =>
  c_cl (eX5_lay N d w v1 4 1 1) fun w2 v3 =>
  c_pi w2 8 v3 fun w4 =>
  c_ld w4 24 16 x1 fun v5 =>
  c_cl (eX5_lay N d w4 v5 4 1 1) fun w6 v7 =>
  c_pi w6 9 v7 fun w8 =>
  some w8
set_option maxHeartbeats 4000000 in
theorem kX1_laySecond_0 {V : Ev} {p : Program} {l : Launch} {e : Env} {N d : Nat} {s : State} {m : MethodId} {args : Array Value} {below : List Frame} {meth : Method} {c : Code} {z : Wd} (X : CX V p s m args meth c cX1_laySecond 2 RX1 none)    {w : Wd} {x1 : Int32} {H : Heap} {locs : List Loc} {ls : Array Slot} (h : bX1_laySecond_0 N d   w x1 = some z) (hH : wH V (cC V) (AC V) s w H locs) (hl : lv_has ls 2 [(0, .ref (V.2.2 5)), (1, .int x1)]) : W p l e (rmD (d + 1)) s m args below meth c H locs 0 0 (MQ below (CtV V (cC V) (AC V) z) args s 0 0 (AC V)) (F0 m 0 ls []) := by
  unfold bX1_laySecond_0 at h
  obtain ⟨hx, hb, hml, hown, hg, hrt, hlk, hK⟩ := id X
  refine lv_aload_n (pc := 0) hx hb dX1_laySecond_0 rfl (lv_at hl 0 rfl) ?_
  refine lv_aload_n (pc := 1) hx hb dX1_laySecond_1 rfl (lv_at hl 0 rfl) ?_
  refine gC_X1_45_5 (pc := 2) X hH dX1_laySecond_2 ?_
  refine lv_aload_n (pc := 5) hx hb dX1_laySecond_5 rfl (lv_at hl 0 rfl) ?_
  refine gC_X1_41_5 (pc := 6) X hH dX1_laySecond_6 ?_
  refine gC_X1_92_2 (pc := 9) X hH dX1_laySecond_9 ?_
  refine lv_iload_n (pc := 12) hx hb dX1_laySecond_12 rfl (lv_at hl 1 rfl) ?_
  refine r_ld (pc := 13) X (heC_23 V w) hH h dX1_laySecond_13 (fun v1 h => ?_)
  refine lv_iconst (pc := 14) (v := 4) hx hb dX1_laySecond_14 (by decide) ?_
  refine lv_lconst (pc := 15) (v := 1) hx hb dX1_laySecond_15 (by decide) ?_
  refine lv_iconst (pc := 16) (v := 1) hx hb dX1_laySecond_16 (by decide) ?_
  refine r_cvI (pc := 17) (As := [.int v1, .int 4, .long 1, .int 1]) (rest := [.ref (V.2.2 5)]) X hH (fun x hx => mX5_lay hx) cw_X1_95 (heC_10 V w) rfl rfl rfl (Nat.le_of_ble_eq_true rfl) hl.1 h dX1_laySecond_17 (fun w2 v3 H locs h hH => ?_)
  refine pC_X1_108_5 (pc := 20) X hH h dX1_laySecond_20 (fun w4 H locs h hH => ?_)
  refine lv_aload_n (pc := 23) hx hb dX1_laySecond_23 rfl (lv_at hl 0 rfl) ?_
  refine lv_aload_n (pc := 24) hx hb dX1_laySecond_24 rfl (lv_at hl 0 rfl) ?_
  refine gC_X1_45_5 (pc := 25) X hH dX1_laySecond_25 ?_
  refine lv_aload_n (pc := 28) hx hb dX1_laySecond_28 rfl (lv_at hl 0 rfl) ?_
  refine gC_X1_41_5 (pc := 29) X hH dX1_laySecond_29 ?_
  refine gC_X1_102_2 (pc := 32) X hH dX1_laySecond_32 ?_
  refine lv_iload_n (pc := 35) hx hb dX1_laySecond_35 rfl (lv_at hl 1 rfl) ?_
  refine r_ld (pc := 36) X (heC_24 V w4) hH h dX1_laySecond_36 (fun v5 h => ?_)
  refine lv_iconst (pc := 37) (v := 4) hx hb dX1_laySecond_37 (by decide) ?_
  refine lv_lconst (pc := 38) (v := 1) hx hb dX1_laySecond_38 (by decide) ?_
  refine lv_iconst (pc := 39) (v := 1) hx hb dX1_laySecond_39 (by decide) ?_
  refine r_cvI (pc := 40) (As := [.int v5, .int 4, .long 1, .int 1]) (rest := [.ref (V.2.2 5)]) X hH (fun x hx => mX5_lay hx) cw_X1_95 (heC_10 V w4) rfl rfl rfl (Nat.le_of_ble_eq_true rfl) hl.1 h dX1_laySecond_40 (fun w6 v7 H locs h hH => ?_)
  refine pC_X1_111_5 (pc := 43) X hH h dX1_laySecond_43 (fun w8 H locs h hH => ?_)
  exact r_vret (pc := 46) X hH h dX1_laySecond_46
def eX1_laySecond (N : Nat) : Nat → Wd → Int32 → Option (Wd)
  | 0 => fun _ _ => none
  | d + 1 => fun w x1 => bX1_laySecond_0 N d  w x1
set_option maxHeartbeats 4000000 in
set_option maxRecDepth 20000 in
theorem mX1_laySecond {l : Launch} {V : Ev} {N d : Nat} {w : Wd} {x1 : Int32} {z : Wd} (h : eX1_laySecond N d w x1 = some z) : MetV l V (cC V) (AC V) yX1_laySecond cX1_laySecond 2 none d [.ref (V.2.2 5), .int x1] w z := by
  cases d with
  | zero => exact c_none h
  | succ d =>
    refine Met.ofW (cc := cX1_laySecond) (maxL := 2) (ret := none) (by decide) rfl ?_
    intro p e s m args below meth c s₁ B hml hv
    obtain ⟨rfl, hP, hD, hK⟩ := hv
    have hts := atoms_spec (ws := .code yX1_laySecond cX1_laySecond 2 none :: gG) B.pre
    have X : CX V p s m ([.ref (V.2.2 5), .int x1] : List Value).toArray meth c cX1_laySecond 2 RX1 none := ⟨B.exec, B.bytes, hml, findClass_of_methodNamed B.named, fun w hw => hts w (List.mem_cons_of_mem _ hw), B.returns, B.notSynchronized, hK⟩
    have hl := lv_entry ([.ref (V.2.2 5), .int x1] : List Value) (n := 2) (Nat.le_of_ble_eq_true rfl)
    rw [lg_entry_eq]
    generalize (lg_sl ([.ref (V.2.2 5), .int x1] : List Value) ++ List.replicate (2 - (lg_sl ([.ref (V.2.2 5), .int x1] : List Value)).length) Slot.unset).toArray = ls at hl ⊢
    have hl : lv_has ls 2 [(0, .ref (V.2.2 5)), (1, .int x1)] := hl
    exact kX1_laySecond_0 (N := N) X  h ⟨hP, hD, va_S.rf⟩ hl
theorem dX9_await_0 : decode cX9_await 0 = .ok (.iload_n 1, 1) := by decide +kernel
theorem dX9_await_1 : decode cX9_await 1 = .ok (.iconst (-1), 1) := by decide +kernel
theorem dX9_await_2 : decode cX9_await 2 = .ok (.if_icmp .eq 48, 3) := by decide +kernel
theorem dX9_await_5 : decode cX9_await 5 = .ok (.iload_n 2, 1) := by decide +kernel
theorem dX9_await_6 : decode cX9_await 6 = .ok (.iconst (-1), 1) := by decide +kernel
theorem dX9_await_7 : decode cX9_await 7 = .ok (.if_icmp .eq 43, 3) := by decide +kernel
theorem dX9_await_10 : decode cX9_await 10 = .ok (.aload_n 0, 1) := by decide +kernel
theorem dX9_await_11 : decode cX9_await 11 = .ok (.getfield 40, 3) := by decide +kernel
theorem dX9_await_14 : decode cX9_await 14 = .ok (.sipush 158, 3) := by decide +kernel
theorem dX9_await_17 : decode cX9_await 17 = .ok (.if_icmp .ge 33, 3) := by decide +kernel
theorem dX9_await_20 : decode cX9_await 20 = .ok (.aload_n 0, 1) := by decide +kernel
theorem dX9_await_21 : decode cX9_await 21 = .ok (.getfield 23, 3) := by decide +kernel
theorem dX9_await_24 : decode cX9_await 24 = .ok (.aload_n 0, 1) := by decide +kernel
theorem dX9_await_25 : decode cX9_await 25 = .ok (.getfield 40, 3) := by decide +kernel
theorem dX9_await_28 : decode cX9_await 28 = .ok (.iload_n 1, 1) := by decide +kernel
theorem dX9_await_29 : decode cX9_await 29 = .ok (.iastore, 1) := by decide +kernel
theorem dX9_await_30 : decode cX9_await 30 = .ok (.aload_n 0, 1) := by decide +kernel
theorem dX9_await_31 : decode cX9_await 31 = .ok (.getfield 26, 3) := by decide +kernel
theorem dX9_await_34 : decode cX9_await 34 = .ok (.aload_n 0, 1) := by decide +kernel
theorem dX9_await_35 : decode cX9_await 35 = .ok (.getfield 40, 3) := by decide +kernel
theorem dX9_await_38 : decode cX9_await 38 = .ok (.iload_n 2, 1) := by decide +kernel
theorem dX9_await_39 : decode cX9_await 39 = .ok (.iastore, 1) := by decide +kernel
theorem dX9_await_40 : decode cX9_await 40 = .ok (.aload_n 0, 1) := by decide +kernel
theorem dX9_await_41 : decode cX9_await 41 = .ok (.dup, 1) := by decide +kernel
theorem dX9_await_42 : decode cX9_await 42 = .ok (.getfield 40, 3) := by decide +kernel
theorem dX9_await_45 : decode cX9_await 45 = .ok (.iconst 1, 1) := by decide +kernel
theorem dX9_await_46 : decode cX9_await 46 = .ok (.iadd, 1) := by decide +kernel
theorem dX9_await_47 : decode cX9_await 47 = .ok (.putfield 40, 3) := by decide +kernel
theorem dX9_await_50 : decode cX9_await 50 = .ok (.return_, 1) := by decide +kernel
def bX9_await_50 (N d : Nat)   (w : Wd)  : Option (Wd) :=
  some w
set_option maxHeartbeats 4000000 in
theorem kX9_await_50 {V : Ev} {p : Program} {l : Launch} {e : Env} {N d : Nat} {s : State} {m : MethodId} {args : Array Value} {below : List Frame} {meth : Method} {c : Code} {z : Wd} (X : CX V p s m args meth c cX9_await 3 RX9 none)    {w : Wd}  {H : Heap} {locs : List Loc} {ls : Array Slot} (h : bX9_await_50 N d   w  = some z) (hH : wH V (cC V) (AC V) s w H locs) (hl : lv_has ls 3 []) : W p l e (rmD (d + 1)) s m args below meth c H locs 0 0 (MQ below (CtV V (cC V) (AC V) z) args s 0 0 (AC V)) (F0 m 50 ls []) := by
  unfold bX9_await_50 at h
  obtain ⟨hx, hb, hml, hown, hg, hrt, hlk, hK⟩ := id X
  exact r_vret (pc := 50) X hH h dX9_await_50
def bX9_await_0 (N d : Nat)   (w : Wd) (x1 : Int32) (x2 : Int32) : Option (Wd) :=
  if x1 = (-1) then (
    bX9_await_50 N d   w 
  ) else (
    if x2 = (-1) then (
      bX9_await_50 N d   w 
    ) else (
      if 158 ≤ (sI w 20) then (
        bX9_await_50 N d   w 
      ) else (
        c_st w 60 158 (sI w 20) x1 fun w1 =>
        c_st w1 61 158 (sI w1 20) x2 fun w2 =>
        c_pi w2 20 ((sI w2 20) + 1) fun w3 =>
        bX9_await_50 N d   w3 
      )
    )
  )
set_option maxHeartbeats 4000000 in
theorem kX9_await_0 {V : Ev} {p : Program} {l : Launch} {e : Env} {N d : Nat} {s : State} {m : MethodId} {args : Array Value} {below : List Frame} {meth : Method} {c : Code} {z : Wd} (X : CX V p s m args meth c cX9_await 3 RX9 none)    {w : Wd} {x1 : Int32} {x2 : Int32} {H : Heap} {locs : List Loc} {ls : Array Slot} (h : bX9_await_0 N d   w x1 x2 = some z) (hH : wH V (cC V) (AC V) s w H locs) (hl : lv_has ls 3 [(0, .ref (V.2.2 11)), (1, .int x1), (2, .int x2)]) : W p l e (rmD (d + 1)) s m args below meth c H locs 0 0 (MQ below (CtV V (cC V) (AC V) z) args s 0 0 (AC V)) (F0 m 0 ls []) := by
  unfold bX9_await_0 at h
  obtain ⟨hx, hb, hml, hown, hg, hrt, hlk, hK⟩ := id X
  refine lv_iload_n (pc := 0) hx hb dX9_await_0 rfl (lv_at hl 1 rfl) ?_
  refine lv_iconst (pc := 1) (v := -1) hx hb dX9_await_1 (by decide) ?_
  refine b_icmp_eq (pc := 2) (tgt := 50) hx hb h dX9_await_2 (by decide) (fun h => ?_) (fun h => ?_)
  · exact kX9_await_50 X   h hH (lv_sub hl [] rfl)
  · refine lv_iload_n (pc := 5) hx hb dX9_await_5 rfl (lv_at hl 2 rfl) ?_
    refine lv_iconst (pc := 6) (v := -1) hx hb dX9_await_6 (by decide) ?_
    refine b_icmp_eq (pc := 7) (tgt := 50) hx hb h dX9_await_7 (by decide) (fun h => ?_) (fun h => ?_)
    · exact kX9_await_50 X   h hH (lv_sub hl [] rfl)
    · refine lv_aload_n (pc := 10) hx hb dX9_await_10 rfl (lv_at hl 0 rfl) ?_
      refine gC_X9_40_11 (pc := 11) X hH dX9_await_11 ?_
      refine lv_sipush (pc := 14) (v := 158) hx hb dX9_await_14 (by decide) ?_
      refine b_icmp_ge (pc := 17) (tgt := 50) hx hb h dX9_await_17 (by decide) (fun h => ?_) (fun h => ?_)
      · exact kX9_await_50 X   h hH (lv_sub hl [] rfl)
      · refine lv_aload_n (pc := 20) hx hb dX9_await_20 rfl (lv_at hl 0 rfl) ?_
        refine gC_X9_23_11 (pc := 21) X hH dX9_await_21 ?_
        refine lv_aload_n (pc := 24) hx hb dX9_await_24 rfl (lv_at hl 0 rfl) ?_
        refine gC_X9_40_11 (pc := 25) X hH dX9_await_25 ?_
        refine lv_iload_n (pc := 28) hx hb dX9_await_28 rfl (lv_at hl 1 rfl) ?_
        refine r_st (pc := 29) X (heC_56 V w) (hsC_56 V w) hH h dX9_await_29 (fun w1 H locs h hH => ?_)
        refine lv_aload_n (pc := 30) hx hb dX9_await_30 rfl (lv_at hl 0 rfl) ?_
        refine gC_X9_26_11 (pc := 31) X hH dX9_await_31 ?_
        refine lv_aload_n (pc := 34) hx hb dX9_await_34 rfl (lv_at hl 0 rfl) ?_
        refine gC_X9_40_11 (pc := 35) X hH dX9_await_35 ?_
        refine lv_iload_n (pc := 38) hx hb dX9_await_38 rfl (lv_at hl 2 rfl) ?_
        refine r_st (pc := 39) X (heC_57 V w1) (hsC_57 V w1) hH h dX9_await_39 (fun w2 H locs h hH => ?_)
        refine lv_aload_n (pc := 40) hx hb dX9_await_40 rfl (lv_at hl 0 rfl) ?_
        refine lv_dup (pc := 41) hx hb dX9_await_41 rfl ?_
        refine gC_X9_40_11 (pc := 42) X hH dX9_await_42 ?_
        refine lv_iconst (pc := 45) (v := 1) hx hb dX9_await_45 (by decide) ?_
        refine lv_iadd (pc := 46) hx hb dX9_await_46 ?_
        refine pC_X9_40_11 (pc := 47) X hH h dX9_await_47 (fun w3 H locs h hH => ?_)
        exact kX9_await_50 X   h hH (lv_sub hl [] rfl)
def eX9_await (N : Nat) : Nat → Wd → Int32 → Int32 → Option (Wd)
  | 0 => fun _ _ _ => none
  | d + 1 => fun w x1 x2 => bX9_await_0 N d  w x1 x2
set_option maxHeartbeats 4000000 in
set_option maxRecDepth 20000 in
theorem mX9_await {l : Launch} {V : Ev} {N d : Nat} {w : Wd} {x1 : Int32} {x2 : Int32} {z : Wd} (h : eX9_await N d w x1 x2 = some z) : MetV l V (cC V) (AC V) yX9_await cX9_await 3 none d [.ref (V.2.2 11), .int x1, .int x2] w z := by
  cases d with
  | zero => exact c_none h
  | succ d =>
    refine Met.ofW (cc := cX9_await) (maxL := 3) (ret := none) (by decide) rfl ?_
    intro p e s m args below meth c s₁ B hml hv
    obtain ⟨rfl, hP, hD, hK⟩ := hv
    have hts := atoms_spec (ws := .code yX9_await cX9_await 3 none :: gG) B.pre
    have X : CX V p s m ([.ref (V.2.2 11), .int x1, .int x2] : List Value).toArray meth c cX9_await 3 RX9 none := ⟨B.exec, B.bytes, hml, findClass_of_methodNamed B.named, fun w hw => hts w (List.mem_cons_of_mem _ hw), B.returns, B.notSynchronized, hK⟩
    have hl := lv_entry ([.ref (V.2.2 11), .int x1, .int x2] : List Value) (n := 3) (Nat.le_of_ble_eq_true rfl)
    rw [lg_entry_eq]
    generalize (lg_sl ([.ref (V.2.2 11), .int x1, .int x2] : List Value) ++ List.replicate (3 - (lg_sl ([.ref (V.2.2 11), .int x1, .int x2] : List Value)).length) Slot.unset).toArray = ls at hl ⊢
    have hl : lv_has ls 3 [(0, .ref (V.2.2 11)), (1, .int x1), (2, .int x2)] := hl
    exact kX9_await_0 (N := N) X  h ⟨hP, hD, va_S.rf⟩ hl
theorem dX5_isVariable_0 : decode cX5_isVariable 0 = .ok (.iload_n 0, 1) := by decide +kernel
theorem dX5_isVariable_1 : decode cX5_isVariable 1 = .ok (.bipush 8, 2) := by decide +kernel
theorem dX5_isVariable_3 : decode cX5_isVariable 3 = .ok (.if_icmp .ge 7, 3) := by decide +kernel
theorem dX5_isVariable_6 : decode cX5_isVariable 6 = .ok (.iconst 1, 1) := by decide +kernel
theorem dX5_isVariable_7 : decode cX5_isVariable 7 = .ok (.goto 4, 3) := by decide +kernel
theorem dX5_isVariable_10 : decode cX5_isVariable 10 = .ok (.iconst 0, 1) := by decide +kernel
theorem dX5_isVariable_11 : decode cX5_isVariable 11 = .ok (.ireturn, 1) := by decide +kernel
def bX5_isVariable_11 (N d : Nat)   (w : Wd) (y0 : Int32) : Option (Wd × Int32) :=
  c_bo y0 (some (w, y0))
set_option maxHeartbeats 4000000 in
theorem kX5_isVariable_11 {V : Ev} {p : Program} {l : Launch} {e : Env} {N d : Nat} {s : State} {m : MethodId} {args : Array Value} {below : List Frame} {meth : Method} {c : Code} {z : Wd × Int32} (X : CX V p s m args meth c cX5_isVariable 1 RX5 (some .boolean))    {w : Wd} {y0 : Int32} {H : Heap} {locs : List Loc} {ls : Array Slot} (h : bX5_isVariable_11 N d   w y0 = some z) (hH : wH V (cC V) (AC V) s w H locs) (hl : lv_has ls 1 []) : W p l e (rmD (d + 1)) s m args below meth c H locs 0 0 (MQ below (CtI V (cC V) (AC V) z) args s 0 0 (AC V)) (F0 m 11 ls [.int y0]) := by
  unfold bX5_isVariable_11 at h
  obtain ⟨hx, hb, hml, hown, hg, hrt, hlk, hK⟩ := id X
  exact r_zret (pc := 11) X hH h dX5_isVariable_11
def bX5_isVariable_0 (N d : Nat)   (w : Wd) (x0 : Int32) : Option (Wd × Int32) :=
  if 8 ≤ x0 then (
    bX5_isVariable_11 N d   w 0
  ) else (
    bX5_isVariable_11 N d   w 1
  )
set_option maxHeartbeats 4000000 in
theorem kX5_isVariable_0 {V : Ev} {p : Program} {l : Launch} {e : Env} {N d : Nat} {s : State} {m : MethodId} {args : Array Value} {below : List Frame} {meth : Method} {c : Code} {z : Wd × Int32} (X : CX V p s m args meth c cX5_isVariable 1 RX5 (some .boolean))    {w : Wd} {x0 : Int32} {H : Heap} {locs : List Loc} {ls : Array Slot} (h : bX5_isVariable_0 N d   w x0 = some z) (hH : wH V (cC V) (AC V) s w H locs) (hl : lv_has ls 1 [(0, .int x0)]) : W p l e (rmD (d + 1)) s m args below meth c H locs 0 0 (MQ below (CtI V (cC V) (AC V) z) args s 0 0 (AC V)) (F0 m 0 ls []) := by
  unfold bX5_isVariable_0 at h
  obtain ⟨hx, hb, hml, hown, hg, hrt, hlk, hK⟩ := id X
  refine lv_iload_n (pc := 0) hx hb dX5_isVariable_0 rfl (lv_at hl 0 rfl) ?_
  refine lv_bipush (pc := 1) (v := 8) hx hb dX5_isVariable_1 (by decide) ?_
  refine b_icmp_ge (pc := 3) (tgt := 10) hx hb h dX5_isVariable_3 (by decide) (fun h => ?_) (fun h => ?_)
  · refine lv_iconst (pc := 10) (v := 0) hx hb dX5_isVariable_10 (by decide) ?_
    exact kX5_isVariable_11 X   h hH (lv_sub hl [] rfl)
  · refine lv_iconst (pc := 6) (v := 1) hx hb dX5_isVariable_6 (by decide) ?_
    refine lv_goto (pc := 7) (tgt := 11) hx hb dX5_isVariable_7 (by decide) ?_
    exact kX5_isVariable_11 X   h hH (lv_sub hl [] rfl)
def eX5_isVariable (N : Nat) : Nat → Wd → Int32 → Option (Wd × Int32)
  | 0 => fun _ _ => none
  | d + 1 => fun w x0 => bX5_isVariable_0 N d  w x0
set_option maxHeartbeats 4000000 in
set_option maxRecDepth 20000 in
theorem mX5_isVariable {l : Launch} {V : Ev} {N d : Nat} {w : Wd} {x0 : Int32} {z : Wd × Int32} (h : eX5_isVariable N d w x0 = some z) : MetI l V (cC V) (AC V) yX5_isVariable cX5_isVariable 1 (some .boolean) d [.int x0] w z := by
  cases d with
  | zero => exact c_none h
  | succ d =>
    refine Met.ofW (cc := cX5_isVariable) (maxL := 1) (ret := (some .boolean)) (by decide) rfl ?_
    intro p e s m args below meth c s₁ B hml hv
    obtain ⟨rfl, hP, hD, hK⟩ := hv
    have hts := atoms_spec (ws := .code yX5_isVariable cX5_isVariable 1 (some .boolean) :: gG) B.pre
    have X : CX V p s m ([.int x0] : List Value).toArray meth c cX5_isVariable 1 RX5 (some .boolean) := ⟨B.exec, B.bytes, hml, findClass_of_methodNamed B.named, fun w hw => hts w (List.mem_cons_of_mem _ hw), B.returns, B.notSynchronized, hK⟩
    have hl := lv_entry ([.int x0] : List Value) (n := 1) (Nat.le_of_ble_eq_true rfl)
    rw [lg_entry_eq]
    generalize (lg_sl ([.int x0] : List Value) ++ List.replicate (1 - (lg_sl ([.int x0] : List Value)).length) Slot.unset).toArray = ls at hl ⊢
    have hl : lv_has ls 1 [(0, .int x0)] := hl
    exact kX5_isVariable_0 (N := N) X  h ⟨hP, hD, va_S.rf⟩ hl
