theorem dX11_unify_0 : decode cX11_unify 0 = .ok (.aload_n 0, 1) := by decide +kernel
theorem dX11_unify_1 : decode cX11_unify 1 = .ok (.iload_n 1, 1) := by decide +kernel
theorem dX11_unify_2 : decode cX11_unify 2 = .ok (.iload_n 2, 1) := by decide +kernel
theorem dX11_unify_3 : decode cX11_unify 3 = .ok (.invokevirtual 248, 3) := by decide +kernel
theorem dX11_unify_6 : decode cX11_unify 6 = .ok (.aload_n 0, 1) := by decide +kernel
theorem dX11_unify_7 : decode cX11_unify 7 = .ok (.getfield 242, 3) := by decide +kernel
theorem dX11_unify_10 : decode cX11_unify 10 = .ok (.istore 5, 2) := by decide +kernel
theorem dX11_unify_12 : decode cX11_unify 12 = .ok (.aload_n 0, 1) := by decide +kernel
theorem dX11_unify_13 : decode cX11_unify 13 = .ok (.getfield 245, 3) := by decide +kernel
theorem dX11_unify_16 : decode cX11_unify 16 = .ok (.istore 6, 2) := by decide +kernel
theorem dX11_unify_18 : decode cX11_unify 18 = .ok (.aload_n 0, 1) := by decide +kernel
theorem dX11_unify_19 : decode cX11_unify 19 = .ok (.iload_n 3, 1) := by decide +kernel
theorem dX11_unify_20 : decode cX11_unify 20 = .ok (.iload 4, 2) := by decide +kernel
theorem dX11_unify_22 : decode cX11_unify 22 = .ok (.invokevirtual 248, 3) := by decide +kernel
theorem dX11_unify_25 : decode cX11_unify 25 = .ok (.aload_n 0, 1) := by decide +kernel
theorem dX11_unify_26 : decode cX11_unify 26 = .ok (.getfield 242, 3) := by decide +kernel
theorem dX11_unify_29 : decode cX11_unify 29 = .ok (.istore 7, 2) := by decide +kernel
theorem dX11_unify_31 : decode cX11_unify 31 = .ok (.aload_n 0, 1) := by decide +kernel
theorem dX11_unify_32 : decode cX11_unify 32 = .ok (.getfield 245, 3) := by decide +kernel
theorem dX11_unify_35 : decode cX11_unify 35 = .ok (.istore 8, 2) := by decide +kernel
theorem dX11_unify_37 : decode cX11_unify 37 = .ok (.aload_n 0, 1) := by decide +kernel
theorem dX11_unify_38 : decode cX11_unify 38 = .ok (.iload 5, 2) := by decide +kernel
theorem dX11_unify_40 : decode cX11_unify 40 = .ok (.invokevirtual 117, 3) := by decide +kernel
theorem dX11_unify_43 : decode cX11_unify 43 = .ok (.ifCond .eq 35, 3) := by decide +kernel
theorem dX11_unify_46 : decode cX11_unify 46 = .ok (.aload_n 0, 1) := by decide +kernel
theorem dX11_unify_47 : decode cX11_unify 47 = .ok (.iload 7, 2) := by decide +kernel
theorem dX11_unify_49 : decode cX11_unify 49 = .ok (.invokevirtual 117, 3) := by decide +kernel
theorem dX11_unify_52 : decode cX11_unify 52 = .ok (.ifCond .eq 26, 3) := by decide +kernel
theorem dX11_unify_55 : decode cX11_unify 55 = .ok (.aload_n 0, 1) := by decide +kernel
theorem dX11_unify_56 : decode cX11_unify 56 = .ok (.iload 5, 2) := by decide +kernel
theorem dX11_unify_58 : decode cX11_unify 58 = .ok (.invokevirtual 136, 3) := by decide +kernel
theorem dX11_unify_61 : decode cX11_unify 61 = .ok (.iload 6, 2) := by decide +kernel
theorem dX11_unify_63 : decode cX11_unify 63 = .ok (.iadd, 1) := by decide +kernel
theorem dX11_unify_64 : decode cX11_unify 64 = .ok (.aload_n 0, 1) := by decide +kernel
theorem dX11_unify_65 : decode cX11_unify 65 = .ok (.iload 7, 2) := by decide +kernel
theorem dX11_unify_67 : decode cX11_unify 67 = .ok (.invokevirtual 136, 3) := by decide +kernel
theorem dX11_unify_70 : decode cX11_unify 70 = .ok (.iload 8, 2) := by decide +kernel
theorem dX11_unify_72 : decode cX11_unify 72 = .ok (.iadd, 1) := by decide +kernel
theorem dX11_unify_73 : decode cX11_unify 73 = .ok (.if_icmp .ne 5, 3) := by decide +kernel
theorem dX11_unify_76 : decode cX11_unify 76 = .ok (.iconst 1, 1) := by decide +kernel
theorem dX11_unify_77 : decode cX11_unify 77 = .ok (.ireturn, 1) := by decide +kernel
theorem dX11_unify_78 : decode cX11_unify 78 = .ok (.aload_n 0, 1) := by decide +kernel
theorem dX11_unify_79 : decode cX11_unify 79 = .ok (.iload 5, 2) := by decide +kernel
theorem dX11_unify_81 : decode cX11_unify 81 = .ok (.invokevirtual 117, 3) := by decide +kernel
theorem dX11_unify_84 : decode cX11_unify 84 = .ok (.ifCond .eq 21, 3) := by decide +kernel
theorem dX11_unify_87 : decode cX11_unify 87 = .ok (.aload_n 0, 1) := by decide +kernel
theorem dX11_unify_88 : decode cX11_unify 88 = .ok (.aload_n 0, 1) := by decide +kernel
theorem dX11_unify_89 : decode cX11_unify 89 = .ok (.iload 5, 2) := by decide +kernel
theorem dX11_unify_91 : decode cX11_unify 91 = .ok (.invokevirtual 136, 3) := by decide +kernel
theorem dX11_unify_94 : decode cX11_unify 94 = .ok (.iload 6, 2) := by decide +kernel
theorem dX11_unify_96 : decode cX11_unify 96 = .ok (.iadd, 1) := by decide +kernel
theorem dX11_unify_97 : decode cX11_unify 97 = .ok (.iload 7, 2) := by decide +kernel
theorem dX11_unify_99 : decode cX11_unify 99 = .ok (.iload 8, 2) := by decide +kernel
theorem dX11_unify_101 : decode cX11_unify 101 = .ok (.invokevirtual 256, 3) := by decide +kernel
theorem dX11_unify_104 : decode cX11_unify 104 = .ok (.ireturn, 1) := by decide +kernel
theorem dX11_unify_105 : decode cX11_unify 105 = .ok (.aload_n 0, 1) := by decide +kernel
theorem dX11_unify_106 : decode cX11_unify 106 = .ok (.iload 7, 2) := by decide +kernel
theorem dX11_unify_108 : decode cX11_unify 108 = .ok (.invokevirtual 117, 3) := by decide +kernel
theorem dX11_unify_111 : decode cX11_unify 111 = .ok (.ifCond .eq 21, 3) := by decide +kernel
theorem dX11_unify_114 : decode cX11_unify 114 = .ok (.aload_n 0, 1) := by decide +kernel
theorem dX11_unify_115 : decode cX11_unify 115 = .ok (.aload_n 0, 1) := by decide +kernel
theorem dX11_unify_116 : decode cX11_unify 116 = .ok (.iload 7, 2) := by decide +kernel
theorem dX11_unify_118 : decode cX11_unify 118 = .ok (.invokevirtual 136, 3) := by decide +kernel
theorem dX11_unify_121 : decode cX11_unify 121 = .ok (.iload 8, 2) := by decide +kernel
theorem dX11_unify_123 : decode cX11_unify 123 = .ok (.iadd, 1) := by decide +kernel
theorem dX11_unify_124 : decode cX11_unify 124 = .ok (.iload 5, 2) := by decide +kernel
theorem dX11_unify_126 : decode cX11_unify 126 = .ok (.iload 6, 2) := by decide +kernel
theorem dX11_unify_128 : decode cX11_unify 128 = .ok (.invokevirtual 256, 3) := by decide +kernel
theorem dX11_unify_131 : decode cX11_unify 131 = .ok (.ireturn, 1) := by decide +kernel
theorem dX11_unify_132 : decode cX11_unify 132 = .ok (.aload_n 0, 1) := by decide +kernel
theorem dX11_unify_133 : decode cX11_unify 133 = .ok (.getfield 16, 3) := by decide +kernel
theorem dX11_unify_136 : decode cX11_unify 136 = .ok (.iload 5, 2) := by decide +kernel
theorem dX11_unify_138 : decode cX11_unify 138 = .ok (.iaload, 1) := by decide +kernel
theorem dX11_unify_139 : decode cX11_unify 139 = .ok (.aload_n 0, 1) := by decide +kernel
theorem dX11_unify_140 : decode cX11_unify 140 = .ok (.getfield 16, 3) := by decide +kernel
theorem dX11_unify_143 : decode cX11_unify 143 = .ok (.iload 7, 2) := by decide +kernel
theorem dX11_unify_145 : decode cX11_unify 145 = .ok (.iaload, 1) := by decide +kernel
theorem dX11_unify_146 : decode cX11_unify 146 = .ok (.if_icmp .eq 5, 3) := by decide +kernel
theorem dX11_unify_149 : decode cX11_unify 149 = .ok (.iconst 0, 1) := by decide +kernel
theorem dX11_unify_150 : decode cX11_unify 150 = .ok (.ireturn, 1) := by decide +kernel
theorem dX11_unify_151 : decode cX11_unify 151 = .ok (.iconst 0, 1) := by decide +kernel
theorem dX11_unify_152 : decode cX11_unify 152 = .ok (.istore 9, 2) := by decide +kernel
theorem dX11_unify_154 : decode cX11_unify 154 = .ok (.iload 9, 2) := by decide +kernel
theorem dX11_unify_156 : decode cX11_unify 156 = .ok (.aload_n 0, 1) := by decide +kernel
theorem dX11_unify_157 : decode cX11_unify 157 = .ok (.iload 5, 2) := by decide +kernel
theorem dX11_unify_159 : decode cX11_unify 159 = .ok (.invokevirtual 140, 3) := by decide +kernel
theorem dX11_unify_162 : decode cX11_unify 162 = .ok (.if_icmp .ge 38, 3) := by decide +kernel
theorem dX11_unify_165 : decode cX11_unify 165 = .ok (.aload_n 0, 1) := by decide +kernel
theorem dX11_unify_166 : decode cX11_unify 166 = .ok (.aload_n 0, 1) := by decide +kernel
theorem dX11_unify_167 : decode cX11_unify 167 = .ok (.iload 5, 2) := by decide +kernel
theorem dX11_unify_169 : decode cX11_unify 169 = .ok (.iload 9, 2) := by decide +kernel
theorem dX11_unify_171 : decode cX11_unify 171 = .ok (.invokevirtual 143, 3) := by decide +kernel
theorem dX11_unify_174 : decode cX11_unify 174 = .ok (.iload 6, 2) := by decide +kernel
theorem dX11_unify_176 : decode cX11_unify 176 = .ok (.aload_n 0, 1) := by decide +kernel
theorem dX11_unify_177 : decode cX11_unify 177 = .ok (.iload 7, 2) := by decide +kernel
theorem dX11_unify_179 : decode cX11_unify 179 = .ok (.iload 9, 2) := by decide +kernel
theorem dX11_unify_181 : decode cX11_unify 181 = .ok (.invokevirtual 143, 3) := by decide +kernel
theorem dX11_unify_184 : decode cX11_unify 184 = .ok (.iload 8, 2) := by decide +kernel
theorem dX11_unify_186 : decode cX11_unify 186 = .ok (.invokevirtual 259, 3) := by decide +kernel
theorem dX11_unify_189 : decode cX11_unify 189 = .ok (.ifCond .ne 5, 3) := by decide +kernel
theorem dX11_unify_192 : decode cX11_unify 192 = .ok (.iconst 0, 1) := by decide +kernel
theorem dX11_unify_193 : decode cX11_unify 193 = .ok (.ireturn, 1) := by decide +kernel
theorem dX11_unify_194 : decode cX11_unify 194 = .ok (.iinc 9 1, 3) := by decide +kernel
theorem dX11_unify_197 : decode cX11_unify 197 = .ok (.goto (-43), 3) := by decide +kernel
theorem dX11_unify_200 : decode cX11_unify 200 = .ok (.iconst 1, 1) := by decide +kernel
theorem dX11_unify_201 : decode cX11_unify 201 = .ok (.ireturn, 1) := by decide +kernel
def bX11_unify_154 (N d : Nat) (self_X11_unify : Wd → Int32 → Int32 → Int32 → Int32 → Option (Wd × Int32)) (rec154 : Wd → Int32 → Int32 → Int32 → Int32 → Int32 → Option (Wd × Int32)) (w : Wd) (x5 : Int32) (x6 : Int32) (x7 : Int32) (x8 : Int32) (x9 : Int32) : Option (Wd × Int32) :=
  c_cl (eX11_parts N d w x5) fun w15 v16 =>
  if v16 ≤ x9 then (
    some (w15, 1)
  ) else (
    c_cl (eX11_partOf N d w15 x5 x9) fun w17 v18 =>
    c_cl (eX11_partOf N d w17 x7 x9) fun w19 v20 =>
    c_cl (self_X11_unify w19 v18 x6 v20 x8) fun w21 v22 =>
    if v22 = 0 then (
      some (w21, 0)
    ) else (
      c_nm (x9 + 1) fun x9_23 =>
      rec154 w21 x5 x6 x7 x8 x9_23
    )
  )
set_option maxHeartbeats 4000000 in
theorem kX11_unify_154 {V : Ev} {p : Program} {l : Launch} {e : Env} {N d : Nat} {s : State} {m : MethodId} {args : Array Value} {below : List Frame} {meth : Method} {c : Code} {z : Wd × Int32} (X : CX V p s m args meth c cX11_unify 10 RX11 (some .boolean)) {self_X11_unify : Wd → Int32 → Int32 → Int32 → Int32 → Option (Wd × Int32)} (hs_X11_unify : ∀ (w : Wd) (a0 : Int32) (a1 : Int32) (a2 : Int32) (a3 : Int32) (x : Wd × Int32), self_X11_unify w a0 a1 a2 a3 = some x → MetI l V (cM V) (AM V) yX11_unify cX11_unify 10 (some .boolean) d [.ref (V.2.2 0), .int a0, .int a1, .int a2, .int a3] w x) {rec154 : Wd → Int32 → Int32 → Int32 → Int32 → Int32 → Option (Wd × Int32)} (hr154 : ∀ (w : Wd) (x5 : Int32) (x6 : Int32) (x7 : Int32) (x8 : Int32) (x9 : Int32) (H : Heap) (locs : List Loc) (ls : Array Slot), rec154 w x5 x6 x7 x8 x9 = some z → wH V (cM V) (AM V) s w H locs → lv_has ls 10 [(0, .ref (V.2.2 0)), (5, .int x5), (6, .int x6), (7, .int x7), (8, .int x8), (9, .int x9)] → W p l e (rmD (d + 1)) s m args below meth c H locs 0 0 (MQ below (CtI V (cM V) (AM V) z) args s 0 0 (AM V)) (F0 m 154 ls [])) {w : Wd} {x5 : Int32} {x6 : Int32} {x7 : Int32} {x8 : Int32} {x9 : Int32} {H : Heap} {locs : List Loc} {ls : Array Slot} (h : bX11_unify_154 N d self_X11_unify rec154 w x5 x6 x7 x8 x9 = some z) (hH : wH V (cM V) (AM V) s w H locs) (hl : lv_has ls 10 [(0, .ref (V.2.2 0)), (5, .int x5), (6, .int x6), (7, .int x7), (8, .int x8), (9, .int x9)]) : W p l e (rmD (d + 1)) s m args below meth c H locs 0 0 (MQ below (CtI V (cM V) (AM V) z) args s 0 0 (AM V)) (F0 m 154 ls []) := by
  unfold bX11_unify_154 at h
  obtain ⟨hx, hb, hml, hown, hg, hrt, hlk, hK⟩ := id X
  refine lv_iload (pc := 154) hx hb dX11_unify_154 (lv_at hl 5 rfl) ?_
  refine lv_aload_n (pc := 156) hx hb dX11_unify_156 rfl (lv_at hl 0 rfl) ?_
  refine lv_iload (pc := 157) hx hb dX11_unify_157 (lv_at hl 1 rfl) ?_
  refine r_cvI (pc := 159) (As := [.int x5]) (rest := [.int x9]) X hH (fun x hx => mX11_parts hx) cw_X11_140 (heM_0 V w) rfl rfl rfl (Nat.le_of_ble_eq_true rfl) hl.1 h dX11_unify_159 (fun w15 v16 H locs h hH => ?_)
  refine b_icmp_ge (pc := 162) (tgt := 200) hx hb h dX11_unify_162 (by decide) (fun h => ?_) (fun h => ?_)
  · refine lv_iconst (pc := 200) (v := 1) hx hb dX11_unify_200 (by decide) ?_
    exact r_zretk (pc := 201) (by decide) X hH h dX11_unify_201
  · refine lv_aload_n (pc := 165) hx hb dX11_unify_165 rfl (lv_at hl 0 rfl) ?_
    refine lv_aload_n (pc := 166) hx hb dX11_unify_166 rfl (lv_at hl 0 rfl) ?_
    refine lv_iload (pc := 167) hx hb dX11_unify_167 (lv_at hl 1 rfl) ?_
    refine lv_iload (pc := 169) hx hb dX11_unify_169 (lv_at hl 5 rfl) ?_
    refine r_cvI (pc := 171) (As := [.int x5, .int x9]) (rest := [.ref (V.2.2 0)]) X hH (fun x hx => mX11_partOf hx) cw_X11_143 (heM_0 V w15) rfl rfl rfl (Nat.le_of_ble_eq_true rfl) hl.1 h dX11_unify_171 (fun w17 v18 H locs h hH => ?_)
    refine lv_iload (pc := 174) hx hb dX11_unify_174 (lv_at hl 2 rfl) ?_
    refine lv_aload_n (pc := 176) hx hb dX11_unify_176 rfl (lv_at hl 0 rfl) ?_
    refine lv_iload (pc := 177) hx hb dX11_unify_177 (lv_at hl 3 rfl) ?_
    refine lv_iload (pc := 179) hx hb dX11_unify_179 (lv_at hl 5 rfl) ?_
    refine r_cvI (pc := 181) (As := [.int x7, .int x9]) (rest := [.int x6, .int v18, .ref (V.2.2 0)]) X hH (fun x hx => mX11_partOf hx) cw_X11_143 (heM_0 V w17) rfl rfl rfl (Nat.le_of_ble_eq_true rfl) hl.1 h dX11_unify_181 (fun w19 v20 H locs h hH => ?_)
    refine lv_iload (pc := 184) hx hb dX11_unify_184 (lv_at hl 4 rfl) ?_
    refine r_cvI (pc := 186) (As := [.int v18, .int x6, .int v20, .int x8]) (rest := []) X hH (fun x hx => hs_X11_unify _ _ _ _ _ _ hx) cw_X11_259 (heM_0 V w19) rfl rfl rfl (Nat.le_of_ble_eq_true rfl) hl.1 h dX11_unify_186 (fun w21 v22 H locs h hH => ?_)
    refine b_if_ne (pc := 189) (tgt := 194) hx hb h dX11_unify_189 (by decide) (fun h => ?_) (fun h => ?_)
    · obtain ⟨x9_23, ex9_23, h⟩ := c_nm_ex h
      refine lv_iinc (pc := 194) (v := x9_23) (lv' := [(9, .int x9_23), (0, .ref (V.2.2 0)), (5, .int x5), (6, .int x6), (7, .int x7), (8, .int x8)]) hx hb dX11_unify_194 hl (k := 5) rfl (by rw [← ex9_23]; rfl) (by decide) rfl (fun ls hl => ?_)
      refine lv_goto (pc := 197) (tgt := 154) hx hb dX11_unify_197 (by decide) ?_
      exact hr154 _ _ _ _ _ _ _ _ _ h hH (lv_sub hl [1, 2, 3, 4, 5, 0] rfl)
    · refine lv_iconst (pc := 192) (v := 0) hx hb dX11_unify_192 (by decide) ?_
      exact r_zretk (pc := 193) (by decide) X hH h dX11_unify_193
def fX11_unify_154 (N d : Nat) (self_X11_unify : Wd → Int32 → Int32 → Int32 → Int32 → Option (Wd × Int32))  : Nat → Wd → Int32 → Int32 → Int32 → Int32 → Int32 → Option (Wd × Int32)
  | 0 => fun _ _ _ _ _ _ => none
  | n + 1 => fun w x5 x6 x7 x8 x9 => bX11_unify_154 N d self_X11_unify  (fX11_unify_154 N d self_X11_unify  n) w x5 x6 x7 x8 x9
theorem lX11_unify_154 {V : Ev} {p : Program} {l : Launch} {e : Env} {N d : Nat} {s : State} {m : MethodId} {args : Array Value} {below : List Frame} {meth : Method} {c : Code} {z : Wd × Int32} (X : CX V p s m args meth c cX11_unify 10 RX11 (some .boolean)) {self_X11_unify : Wd → Int32 → Int32 → Int32 → Int32 → Option (Wd × Int32)} (hs_X11_unify : ∀ (w : Wd) (a0 : Int32) (a1 : Int32) (a2 : Int32) (a3 : Int32) (x : Wd × Int32), self_X11_unify w a0 a1 a2 a3 = some x → MetI l V (cM V) (AM V) yX11_unify cX11_unify 10 (some .boolean) d [.ref (V.2.2 0), .int a0, .int a1, .int a2, .int a3] w x)  (n : Nat) {w : Wd} {x5 : Int32} {x6 : Int32} {x7 : Int32} {x8 : Int32} {x9 : Int32} {H : Heap} {locs : List Loc} {ls : Array Slot} (h : fX11_unify_154 N d self_X11_unify  n w x5 x6 x7 x8 x9 = some z) (hH : wH V (cM V) (AM V) s w H locs) (hl : lv_has ls 10 [(0, .ref (V.2.2 0)), (5, .int x5), (6, .int x6), (7, .int x7), (8, .int x8), (9, .int x9)]) : W p l e (rmD (d + 1)) s m args below meth c H locs 0 0 (MQ below (CtI V (cM V) (AM V) z) args s 0 0 (AM V)) (F0 m 154 ls []) := by
  induction n generalizing w x5 x6 x7 x8 x9 H locs ls with
  | zero => exact c_none h
  | succ n ih => exact kX11_unify_154 (N := N) X hs_X11_unify (fun _ _ _ _ _ _ _ _ _ h hH hl => ih h hH hl) h hH hl
def bX11_unify_78 (N d : Nat) (self_X11_unify : Wd → Int32 → Int32 → Int32 → Int32 → Option (Wd × Int32))  (w : Wd) (x5 : Int32) (x6 : Int32) (x7 : Int32) (x8 : Int32) : Option (Wd × Int32) :=
  c_cl (eX11_isVariable N d w x5) fun w9 v10 =>
  if v10 = 0 then (
    c_cl (eX11_isVariable N d w9 x7) fun w11 v12 =>
    if v12 = 0 then (
      c_ld w11 3 1000 x5 fun v13 =>
      c_ld w11 3 1000 x7 fun v14 =>
      if v13 = v14 then (
        fX11_unify_154 N d self_X11_unify  N w11 x5 x6 x7 x8 ((0 : Int32))
      ) else (
        some (w11, 0)
      )
    ) else (
      c_cl (eX11_variableOf N d w11 x7) fun w24 v25 =>
      c_cl (eX11_bind N d w24 (v25 + x8) x5 x6) fun w26 v27 =>
      c_bo v27 (some (w26, v27))
    )
  ) else (
    c_cl (eX11_variableOf N d w9 x5) fun w28 v29 =>
    c_cl (eX11_bind N d w28 (v29 + x6) x7 x8) fun w30 v31 =>
    c_bo v31 (some (w30, v31))
  )
set_option maxHeartbeats 4000000 in
theorem kX11_unify_78 {V : Ev} {p : Program} {l : Launch} {e : Env} {N d : Nat} {s : State} {m : MethodId} {args : Array Value} {below : List Frame} {meth : Method} {c : Code} {z : Wd × Int32} (X : CX V p s m args meth c cX11_unify 10 RX11 (some .boolean)) {self_X11_unify : Wd → Int32 → Int32 → Int32 → Int32 → Option (Wd × Int32)} (hs_X11_unify : ∀ (w : Wd) (a0 : Int32) (a1 : Int32) (a2 : Int32) (a3 : Int32) (x : Wd × Int32), self_X11_unify w a0 a1 a2 a3 = some x → MetI l V (cM V) (AM V) yX11_unify cX11_unify 10 (some .boolean) d [.ref (V.2.2 0), .int a0, .int a1, .int a2, .int a3] w x)  {w : Wd} {x5 : Int32} {x6 : Int32} {x7 : Int32} {x8 : Int32} {H : Heap} {locs : List Loc} {ls : Array Slot} (h : bX11_unify_78 N d self_X11_unify  w x5 x6 x7 x8 = some z) (hH : wH V (cM V) (AM V) s w H locs) (hl : lv_has ls 10 [(0, .ref (V.2.2 0)), (5, .int x5), (6, .int x6), (7, .int x7), (8, .int x8)]) : W p l e (rmD (d + 1)) s m args below meth c H locs 0 0 (MQ below (CtI V (cM V) (AM V) z) args s 0 0 (AM V)) (F0 m 78 ls []) := by
  unfold bX11_unify_78 at h
  obtain ⟨hx, hb, hml, hown, hg, hrt, hlk, hK⟩ := id X
  refine lv_aload_n (pc := 78) hx hb dX11_unify_78 rfl (lv_at hl 0 rfl) ?_
  refine lv_iload (pc := 79) hx hb dX11_unify_79 (lv_at hl 1 rfl) ?_
  refine r_cvI (pc := 81) (As := [.int x5]) (rest := []) X hH (fun x hx => mX11_isVariable hx) cw_X11_117 (heM_0 V w) rfl rfl rfl (Nat.le_of_ble_eq_true rfl) hl.1 h dX11_unify_81 (fun w9 v10 H locs h hH => ?_)
  refine b_if_eq (pc := 84) (tgt := 105) hx hb h dX11_unify_84 (by decide) (fun h => ?_) (fun h => ?_)
  · refine lv_aload_n (pc := 105) hx hb dX11_unify_105 rfl (lv_at hl 0 rfl) ?_
    refine lv_iload (pc := 106) hx hb dX11_unify_106 (lv_at hl 3 rfl) ?_
    refine r_cvI (pc := 108) (As := [.int x7]) (rest := []) X hH (fun x hx => mX11_isVariable hx) cw_X11_117 (heM_0 V w9) rfl rfl rfl (Nat.le_of_ble_eq_true rfl) hl.1 h dX11_unify_108 (fun w11 v12 H locs h hH => ?_)
    refine b_if_eq (pc := 111) (tgt := 132) hx hb h dX11_unify_111 (by decide) (fun h => ?_) (fun h => ?_)
    · refine lv_aload_n (pc := 132) hx hb dX11_unify_132 rfl (lv_at hl 0 rfl) ?_
      refine gM_X11_16_0 (pc := 133) X hH dX11_unify_133 ?_
      refine lv_iload (pc := 136) hx hb dX11_unify_136 (lv_at hl 1 rfl) ?_
      refine r_ld (pc := 138) X (heM_3 V w11) hH h dX11_unify_138 (fun v13 h => ?_)
      refine lv_aload_n (pc := 139) hx hb dX11_unify_139 rfl (lv_at hl 0 rfl) ?_
      refine gM_X11_16_0 (pc := 140) X hH dX11_unify_140 ?_
      refine lv_iload (pc := 143) hx hb dX11_unify_143 (lv_at hl 3 rfl) ?_
      refine r_ld (pc := 145) X (heM_3 V w11) hH h dX11_unify_145 (fun v14 h => ?_)
      refine b_icmp_eq (pc := 146) (tgt := 151) hx hb h dX11_unify_146 (by decide) (fun h => ?_) (fun h => ?_)
      · refine lv_iconst (pc := 151) (v := 0) hx hb dX11_unify_151 (by decide) ?_
        refine lv_istore (pc := 152) (lv' := [(9, .int ((0 : Int32))), (0, .ref (V.2.2 0)), (5, .int x5), (6, .int x6), (7, .int x7), (8, .int x8)]) hx hb dX11_unify_152 hl (by decide) rfl (fun ls hl => ?_)
        exact lX11_unify_154 X hs_X11_unify  N h hH (lv_sub hl [1, 2, 3, 4, 5, 0] rfl)
      · refine lv_iconst (pc := 149) (v := 0) hx hb dX11_unify_149 (by decide) ?_
        exact r_zretk (pc := 150) (by decide) X hH h dX11_unify_150
    · refine lv_aload_n (pc := 114) hx hb dX11_unify_114 rfl (lv_at hl 0 rfl) ?_
      refine lv_aload_n (pc := 115) hx hb dX11_unify_115 rfl (lv_at hl 0 rfl) ?_
      refine lv_iload (pc := 116) hx hb dX11_unify_116 (lv_at hl 3 rfl) ?_
      refine r_cvI (pc := 118) (As := [.int x7]) (rest := [.ref (V.2.2 0)]) X hH (fun x hx => mX11_variableOf hx) cw_X11_136 (heM_0 V w11) rfl rfl rfl (Nat.le_of_ble_eq_true rfl) hl.1 h dX11_unify_118 (fun w24 v25 H locs h hH => ?_)
      refine lv_iload (pc := 121) hx hb dX11_unify_121 (lv_at hl 4 rfl) ?_
      refine lv_iadd (pc := 123) hx hb dX11_unify_123 ?_
      refine lv_iload (pc := 124) hx hb dX11_unify_124 (lv_at hl 1 rfl) ?_
      refine lv_iload (pc := 126) hx hb dX11_unify_126 (lv_at hl 2 rfl) ?_
      refine r_cvI (pc := 128) (As := [.int (v25 + x8), .int x5, .int x6]) (rest := []) X hH (fun x hx => mX11_bind hx) cw_X11_256 (heM_0 V w24) rfl rfl rfl (Nat.le_of_ble_eq_true rfl) hl.1 h dX11_unify_128 (fun w26 v27 H locs h hH => ?_)
      exact r_zret (pc := 131) X hH h dX11_unify_131
  · refine lv_aload_n (pc := 87) hx hb dX11_unify_87 rfl (lv_at hl 0 rfl) ?_
    refine lv_aload_n (pc := 88) hx hb dX11_unify_88 rfl (lv_at hl 0 rfl) ?_
    refine lv_iload (pc := 89) hx hb dX11_unify_89 (lv_at hl 1 rfl) ?_
    refine r_cvI (pc := 91) (As := [.int x5]) (rest := [.ref (V.2.2 0)]) X hH (fun x hx => mX11_variableOf hx) cw_X11_136 (heM_0 V w9) rfl rfl rfl (Nat.le_of_ble_eq_true rfl) hl.1 h dX11_unify_91 (fun w28 v29 H locs h hH => ?_)
    refine lv_iload (pc := 94) hx hb dX11_unify_94 (lv_at hl 2 rfl) ?_
    refine lv_iadd (pc := 96) hx hb dX11_unify_96 ?_
    refine lv_iload (pc := 97) hx hb dX11_unify_97 (lv_at hl 3 rfl) ?_
    refine lv_iload (pc := 99) hx hb dX11_unify_99 (lv_at hl 4 rfl) ?_
    refine r_cvI (pc := 101) (As := [.int (v29 + x6), .int x7, .int x8]) (rest := []) X hH (fun x hx => mX11_bind hx) cw_X11_256 (heM_0 V w28) rfl rfl rfl (Nat.le_of_ble_eq_true rfl) hl.1 h dX11_unify_101 (fun w30 v31 H locs h hH => ?_)
    exact r_zret (pc := 104) X hH h dX11_unify_104
def bX11_unify_0 (N d : Nat) (self_X11_unify : Wd → Int32 → Int32 → Int32 → Int32 → Option (Wd × Int32))  (w : Wd) (x1 : Int32) (x2 : Int32) (x3 : Int32) (x4 : Int32) : Option (Wd × Int32) :=
  c_cv (eX11_walk N d w x1 x2) fun w1 =>
  c_nm (sI w1 10) fun x5_2 =>
  c_nm (sI w1 11) fun x6_3 =>
  c_cv (eX11_walk N d w1 x3 x4) fun w4 =>
  c_nm (sI w4 10) fun x7_5 =>
  c_nm (sI w4 11) fun x8_6 =>
  c_cl (eX11_isVariable N d w4 x5_2) fun w7 v8 =>
  if v8 = 0 then (
    bX11_unify_78 N d self_X11_unify  w7 x5_2 x6_3 x7_5 x8_6
  ) else (
    c_cl (eX11_isVariable N d w7 x7_5) fun w32 v33 =>
    if v33 = 0 then (
      bX11_unify_78 N d self_X11_unify  w32 x5_2 x6_3 x7_5 x8_6
    ) else (
      c_cl (eX11_variableOf N d w32 x5_2) fun w34 v35 =>
      c_cl (eX11_variableOf N d w34 x7_5) fun w36 v37 =>
      if (v35 + x6_3) = (v37 + x8_6) then (
        some (w36, 1)
      ) else (
        bX11_unify_78 N d self_X11_unify  w36 x5_2 x6_3 x7_5 x8_6
      )
    )
  )
set_option maxHeartbeats 4000000 in
theorem kX11_unify_0 {V : Ev} {p : Program} {l : Launch} {e : Env} {N d : Nat} {s : State} {m : MethodId} {args : Array Value} {below : List Frame} {meth : Method} {c : Code} {z : Wd × Int32} (X : CX V p s m args meth c cX11_unify 10 RX11 (some .boolean)) {self_X11_unify : Wd → Int32 → Int32 → Int32 → Int32 → Option (Wd × Int32)} (hs_X11_unify : ∀ (w : Wd) (a0 : Int32) (a1 : Int32) (a2 : Int32) (a3 : Int32) (x : Wd × Int32), self_X11_unify w a0 a1 a2 a3 = some x → MetI l V (cM V) (AM V) yX11_unify cX11_unify 10 (some .boolean) d [.ref (V.2.2 0), .int a0, .int a1, .int a2, .int a3] w x)  {w : Wd} {x1 : Int32} {x2 : Int32} {x3 : Int32} {x4 : Int32} {H : Heap} {locs : List Loc} {ls : Array Slot} (h : bX11_unify_0 N d self_X11_unify  w x1 x2 x3 x4 = some z) (hH : wH V (cM V) (AM V) s w H locs) (hl : lv_has ls 10 [(0, .ref (V.2.2 0)), (1, .int x1), (2, .int x2), (3, .int x3), (4, .int x4)]) : W p l e (rmD (d + 1)) s m args below meth c H locs 0 0 (MQ below (CtI V (cM V) (AM V) z) args s 0 0 (AM V)) (F0 m 0 ls []) := by
  unfold bX11_unify_0 at h
  obtain ⟨hx, hb, hml, hown, hg, hrt, hlk, hK⟩ := id X
  refine lv_aload_n (pc := 0) hx hb dX11_unify_0 rfl (lv_at hl 0 rfl) ?_
  refine lv_iload_n (pc := 1) hx hb dX11_unify_1 rfl (lv_at hl 1 rfl) ?_
  refine lv_iload_n (pc := 2) hx hb dX11_unify_2 rfl (lv_at hl 2 rfl) ?_
  refine r_cvV (pc := 3) (As := [.int x1, .int x2]) (rest := []) X hH (fun x hx => mX11_walk hx) cw_X11_248 (heM_0 V w) rfl rfl rfl (Nat.le_of_ble_eq_true rfl) hl.1 h dX11_unify_3 (fun w1 H locs h hH => ?_)
  refine lv_aload_n (pc := 6) hx hb dX11_unify_6 rfl (lv_at hl 0 rfl) ?_
  refine gM_X11_242_0 (pc := 7) X hH dX11_unify_7 ?_
  refine r_nmi h (fun x5_2 h => ?_)
  refine lv_istore (pc := 10) (lv' := [(5, .int x5_2), (0, .ref (V.2.2 0)), (1, .int x1), (2, .int x2), (3, .int x3), (4, .int x4)]) hx hb dX11_unify_10 hl (by decide) rfl (fun ls hl => ?_)
  refine lv_aload_n (pc := 12) hx hb dX11_unify_12 rfl (lv_at hl 1 rfl) ?_
  refine gM_X11_245_0 (pc := 13) X hH dX11_unify_13 ?_
  refine r_nmi h (fun x6_3 h => ?_)
  refine lv_istore (pc := 16) (lv' := [(6, .int x6_3), (5, .int x5_2), (0, .ref (V.2.2 0)), (1, .int x1), (2, .int x2), (3, .int x3), (4, .int x4)]) hx hb dX11_unify_16 hl (by decide) rfl (fun ls hl => ?_)
  refine lv_aload_n (pc := 18) hx hb dX11_unify_18 rfl (lv_at hl 2 rfl) ?_
  refine lv_iload_n (pc := 19) hx hb dX11_unify_19 rfl (lv_at hl 5 rfl) ?_
  refine lv_iload (pc := 20) hx hb dX11_unify_20 (lv_at hl 6 rfl) ?_
  refine r_cvV (pc := 22) (As := [.int x3, .int x4]) (rest := []) X hH (fun x hx => mX11_walk hx) cw_X11_248 (heM_0 V w1) rfl rfl rfl (Nat.le_of_ble_eq_true rfl) hl.1 h dX11_unify_22 (fun w4 H locs h hH => ?_)
  refine lv_aload_n (pc := 25) hx hb dX11_unify_25 rfl (lv_at hl 2 rfl) ?_
  refine gM_X11_242_0 (pc := 26) X hH dX11_unify_26 ?_
  refine r_nmi h (fun x7_5 h => ?_)
  refine lv_istore (pc := 29) (lv' := [(7, .int x7_5), (6, .int x6_3), (5, .int x5_2), (0, .ref (V.2.2 0)), (1, .int x1), (2, .int x2), (3, .int x3), (4, .int x4)]) hx hb dX11_unify_29 hl (by decide) rfl (fun ls hl => ?_)
  refine lv_aload_n (pc := 31) hx hb dX11_unify_31 rfl (lv_at hl 3 rfl) ?_
  refine gM_X11_245_0 (pc := 32) X hH dX11_unify_32 ?_
  refine r_nmi h (fun x8_6 h => ?_)
  refine lv_istore (pc := 35) (lv' := [(8, .int x8_6), (7, .int x7_5), (6, .int x6_3), (5, .int x5_2), (0, .ref (V.2.2 0)), (1, .int x1), (2, .int x2), (3, .int x3), (4, .int x4)]) hx hb dX11_unify_35 hl (by decide) rfl (fun ls hl => ?_)
  refine lv_aload_n (pc := 37) hx hb dX11_unify_37 rfl (lv_at hl 4 rfl) ?_
  refine lv_iload (pc := 38) hx hb dX11_unify_38 (lv_at hl 3 rfl) ?_
  refine r_cvI (pc := 40) (As := [.int x5_2]) (rest := []) X hH (fun x hx => mX11_isVariable hx) cw_X11_117 (heM_0 V w4) rfl rfl rfl (Nat.le_of_ble_eq_true rfl) hl.1 h dX11_unify_40 (fun w7 v8 H locs h hH => ?_)
  refine b_if_eq (pc := 43) (tgt := 78) hx hb h dX11_unify_43 (by decide) (fun h => ?_) (fun h => ?_)
  · exact kX11_unify_78 X hs_X11_unify  h hH (lv_sub hl [4, 3, 2, 1, 0] rfl)
  · refine lv_aload_n (pc := 46) hx hb dX11_unify_46 rfl (lv_at hl 4 rfl) ?_
    refine lv_iload (pc := 47) hx hb dX11_unify_47 (lv_at hl 1 rfl) ?_
    refine r_cvI (pc := 49) (As := [.int x7_5]) (rest := []) X hH (fun x hx => mX11_isVariable hx) cw_X11_117 (heM_0 V w7) rfl rfl rfl (Nat.le_of_ble_eq_true rfl) hl.1 h dX11_unify_49 (fun w32 v33 H locs h hH => ?_)
    refine b_if_eq (pc := 52) (tgt := 78) hx hb h dX11_unify_52 (by decide) (fun h => ?_) (fun h => ?_)
    · exact kX11_unify_78 X hs_X11_unify  h hH (lv_sub hl [4, 3, 2, 1, 0] rfl)
    · refine lv_aload_n (pc := 55) hx hb dX11_unify_55 rfl (lv_at hl 4 rfl) ?_
      refine lv_iload (pc := 56) hx hb dX11_unify_56 (lv_at hl 3 rfl) ?_
      refine r_cvI (pc := 58) (As := [.int x5_2]) (rest := []) X hH (fun x hx => mX11_variableOf hx) cw_X11_136 (heM_0 V w32) rfl rfl rfl (Nat.le_of_ble_eq_true rfl) hl.1 h dX11_unify_58 (fun w34 v35 H locs h hH => ?_)
      refine lv_iload (pc := 61) hx hb dX11_unify_61 (lv_at hl 2 rfl) ?_
      refine lv_iadd (pc := 63) hx hb dX11_unify_63 ?_
      refine lv_aload_n (pc := 64) hx hb dX11_unify_64 rfl (lv_at hl 4 rfl) ?_
      refine lv_iload (pc := 65) hx hb dX11_unify_65 (lv_at hl 1 rfl) ?_
      refine r_cvI (pc := 67) (As := [.int x7_5]) (rest := [.int (v35 + x6_3)]) X hH (fun x hx => mX11_variableOf hx) cw_X11_136 (heM_0 V w34) rfl rfl rfl (Nat.le_of_ble_eq_true rfl) hl.1 h dX11_unify_67 (fun w36 v37 H locs h hH => ?_)
      refine lv_iload (pc := 70) hx hb dX11_unify_70 (lv_at hl 0 rfl) ?_
      refine lv_iadd (pc := 72) hx hb dX11_unify_72 ?_
      refine b_icmp_ne (pc := 73) (tgt := 78) hx hb h dX11_unify_73 (by decide) (fun h => ?_) (fun h => ?_)
      · exact kX11_unify_78 X hs_X11_unify  h hH (lv_sub hl [4, 3, 2, 1, 0] rfl)
      · refine lv_iconst (pc := 76) (v := 1) hx hb dX11_unify_76 (by decide) ?_
        exact r_zretk (pc := 77) (by decide) X hH h dX11_unify_77
def eX11_unify (N : Nat) : Nat → Wd → Int32 → Int32 → Int32 → Int32 → Option (Wd × Int32)
  | 0 => fun _ _ _ _ _ => none
  | d + 1 => fun w x1 x2 x3 x4 => bX11_unify_0 N d (eX11_unify N d) w x1 x2 x3 x4
set_option maxHeartbeats 4000000 in
set_option maxRecDepth 20000 in
theorem mX11_unify {l : Launch} {V : Ev} {N d : Nat} {w : Wd} {x1 : Int32} {x2 : Int32} {x3 : Int32} {x4 : Int32} {z : Wd × Int32} (h : eX11_unify N d w x1 x2 x3 x4 = some z) : MetI l V (cM V) (AM V) yX11_unify cX11_unify 10 (some .boolean) d [.ref (V.2.2 0), .int x1, .int x2, .int x3, .int x4] w z := by
  induction d generalizing w x1 x2 x3 x4 z with
  | zero => exact c_none h
  | succ d ih =>
    refine Met.ofW (cc := cX11_unify) (maxL := 10) (ret := (some .boolean)) (by decide) rfl ?_
    intro p e s m args below meth c s₁ B hml hv
    obtain ⟨rfl, hP, hD, hK⟩ := hv
    have hts := atoms_spec (ws := .code yX11_unify cX11_unify 10 (some .boolean) :: gG) B.pre
    have X : CX V p s m ([.ref (V.2.2 0), .int x1, .int x2, .int x3, .int x4] : List Value).toArray meth c cX11_unify 10 RX11 (some .boolean) := ⟨B.exec, B.bytes, hml, findClass_of_methodNamed B.named, fun w hw => hts w (List.mem_cons_of_mem _ hw), B.returns, B.notSynchronized, hK⟩
    have hl := lv_entry ([.ref (V.2.2 0), .int x1, .int x2, .int x3, .int x4] : List Value) (n := 10) (Nat.le_of_ble_eq_true rfl)
    rw [lg_entry_eq]
    generalize (lg_sl ([.ref (V.2.2 0), .int x1, .int x2, .int x3, .int x4] : List Value) ++ List.replicate (10 - (lg_sl ([.ref (V.2.2 0), .int x1, .int x2, .int x3, .int x4] : List Value)).length) Slot.unset).toArray = ls at hl ⊢
    have hl : lv_has ls 10 [(0, .ref (V.2.2 0)), (1, .int x1), (2, .int x2), (3, .int x3), (4, .int x4)] := hl
    exact kX11_unify_0 (N := N) X (fun _ _ _ _ _ _ h => ih h) h ⟨hP, hD, va_S.rf⟩ hl
theorem dX11_number_0 : decode cX11_number 0 = .ok (.aload_n 0, 1) := by decide +kernel
theorem dX11_number_1 : decode cX11_number 1 = .ok (.iload_n 1, 1) := by decide +kernel
theorem dX11_number_2 : decode cX11_number 2 = .ok (.iload_n 2, 1) := by decide +kernel
theorem dX11_number_3 : decode cX11_number 3 = .ok (.invokevirtual 248, 3) := by decide +kernel
theorem dX11_number_6 : decode cX11_number 6 = .ok (.aload_n 0, 1) := by decide +kernel
theorem dX11_number_7 : decode cX11_number 7 = .ok (.getfield 242, 3) := by decide +kernel
theorem dX11_number_10 : decode cX11_number 10 = .ok (.istore_n 3, 1) := by decide +kernel
theorem dX11_number_11 : decode cX11_number 11 = .ok (.aload_n 0, 1) := by decide +kernel
theorem dX11_number_12 : decode cX11_number 12 = .ok (.getfield 245, 3) := by decide +kernel
theorem dX11_number_15 : decode cX11_number 15 = .ok (.istore 4, 2) := by decide +kernel
theorem dX11_number_17 : decode cX11_number 17 = .ok (.aload_n 0, 1) := by decide +kernel
theorem dX11_number_18 : decode cX11_number 18 = .ok (.iload_n 3, 1) := by decide +kernel
theorem dX11_number_19 : decode cX11_number 19 = .ok (.invokevirtual 117, 3) := by decide +kernel
theorem dX11_number_22 : decode cX11_number 22 = .ok (.ifCond .eq 45, 3) := by decide +kernel
theorem dX11_number_25 : decode cX11_number 25 = .ok (.aload_n 0, 1) := by decide +kernel
theorem dX11_number_26 : decode cX11_number 26 = .ok (.iload_n 3, 1) := by decide +kernel
theorem dX11_number_27 : decode cX11_number 27 = .ok (.invokevirtual 136, 3) := by decide +kernel
theorem dX11_number_30 : decode cX11_number 30 = .ok (.iload 4, 2) := by decide +kernel
theorem dX11_number_32 : decode cX11_number 32 = .ok (.iadd, 1) := by decide +kernel
theorem dX11_number_33 : decode cX11_number 33 = .ok (.istore 5, 2) := by decide +kernel
theorem dX11_number_35 : decode cX11_number 35 = .ok (.aload_n 0, 1) := by decide +kernel
theorem dX11_number_36 : decode cX11_number 36 = .ok (.getfield 72, 3) := by decide +kernel
theorem dX11_number_39 : decode cX11_number 39 = .ok (.iload 5, 2) := by decide +kernel
theorem dX11_number_41 : decode cX11_number 41 = .ok (.iaload, 1) := by decide +kernel
theorem dX11_number_42 : decode cX11_number 42 = .ok (.iconst (-1), 1) := by decide +kernel
theorem dX11_number_43 : decode cX11_number 43 = .ok (.if_icmp .ne 24, 3) := by decide +kernel
theorem dX11_number_46 : decode cX11_number 46 = .ok (.aload_n 0, 1) := by decide +kernel
theorem dX11_number_47 : decode cX11_number 47 = .ok (.getfield 72, 3) := by decide +kernel
theorem dX11_number_50 : decode cX11_number 50 = .ok (.iload 5, 2) := by decide +kernel
theorem dX11_number_52 : decode cX11_number 52 = .ok (.aload_n 0, 1) := by decide +kernel
theorem dX11_number_53 : decode cX11_number 53 = .ok (.getfield 263, 3) := by decide +kernel
theorem dX11_number_56 : decode cX11_number 56 = .ok (.iastore, 1) := by decide +kernel
theorem dX11_number_57 : decode cX11_number 57 = .ok (.aload_n 0, 1) := by decide +kernel
theorem dX11_number_58 : decode cX11_number 58 = .ok (.dup, 1) := by decide +kernel
theorem dX11_number_59 : decode cX11_number 59 = .ok (.getfield 263, 3) := by decide +kernel
theorem dX11_number_62 : decode cX11_number 62 = .ok (.iconst 1, 1) := by decide +kernel
theorem dX11_number_63 : decode cX11_number 63 = .ok (.iadd, 1) := by decide +kernel
theorem dX11_number_64 : decode cX11_number 64 = .ok (.putfield 263, 3) := by decide +kernel
theorem dX11_number_67 : decode cX11_number 67 = .ok (.iconst 0, 1) := by decide +kernel
theorem dX11_number_68 : decode cX11_number 68 = .ok (.istore 5, 2) := by decide +kernel
theorem dX11_number_70 : decode cX11_number 70 = .ok (.iload 5, 2) := by decide +kernel
theorem dX11_number_72 : decode cX11_number 72 = .ok (.aload_n 0, 1) := by decide +kernel
theorem dX11_number_73 : decode cX11_number 73 = .ok (.iload_n 3, 1) := by decide +kernel
theorem dX11_number_74 : decode cX11_number 74 = .ok (.invokevirtual 140, 3) := by decide +kernel
theorem dX11_number_77 : decode cX11_number 77 = .ok (.if_icmp .ge 22, 3) := by decide +kernel
theorem dX11_number_80 : decode cX11_number 80 = .ok (.aload_n 0, 1) := by decide +kernel
theorem dX11_number_81 : decode cX11_number 81 = .ok (.aload_n 0, 1) := by decide +kernel
theorem dX11_number_82 : decode cX11_number 82 = .ok (.iload_n 3, 1) := by decide +kernel
theorem dX11_number_83 : decode cX11_number 83 = .ok (.iload 5, 2) := by decide +kernel
theorem dX11_number_85 : decode cX11_number 85 = .ok (.invokevirtual 143, 3) := by decide +kernel
theorem dX11_number_88 : decode cX11_number 88 = .ok (.iload 4, 2) := by decide +kernel
theorem dX11_number_90 : decode cX11_number 90 = .ok (.invokevirtual 266, 3) := by decide +kernel
theorem dX11_number_93 : decode cX11_number 93 = .ok (.iinc 5 1, 3) := by decide +kernel
theorem dX11_number_96 : decode cX11_number 96 = .ok (.goto (-26), 3) := by decide +kernel
theorem dX11_number_99 : decode cX11_number 99 = .ok (.return_, 1) := by decide +kernel
def bX11_number_70 (N d : Nat) (self_X11_number : Wd → Int32 → Int32 → Option (Wd)) (rec70 : Wd → Int32 → Int32 → Int32 → Option (Wd)) (w : Wd) (x3 : Int32) (x4 : Int32) (x5 : Int32) : Option (Wd) :=
  c_cl (eX11_parts N d w x3) fun w6 v7 =>
  if v7 ≤ x5 then (
    some w6
  ) else (
    c_cl (eX11_partOf N d w6 x3 x5) fun w8 v9 =>
    c_cv (self_X11_number w8 v9 x4) fun w10 =>
    c_nm (x5 + 1) fun x5_11 =>
    rec70 w10 x3 x4 x5_11
  )
set_option maxHeartbeats 4000000 in
theorem kX11_number_70 {V : Ev} {p : Program} {l : Launch} {e : Env} {N d : Nat} {s : State} {m : MethodId} {args : Array Value} {below : List Frame} {meth : Method} {c : Code} {z : Wd} (X : CX V p s m args meth c cX11_number 6 RX11 none) {self_X11_number : Wd → Int32 → Int32 → Option (Wd)} (hs_X11_number : ∀ (w : Wd) (a0 : Int32) (a1 : Int32) (x : Wd), self_X11_number w a0 a1 = some x → MetV l V (cM V) (AM V) yX11_number cX11_number 6 none d [.ref (V.2.2 0), .int a0, .int a1] w x) {rec70 : Wd → Int32 → Int32 → Int32 → Option (Wd)} (hr70 : ∀ (w : Wd) (x3 : Int32) (x4 : Int32) (x5 : Int32) (H : Heap) (locs : List Loc) (ls : Array Slot), rec70 w x3 x4 x5 = some z → wH V (cM V) (AM V) s w H locs → lv_has ls 6 [(0, .ref (V.2.2 0)), (3, .int x3), (4, .int x4), (5, .int x5)] → W p l e (rmD (d + 1)) s m args below meth c H locs 0 0 (MQ below (CtV V (cM V) (AM V) z) args s 0 0 (AM V)) (F0 m 70 ls [])) {w : Wd} {x3 : Int32} {x4 : Int32} {x5 : Int32} {H : Heap} {locs : List Loc} {ls : Array Slot} (h : bX11_number_70 N d self_X11_number rec70 w x3 x4 x5 = some z) (hH : wH V (cM V) (AM V) s w H locs) (hl : lv_has ls 6 [(0, .ref (V.2.2 0)), (3, .int x3), (4, .int x4), (5, .int x5)]) : W p l e (rmD (d + 1)) s m args below meth c H locs 0 0 (MQ below (CtV V (cM V) (AM V) z) args s 0 0 (AM V)) (F0 m 70 ls []) := by
  unfold bX11_number_70 at h
  obtain ⟨hx, hb, hml, hown, hg, hrt, hlk, hK⟩ := id X
  refine lv_iload (pc := 70) hx hb dX11_number_70 (lv_at hl 3 rfl) ?_
  refine lv_aload_n (pc := 72) hx hb dX11_number_72 rfl (lv_at hl 0 rfl) ?_
  refine lv_iload_n (pc := 73) hx hb dX11_number_73 rfl (lv_at hl 1 rfl) ?_
  refine r_cvI (pc := 74) (As := [.int x3]) (rest := [.int x5]) X hH (fun x hx => mX11_parts hx) cw_X11_140 (heM_0 V w) rfl rfl rfl (Nat.le_of_ble_eq_true rfl) hl.1 h dX11_number_74 (fun w6 v7 H locs h hH => ?_)
  refine b_icmp_ge (pc := 77) (tgt := 99) hx hb h dX11_number_77 (by decide) (fun h => ?_) (fun h => ?_)
  · exact r_vret (pc := 99) X hH h dX11_number_99
  · refine lv_aload_n (pc := 80) hx hb dX11_number_80 rfl (lv_at hl 0 rfl) ?_
    refine lv_aload_n (pc := 81) hx hb dX11_number_81 rfl (lv_at hl 0 rfl) ?_
    refine lv_iload_n (pc := 82) hx hb dX11_number_82 rfl (lv_at hl 1 rfl) ?_
    refine lv_iload (pc := 83) hx hb dX11_number_83 (lv_at hl 3 rfl) ?_
    refine r_cvI (pc := 85) (As := [.int x3, .int x5]) (rest := [.ref (V.2.2 0)]) X hH (fun x hx => mX11_partOf hx) cw_X11_143 (heM_0 V w6) rfl rfl rfl (Nat.le_of_ble_eq_true rfl) hl.1 h dX11_number_85 (fun w8 v9 H locs h hH => ?_)
    refine lv_iload (pc := 88) hx hb dX11_number_88 (lv_at hl 2 rfl) ?_
    refine r_cvV (pc := 90) (As := [.int v9, .int x4]) (rest := []) X hH (fun x hx => hs_X11_number _ _ _ _ hx) cw_X11_266 (heM_0 V w8) rfl rfl rfl (Nat.le_of_ble_eq_true rfl) hl.1 h dX11_number_90 (fun w10 H locs h hH => ?_)
    obtain ⟨x5_11, ex5_11, h⟩ := c_nm_ex h
    refine lv_iinc (pc := 93) (v := x5_11) (lv' := [(5, .int x5_11), (0, .ref (V.2.2 0)), (3, .int x3), (4, .int x4)]) hx hb dX11_number_93 hl (k := 3) rfl (by rw [← ex5_11]; rfl) (by decide) rfl (fun ls hl => ?_)
    refine lv_goto (pc := 96) (tgt := 70) hx hb dX11_number_96 (by decide) ?_
    exact hr70 _ _ _ _ _ _ _ h hH (lv_sub hl [1, 2, 3, 0] rfl)
def fX11_number_70 (N d : Nat) (self_X11_number : Wd → Int32 → Int32 → Option (Wd))  : Nat → Wd → Int32 → Int32 → Int32 → Option (Wd)
  | 0 => fun _ _ _ _ => none
  | n + 1 => fun w x3 x4 x5 => bX11_number_70 N d self_X11_number  (fX11_number_70 N d self_X11_number  n) w x3 x4 x5
theorem lX11_number_70 {V : Ev} {p : Program} {l : Launch} {e : Env} {N d : Nat} {s : State} {m : MethodId} {args : Array Value} {below : List Frame} {meth : Method} {c : Code} {z : Wd} (X : CX V p s m args meth c cX11_number 6 RX11 none) {self_X11_number : Wd → Int32 → Int32 → Option (Wd)} (hs_X11_number : ∀ (w : Wd) (a0 : Int32) (a1 : Int32) (x : Wd), self_X11_number w a0 a1 = some x → MetV l V (cM V) (AM V) yX11_number cX11_number 6 none d [.ref (V.2.2 0), .int a0, .int a1] w x)  (n : Nat) {w : Wd} {x3 : Int32} {x4 : Int32} {x5 : Int32} {H : Heap} {locs : List Loc} {ls : Array Slot} (h : fX11_number_70 N d self_X11_number  n w x3 x4 x5 = some z) (hH : wH V (cM V) (AM V) s w H locs) (hl : lv_has ls 6 [(0, .ref (V.2.2 0)), (3, .int x3), (4, .int x4), (5, .int x5)]) : W p l e (rmD (d + 1)) s m args below meth c H locs 0 0 (MQ below (CtV V (cM V) (AM V) z) args s 0 0 (AM V)) (F0 m 70 ls []) := by
  induction n generalizing w x3 x4 x5 H locs ls with
  | zero => exact c_none h
  | succ n ih => exact kX11_number_70 (N := N) X hs_X11_number (fun _ _ _ _ _ _ _ h hH hl => ih h hH hl) h hH hl
def bX11_number_67 (N d : Nat) (self_X11_number : Wd → Int32 → Int32 → Option (Wd))  (w : Wd) (x3 : Int32) (x4 : Int32) : Option (Wd) :=
  fX11_number_70 N d self_X11_number  N w x3 x4 ((0 : Int32))
set_option maxHeartbeats 4000000 in
theorem kX11_number_67 {V : Ev} {p : Program} {l : Launch} {e : Env} {N d : Nat} {s : State} {m : MethodId} {args : Array Value} {below : List Frame} {meth : Method} {c : Code} {z : Wd} (X : CX V p s m args meth c cX11_number 6 RX11 none) {self_X11_number : Wd → Int32 → Int32 → Option (Wd)} (hs_X11_number : ∀ (w : Wd) (a0 : Int32) (a1 : Int32) (x : Wd), self_X11_number w a0 a1 = some x → MetV l V (cM V) (AM V) yX11_number cX11_number 6 none d [.ref (V.2.2 0), .int a0, .int a1] w x)  {w : Wd} {x3 : Int32} {x4 : Int32} {H : Heap} {locs : List Loc} {ls : Array Slot} (h : bX11_number_67 N d self_X11_number  w x3 x4 = some z) (hH : wH V (cM V) (AM V) s w H locs) (hl : lv_has ls 6 [(0, .ref (V.2.2 0)), (3, .int x3), (4, .int x4)]) : W p l e (rmD (d + 1)) s m args below meth c H locs 0 0 (MQ below (CtV V (cM V) (AM V) z) args s 0 0 (AM V)) (F0 m 67 ls []) := by
  unfold bX11_number_67 at h
  obtain ⟨hx, hb, hml, hown, hg, hrt, hlk, hK⟩ := id X
  refine lv_iconst (pc := 67) (v := 0) hx hb dX11_number_67 (by decide) ?_
  refine lv_istore (pc := 68) (lv' := [(5, .int ((0 : Int32))), (0, .ref (V.2.2 0)), (3, .int x3), (4, .int x4)]) hx hb dX11_number_68 hl (by decide) rfl (fun ls hl => ?_)
  exact lX11_number_70 X hs_X11_number  N h hH (lv_sub hl [1, 2, 3, 0] rfl)
def bX11_number_0 (N d : Nat) (self_X11_number : Wd → Int32 → Int32 → Option (Wd))  (w : Wd) (x1 : Int32) (x2 : Int32) : Option (Wd) :=
  c_cv (eX11_walk N d w x1 x2) fun w1 =>
  c_nm (sI w1 10) fun x3_2 =>
  c_nm (sI w1 11) fun x4_3 =>
  c_cl (eX11_isVariable N d w1 x3_2) fun w4 v5 =>
  if v5 = 0 then (
    bX11_number_67 N d self_X11_number  w4 x3_2 x4_3
  ) else (
    c_cl (eX11_variableOf N d w4 x3_2) fun w12 v13 =>
    c_nm (v13 + x4_3) fun x5_14 =>
    c_ld w12 21 8 x5_14 fun v15 =>
    if v15 = (-1) then (
      c_st w12 21 8 x5_14 (sI w12 12) fun w16 =>
      c_pi w16 12 ((sI w16 12) + 1) fun w17 =>
      bX11_number_67 N d self_X11_number  w17 x3_2 x4_3
    ) else (
      bX11_number_67 N d self_X11_number  w12 x3_2 x4_3
    )
  )
set_option maxHeartbeats 4000000 in
theorem kX11_number_0 {V : Ev} {p : Program} {l : Launch} {e : Env} {N d : Nat} {s : State} {m : MethodId} {args : Array Value} {below : List Frame} {meth : Method} {c : Code} {z : Wd} (X : CX V p s m args meth c cX11_number 6 RX11 none) {self_X11_number : Wd → Int32 → Int32 → Option (Wd)} (hs_X11_number : ∀ (w : Wd) (a0 : Int32) (a1 : Int32) (x : Wd), self_X11_number w a0 a1 = some x → MetV l V (cM V) (AM V) yX11_number cX11_number 6 none d [.ref (V.2.2 0), .int a0, .int a1] w x)  {w : Wd} {x1 : Int32} {x2 : Int32} {H : Heap} {locs : List Loc} {ls : Array Slot} (h : bX11_number_0 N d self_X11_number  w x1 x2 = some z) (hH : wH V (cM V) (AM V) s w H locs) (hl : lv_has ls 6 [(0, .ref (V.2.2 0)), (1, .int x1), (2, .int x2)]) : W p l e (rmD (d + 1)) s m args below meth c H locs 0 0 (MQ below (CtV V (cM V) (AM V) z) args s 0 0 (AM V)) (F0 m 0 ls []) := by
  unfold bX11_number_0 at h
  obtain ⟨hx, hb, hml, hown, hg, hrt, hlk, hK⟩ := id X
  refine lv_aload_n (pc := 0) hx hb dX11_number_0 rfl (lv_at hl 0 rfl) ?_
  refine lv_iload_n (pc := 1) hx hb dX11_number_1 rfl (lv_at hl 1 rfl) ?_
  refine lv_iload_n (pc := 2) hx hb dX11_number_2 rfl (lv_at hl 2 rfl) ?_
  refine r_cvV (pc := 3) (As := [.int x1, .int x2]) (rest := []) X hH (fun x hx => mX11_walk hx) cw_X11_248 (heM_0 V w) rfl rfl rfl (Nat.le_of_ble_eq_true rfl) hl.1 h dX11_number_3 (fun w1 H locs h hH => ?_)
  refine lv_aload_n (pc := 6) hx hb dX11_number_6 rfl (lv_at hl 0 rfl) ?_
  refine gM_X11_242_0 (pc := 7) X hH dX11_number_7 ?_
  refine r_nmi h (fun x3_2 h => ?_)
  refine lv_istore_n (pc := 10) (lv' := [(3, .int x3_2), (0, .ref (V.2.2 0)), (1, .int x1), (2, .int x2)]) hx hb dX11_number_10 rfl hl (by decide) rfl (fun ls hl => ?_)
  refine lv_aload_n (pc := 11) hx hb dX11_number_11 rfl (lv_at hl 1 rfl) ?_
  refine gM_X11_245_0 (pc := 12) X hH dX11_number_12 ?_
  refine r_nmi h (fun x4_3 h => ?_)
  refine lv_istore (pc := 15) (lv' := [(4, .int x4_3), (3, .int x3_2), (0, .ref (V.2.2 0)), (1, .int x1), (2, .int x2)]) hx hb dX11_number_15 hl (by decide) rfl (fun ls hl => ?_)
  refine lv_aload_n (pc := 17) hx hb dX11_number_17 rfl (lv_at hl 2 rfl) ?_
  refine lv_iload_n (pc := 18) hx hb dX11_number_18 rfl (lv_at hl 1 rfl) ?_
  refine r_cvI (pc := 19) (As := [.int x3_2]) (rest := []) X hH (fun x hx => mX11_isVariable hx) cw_X11_117 (heM_0 V w1) rfl rfl rfl (Nat.le_of_ble_eq_true rfl) hl.1 h dX11_number_19 (fun w4 v5 H locs h hH => ?_)
  refine b_if_eq (pc := 22) (tgt := 67) hx hb h dX11_number_22 (by decide) (fun h => ?_) (fun h => ?_)
  · exact kX11_number_67 X hs_X11_number  h hH (lv_sub hl [2, 1, 0] rfl)
  · refine lv_aload_n (pc := 25) hx hb dX11_number_25 rfl (lv_at hl 2 rfl) ?_
    refine lv_iload_n (pc := 26) hx hb dX11_number_26 rfl (lv_at hl 1 rfl) ?_
    refine r_cvI (pc := 27) (As := [.int x3_2]) (rest := []) X hH (fun x hx => mX11_variableOf hx) cw_X11_136 (heM_0 V w4) rfl rfl rfl (Nat.le_of_ble_eq_true rfl) hl.1 h dX11_number_27 (fun w12 v13 H locs h hH => ?_)
    refine lv_iload (pc := 30) hx hb dX11_number_30 (lv_at hl 0 rfl) ?_
    refine lv_iadd (pc := 32) hx hb dX11_number_32 ?_
    refine r_nmi h (fun x5_14 h => ?_)
    refine lv_istore (pc := 33) (lv' := [(5, .int x5_14), (4, .int x4_3), (3, .int x3_2), (0, .ref (V.2.2 0)), (1, .int x1), (2, .int x2)]) hx hb dX11_number_33 hl (by decide) rfl (fun ls hl => ?_)
    refine lv_aload_n (pc := 35) hx hb dX11_number_35 rfl (lv_at hl 3 rfl) ?_
    refine gM_X11_72_0 (pc := 36) X hH dX11_number_36 ?_
    refine lv_iload (pc := 39) hx hb dX11_number_39 (lv_at hl 0 rfl) ?_
    refine r_ld (pc := 41) X (heM_21 V w12) hH h dX11_number_41 (fun v15 h => ?_)
    refine lv_iconst (pc := 42) (v := -1) hx hb dX11_number_42 (by decide) ?_
    refine b_icmp_ne (pc := 43) (tgt := 67) hx hb h dX11_number_43 (by decide) (fun h => ?_) (fun h => ?_)
    · exact kX11_number_67 X hs_X11_number  h hH (lv_sub hl [3, 2, 1] rfl)
    · refine lv_aload_n (pc := 46) hx hb dX11_number_46 rfl (lv_at hl 3 rfl) ?_
      refine gM_X11_72_0 (pc := 47) X hH dX11_number_47 ?_
      refine lv_iload (pc := 50) hx hb dX11_number_50 (lv_at hl 0 rfl) ?_
      refine lv_aload_n (pc := 52) hx hb dX11_number_52 rfl (lv_at hl 3 rfl) ?_
      refine gM_X11_263_0 (pc := 53) X hH dX11_number_53 ?_
      refine r_st (pc := 56) X (heM_21 V w12) (hsM_21 V w12) hH h dX11_number_56 (fun w16 H locs h hH => ?_)
      refine lv_aload_n (pc := 57) hx hb dX11_number_57 rfl (lv_at hl 3 rfl) ?_
      refine lv_dup (pc := 58) hx hb dX11_number_58 rfl ?_
      refine gM_X11_263_0 (pc := 59) X hH dX11_number_59 ?_
      refine lv_iconst (pc := 62) (v := 1) hx hb dX11_number_62 (by decide) ?_
      refine lv_iadd (pc := 63) hx hb dX11_number_63 ?_
      refine pM_X11_263_0 (pc := 64) X hH h dX11_number_64 (fun w17 H locs h hH => ?_)
      exact kX11_number_67 X hs_X11_number  h hH (lv_sub hl [3, 2, 1] rfl)
def eX11_number (N : Nat) : Nat → Wd → Int32 → Int32 → Option (Wd)
  | 0 => fun _ _ _ => none
  | d + 1 => fun w x1 x2 => bX11_number_0 N d (eX11_number N d) w x1 x2
set_option maxHeartbeats 4000000 in
set_option maxRecDepth 20000 in
theorem mX11_number {l : Launch} {V : Ev} {N d : Nat} {w : Wd} {x1 : Int32} {x2 : Int32} {z : Wd} (h : eX11_number N d w x1 x2 = some z) : MetV l V (cM V) (AM V) yX11_number cX11_number 6 none d [.ref (V.2.2 0), .int x1, .int x2] w z := by
  induction d generalizing w x1 x2 z with
  | zero => exact c_none h
  | succ d ih =>
    refine Met.ofW (cc := cX11_number) (maxL := 6) (ret := none) (by decide) rfl ?_
    intro p e s m args below meth c s₁ B hml hv
    obtain ⟨rfl, hP, hD, hK⟩ := hv
    have hts := atoms_spec (ws := .code yX11_number cX11_number 6 none :: gG) B.pre
    have X : CX V p s m ([.ref (V.2.2 0), .int x1, .int x2] : List Value).toArray meth c cX11_number 6 RX11 none := ⟨B.exec, B.bytes, hml, findClass_of_methodNamed B.named, fun w hw => hts w (List.mem_cons_of_mem _ hw), B.returns, B.notSynchronized, hK⟩
    have hl := lv_entry ([.ref (V.2.2 0), .int x1, .int x2] : List Value) (n := 6) (Nat.le_of_ble_eq_true rfl)
    rw [lg_entry_eq]
    generalize (lg_sl ([.ref (V.2.2 0), .int x1, .int x2] : List Value) ++ List.replicate (6 - (lg_sl ([.ref (V.2.2 0), .int x1, .int x2] : List Value)).length) Slot.unset).toArray = ls at hl ⊢
    have hl : lv_has ls 6 [(0, .ref (V.2.2 0)), (1, .int x1), (2, .int x2)] := hl
    exact kX11_number_0 (N := N) X (fun _ _ _ _ h => ih h) h ⟨hP, hD, va_S.rf⟩ hl
theorem dX11_built_0 : decode cX11_built 0 = .ok (.aload_n 0, 1) := by decide +kernel
theorem dX11_built_1 : decode cX11_built 1 = .ok (.iload_n 1, 1) := by decide +kernel
theorem dX11_built_2 : decode cX11_built 2 = .ok (.iload_n 2, 1) := by decide +kernel
theorem dX11_built_3 : decode cX11_built 3 = .ok (.invokevirtual 248, 3) := by decide +kernel
theorem dX11_built_6 : decode cX11_built 6 = .ok (.aload_n 0, 1) := by decide +kernel
theorem dX11_built_7 : decode cX11_built 7 = .ok (.getfield 242, 3) := by decide +kernel
theorem dX11_built_10 : decode cX11_built 10 = .ok (.istore_n 3, 1) := by decide +kernel
theorem dX11_built_11 : decode cX11_built 11 = .ok (.aload_n 0, 1) := by decide +kernel
theorem dX11_built_12 : decode cX11_built 12 = .ok (.getfield 245, 3) := by decide +kernel
theorem dX11_built_15 : decode cX11_built 15 = .ok (.istore 4, 2) := by decide +kernel
theorem dX11_built_17 : decode cX11_built 17 = .ok (.aload_n 0, 1) := by decide +kernel
theorem dX11_built_18 : decode cX11_built 18 = .ok (.iload_n 3, 1) := by decide +kernel
theorem dX11_built_19 : decode cX11_built 19 = .ok (.invokevirtual 117, 3) := by decide +kernel
theorem dX11_built_22 : decode cX11_built 22 = .ok (.ifCond .eq 25, 3) := by decide +kernel
theorem dX11_built_25 : decode cX11_built 25 = .ok (.aload_n 0, 1) := by decide +kernel
theorem dX11_built_26 : decode cX11_built 26 = .ok (.iconst (-1), 1) := by decide +kernel
theorem dX11_built_27 : decode cX11_built 27 = .ok (.aload_n 0, 1) := by decide +kernel
theorem dX11_built_28 : decode cX11_built 28 = .ok (.getfield 72, 3) := by decide +kernel
theorem dX11_built_31 : decode cX11_built 31 = .ok (.aload_n 0, 1) := by decide +kernel
theorem dX11_built_32 : decode cX11_built 32 = .ok (.iload_n 3, 1) := by decide +kernel
theorem dX11_built_33 : decode cX11_built 33 = .ok (.invokevirtual 136, 3) := by decide +kernel
theorem dX11_built_36 : decode cX11_built 36 = .ok (.iload 4, 2) := by decide +kernel
theorem dX11_built_38 : decode cX11_built 38 = .ok (.iadd, 1) := by decide +kernel
theorem dX11_built_39 : decode cX11_built 39 = .ok (.iaload, 1) := by decide +kernel
theorem dX11_built_40 : decode cX11_built 40 = .ok (.isub, 1) := by decide +kernel
theorem dX11_built_41 : decode cX11_built 41 = .ok (.iconst (-1), 1) := by decide +kernel
theorem dX11_built_42 : decode cX11_built 42 = .ok (.iconst (-1), 1) := by decide +kernel
theorem dX11_built_43 : decode cX11_built 43 = .ok (.invokevirtual 154, 3) := by decide +kernel
theorem dX11_built_46 : decode cX11_built 46 = .ok (.ireturn, 1) := by decide +kernel
theorem dX11_built_47 : decode cX11_built 47 = .ok (.aload_n 0, 1) := by decide +kernel
theorem dX11_built_48 : decode cX11_built 48 = .ok (.iload_n 3, 1) := by decide +kernel
theorem dX11_built_49 : decode cX11_built 49 = .ok (.invokevirtual 140, 3) := by decide +kernel
theorem dX11_built_52 : decode cX11_built 52 = .ok (.ifCond .le 18, 3) := by decide +kernel
theorem dX11_built_55 : decode cX11_built 55 = .ok (.aload_n 0, 1) := by decide +kernel
theorem dX11_built_56 : decode cX11_built 56 = .ok (.aload_n 0, 1) := by decide +kernel
theorem dX11_built_57 : decode cX11_built 57 = .ok (.getfield 19, 3) := by decide +kernel
theorem dX11_built_60 : decode cX11_built 60 = .ok (.iload_n 3, 1) := by decide +kernel
theorem dX11_built_61 : decode cX11_built 61 = .ok (.iaload, 1) := by decide +kernel
theorem dX11_built_62 : decode cX11_built 62 = .ok (.iload 4, 2) := by decide +kernel
theorem dX11_built_64 : decode cX11_built 64 = .ok (.invokevirtual 269, 3) := by decide +kernel
theorem dX11_built_67 : decode cX11_built 67 = .ok (.goto 4, 3) := by decide +kernel
theorem dX11_built_70 : decode cX11_built 70 = .ok (.iconst (-1), 1) := by decide +kernel
theorem dX11_built_71 : decode cX11_built 71 = .ok (.istore 5, 2) := by decide +kernel
theorem dX11_built_73 : decode cX11_built 73 = .ok (.aload_n 0, 1) := by decide +kernel
theorem dX11_built_74 : decode cX11_built 74 = .ok (.iload_n 3, 1) := by decide +kernel
theorem dX11_built_75 : decode cX11_built 75 = .ok (.invokevirtual 140, 3) := by decide +kernel
theorem dX11_built_78 : decode cX11_built 78 = .ok (.iconst 1, 1) := by decide +kernel
theorem dX11_built_79 : decode cX11_built 79 = .ok (.if_icmp .le 18, 3) := by decide +kernel
theorem dX11_built_82 : decode cX11_built 82 = .ok (.aload_n 0, 1) := by decide +kernel
theorem dX11_built_83 : decode cX11_built 83 = .ok (.aload_n 0, 1) := by decide +kernel
theorem dX11_built_84 : decode cX11_built 84 = .ok (.getfield 22, 3) := by decide +kernel
theorem dX11_built_87 : decode cX11_built 87 = .ok (.iload_n 3, 1) := by decide +kernel
theorem dX11_built_88 : decode cX11_built 88 = .ok (.iaload, 1) := by decide +kernel
theorem dX11_built_89 : decode cX11_built 89 = .ok (.iload 4, 2) := by decide +kernel
theorem dX11_built_91 : decode cX11_built 91 = .ok (.invokevirtual 269, 3) := by decide +kernel
theorem dX11_built_94 : decode cX11_built 94 = .ok (.goto 4, 3) := by decide +kernel
theorem dX11_built_97 : decode cX11_built 97 = .ok (.iconst (-1), 1) := by decide +kernel
theorem dX11_built_98 : decode cX11_built 98 = .ok (.istore 6, 2) := by decide +kernel
theorem dX11_built_100 : decode cX11_built 100 = .ok (.aload_n 0, 1) := by decide +kernel
theorem dX11_built_101 : decode cX11_built 101 = .ok (.aload_n 0, 1) := by decide +kernel
theorem dX11_built_102 : decode cX11_built 102 = .ok (.getfield 16, 3) := by decide +kernel
theorem dX11_built_105 : decode cX11_built 105 = .ok (.iload_n 3, 1) := by decide +kernel
theorem dX11_built_106 : decode cX11_built 106 = .ok (.iaload, 1) := by decide +kernel
theorem dX11_built_107 : decode cX11_built 107 = .ok (.iload 5, 2) := by decide +kernel
theorem dX11_built_109 : decode cX11_built 109 = .ok (.iload 6, 2) := by decide +kernel
theorem dX11_built_111 : decode cX11_built 111 = .ok (.invokevirtual 154, 3) := by decide +kernel
theorem dX11_built_114 : decode cX11_built 114 = .ok (.ireturn, 1) := by decide +kernel
def bX11_built_98 (N d : Nat) (self_X11_built : Wd → Int32 → Int32 → Option (Wd × Int32))  (w : Wd) (x3 : Int32) (x5 : Int32) (y0 : Int32) : Option (Wd × Int32) :=
  c_ld w 3 1000 x3 fun v10 =>
  c_cl (eX11_make N d w v10 x5 y0) fun w11 v12 =>
  some (w11, v12)
set_option maxHeartbeats 4000000 in
theorem kX11_built_98 {V : Ev} {p : Program} {l : Launch} {e : Env} {N d : Nat} {s : State} {m : MethodId} {args : Array Value} {below : List Frame} {meth : Method} {c : Code} {z : Wd × Int32} (X : CX V p s m args meth c cX11_built 7 RX11 (some .int)) {self_X11_built : Wd → Int32 → Int32 → Option (Wd × Int32)} (hs_X11_built : ∀ (w : Wd) (a0 : Int32) (a1 : Int32) (x : Wd × Int32), self_X11_built w a0 a1 = some x → MetI l V (cM V) (AM V) yX11_built cX11_built 7 (some .int) d [.ref (V.2.2 0), .int a0, .int a1] w x)  {w : Wd} {x3 : Int32} {x5 : Int32} {y0 : Int32} {H : Heap} {locs : List Loc} {ls : Array Slot} (h : bX11_built_98 N d self_X11_built  w x3 x5 y0 = some z) (hH : wH V (cM V) (AM V) s w H locs) (hl : lv_has ls 7 [(0, .ref (V.2.2 0)), (3, .int x3), (5, .int x5)]) : W p l e (rmD (d + 1)) s m args below meth c H locs 0 0 (MQ below (CtI V (cM V) (AM V) z) args s 0 0 (AM V)) (F0 m 98 ls [.int y0]) := by
  unfold bX11_built_98 at h
  obtain ⟨hx, hb, hml, hown, hg, hrt, hlk, hK⟩ := id X
  refine lv_istore (pc := 98) (lv' := [(6, .int y0), (0, .ref (V.2.2 0)), (3, .int x3), (5, .int x5)]) hx hb dX11_built_98 hl (by decide) rfl (fun ls hl => ?_)
  refine lv_aload_n (pc := 100) hx hb dX11_built_100 rfl (lv_at hl 1 rfl) ?_
  refine lv_aload_n (pc := 101) hx hb dX11_built_101 rfl (lv_at hl 1 rfl) ?_
  refine gM_X11_16_0 (pc := 102) X hH dX11_built_102 ?_
  refine lv_iload_n (pc := 105) hx hb dX11_built_105 rfl (lv_at hl 2 rfl) ?_
  refine r_ld (pc := 106) X (heM_3 V w) hH h dX11_built_106 (fun v10 h => ?_)
  refine lv_iload (pc := 107) hx hb dX11_built_107 (lv_at hl 3 rfl) ?_
  refine lv_iload (pc := 109) hx hb dX11_built_109 (lv_at hl 0 rfl) ?_
  refine r_cvI (pc := 111) (As := [.int v10, .int x5, .int y0]) (rest := []) X hH (fun x hx => mX11_make hx) cw_X11_154 (heM_0 V w) rfl rfl rfl (Nat.le_of_ble_eq_true rfl) hl.1 h dX11_built_111 (fun w11 v12 H locs h hH => ?_)
  exact r_iret (pc := 114) X hH h dX11_built_114
def bX11_built_71 (N d : Nat) (self_X11_built : Wd → Int32 → Int32 → Option (Wd × Int32))  (w : Wd) (x3 : Int32) (x4 : Int32) (y0 : Int32) : Option (Wd × Int32) :=
  c_cl (eX11_parts N d w x3) fun w8 v9 =>
  if v9 ≤ 1 then (
    bX11_built_98 N d self_X11_built  w8 x3 y0 (-1)
  ) else (
    c_ld w8 5 1000 x3 fun v13 =>
    c_cl (self_X11_built w8 v13 x4) fun w14 v15 =>
    bX11_built_98 N d self_X11_built  w14 x3 y0 v15
  )
set_option maxHeartbeats 4000000 in
theorem kX11_built_71 {V : Ev} {p : Program} {l : Launch} {e : Env} {N d : Nat} {s : State} {m : MethodId} {args : Array Value} {below : List Frame} {meth : Method} {c : Code} {z : Wd × Int32} (X : CX V p s m args meth c cX11_built 7 RX11 (some .int)) {self_X11_built : Wd → Int32 → Int32 → Option (Wd × Int32)} (hs_X11_built : ∀ (w : Wd) (a0 : Int32) (a1 : Int32) (x : Wd × Int32), self_X11_built w a0 a1 = some x → MetI l V (cM V) (AM V) yX11_built cX11_built 7 (some .int) d [.ref (V.2.2 0), .int a0, .int a1] w x)  {w : Wd} {x3 : Int32} {x4 : Int32} {y0 : Int32} {H : Heap} {locs : List Loc} {ls : Array Slot} (h : bX11_built_71 N d self_X11_built  w x3 x4 y0 = some z) (hH : wH V (cM V) (AM V) s w H locs) (hl : lv_has ls 7 [(0, .ref (V.2.2 0)), (3, .int x3), (4, .int x4)]) : W p l e (rmD (d + 1)) s m args below meth c H locs 0 0 (MQ below (CtI V (cM V) (AM V) z) args s 0 0 (AM V)) (F0 m 71 ls [.int y0]) := by
  unfold bX11_built_71 at h
  obtain ⟨hx, hb, hml, hown, hg, hrt, hlk, hK⟩ := id X
  refine lv_istore (pc := 71) (lv' := [(5, .int y0), (0, .ref (V.2.2 0)), (3, .int x3), (4, .int x4)]) hx hb dX11_built_71 hl (by decide) rfl (fun ls hl => ?_)
  refine lv_aload_n (pc := 73) hx hb dX11_built_73 rfl (lv_at hl 1 rfl) ?_
  refine lv_iload_n (pc := 74) hx hb dX11_built_74 rfl (lv_at hl 2 rfl) ?_
  refine r_cvI (pc := 75) (As := [.int x3]) (rest := []) X hH (fun x hx => mX11_parts hx) cw_X11_140 (heM_0 V w) rfl rfl rfl (Nat.le_of_ble_eq_true rfl) hl.1 h dX11_built_75 (fun w8 v9 H locs h hH => ?_)
  refine lv_iconst (pc := 78) (v := 1) hx hb dX11_built_78 (by decide) ?_
  refine b_icmp_le (pc := 79) (tgt := 97) hx hb h dX11_built_79 (by decide) (fun h => ?_) (fun h => ?_)
  · refine lv_iconst (pc := 97) (v := -1) hx hb dX11_built_97 (by decide) ?_
    exact kX11_built_98 X hs_X11_built  h hH (lv_sub hl [1, 2, 0] rfl)
  · refine lv_aload_n (pc := 82) hx hb dX11_built_82 rfl (lv_at hl 1 rfl) ?_
    refine lv_aload_n (pc := 83) hx hb dX11_built_83 rfl (lv_at hl 1 rfl) ?_
    refine gM_X11_22_0 (pc := 84) X hH dX11_built_84 ?_
    refine lv_iload_n (pc := 87) hx hb dX11_built_87 rfl (lv_at hl 2 rfl) ?_
    refine r_ld (pc := 88) X (heM_5 V w8) hH h dX11_built_88 (fun v13 h => ?_)
    refine lv_iload (pc := 89) hx hb dX11_built_89 (lv_at hl 3 rfl) ?_
    refine r_cvI (pc := 91) (As := [.int v13, .int x4]) (rest := []) X hH (fun x hx => hs_X11_built _ _ _ _ hx) cw_X11_269 (heM_0 V w8) rfl rfl rfl (Nat.le_of_ble_eq_true rfl) hl.1 h dX11_built_91 (fun w14 v15 H locs h hH => ?_)
    refine lv_goto (pc := 94) (tgt := 98) hx hb dX11_built_94 (by decide) ?_
    exact kX11_built_98 X hs_X11_built  h hH (lv_sub hl [1, 2, 0] rfl)
def bX11_built_0 (N d : Nat) (self_X11_built : Wd → Int32 → Int32 → Option (Wd × Int32))  (w : Wd) (x1 : Int32) (x2 : Int32) : Option (Wd × Int32) :=
  c_cv (eX11_walk N d w x1 x2) fun w1 =>
  c_nm (sI w1 10) fun x3_2 =>
  c_nm (sI w1 11) fun x4_3 =>
  c_cl (eX11_isVariable N d w1 x3_2) fun w4 v5 =>
  if v5 = 0 then (
    c_cl (eX11_parts N d w4 x3_2) fun w6 v7 =>
    if v7 ≤ 0 then (
      bX11_built_71 N d self_X11_built  w6 x3_2 x4_3 (-1)
    ) else (
      c_ld w6 4 1000 x3_2 fun v16 =>
      c_cl (self_X11_built w6 v16 x4_3) fun w17 v18 =>
      bX11_built_71 N d self_X11_built  w17 x3_2 x4_3 v18
    )
  ) else (
    c_cl (eX11_variableOf N d w4 x3_2) fun w19 v20 =>
    c_ld w19 21 8 (v20 + x4_3) fun v21 =>
    c_cl (eX11_make N d w19 ((-1) - v21) (-1) (-1)) fun w22 v23 =>
    some (w22, v23)
  )
set_option maxHeartbeats 4000000 in
theorem kX11_built_0 {V : Ev} {p : Program} {l : Launch} {e : Env} {N d : Nat} {s : State} {m : MethodId} {args : Array Value} {below : List Frame} {meth : Method} {c : Code} {z : Wd × Int32} (X : CX V p s m args meth c cX11_built 7 RX11 (some .int)) {self_X11_built : Wd → Int32 → Int32 → Option (Wd × Int32)} (hs_X11_built : ∀ (w : Wd) (a0 : Int32) (a1 : Int32) (x : Wd × Int32), self_X11_built w a0 a1 = some x → MetI l V (cM V) (AM V) yX11_built cX11_built 7 (some .int) d [.ref (V.2.2 0), .int a0, .int a1] w x)  {w : Wd} {x1 : Int32} {x2 : Int32} {H : Heap} {locs : List Loc} {ls : Array Slot} (h : bX11_built_0 N d self_X11_built  w x1 x2 = some z) (hH : wH V (cM V) (AM V) s w H locs) (hl : lv_has ls 7 [(0, .ref (V.2.2 0)), (1, .int x1), (2, .int x2)]) : W p l e (rmD (d + 1)) s m args below meth c H locs 0 0 (MQ below (CtI V (cM V) (AM V) z) args s 0 0 (AM V)) (F0 m 0 ls []) := by
  unfold bX11_built_0 at h
  obtain ⟨hx, hb, hml, hown, hg, hrt, hlk, hK⟩ := id X
  refine lv_aload_n (pc := 0) hx hb dX11_built_0 rfl (lv_at hl 0 rfl) ?_
  refine lv_iload_n (pc := 1) hx hb dX11_built_1 rfl (lv_at hl 1 rfl) ?_
  refine lv_iload_n (pc := 2) hx hb dX11_built_2 rfl (lv_at hl 2 rfl) ?_
  refine r_cvV (pc := 3) (As := [.int x1, .int x2]) (rest := []) X hH (fun x hx => mX11_walk hx) cw_X11_248 (heM_0 V w) rfl rfl rfl (Nat.le_of_ble_eq_true rfl) hl.1 h dX11_built_3 (fun w1 H locs h hH => ?_)
  refine lv_aload_n (pc := 6) hx hb dX11_built_6 rfl (lv_at hl 0 rfl) ?_
  refine gM_X11_242_0 (pc := 7) X hH dX11_built_7 ?_
  refine r_nmi h (fun x3_2 h => ?_)
  refine lv_istore_n (pc := 10) (lv' := [(3, .int x3_2), (0, .ref (V.2.2 0)), (1, .int x1), (2, .int x2)]) hx hb dX11_built_10 rfl hl (by decide) rfl (fun ls hl => ?_)
  refine lv_aload_n (pc := 11) hx hb dX11_built_11 rfl (lv_at hl 1 rfl) ?_
  refine gM_X11_245_0 (pc := 12) X hH dX11_built_12 ?_
  refine r_nmi h (fun x4_3 h => ?_)
  refine lv_istore (pc := 15) (lv' := [(4, .int x4_3), (3, .int x3_2), (0, .ref (V.2.2 0)), (1, .int x1), (2, .int x2)]) hx hb dX11_built_15 hl (by decide) rfl (fun ls hl => ?_)
  refine lv_aload_n (pc := 17) hx hb dX11_built_17 rfl (lv_at hl 2 rfl) ?_
  refine lv_iload_n (pc := 18) hx hb dX11_built_18 rfl (lv_at hl 1 rfl) ?_
  refine r_cvI (pc := 19) (As := [.int x3_2]) (rest := []) X hH (fun x hx => mX11_isVariable hx) cw_X11_117 (heM_0 V w1) rfl rfl rfl (Nat.le_of_ble_eq_true rfl) hl.1 h dX11_built_19 (fun w4 v5 H locs h hH => ?_)
  refine b_if_eq (pc := 22) (tgt := 47) hx hb h dX11_built_22 (by decide) (fun h => ?_) (fun h => ?_)
  · refine lv_aload_n (pc := 47) hx hb dX11_built_47 rfl (lv_at hl 2 rfl) ?_
    refine lv_iload_n (pc := 48) hx hb dX11_built_48 rfl (lv_at hl 1 rfl) ?_
    refine r_cvI (pc := 49) (As := [.int x3_2]) (rest := []) X hH (fun x hx => mX11_parts hx) cw_X11_140 (heM_0 V w4) rfl rfl rfl (Nat.le_of_ble_eq_true rfl) hl.1 h dX11_built_49 (fun w6 v7 H locs h hH => ?_)
    refine b_if_le (pc := 52) (tgt := 70) hx hb h dX11_built_52 (by decide) (fun h => ?_) (fun h => ?_)
    · refine lv_iconst (pc := 70) (v := -1) hx hb dX11_built_70 (by decide) ?_
      exact kX11_built_71 X hs_X11_built  h hH (lv_sub hl [2, 1, 0] rfl)
    · refine lv_aload_n (pc := 55) hx hb dX11_built_55 rfl (lv_at hl 2 rfl) ?_
      refine lv_aload_n (pc := 56) hx hb dX11_built_56 rfl (lv_at hl 2 rfl) ?_
      refine gM_X11_19_0 (pc := 57) X hH dX11_built_57 ?_
      refine lv_iload_n (pc := 60) hx hb dX11_built_60 rfl (lv_at hl 1 rfl) ?_
      refine r_ld (pc := 61) X (heM_4 V w6) hH h dX11_built_61 (fun v16 h => ?_)
      refine lv_iload (pc := 62) hx hb dX11_built_62 (lv_at hl 0 rfl) ?_
      refine r_cvI (pc := 64) (As := [.int v16, .int x4_3]) (rest := []) X hH (fun x hx => hs_X11_built _ _ _ _ hx) cw_X11_269 (heM_0 V w6) rfl rfl rfl (Nat.le_of_ble_eq_true rfl) hl.1 h dX11_built_64 (fun w17 v18 H locs h hH => ?_)
      refine lv_goto (pc := 67) (tgt := 71) hx hb dX11_built_67 (by decide) ?_
      exact kX11_built_71 X hs_X11_built  h hH (lv_sub hl [2, 1, 0] rfl)
  · refine lv_aload_n (pc := 25) hx hb dX11_built_25 rfl (lv_at hl 2 rfl) ?_
    refine lv_iconst (pc := 26) (v := -1) hx hb dX11_built_26 (by decide) ?_
    refine lv_aload_n (pc := 27) hx hb dX11_built_27 rfl (lv_at hl 2 rfl) ?_
    refine gM_X11_72_0 (pc := 28) X hH dX11_built_28 ?_
    refine lv_aload_n (pc := 31) hx hb dX11_built_31 rfl (lv_at hl 2 rfl) ?_
    refine lv_iload_n (pc := 32) hx hb dX11_built_32 rfl (lv_at hl 1 rfl) ?_
    refine r_cvI (pc := 33) (As := [.int x3_2]) (rest := [.ref (V.2.2 21), .int (-1), .ref (V.2.2 0)]) X hH (fun x hx => mX11_variableOf hx) cw_X11_136 (heM_0 V w4) rfl rfl rfl (Nat.le_of_ble_eq_true rfl) hl.1 h dX11_built_33 (fun w19 v20 H locs h hH => ?_)
    refine lv_iload (pc := 36) hx hb dX11_built_36 (lv_at hl 0 rfl) ?_
    refine lv_iadd (pc := 38) hx hb dX11_built_38 ?_
    refine r_ld (pc := 39) X (heM_21 V w19) hH h dX11_built_39 (fun v21 h => ?_)
    refine lv_isub (pc := 40) hx hb dX11_built_40 ?_
    refine lv_iconst (pc := 41) (v := -1) hx hb dX11_built_41 (by decide) ?_
    refine lv_iconst (pc := 42) (v := -1) hx hb dX11_built_42 (by decide) ?_
    refine r_cvI (pc := 43) (As := [.int ((-1) - v21), .int (-1), .int (-1)]) (rest := []) X hH (fun x hx => mX11_make hx) cw_X11_154 (heM_0 V w19) rfl rfl rfl (Nat.le_of_ble_eq_true rfl) hl.1 h dX11_built_43 (fun w22 v23 H locs h hH => ?_)
    exact r_iret (pc := 46) X hH h dX11_built_46
def eX11_built (N : Nat) : Nat → Wd → Int32 → Int32 → Option (Wd × Int32)
  | 0 => fun _ _ _ => none
  | d + 1 => fun w x1 x2 => bX11_built_0 N d (eX11_built N d) w x1 x2
set_option maxHeartbeats 4000000 in
set_option maxRecDepth 20000 in
theorem mX11_built {l : Launch} {V : Ev} {N d : Nat} {w : Wd} {x1 : Int32} {x2 : Int32} {z : Wd × Int32} (h : eX11_built N d w x1 x2 = some z) : MetI l V (cM V) (AM V) yX11_built cX11_built 7 (some .int) d [.ref (V.2.2 0), .int x1, .int x2] w z := by
  induction d generalizing w x1 x2 z with
  | zero => exact c_none h
  | succ d ih =>
    refine Met.ofW (cc := cX11_built) (maxL := 7) (ret := (some .int)) (by decide) rfl ?_
    intro p e s m args below meth c s₁ B hml hv
    obtain ⟨rfl, hP, hD, hK⟩ := hv
    have hts := atoms_spec (ws := .code yX11_built cX11_built 7 (some .int) :: gG) B.pre
    have X : CX V p s m ([.ref (V.2.2 0), .int x1, .int x2] : List Value).toArray meth c cX11_built 7 RX11 (some .int) := ⟨B.exec, B.bytes, hml, findClass_of_methodNamed B.named, fun w hw => hts w (List.mem_cons_of_mem _ hw), B.returns, B.notSynchronized, hK⟩
    have hl := lv_entry ([.ref (V.2.2 0), .int x1, .int x2] : List Value) (n := 7) (Nat.le_of_ble_eq_true rfl)
    rw [lg_entry_eq]
    generalize (lg_sl ([.ref (V.2.2 0), .int x1, .int x2] : List Value) ++ List.replicate (7 - (lg_sl ([.ref (V.2.2 0), .int x1, .int x2] : List Value)).length) Slot.unset).toArray = ls at hl ⊢
    have hl : lv_has ls 7 [(0, .ref (V.2.2 0)), (1, .int x1), (2, .int x2)] := hl
    exact kX11_built_0 (N := N) X (fun _ _ _ _ h => ih h) h ⟨hP, hD, va_S.rf⟩ hl
theorem dX11_builtWith_0 : decode cX11_builtWith 0 = .ok (.lload_n 2, 1) := by decide +kernel
theorem dX11_builtWith_1 : decode cX11_builtWith 1 = .ok (.lload 4, 2) := by decide +kernel
theorem dX11_builtWith_3 : decode cX11_builtWith 3 = .ok (.lcmp, 1) := by decide +kernel
theorem dX11_builtWith_4 : decode cX11_builtWith 4 = .ok (.ifCond .ne 11, 3) := by decide +kernel
theorem dX11_builtWith_7 : decode cX11_builtWith 7 = .ok (.aload_n 0, 1) := by decide +kernel
theorem dX11_builtWith_8 : decode cX11_builtWith 8 = .ok (.iload 6, 2) := by decide +kernel
theorem dX11_builtWith_10 : decode cX11_builtWith 10 = .ok (.iconst 4, 1) := by decide +kernel
theorem dX11_builtWith_11 : decode cX11_builtWith 11 = .ok (.invokevirtual 269, 3) := by decide +kernel
theorem dX11_builtWith_14 : decode cX11_builtWith 14 = .ok (.ireturn, 1) := by decide +kernel
theorem dX11_builtWith_15 : decode cX11_builtWith 15 = .ok (.aload_n 0, 1) := by decide +kernel
theorem dX11_builtWith_16 : decode cX11_builtWith 16 = .ok (.iload_n 1, 1) := by decide +kernel
theorem dX11_builtWith_17 : decode cX11_builtWith 17 = .ok (.invokevirtual 117, 3) := by decide +kernel
theorem dX11_builtWith_20 : decode cX11_builtWith 20 = .ok (.ifCond .eq 10, 3) := by decide +kernel
theorem dX11_builtWith_23 : decode cX11_builtWith 23 = .ok (.aload_n 0, 1) := by decide +kernel
theorem dX11_builtWith_24 : decode cX11_builtWith 24 = .ok (.iload_n 1, 1) := by decide +kernel
theorem dX11_builtWith_25 : decode cX11_builtWith 25 = .ok (.iconst 0, 1) := by decide +kernel
theorem dX11_builtWith_26 : decode cX11_builtWith 26 = .ok (.invokevirtual 269, 3) := by decide +kernel
theorem dX11_builtWith_29 : decode cX11_builtWith 29 = .ok (.ireturn, 1) := by decide +kernel
theorem dX11_builtWith_30 : decode cX11_builtWith 30 = .ok (.aload_n 0, 1) := by decide +kernel
theorem dX11_builtWith_31 : decode cX11_builtWith 31 = .ok (.iload_n 1, 1) := by decide +kernel
theorem dX11_builtWith_32 : decode cX11_builtWith 32 = .ok (.invokevirtual 140, 3) := by decide +kernel
theorem dX11_builtWith_35 : decode cX11_builtWith 35 = .ok (.ifCond .le 25, 3) := by decide +kernel
theorem dX11_builtWith_38 : decode cX11_builtWith 38 = .ok (.aload_n 0, 1) := by decide +kernel
theorem dX11_builtWith_39 : decode cX11_builtWith 39 = .ok (.aload_n 0, 1) := by decide +kernel
theorem dX11_builtWith_40 : decode cX11_builtWith 40 = .ok (.getfield 19, 3) := by decide +kernel
theorem dX11_builtWith_43 : decode cX11_builtWith 43 = .ok (.iload_n 1, 1) := by decide +kernel
theorem dX11_builtWith_44 : decode cX11_builtWith 44 = .ok (.iaload, 1) := by decide +kernel
theorem dX11_builtWith_45 : decode cX11_builtWith 45 = .ok (.lload_n 2, 1) := by decide +kernel
theorem dX11_builtWith_46 : decode cX11_builtWith 46 = .ok (.iconst 0, 1) := by decide +kernel
theorem dX11_builtWith_47 : decode cX11_builtWith 47 = .ok (.invokestatic 179, 3) := by decide +kernel
theorem dX11_builtWith_50 : decode cX11_builtWith 50 = .ok (.lload 4, 2) := by decide +kernel
theorem dX11_builtWith_52 : decode cX11_builtWith 52 = .ok (.iload 6, 2) := by decide +kernel
theorem dX11_builtWith_54 : decode cX11_builtWith 54 = .ok (.invokevirtual 272, 3) := by decide +kernel
theorem dX11_builtWith_57 : decode cX11_builtWith 57 = .ok (.goto 4, 3) := by decide +kernel
theorem dX11_builtWith_60 : decode cX11_builtWith 60 = .ok (.iconst (-1), 1) := by decide +kernel
theorem dX11_builtWith_61 : decode cX11_builtWith 61 = .ok (.istore 7, 2) := by decide +kernel
theorem dX11_builtWith_63 : decode cX11_builtWith 63 = .ok (.aload_n 0, 1) := by decide +kernel
theorem dX11_builtWith_64 : decode cX11_builtWith 64 = .ok (.iload_n 1, 1) := by decide +kernel
theorem dX11_builtWith_65 : decode cX11_builtWith 65 = .ok (.invokevirtual 140, 3) := by decide +kernel
theorem dX11_builtWith_68 : decode cX11_builtWith 68 = .ok (.iconst 1, 1) := by decide +kernel
theorem dX11_builtWith_69 : decode cX11_builtWith 69 = .ok (.if_icmp .le 25, 3) := by decide +kernel
theorem dX11_builtWith_72 : decode cX11_builtWith 72 = .ok (.aload_n 0, 1) := by decide +kernel
theorem dX11_builtWith_73 : decode cX11_builtWith 73 = .ok (.aload_n 0, 1) := by decide +kernel
theorem dX11_builtWith_74 : decode cX11_builtWith 74 = .ok (.getfield 22, 3) := by decide +kernel
theorem dX11_builtWith_77 : decode cX11_builtWith 77 = .ok (.iload_n 1, 1) := by decide +kernel
theorem dX11_builtWith_78 : decode cX11_builtWith 78 = .ok (.iaload, 1) := by decide +kernel
theorem dX11_builtWith_79 : decode cX11_builtWith 79 = .ok (.lload_n 2, 1) := by decide +kernel
theorem dX11_builtWith_80 : decode cX11_builtWith 80 = .ok (.iconst 1, 1) := by decide +kernel
theorem dX11_builtWith_81 : decode cX11_builtWith 81 = .ok (.invokestatic 179, 3) := by decide +kernel
theorem dX11_builtWith_84 : decode cX11_builtWith 84 = .ok (.lload 4, 2) := by decide +kernel
theorem dX11_builtWith_86 : decode cX11_builtWith 86 = .ok (.iload 6, 2) := by decide +kernel
theorem dX11_builtWith_88 : decode cX11_builtWith 88 = .ok (.invokevirtual 272, 3) := by decide +kernel
theorem dX11_builtWith_91 : decode cX11_builtWith 91 = .ok (.goto 4, 3) := by decide +kernel
theorem dX11_builtWith_94 : decode cX11_builtWith 94 = .ok (.iconst (-1), 1) := by decide +kernel
theorem dX11_builtWith_95 : decode cX11_builtWith 95 = .ok (.istore 8, 2) := by decide +kernel
theorem dX11_builtWith_97 : decode cX11_builtWith 97 = .ok (.aload_n 0, 1) := by decide +kernel
theorem dX11_builtWith_98 : decode cX11_builtWith 98 = .ok (.aload_n 0, 1) := by decide +kernel
theorem dX11_builtWith_99 : decode cX11_builtWith 99 = .ok (.getfield 16, 3) := by decide +kernel
theorem dX11_builtWith_102 : decode cX11_builtWith 102 = .ok (.iload_n 1, 1) := by decide +kernel
theorem dX11_builtWith_103 : decode cX11_builtWith 103 = .ok (.iaload, 1) := by decide +kernel
theorem dX11_builtWith_104 : decode cX11_builtWith 104 = .ok (.iload 7, 2) := by decide +kernel
theorem dX11_builtWith_106 : decode cX11_builtWith 106 = .ok (.iload 8, 2) := by decide +kernel
theorem dX11_builtWith_108 : decode cX11_builtWith 108 = .ok (.invokevirtual 154, 3) := by decide +kernel
theorem dX11_builtWith_111 : decode cX11_builtWith 111 = .ok (.ireturn, 1) := by decide +kernel
def bX11_builtWith_95 (N d : Nat) (self_X11_builtWith : Wd → Int32 → Int64 → Int64 → Int32 → Option (Wd × Int32))  (w : Wd) (x1 : Int32) (x7 : Int32) (y0 : Int32) : Option (Wd × Int32) :=
  c_ld w 3 1000 x1 fun v7 =>
  c_cl (eX11_make N d w v7 x7 y0) fun w8 v9 =>
  some (w8, v9)
set_option maxHeartbeats 4000000 in
theorem kX11_builtWith_95 {V : Ev} {p : Program} {l : Launch} {e : Env} {N d : Nat} {s : State} {m : MethodId} {args : Array Value} {below : List Frame} {meth : Method} {c : Code} {z : Wd × Int32} (X : CX V p s m args meth c cX11_builtWith 9 RX11 (some .int)) {self_X11_builtWith : Wd → Int32 → Int64 → Int64 → Int32 → Option (Wd × Int32)} (hs_X11_builtWith : ∀ (w : Wd) (a0 : Int32) (a1 : Int64) (a2 : Int64) (a3 : Int32) (x : Wd × Int32), self_X11_builtWith w a0 a1 a2 a3 = some x → MetI l V (cM V) (AM V) yX11_builtWith cX11_builtWith 9 (some .int) d [.ref (V.2.2 0), .int a0, .long a1, .long a2, .int a3] w x)  {w : Wd} {x1 : Int32} {x7 : Int32} {y0 : Int32} {H : Heap} {locs : List Loc} {ls : Array Slot} (h : bX11_builtWith_95 N d self_X11_builtWith  w x1 x7 y0 = some z) (hH : wH V (cM V) (AM V) s w H locs) (hl : lv_has ls 9 [(0, .ref (V.2.2 0)), (1, .int x1), (7, .int x7)]) : W p l e (rmD (d + 1)) s m args below meth c H locs 0 0 (MQ below (CtI V (cM V) (AM V) z) args s 0 0 (AM V)) (F0 m 95 ls [.int y0]) := by
  unfold bX11_builtWith_95 at h
  obtain ⟨hx, hb, hml, hown, hg, hrt, hlk, hK⟩ := id X
  refine lv_istore (pc := 95) (lv' := [(8, .int y0), (0, .ref (V.2.2 0)), (1, .int x1), (7, .int x7)]) hx hb dX11_builtWith_95 hl (by decide) rfl (fun ls hl => ?_)
  refine lv_aload_n (pc := 97) hx hb dX11_builtWith_97 rfl (lv_at hl 1 rfl) ?_
  refine lv_aload_n (pc := 98) hx hb dX11_builtWith_98 rfl (lv_at hl 1 rfl) ?_
  refine gM_X11_16_0 (pc := 99) X hH dX11_builtWith_99 ?_
  refine lv_iload_n (pc := 102) hx hb dX11_builtWith_102 rfl (lv_at hl 2 rfl) ?_
  refine r_ld (pc := 103) X (heM_3 V w) hH h dX11_builtWith_103 (fun v7 h => ?_)
  refine lv_iload (pc := 104) hx hb dX11_builtWith_104 (lv_at hl 3 rfl) ?_
  refine lv_iload (pc := 106) hx hb dX11_builtWith_106 (lv_at hl 0 rfl) ?_
  refine r_cvI (pc := 108) (As := [.int v7, .int x7, .int y0]) (rest := []) X hH (fun x hx => mX11_make hx) cw_X11_154 (heM_0 V w) rfl rfl rfl (Nat.le_of_ble_eq_true rfl) hl.1 h dX11_builtWith_108 (fun w8 v9 H locs h hH => ?_)
  exact r_iret (pc := 111) X hH h dX11_builtWith_111
def bX11_builtWith_61 (N d : Nat) (self_X11_builtWith : Wd → Int32 → Int64 → Int64 → Int32 → Option (Wd × Int32))  (w : Wd) (x1 : Int32) (x2 : Int64) (x4 : Int64) (x6 : Int32) (y0 : Int32) : Option (Wd × Int32) :=
  c_cl (eX11_parts N d w x1) fun w5 v6 =>
  if v6 ≤ 1 then (
    bX11_builtWith_95 N d self_X11_builtWith  w5 x1 y0 (-1)
  ) else (
    c_ld w5 5 1000 x1 fun v10 =>
    c_cl (eX11_below N d w5 x2 1) fun w11 v12 =>
    c_cl (self_X11_builtWith w11 v10 v12 x4 x6) fun w13 v14 =>
    bX11_builtWith_95 N d self_X11_builtWith  w13 x1 y0 v14
  )
set_option maxHeartbeats 4000000 in
theorem kX11_builtWith_61 {V : Ev} {p : Program} {l : Launch} {e : Env} {N d : Nat} {s : State} {m : MethodId} {args : Array Value} {below : List Frame} {meth : Method} {c : Code} {z : Wd × Int32} (X : CX V p s m args meth c cX11_builtWith 9 RX11 (some .int)) {self_X11_builtWith : Wd → Int32 → Int64 → Int64 → Int32 → Option (Wd × Int32)} (hs_X11_builtWith : ∀ (w : Wd) (a0 : Int32) (a1 : Int64) (a2 : Int64) (a3 : Int32) (x : Wd × Int32), self_X11_builtWith w a0 a1 a2 a3 = some x → MetI l V (cM V) (AM V) yX11_builtWith cX11_builtWith 9 (some .int) d [.ref (V.2.2 0), .int a0, .long a1, .long a2, .int a3] w x)  {w : Wd} {x1 : Int32} {x2 : Int64} {x4 : Int64} {x6 : Int32} {y0 : Int32} {H : Heap} {locs : List Loc} {ls : Array Slot} (h : bX11_builtWith_61 N d self_X11_builtWith  w x1 x2 x4 x6 y0 = some z) (hH : wH V (cM V) (AM V) s w H locs) (hl : lv_has ls 9 [(0, .ref (V.2.2 0)), (1, .int x1), (2, .long x2), (4, .long x4), (6, .int x6)]) : W p l e (rmD (d + 1)) s m args below meth c H locs 0 0 (MQ below (CtI V (cM V) (AM V) z) args s 0 0 (AM V)) (F0 m 61 ls [.int y0]) := by
  unfold bX11_builtWith_61 at h
  obtain ⟨hx, hb, hml, hown, hg, hrt, hlk, hK⟩ := id X
  refine lv_istore (pc := 61) (lv' := [(7, .int y0), (0, .ref (V.2.2 0)), (1, .int x1), (2, .long x2), (4, .long x4), (6, .int x6)]) hx hb dX11_builtWith_61 hl (by decide) rfl (fun ls hl => ?_)
  refine lv_aload_n (pc := 63) hx hb dX11_builtWith_63 rfl (lv_at hl 1 rfl) ?_
  refine lv_iload_n (pc := 64) hx hb dX11_builtWith_64 rfl (lv_at hl 2 rfl) ?_
  refine r_cvI (pc := 65) (As := [.int x1]) (rest := []) X hH (fun x hx => mX11_parts hx) cw_X11_140 (heM_0 V w) rfl rfl rfl (Nat.le_of_ble_eq_true rfl) hl.1 h dX11_builtWith_65 (fun w5 v6 H locs h hH => ?_)
  refine lv_iconst (pc := 68) (v := 1) hx hb dX11_builtWith_68 (by decide) ?_
  refine b_icmp_le (pc := 69) (tgt := 94) hx hb h dX11_builtWith_69 (by decide) (fun h => ?_) (fun h => ?_)
  · refine lv_iconst (pc := 94) (v := -1) hx hb dX11_builtWith_94 (by decide) ?_
    exact kX11_builtWith_95 X hs_X11_builtWith  h hH (lv_sub hl [1, 2, 0] rfl)
  · refine lv_aload_n (pc := 72) hx hb dX11_builtWith_72 rfl (lv_at hl 1 rfl) ?_
    refine lv_aload_n (pc := 73) hx hb dX11_builtWith_73 rfl (lv_at hl 1 rfl) ?_
    refine gM_X11_22_0 (pc := 74) X hH dX11_builtWith_74 ?_
    refine lv_iload_n (pc := 77) hx hb dX11_builtWith_77 rfl (lv_at hl 2 rfl) ?_
    refine r_ld (pc := 78) X (heM_5 V w5) hH h dX11_builtWith_78 (fun v10 h => ?_)
    refine lv_lload_n (pc := 79) hx hb dX11_builtWith_79 rfl (lv_at hl 3 rfl) ?_
    refine lv_iconst (pc := 80) (v := 1) hx hb dX11_builtWith_80 (by decide) ?_
    refine r_csL (pc := 81) (As := [.long x2, .int 1]) (rest := [.int v10, .ref (V.2.2 0)]) X hH (fun x hx => mX11_below hx) cs_X11_179 rfl rfl (Nat.le_of_ble_eq_true rfl) hl.1 h dX11_builtWith_81 (fun w11 v12 H locs h hH => ?_)
    refine lv_lload (pc := 84) hx hb dX11_builtWith_84 (lv_at hl 4 rfl) ?_
    refine lv_iload (pc := 86) hx hb dX11_builtWith_86 (lv_at hl 5 rfl) ?_
    refine r_cvI (pc := 88) (As := [.int v10, .long v12, .long x4, .int x6]) (rest := []) X hH (fun x hx => hs_X11_builtWith _ _ _ _ _ _ hx) cw_X11_272 (heM_0 V w11) rfl rfl rfl (Nat.le_of_ble_eq_true rfl) hl.1 h dX11_builtWith_88 (fun w13 v14 H locs h hH => ?_)
    refine lv_goto (pc := 91) (tgt := 95) hx hb dX11_builtWith_91 (by decide) ?_
    exact kX11_builtWith_95 X hs_X11_builtWith  h hH (lv_sub hl [1, 2, 0] rfl)
def bX11_builtWith_0 (N d : Nat) (self_X11_builtWith : Wd → Int32 → Int64 → Int64 → Int32 → Option (Wd × Int32))  (w : Wd) (x1 : Int32) (x2 : Int64) (x4 : Int64) (x6 : Int32) : Option (Wd × Int32) :=
  if (lg_cmp x2 x4) = 0 then (
    c_cl (eX11_built N d w x6 4) fun w22 v23 =>
    some (w22, v23)
  ) else (
    c_cl (eX11_isVariable N d w x1) fun w1 v2 =>
    if v2 = 0 then (
      c_cl (eX11_parts N d w1 x1) fun w3 v4 =>
      if v4 ≤ 0 then (
        bX11_builtWith_61 N d self_X11_builtWith  w3 x1 x2 x4 x6 (-1)
      ) else (
        c_ld w3 4 1000 x1 fun v15 =>
        c_cl (eX11_below N d w3 x2 0) fun w16 v17 =>
        c_cl (self_X11_builtWith w16 v15 v17 x4 x6) fun w18 v19 =>
        bX11_builtWith_61 N d self_X11_builtWith  w18 x1 x2 x4 x6 v19
      )
    ) else (
      c_cl (eX11_built N d w1 x1 0) fun w20 v21 =>
      some (w20, v21)
    )
  )
set_option maxHeartbeats 4000000 in
theorem kX11_builtWith_0 {V : Ev} {p : Program} {l : Launch} {e : Env} {N d : Nat} {s : State} {m : MethodId} {args : Array Value} {below : List Frame} {meth : Method} {c : Code} {z : Wd × Int32} (X : CX V p s m args meth c cX11_builtWith 9 RX11 (some .int)) {self_X11_builtWith : Wd → Int32 → Int64 → Int64 → Int32 → Option (Wd × Int32)} (hs_X11_builtWith : ∀ (w : Wd) (a0 : Int32) (a1 : Int64) (a2 : Int64) (a3 : Int32) (x : Wd × Int32), self_X11_builtWith w a0 a1 a2 a3 = some x → MetI l V (cM V) (AM V) yX11_builtWith cX11_builtWith 9 (some .int) d [.ref (V.2.2 0), .int a0, .long a1, .long a2, .int a3] w x)  {w : Wd} {x1 : Int32} {x2 : Int64} {x4 : Int64} {x6 : Int32} {H : Heap} {locs : List Loc} {ls : Array Slot} (h : bX11_builtWith_0 N d self_X11_builtWith  w x1 x2 x4 x6 = some z) (hH : wH V (cM V) (AM V) s w H locs) (hl : lv_has ls 9 [(0, .ref (V.2.2 0)), (1, .int x1), (2, .long x2), (4, .long x4), (6, .int x6)]) : W p l e (rmD (d + 1)) s m args below meth c H locs 0 0 (MQ below (CtI V (cM V) (AM V) z) args s 0 0 (AM V)) (F0 m 0 ls []) := by
  unfold bX11_builtWith_0 at h
  obtain ⟨hx, hb, hml, hown, hg, hrt, hlk, hK⟩ := id X
  refine lv_lload_n (pc := 0) hx hb dX11_builtWith_0 rfl (lv_at hl 2 rfl) ?_
  refine lv_lload (pc := 1) hx hb dX11_builtWith_1 (lv_at hl 3 rfl) ?_
  refine W.lcmp (pc := 3) hx hb dX11_builtWith_3 ?_
  refine b_if_ne (pc := 4) (tgt := 15) hx hb h dX11_builtWith_4 (by decide) (fun h => ?_) (fun h => ?_)
  · refine lv_aload_n (pc := 15) hx hb dX11_builtWith_15 rfl (lv_at hl 0 rfl) ?_
    refine lv_iload_n (pc := 16) hx hb dX11_builtWith_16 rfl (lv_at hl 1 rfl) ?_
    refine r_cvI (pc := 17) (As := [.int x1]) (rest := []) X hH (fun x hx => mX11_isVariable hx) cw_X11_117 (heM_0 V w) rfl rfl rfl (Nat.le_of_ble_eq_true rfl) hl.1 h dX11_builtWith_17 (fun w1 v2 H locs h hH => ?_)
    refine b_if_eq (pc := 20) (tgt := 30) hx hb h dX11_builtWith_20 (by decide) (fun h => ?_) (fun h => ?_)
    · refine lv_aload_n (pc := 30) hx hb dX11_builtWith_30 rfl (lv_at hl 0 rfl) ?_
      refine lv_iload_n (pc := 31) hx hb dX11_builtWith_31 rfl (lv_at hl 1 rfl) ?_
      refine r_cvI (pc := 32) (As := [.int x1]) (rest := []) X hH (fun x hx => mX11_parts hx) cw_X11_140 (heM_0 V w1) rfl rfl rfl (Nat.le_of_ble_eq_true rfl) hl.1 h dX11_builtWith_32 (fun w3 v4 H locs h hH => ?_)
      refine b_if_le (pc := 35) (tgt := 60) hx hb h dX11_builtWith_35 (by decide) (fun h => ?_) (fun h => ?_)
      · refine lv_iconst (pc := 60) (v := -1) hx hb dX11_builtWith_60 (by decide) ?_
        exact kX11_builtWith_61 X hs_X11_builtWith  h hH (lv_sub hl [0, 1, 2, 3, 4] rfl)
      · refine lv_aload_n (pc := 38) hx hb dX11_builtWith_38 rfl (lv_at hl 0 rfl) ?_
        refine lv_aload_n (pc := 39) hx hb dX11_builtWith_39 rfl (lv_at hl 0 rfl) ?_
        refine gM_X11_19_0 (pc := 40) X hH dX11_builtWith_40 ?_
        refine lv_iload_n (pc := 43) hx hb dX11_builtWith_43 rfl (lv_at hl 1 rfl) ?_
        refine r_ld (pc := 44) X (heM_4 V w3) hH h dX11_builtWith_44 (fun v15 h => ?_)
        refine lv_lload_n (pc := 45) hx hb dX11_builtWith_45 rfl (lv_at hl 2 rfl) ?_
        refine lv_iconst (pc := 46) (v := 0) hx hb dX11_builtWith_46 (by decide) ?_
        refine r_csL (pc := 47) (As := [.long x2, .int 0]) (rest := [.int v15, .ref (V.2.2 0)]) X hH (fun x hx => mX11_below hx) cs_X11_179 rfl rfl (Nat.le_of_ble_eq_true rfl) hl.1 h dX11_builtWith_47 (fun w16 v17 H locs h hH => ?_)
        refine lv_lload (pc := 50) hx hb dX11_builtWith_50 (lv_at hl 3 rfl) ?_
        refine lv_iload (pc := 52) hx hb dX11_builtWith_52 (lv_at hl 4 rfl) ?_
        refine r_cvI (pc := 54) (As := [.int v15, .long v17, .long x4, .int x6]) (rest := []) X hH (fun x hx => hs_X11_builtWith _ _ _ _ _ _ hx) cw_X11_272 (heM_0 V w16) rfl rfl rfl (Nat.le_of_ble_eq_true rfl) hl.1 h dX11_builtWith_54 (fun w18 v19 H locs h hH => ?_)
        refine lv_goto (pc := 57) (tgt := 61) hx hb dX11_builtWith_57 (by decide) ?_
        exact kX11_builtWith_61 X hs_X11_builtWith  h hH (lv_sub hl [0, 1, 2, 3, 4] rfl)
    · refine lv_aload_n (pc := 23) hx hb dX11_builtWith_23 rfl (lv_at hl 0 rfl) ?_
      refine lv_iload_n (pc := 24) hx hb dX11_builtWith_24 rfl (lv_at hl 1 rfl) ?_
      refine lv_iconst (pc := 25) (v := 0) hx hb dX11_builtWith_25 (by decide) ?_
      refine r_cvI (pc := 26) (As := [.int x1, .int 0]) (rest := []) X hH (fun x hx => mX11_built hx) cw_X11_269 (heM_0 V w1) rfl rfl rfl (Nat.le_of_ble_eq_true rfl) hl.1 h dX11_builtWith_26 (fun w20 v21 H locs h hH => ?_)
      exact r_iret (pc := 29) X hH h dX11_builtWith_29
  · refine lv_aload_n (pc := 7) hx hb dX11_builtWith_7 rfl (lv_at hl 0 rfl) ?_
    refine lv_iload (pc := 8) hx hb dX11_builtWith_8 (lv_at hl 4 rfl) ?_
    refine lv_iconst (pc := 10) (v := 4) hx hb dX11_builtWith_10 (by decide) ?_
    refine r_cvI (pc := 11) (As := [.int x6, .int 4]) (rest := []) X hH (fun x hx => mX11_built hx) cw_X11_269 (heM_0 V w) rfl rfl rfl (Nat.le_of_ble_eq_true rfl) hl.1 h dX11_builtWith_11 (fun w22 v23 H locs h hH => ?_)
    exact r_iret (pc := 14) X hH h dX11_builtWith_14
def eX11_builtWith (N : Nat) : Nat → Wd → Int32 → Int64 → Int64 → Int32 → Option (Wd × Int32)
  | 0 => fun _ _ _ _ _ => none
  | d + 1 => fun w x1 x2 x4 x6 => bX11_builtWith_0 N d (eX11_builtWith N d) w x1 x2 x4 x6
set_option maxHeartbeats 4000000 in
set_option maxRecDepth 20000 in
theorem mX11_builtWith {l : Launch} {V : Ev} {N d : Nat} {w : Wd} {x1 : Int32} {x2 : Int64} {x4 : Int64} {x6 : Int32} {z : Wd × Int32} (h : eX11_builtWith N d w x1 x2 x4 x6 = some z) : MetI l V (cM V) (AM V) yX11_builtWith cX11_builtWith 9 (some .int) d [.ref (V.2.2 0), .int x1, .long x2, .long x4, .int x6] w z := by
  induction d generalizing w x1 x2 x4 x6 z with
  | zero => exact c_none h
  | succ d ih =>
    refine Met.ofW (cc := cX11_builtWith) (maxL := 9) (ret := (some .int)) (by decide) rfl ?_
    intro p e s m args below meth c s₁ B hml hv
    obtain ⟨rfl, hP, hD, hK⟩ := hv
    have hts := atoms_spec (ws := .code yX11_builtWith cX11_builtWith 9 (some .int) :: gG) B.pre
    have X : CX V p s m ([.ref (V.2.2 0), .int x1, .long x2, .long x4, .int x6] : List Value).toArray meth c cX11_builtWith 9 RX11 (some .int) := ⟨B.exec, B.bytes, hml, findClass_of_methodNamed B.named, fun w hw => hts w (List.mem_cons_of_mem _ hw), B.returns, B.notSynchronized, hK⟩
    have hl := lv_entry ([.ref (V.2.2 0), .int x1, .long x2, .long x4, .int x6] : List Value) (n := 9) (Nat.le_of_ble_eq_true rfl)
    rw [lg_entry_eq]
    generalize (lg_sl ([.ref (V.2.2 0), .int x1, .long x2, .long x4, .int x6] : List Value) ++ List.replicate (9 - (lg_sl ([.ref (V.2.2 0), .int x1, .long x2, .long x4, .int x6] : List Value)).length) Slot.unset).toArray = ls at hl ⊢
    have hl : lv_has ls 9 [(0, .ref (V.2.2 0)), (1, .int x1), (2, .long x2), (4, .long x4), (6, .int x6)] := hl
    exact kX11_builtWith_0 (N := N) X (fun _ _ _ _ _ _ h => ih h) h ⟨hP, hD, va_S.rf⟩ hl
theorem dX11_meet_0 : decode cX11_meet 0 = .ok (.aload_n 0, 1) := by decide +kernel
theorem dX11_meet_1 : decode cX11_meet 1 = .ok (.iload_n 3, 1) := by decide +kernel
theorem dX11_meet_2 : decode cX11_meet 2 = .ok (.invokevirtual 117, 3) := by decide +kernel
theorem dX11_meet_5 : decode cX11_meet 5 = .ok (.ifCond .ne 19, 3) := by decide +kernel
theorem dX11_meet_8 : decode cX11_meet 8 = .ok (.aload_n 0, 1) := by decide +kernel
theorem dX11_meet_9 : decode cX11_meet 9 = .ok (.getfield 276, 3) := by decide +kernel
theorem dX11_meet_12 : decode cX11_meet 12 = .ok (.bipush 60, 2) := by decide +kernel
theorem dX11_meet_14 : decode cX11_meet 14 = .ok (.if_icmp .eq 10, 3) := by decide +kernel
theorem dX11_meet_17 : decode cX11_meet 17 = .ok (.aload_n 0, 1) := by decide +kernel
theorem dX11_meet_18 : decode cX11_meet 18 = .ok (.getfield 121, 3) := by decide +kernel
theorem dX11_meet_21 : decode cX11_meet 21 = .ok (.ifCond .eq 4, 3) := by decide +kernel
theorem dX11_meet_24 : decode cX11_meet 24 = .ok (.return_, 1) := by decide +kernel
theorem dX11_meet_25 : decode cX11_meet 25 = .ok (.iload_n 1, 1) := by decide +kernel
theorem dX11_meet_26 : decode cX11_meet 26 = .ok (.iload_n 2, 1) := by decide +kernel
theorem dX11_meet_27 : decode cX11_meet 27 = .ok (.if_icmp .ne 10, 3) := by decide +kernel
theorem dX11_meet_30 : decode cX11_meet 30 = .ok (.lload 4, 2) := by decide +kernel
theorem dX11_meet_32 : decode cX11_meet 32 = .ok (.lconst 1, 1) := by decide +kernel
theorem dX11_meet_33 : decode cX11_meet 33 = .ok (.lcmp, 1) := by decide +kernel
theorem dX11_meet_34 : decode cX11_meet 34 = .ok (.ifCond .eq 178, 3) := by decide +kernel
theorem dX11_meet_37 : decode cX11_meet 37 = .ok (.iconst 0, 1) := by decide +kernel
theorem dX11_meet_38 : decode cX11_meet 38 = .ok (.istore 6, 2) := by decide +kernel
theorem dX11_meet_40 : decode cX11_meet 40 = .ok (.iload 6, 2) := by decide +kernel
theorem dX11_meet_42 : decode cX11_meet 42 = .ok (.bipush 8, 2) := by decide +kernel
theorem dX11_meet_44 : decode cX11_meet 44 = .ok (.if_icmp .ge 25, 3) := by decide +kernel
theorem dX11_meet_47 : decode cX11_meet 47 = .ok (.aload_n 0, 1) := by decide +kernel
theorem dX11_meet_48 : decode cX11_meet 48 = .ok (.getfield 66, 3) := by decide +kernel
theorem dX11_meet_51 : decode cX11_meet 51 = .ok (.iload 6, 2) := by decide +kernel
theorem dX11_meet_53 : decode cX11_meet 53 = .ok (.iconst (-1), 1) := by decide +kernel
theorem dX11_meet_54 : decode cX11_meet 54 = .ok (.iastore, 1) := by decide +kernel
theorem dX11_meet_55 : decode cX11_meet 55 = .ok (.aload_n 0, 1) := by decide +kernel
theorem dX11_meet_56 : decode cX11_meet 56 = .ok (.getfield 72, 3) := by decide +kernel
theorem dX11_meet_59 : decode cX11_meet 59 = .ok (.iload 6, 2) := by decide +kernel
theorem dX11_meet_61 : decode cX11_meet 61 = .ok (.iconst (-1), 1) := by decide +kernel
theorem dX11_meet_62 : decode cX11_meet 62 = .ok (.iastore, 1) := by decide +kernel
theorem dX11_meet_63 : decode cX11_meet 63 = .ok (.iinc 6 1, 3) := by decide +kernel
theorem dX11_meet_66 : decode cX11_meet 66 = .ok (.goto (-26), 3) := by decide +kernel
theorem dX11_meet_69 : decode cX11_meet 69 = .ok (.aload_n 0, 1) := by decide +kernel
theorem dX11_meet_70 : decode cX11_meet 70 = .ok (.iload_n 3, 1) := by decide +kernel
theorem dX11_meet_71 : decode cX11_meet 71 = .ok (.iconst 0, 1) := by decide +kernel
theorem dX11_meet_72 : decode cX11_meet 72 = .ok (.aload_n 0, 1) := by decide +kernel
theorem dX11_meet_73 : decode cX11_meet 73 = .ok (.getfield 35, 3) := by decide +kernel
theorem dX11_meet_76 : decode cX11_meet 76 = .ok (.iload_n 2, 1) := by decide +kernel
theorem dX11_meet_77 : decode cX11_meet 77 = .ok (.iaload, 1) := by decide +kernel
theorem dX11_meet_78 : decode cX11_meet 78 = .ok (.iconst 4, 1) := by decide +kernel
theorem dX11_meet_79 : decode cX11_meet 79 = .ok (.invokevirtual 259, 3) := by decide +kernel
theorem dX11_meet_82 : decode cX11_meet 82 = .ok (.ifCond .eq 130, 3) := by decide +kernel
theorem dX11_meet_85 : decode cX11_meet 85 = .ok (.aload_n 0, 1) := by decide +kernel
theorem dX11_meet_86 : decode cX11_meet 86 = .ok (.iconst 0, 1) := by decide +kernel
theorem dX11_meet_87 : decode cX11_meet 87 = .ok (.putfield 263, 3) := by decide +kernel
theorem dX11_meet_90 : decode cX11_meet 90 = .ok (.aload_n 0, 1) := by decide +kernel
theorem dX11_meet_91 : decode cX11_meet 91 = .ok (.aload_n 0, 1) := by decide +kernel
theorem dX11_meet_92 : decode cX11_meet 92 = .ok (.getfield 35, 3) := by decide +kernel
theorem dX11_meet_95 : decode cX11_meet 95 = .ok (.iload_n 1, 1) := by decide +kernel
theorem dX11_meet_96 : decode cX11_meet 96 = .ok (.iaload, 1) := by decide +kernel
theorem dX11_meet_97 : decode cX11_meet 97 = .ok (.iconst 0, 1) := by decide +kernel
theorem dX11_meet_98 : decode cX11_meet 98 = .ok (.invokevirtual 266, 3) := by decide +kernel
theorem dX11_meet_101 : decode cX11_meet 101 = .ok (.aload_n 0, 1) := by decide +kernel
theorem dX11_meet_102 : decode cX11_meet 102 = .ok (.aload_n 0, 1) := by decide +kernel
theorem dX11_meet_103 : decode cX11_meet 103 = .ok (.getfield 35, 3) := by decide +kernel
theorem dX11_meet_106 : decode cX11_meet 106 = .ok (.iload_n 1, 1) := by decide +kernel
theorem dX11_meet_107 : decode cX11_meet 107 = .ok (.iaload, 1) := by decide +kernel
theorem dX11_meet_108 : decode cX11_meet 108 = .ok (.lconst 1, 1) := by decide +kernel
theorem dX11_meet_109 : decode cX11_meet 109 = .ok (.lload 4, 2) := by decide +kernel
theorem dX11_meet_111 : decode cX11_meet 111 = .ok (.aload_n 0, 1) := by decide +kernel
theorem dX11_meet_112 : decode cX11_meet 112 = .ok (.getfield 38, 3) := by decide +kernel
theorem dX11_meet_115 : decode cX11_meet 115 = .ok (.iload_n 2, 1) := by decide +kernel
theorem dX11_meet_116 : decode cX11_meet 116 = .ok (.iaload, 1) := by decide +kernel
theorem dX11_meet_117 : decode cX11_meet 117 = .ok (.invokevirtual 272, 3) := by decide +kernel
theorem dX11_meet_120 : decode cX11_meet 120 = .ok (.istore 6, 2) := by decide +kernel
theorem dX11_meet_122 : decode cX11_meet 122 = .ok (.aload_n 0, 1) := by decide +kernel
theorem dX11_meet_123 : decode cX11_meet 123 = .ok (.aload_n 0, 1) := by decide +kernel
theorem dX11_meet_124 : decode cX11_meet 124 = .ok (.getfield 38, 3) := by decide +kernel
theorem dX11_meet_127 : decode cX11_meet 127 = .ok (.iload_n 1, 1) := by decide +kernel
theorem dX11_meet_128 : decode cX11_meet 128 = .ok (.iaload, 1) := by decide +kernel
theorem dX11_meet_129 : decode cX11_meet 129 = .ok (.iconst 0, 1) := by decide +kernel
theorem dX11_meet_130 : decode cX11_meet 130 = .ok (.invokevirtual 269, 3) := by decide +kernel
theorem dX11_meet_133 : decode cX11_meet 133 = .ok (.istore 7, 2) := by decide +kernel
theorem dX11_meet_135 : decode cX11_meet 135 = .ok (.aload_n 0, 1) := by decide +kernel
theorem dX11_meet_136 : decode cX11_meet 136 = .ok (.getfield 90, 3) := by decide +kernel
theorem dX11_meet_139 : decode cX11_meet 139 = .ok (.iconst 4, 1) := by decide +kernel
theorem dX11_meet_140 : decode cX11_meet 140 = .ok (.aload_n 0, 1) := by decide +kernel
theorem dX11_meet_141 : decode cX11_meet 141 = .ok (.getfield 276, 3) := by decide +kernel
theorem dX11_meet_144 : decode cX11_meet 144 = .ok (.imul, 1) := by decide +kernel
theorem dX11_meet_145 : decode cX11_meet 145 = .ok (.iload_n 1, 1) := by decide +kernel
theorem dX11_meet_146 : decode cX11_meet 146 = .ok (.iastore, 1) := by decide +kernel
theorem dX11_meet_147 : decode cX11_meet 147 = .ok (.aload_n 0, 1) := by decide +kernel
theorem dX11_meet_148 : decode cX11_meet 148 = .ok (.getfield 90, 3) := by decide +kernel
theorem dX11_meet_151 : decode cX11_meet 151 = .ok (.iconst 4, 1) := by decide +kernel
theorem dX11_meet_152 : decode cX11_meet 152 = .ok (.aload_n 0, 1) := by decide +kernel
theorem dX11_meet_153 : decode cX11_meet 153 = .ok (.getfield 276, 3) := by decide +kernel
theorem dX11_meet_156 : decode cX11_meet 156 = .ok (.imul, 1) := by decide +kernel
theorem dX11_meet_157 : decode cX11_meet 157 = .ok (.iconst 1, 1) := by decide +kernel
theorem dX11_meet_158 : decode cX11_meet 158 = .ok (.iadd, 1) := by decide +kernel
theorem dX11_meet_159 : decode cX11_meet 159 = .ok (.iload_n 2, 1) := by decide +kernel
theorem dX11_meet_160 : decode cX11_meet 160 = .ok (.iastore, 1) := by decide +kernel
theorem dX11_meet_161 : decode cX11_meet 161 = .ok (.aload_n 0, 1) := by decide +kernel
theorem dX11_meet_162 : decode cX11_meet 162 = .ok (.getfield 90, 3) := by decide +kernel
theorem dX11_meet_165 : decode cX11_meet 165 = .ok (.iconst 4, 1) := by decide +kernel
theorem dX11_meet_166 : decode cX11_meet 166 = .ok (.aload_n 0, 1) := by decide +kernel
theorem dX11_meet_167 : decode cX11_meet 167 = .ok (.getfield 276, 3) := by decide +kernel
theorem dX11_meet_170 : decode cX11_meet 170 = .ok (.imul, 1) := by decide +kernel
theorem dX11_meet_171 : decode cX11_meet 171 = .ok (.iconst 2, 1) := by decide +kernel
theorem dX11_meet_172 : decode cX11_meet 172 = .ok (.iadd, 1) := by decide +kernel
theorem dX11_meet_173 : decode cX11_meet 173 = .ok (.iload 6, 2) := by decide +kernel
theorem dX11_meet_175 : decode cX11_meet 175 = .ok (.iastore, 1) := by decide +kernel
theorem dX11_meet_176 : decode cX11_meet 176 = .ok (.aload_n 0, 1) := by decide +kernel
theorem dX11_meet_177 : decode cX11_meet 177 = .ok (.getfield 90, 3) := by decide +kernel
theorem dX11_meet_180 : decode cX11_meet 180 = .ok (.iconst 4, 1) := by decide +kernel
theorem dX11_meet_181 : decode cX11_meet 181 = .ok (.aload_n 0, 1) := by decide +kernel
theorem dX11_meet_182 : decode cX11_meet 182 = .ok (.getfield 276, 3) := by decide +kernel
theorem dX11_meet_185 : decode cX11_meet 185 = .ok (.imul, 1) := by decide +kernel
theorem dX11_meet_186 : decode cX11_meet 186 = .ok (.iconst 3, 1) := by decide +kernel
theorem dX11_meet_187 : decode cX11_meet 187 = .ok (.iadd, 1) := by decide +kernel
theorem dX11_meet_188 : decode cX11_meet 188 = .ok (.iload 7, 2) := by decide +kernel
theorem dX11_meet_190 : decode cX11_meet 190 = .ok (.iastore, 1) := by decide +kernel
theorem dX11_meet_191 : decode cX11_meet 191 = .ok (.aload_n 0, 1) := by decide +kernel
theorem dX11_meet_192 : decode cX11_meet 192 = .ok (.getfield 93, 3) := by decide +kernel
theorem dX11_meet_195 : decode cX11_meet 195 = .ok (.aload_n 0, 1) := by decide +kernel
theorem dX11_meet_196 : decode cX11_meet 196 = .ok (.getfield 276, 3) := by decide +kernel
theorem dX11_meet_199 : decode cX11_meet 199 = .ok (.lload 4, 2) := by decide +kernel
theorem dX11_meet_201 : decode cX11_meet 201 = .ok (.lastore, 1) := by decide +kernel
theorem dX11_meet_202 : decode cX11_meet 202 = .ok (.aload_n 0, 1) := by decide +kernel
theorem dX11_meet_203 : decode cX11_meet 203 = .ok (.dup, 1) := by decide +kernel
theorem dX11_meet_204 : decode cX11_meet 204 = .ok (.getfield 276, 3) := by decide +kernel
theorem dX11_meet_207 : decode cX11_meet 207 = .ok (.iconst 1, 1) := by decide +kernel
theorem dX11_meet_208 : decode cX11_meet 208 = .ok (.iadd, 1) := by decide +kernel
theorem dX11_meet_209 : decode cX11_meet 209 = .ok (.putfield 276, 3) := by decide +kernel
theorem dX11_meet_212 : decode cX11_meet 212 = .ok (.iconst 0, 1) := by decide +kernel
theorem dX11_meet_213 : decode cX11_meet 213 = .ok (.istore 6, 2) := by decide +kernel
theorem dX11_meet_215 : decode cX11_meet 215 = .ok (.iload 6, 2) := by decide +kernel
theorem dX11_meet_217 : decode cX11_meet 217 = .ok (.aload_n 0, 1) := by decide +kernel
theorem dX11_meet_218 : decode cX11_meet 218 = .ok (.iload_n 3, 1) := by decide +kernel
theorem dX11_meet_219 : decode cX11_meet 219 = .ok (.invokevirtual 140, 3) := by decide +kernel
theorem dX11_meet_222 : decode cX11_meet 222 = .ok (.if_icmp .ge 29, 3) := by decide +kernel
theorem dX11_meet_225 : decode cX11_meet 225 = .ok (.aload_n 0, 1) := by decide +kernel
theorem dX11_meet_226 : decode cX11_meet 226 = .ok (.iload_n 1, 1) := by decide +kernel
theorem dX11_meet_227 : decode cX11_meet 227 = .ok (.iload_n 2, 1) := by decide +kernel
theorem dX11_meet_228 : decode cX11_meet 228 = .ok (.aload_n 0, 1) := by decide +kernel
theorem dX11_meet_229 : decode cX11_meet 229 = .ok (.iload_n 3, 1) := by decide +kernel
theorem dX11_meet_230 : decode cX11_meet 230 = .ok (.iload 6, 2) := by decide +kernel
theorem dX11_meet_232 : decode cX11_meet 232 = .ok (.invokevirtual 143, 3) := by decide +kernel
theorem dX11_meet_235 : decode cX11_meet 235 = .ok (.lload 4, 2) := by decide +kernel
theorem dX11_meet_237 : decode cX11_meet 237 = .ok (.iload 6, 2) := by decide +kernel
theorem dX11_meet_239 : decode cX11_meet 239 = .ok (.invokestatic 179, 3) := by decide +kernel
theorem dX11_meet_242 : decode cX11_meet 242 = .ok (.invokevirtual 279, 3) := by decide +kernel
theorem dX11_meet_245 : decode cX11_meet 245 = .ok (.iinc 6 1, 3) := by decide +kernel
theorem dX11_meet_248 : decode cX11_meet 248 = .ok (.goto (-33), 3) := by decide +kernel
theorem dX11_meet_251 : decode cX11_meet 251 = .ok (.return_, 1) := by decide +kernel
def bX11_meet_24 (N d : Nat) (self_X11_meet : Wd → Int32 → Int32 → Int32 → Int64 → Option (Wd))  (w : Wd)  : Option (Wd) :=
  some w
set_option maxHeartbeats 4000000 in
theorem kX11_meet_24 {V : Ev} {p : Program} {l : Launch} {e : Env} {N d : Nat} {s : State} {m : MethodId} {args : Array Value} {below : List Frame} {meth : Method} {c : Code} {z : Wd} (X : CX V p s m args meth c cX11_meet 8 RX11 none) {self_X11_meet : Wd → Int32 → Int32 → Int32 → Int64 → Option (Wd)} (hs_X11_meet : ∀ (w : Wd) (a0 : Int32) (a1 : Int32) (a2 : Int32) (a3 : Int64) (x : Wd), self_X11_meet w a0 a1 a2 a3 = some x → MetV l V (cM V) (AM V) yX11_meet cX11_meet 8 none d [.ref (V.2.2 0), .int a0, .int a1, .int a2, .long a3] w x)  {w : Wd}  {H : Heap} {locs : List Loc} {ls : Array Slot} (h : bX11_meet_24 N d self_X11_meet  w  = some z) (hH : wH V (cM V) (AM V) s w H locs) (hl : lv_has ls 8 []) : W p l e (rmD (d + 1)) s m args below meth c H locs 0 0 (MQ below (CtV V (cM V) (AM V) z) args s 0 0 (AM V)) (F0 m 24 ls []) := by
  unfold bX11_meet_24 at h
  obtain ⟨hx, hb, hml, hown, hg, hrt, hlk, hK⟩ := id X
  exact r_vret (pc := 24) X hH h dX11_meet_24
def bX11_meet_215 (N d : Nat) (self_X11_meet : Wd → Int32 → Int32 → Int32 → Int64 → Option (Wd)) (rec215 : Wd → Int32 → Int32 → Int32 → Int64 → Int32 → Option (Wd)) (w : Wd) (x1 : Int32) (x2 : Int32) (x3 : Int32) (x4 : Int64) (x6 : Int32) : Option (Wd) :=
  c_cl (eX11_parts N d w x3) fun w6 v7 =>
  if v7 ≤ x6 then (
    some w6
  ) else (
    c_cl (eX11_partOf N d w6 x3 x6) fun w8 v9 =>
    c_cl (eX11_below N d w8 x4 x6) fun w10 v11 =>
    c_cv (self_X11_meet w10 x1 x2 v9 v11) fun w12 =>
    c_nm (x6 + 1) fun x6_13 =>
    rec215 w12 x1 x2 x3 x4 x6_13
  )
set_option maxHeartbeats 4000000 in
theorem kX11_meet_215 {V : Ev} {p : Program} {l : Launch} {e : Env} {N d : Nat} {s : State} {m : MethodId} {args : Array Value} {below : List Frame} {meth : Method} {c : Code} {z : Wd} (X : CX V p s m args meth c cX11_meet 8 RX11 none) {self_X11_meet : Wd → Int32 → Int32 → Int32 → Int64 → Option (Wd)} (hs_X11_meet : ∀ (w : Wd) (a0 : Int32) (a1 : Int32) (a2 : Int32) (a3 : Int64) (x : Wd), self_X11_meet w a0 a1 a2 a3 = some x → MetV l V (cM V) (AM V) yX11_meet cX11_meet 8 none d [.ref (V.2.2 0), .int a0, .int a1, .int a2, .long a3] w x) {rec215 : Wd → Int32 → Int32 → Int32 → Int64 → Int32 → Option (Wd)} (hr215 : ∀ (w : Wd) (x1 : Int32) (x2 : Int32) (x3 : Int32) (x4 : Int64) (x6 : Int32) (H : Heap) (locs : List Loc) (ls : Array Slot), rec215 w x1 x2 x3 x4 x6 = some z → wH V (cM V) (AM V) s w H locs → lv_has ls 8 [(0, .ref (V.2.2 0)), (1, .int x1), (2, .int x2), (3, .int x3), (4, .long x4), (6, .int x6)] → W p l e (rmD (d + 1)) s m args below meth c H locs 0 0 (MQ below (CtV V (cM V) (AM V) z) args s 0 0 (AM V)) (F0 m 215 ls [])) {w : Wd} {x1 : Int32} {x2 : Int32} {x3 : Int32} {x4 : Int64} {x6 : Int32} {H : Heap} {locs : List Loc} {ls : Array Slot} (h : bX11_meet_215 N d self_X11_meet rec215 w x1 x2 x3 x4 x6 = some z) (hH : wH V (cM V) (AM V) s w H locs) (hl : lv_has ls 8 [(0, .ref (V.2.2 0)), (1, .int x1), (2, .int x2), (3, .int x3), (4, .long x4), (6, .int x6)]) : W p l e (rmD (d + 1)) s m args below meth c H locs 0 0 (MQ below (CtV V (cM V) (AM V) z) args s 0 0 (AM V)) (F0 m 215 ls []) := by
  unfold bX11_meet_215 at h
  obtain ⟨hx, hb, hml, hown, hg, hrt, hlk, hK⟩ := id X
  refine lv_iload (pc := 215) hx hb dX11_meet_215 (lv_at hl 5 rfl) ?_
  refine lv_aload_n (pc := 217) hx hb dX11_meet_217 rfl (lv_at hl 0 rfl) ?_
  refine lv_iload_n (pc := 218) hx hb dX11_meet_218 rfl (lv_at hl 3 rfl) ?_
  refine r_cvI (pc := 219) (As := [.int x3]) (rest := [.int x6]) X hH (fun x hx => mX11_parts hx) cw_X11_140 (heM_0 V w) rfl rfl rfl (Nat.le_of_ble_eq_true rfl) hl.1 h dX11_meet_219 (fun w6 v7 H locs h hH => ?_)
  refine b_icmp_ge (pc := 222) (tgt := 251) hx hb h dX11_meet_222 (by decide) (fun h => ?_) (fun h => ?_)
  · exact r_vret (pc := 251) X hH h dX11_meet_251
  · refine lv_aload_n (pc := 225) hx hb dX11_meet_225 rfl (lv_at hl 0 rfl) ?_
    refine lv_iload_n (pc := 226) hx hb dX11_meet_226 rfl (lv_at hl 1 rfl) ?_
    refine lv_iload_n (pc := 227) hx hb dX11_meet_227 rfl (lv_at hl 2 rfl) ?_
    refine lv_aload_n (pc := 228) hx hb dX11_meet_228 rfl (lv_at hl 0 rfl) ?_
    refine lv_iload_n (pc := 229) hx hb dX11_meet_229 rfl (lv_at hl 3 rfl) ?_
    refine lv_iload (pc := 230) hx hb dX11_meet_230 (lv_at hl 5 rfl) ?_
    refine r_cvI (pc := 232) (As := [.int x3, .int x6]) (rest := [.int x2, .int x1, .ref (V.2.2 0)]) X hH (fun x hx => mX11_partOf hx) cw_X11_143 (heM_0 V w6) rfl rfl rfl (Nat.le_of_ble_eq_true rfl) hl.1 h dX11_meet_232 (fun w8 v9 H locs h hH => ?_)
    refine lv_lload (pc := 235) hx hb dX11_meet_235 (lv_at hl 4 rfl) ?_
    refine lv_iload (pc := 237) hx hb dX11_meet_237 (lv_at hl 5 rfl) ?_
    refine r_csL (pc := 239) (As := [.long x4, .int x6]) (rest := [.int v9, .int x2, .int x1, .ref (V.2.2 0)]) X hH (fun x hx => mX11_below hx) cs_X11_179 rfl rfl (Nat.le_of_ble_eq_true rfl) hl.1 h dX11_meet_239 (fun w10 v11 H locs h hH => ?_)
    refine r_cvV (pc := 242) (As := [.int x1, .int x2, .int v9, .long v11]) (rest := []) X hH (fun x hx => hs_X11_meet _ _ _ _ _ _ hx) cw_X11_279 (heM_0 V w10) rfl rfl rfl (Nat.le_of_ble_eq_true rfl) hl.1 h dX11_meet_242 (fun w12 H locs h hH => ?_)
    obtain ⟨x6_13, ex6_13, h⟩ := c_nm_ex h
    refine lv_iinc (pc := 245) (v := x6_13) (lv' := [(6, .int x6_13), (0, .ref (V.2.2 0)), (1, .int x1), (2, .int x2), (3, .int x3), (4, .long x4)]) hx hb dX11_meet_245 hl (k := 5) rfl (by rw [← ex6_13]; rfl) (by decide) rfl (fun ls hl => ?_)
    refine lv_goto (pc := 248) (tgt := 215) hx hb dX11_meet_248 (by decide) ?_
    exact hr215 _ _ _ _ _ _ _ _ _ h hH (lv_sub hl [1, 2, 3, 4, 5, 0] rfl)
def fX11_meet_215 (N d : Nat) (self_X11_meet : Wd → Int32 → Int32 → Int32 → Int64 → Option (Wd))  : Nat → Wd → Int32 → Int32 → Int32 → Int64 → Int32 → Option (Wd)
  | 0 => fun _ _ _ _ _ _ => none
  | n + 1 => fun w x1 x2 x3 x4 x6 => bX11_meet_215 N d self_X11_meet  (fX11_meet_215 N d self_X11_meet  n) w x1 x2 x3 x4 x6
theorem lX11_meet_215 {V : Ev} {p : Program} {l : Launch} {e : Env} {N d : Nat} {s : State} {m : MethodId} {args : Array Value} {below : List Frame} {meth : Method} {c : Code} {z : Wd} (X : CX V p s m args meth c cX11_meet 8 RX11 none) {self_X11_meet : Wd → Int32 → Int32 → Int32 → Int64 → Option (Wd)} (hs_X11_meet : ∀ (w : Wd) (a0 : Int32) (a1 : Int32) (a2 : Int32) (a3 : Int64) (x : Wd), self_X11_meet w a0 a1 a2 a3 = some x → MetV l V (cM V) (AM V) yX11_meet cX11_meet 8 none d [.ref (V.2.2 0), .int a0, .int a1, .int a2, .long a3] w x)  (n : Nat) {w : Wd} {x1 : Int32} {x2 : Int32} {x3 : Int32} {x4 : Int64} {x6 : Int32} {H : Heap} {locs : List Loc} {ls : Array Slot} (h : fX11_meet_215 N d self_X11_meet  n w x1 x2 x3 x4 x6 = some z) (hH : wH V (cM V) (AM V) s w H locs) (hl : lv_has ls 8 [(0, .ref (V.2.2 0)), (1, .int x1), (2, .int x2), (3, .int x3), (4, .long x4), (6, .int x6)]) : W p l e (rmD (d + 1)) s m args below meth c H locs 0 0 (MQ below (CtV V (cM V) (AM V) z) args s 0 0 (AM V)) (F0 m 215 ls []) := by
  induction n generalizing w x1 x2 x3 x4 x6 H locs ls with
  | zero => exact c_none h
  | succ n ih => exact kX11_meet_215 (N := N) X hs_X11_meet (fun _ _ _ _ _ _ _ _ _ h hH hl => ih h hH hl) h hH hl
def bX11_meet_212 (N d : Nat) (self_X11_meet : Wd → Int32 → Int32 → Int32 → Int64 → Option (Wd))  (w : Wd) (x1 : Int32) (x2 : Int32) (x3 : Int32) (x4 : Int64) : Option (Wd) :=
  fX11_meet_215 N d self_X11_meet  N w x1 x2 x3 x4 ((0 : Int32))
set_option maxHeartbeats 4000000 in
theorem kX11_meet_212 {V : Ev} {p : Program} {l : Launch} {e : Env} {N d : Nat} {s : State} {m : MethodId} {args : Array Value} {below : List Frame} {meth : Method} {c : Code} {z : Wd} (X : CX V p s m args meth c cX11_meet 8 RX11 none) {self_X11_meet : Wd → Int32 → Int32 → Int32 → Int64 → Option (Wd)} (hs_X11_meet : ∀ (w : Wd) (a0 : Int32) (a1 : Int32) (a2 : Int32) (a3 : Int64) (x : Wd), self_X11_meet w a0 a1 a2 a3 = some x → MetV l V (cM V) (AM V) yX11_meet cX11_meet 8 none d [.ref (V.2.2 0), .int a0, .int a1, .int a2, .long a3] w x)  {w : Wd} {x1 : Int32} {x2 : Int32} {x3 : Int32} {x4 : Int64} {H : Heap} {locs : List Loc} {ls : Array Slot} (h : bX11_meet_212 N d self_X11_meet  w x1 x2 x3 x4 = some z) (hH : wH V (cM V) (AM V) s w H locs) (hl : lv_has ls 8 [(0, .ref (V.2.2 0)), (1, .int x1), (2, .int x2), (3, .int x3), (4, .long x4)]) : W p l e (rmD (d + 1)) s m args below meth c H locs 0 0 (MQ below (CtV V (cM V) (AM V) z) args s 0 0 (AM V)) (F0 m 212 ls []) := by
  unfold bX11_meet_212 at h
  obtain ⟨hx, hb, hml, hown, hg, hrt, hlk, hK⟩ := id X
  refine lv_iconst (pc := 212) (v := 0) hx hb dX11_meet_212 (by decide) ?_
  refine lv_istore (pc := 213) (lv' := [(6, .int ((0 : Int32))), (0, .ref (V.2.2 0)), (1, .int x1), (2, .int x2), (3, .int x3), (4, .long x4)]) hx hb dX11_meet_213 hl (by decide) rfl (fun ls hl => ?_)
  exact lX11_meet_215 X hs_X11_meet  N h hH (lv_sub hl [1, 2, 3, 4, 5, 0] rfl)
def bX11_meet_40 (N d : Nat) (self_X11_meet : Wd → Int32 → Int32 → Int32 → Int64 → Option (Wd)) (rec40 : Wd → Int32 → Int32 → Int32 → Int64 → Int32 → Option (Wd)) (w : Wd) (x1 : Int32) (x2 : Int32) (x3 : Int32) (x4 : Int64) (x6 : Int32) : Option (Wd) :=
  if 8 ≤ x6 then (
    c_ld w 9 16 x2 fun v3 =>
    c_cl (eX11_unify N d w x3 0 v3 4) fun w4 v5 =>
    if v5 = 0 then (
      bX11_meet_212 N d self_X11_meet  w4 x1 x2 x3 x4
    ) else (
      c_pi w4 12 0 fun w14 =>
      c_ld w14 9 16 x1 fun v15 =>
      c_cv (eX11_number N d w14 v15 0) fun w16 =>
      c_ld w16 9 16 x1 fun v17 =>
      c_ld w16 10 16 x2 fun v18 =>
      c_cl (eX11_builtWith N d w16 v17 1 x4 v18) fun w19 v20 =>
      c_ld w19 10 16 x1 fun v21 =>
      c_cl (eX11_built N d w19 v21 0) fun w22 v23 =>
      c_st w22 27 240 (4 * (sI w22 14)) x1 fun w24 =>
      c_st w24 27 240 ((4 * (sI w24 14)) + 1) x2 fun w25 =>
      c_st w25 27 240 ((4 * (sI w25 14)) + 2) v20 fun w26 =>
      c_st w26 27 240 ((4 * (sI w26 14)) + 3) v23 fun w27 =>
      c_sl w27 28 60 (sI w27 14) x4 fun w28 =>
      c_pi w28 14 ((sI w28 14) + 1) fun w29 =>
      bX11_meet_212 N d self_X11_meet  w29 x1 x2 x3 x4
    )
  ) else (
    c_st w 19 8 x6 (-1) fun w30 =>
    c_st w30 21 8 x6 (-1) fun w31 =>
    c_nm (x6 + 1) fun x6_32 =>
    rec40 w31 x1 x2 x3 x4 x6_32
  )
set_option maxHeartbeats 4000000 in
theorem kX11_meet_40 {V : Ev} {p : Program} {l : Launch} {e : Env} {N d : Nat} {s : State} {m : MethodId} {args : Array Value} {below : List Frame} {meth : Method} {c : Code} {z : Wd} (X : CX V p s m args meth c cX11_meet 8 RX11 none) {self_X11_meet : Wd → Int32 → Int32 → Int32 → Int64 → Option (Wd)} (hs_X11_meet : ∀ (w : Wd) (a0 : Int32) (a1 : Int32) (a2 : Int32) (a3 : Int64) (x : Wd), self_X11_meet w a0 a1 a2 a3 = some x → MetV l V (cM V) (AM V) yX11_meet cX11_meet 8 none d [.ref (V.2.2 0), .int a0, .int a1, .int a2, .long a3] w x) {rec40 : Wd → Int32 → Int32 → Int32 → Int64 → Int32 → Option (Wd)} (hr40 : ∀ (w : Wd) (x1 : Int32) (x2 : Int32) (x3 : Int32) (x4 : Int64) (x6 : Int32) (H : Heap) (locs : List Loc) (ls : Array Slot), rec40 w x1 x2 x3 x4 x6 = some z → wH V (cM V) (AM V) s w H locs → lv_has ls 8 [(0, .ref (V.2.2 0)), (1, .int x1), (2, .int x2), (3, .int x3), (4, .long x4), (6, .int x6)] → W p l e (rmD (d + 1)) s m args below meth c H locs 0 0 (MQ below (CtV V (cM V) (AM V) z) args s 0 0 (AM V)) (F0 m 40 ls [])) {w : Wd} {x1 : Int32} {x2 : Int32} {x3 : Int32} {x4 : Int64} {x6 : Int32} {H : Heap} {locs : List Loc} {ls : Array Slot} (h : bX11_meet_40 N d self_X11_meet rec40 w x1 x2 x3 x4 x6 = some z) (hH : wH V (cM V) (AM V) s w H locs) (hl : lv_has ls 8 [(0, .ref (V.2.2 0)), (1, .int x1), (2, .int x2), (3, .int x3), (4, .long x4), (6, .int x6)]) : W p l e (rmD (d + 1)) s m args below meth c H locs 0 0 (MQ below (CtV V (cM V) (AM V) z) args s 0 0 (AM V)) (F0 m 40 ls []) := by
  unfold bX11_meet_40 at h
  obtain ⟨hx, hb, hml, hown, hg, hrt, hlk, hK⟩ := id X
  refine lv_iload (pc := 40) hx hb dX11_meet_40 (lv_at hl 5 rfl) ?_
  refine lv_bipush (pc := 42) (v := 8) hx hb dX11_meet_42 (by decide) ?_
  refine b_icmp_ge (pc := 44) (tgt := 69) hx hb h dX11_meet_44 (by decide) (fun h => ?_) (fun h => ?_)
  · refine lv_aload_n (pc := 69) hx hb dX11_meet_69 rfl (lv_at hl 0 rfl) ?_
    refine lv_iload_n (pc := 70) hx hb dX11_meet_70 rfl (lv_at hl 3 rfl) ?_
    refine lv_iconst (pc := 71) (v := 0) hx hb dX11_meet_71 (by decide) ?_
    refine lv_aload_n (pc := 72) hx hb dX11_meet_72 rfl (lv_at hl 0 rfl) ?_
    refine gM_X11_35_0 (pc := 73) X hH dX11_meet_73 ?_
    refine lv_iload_n (pc := 76) hx hb dX11_meet_76 rfl (lv_at hl 2 rfl) ?_
    refine r_ld (pc := 77) X (heM_9 V w) hH h dX11_meet_77 (fun v3 h => ?_)
    refine lv_iconst (pc := 78) (v := 4) hx hb dX11_meet_78 (by decide) ?_
    refine r_cvI (pc := 79) (As := [.int x3, .int 0, .int v3, .int 4]) (rest := []) X hH (fun x hx => mX11_unify hx) cw_X11_259 (heM_0 V w) rfl rfl rfl (Nat.le_of_ble_eq_true rfl) hl.1 h dX11_meet_79 (fun w4 v5 H locs h hH => ?_)
    refine b_if_eq (pc := 82) (tgt := 212) hx hb h dX11_meet_82 (by decide) (fun h => ?_) (fun h => ?_)
    · exact kX11_meet_212 X hs_X11_meet  h hH (lv_sub hl [0, 1, 2, 3, 4] rfl)
    · refine lv_aload_n (pc := 85) hx hb dX11_meet_85 rfl (lv_at hl 0 rfl) ?_
      refine lv_iconst (pc := 86) (v := 0) hx hb dX11_meet_86 (by decide) ?_
      refine pM_X11_263_0 (pc := 87) X hH h dX11_meet_87 (fun w14 H locs h hH => ?_)
      refine lv_aload_n (pc := 90) hx hb dX11_meet_90 rfl (lv_at hl 0 rfl) ?_
      refine lv_aload_n (pc := 91) hx hb dX11_meet_91 rfl (lv_at hl 0 rfl) ?_
      refine gM_X11_35_0 (pc := 92) X hH dX11_meet_92 ?_
      refine lv_iload_n (pc := 95) hx hb dX11_meet_95 rfl (lv_at hl 1 rfl) ?_
      refine r_ld (pc := 96) X (heM_9 V w14) hH h dX11_meet_96 (fun v15 h => ?_)
      refine lv_iconst (pc := 97) (v := 0) hx hb dX11_meet_97 (by decide) ?_
      refine r_cvV (pc := 98) (As := [.int v15, .int 0]) (rest := []) X hH (fun x hx => mX11_number hx) cw_X11_266 (heM_0 V w14) rfl rfl rfl (Nat.le_of_ble_eq_true rfl) hl.1 h dX11_meet_98 (fun w16 H locs h hH => ?_)
      refine lv_aload_n (pc := 101) hx hb dX11_meet_101 rfl (lv_at hl 0 rfl) ?_
      refine lv_aload_n (pc := 102) hx hb dX11_meet_102 rfl (lv_at hl 0 rfl) ?_
      refine gM_X11_35_0 (pc := 103) X hH dX11_meet_103 ?_
      refine lv_iload_n (pc := 106) hx hb dX11_meet_106 rfl (lv_at hl 1 rfl) ?_
      refine r_ld (pc := 107) X (heM_9 V w16) hH h dX11_meet_107 (fun v17 h => ?_)
      refine lv_lconst (pc := 108) (v := 1) hx hb dX11_meet_108 (by decide) ?_
      refine lv_lload (pc := 109) hx hb dX11_meet_109 (lv_at hl 4 rfl) ?_
      refine lv_aload_n (pc := 111) hx hb dX11_meet_111 rfl (lv_at hl 0 rfl) ?_
      refine gM_X11_38_0 (pc := 112) X hH dX11_meet_112 ?_
      refine lv_iload_n (pc := 115) hx hb dX11_meet_115 rfl (lv_at hl 2 rfl) ?_
      refine r_ld (pc := 116) X (heM_10 V w16) hH h dX11_meet_116 (fun v18 h => ?_)
      refine r_cvI (pc := 117) (As := [.int v17, .long 1, .long x4, .int v18]) (rest := []) X hH (fun x hx => mX11_builtWith hx) cw_X11_272 (heM_0 V w16) rfl rfl rfl (Nat.le_of_ble_eq_true rfl) hl.1 h dX11_meet_117 (fun w19 v20 H locs h hH => ?_)
      refine lv_istore (pc := 120) (lv' := [(6, .int v20), (0, .ref (V.2.2 0)), (1, .int x1), (2, .int x2), (3, .int x3), (4, .long x4)]) hx hb dX11_meet_120 hl (by decide) rfl (fun ls hl => ?_)
      refine lv_aload_n (pc := 122) hx hb dX11_meet_122 rfl (lv_at hl 1 rfl) ?_
      refine lv_aload_n (pc := 123) hx hb dX11_meet_123 rfl (lv_at hl 1 rfl) ?_
      refine gM_X11_38_0 (pc := 124) X hH dX11_meet_124 ?_
      refine lv_iload_n (pc := 127) hx hb dX11_meet_127 rfl (lv_at hl 2 rfl) ?_
      refine r_ld (pc := 128) X (heM_10 V w19) hH h dX11_meet_128 (fun v21 h => ?_)
      refine lv_iconst (pc := 129) (v := 0) hx hb dX11_meet_129 (by decide) ?_
      refine r_cvI (pc := 130) (As := [.int v21, .int 0]) (rest := []) X hH (fun x hx => mX11_built hx) cw_X11_269 (heM_0 V w19) rfl rfl rfl (Nat.le_of_ble_eq_true rfl) hl.1 h dX11_meet_130 (fun w22 v23 H locs h hH => ?_)
      refine lv_istore (pc := 133) (lv' := [(7, .int v23), (6, .int v20), (0, .ref (V.2.2 0)), (1, .int x1), (2, .int x2), (3, .int x3), (4, .long x4)]) hx hb dX11_meet_133 hl (by decide) rfl (fun ls hl => ?_)
      refine lv_aload_n (pc := 135) hx hb dX11_meet_135 rfl (lv_at hl 2 rfl) ?_
      refine gM_X11_90_0 (pc := 136) X hH dX11_meet_136 ?_
      refine lv_iconst (pc := 139) (v := 4) hx hb dX11_meet_139 (by decide) ?_
      refine lv_aload_n (pc := 140) hx hb dX11_meet_140 rfl (lv_at hl 2 rfl) ?_
      refine gM_X11_276_0 (pc := 141) X hH dX11_meet_141 ?_
      refine lv_imul (pc := 144) hx hb dX11_meet_144 ?_
      refine lv_iload_n (pc := 145) hx hb dX11_meet_145 rfl (lv_at hl 3 rfl) ?_
      refine r_st (pc := 146) X (heM_27 V w22) (hsM_27 V w22) hH h dX11_meet_146 (fun w24 H locs h hH => ?_)
      refine lv_aload_n (pc := 147) hx hb dX11_meet_147 rfl (lv_at hl 2 rfl) ?_
      refine gM_X11_90_0 (pc := 148) X hH dX11_meet_148 ?_
      refine lv_iconst (pc := 151) (v := 4) hx hb dX11_meet_151 (by decide) ?_
      refine lv_aload_n (pc := 152) hx hb dX11_meet_152 rfl (lv_at hl 2 rfl) ?_
      refine gM_X11_276_0 (pc := 153) X hH dX11_meet_153 ?_
      refine lv_imul (pc := 156) hx hb dX11_meet_156 ?_
      refine lv_iconst (pc := 157) (v := 1) hx hb dX11_meet_157 (by decide) ?_
      refine lv_iadd (pc := 158) hx hb dX11_meet_158 ?_
      refine lv_iload_n (pc := 159) hx hb dX11_meet_159 rfl (lv_at hl 4 rfl) ?_
      refine r_st (pc := 160) X (heM_27 V w24) (hsM_27 V w24) hH h dX11_meet_160 (fun w25 H locs h hH => ?_)
      refine lv_aload_n (pc := 161) hx hb dX11_meet_161 rfl (lv_at hl 2 rfl) ?_
      refine gM_X11_90_0 (pc := 162) X hH dX11_meet_162 ?_
      refine lv_iconst (pc := 165) (v := 4) hx hb dX11_meet_165 (by decide) ?_
      refine lv_aload_n (pc := 166) hx hb dX11_meet_166 rfl (lv_at hl 2 rfl) ?_
      refine gM_X11_276_0 (pc := 167) X hH dX11_meet_167 ?_
      refine lv_imul (pc := 170) hx hb dX11_meet_170 ?_
      refine lv_iconst (pc := 171) (v := 2) hx hb dX11_meet_171 (by decide) ?_
      refine lv_iadd (pc := 172) hx hb dX11_meet_172 ?_
      refine lv_iload (pc := 173) hx hb dX11_meet_173 (lv_at hl 1 rfl) ?_
      refine r_st (pc := 175) X (heM_27 V w25) (hsM_27 V w25) hH h dX11_meet_175 (fun w26 H locs h hH => ?_)
      refine lv_aload_n (pc := 176) hx hb dX11_meet_176 rfl (lv_at hl 2 rfl) ?_
      refine gM_X11_90_0 (pc := 177) X hH dX11_meet_177 ?_
      refine lv_iconst (pc := 180) (v := 4) hx hb dX11_meet_180 (by decide) ?_
      refine lv_aload_n (pc := 181) hx hb dX11_meet_181 rfl (lv_at hl 2 rfl) ?_
      refine gM_X11_276_0 (pc := 182) X hH dX11_meet_182 ?_
      refine lv_imul (pc := 185) hx hb dX11_meet_185 ?_
      refine lv_iconst (pc := 186) (v := 3) hx hb dX11_meet_186 (by decide) ?_
      refine lv_iadd (pc := 187) hx hb dX11_meet_187 ?_
      refine lv_iload (pc := 188) hx hb dX11_meet_188 (lv_at hl 0 rfl) ?_
      refine r_st (pc := 190) X (heM_27 V w26) (hsM_27 V w26) hH h dX11_meet_190 (fun w27 H locs h hH => ?_)
      refine lv_aload_n (pc := 191) hx hb dX11_meet_191 rfl (lv_at hl 2 rfl) ?_
      refine gM_X11_93_0 (pc := 192) X hH dX11_meet_192 ?_
      refine lv_aload_n (pc := 195) hx hb dX11_meet_195 rfl (lv_at hl 2 rfl) ?_
      refine gM_X11_276_0 (pc := 196) X hH dX11_meet_196 ?_
      refine lv_lload (pc := 199) hx hb dX11_meet_199 (lv_at hl 6 rfl) ?_
      refine r_sl (pc := 201) X (heM_28 V w27) (hsM_28 V w27) hH h dX11_meet_201 (fun w28 H locs h hH => ?_)
      refine lv_aload_n (pc := 202) hx hb dX11_meet_202 rfl (lv_at hl 2 rfl) ?_
      refine lv_dup (pc := 203) hx hb dX11_meet_203 rfl ?_
      refine gM_X11_276_0 (pc := 204) X hH dX11_meet_204 ?_
      refine lv_iconst (pc := 207) (v := 1) hx hb dX11_meet_207 (by decide) ?_
      refine lv_iadd (pc := 208) hx hb dX11_meet_208 ?_
      refine pM_X11_276_0 (pc := 209) X hH h dX11_meet_209 (fun w29 H locs h hH => ?_)
      exact kX11_meet_212 X hs_X11_meet  h hH (lv_sub hl [2, 3, 4, 5, 6] rfl)
  · refine lv_aload_n (pc := 47) hx hb dX11_meet_47 rfl (lv_at hl 0 rfl) ?_
    refine gM_X11_66_0 (pc := 48) X hH dX11_meet_48 ?_
    refine lv_iload (pc := 51) hx hb dX11_meet_51 (lv_at hl 5 rfl) ?_
    refine lv_iconst (pc := 53) (v := -1) hx hb dX11_meet_53 (by decide) ?_
    refine r_st (pc := 54) X (heM_19 V w) (hsM_19 V w) hH h dX11_meet_54 (fun w30 H locs h hH => ?_)
    refine lv_aload_n (pc := 55) hx hb dX11_meet_55 rfl (lv_at hl 0 rfl) ?_
    refine gM_X11_72_0 (pc := 56) X hH dX11_meet_56 ?_
    refine lv_iload (pc := 59) hx hb dX11_meet_59 (lv_at hl 5 rfl) ?_
    refine lv_iconst (pc := 61) (v := -1) hx hb dX11_meet_61 (by decide) ?_
    refine r_st (pc := 62) X (heM_21 V w30) (hsM_21 V w30) hH h dX11_meet_62 (fun w31 H locs h hH => ?_)
    obtain ⟨x6_32, ex6_32, h⟩ := c_nm_ex h
    refine lv_iinc (pc := 63) (v := x6_32) (lv' := [(6, .int x6_32), (0, .ref (V.2.2 0)), (1, .int x1), (2, .int x2), (3, .int x3), (4, .long x4)]) hx hb dX11_meet_63 hl (k := 5) rfl (by rw [← ex6_32]; rfl) (by decide) rfl (fun ls hl => ?_)
    refine lv_goto (pc := 66) (tgt := 40) hx hb dX11_meet_66 (by decide) ?_
    exact hr40 _ _ _ _ _ _ _ _ _ h hH (lv_sub hl [1, 2, 3, 4, 5, 0] rfl)
def fX11_meet_40 (N d : Nat) (self_X11_meet : Wd → Int32 → Int32 → Int32 → Int64 → Option (Wd))  : Nat → Wd → Int32 → Int32 → Int32 → Int64 → Int32 → Option (Wd)
  | 0 => fun _ _ _ _ _ _ => none
  | n + 1 => fun w x1 x2 x3 x4 x6 => bX11_meet_40 N d self_X11_meet  (fX11_meet_40 N d self_X11_meet  n) w x1 x2 x3 x4 x6
theorem lX11_meet_40 {V : Ev} {p : Program} {l : Launch} {e : Env} {N d : Nat} {s : State} {m : MethodId} {args : Array Value} {below : List Frame} {meth : Method} {c : Code} {z : Wd} (X : CX V p s m args meth c cX11_meet 8 RX11 none) {self_X11_meet : Wd → Int32 → Int32 → Int32 → Int64 → Option (Wd)} (hs_X11_meet : ∀ (w : Wd) (a0 : Int32) (a1 : Int32) (a2 : Int32) (a3 : Int64) (x : Wd), self_X11_meet w a0 a1 a2 a3 = some x → MetV l V (cM V) (AM V) yX11_meet cX11_meet 8 none d [.ref (V.2.2 0), .int a0, .int a1, .int a2, .long a3] w x)  (n : Nat) {w : Wd} {x1 : Int32} {x2 : Int32} {x3 : Int32} {x4 : Int64} {x6 : Int32} {H : Heap} {locs : List Loc} {ls : Array Slot} (h : fX11_meet_40 N d self_X11_meet  n w x1 x2 x3 x4 x6 = some z) (hH : wH V (cM V) (AM V) s w H locs) (hl : lv_has ls 8 [(0, .ref (V.2.2 0)), (1, .int x1), (2, .int x2), (3, .int x3), (4, .long x4), (6, .int x6)]) : W p l e (rmD (d + 1)) s m args below meth c H locs 0 0 (MQ below (CtV V (cM V) (AM V) z) args s 0 0 (AM V)) (F0 m 40 ls []) := by
  induction n generalizing w x1 x2 x3 x4 x6 H locs ls with
  | zero => exact c_none h
  | succ n ih => exact kX11_meet_40 (N := N) X hs_X11_meet (fun _ _ _ _ _ _ _ _ _ h hH hl => ih h hH hl) h hH hl
def bX11_meet_37 (N d : Nat) (self_X11_meet : Wd → Int32 → Int32 → Int32 → Int64 → Option (Wd))  (w : Wd) (x1 : Int32) (x2 : Int32) (x3 : Int32) (x4 : Int64) : Option (Wd) :=
  fX11_meet_40 N d self_X11_meet  N w x1 x2 x3 x4 ((0 : Int32))
set_option maxHeartbeats 4000000 in
theorem kX11_meet_37 {V : Ev} {p : Program} {l : Launch} {e : Env} {N d : Nat} {s : State} {m : MethodId} {args : Array Value} {below : List Frame} {meth : Method} {c : Code} {z : Wd} (X : CX V p s m args meth c cX11_meet 8 RX11 none) {self_X11_meet : Wd → Int32 → Int32 → Int32 → Int64 → Option (Wd)} (hs_X11_meet : ∀ (w : Wd) (a0 : Int32) (a1 : Int32) (a2 : Int32) (a3 : Int64) (x : Wd), self_X11_meet w a0 a1 a2 a3 = some x → MetV l V (cM V) (AM V) yX11_meet cX11_meet 8 none d [.ref (V.2.2 0), .int a0, .int a1, .int a2, .long a3] w x)  {w : Wd} {x1 : Int32} {x2 : Int32} {x3 : Int32} {x4 : Int64} {H : Heap} {locs : List Loc} {ls : Array Slot} (h : bX11_meet_37 N d self_X11_meet  w x1 x2 x3 x4 = some z) (hH : wH V (cM V) (AM V) s w H locs) (hl : lv_has ls 8 [(0, .ref (V.2.2 0)), (1, .int x1), (2, .int x2), (3, .int x3), (4, .long x4)]) : W p l e (rmD (d + 1)) s m args below meth c H locs 0 0 (MQ below (CtV V (cM V) (AM V) z) args s 0 0 (AM V)) (F0 m 37 ls []) := by
  unfold bX11_meet_37 at h
  obtain ⟨hx, hb, hml, hown, hg, hrt, hlk, hK⟩ := id X
  refine lv_iconst (pc := 37) (v := 0) hx hb dX11_meet_37 (by decide) ?_
  refine lv_istore (pc := 38) (lv' := [(6, .int ((0 : Int32))), (0, .ref (V.2.2 0)), (1, .int x1), (2, .int x2), (3, .int x3), (4, .long x4)]) hx hb dX11_meet_38 hl (by decide) rfl (fun ls hl => ?_)
  exact lX11_meet_40 X hs_X11_meet  N h hH (lv_sub hl [1, 2, 3, 4, 5, 0] rfl)
def bX11_meet_0 (N d : Nat) (self_X11_meet : Wd → Int32 → Int32 → Int32 → Int64 → Option (Wd))  (w : Wd) (x1 : Int32) (x2 : Int32) (x3 : Int32) (x4 : Int64) : Option (Wd) :=
  c_cl (eX11_isVariable N d w x3) fun w1 v2 =>
  if v2 = 0 then (
    if (sI w1 14) = 60 then (
      bX11_meet_24 N d self_X11_meet  w1 
    ) else (
      if (sI w1 4) = 0 then (
        if x1 = x2 then (
          if (lg_cmp x4 1) = 0 then (
            bX11_meet_212 N d self_X11_meet  w1 x1 x2 x3 x4
          ) else (
            bX11_meet_37 N d self_X11_meet  w1 x1 x2 x3 x4
          )
        ) else (
          bX11_meet_37 N d self_X11_meet  w1 x1 x2 x3 x4
        )
      ) else (
        bX11_meet_24 N d self_X11_meet  w1 
      )
    )
  ) else (
    bX11_meet_24 N d self_X11_meet  w1 
  )
set_option maxHeartbeats 4000000 in
theorem kX11_meet_0 {V : Ev} {p : Program} {l : Launch} {e : Env} {N d : Nat} {s : State} {m : MethodId} {args : Array Value} {below : List Frame} {meth : Method} {c : Code} {z : Wd} (X : CX V p s m args meth c cX11_meet 8 RX11 none) {self_X11_meet : Wd → Int32 → Int32 → Int32 → Int64 → Option (Wd)} (hs_X11_meet : ∀ (w : Wd) (a0 : Int32) (a1 : Int32) (a2 : Int32) (a3 : Int64) (x : Wd), self_X11_meet w a0 a1 a2 a3 = some x → MetV l V (cM V) (AM V) yX11_meet cX11_meet 8 none d [.ref (V.2.2 0), .int a0, .int a1, .int a2, .long a3] w x)  {w : Wd} {x1 : Int32} {x2 : Int32} {x3 : Int32} {x4 : Int64} {H : Heap} {locs : List Loc} {ls : Array Slot} (h : bX11_meet_0 N d self_X11_meet  w x1 x2 x3 x4 = some z) (hH : wH V (cM V) (AM V) s w H locs) (hl : lv_has ls 8 [(0, .ref (V.2.2 0)), (1, .int x1), (2, .int x2), (3, .int x3), (4, .long x4)]) : W p l e (rmD (d + 1)) s m args below meth c H locs 0 0 (MQ below (CtV V (cM V) (AM V) z) args s 0 0 (AM V)) (F0 m 0 ls []) := by
  unfold bX11_meet_0 at h
  obtain ⟨hx, hb, hml, hown, hg, hrt, hlk, hK⟩ := id X
  refine lv_aload_n (pc := 0) hx hb dX11_meet_0 rfl (lv_at hl 0 rfl) ?_
  refine lv_iload_n (pc := 1) hx hb dX11_meet_1 rfl (lv_at hl 3 rfl) ?_
  refine r_cvI (pc := 2) (As := [.int x3]) (rest := []) X hH (fun x hx => mX11_isVariable hx) cw_X11_117 (heM_0 V w) rfl rfl rfl (Nat.le_of_ble_eq_true rfl) hl.1 h dX11_meet_2 (fun w1 v2 H locs h hH => ?_)
  refine b_if_ne (pc := 5) (tgt := 24) hx hb h dX11_meet_5 (by decide) (fun h => ?_) (fun h => ?_)
  · exact kX11_meet_24 X hs_X11_meet  h hH (lv_sub hl [] rfl)
  · refine lv_aload_n (pc := 8) hx hb dX11_meet_8 rfl (lv_at hl 0 rfl) ?_
    refine gM_X11_276_0 (pc := 9) X hH dX11_meet_9 ?_
    refine lv_bipush (pc := 12) (v := 60) hx hb dX11_meet_12 (by decide) ?_
    refine b_icmp_eq (pc := 14) (tgt := 24) hx hb h dX11_meet_14 (by decide) (fun h => ?_) (fun h => ?_)
    · exact kX11_meet_24 X hs_X11_meet  h hH (lv_sub hl [] rfl)
    · refine lv_aload_n (pc := 17) hx hb dX11_meet_17 rfl (lv_at hl 0 rfl) ?_
      refine gM_X11_121_0 (pc := 18) X hH dX11_meet_18 ?_
      refine b_if_eq (pc := 21) (tgt := 25) hx hb h dX11_meet_21 (by decide) (fun h => ?_) (fun h => ?_)
      · refine lv_iload_n (pc := 25) hx hb dX11_meet_25 rfl (lv_at hl 1 rfl) ?_
        refine lv_iload_n (pc := 26) hx hb dX11_meet_26 rfl (lv_at hl 2 rfl) ?_
        refine b_icmp_ne (pc := 27) (tgt := 37) hx hb h dX11_meet_27 (by decide) (fun h => ?_) (fun h => ?_)
        · exact kX11_meet_37 X hs_X11_meet  h hH (lv_sub hl [0, 1, 2, 3, 4] rfl)
        · refine lv_lload (pc := 30) hx hb dX11_meet_30 (lv_at hl 4 rfl) ?_
          refine lv_lconst (pc := 32) (v := 1) hx hb dX11_meet_32 (by decide) ?_
          refine W.lcmp (pc := 33) hx hb dX11_meet_33 ?_
          refine b_if_eq (pc := 34) (tgt := 212) hx hb h dX11_meet_34 (by decide) (fun h => ?_) (fun h => ?_)
          · exact kX11_meet_212 X hs_X11_meet  h hH (lv_sub hl [0, 1, 2, 3, 4] rfl)
          · exact kX11_meet_37 X hs_X11_meet  h hH (lv_sub hl [0, 1, 2, 3, 4] rfl)
      · exact kX11_meet_24 X hs_X11_meet  h hH (lv_sub hl [] rfl)
def eX11_meet (N : Nat) : Nat → Wd → Int32 → Int32 → Int32 → Int64 → Option (Wd)
  | 0 => fun _ _ _ _ _ => none
  | d + 1 => fun w x1 x2 x3 x4 => bX11_meet_0 N d (eX11_meet N d) w x1 x2 x3 x4
set_option maxHeartbeats 4000000 in
set_option maxRecDepth 20000 in
theorem mX11_meet {l : Launch} {V : Ev} {N d : Nat} {w : Wd} {x1 : Int32} {x2 : Int32} {x3 : Int32} {x4 : Int64} {z : Wd} (h : eX11_meet N d w x1 x2 x3 x4 = some z) : MetV l V (cM V) (AM V) yX11_meet cX11_meet 8 none d [.ref (V.2.2 0), .int x1, .int x2, .int x3, .long x4] w z := by
  induction d generalizing w x1 x2 x3 x4 z with
  | zero => exact c_none h
  | succ d ih =>
    refine Met.ofW (cc := cX11_meet) (maxL := 8) (ret := none) (by decide) rfl ?_
    intro p e s m args below meth c s₁ B hml hv
    obtain ⟨rfl, hP, hD, hK⟩ := hv
    have hts := atoms_spec (ws := .code yX11_meet cX11_meet 8 none :: gG) B.pre
    have X : CX V p s m ([.ref (V.2.2 0), .int x1, .int x2, .int x3, .long x4] : List Value).toArray meth c cX11_meet 8 RX11 none := ⟨B.exec, B.bytes, hml, findClass_of_methodNamed B.named, fun w hw => hts w (List.mem_cons_of_mem _ hw), B.returns, B.notSynchronized, hK⟩
    have hl := lv_entry ([.ref (V.2.2 0), .int x1, .int x2, .int x3, .long x4] : List Value) (n := 8) (Nat.le_of_ble_eq_true rfl)
    rw [lg_entry_eq]
    generalize (lg_sl ([.ref (V.2.2 0), .int x1, .int x2, .int x3, .long x4] : List Value) ++ List.replicate (8 - (lg_sl ([.ref (V.2.2 0), .int x1, .int x2, .int x3, .long x4] : List Value)).length) Slot.unset).toArray = ls at hl ⊢
    have hl : lv_has ls 8 [(0, .ref (V.2.2 0)), (1, .int x1), (2, .int x2), (3, .int x3), (4, .long x4)] := hl
    exact kX11_meet_0 (N := N) X (fun _ _ _ _ _ _ h => ih h) h ⟨hP, hD, va_S.rf⟩ hl
