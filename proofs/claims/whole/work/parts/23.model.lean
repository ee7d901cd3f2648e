theorem dX11_pairs_0 : decode cX11_pairs 0 = .ok (.aload_n 0, 1) := by decide +kernel
theorem dX11_pairs_1 : decode cX11_pairs 1 = .ok (.iconst 0, 1) := by decide +kernel
theorem dX11_pairs_2 : decode cX11_pairs 2 = .ok (.putfield 111, 3) := by decide +kernel
theorem dX11_pairs_5 : decode cX11_pairs 5 = .ok (.aload_n 0, 1) := by decide +kernel
theorem dX11_pairs_6 : decode cX11_pairs 6 = .ok (.getfield 125, 3) := by decide +kernel
theorem dX11_pairs_9 : decode cX11_pairs 9 = .ok (.istore_n 1, 1) := by decide +kernel
theorem dX11_pairs_10 : decode cX11_pairs 10 = .ok (.aload_n 0, 1) := by decide +kernel
theorem dX11_pairs_11 : decode cX11_pairs 11 = .ok (.iconst 0, 1) := by decide +kernel
theorem dX11_pairs_12 : decode cX11_pairs 12 = .ok (.putfield 276, 3) := by decide +kernel
theorem dX11_pairs_15 : decode cX11_pairs 15 = .ok (.iconst 0, 1) := by decide +kernel
theorem dX11_pairs_16 : decode cX11_pairs 16 = .ok (.istore_n 2, 1) := by decide +kernel
theorem dX11_pairs_17 : decode cX11_pairs 17 = .ok (.iload_n 2, 1) := by decide +kernel
theorem dX11_pairs_18 : decode cX11_pairs 18 = .ok (.aload_n 0, 1) := by decide +kernel
theorem dX11_pairs_19 : decode cX11_pairs 19 = .ok (.getfield 158, 3) := by decide +kernel
theorem dX11_pairs_22 : decode cX11_pairs 22 = .ok (.if_icmp .ge 56, 3) := by decide +kernel
theorem dX11_pairs_25 : decode cX11_pairs 25 = .ok (.iconst 0, 1) := by decide +kernel
theorem dX11_pairs_26 : decode cX11_pairs 26 = .ok (.istore_n 3, 1) := by decide +kernel
theorem dX11_pairs_27 : decode cX11_pairs 27 = .ok (.iload_n 3, 1) := by decide +kernel
theorem dX11_pairs_28 : decode cX11_pairs 28 = .ok (.aload_n 0, 1) := by decide +kernel
theorem dX11_pairs_29 : decode cX11_pairs 29 = .ok (.getfield 158, 3) := by decide +kernel
theorem dX11_pairs_32 : decode cX11_pairs 32 = .ok (.if_icmp .ge 40, 3) := by decide +kernel
theorem dX11_pairs_35 : decode cX11_pairs 35 = .ok (.aload_n 0, 1) := by decide +kernel
theorem dX11_pairs_36 : decode cX11_pairs 36 = .ok (.getfield 41, 3) := by decide +kernel
theorem dX11_pairs_39 : decode cX11_pairs 39 = .ok (.iload_n 2, 1) := by decide +kernel
theorem dX11_pairs_40 : decode cX11_pairs 40 = .ok (.baload, 1) := by decide +kernel
theorem dX11_pairs_41 : decode cX11_pairs 41 = .ok (.ifCond .eq 25, 3) := by decide +kernel
theorem dX11_pairs_44 : decode cX11_pairs 44 = .ok (.aload_n 0, 1) := by decide +kernel
theorem dX11_pairs_45 : decode cX11_pairs 45 = .ok (.getfield 41, 3) := by decide +kernel
theorem dX11_pairs_48 : decode cX11_pairs 48 = .ok (.iload_n 3, 1) := by decide +kernel
theorem dX11_pairs_49 : decode cX11_pairs 49 = .ok (.baload, 1) := by decide +kernel
theorem dX11_pairs_50 : decode cX11_pairs 50 = .ok (.ifCond .eq 16, 3) := by decide +kernel
theorem dX11_pairs_53 : decode cX11_pairs 53 = .ok (.aload_n 0, 1) := by decide +kernel
theorem dX11_pairs_54 : decode cX11_pairs 54 = .ok (.iload_n 2, 1) := by decide +kernel
theorem dX11_pairs_55 : decode cX11_pairs 55 = .ok (.iload_n 3, 1) := by decide +kernel
theorem dX11_pairs_56 : decode cX11_pairs 56 = .ok (.aload_n 0, 1) := by decide +kernel
theorem dX11_pairs_57 : decode cX11_pairs 57 = .ok (.getfield 35, 3) := by decide +kernel
theorem dX11_pairs_60 : decode cX11_pairs 60 = .ok (.iload_n 2, 1) := by decide +kernel
theorem dX11_pairs_61 : decode cX11_pairs 61 = .ok (.iaload, 1) := by decide +kernel
theorem dX11_pairs_62 : decode cX11_pairs 62 = .ok (.lconst 1, 1) := by decide +kernel
theorem dX11_pairs_63 : decode cX11_pairs 63 = .ok (.invokevirtual 279, 3) := by decide +kernel
theorem dX11_pairs_66 : decode cX11_pairs 66 = .ok (.iinc 3 1, 3) := by decide +kernel
theorem dX11_pairs_69 : decode cX11_pairs 69 = .ok (.goto (-42), 3) := by decide +kernel
theorem dX11_pairs_72 : decode cX11_pairs 72 = .ok (.iinc 2 1, 3) := by decide +kernel
theorem dX11_pairs_75 : decode cX11_pairs 75 = .ok (.goto (-58), 3) := by decide +kernel
theorem dX11_pairs_78 : decode cX11_pairs 78 = .ok (.aload_n 0, 1) := by decide +kernel
theorem dX11_pairs_79 : decode cX11_pairs 79 = .ok (.getfield 121, 3) := by decide +kernel
theorem dX11_pairs_82 : decode cX11_pairs 82 = .ok (.ifCond .eq 9, 3) := by decide +kernel
theorem dX11_pairs_85 : decode cX11_pairs 85 = .ok (.aload_n 0, 1) := by decide +kernel
theorem dX11_pairs_86 : decode cX11_pairs 86 = .ok (.iload_n 1, 1) := by decide +kernel
theorem dX11_pairs_87 : decode cX11_pairs 87 = .ok (.invokevirtual 209, 3) := by decide +kernel
theorem dX11_pairs_90 : decode cX11_pairs 90 = .ok (.ireturn, 1) := by decide +kernel
theorem dX11_pairs_91 : decode cX11_pairs 91 = .ok (.aload_n 0, 1) := by decide +kernel
theorem dX11_pairs_92 : decode cX11_pairs 92 = .ok (.aload_n 0, 1) := by decide +kernel
theorem dX11_pairs_93 : decode cX11_pairs 93 = .ok (.getfield 276, 3) := by decide +kernel
theorem dX11_pairs_96 : decode cX11_pairs 96 = .ok (.putfield 283, 3) := by decide +kernel
theorem dX11_pairs_99 : decode cX11_pairs 99 = .ok (.iconst 0, 1) := by decide +kernel
theorem dX11_pairs_100 : decode cX11_pairs 100 = .ok (.istore_n 2, 1) := by decide +kernel
theorem dX11_pairs_101 : decode cX11_pairs 101 = .ok (.iload_n 2, 1) := by decide +kernel
theorem dX11_pairs_102 : decode cX11_pairs 102 = .ok (.aload_n 0, 1) := by decide +kernel
theorem dX11_pairs_103 : decode cX11_pairs 103 = .ok (.getfield 276, 3) := by decide +kernel
theorem dX11_pairs_106 : decode cX11_pairs 106 = .ok (.if_icmp .ge 83, 3) := by decide +kernel
theorem dX11_pairs_109 : decode cX11_pairs 109 = .ok (.aload_n 0, 1) := by decide +kernel
theorem dX11_pairs_110 : decode cX11_pairs 110 = .ok (.getfield 75, 3) := by decide +kernel
theorem dX11_pairs_113 : decode cX11_pairs 113 = .ok (.iload_n 2, 1) := by decide +kernel
theorem dX11_pairs_114 : decode cX11_pairs 114 = .ok (.aload_n 0, 1) := by decide +kernel
theorem dX11_pairs_115 : decode cX11_pairs 115 = .ok (.getfield 90, 3) := by decide +kernel
theorem dX11_pairs_118 : decode cX11_pairs 118 = .ok (.iconst 4, 1) := by decide +kernel
theorem dX11_pairs_119 : decode cX11_pairs 119 = .ok (.iload_n 2, 1) := by decide +kernel
theorem dX11_pairs_120 : decode cX11_pairs 120 = .ok (.imul, 1) := by decide +kernel
theorem dX11_pairs_121 : decode cX11_pairs 121 = .ok (.iaload, 1) := by decide +kernel
theorem dX11_pairs_122 : decode cX11_pairs 122 = .ok (.iastore, 1) := by decide +kernel
theorem dX11_pairs_123 : decode cX11_pairs 123 = .ok (.aload_n 0, 1) := by decide +kernel
theorem dX11_pairs_124 : decode cX11_pairs 124 = .ok (.getfield 78, 3) := by decide +kernel
theorem dX11_pairs_127 : decode cX11_pairs 127 = .ok (.iload_n 2, 1) := by decide +kernel
theorem dX11_pairs_128 : decode cX11_pairs 128 = .ok (.aload_n 0, 1) := by decide +kernel
theorem dX11_pairs_129 : decode cX11_pairs 129 = .ok (.getfield 90, 3) := by decide +kernel
theorem dX11_pairs_132 : decode cX11_pairs 132 = .ok (.iconst 4, 1) := by decide +kernel
theorem dX11_pairs_133 : decode cX11_pairs 133 = .ok (.iload_n 2, 1) := by decide +kernel
theorem dX11_pairs_134 : decode cX11_pairs 134 = .ok (.imul, 1) := by decide +kernel
theorem dX11_pairs_135 : decode cX11_pairs 135 = .ok (.iconst 1, 1) := by decide +kernel
theorem dX11_pairs_136 : decode cX11_pairs 136 = .ok (.iadd, 1) := by decide +kernel
theorem dX11_pairs_137 : decode cX11_pairs 137 = .ok (.iaload, 1) := by decide +kernel
theorem dX11_pairs_138 : decode cX11_pairs 138 = .ok (.iastore, 1) := by decide +kernel
theorem dX11_pairs_139 : decode cX11_pairs 139 = .ok (.aload_n 0, 1) := by decide +kernel
theorem dX11_pairs_140 : decode cX11_pairs 140 = .ok (.getfield 84, 3) := by decide +kernel
theorem dX11_pairs_143 : decode cX11_pairs 143 = .ok (.iload_n 2, 1) := by decide +kernel
theorem dX11_pairs_144 : decode cX11_pairs 144 = .ok (.aload_n 0, 1) := by decide +kernel
theorem dX11_pairs_145 : decode cX11_pairs 145 = .ok (.getfield 90, 3) := by decide +kernel
theorem dX11_pairs_148 : decode cX11_pairs 148 = .ok (.iconst 4, 1) := by decide +kernel
theorem dX11_pairs_149 : decode cX11_pairs 149 = .ok (.iload_n 2, 1) := by decide +kernel
theorem dX11_pairs_150 : decode cX11_pairs 150 = .ok (.imul, 1) := by decide +kernel
theorem dX11_pairs_151 : decode cX11_pairs 151 = .ok (.iconst 2, 1) := by decide +kernel
theorem dX11_pairs_152 : decode cX11_pairs 152 = .ok (.iadd, 1) := by decide +kernel
theorem dX11_pairs_153 : decode cX11_pairs 153 = .ok (.iaload, 1) := by decide +kernel
theorem dX11_pairs_154 : decode cX11_pairs 154 = .ok (.iastore, 1) := by decide +kernel
theorem dX11_pairs_155 : decode cX11_pairs 155 = .ok (.aload_n 0, 1) := by decide +kernel
theorem dX11_pairs_156 : decode cX11_pairs 156 = .ok (.getfield 87, 3) := by decide +kernel
theorem dX11_pairs_159 : decode cX11_pairs 159 = .ok (.iload_n 2, 1) := by decide +kernel
theorem dX11_pairs_160 : decode cX11_pairs 160 = .ok (.aload_n 0, 1) := by decide +kernel
theorem dX11_pairs_161 : decode cX11_pairs 161 = .ok (.getfield 90, 3) := by decide +kernel
theorem dX11_pairs_164 : decode cX11_pairs 164 = .ok (.iconst 4, 1) := by decide +kernel
theorem dX11_pairs_165 : decode cX11_pairs 165 = .ok (.iload_n 2, 1) := by decide +kernel
theorem dX11_pairs_166 : decode cX11_pairs 166 = .ok (.imul, 1) := by decide +kernel
theorem dX11_pairs_167 : decode cX11_pairs 167 = .ok (.iconst 3, 1) := by decide +kernel
theorem dX11_pairs_168 : decode cX11_pairs 168 = .ok (.iadd, 1) := by decide +kernel
theorem dX11_pairs_169 : decode cX11_pairs 169 = .ok (.iaload, 1) := by decide +kernel
theorem dX11_pairs_170 : decode cX11_pairs 170 = .ok (.iastore, 1) := by decide +kernel
theorem dX11_pairs_171 : decode cX11_pairs 171 = .ok (.aload_n 0, 1) := by decide +kernel
theorem dX11_pairs_172 : decode cX11_pairs 172 = .ok (.getfield 81, 3) := by decide +kernel
theorem dX11_pairs_175 : decode cX11_pairs 175 = .ok (.iload_n 2, 1) := by decide +kernel
theorem dX11_pairs_176 : decode cX11_pairs 176 = .ok (.aload_n 0, 1) := by decide +kernel
theorem dX11_pairs_177 : decode cX11_pairs 177 = .ok (.getfield 93, 3) := by decide +kernel
theorem dX11_pairs_180 : decode cX11_pairs 180 = .ok (.iload_n 2, 1) := by decide +kernel
theorem dX11_pairs_181 : decode cX11_pairs 181 = .ok (.laload, 1) := by decide +kernel
theorem dX11_pairs_182 : decode cX11_pairs 182 = .ok (.lastore, 1) := by decide +kernel
theorem dX11_pairs_183 : decode cX11_pairs 183 = .ok (.iinc 2 1, 3) := by decide +kernel
theorem dX11_pairs_186 : decode cX11_pairs 186 = .ok (.goto (-85), 3) := by decide +kernel
theorem dX11_pairs_189 : decode cX11_pairs 189 = .ok (.aload_n 0, 1) := by decide +kernel
theorem dX11_pairs_190 : decode cX11_pairs 190 = .ok (.getfield 283, 3) := by decide +kernel
theorem dX11_pairs_193 : decode cX11_pairs 193 = .ok (.ireturn, 1) := by decide +kernel
def bX11_pairs_101 (N d : Nat)  (rec101 : Wd → Int32 → Option (Wd × Int32)) (w : Wd) (x2 : Int32) : Option (Wd × Int32) :=
  if (sI w 14) ≤ x2 then (
    some (w, sI w 13)
  ) else (
    c_ld w 27 240 (4 * x2) fun v5 =>
    c_st w 22 60 x2 v5 fun w6 =>
    c_ld w6 27 240 ((4 * x2) + 1) fun v7 =>
    c_st w6 23 60 x2 v7 fun w8 =>
    c_ld w8 27 240 ((4 * x2) + 2) fun v9 =>
    c_st w8 25 60 x2 v9 fun w10 =>
    c_ld w10 27 240 ((4 * x2) + 3) fun v11 =>
    c_st w10 26 60 x2 v11 fun w12 =>
    c_ll w12 28 60 x2 fun v13 =>
    c_sl w12 24 60 x2 v13 fun w14 =>
    c_nm (x2 + 1) fun x2_15 =>
    rec101 w14 x2_15
  )
set_option maxHeartbeats 4000000 in
theorem kX11_pairs_101 {V : Ev} {p : Program} {l : Launch} {e : Env} {N d : Nat} {s : State} {m : MethodId} {args : Array Value} {below : List Frame} {meth : Method} {c : Code} {z : Wd × Int32} (X : CX V p s m args meth c cX11_pairs 4 RX11 (some .int))   {rec101 : Wd → Int32 → Option (Wd × Int32)} (hr101 : ∀ (w : Wd) (x2 : Int32) (H : Heap) (locs : List Loc) (ls : Array Slot), rec101 w x2 = some z → wH V (cM V) (AM V) s w H locs → lv_has ls 4 [(0, .ref (V.2.2 0)), (2, .int x2)] → W p l e (rmD (d + 1)) s m args below meth c H locs 0 0 (MQ below (CtI V (cM V) (AM V) z) args s 0 0 (AM V)) (F0 m 101 ls [])) {w : Wd} {x2 : Int32} {H : Heap} {locs : List Loc} {ls : Array Slot} (h : bX11_pairs_101 N d  rec101 w x2 = some z) (hH : wH V (cM V) (AM V) s w H locs) (hl : lv_has ls 4 [(0, .ref (V.2.2 0)), (2, .int x2)]) : W p l e (rmD (d + 1)) s m args below meth c H locs 0 0 (MQ below (CtI V (cM V) (AM V) z) args s 0 0 (AM V)) (F0 m 101 ls []) := by
  unfold bX11_pairs_101 at h
  obtain ⟨hx, hb, hml, hown, hg, hrt, hlk, hK⟩ := id X
  refine lv_iload_n (pc := 101) hx hb dX11_pairs_101 rfl (lv_at hl 1 rfl) ?_
  refine lv_aload_n (pc := 102) hx hb dX11_pairs_102 rfl (lv_at hl 0 rfl) ?_
  refine gM_X11_276_0 (pc := 103) X hH dX11_pairs_103 ?_
  refine b_icmp_ge (pc := 106) (tgt := 189) hx hb h dX11_pairs_106 (by decide) (fun h => ?_) (fun h => ?_)
  · refine lv_aload_n (pc := 189) hx hb dX11_pairs_189 rfl (lv_at hl 0 rfl) ?_
    refine gM_X11_283_0 (pc := 190) X hH dX11_pairs_190 ?_
    exact r_iret (pc := 193) X hH h dX11_pairs_193
  · refine lv_aload_n (pc := 109) hx hb dX11_pairs_109 rfl (lv_at hl 0 rfl) ?_
    refine gM_X11_75_0 (pc := 110) X hH dX11_pairs_110 ?_
    refine lv_iload_n (pc := 113) hx hb dX11_pairs_113 rfl (lv_at hl 1 rfl) ?_
    refine lv_aload_n (pc := 114) hx hb dX11_pairs_114 rfl (lv_at hl 0 rfl) ?_
    refine gM_X11_90_0 (pc := 115) X hH dX11_pairs_115 ?_
    refine lv_iconst (pc := 118) (v := 4) hx hb dX11_pairs_118 (by decide) ?_
    refine lv_iload_n (pc := 119) hx hb dX11_pairs_119 rfl (lv_at hl 1 rfl) ?_
    refine lv_imul (pc := 120) hx hb dX11_pairs_120 ?_
    refine r_ld (pc := 121) X (heM_27 V w) hH h dX11_pairs_121 (fun v5 h => ?_)
    refine r_st (pc := 122) X (heM_22 V w) (hsM_22 V w) hH h dX11_pairs_122 (fun w6 H locs h hH => ?_)
    refine lv_aload_n (pc := 123) hx hb dX11_pairs_123 rfl (lv_at hl 0 rfl) ?_
    refine gM_X11_78_0 (pc := 124) X hH dX11_pairs_124 ?_
    refine lv_iload_n (pc := 127) hx hb dX11_pairs_127 rfl (lv_at hl 1 rfl) ?_
    refine lv_aload_n (pc := 128) hx hb dX11_pairs_128 rfl (lv_at hl 0 rfl) ?_
    refine gM_X11_90_0 (pc := 129) X hH dX11_pairs_129 ?_
    refine lv_iconst (pc := 132) (v := 4) hx hb dX11_pairs_132 (by decide) ?_
    refine lv_iload_n (pc := 133) hx hb dX11_pairs_133 rfl (lv_at hl 1 rfl) ?_
    refine lv_imul (pc := 134) hx hb dX11_pairs_134 ?_
    refine lv_iconst (pc := 135) (v := 1) hx hb dX11_pairs_135 (by decide) ?_
    refine lv_iadd (pc := 136) hx hb dX11_pairs_136 ?_
    refine r_ld (pc := 137) X (heM_27 V w6) hH h dX11_pairs_137 (fun v7 h => ?_)
    refine r_st (pc := 138) X (heM_23 V w6) (hsM_23 V w6) hH h dX11_pairs_138 (fun w8 H locs h hH => ?_)
    refine lv_aload_n (pc := 139) hx hb dX11_pairs_139 rfl (lv_at hl 0 rfl) ?_
    refine gM_X11_84_0 (pc := 140) X hH dX11_pairs_140 ?_
    refine lv_iload_n (pc := 143) hx hb dX11_pairs_143 rfl (lv_at hl 1 rfl) ?_
    refine lv_aload_n (pc := 144) hx hb dX11_pairs_144 rfl (lv_at hl 0 rfl) ?_
    refine gM_X11_90_0 (pc := 145) X hH dX11_pairs_145 ?_
    refine lv_iconst (pc := 148) (v := 4) hx hb dX11_pairs_148 (by decide) ?_
    refine lv_iload_n (pc := 149) hx hb dX11_pairs_149 rfl (lv_at hl 1 rfl) ?_
    refine lv_imul (pc := 150) hx hb dX11_pairs_150 ?_
    refine lv_iconst (pc := 151) (v := 2) hx hb dX11_pairs_151 (by decide) ?_
    refine lv_iadd (pc := 152) hx hb dX11_pairs_152 ?_
    refine r_ld (pc := 153) X (heM_27 V w8) hH h dX11_pairs_153 (fun v9 h => ?_)
    refine r_st (pc := 154) X (heM_25 V w8) (hsM_25 V w8) hH h dX11_pairs_154 (fun w10 H locs h hH => ?_)
    refine lv_aload_n (pc := 155) hx hb dX11_pairs_155 rfl (lv_at hl 0 rfl) ?_
    refine gM_X11_87_0 (pc := 156) X hH dX11_pairs_156 ?_
    refine lv_iload_n (pc := 159) hx hb dX11_pairs_159 rfl (lv_at hl 1 rfl) ?_
    refine lv_aload_n (pc := 160) hx hb dX11_pairs_160 rfl (lv_at hl 0 rfl) ?_
    refine gM_X11_90_0 (pc := 161) X hH dX11_pairs_161 ?_
    refine lv_iconst (pc := 164) (v := 4) hx hb dX11_pairs_164 (by decide) ?_
    refine lv_iload_n (pc := 165) hx hb dX11_pairs_165 rfl (lv_at hl 1 rfl) ?_
    refine lv_imul (pc := 166) hx hb dX11_pairs_166 ?_
    refine lv_iconst (pc := 167) (v := 3) hx hb dX11_pairs_167 (by decide) ?_
    refine lv_iadd (pc := 168) hx hb dX11_pairs_168 ?_
    refine r_ld (pc := 169) X (heM_27 V w10) hH h dX11_pairs_169 (fun v11 h => ?_)
    refine r_st (pc := 170) X (heM_26 V w10) (hsM_26 V w10) hH h dX11_pairs_170 (fun w12 H locs h hH => ?_)
    refine lv_aload_n (pc := 171) hx hb dX11_pairs_171 rfl (lv_at hl 0 rfl) ?_
    refine gM_X11_81_0 (pc := 172) X hH dX11_pairs_172 ?_
    refine lv_iload_n (pc := 175) hx hb dX11_pairs_175 rfl (lv_at hl 1 rfl) ?_
    refine lv_aload_n (pc := 176) hx hb dX11_pairs_176 rfl (lv_at hl 0 rfl) ?_
    refine gM_X11_93_0 (pc := 177) X hH dX11_pairs_177 ?_
    refine lv_iload_n (pc := 180) hx hb dX11_pairs_180 rfl (lv_at hl 1 rfl) ?_
    refine r_ll (pc := 181) X (heM_28 V w12) hH h dX11_pairs_181 (fun v13 h => ?_)
    refine r_sl (pc := 182) X (heM_24 V w12) (hsM_24 V w12) hH h dX11_pairs_182 (fun w14 H locs h hH => ?_)
    obtain ⟨x2_15, ex2_15, h⟩ := c_nm_ex h
    refine lv_iinc (pc := 183) (v := x2_15) (lv' := [(2, .int x2_15), (0, .ref (V.2.2 0))]) hx hb dX11_pairs_183 hl (k := 1) rfl (by rw [← ex2_15]; rfl) (by decide) rfl (fun ls hl => ?_)
    refine lv_goto (pc := 186) (tgt := 101) hx hb dX11_pairs_186 (by decide) ?_
    exact hr101 _ _ _ _ _ h hH (lv_sub hl [1, 0] rfl)
def fX11_pairs_101 (N d : Nat)   : Nat → Wd → Int32 → Option (Wd × Int32)
  | 0 => fun _ _ => none
  | n + 1 => fun w x2 => bX11_pairs_101 N d   (fX11_pairs_101 N d   n) w x2
theorem lX11_pairs_101 {V : Ev} {p : Program} {l : Launch} {e : Env} {N d : Nat} {s : State} {m : MethodId} {args : Array Value} {below : List Frame} {meth : Method} {c : Code} {z : Wd × Int32} (X : CX V p s m args meth c cX11_pairs 4 RX11 (some .int))    (n : Nat) {w : Wd} {x2 : Int32} {H : Heap} {locs : List Loc} {ls : Array Slot} (h : fX11_pairs_101 N d   n w x2 = some z) (hH : wH V (cM V) (AM V) s w H locs) (hl : lv_has ls 4 [(0, .ref (V.2.2 0)), (2, .int x2)]) : W p l e (rmD (d + 1)) s m args below meth c H locs 0 0 (MQ below (CtI V (cM V) (AM V) z) args s 0 0 (AM V)) (F0 m 101 ls []) := by
  induction n generalizing w x2 H locs ls with
  | zero => exact c_none h
  | succ n ih => exact kX11_pairs_101 (N := N) X  (fun _ _ _ _ _ h hH hl => ih h hH hl) h hH hl
def bX11_pairs_66 (N d : Nat)  (rec17 : Wd → Int32 → Int32 → Option (Wd × Int32)) (rec27 : Wd → Int32 → Int32 → Int32 → Option (Wd × Int32)) (w : Wd) (x1 : Int32) (x2 : Int32) (x3 : Int32) : Option (Wd × Int32) :=
  c_nm (x3 + 1) fun x3_20 =>
  rec27 w x1 x2 x3_20
set_option maxHeartbeats 4000000 in
theorem kX11_pairs_66 {V : Ev} {p : Program} {l : Launch} {e : Env} {N d : Nat} {s : State} {m : MethodId} {args : Array Value} {below : List Frame} {meth : Method} {c : Code} {z : Wd × Int32} (X : CX V p s m args meth c cX11_pairs 4 RX11 (some .int))   {rec17 : Wd → Int32 → Int32 → Option (Wd × Int32)} (hr17 : ∀ (w : Wd) (x1 : Int32) (x2 : Int32) (H : Heap) (locs : List Loc) (ls : Array Slot), rec17 w x1 x2 = some z → wH V (cM V) (AM V) s w H locs → lv_has ls 4 [(0, .ref (V.2.2 0)), (1, .int x1), (2, .int x2)] → W p l e (rmD (d + 1)) s m args below meth c H locs 0 0 (MQ below (CtI V (cM V) (AM V) z) args s 0 0 (AM V)) (F0 m 17 ls [])) {rec27 : Wd → Int32 → Int32 → Int32 → Option (Wd × Int32)} (hr27 : ∀ (w : Wd) (x1 : Int32) (x2 : Int32) (x3 : Int32) (H : Heap) (locs : List Loc) (ls : Array Slot), rec27 w x1 x2 x3 = some z → wH V (cM V) (AM V) s w H locs → lv_has ls 4 [(0, .ref (V.2.2 0)), (1, .int x1), (2, .int x2), (3, .int x3)] → W p l e (rmD (d + 1)) s m args below meth c H locs 0 0 (MQ below (CtI V (cM V) (AM V) z) args s 0 0 (AM V)) (F0 m 27 ls [])) {w : Wd} {x1 : Int32} {x2 : Int32} {x3 : Int32} {H : Heap} {locs : List Loc} {ls : Array Slot} (h : bX11_pairs_66 N d  rec17 rec27 w x1 x2 x3 = some z) (hH : wH V (cM V) (AM V) s w H locs) (hl : lv_has ls 4 [(0, .ref (V.2.2 0)), (1, .int x1), (2, .int x2), (3, .int x3)]) : W p l e (rmD (d + 1)) s m args below meth c H locs 0 0 (MQ below (CtI V (cM V) (AM V) z) args s 0 0 (AM V)) (F0 m 66 ls []) := by
  unfold bX11_pairs_66 at h
  obtain ⟨hx, hb, hml, hown, hg, hrt, hlk, hK⟩ := id X
  obtain ⟨x3_20, ex3_20, h⟩ := c_nm_ex h
  refine lv_iinc (pc := 66) (v := x3_20) (lv' := [(3, .int x3_20), (0, .ref (V.2.2 0)), (1, .int x1), (2, .int x2)]) hx hb dX11_pairs_66 hl (k := 3) rfl (by rw [← ex3_20]; rfl) (by decide) rfl (fun ls hl => ?_)
  refine lv_goto (pc := 69) (tgt := 27) hx hb dX11_pairs_69 (by decide) ?_
  exact hr27 _ _ _ _ _ _ _ h hH (lv_sub hl [1, 2, 3, 0] rfl)
def bX11_pairs_27 (N d : Nat)  (rec17 : Wd → Int32 → Int32 → Option (Wd × Int32)) (rec27 : Wd → Int32 → Int32 → Int32 → Option (Wd × Int32)) (w : Wd) (x1 : Int32) (x2 : Int32) (x3 : Int32) : Option (Wd × Int32) :=
  if (sI w 3) ≤ x3 then (
    c_nm (x2 + 1) fun x2_18 =>
    rec17 w x1 x2_18
  ) else (
    c_ld w 11 16 x2 fun v19 =>
    if v19 = 0 then (
      bX11_pairs_66 N d  rec17 rec27 w x1 x2 x3
    ) else (
      c_ld w 11 16 x3 fun v21 =>
      if v21 = 0 then (
        bX11_pairs_66 N d  rec17 rec27 w x1 x2 x3
      ) else (
        c_ld w 9 16 x2 fun v22 =>
        c_cv (eX11_meet N d w x2 x3 v22 1) fun w23 =>
        bX11_pairs_66 N d  rec17 rec27 w23 x1 x2 x3
      )
    )
  )
set_option maxHeartbeats 4000000 in
theorem kX11_pairs_27 {V : Ev} {p : Program} {l : Launch} {e : Env} {N d : Nat} {s : State} {m : MethodId} {args : Array Value} {below : List Frame} {meth : Method} {c : Code} {z : Wd × Int32} (X : CX V p s m args meth c cX11_pairs 4 RX11 (some .int))   {rec17 : Wd → Int32 → Int32 → Option (Wd × Int32)} (hr17 : ∀ (w : Wd) (x1 : Int32) (x2 : Int32) (H : Heap) (locs : List Loc) (ls : Array Slot), rec17 w x1 x2 = some z → wH V (cM V) (AM V) s w H locs → lv_has ls 4 [(0, .ref (V.2.2 0)), (1, .int x1), (2, .int x2)] → W p l e (rmD (d + 1)) s m args below meth c H locs 0 0 (MQ below (CtI V (cM V) (AM V) z) args s 0 0 (AM V)) (F0 m 17 ls [])) {rec27 : Wd → Int32 → Int32 → Int32 → Option (Wd × Int32)} (hr27 : ∀ (w : Wd) (x1 : Int32) (x2 : Int32) (x3 : Int32) (H : Heap) (locs : List Loc) (ls : Array Slot), rec27 w x1 x2 x3 = some z → wH V (cM V) (AM V) s w H locs → lv_has ls 4 [(0, .ref (V.2.2 0)), (1, .int x1), (2, .int x2), (3, .int x3)] → W p l e (rmD (d + 1)) s m args below meth c H locs 0 0 (MQ below (CtI V (cM V) (AM V) z) args s 0 0 (AM V)) (F0 m 27 ls [])) {w : Wd} {x1 : Int32} {x2 : Int32} {x3 : Int32} {H : Heap} {locs : List Loc} {ls : Array Slot} (h : bX11_pairs_27 N d  rec17 rec27 w x1 x2 x3 = some z) (hH : wH V (cM V) (AM V) s w H locs) (hl : lv_has ls 4 [(0, .ref (V.2.2 0)), (1, .int x1), (2, .int x2), (3, .int x3)]) : W p l e (rmD (d + 1)) s m args below meth c H locs 0 0 (MQ below (CtI V (cM V) (AM V) z) args s 0 0 (AM V)) (F0 m 27 ls []) := by
  unfold bX11_pairs_27 at h
  obtain ⟨hx, hb, hml, hown, hg, hrt, hlk, hK⟩ := id X
  refine lv_iload_n (pc := 27) hx hb dX11_pairs_27 rfl (lv_at hl 3 rfl) ?_
  refine lv_aload_n (pc := 28) hx hb dX11_pairs_28 rfl (lv_at hl 0 rfl) ?_
  refine gM_X11_158_0 (pc := 29) X hH dX11_pairs_29 ?_
  refine b_icmp_ge (pc := 32) (tgt := 72) hx hb h dX11_pairs_32 (by decide) (fun h => ?_) (fun h => ?_)
  · obtain ⟨x2_18, ex2_18, h⟩ := c_nm_ex h
    refine lv_iinc (pc := 72) (v := x2_18) (lv' := [(2, .int x2_18), (0, .ref (V.2.2 0)), (1, .int x1), (3, .int x3)]) hx hb dX11_pairs_72 hl (k := 2) rfl (by rw [← ex2_18]; rfl) (by decide) rfl (fun ls hl => ?_)
    refine lv_goto (pc := 75) (tgt := 17) hx hb dX11_pairs_75 (by decide) ?_
    exact hr17 _ _ _ _ _ _ h hH (lv_sub hl [1, 2, 0] rfl)
  · refine lv_aload_n (pc := 35) hx hb dX11_pairs_35 rfl (lv_at hl 0 rfl) ?_
    refine gM_X11_41_0 (pc := 36) X hH dX11_pairs_36 ?_
    refine lv_iload_n (pc := 39) hx hb dX11_pairs_39 rfl (lv_at hl 2 rfl) ?_
    refine r_lz (pc := 40) X (heM_11 V w) hH h dX11_pairs_40 (fun v19 h => ?_)
    refine b_if_eq (pc := 41) (tgt := 66) hx hb h dX11_pairs_41 (by decide) (fun h => ?_) (fun h => ?_)
    · exact kX11_pairs_66 X  hr17 hr27 h hH (lv_sub hl [0, 1, 2, 3] rfl)
    · refine lv_aload_n (pc := 44) hx hb dX11_pairs_44 rfl (lv_at hl 0 rfl) ?_
      refine gM_X11_41_0 (pc := 45) X hH dX11_pairs_45 ?_
      refine lv_iload_n (pc := 48) hx hb dX11_pairs_48 rfl (lv_at hl 3 rfl) ?_
      refine r_lz (pc := 49) X (heM_11 V w) hH h dX11_pairs_49 (fun v21 h => ?_)
      refine b_if_eq (pc := 50) (tgt := 66) hx hb h dX11_pairs_50 (by decide) (fun h => ?_) (fun h => ?_)
      · exact kX11_pairs_66 X  hr17 hr27 h hH (lv_sub hl [0, 1, 2, 3] rfl)
      · refine lv_aload_n (pc := 53) hx hb dX11_pairs_53 rfl (lv_at hl 0 rfl) ?_
        refine lv_iload_n (pc := 54) hx hb dX11_pairs_54 rfl (lv_at hl 2 rfl) ?_
        refine lv_iload_n (pc := 55) hx hb dX11_pairs_55 rfl (lv_at hl 3 rfl) ?_
        refine lv_aload_n (pc := 56) hx hb dX11_pairs_56 rfl (lv_at hl 0 rfl) ?_
        refine gM_X11_35_0 (pc := 57) X hH dX11_pairs_57 ?_
        refine lv_iload_n (pc := 60) hx hb dX11_pairs_60 rfl (lv_at hl 2 rfl) ?_
        refine r_ld (pc := 61) X (heM_9 V w) hH h dX11_pairs_61 (fun v22 h => ?_)
        refine lv_lconst (pc := 62) (v := 1) hx hb dX11_pairs_62 (by decide) ?_
        refine r_cvV (pc := 63) (As := [.int x2, .int x3, .int v22, .long 1]) (rest := []) X hH (fun x hx => mX11_meet hx) cw_X11_279 (heM_0 V w) rfl rfl rfl (Nat.le_of_ble_eq_true rfl) hl.1 h dX11_pairs_63 (fun w23 H locs h hH => ?_)
        exact kX11_pairs_66 X  hr17 hr27 h hH (lv_sub hl [0, 1, 2, 3] rfl)
def fX11_pairs_27 (N d : Nat)  (rec17 : Wd → Int32 → Int32 → Option (Wd × Int32)) : Nat → Wd → Int32 → Int32 → Int32 → Option (Wd × Int32)
  | 0 => fun _ _ _ _ => none
  | n + 1 => fun w x1 x2 x3 => bX11_pairs_27 N d  rec17 (fX11_pairs_27 N d  rec17 n) w x1 x2 x3
theorem lX11_pairs_27 {V : Ev} {p : Program} {l : Launch} {e : Env} {N d : Nat} {s : State} {m : MethodId} {args : Array Value} {below : List Frame} {meth : Method} {c : Code} {z : Wd × Int32} (X : CX V p s m args meth c cX11_pairs 4 RX11 (some .int))   {rec17 : Wd → Int32 → Int32 → Option (Wd × Int32)} (hr17 : ∀ (w : Wd) (x1 : Int32) (x2 : Int32) (H : Heap) (locs : List Loc) (ls : Array Slot), rec17 w x1 x2 = some z → wH V (cM V) (AM V) s w H locs → lv_has ls 4 [(0, .ref (V.2.2 0)), (1, .int x1), (2, .int x2)] → W p l e (rmD (d + 1)) s m args below meth c H locs 0 0 (MQ below (CtI V (cM V) (AM V) z) args s 0 0 (AM V)) (F0 m 17 ls [])) (n : Nat) {w : Wd} {x1 : Int32} {x2 : Int32} {x3 : Int32} {H : Heap} {locs : List Loc} {ls : Array Slot} (h : fX11_pairs_27 N d  rec17 n w x1 x2 x3 = some z) (hH : wH V (cM V) (AM V) s w H locs) (hl : lv_has ls 4 [(0, .ref (V.2.2 0)), (1, .int x1), (2, .int x2), (3, .int x3)]) : W p l e (rmD (d + 1)) s m args below meth c H locs 0 0 (MQ below (CtI V (cM V) (AM V) z) args s 0 0 (AM V)) (F0 m 27 ls []) := by
  induction n generalizing w x1 x2 x3 H locs ls with
  | zero => exact c_none h
  | succ n ih => exact kX11_pairs_27 (N := N) X hr17 (fun _ _ _ _ _ _ _ h hH hl => ih h hH hl) h hH hl
def bX11_pairs_17 (N d : Nat)  (rec17 : Wd → Int32 → Int32 → Option (Wd × Int32)) (w : Wd) (x1 : Int32) (x2 : Int32) : Option (Wd × Int32) :=
  if (sI w 3) ≤ x2 then (
    if (sI w 4) = 0 then (
      c_pi w 13 (sI w 14) fun w4 =>
      fX11_pairs_101 N d   N w4 ((0 : Int32))
    ) else (
      c_cl (eX11_refuse N d w x1) fun w16 v17 =>
      some (w16, v17)
    )
  ) else (
    fX11_pairs_27 N d  rec17 N w x1 x2 ((0 : Int32))
  )
set_option maxHeartbeats 4000000 in
theorem kX11_pairs_17 {V : Ev} {p : Program} {l : Launch} {e : Env} {N d : Nat} {s : State} {m : MethodId} {args : Array Value} {below : List Frame} {meth : Method} {c : Code} {z : Wd × Int32} (X : CX V p s m args meth c cX11_pairs 4 RX11 (some .int))   {rec17 : Wd → Int32 → Int32 → Option (Wd × Int32)} (hr17 : ∀ (w : Wd) (x1 : Int32) (x2 : Int32) (H : Heap) (locs : List Loc) (ls : Array Slot), rec17 w x1 x2 = some z → wH V (cM V) (AM V) s w H locs → lv_has ls 4 [(0, .ref (V.2.2 0)), (1, .int x1), (2, .int x2)] → W p l e (rmD (d + 1)) s m args below meth c H locs 0 0 (MQ below (CtI V (cM V) (AM V) z) args s 0 0 (AM V)) (F0 m 17 ls [])) {w : Wd} {x1 : Int32} {x2 : Int32} {H : Heap} {locs : List Loc} {ls : Array Slot} (h : bX11_pairs_17 N d  rec17 w x1 x2 = some z) (hH : wH V (cM V) (AM V) s w H locs) (hl : lv_has ls 4 [(0, .ref (V.2.2 0)), (1, .int x1), (2, .int x2)]) : W p l e (rmD (d + 1)) s m args below meth c H locs 0 0 (MQ below (CtI V (cM V) (AM V) z) args s 0 0 (AM V)) (F0 m 17 ls []) := by
  unfold bX11_pairs_17 at h
  obtain ⟨hx, hb, hml, hown, hg, hrt, hlk, hK⟩ := id X
  refine lv_iload_n (pc := 17) hx hb dX11_pairs_17 rfl (lv_at hl 2 rfl) ?_
  refine lv_aload_n (pc := 18) hx hb dX11_pairs_18 rfl (lv_at hl 0 rfl) ?_
  refine gM_X11_158_0 (pc := 19) X hH dX11_pairs_19 ?_
  refine b_icmp_ge (pc := 22) (tgt := 78) hx hb h dX11_pairs_22 (by decide) (fun h => ?_) (fun h => ?_)
  · refine lv_aload_n (pc := 78) hx hb dX11_pairs_78 rfl (lv_at hl 0 rfl) ?_
    refine gM_X11_121_0 (pc := 79) X hH dX11_pairs_79 ?_
    refine b_if_eq (pc := 82) (tgt := 91) hx hb h dX11_pairs_82 (by decide) (fun h => ?_) (fun h => ?_)
    · refine lv_aload_n (pc := 91) hx hb dX11_pairs_91 rfl (lv_at hl 0 rfl) ?_
      refine lv_aload_n (pc := 92) hx hb dX11_pairs_92 rfl (lv_at hl 0 rfl) ?_
      refine gM_X11_276_0 (pc := 93) X hH dX11_pairs_93 ?_
      refine pM_X11_283_0 (pc := 96) X hH h dX11_pairs_96 (fun w4 H locs h hH => ?_)
      refine lv_iconst (pc := 99) (v := 0) hx hb dX11_pairs_99 (by decide) ?_
      refine lv_istore_n (pc := 100) (lv' := [(2, .int ((0 : Int32))), (0, .ref (V.2.2 0)), (1, .int x1)]) hx hb dX11_pairs_100 rfl hl (by decide) rfl (fun ls hl => ?_)
      exact lX11_pairs_101 X   N h hH (lv_sub hl [1, 0] rfl)
    · refine lv_aload_n (pc := 85) hx hb dX11_pairs_85 rfl (lv_at hl 0 rfl) ?_
      refine lv_iload_n (pc := 86) hx hb dX11_pairs_86 rfl (lv_at hl 1 rfl) ?_
      refine r_cvI (pc := 87) (As := [.int x1]) (rest := []) X hH (fun x hx => mX11_refuse hx) cw_X11_209 (heM_0 V w) rfl rfl rfl (Nat.le_of_ble_eq_true rfl) hl.1 h dX11_pairs_87 (fun w16 v17 H locs h hH => ?_)
      exact r_iret (pc := 90) X hH h dX11_pairs_90
  · refine lv_iconst (pc := 25) (v := 0) hx hb dX11_pairs_25 (by decide) ?_
    refine lv_istore_n (pc := 26) (lv' := [(3, .int ((0 : Int32))), (0, .ref (V.2.2 0)), (1, .int x1), (2, .int x2)]) hx hb dX11_pairs_26 rfl hl (by decide) rfl (fun ls hl => ?_)
    exact lX11_pairs_27 X  hr17 N h hH (lv_sub hl [1, 2, 3, 0] rfl)
def fX11_pairs_17 (N d : Nat)   : Nat → Wd → Int32 → Int32 → Option (Wd × Int32)
  | 0 => fun _ _ _ => none
  | n + 1 => fun w x1 x2 => bX11_pairs_17 N d   (fX11_pairs_17 N d   n) w x1 x2
theorem lX11_pairs_17 {V : Ev} {p : Program} {l : Launch} {e : Env} {N d : Nat} {s : State} {m : MethodId} {args : Array Value} {below : List Frame} {meth : Method} {c : Code} {z : Wd × Int32} (X : CX V p s m args meth c cX11_pairs 4 RX11 (some .int))    (n : Nat) {w : Wd} {x1 : Int32} {x2 : Int32} {H : Heap} {locs : List Loc} {ls : Array Slot} (h : fX11_pairs_17 N d   n w x1 x2 = some z) (hH : wH V (cM V) (AM V) s w H locs) (hl : lv_has ls 4 [(0, .ref (V.2.2 0)), (1, .int x1), (2, .int x2)]) : W p l e (rmD (d + 1)) s m args below meth c H locs 0 0 (MQ below (CtI V (cM V) (AM V) z) args s 0 0 (AM V)) (F0 m 17 ls []) := by
  induction n generalizing w x1 x2 H locs ls with
  | zero => exact c_none h
  | succ n ih => exact kX11_pairs_17 (N := N) X  (fun _ _ _ _ _ _ h hH hl => ih h hH hl) h hH hl
def bX11_pairs_0 (N d : Nat)   (w : Wd)  : Option (Wd × Int32) :=
  c_pi w 0 0 fun w1 =>
  c_nm (sI w1 2) fun x1_2 =>
  c_pi w1 14 0 fun w3 =>
  fX11_pairs_17 N d   N w3 x1_2 ((0 : Int32))
set_option maxHeartbeats 4000000 in
theorem kX11_pairs_0 {V : Ev} {p : Program} {l : Launch} {e : Env} {N d : Nat} {s : State} {m : MethodId} {args : Array Value} {below : List Frame} {meth : Method} {c : Code} {z : Wd × Int32} (X : CX V p s m args meth c cX11_pairs 4 RX11 (some .int))    {w : Wd}  {H : Heap} {locs : List Loc} {ls : Array Slot} (h : bX11_pairs_0 N d   w  = some z) (hH : wH V (cM V) (AM V) s w H locs) (hl : lv_has ls 4 [(0, .ref (V.2.2 0))]) : W p l e (rmD (d + 1)) s m args below meth c H locs 0 0 (MQ below (CtI V (cM V) (AM V) z) args s 0 0 (AM V)) (F0 m 0 ls []) := by
  unfold bX11_pairs_0 at h
  obtain ⟨hx, hb, hml, hown, hg, hrt, hlk, hK⟩ := id X
  refine lv_aload_n (pc := 0) hx hb dX11_pairs_0 rfl (lv_at hl 0 rfl) ?_
  refine lv_iconst (pc := 1) (v := 0) hx hb dX11_pairs_1 (by decide) ?_
  refine pM_X11_111_0 (pc := 2) X hH h dX11_pairs_2 (fun w1 H locs h hH => ?_)
  refine lv_aload_n (pc := 5) hx hb dX11_pairs_5 rfl (lv_at hl 0 rfl) ?_
  refine gM_X11_125_0 (pc := 6) X hH dX11_pairs_6 ?_
  refine r_nmi h (fun x1_2 h => ?_)
  refine lv_istore_n (pc := 9) (lv' := [(1, .int x1_2), (0, .ref (V.2.2 0))]) hx hb dX11_pairs_9 rfl hl (by decide) rfl (fun ls hl => ?_)
  refine lv_aload_n (pc := 10) hx hb dX11_pairs_10 rfl (lv_at hl 1 rfl) ?_
  refine lv_iconst (pc := 11) (v := 0) hx hb dX11_pairs_11 (by decide) ?_
  refine pM_X11_276_0 (pc := 12) X hH h dX11_pairs_12 (fun w3 H locs h hH => ?_)
  refine lv_iconst (pc := 15) (v := 0) hx hb dX11_pairs_15 (by decide) ?_
  refine lv_istore_n (pc := 16) (lv' := [(2, .int ((0 : Int32))), (1, .int x1_2), (0, .ref (V.2.2 0))]) hx hb dX11_pairs_16 rfl hl (by decide) rfl (fun ls hl => ?_)
  exact lX11_pairs_17 X   N h hH (lv_sub hl [2, 1, 0] rfl)
def eX11_pairs (N : Nat) : Nat → Wd → Option (Wd × Int32)
  | 0 => fun _  => none
  | d + 1 => fun w  => bX11_pairs_0 N d  w 
set_option maxHeartbeats 4000000 in
set_option maxRecDepth 20000 in
theorem mX11_pairs {l : Launch} {V : Ev} {N d : Nat} {w : Wd}  {z : Wd × Int32} (h : eX11_pairs N d w  = some z) : MetI l V (cM V) (AM V) yX11_pairs cX11_pairs 4 (some .int) d [.ref (V.2.2 0)] w z := by
  cases d with
  | zero => exact c_none h
  | succ d =>
    refine Met.ofW (cc := cX11_pairs) (maxL := 4) (ret := (some .int)) (by decide) rfl ?_
    intro p e s m args below meth c s₁ B hml hv
    obtain ⟨rfl, hP, hD, hK⟩ := hv
    have hts := atoms_spec (ws := .code yX11_pairs cX11_pairs 4 (some .int) :: gG) B.pre
    have X : CX V p s m ([.ref (V.2.2 0)] : List Value).toArray meth c cX11_pairs 4 RX11 (some .int) := ⟨B.exec, B.bytes, hml, findClass_of_methodNamed B.named, fun w hw => hts w (List.mem_cons_of_mem _ hw), B.returns, B.notSynchronized, hK⟩
    have hl := lv_entry ([.ref (V.2.2 0)] : List Value) (n := 4) (Nat.le_of_ble_eq_true rfl)
    rw [lg_entry_eq]
    generalize (lg_sl ([.ref (V.2.2 0)] : List Value) ++ List.replicate (4 - (lg_sl ([.ref (V.2.2 0)] : List Value)).length) Slot.unset).toArray = ls at hl ⊢
    have hl : lv_has ls 4 [(0, .ref (V.2.2 0))] := hl
    exact kX11_pairs_0 (N := N) X  h ⟨hP, hD, va_S.rf⟩ hl
theorem dX11_joined_0 : decode cX11_joined 0 = .ok (.aload_n 0, 1) := by decide +kernel
theorem dX11_joined_1 : decode cX11_joined 1 = .ok (.getfield 125, 3) := by decide +kernel
theorem dX11_joined_4 : decode cX11_joined 4 = .ok (.istore 4, 2) := by decide +kernel
theorem dX11_joined_6 : decode cX11_joined 6 = .ok (.aload_n 0, 1) := by decide +kernel
theorem dX11_joined_7 : decode cX11_joined 7 = .ok (.iload_n 3, 1) := by decide +kernel
theorem dX11_joined_8 : decode cX11_joined 8 = .ok (.putfield 161, 3) := by decide +kernel
theorem dX11_joined_11 : decode cX11_joined 11 = .ok (.aload_n 0, 1) := by decide +kernel
theorem dX11_joined_12 : decode cX11_joined 12 = .ok (.iload_n 1, 1) := by decide +kernel
theorem dX11_joined_13 : decode cX11_joined 13 = .ok (.iconst 0, 1) := by decide +kernel
theorem dX11_joined_14 : decode cX11_joined 14 = .ok (.invokevirtual 215, 3) := by decide +kernel
theorem dX11_joined_17 : decode cX11_joined 17 = .ok (.istore 5, 2) := by decide +kernel
theorem dX11_joined_19 : decode cX11_joined 19 = .ok (.aload_n 0, 1) := by decide +kernel
theorem dX11_joined_20 : decode cX11_joined 20 = .ok (.getfield 121, 3) := by decide +kernel
theorem dX11_joined_23 : decode cX11_joined 23 = .ok (.ifCond .ne 10, 3) := by decide +kernel
theorem dX11_joined_26 : decode cX11_joined 26 = .ok (.iload 5, 2) := by decide +kernel
theorem dX11_joined_28 : decode cX11_joined 28 = .ok (.bipush (-5), 2) := by decide +kernel
theorem dX11_joined_30 : decode cX11_joined 30 = .ok (.if_icmp .ne 8, 3) := by decide +kernel
theorem dX11_joined_33 : decode cX11_joined 33 = .ok (.bipush (-5), 2) := by decide +kernel
theorem dX11_joined_35 : decode cX11_joined 35 = .ok (.goto 9, 3) := by decide +kernel
theorem dX11_joined_38 : decode cX11_joined 38 = .ok (.aload_n 0, 1) := by decide +kernel
theorem dX11_joined_39 : decode cX11_joined 39 = .ok (.iload_n 2, 1) := by decide +kernel
theorem dX11_joined_40 : decode cX11_joined 40 = .ok (.iconst 0, 1) := by decide +kernel
theorem dX11_joined_41 : decode cX11_joined 41 = .ok (.invokevirtual 215, 3) := by decide +kernel
theorem dX11_joined_44 : decode cX11_joined 44 = .ok (.istore 6, 2) := by decide +kernel
theorem dX11_joined_46 : decode cX11_joined 46 = .ok (.aload_n 0, 1) := by decide +kernel
theorem dX11_joined_47 : decode cX11_joined 47 = .ok (.getfield 121, 3) := by decide +kernel
theorem dX11_joined_50 : decode cX11_joined 50 = .ok (.ifCond .eq 10, 3) := by decide +kernel
theorem dX11_joined_53 : decode cX11_joined 53 = .ok (.aload_n 0, 1) := by decide +kernel
theorem dX11_joined_54 : decode cX11_joined 54 = .ok (.iload 4, 2) := by decide +kernel
theorem dX11_joined_56 : decode cX11_joined 56 = .ok (.invokevirtual 209, 3) := by decide +kernel
theorem dX11_joined_59 : decode cX11_joined 59 = .ok (.ireturn, 1) := by decide +kernel
theorem dX11_joined_60 : decode cX11_joined 60 = .ok (.iload 5, 2) := by decide +kernel
theorem dX11_joined_62 : decode cX11_joined 62 = .ok (.bipush (-5), 2) := by decide +kernel
theorem dX11_joined_64 : decode cX11_joined 64 = .ok (.if_icmp .eq 10, 3) := by decide +kernel
theorem dX11_joined_67 : decode cX11_joined 67 = .ok (.iload 6, 2) := by decide +kernel
theorem dX11_joined_69 : decode cX11_joined 69 = .ok (.bipush (-5), 2) := by decide +kernel
theorem dX11_joined_71 : decode cX11_joined 71 = .ok (.if_icmp .ne 8, 3) := by decide +kernel
theorem dX11_joined_74 : decode cX11_joined 74 = .ok (.bipush (-5), 2) := by decide +kernel
theorem dX11_joined_76 : decode cX11_joined 76 = .ok (.goto 15, 3) := by decide +kernel
theorem dX11_joined_79 : decode cX11_joined 79 = .ok (.iload 5, 2) := by decide +kernel
theorem dX11_joined_81 : decode cX11_joined 81 = .ok (.iload 6, 2) := by decide +kernel
theorem dX11_joined_83 : decode cX11_joined 83 = .ok (.if_icmp .ne 7, 3) := by decide +kernel
theorem dX11_joined_86 : decode cX11_joined 86 = .ok (.iconst 1, 1) := by decide +kernel
theorem dX11_joined_87 : decode cX11_joined 87 = .ok (.goto 4, 3) := by decide +kernel
theorem dX11_joined_90 : decode cX11_joined 90 = .ok (.iconst 0, 1) := by decide +kernel
theorem dX11_joined_91 : decode cX11_joined 91 = .ok (.ireturn, 1) := by decide +kernel
def bX11_joined_91 (N d : Nat)   (w : Wd) (y0 : Int32) : Option (Wd × Int32) :=
  some (w, y0)
set_option maxHeartbeats 4000000 in
theorem kX11_joined_91 {V : Ev} {p : Program} {l : Launch} {e : Env} {N d : Nat} {s : State} {m : MethodId} {args : Array Value} {below : List Frame} {meth : Method} {c : Code} {z : Wd × Int32} (X : CX V p s m args meth c cX11_joined 7 RX11 (some .int))    {w : Wd} {y0 : Int32} {H : Heap} {locs : List Loc} {ls : Array Slot} (h : bX11_joined_91 N d   w y0 = some z) (hH : wH V (cM V) (AM V) s w H locs) (hl : lv_has ls 7 []) : W p l e (rmD (d + 1)) s m args below meth c H locs 0 0 (MQ below (CtI V (cM V) (AM V) z) args s 0 0 (AM V)) (F0 m 91 ls [.int y0]) := by
  unfold bX11_joined_91 at h
  obtain ⟨hx, hb, hml, hown, hg, hrt, hlk, hK⟩ := id X
  exact r_iret (pc := 91) X hH h dX11_joined_91
def bX11_joined_74 (N d : Nat)   (w : Wd)  : Option (Wd × Int32) :=
  bX11_joined_91 N d   w (-5)
set_option maxHeartbeats 4000000 in
theorem kX11_joined_74 {V : Ev} {p : Program} {l : Launch} {e : Env} {N d : Nat} {s : State} {m : MethodId} {args : Array Value} {below : List Frame} {meth : Method} {c : Code} {z : Wd × Int32} (X : CX V p s m args meth c cX11_joined 7 RX11 (some .int))    {w : Wd}  {H : Heap} {locs : List Loc} {ls : Array Slot} (h : bX11_joined_74 N d   w  = some z) (hH : wH V (cM V) (AM V) s w H locs) (hl : lv_has ls 7 []) : W p l e (rmD (d + 1)) s m args below meth c H locs 0 0 (MQ below (CtI V (cM V) (AM V) z) args s 0 0 (AM V)) (F0 m 74 ls []) := by
  unfold bX11_joined_74 at h
  obtain ⟨hx, hb, hml, hown, hg, hrt, hlk, hK⟩ := id X
  refine lv_bipush (pc := 74) (v := -5) hx hb dX11_joined_74 (by decide) ?_
  refine lv_goto (pc := 76) (tgt := 91) hx hb dX11_joined_76 (by decide) ?_
  exact kX11_joined_91 X   h hH (lv_sub hl [] rfl)
def bX11_joined_44 (N d : Nat)   (w : Wd) (x4 : Int32) (x5 : Int32) (y0 : Int32) : Option (Wd × Int32) :=
  if (sI w 4) = 0 then (
    if x5 = (-5) then (
      bX11_joined_74 N d   w 
    ) else (
      if y0 = (-5) then (
        bX11_joined_74 N d   w 
      ) else (
        if x5 = y0 then (
          bX11_joined_91 N d   w 1
        ) else (
          bX11_joined_91 N d   w 0
        )
      )
    )
  ) else (
    c_cl (eX11_refuse N d w x4) fun w5 v6 =>
    some (w5, v6)
  )
set_option maxHeartbeats 4000000 in
theorem kX11_joined_44 {V : Ev} {p : Program} {l : Launch} {e : Env} {N d : Nat} {s : State} {m : MethodId} {args : Array Value} {below : List Frame} {meth : Method} {c : Code} {z : Wd × Int32} (X : CX V p s m args meth c cX11_joined 7 RX11 (some .int))    {w : Wd} {x4 : Int32} {x5 : Int32} {y0 : Int32} {H : Heap} {locs : List Loc} {ls : Array Slot} (h : bX11_joined_44 N d   w x4 x5 y0 = some z) (hH : wH V (cM V) (AM V) s w H locs) (hl : lv_has ls 7 [(0, .ref (V.2.2 0)), (4, .int x4), (5, .int x5)]) : W p l e (rmD (d + 1)) s m args below meth c H locs 0 0 (MQ below (CtI V (cM V) (AM V) z) args s 0 0 (AM V)) (F0 m 44 ls [.int y0]) := by
  unfold bX11_joined_44 at h
  obtain ⟨hx, hb, hml, hown, hg, hrt, hlk, hK⟩ := id X
  refine lv_istore (pc := 44) (lv' := [(6, .int y0), (0, .ref (V.2.2 0)), (4, .int x4), (5, .int x5)]) hx hb dX11_joined_44 hl (by decide) rfl (fun ls hl => ?_)
  refine lv_aload_n (pc := 46) hx hb dX11_joined_46 rfl (lv_at hl 1 rfl) ?_
  refine gM_X11_121_0 (pc := 47) X hH dX11_joined_47 ?_
  refine b_if_eq (pc := 50) (tgt := 60) hx hb h dX11_joined_50 (by decide) (fun h => ?_) (fun h => ?_)
  · refine lv_iload (pc := 60) hx hb dX11_joined_60 (lv_at hl 3 rfl) ?_
    refine lv_bipush (pc := 62) (v := -5) hx hb dX11_joined_62 (by decide) ?_
    refine b_icmp_eq (pc := 64) (tgt := 74) hx hb h dX11_joined_64 (by decide) (fun h => ?_) (fun h => ?_)
    · exact kX11_joined_74 X   h hH (lv_sub hl [] rfl)
    · refine lv_iload (pc := 67) hx hb dX11_joined_67 (lv_at hl 0 rfl) ?_
      refine lv_bipush (pc := 69) (v := -5) hx hb dX11_joined_69 (by decide) ?_
      refine b_icmp_ne (pc := 71) (tgt := 79) hx hb h dX11_joined_71 (by decide) (fun h => ?_) (fun h => ?_)
      · refine lv_iload (pc := 79) hx hb dX11_joined_79 (lv_at hl 3 rfl) ?_
        refine lv_iload (pc := 81) hx hb dX11_joined_81 (lv_at hl 0 rfl) ?_
        refine b_icmp_ne (pc := 83) (tgt := 90) hx hb h dX11_joined_83 (by decide) (fun h => ?_) (fun h => ?_)
        · refine lv_iconst (pc := 90) (v := 0) hx hb dX11_joined_90 (by decide) ?_
          exact kX11_joined_91 X   h hH (lv_sub hl [] rfl)
        · refine lv_iconst (pc := 86) (v := 1) hx hb dX11_joined_86 (by decide) ?_
          refine lv_goto (pc := 87) (tgt := 91) hx hb dX11_joined_87 (by decide) ?_
          exact kX11_joined_91 X   h hH (lv_sub hl [] rfl)
      · exact kX11_joined_74 X   h hH (lv_sub hl [] rfl)
  · refine lv_aload_n (pc := 53) hx hb dX11_joined_53 rfl (lv_at hl 1 rfl) ?_
    refine lv_iload (pc := 54) hx hb dX11_joined_54 (lv_at hl 2 rfl) ?_
    refine r_cvI (pc := 56) (As := [.int x4]) (rest := []) X hH (fun x hx => mX11_refuse hx) cw_X11_209 (heM_0 V w) rfl rfl rfl (Nat.le_of_ble_eq_true rfl) hl.1 h dX11_joined_56 (fun w5 v6 H locs h hH => ?_)
    exact r_iret (pc := 59) X hH h dX11_joined_59
def bX11_joined_33 (N d : Nat)   (w : Wd) (x4 : Int32) (x5 : Int32) : Option (Wd × Int32) :=
  bX11_joined_44 N d   w x4 x5 (-5)
set_option maxHeartbeats 4000000 in
theorem kX11_joined_33 {V : Ev} {p : Program} {l : Launch} {e : Env} {N d : Nat} {s : State} {m : MethodId} {args : Array Value} {below : List Frame} {meth : Method} {c : Code} {z : Wd × Int32} (X : CX V p s m args meth c cX11_joined 7 RX11 (some .int))    {w : Wd} {x4 : Int32} {x5 : Int32} {H : Heap} {locs : List Loc} {ls : Array Slot} (h : bX11_joined_33 N d   w x4 x5 = some z) (hH : wH V (cM V) (AM V) s w H locs) (hl : lv_has ls 7 [(0, .ref (V.2.2 0)), (4, .int x4), (5, .int x5)]) : W p l e (rmD (d + 1)) s m args below meth c H locs 0 0 (MQ below (CtI V (cM V) (AM V) z) args s 0 0 (AM V)) (F0 m 33 ls []) := by
  unfold bX11_joined_33 at h
  obtain ⟨hx, hb, hml, hown, hg, hrt, hlk, hK⟩ := id X
  refine lv_bipush (pc := 33) (v := -5) hx hb dX11_joined_33 (by decide) ?_
  refine lv_goto (pc := 35) (tgt := 44) hx hb dX11_joined_35 (by decide) ?_
  exact kX11_joined_44 X   h hH (lv_sub hl [0, 1, 2] rfl)
def bX11_joined_0 (N d : Nat)   (w : Wd) (x1 : Int32) (x2 : Int32) (x3 : Int32) : Option (Wd × Int32) :=
  c_nm (sI w 2) fun x4_1 =>
  c_pi w 5 x3 fun w2 =>
  c_cl (eX11_normalOf N d w2 x1 0) fun w3 v4 =>
  if (sI w3 4) = 0 then (
    if v4 = (-5) then (
      bX11_joined_33 N d   w3 x4_1 v4
    ) else (
      c_cl (eX11_normalOf N d w3 x2 0) fun w7 v8 =>
      bX11_joined_44 N d   w7 x4_1 v4 v8
    )
  ) else (
    bX11_joined_33 N d   w3 x4_1 v4
  )
set_option maxHeartbeats 4000000 in
theorem kX11_joined_0 {V : Ev} {p : Program} {l : Launch} {e : Env} {N d : Nat} {s : State} {m : MethodId} {args : Array Value} {below : List Frame} {meth : Method} {c : Code} {z : Wd × Int32} (X : CX V p s m args meth c cX11_joined 7 RX11 (some .int))    {w : Wd} {x1 : Int32} {x2 : Int32} {x3 : Int32} {H : Heap} {locs : List Loc} {ls : Array Slot} (h : bX11_joined_0 N d   w x1 x2 x3 = some z) (hH : wH V (cM V) (AM V) s w H locs) (hl : lv_has ls 7 [(0, .ref (V.2.2 0)), (1, .int x1), (2, .int x2), (3, .int x3)]) : W p l e (rmD (d + 1)) s m args below meth c H locs 0 0 (MQ below (CtI V (cM V) (AM V) z) args s 0 0 (AM V)) (F0 m 0 ls []) := by
  unfold bX11_joined_0 at h
  obtain ⟨hx, hb, hml, hown, hg, hrt, hlk, hK⟩ := id X
  refine lv_aload_n (pc := 0) hx hb dX11_joined_0 rfl (lv_at hl 0 rfl) ?_
  refine gM_X11_125_0 (pc := 1) X hH dX11_joined_1 ?_
  refine r_nmi h (fun x4_1 h => ?_)
  refine lv_istore (pc := 4) (lv' := [(4, .int x4_1), (0, .ref (V.2.2 0)), (1, .int x1), (2, .int x2), (3, .int x3)]) hx hb dX11_joined_4 hl (by decide) rfl (fun ls hl => ?_)
  refine lv_aload_n (pc := 6) hx hb dX11_joined_6 rfl (lv_at hl 1 rfl) ?_
  refine lv_iload_n (pc := 7) hx hb dX11_joined_7 rfl (lv_at hl 4 rfl) ?_
  refine pM_X11_161_0 (pc := 8) X hH h dX11_joined_8 (fun w2 H locs h hH => ?_)
  refine lv_aload_n (pc := 11) hx hb dX11_joined_11 rfl (lv_at hl 1 rfl) ?_
  refine lv_iload_n (pc := 12) hx hb dX11_joined_12 rfl (lv_at hl 2 rfl) ?_
  refine lv_iconst (pc := 13) (v := 0) hx hb dX11_joined_13 (by decide) ?_
  refine r_cvI (pc := 14) (As := [.int x1, .int 0]) (rest := []) X hH (fun x hx => mX11_normalOf hx) cw_X11_215 (heM_0 V w2) rfl rfl rfl (Nat.le_of_ble_eq_true rfl) hl.1 h dX11_joined_14 (fun w3 v4 H locs h hH => ?_)
  refine lv_istore (pc := 17) (lv' := [(5, .int v4), (4, .int x4_1), (0, .ref (V.2.2 0)), (1, .int x1), (2, .int x2), (3, .int x3)]) hx hb dX11_joined_17 hl (by decide) rfl (fun ls hl => ?_)
  refine lv_aload_n (pc := 19) hx hb dX11_joined_19 rfl (lv_at hl 2 rfl) ?_
  refine gM_X11_121_0 (pc := 20) X hH dX11_joined_20 ?_
  refine b_if_ne (pc := 23) (tgt := 33) hx hb h dX11_joined_23 (by decide) (fun h => ?_) (fun h => ?_)
  · exact kX11_joined_33 X   h hH (lv_sub hl [2, 1, 0] rfl)
  · refine lv_iload (pc := 26) hx hb dX11_joined_26 (lv_at hl 0 rfl) ?_
    refine lv_bipush (pc := 28) (v := -5) hx hb dX11_joined_28 (by decide) ?_
    refine b_icmp_ne (pc := 30) (tgt := 38) hx hb h dX11_joined_30 (by decide) (fun h => ?_) (fun h => ?_)
    · refine lv_aload_n (pc := 38) hx hb dX11_joined_38 rfl (lv_at hl 2 rfl) ?_
      refine lv_iload_n (pc := 39) hx hb dX11_joined_39 rfl (lv_at hl 4 rfl) ?_
      refine lv_iconst (pc := 40) (v := 0) hx hb dX11_joined_40 (by decide) ?_
      refine r_cvI (pc := 41) (As := [.int x2, .int 0]) (rest := []) X hH (fun x hx => mX11_normalOf hx) cw_X11_215 (heM_0 V w3) rfl rfl rfl (Nat.le_of_ble_eq_true rfl) hl.1 h dX11_joined_41 (fun w7 v8 H locs h hH => ?_)
      exact kX11_joined_44 X   h hH (lv_sub hl [2, 1, 0] rfl)
    · exact kX11_joined_33 X   h hH (lv_sub hl [2, 1, 0] rfl)
def eX11_joined (N : Nat) : Nat → Wd → Int32 → Int32 → Int32 → Option (Wd × Int32)
  | 0 => fun _ _ _ _ => none
  | d + 1 => fun w x1 x2 x3 => bX11_joined_0 N d  w x1 x2 x3
set_option maxHeartbeats 4000000 in
set_option maxRecDepth 20000 in
theorem mX11_joined {l : Launch} {V : Ev} {N d : Nat} {w : Wd} {x1 : Int32} {x2 : Int32} {x3 : Int32} {z : Wd × Int32} (h : eX11_joined N d w x1 x2 x3 = some z) : MetI l V (cM V) (AM V) yX11_joined cX11_joined 7 (some .int) d [.ref (V.2.2 0), .int x1, .int x2, .int x3] w z := by
  cases d with
  | zero => exact c_none h
  | succ d =>
    refine Met.ofW (cc := cX11_joined) (maxL := 7) (ret := (some .int)) (by decide) rfl ?_
    intro p e s m args below meth c s₁ B hml hv
    obtain ⟨rfl, hP, hD, hK⟩ := hv
    have hts := atoms_spec (ws := .code yX11_joined cX11_joined 7 (some .int) :: gG) B.pre
    have X : CX V p s m ([.ref (V.2.2 0), .int x1, .int x2, .int x3] : List Value).toArray meth c cX11_joined 7 RX11 (some .int) := ⟨B.exec, B.bytes, hml, findClass_of_methodNamed B.named, fun w hw => hts w (List.mem_cons_of_mem _ hw), B.returns, B.notSynchronized, hK⟩
    have hl := lv_entry ([.ref (V.2.2 0), .int x1, .int x2, .int x3] : List Value) (n := 7) (Nat.le_of_ble_eq_true rfl)
    rw [lg_entry_eq]
    generalize (lg_sl ([.ref (V.2.2 0), .int x1, .int x2, .int x3] : List Value) ++ List.replicate (7 - (lg_sl ([.ref (V.2.2 0), .int x1, .int x2, .int x3] : List Value)).length) Slot.unset).toArray = ls at hl ⊢
    have hl : lv_has ls 7 [(0, .ref (V.2.2 0)), (1, .int x1), (2, .int x2), (3, .int x3)] := hl
    exact kX11_joined_0 (N := N) X  h ⟨hP, hD, va_S.rf⟩ hl
theorem dX11_pair_0 : decode cX11_pair 0 = .ok (.aload_n 0, 1) := by decide +kernel
theorem dX11_pair_1 : decode cX11_pair 1 = .ok (.iconst 0, 1) := by decide +kernel
theorem dX11_pair_2 : decode cX11_pair 2 = .ok (.putfield 111, 3) := by decide +kernel
theorem dX11_pair_5 : decode cX11_pair 5 = .ok (.iload_n 1, 1) := by decide +kernel
theorem dX11_pair_6 : decode cX11_pair 6 = .ok (.i2l, 1) := by decide +kernel
theorem dX11_pair_7 : decode cX11_pair 7 = .ok (.lconst 0, 1) := by decide +kernel
theorem dX11_pair_8 : decode cX11_pair 8 = .ok (.aload_n 0, 1) := by decide +kernel
theorem dX11_pair_9 : decode cX11_pair 9 = .ok (.getfield 283, 3) := by decide +kernel
theorem dX11_pair_12 : decode cX11_pair 12 = .ok (.iconst 1, 1) := by decide +kernel
theorem dX11_pair_13 : decode cX11_pair 13 = .ok (.isub, 1) := by decide +kernel
theorem dX11_pair_14 : decode cX11_pair 14 = .ok (.i2l, 1) := by decide +kernel
theorem dX11_pair_15 : decode cX11_pair 15 = .ok (.invokestatic 132, 3) := by decide +kernel
theorem dX11_pair_18 : decode cX11_pair 18 = .ok (.ifCond .eq 15, 3) := by decide +kernel
theorem dX11_pair_21 : decode cX11_pair 21 = .ok (.iload_n 2, 1) := by decide +kernel
theorem dX11_pair_22 : decode cX11_pair 22 = .ok (.i2l, 1) := by decide +kernel
theorem dX11_pair_23 : decode cX11_pair 23 = .ok (.lconst 0, 1) := by decide +kernel
theorem dX11_pair_24 : decode cX11_pair 24 = .ok (.ldc2_w 286, 3) := by decide +kernel
theorem dX11_pair_27 : decode cX11_pair 27 = .ok (.invokestatic 132, 3) := by decide +kernel
theorem dX11_pair_30 : decode cX11_pair 30 = .ok (.ifCond .ne 7, 3) := by decide +kernel
theorem dX11_pair_33 : decode cX11_pair 33 = .ok (.ldc2_w 218, 3) := by decide +kernel
theorem dX11_pair_36 : decode cX11_pair 36 = .ok (.lreturn, 1) := by decide +kernel
theorem dX11_pair_37 : decode cX11_pair 37 = .ok (.iload_n 2, 1) := by decide +kernel
theorem dX11_pair_38 : decode cX11_pair 38 = .ok (.tableswitch 73 0 4 #[34, 42, 50, 57, 65], 34) := by decide +kernel
theorem dX11_pair_72 : decode cX11_pair 72 = .ok (.aload_n 0, 1) := by decide +kernel
theorem dX11_pair_73 : decode cX11_pair 73 = .ok (.getfield 75, 3) := by decide +kernel
theorem dX11_pair_76 : decode cX11_pair 76 = .ok (.iload_n 1, 1) := by decide +kernel
theorem dX11_pair_77 : decode cX11_pair 77 = .ok (.iaload, 1) := by decide +kernel
theorem dX11_pair_78 : decode cX11_pair 78 = .ok (.i2l, 1) := by decide +kernel
theorem dX11_pair_79 : decode cX11_pair 79 = .ok (.lreturn, 1) := by decide +kernel
theorem dX11_pair_80 : decode cX11_pair 80 = .ok (.aload_n 0, 1) := by decide +kernel
theorem dX11_pair_81 : decode cX11_pair 81 = .ok (.getfield 78, 3) := by decide +kernel
theorem dX11_pair_84 : decode cX11_pair 84 = .ok (.iload_n 1, 1) := by decide +kernel
theorem dX11_pair_85 : decode cX11_pair 85 = .ok (.iaload, 1) := by decide +kernel
theorem dX11_pair_86 : decode cX11_pair 86 = .ok (.i2l, 1) := by decide +kernel
theorem dX11_pair_87 : decode cX11_pair 87 = .ok (.lreturn, 1) := by decide +kernel
theorem dX11_pair_88 : decode cX11_pair 88 = .ok (.aload_n 0, 1) := by decide +kernel
theorem dX11_pair_89 : decode cX11_pair 89 = .ok (.getfield 81, 3) := by decide +kernel
theorem dX11_pair_92 : decode cX11_pair 92 = .ok (.iload_n 1, 1) := by decide +kernel
theorem dX11_pair_93 : decode cX11_pair 93 = .ok (.laload, 1) := by decide +kernel
theorem dX11_pair_94 : decode cX11_pair 94 = .ok (.lreturn, 1) := by decide +kernel
theorem dX11_pair_95 : decode cX11_pair 95 = .ok (.aload_n 0, 1) := by decide +kernel
theorem dX11_pair_96 : decode cX11_pair 96 = .ok (.getfield 84, 3) := by decide +kernel
theorem dX11_pair_99 : decode cX11_pair 99 = .ok (.iload_n 1, 1) := by decide +kernel
theorem dX11_pair_100 : decode cX11_pair 100 = .ok (.iaload, 1) := by decide +kernel
theorem dX11_pair_101 : decode cX11_pair 101 = .ok (.i2l, 1) := by decide +kernel
theorem dX11_pair_102 : decode cX11_pair 102 = .ok (.lreturn, 1) := by decide +kernel
theorem dX11_pair_103 : decode cX11_pair 103 = .ok (.aload_n 0, 1) := by decide +kernel
theorem dX11_pair_104 : decode cX11_pair 104 = .ok (.getfield 87, 3) := by decide +kernel
theorem dX11_pair_107 : decode cX11_pair 107 = .ok (.iload_n 1, 1) := by decide +kernel
theorem dX11_pair_108 : decode cX11_pair 108 = .ok (.iaload, 1) := by decide +kernel
theorem dX11_pair_109 : decode cX11_pair 109 = .ok (.i2l, 1) := by decide +kernel
theorem dX11_pair_110 : decode cX11_pair 110 = .ok (.lreturn, 1) := by decide +kernel
theorem dX11_pair_111 : decode cX11_pair 111 = .ok (.aload_n 0, 1) := by decide +kernel
theorem dX11_pair_112 : decode cX11_pair 112 = .ok (.aload_n 0, 1) := by decide +kernel
theorem dX11_pair_113 : decode cX11_pair 113 = .ok (.getfield 84, 3) := by decide +kernel
theorem dX11_pair_116 : decode cX11_pair 116 = .ok (.iload_n 1, 1) := by decide +kernel
theorem dX11_pair_117 : decode cX11_pair 117 = .ok (.iaload, 1) := by decide +kernel
theorem dX11_pair_118 : decode cX11_pair 118 = .ok (.aload_n 0, 1) := by decide +kernel
theorem dX11_pair_119 : decode cX11_pair 119 = .ok (.getfield 87, 3) := by decide +kernel
theorem dX11_pair_122 : decode cX11_pair 122 = .ok (.iload_n 1, 1) := by decide +kernel
theorem dX11_pair_123 : decode cX11_pair 123 = .ok (.iaload, 1) := by decide +kernel
theorem dX11_pair_124 : decode cX11_pair 124 = .ok (.iconst (-1), 1) := by decide +kernel
theorem dX11_pair_125 : decode cX11_pair 125 = .ok (.invokevirtual 288, 3) := by decide +kernel
theorem dX11_pair_128 : decode cX11_pair 128 = .ok (.i2l, 1) := by decide +kernel
theorem dX11_pair_129 : decode cX11_pair 129 = .ok (.lreturn, 1) := by decide +kernel
def bX11_pair_33 (N d : Nat)   (w : Wd)  : Option (Wd × Int64) :=
  some (w, -2)
set_option maxHeartbeats 4000000 in
theorem kX11_pair_33 {V : Ev} {p : Program} {l : Launch} {e : Env} {N d : Nat} {s : State} {m : MethodId} {args : Array Value} {below : List Frame} {meth : Method} {c : Code} {z : Wd × Int64} (X : CX V p s m args meth c cX11_pair 3 RX11 (some .long))    {w : Wd}  {H : Heap} {locs : List Loc} {ls : Array Slot} (h : bX11_pair_33 N d   w  = some z) (hH : wH V (cM V) (AM V) s w H locs) (hl : lv_has ls 3 []) : W p l e (rmD (d + 1)) s m args below meth c H locs 0 0 (MQ below (CtL V (cM V) (AM V) z) args s 0 0 (AM V)) (F0 m 33 ls []) := by
  unfold bX11_pair_33 at h
  obtain ⟨hx, hb, hml, hown, hg, hrt, hlk, hK⟩ := id X
  refine lv_ldc2 (pc := 33) hx hb hown (hg _ wL_1140) dX11_pair_33 ?_
  exact r_lret (pc := 36) X hH h dX11_pair_36
def bX11_pair_0 (N d : Nat)   (w : Wd) (x1 : Int32) (x2 : Int32) : Option (Wd × Int64) :=
  c_pi w 0 0 fun w1 =>
  c_cl (eX11_in N d w1 (Int32.toInt64 x1) 0 (Int32.toInt64 ((sI w1 13) - 1))) fun w2 v3 =>
  if v3 = 0 then (
    bX11_pair_33 N d   w2 
  ) else (
    c_cl (eX11_in N d w2 (Int32.toInt64 x2) 0 5) fun w4 v5 =>
    if v5 = 0 then (
      bX11_pair_33 N d   w4 
    ) else (
      if x2 = 0 then (
        c_ld w4 22 60 x1 fun v6 =>
        some (w4, Int32.toInt64 v6)
      ) else (
        if x2 = 1 then (
          c_ld w4 23 60 x1 fun v7 =>
          some (w4, Int32.toInt64 v7)
        ) else (
          if x2 = 2 then (
            c_ll w4 24 60 x1 fun v8 =>
            some (w4, v8)
          ) else (
            if x2 = 3 then (
              c_ld w4 25 60 x1 fun v9 =>
              some (w4, Int32.toInt64 v9)
            ) else (
              if x2 = 4 then (
                c_ld w4 26 60 x1 fun v10 =>
                some (w4, Int32.toInt64 v10)
              ) else (
                c_ld w4 25 60 x1 fun v11 =>
                c_ld w4 26 60 x1 fun v12 =>
                c_cl (eX11_joined N d w4 v11 v12 (-1)) fun w13 v14 =>
                some (w13, Int32.toInt64 v14)
              )
            )
          )
        )
      )
    )
  )
set_option maxHeartbeats 4000000 in
theorem kX11_pair_0 {V : Ev} {p : Program} {l : Launch} {e : Env} {N d : Nat} {s : State} {m : MethodId} {args : Array Value} {below : List Frame} {meth : Method} {c : Code} {z : Wd × Int64} (X : CX V p s m args meth c cX11_pair 3 RX11 (some .long))    {w : Wd} {x1 : Int32} {x2 : Int32} {H : Heap} {locs : List Loc} {ls : Array Slot} (h : bX11_pair_0 N d   w x1 x2 = some z) (hH : wH V (cM V) (AM V) s w H locs) (hl : lv_has ls 3 [(0, .ref (V.2.2 0)), (1, .int x1), (2, .int x2)]) : W p l e (rmD (d + 1)) s m args below meth c H locs 0 0 (MQ below (CtL V (cM V) (AM V) z) args s 0 0 (AM V)) (F0 m 0 ls []) := by
  unfold bX11_pair_0 at h
  obtain ⟨hx, hb, hml, hown, hg, hrt, hlk, hK⟩ := id X
  refine lv_aload_n (pc := 0) hx hb dX11_pair_0 rfl (lv_at hl 0 rfl) ?_
  refine lv_iconst (pc := 1) (v := 0) hx hb dX11_pair_1 (by decide) ?_
  refine pM_X11_111_0 (pc := 2) X hH h dX11_pair_2 (fun w1 H locs h hH => ?_)
  refine lv_iload_n (pc := 5) hx hb dX11_pair_5 rfl (lv_at hl 1 rfl) ?_
  refine lv_i2l (pc := 6) hx hb dX11_pair_6 rfl ?_
  refine lv_lconst (pc := 7) (v := 0) hx hb dX11_pair_7 (by decide) ?_
  refine lv_aload_n (pc := 8) hx hb dX11_pair_8 rfl (lv_at hl 0 rfl) ?_
  refine gM_X11_283_0 (pc := 9) X hH dX11_pair_9 ?_
  refine lv_iconst (pc := 12) (v := 1) hx hb dX11_pair_12 (by decide) ?_
  refine lv_isub (pc := 13) hx hb dX11_pair_13 ?_
  refine lv_i2l (pc := 14) hx hb dX11_pair_14 rfl ?_
  refine r_csI (pc := 15) (As := [.long (Int32.toInt64 x1), .long 0, .long (Int32.toInt64 ((sI w1 13) - 1))]) (rest := []) X hH (fun x hx => mX11_in hx) cs_X11_132 rfl rfl (Nat.le_of_ble_eq_true rfl) hl.1 h dX11_pair_15 (fun w2 v3 H locs h hH => ?_)
  refine b_if_eq (pc := 18) (tgt := 33) hx hb h dX11_pair_18 (by decide) (fun h => ?_) (fun h => ?_)
  · exact kX11_pair_33 X   h hH (lv_sub hl [] rfl)
  · refine lv_iload_n (pc := 21) hx hb dX11_pair_21 rfl (lv_at hl 2 rfl) ?_
    refine lv_i2l (pc := 22) hx hb dX11_pair_22 rfl ?_
    refine lv_lconst (pc := 23) (v := 0) hx hb dX11_pair_23 (by decide) ?_
    refine lv_ldc2 (pc := 24) hx hb hown (hg _ wL_1226) dX11_pair_24 ?_
    refine r_csI (pc := 27) (As := [.long (Int32.toInt64 x2), .long 0, .long 5]) (rest := []) X hH (fun x hx => mX11_in hx) cs_X11_132 rfl rfl (Nat.le_of_ble_eq_true rfl) hl.1 h dX11_pair_27 (fun w4 v5 H locs h hH => ?_)
    refine b_if_ne (pc := 30) (tgt := 37) hx hb h dX11_pair_30 (by decide) (fun h => ?_) (fun h => ?_)
    · refine lv_iload_n (pc := 37) hx hb dX11_pair_37 rfl (lv_at hl 2 rfl) ?_
      refine b_sw h (fun q0 h => ?_) (fun q0 h => ?_)
      · refine lv_tableIn (pc := 38) (tgt := 72) hx hb dX11_pair_38 (by rw [q0]; decide) (by rw [q0]; decide) (by rw [q0]; rfl) (by decide) ?_
        refine lv_aload_n (pc := 72) hx hb dX11_pair_72 rfl (lv_at hl 0 rfl) ?_
        refine gM_X11_75_0 (pc := 73) X hH dX11_pair_73 ?_
        refine lv_iload_n (pc := 76) hx hb dX11_pair_76 rfl (lv_at hl 1 rfl) ?_
        refine r_ld (pc := 77) X (heM_22 V w4) hH h dX11_pair_77 (fun v6 h => ?_)
        refine lv_i2l (pc := 78) hx hb dX11_pair_78 rfl ?_
        exact r_lret (pc := 79) X hH h dX11_pair_79
      refine b_sw h (fun q1 h => ?_) (fun q1 h => ?_)
      · refine lv_tableIn (pc := 38) (tgt := 80) hx hb dX11_pair_38 (by rw [q1]; decide) (by rw [q1]; decide) (by rw [q1]; rfl) (by decide) ?_
        refine lv_aload_n (pc := 80) hx hb dX11_pair_80 rfl (lv_at hl 0 rfl) ?_
        refine gM_X11_78_0 (pc := 81) X hH dX11_pair_81 ?_
        refine lv_iload_n (pc := 84) hx hb dX11_pair_84 rfl (lv_at hl 1 rfl) ?_
        refine r_ld (pc := 85) X (heM_23 V w4) hH h dX11_pair_85 (fun v7 h => ?_)
        refine lv_i2l (pc := 86) hx hb dX11_pair_86 rfl ?_
        exact r_lret (pc := 87) X hH h dX11_pair_87
      refine b_sw h (fun q2 h => ?_) (fun q2 h => ?_)
      · refine lv_tableIn (pc := 38) (tgt := 88) hx hb dX11_pair_38 (by rw [q2]; decide) (by rw [q2]; decide) (by rw [q2]; rfl) (by decide) ?_
        refine lv_aload_n (pc := 88) hx hb dX11_pair_88 rfl (lv_at hl 0 rfl) ?_
        refine gM_X11_81_0 (pc := 89) X hH dX11_pair_89 ?_
        refine lv_iload_n (pc := 92) hx hb dX11_pair_92 rfl (lv_at hl 1 rfl) ?_
        refine r_ll (pc := 93) X (heM_24 V w4) hH h dX11_pair_93 (fun v8 h => ?_)
        exact r_lret (pc := 94) X hH h dX11_pair_94
      refine b_sw h (fun q3 h => ?_) (fun q3 h => ?_)
      · refine lv_tableIn (pc := 38) (tgt := 95) hx hb dX11_pair_38 (by rw [q3]; decide) (by rw [q3]; decide) (by rw [q3]; rfl) (by decide) ?_
        refine lv_aload_n (pc := 95) hx hb dX11_pair_95 rfl (lv_at hl 0 rfl) ?_
        refine gM_X11_84_0 (pc := 96) X hH dX11_pair_96 ?_
        refine lv_iload_n (pc := 99) hx hb dX11_pair_99 rfl (lv_at hl 1 rfl) ?_
        refine r_ld (pc := 100) X (heM_25 V w4) hH h dX11_pair_100 (fun v9 h => ?_)
        refine lv_i2l (pc := 101) hx hb dX11_pair_101 rfl ?_
        exact r_lret (pc := 102) X hH h dX11_pair_102
      refine b_sw h (fun q4 h => ?_) (fun q4 h => ?_)
      · refine lv_tableIn (pc := 38) (tgt := 103) hx hb dX11_pair_38 (by rw [q4]; decide) (by rw [q4]; decide) (by rw [q4]; rfl) (by decide) ?_
        refine lv_aload_n (pc := 103) hx hb dX11_pair_103 rfl (lv_at hl 0 rfl) ?_
        refine gM_X11_87_0 (pc := 104) X hH dX11_pair_104 ?_
        refine lv_iload_n (pc := 107) hx hb dX11_pair_107 rfl (lv_at hl 1 rfl) ?_
        refine r_ld (pc := 108) X (heM_26 V w4) hH h dX11_pair_108 (fun v10 h => ?_)
        refine lv_i2l (pc := 109) hx hb dX11_pair_109 rfl ?_
        exact r_lret (pc := 110) X hH h dX11_pair_110
      have qd : x2.toInt < 0 ∨ 4 < x2.toInt := by have := lv_neT q0 (show (0 : Int32).toInt = 0 from rfl); have := lv_neT q1 (show (1 : Int32).toInt = 1 from rfl); have := lv_neT q2 (show (2 : Int32).toInt = 2 from rfl); have := lv_neT q3 (show (3 : Int32).toInt = 3 from rfl); have := lv_neT q4 (show (4 : Int32).toInt = 4 from rfl); omega
      refine lv_tableOut (pc := 38) (tgt := 111) hx hb dX11_pair_38 qd (by decide) ?_
      refine lv_aload_n (pc := 111) hx hb dX11_pair_111 rfl (lv_at hl 0 rfl) ?_
      refine lv_aload_n (pc := 112) hx hb dX11_pair_112 rfl (lv_at hl 0 rfl) ?_
      refine gM_X11_84_0 (pc := 113) X hH dX11_pair_113 ?_
      refine lv_iload_n (pc := 116) hx hb dX11_pair_116 rfl (lv_at hl 1 rfl) ?_
      refine r_ld (pc := 117) X (heM_25 V w4) hH h dX11_pair_117 (fun v11 h => ?_)
      refine lv_aload_n (pc := 118) hx hb dX11_pair_118 rfl (lv_at hl 0 rfl) ?_
      refine gM_X11_87_0 (pc := 119) X hH dX11_pair_119 ?_
      refine lv_iload_n (pc := 122) hx hb dX11_pair_122 rfl (lv_at hl 1 rfl) ?_
      refine r_ld (pc := 123) X (heM_26 V w4) hH h dX11_pair_123 (fun v12 h => ?_)
      refine lv_iconst (pc := 124) (v := -1) hx hb dX11_pair_124 (by decide) ?_
      refine r_cvI (pc := 125) (As := [.int v11, .int v12, .int (-1)]) (rest := []) X hH (fun x hx => mX11_joined hx) cw_X11_288 (heM_0 V w4) rfl rfl rfl (Nat.le_of_ble_eq_true rfl) hl.1 h dX11_pair_125 (fun w13 v14 H locs h hH => ?_)
      refine lv_i2l (pc := 128) hx hb dX11_pair_128 rfl ?_
      exact r_lret (pc := 129) X hH h dX11_pair_129
    · exact kX11_pair_33 X   h hH (lv_sub hl [] rfl)
def eX11_pair (N : Nat) : Nat → Wd → Int32 → Int32 → Option (Wd × Int64)
  | 0 => fun _ _ _ => none
  | d + 1 => fun w x1 x2 => bX11_pair_0 N d  w x1 x2
set_option maxHeartbeats 4000000 in
set_option maxRecDepth 20000 in
theorem mX11_pair {l : Launch} {V : Ev} {N d : Nat} {w : Wd} {x1 : Int32} {x2 : Int32} {z : Wd × Int64} (h : eX11_pair N d w x1 x2 = some z) : MetL l V (cM V) (AM V) yX11_pair cX11_pair 3 (some .long) d [.ref (V.2.2 0), .int x1, .int x2] w z := by
  cases d with
  | zero => exact c_none h
  | succ d =>
    refine Met.ofW (cc := cX11_pair) (maxL := 3) (ret := (some .long)) (by decide) rfl ?_
    intro p e s m args below meth c s₁ B hml hv
    obtain ⟨rfl, hP, hD, hK⟩ := hv
    have hts := atoms_spec (ws := .code yX11_pair cX11_pair 3 (some .long) :: gG) B.pre
    have X : CX V p s m ([.ref (V.2.2 0), .int x1, .int x2] : List Value).toArray meth c cX11_pair 3 RX11 (some .long) := ⟨B.exec, B.bytes, hml, findClass_of_methodNamed B.named, fun w hw => hts w (List.mem_cons_of_mem _ hw), B.returns, B.notSynchronized, hK⟩
    have hl := lv_entry ([.ref (V.2.2 0), .int x1, .int x2] : List Value) (n := 3) (Nat.le_of_ble_eq_true rfl)
    rw [lg_entry_eq]
    generalize (lg_sl ([.ref (V.2.2 0), .int x1, .int x2] : List Value) ++ List.replicate (3 - (lg_sl ([.ref (V.2.2 0), .int x1, .int x2] : List Value)).length) Slot.unset).toArray = ls at hl ⊢
    have hl : lv_has ls 3 [(0, .ref (V.2.2 0)), (1, .int x1), (2, .int x2)] := hl
    exact kX11_pair_0 (N := N) X  h ⟨hP, hD, va_S.rf⟩ hl
theorem dX11_tables_0 : decode cX11_tables 0 = .ok (.aload_n 0, 1) := by decide +kernel
theorem dX11_tables_1 : decode cX11_tables 1 = .ok (.iconst 0, 1) := by decide +kernel
theorem dX11_tables_2 : decode cX11_tables 2 = .ok (.putfield 111, 3) := by decide +kernel
theorem dX11_tables_5 : decode cX11_tables 5 = .ok (.iload_n 1, 1) := by decide +kernel
theorem dX11_tables_6 : decode cX11_tables 6 = .ok (.i2l, 1) := by decide +kernel
theorem dX11_tables_7 : decode cX11_tables 7 = .ok (.lconst 1, 1) := by decide +kernel
theorem dX11_tables_8 : decode cX11_tables 8 = .ok (.ldc2_w 172, 3) := by decide +kernel
theorem dX11_tables_11 : decode cX11_tables 11 = .ok (.invokestatic 132, 3) := by decide +kernel
theorem dX11_tables_14 : decode cX11_tables 14 = .ok (.ifCond .ne 6, 3) := by decide +kernel
theorem dX11_tables_17 : decode cX11_tables 17 = .ok (.bipush (-2), 2) := by decide +kernel
theorem dX11_tables_19 : decode cX11_tables 19 = .ok (.ireturn, 1) := by decide +kernel
theorem dX11_tables_20 : decode cX11_tables 20 = .ok (.aload_n 0, 1) := by decide +kernel
theorem dX11_tables_21 : decode cX11_tables 21 = .ok (.iload_n 1, 1) := by decide +kernel
theorem dX11_tables_22 : decode cX11_tables 22 = .ok (.putfield 291, 3) := by decide +kernel
theorem dX11_tables_25 : decode cX11_tables 25 = .ok (.iconst 0, 1) := by decide +kernel
theorem dX11_tables_26 : decode cX11_tables 26 = .ok (.istore_n 2, 1) := by decide +kernel
theorem dX11_tables_27 : decode cX11_tables 27 = .ok (.iload_n 2, 1) := by decide +kernel
theorem dX11_tables_28 : decode cX11_tables 28 = .ok (.sipush 160, 3) := by decide +kernel
theorem dX11_tables_31 : decode cX11_tables 31 = .ok (.if_icmp .ge 16, 3) := by decide +kernel
theorem dX11_tables_34 : decode cX11_tables 34 = .ok (.aload_n 0, 1) := by decide +kernel
theorem dX11_tables_35 : decode cX11_tables 35 = .ok (.getfield 96, 3) := by decide +kernel
theorem dX11_tables_38 : decode cX11_tables 38 = .ok (.iload_n 2, 1) := by decide +kernel
theorem dX11_tables_39 : decode cX11_tables 39 = .ok (.iconst 0, 1) := by decide +kernel
theorem dX11_tables_40 : decode cX11_tables 40 = .ok (.iastore, 1) := by decide +kernel
theorem dX11_tables_41 : decode cX11_tables 41 = .ok (.iinc 2 1, 3) := by decide +kernel
theorem dX11_tables_44 : decode cX11_tables 44 = .ok (.goto (-17), 3) := by decide +kernel
theorem dX11_tables_47 : decode cX11_tables 47 = .ok (.iconst 0, 1) := by decide +kernel
theorem dX11_tables_48 : decode cX11_tables 48 = .ok (.istore_n 2, 1) := by decide +kernel
theorem dX11_tables_49 : decode cX11_tables 49 = .ok (.iload_n 2, 1) := by decide +kernel
theorem dX11_tables_50 : decode cX11_tables 50 = .ok (.bipush 8, 2) := by decide +kernel
theorem dX11_tables_52 : decode cX11_tables 52 = .ok (.if_icmp .ge 16, 3) := by decide +kernel
theorem dX11_tables_55 : decode cX11_tables 55 = .ok (.aload_n 0, 1) := by decide +kernel
theorem dX11_tables_56 : decode cX11_tables 56 = .ok (.getfield 99, 3) := by decide +kernel
theorem dX11_tables_59 : decode cX11_tables 59 = .ok (.iload_n 2, 1) := by decide +kernel
theorem dX11_tables_60 : decode cX11_tables 60 = .ok (.iconst 0, 1) := by decide +kernel
theorem dX11_tables_61 : decode cX11_tables 61 = .ok (.iastore, 1) := by decide +kernel
theorem dX11_tables_62 : decode cX11_tables 62 = .ok (.iinc 2 1, 3) := by decide +kernel
theorem dX11_tables_65 : decode cX11_tables 65 = .ok (.goto (-16), 3) := by decide +kernel
theorem dX11_tables_68 : decode cX11_tables 68 = .ok (.iload_n 1, 1) := by decide +kernel
theorem dX11_tables_69 : decode cX11_tables 69 = .ok (.ireturn, 1) := by decide +kernel
def bX11_tables_49 (N d : Nat)  (rec49 : Wd → Int32 → Int32 → Option (Wd × Int32)) (w : Wd) (x1 : Int32) (x2 : Int32) : Option (Wd × Int32) :=
  if 8 ≤ x2 then (
    some (w, x1)
  ) else (
    c_st w 30 8 x2 0 fun w5 =>
    c_nm (x2 + 1) fun x2_6 =>
    rec49 w5 x1 x2_6
  )
set_option maxHeartbeats 4000000 in
theorem kX11_tables_49 {V : Ev} {p : Program} {l : Launch} {e : Env} {N d : Nat} {s : State} {m : MethodId} {args : Array Value} {below : List Frame} {meth : Method} {c : Code} {z : Wd × Int32} (X : CX V p s m args meth c cX11_tables 3 RX11 (some .int))   {rec49 : Wd → Int32 → Int32 → Option (Wd × Int32)} (hr49 : ∀ (w : Wd) (x1 : Int32) (x2 : Int32) (H : Heap) (locs : List Loc) (ls : Array Slot), rec49 w x1 x2 = some z → wH V (cM V) (AM V) s w H locs → lv_has ls 3 [(0, .ref (V.2.2 0)), (1, .int x1), (2, .int x2)] → W p l e (rmD (d + 1)) s m args below meth c H locs 0 0 (MQ below (CtI V (cM V) (AM V) z) args s 0 0 (AM V)) (F0 m 49 ls [])) {w : Wd} {x1 : Int32} {x2 : Int32} {H : Heap} {locs : List Loc} {ls : Array Slot} (h : bX11_tables_49 N d  rec49 w x1 x2 = some z) (hH : wH V (cM V) (AM V) s w H locs) (hl : lv_has ls 3 [(0, .ref (V.2.2 0)), (1, .int x1), (2, .int x2)]) : W p l e (rmD (d + 1)) s m args below meth c H locs 0 0 (MQ below (CtI V (cM V) (AM V) z) args s 0 0 (AM V)) (F0 m 49 ls []) := by
  unfold bX11_tables_49 at h
  obtain ⟨hx, hb, hml, hown, hg, hrt, hlk, hK⟩ := id X
  refine lv_iload_n (pc := 49) hx hb dX11_tables_49 rfl (lv_at hl 2 rfl) ?_
  refine lv_bipush (pc := 50) (v := 8) hx hb dX11_tables_50 (by decide) ?_
  refine b_icmp_ge (pc := 52) (tgt := 68) hx hb h dX11_tables_52 (by decide) (fun h => ?_) (fun h => ?_)
  · refine lv_iload_n (pc := 68) hx hb dX11_tables_68 rfl (lv_at hl 1 rfl) ?_
    exact r_iret (pc := 69) X hH h dX11_tables_69
  · refine lv_aload_n (pc := 55) hx hb dX11_tables_55 rfl (lv_at hl 0 rfl) ?_
    refine gM_X11_99_0 (pc := 56) X hH dX11_tables_56 ?_
    refine lv_iload_n (pc := 59) hx hb dX11_tables_59 rfl (lv_at hl 2 rfl) ?_
    refine lv_iconst (pc := 60) (v := 0) hx hb dX11_tables_60 (by decide) ?_
    refine r_st (pc := 61) X (heM_30 V w) (hsM_30 V w) hH h dX11_tables_61 (fun w5 H locs h hH => ?_)
    obtain ⟨x2_6, ex2_6, h⟩ := c_nm_ex h
    refine lv_iinc (pc := 62) (v := x2_6) (lv' := [(2, .int x2_6), (0, .ref (V.2.2 0)), (1, .int x1)]) hx hb dX11_tables_62 hl (k := 2) rfl (by rw [← ex2_6]; rfl) (by decide) rfl (fun ls hl => ?_)
    refine lv_goto (pc := 65) (tgt := 49) hx hb dX11_tables_65 (by decide) ?_
    exact hr49 _ _ _ _ _ _ h hH (lv_sub hl [1, 2, 0] rfl)
def fX11_tables_49 (N d : Nat)   : Nat → Wd → Int32 → Int32 → Option (Wd × Int32)
  | 0 => fun _ _ _ => none
  | n + 1 => fun w x1 x2 => bX11_tables_49 N d   (fX11_tables_49 N d   n) w x1 x2
theorem lX11_tables_49 {V : Ev} {p : Program} {l : Launch} {e : Env} {N d : Nat} {s : State} {m : MethodId} {args : Array Value} {below : List Frame} {meth : Method} {c : Code} {z : Wd × Int32} (X : CX V p s m args meth c cX11_tables 3 RX11 (some .int))    (n : Nat) {w : Wd} {x1 : Int32} {x2 : Int32} {H : Heap} {locs : List Loc} {ls : Array Slot} (h : fX11_tables_49 N d   n w x1 x2 = some z) (hH : wH V (cM V) (AM V) s w H locs) (hl : lv_has ls 3 [(0, .ref (V.2.2 0)), (1, .int x1), (2, .int x2)]) : W p l e (rmD (d + 1)) s m args below meth c H locs 0 0 (MQ below (CtI V (cM V) (AM V) z) args s 0 0 (AM V)) (F0 m 49 ls []) := by
  induction n generalizing w x1 x2 H locs ls with
  | zero => exact c_none h
  | succ n ih => exact kX11_tables_49 (N := N) X  (fun _ _ _ _ _ _ h hH hl => ih h hH hl) h hH hl
def bX11_tables_27 (N d : Nat)  (rec27 : Wd → Int32 → Int32 → Option (Wd × Int32)) (w : Wd) (x1 : Int32) (x2 : Int32) : Option (Wd × Int32) :=
  if 160 ≤ x2 then (
    fX11_tables_49 N d   N w x1 ((0 : Int32))
  ) else (
    c_st w 29 160 x2 0 fun w7 =>
    c_nm (x2 + 1) fun x2_8 =>
    rec27 w7 x1 x2_8
  )
set_option maxHeartbeats 4000000 in
theorem kX11_tables_27 {V : Ev} {p : Program} {l : Launch} {e : Env} {N d : Nat} {s : State} {m : MethodId} {args : Array Value} {below : List Frame} {meth : Method} {c : Code} {z : Wd × Int32} (X : CX V p s m args meth c cX11_tables 3 RX11 (some .int))   {rec27 : Wd → Int32 → Int32 → Option (Wd × Int32)} (hr27 : ∀ (w : Wd) (x1 : Int32) (x2 : Int32) (H : Heap) (locs : List Loc) (ls : Array Slot), rec27 w x1 x2 = some z → wH V (cM V) (AM V) s w H locs → lv_has ls 3 [(0, .ref (V.2.2 0)), (1, .int x1), (2, .int x2)] → W p l e (rmD (d + 1)) s m args below meth c H locs 0 0 (MQ below (CtI V (cM V) (AM V) z) args s 0 0 (AM V)) (F0 m 27 ls [])) {w : Wd} {x1 : Int32} {x2 : Int32} {H : Heap} {locs : List Loc} {ls : Array Slot} (h : bX11_tables_27 N d  rec27 w x1 x2 = some z) (hH : wH V (cM V) (AM V) s w H locs) (hl : lv_has ls 3 [(0, .ref (V.2.2 0)), (1, .int x1), (2, .int x2)]) : W p l e (rmD (d + 1)) s m args below meth c H locs 0 0 (MQ below (CtI V (cM V) (AM V) z) args s 0 0 (AM V)) (F0 m 27 ls []) := by
  unfold bX11_tables_27 at h
  obtain ⟨hx, hb, hml, hown, hg, hrt, hlk, hK⟩ := id X
  refine lv_iload_n (pc := 27) hx hb dX11_tables_27 rfl (lv_at hl 2 rfl) ?_
  refine lv_sipush (pc := 28) (v := 160) hx hb dX11_tables_28 (by decide) ?_
  refine b_icmp_ge (pc := 31) (tgt := 47) hx hb h dX11_tables_31 (by decide) (fun h => ?_) (fun h => ?_)
  · refine lv_iconst (pc := 47) (v := 0) hx hb dX11_tables_47 (by decide) ?_
    refine lv_istore_n (pc := 48) (lv' := [(2, .int ((0 : Int32))), (0, .ref (V.2.2 0)), (1, .int x1)]) hx hb dX11_tables_48 rfl hl (by decide) rfl (fun ls hl => ?_)
    exact lX11_tables_49 X   N h hH (lv_sub hl [1, 2, 0] rfl)
  · refine lv_aload_n (pc := 34) hx hb dX11_tables_34 rfl (lv_at hl 0 rfl) ?_
    refine gM_X11_96_0 (pc := 35) X hH dX11_tables_35 ?_
    refine lv_iload_n (pc := 38) hx hb dX11_tables_38 rfl (lv_at hl 2 rfl) ?_
    refine lv_iconst (pc := 39) (v := 0) hx hb dX11_tables_39 (by decide) ?_
    refine r_st (pc := 40) X (heM_29 V w) (hsM_29 V w) hH h dX11_tables_40 (fun w7 H locs h hH => ?_)
    obtain ⟨x2_8, ex2_8, h⟩ := c_nm_ex h
    refine lv_iinc (pc := 41) (v := x2_8) (lv' := [(2, .int x2_8), (0, .ref (V.2.2 0)), (1, .int x1)]) hx hb dX11_tables_41 hl (k := 2) rfl (by rw [← ex2_8]; rfl) (by decide) rfl (fun ls hl => ?_)
    refine lv_goto (pc := 44) (tgt := 27) hx hb dX11_tables_44 (by decide) ?_
    exact hr27 _ _ _ _ _ _ h hH (lv_sub hl [1, 2, 0] rfl)
def fX11_tables_27 (N d : Nat)   : Nat → Wd → Int32 → Int32 → Option (Wd × Int32)
  | 0 => fun _ _ _ => none
  | n + 1 => fun w x1 x2 => bX11_tables_27 N d   (fX11_tables_27 N d   n) w x1 x2
theorem lX11_tables_27 {V : Ev} {p : Program} {l : Launch} {e : Env} {N d : Nat} {s : State} {m : MethodId} {args : Array Value} {below : List Frame} {meth : Method} {c : Code} {z : Wd × Int32} (X : CX V p s m args meth c cX11_tables 3 RX11 (some .int))    (n : Nat) {w : Wd} {x1 : Int32} {x2 : Int32} {H : Heap} {locs : List Loc} {ls : Array Slot} (h : fX11_tables_27 N d   n w x1 x2 = some z) (hH : wH V (cM V) (AM V) s w H locs) (hl : lv_has ls 3 [(0, .ref (V.2.2 0)), (1, .int x1), (2, .int x2)]) : W p l e (rmD (d + 1)) s m args below meth c H locs 0 0 (MQ below (CtI V (cM V) (AM V) z) args s 0 0 (AM V)) (F0 m 27 ls []) := by
  induction n generalizing w x1 x2 H locs ls with
  | zero => exact c_none h
  | succ n ih => exact kX11_tables_27 (N := N) X  (fun _ _ _ _ _ _ h hH hl => ih h hH hl) h hH hl
def bX11_tables_0 (N d : Nat)   (w : Wd) (x1 : Int32) : Option (Wd × Int32) :=
  c_pi w 0 0 fun w1 =>
  c_cl (eX11_in N d w1 (Int32.toInt64 x1) 1 3) fun w2 v3 =>
  if v3 = 0 then (
    some (w2, -2)
  ) else (
    c_pi w2 15 x1 fun w4 =>
    fX11_tables_27 N d   N w4 x1 ((0 : Int32))
  )
set_option maxHeartbeats 4000000 in
theorem kX11_tables_0 {V : Ev} {p : Program} {l : Launch} {e : Env} {N d : Nat} {s : State} {m : MethodId} {args : Array Value} {below : List Frame} {meth : Method} {c : Code} {z : Wd × Int32} (X : CX V p s m args meth c cX11_tables 3 RX11 (some .int))    {w : Wd} {x1 : Int32} {H : Heap} {locs : List Loc} {ls : Array Slot} (h : bX11_tables_0 N d   w x1 = some z) (hH : wH V (cM V) (AM V) s w H locs) (hl : lv_has ls 3 [(0, .ref (V.2.2 0)), (1, .int x1)]) : W p l e (rmD (d + 1)) s m args below meth c H locs 0 0 (MQ below (CtI V (cM V) (AM V) z) args s 0 0 (AM V)) (F0 m 0 ls []) := by
  unfold bX11_tables_0 at h
  obtain ⟨hx, hb, hml, hown, hg, hrt, hlk, hK⟩ := id X
  refine lv_aload_n (pc := 0) hx hb dX11_tables_0 rfl (lv_at hl 0 rfl) ?_
  refine lv_iconst (pc := 1) (v := 0) hx hb dX11_tables_1 (by decide) ?_
  refine pM_X11_111_0 (pc := 2) X hH h dX11_tables_2 (fun w1 H locs h hH => ?_)
  refine lv_iload_n (pc := 5) hx hb dX11_tables_5 rfl (lv_at hl 1 rfl) ?_
  refine lv_i2l (pc := 6) hx hb dX11_tables_6 rfl ?_
  refine lv_lconst (pc := 7) (v := 1) hx hb dX11_tables_7 (by decide) ?_
  refine lv_ldc2 (pc := 8) hx hb hown (hg _ wL_1106) dX11_tables_8 ?_
  refine r_csI (pc := 11) (As := [.long (Int32.toInt64 x1), .long 1, .long 3]) (rest := []) X hH (fun x hx => mX11_in hx) cs_X11_132 rfl rfl (Nat.le_of_ble_eq_true rfl) hl.1 h dX11_tables_11 (fun w2 v3 H locs h hH => ?_)
  refine b_if_ne (pc := 14) (tgt := 20) hx hb h dX11_tables_14 (by decide) (fun h => ?_) (fun h => ?_)
  · refine lv_aload_n (pc := 20) hx hb dX11_tables_20 rfl (lv_at hl 0 rfl) ?_
    refine lv_iload_n (pc := 21) hx hb dX11_tables_21 rfl (lv_at hl 1 rfl) ?_
    refine pM_X11_291_0 (pc := 22) X hH h dX11_tables_22 (fun w4 H locs h hH => ?_)
    refine lv_iconst (pc := 25) (v := 0) hx hb dX11_tables_25 (by decide) ?_
    refine lv_istore_n (pc := 26) (lv' := [(2, .int ((0 : Int32))), (0, .ref (V.2.2 0)), (1, .int x1)]) hx hb dX11_tables_26 rfl hl (by decide) rfl (fun ls hl => ?_)
    exact lX11_tables_27 X   N h hH (lv_sub hl [1, 2, 0] rfl)
  · refine lv_bipush (pc := 17) (v := -2) hx hb dX11_tables_17 (by decide) ?_
    exact r_iret (pc := 19) X hH h dX11_tables_19
def eX11_tables (N : Nat) : Nat → Wd → Int32 → Option (Wd × Int32)
  | 0 => fun _ _ => none
  | d + 1 => fun w x1 => bX11_tables_0 N d  w x1
set_option maxHeartbeats 4000000 in
set_option maxRecDepth 20000 in
theorem mX11_tables {l : Launch} {V : Ev} {N d : Nat} {w : Wd} {x1 : Int32} {z : Wd × Int32} (h : eX11_tables N d w x1 = some z) : MetI l V (cM V) (AM V) yX11_tables cX11_tables 3 (some .int) d [.ref (V.2.2 0), .int x1] w z := by
  cases d with
  | zero => exact c_none h
  | succ d =>
    refine Met.ofW (cc := cX11_tables) (maxL := 3) (ret := (some .int)) (by decide) rfl ?_
    intro p e s m args below meth c s₁ B hml hv
    obtain ⟨rfl, hP, hD, hK⟩ := hv
    have hts := atoms_spec (ws := .code yX11_tables cX11_tables 3 (some .int) :: gG) B.pre
    have X : CX V p s m ([.ref (V.2.2 0), .int x1] : List Value).toArray meth c cX11_tables 3 RX11 (some .int) := ⟨B.exec, B.bytes, hml, findClass_of_methodNamed B.named, fun w hw => hts w (List.mem_cons_of_mem _ hw), B.returns, B.notSynchronized, hK⟩
    have hl := lv_entry ([.ref (V.2.2 0), .int x1] : List Value) (n := 3) (Nat.le_of_ble_eq_true rfl)
    rw [lg_entry_eq]
    generalize (lg_sl ([.ref (V.2.2 0), .int x1] : List Value) ++ List.replicate (3 - (lg_sl ([.ref (V.2.2 0), .int x1] : List Value)).length) Slot.unset).toArray = ls at hl ⊢
    have hl : lv_has ls 3 [(0, .ref (V.2.2 0)), (1, .int x1)] := hl
    exact kX11_tables_0 (N := N) X  h ⟨hP, hD, va_S.rf⟩ hl
theorem dX11_cell_0 : decode cX11_cell 0 = .ok (.aload_n 0, 1) := by decide +kernel
theorem dX11_cell_1 : decode cX11_cell 1 = .ok (.iconst 0, 1) := by decide +kernel
theorem dX11_cell_2 : decode cX11_cell 2 = .ok (.putfield 111, 3) := by decide +kernel
theorem dX11_cell_5 : decode cX11_cell 5 = .ok (.aload_n 0, 1) := by decide +kernel
theorem dX11_cell_6 : decode cX11_cell 6 = .ok (.getfield 291, 3) := by decide +kernel
theorem dX11_cell_9 : decode cX11_cell 9 = .ok (.ifCond .ne 6, 3) := by decide +kernel
theorem dX11_cell_12 : decode cX11_cell 12 = .ok (.bipush (-3), 2) := by decide +kernel
theorem dX11_cell_14 : decode cX11_cell 14 = .ok (.ireturn, 1) := by decide +kernel
theorem dX11_cell_15 : decode cX11_cell 15 = .ok (.iload_n 1, 1) := by decide +kernel
theorem dX11_cell_16 : decode cX11_cell 16 = .ok (.i2l, 1) := by decide +kernel
theorem dX11_cell_17 : decode cX11_cell 17 = .ok (.lconst 0, 1) := by decide +kernel
theorem dX11_cell_18 : decode cX11_cell 18 = .ok (.aload_n 0, 1) := by decide +kernel
theorem dX11_cell_19 : decode cX11_cell 19 = .ok (.getfield 226, 3) := by decide +kernel
theorem dX11_cell_22 : decode cX11_cell 22 = .ok (.iconst 1, 1) := by decide +kernel
theorem dX11_cell_23 : decode cX11_cell 23 = .ok (.isub, 1) := by decide +kernel
theorem dX11_cell_24 : decode cX11_cell 24 = .ok (.i2l, 1) := by decide +kernel
theorem dX11_cell_25 : decode cX11_cell 25 = .ok (.invokestatic 132, 3) := by decide +kernel
theorem dX11_cell_28 : decode cX11_cell 28 = .ok (.ifCond .ne 6, 3) := by decide +kernel
theorem dX11_cell_31 : decode cX11_cell 31 = .ok (.bipush (-2), 2) := by decide +kernel
theorem dX11_cell_33 : decode cX11_cell 33 = .ok (.ireturn, 1) := by decide +kernel
theorem dX11_cell_34 : decode cX11_cell 34 = .ok (.aload_n 0, 1) := by decide +kernel
theorem dX11_cell_35 : decode cX11_cell 35 = .ok (.getfield 7, 3) := by decide +kernel
theorem dX11_cell_38 : decode cX11_cell 38 = .ok (.iload_n 1, 1) := by decide +kernel
theorem dX11_cell_39 : decode cX11_cell 39 = .ok (.iaload, 1) := by decide +kernel
theorem dX11_cell_40 : decode cX11_cell 40 = .ok (.ifCond .le 7, 3) := by decide +kernel
theorem dX11_cell_43 : decode cX11_cell 43 = .ok (.iload_n 2, 1) := by decide +kernel
theorem dX11_cell_44 : decode cX11_cell 44 = .ok (.goto 4, 3) := by decide +kernel
theorem dX11_cell_47 : decode cX11_cell 47 = .ok (.iconst 0, 1) := by decide +kernel
theorem dX11_cell_48 : decode cX11_cell 48 = .ok (.istore 5, 2) := by decide +kernel
theorem dX11_cell_50 : decode cX11_cell 50 = .ok (.aload_n 0, 1) := by decide +kernel
theorem dX11_cell_51 : decode cX11_cell 51 = .ok (.getfield 7, 3) := by decide +kernel
theorem dX11_cell_54 : decode cX11_cell 54 = .ok (.iload_n 1, 1) := by decide +kernel
theorem dX11_cell_55 : decode cX11_cell 55 = .ok (.iaload, 1) := by decide +kernel
theorem dX11_cell_56 : decode cX11_cell 56 = .ok (.iconst 1, 1) := by decide +kernel
theorem dX11_cell_57 : decode cX11_cell 57 = .ok (.if_icmp .le 7, 3) := by decide +kernel
theorem dX11_cell_60 : decode cX11_cell 60 = .ok (.iload_n 3, 1) := by decide +kernel
theorem dX11_cell_61 : decode cX11_cell 61 = .ok (.goto 4, 3) := by decide +kernel
theorem dX11_cell_64 : decode cX11_cell 64 = .ok (.iconst 0, 1) := by decide +kernel
theorem dX11_cell_65 : decode cX11_cell 65 = .ok (.istore 6, 2) := by decide +kernel
theorem dX11_cell_67 : decode cX11_cell 67 = .ok (.iload 5, 2) := by decide +kernel
theorem dX11_cell_69 : decode cX11_cell 69 = .ok (.i2l, 1) := by decide +kernel
theorem dX11_cell_70 : decode cX11_cell 70 = .ok (.lconst 0, 1) := by decide +kernel
theorem dX11_cell_71 : decode cX11_cell 71 = .ok (.aload_n 0, 1) := by decide +kernel
theorem dX11_cell_72 : decode cX11_cell 72 = .ok (.getfield 291, 3) := by decide +kernel
theorem dX11_cell_75 : decode cX11_cell 75 = .ok (.i2l, 1) := by decide +kernel
theorem dX11_cell_76 : decode cX11_cell 76 = .ok (.invokestatic 132, 3) := by decide +kernel
theorem dX11_cell_79 : decode cX11_cell 79 = .ok (.ifCond .eq 33, 3) := by decide +kernel
theorem dX11_cell_82 : decode cX11_cell 82 = .ok (.iload 6, 2) := by decide +kernel
theorem dX11_cell_84 : decode cX11_cell 84 = .ok (.i2l, 1) := by decide +kernel
theorem dX11_cell_85 : decode cX11_cell 85 = .ok (.lconst 0, 1) := by decide +kernel
theorem dX11_cell_86 : decode cX11_cell 86 = .ok (.aload_n 0, 1) := by decide +kernel
theorem dX11_cell_87 : decode cX11_cell 87 = .ok (.getfield 291, 3) := by decide +kernel
theorem dX11_cell_90 : decode cX11_cell 90 = .ok (.i2l, 1) := by decide +kernel
theorem dX11_cell_91 : decode cX11_cell 91 = .ok (.invokestatic 132, 3) := by decide +kernel
theorem dX11_cell_94 : decode cX11_cell 94 = .ok (.ifCond .eq 18, 3) := by decide +kernel
theorem dX11_cell_97 : decode cX11_cell 97 = .ok (.iload 4, 2) := by decide +kernel
theorem dX11_cell_99 : decode cX11_cell 99 = .ok (.i2l, 1) := by decide +kernel
theorem dX11_cell_100 : decode cX11_cell 100 = .ok (.lconst 0, 1) := by decide +kernel
theorem dX11_cell_101 : decode cX11_cell 101 = .ok (.aload_n 0, 1) := by decide +kernel
theorem dX11_cell_102 : decode cX11_cell 102 = .ok (.getfield 291, 3) := by decide +kernel
theorem dX11_cell_105 : decode cX11_cell 105 = .ok (.i2l, 1) := by decide +kernel
theorem dX11_cell_106 : decode cX11_cell 106 = .ok (.invokestatic 132, 3) := by decide +kernel
theorem dX11_cell_109 : decode cX11_cell 109 = .ok (.ifCond .ne 6, 3) := by decide +kernel
theorem dX11_cell_112 : decode cX11_cell 112 = .ok (.bipush (-2), 2) := by decide +kernel
theorem dX11_cell_114 : decode cX11_cell 114 = .ok (.ireturn, 1) := by decide +kernel
theorem dX11_cell_115 : decode cX11_cell 115 = .ok (.bipush 16, 2) := by decide +kernel
theorem dX11_cell_117 : decode cX11_cell 117 = .ok (.iload_n 1, 1) := by decide +kernel
theorem dX11_cell_118 : decode cX11_cell 118 = .ok (.imul, 1) := by decide +kernel
theorem dX11_cell_119 : decode cX11_cell 119 = .ok (.iconst 4, 1) := by decide +kernel
theorem dX11_cell_120 : decode cX11_cell 120 = .ok (.iload 5, 2) := by decide +kernel
theorem dX11_cell_122 : decode cX11_cell 122 = .ok (.imul, 1) := by decide +kernel
theorem dX11_cell_123 : decode cX11_cell 123 = .ok (.iadd, 1) := by decide +kernel
theorem dX11_cell_124 : decode cX11_cell 124 = .ok (.iload 6, 2) := by decide +kernel
theorem dX11_cell_126 : decode cX11_cell 126 = .ok (.iadd, 1) := by decide +kernel
theorem dX11_cell_127 : decode cX11_cell 127 = .ok (.istore 7, 2) := by decide +kernel
theorem dX11_cell_129 : decode cX11_cell 129 = .ok (.aload_n 0, 1) := by decide +kernel
theorem dX11_cell_130 : decode cX11_cell 130 = .ok (.getfield 96, 3) := by decide +kernel
theorem dX11_cell_133 : decode cX11_cell 133 = .ok (.iload 7, 2) := by decide +kernel
theorem dX11_cell_135 : decode cX11_cell 135 = .ok (.iaload, 1) := by decide +kernel
theorem dX11_cell_136 : decode cX11_cell 136 = .ok (.istore 8, 2) := by decide +kernel
theorem dX11_cell_138 : decode cX11_cell 138 = .ok (.aload_n 0, 1) := by decide +kernel
theorem dX11_cell_139 : decode cX11_cell 139 = .ok (.getfield 96, 3) := by decide +kernel
theorem dX11_cell_142 : decode cX11_cell 142 = .ok (.iload 7, 2) := by decide +kernel
theorem dX11_cell_144 : decode cX11_cell 144 = .ok (.iload 4, 2) := by decide +kernel
theorem dX11_cell_146 : decode cX11_cell 146 = .ok (.iastore, 1) := by decide +kernel
theorem dX11_cell_147 : decode cX11_cell 147 = .ok (.iload 8, 2) := by decide +kernel
theorem dX11_cell_149 : decode cX11_cell 149 = .ok (.ireturn, 1) := by decide +kernel
def bX11_cell_112 (N d : Nat)   (w : Wd)  : Option (Wd × Int32) :=
  some (w, -2)
set_option maxHeartbeats 4000000 in
theorem kX11_cell_112 {V : Ev} {p : Program} {l : Launch} {e : Env} {N d : Nat} {s : State} {m : MethodId} {args : Array Value} {below : List Frame} {meth : Method} {c : Code} {z : Wd × Int32} (X : CX V p s m args meth c cX11_cell 9 RX11 (some .int))    {w : Wd}  {H : Heap} {locs : List Loc} {ls : Array Slot} (h : bX11_cell_112 N d   w  = some z) (hH : wH V (cM V) (AM V) s w H locs) (hl : lv_has ls 9 []) : W p l e (rmD (d + 1)) s m args below meth c H locs 0 0 (MQ below (CtI V (cM V) (AM V) z) args s 0 0 (AM V)) (F0 m 112 ls []) := by
  unfold bX11_cell_112 at h
  obtain ⟨hx, hb, hml, hown, hg, hrt, hlk, hK⟩ := id X
  refine lv_bipush (pc := 112) (v := -2) hx hb dX11_cell_112 (by decide) ?_
  exact r_iret (pc := 114) X hH h dX11_cell_114
def bX11_cell_65 (N d : Nat)   (w : Wd) (x1 : Int32) (x4 : Int32) (x5 : Int32) (y0 : Int32) : Option (Wd × Int32) :=
  c_cl (eX11_in N d w (Int32.toInt64 x5) 0 (Int32.toInt64 (sI w 15))) fun w6 v7 =>
  if v7 = 0 then (
    bX11_cell_112 N d   w6 
  ) else (
    c_cl (eX11_in N d w6 (Int32.toInt64 y0) 0 (Int32.toInt64 (sI w6 15))) fun w8 v9 =>
    if v9 = 0 then (
      bX11_cell_112 N d   w8 
    ) else (
      c_cl (eX11_in N d w8 (Int32.toInt64 x4) 0 (Int32.toInt64 (sI w8 15))) fun w10 v11 =>
      if v11 = 0 then (
        bX11_cell_112 N d   w10 
      ) else (
        c_nm (((16 * x1) + (4 * x5)) + y0) fun x7_12 =>
        c_ld w10 29 160 x7_12 fun v13 =>
        c_st w10 29 160 x7_12 x4 fun w14 =>
        some (w14, v13)
      )
    )
  )
set_option maxHeartbeats 4000000 in
theorem kX11_cell_65 {V : Ev} {p : Program} {l : Launch} {e : Env} {N d : Nat} {s : State} {m : MethodId} {args : Array Value} {below : List Frame} {meth : Method} {c : Code} {z : Wd × Int32} (X : CX V p s m args meth c cX11_cell 9 RX11 (some .int))    {w : Wd} {x1 : Int32} {x4 : Int32} {x5 : Int32} {y0 : Int32} {H : Heap} {locs : List Loc} {ls : Array Slot} (h : bX11_cell_65 N d   w x1 x4 x5 y0 = some z) (hH : wH V (cM V) (AM V) s w H locs) (hl : lv_has ls 9 [(0, .ref (V.2.2 0)), (1, .int x1), (4, .int x4), (5, .int x5)]) : W p l e (rmD (d + 1)) s m args below meth c H locs 0 0 (MQ below (CtI V (cM V) (AM V) z) args s 0 0 (AM V)) (F0 m 65 ls [.int y0]) := by
  unfold bX11_cell_65 at h
  obtain ⟨hx, hb, hml, hown, hg, hrt, hlk, hK⟩ := id X
  refine lv_istore (pc := 65) (lv' := [(6, .int y0), (0, .ref (V.2.2 0)), (1, .int x1), (4, .int x4), (5, .int x5)]) hx hb dX11_cell_65 hl (by decide) rfl (fun ls hl => ?_)
  refine lv_iload (pc := 67) hx hb dX11_cell_67 (lv_at hl 4 rfl) ?_
  refine lv_i2l (pc := 69) hx hb dX11_cell_69 rfl ?_
  refine lv_lconst (pc := 70) (v := 0) hx hb dX11_cell_70 (by decide) ?_
  refine lv_aload_n (pc := 71) hx hb dX11_cell_71 rfl (lv_at hl 1 rfl) ?_
  refine gM_X11_291_0 (pc := 72) X hH dX11_cell_72 ?_
  refine lv_i2l (pc := 75) hx hb dX11_cell_75 rfl ?_
  refine r_csI (pc := 76) (As := [.long (Int32.toInt64 x5), .long 0, .long (Int32.toInt64 (sI w 15))]) (rest := []) X hH (fun x hx => mX11_in hx) cs_X11_132 rfl rfl (Nat.le_of_ble_eq_true rfl) hl.1 h dX11_cell_76 (fun w6 v7 H locs h hH => ?_)
  refine b_if_eq (pc := 79) (tgt := 112) hx hb h dX11_cell_79 (by decide) (fun h => ?_) (fun h => ?_)
  · exact kX11_cell_112 X   h hH (lv_sub hl [] rfl)
  · refine lv_iload (pc := 82) hx hb dX11_cell_82 (lv_at hl 0 rfl) ?_
    refine lv_i2l (pc := 84) hx hb dX11_cell_84 rfl ?_
    refine lv_lconst (pc := 85) (v := 0) hx hb dX11_cell_85 (by decide) ?_
    refine lv_aload_n (pc := 86) hx hb dX11_cell_86 rfl (lv_at hl 1 rfl) ?_
    refine gM_X11_291_0 (pc := 87) X hH dX11_cell_87 ?_
    refine lv_i2l (pc := 90) hx hb dX11_cell_90 rfl ?_
    refine r_csI (pc := 91) (As := [.long (Int32.toInt64 y0), .long 0, .long (Int32.toInt64 (sI w6 15))]) (rest := []) X hH (fun x hx => mX11_in hx) cs_X11_132 rfl rfl (Nat.le_of_ble_eq_true rfl) hl.1 h dX11_cell_91 (fun w8 v9 H locs h hH => ?_)
    refine b_if_eq (pc := 94) (tgt := 112) hx hb h dX11_cell_94 (by decide) (fun h => ?_) (fun h => ?_)
    · exact kX11_cell_112 X   h hH (lv_sub hl [] rfl)
    · refine lv_iload (pc := 97) hx hb dX11_cell_97 (lv_at hl 3 rfl) ?_
      refine lv_i2l (pc := 99) hx hb dX11_cell_99 rfl ?_
      refine lv_lconst (pc := 100) (v := 0) hx hb dX11_cell_100 (by decide) ?_
      refine lv_aload_n (pc := 101) hx hb dX11_cell_101 rfl (lv_at hl 1 rfl) ?_
      refine gM_X11_291_0 (pc := 102) X hH dX11_cell_102 ?_
      refine lv_i2l (pc := 105) hx hb dX11_cell_105 rfl ?_
      refine r_csI (pc := 106) (As := [.long (Int32.toInt64 x4), .long 0, .long (Int32.toInt64 (sI w8 15))]) (rest := []) X hH (fun x hx => mX11_in hx) cs_X11_132 rfl rfl (Nat.le_of_ble_eq_true rfl) hl.1 h dX11_cell_106 (fun w10 v11 H locs h hH => ?_)
      refine b_if_ne (pc := 109) (tgt := 115) hx hb h dX11_cell_109 (by decide) (fun h => ?_) (fun h => ?_)
      · refine lv_bipush (pc := 115) (v := 16) hx hb dX11_cell_115 (by decide) ?_
        refine lv_iload_n (pc := 117) hx hb dX11_cell_117 rfl (lv_at hl 2 rfl) ?_
        refine lv_imul (pc := 118) hx hb dX11_cell_118 ?_
        refine lv_iconst (pc := 119) (v := 4) hx hb dX11_cell_119 (by decide) ?_
        refine lv_iload (pc := 120) hx hb dX11_cell_120 (lv_at hl 4 rfl) ?_
        refine lv_imul (pc := 122) hx hb dX11_cell_122 ?_
        refine lv_iadd (pc := 123) hx hb dX11_cell_123 ?_
        refine lv_iload (pc := 124) hx hb dX11_cell_124 (lv_at hl 0 rfl) ?_
        refine lv_iadd (pc := 126) hx hb dX11_cell_126 ?_
        refine r_nmi h (fun x7_12 h => ?_)
        refine lv_istore (pc := 127) (lv' := [(7, .int x7_12), (6, .int y0), (0, .ref (V.2.2 0)), (1, .int x1), (4, .int x4), (5, .int x5)]) hx hb dX11_cell_127 hl (by decide) rfl (fun ls hl => ?_)
        refine lv_aload_n (pc := 129) hx hb dX11_cell_129 rfl (lv_at hl 2 rfl) ?_
        refine gM_X11_96_0 (pc := 130) X hH dX11_cell_130 ?_
        refine lv_iload (pc := 133) hx hb dX11_cell_133 (lv_at hl 0 rfl) ?_
        refine r_ld (pc := 135) X (heM_29 V w10) hH h dX11_cell_135 (fun v13 h => ?_)
        refine lv_istore (pc := 136) (lv' := [(8, .int v13), (7, .int x7_12), (6, .int y0), (0, .ref (V.2.2 0)), (1, .int x1), (4, .int x4), (5, .int x5)]) hx hb dX11_cell_136 hl (by decide) rfl (fun ls hl => ?_)
        refine lv_aload_n (pc := 138) hx hb dX11_cell_138 rfl (lv_at hl 3 rfl) ?_
        refine gM_X11_96_0 (pc := 139) X hH dX11_cell_139 ?_
        refine lv_iload (pc := 142) hx hb dX11_cell_142 (lv_at hl 1 rfl) ?_
        refine lv_iload (pc := 144) hx hb dX11_cell_144 (lv_at hl 5 rfl) ?_
        refine r_st (pc := 146) X (heM_29 V w10) (hsM_29 V w10) hH h dX11_cell_146 (fun w14 H locs h hH => ?_)
        refine lv_iload (pc := 147) hx hb dX11_cell_147 (lv_at hl 0 rfl) ?_
        exact r_iret (pc := 149) X hH h dX11_cell_149
      · exact kX11_cell_112 X   h hH (lv_sub hl [] rfl)
def bX11_cell_48 (N d : Nat)   (w : Wd) (x1 : Int32) (x3 : Int32) (x4 : Int32) (y0 : Int32) : Option (Wd × Int32) :=
  c_ld w 1 10 x1 fun v5 =>
  if v5 ≤ 1 then (
    bX11_cell_65 N d   w x1 x4 y0 0
  ) else (
    bX11_cell_65 N d   w x1 x4 y0 x3
  )
set_option maxHeartbeats 4000000 in
theorem kX11_cell_48 {V : Ev} {p : Program} {l : Launch} {e : Env} {N d : Nat} {s : State} {m : MethodId} {args : Array Value} {below : List Frame} {meth : Method} {c : Code} {z : Wd × Int32} (X : CX V p s m args meth c cX11_cell 9 RX11 (some .int))    {w : Wd} {x1 : Int32} {x3 : Int32} {x4 : Int32} {y0 : Int32} {H : Heap} {locs : List Loc} {ls : Array Slot} (h : bX11_cell_48 N d   w x1 x3 x4 y0 = some z) (hH : wH V (cM V) (AM V) s w H locs) (hl : lv_has ls 9 [(0, .ref (V.2.2 0)), (1, .int x1), (3, .int x3), (4, .int x4)]) : W p l e (rmD (d + 1)) s m args below meth c H locs 0 0 (MQ below (CtI V (cM V) (AM V) z) args s 0 0 (AM V)) (F0 m 48 ls [.int y0]) := by
  unfold bX11_cell_48 at h
  obtain ⟨hx, hb, hml, hown, hg, hrt, hlk, hK⟩ := id X
  refine lv_istore (pc := 48) (lv' := [(5, .int y0), (0, .ref (V.2.2 0)), (1, .int x1), (3, .int x3), (4, .int x4)]) hx hb dX11_cell_48 hl (by decide) rfl (fun ls hl => ?_)
  refine lv_aload_n (pc := 50) hx hb dX11_cell_50 rfl (lv_at hl 1 rfl) ?_
  refine gM_X11_7_0 (pc := 51) X hH dX11_cell_51 ?_
  refine lv_iload_n (pc := 54) hx hb dX11_cell_54 rfl (lv_at hl 2 rfl) ?_
  refine r_ld (pc := 55) X (heM_1 V w) hH h dX11_cell_55 (fun v5 h => ?_)
  refine lv_iconst (pc := 56) (v := 1) hx hb dX11_cell_56 (by decide) ?_
  refine b_icmp_le (pc := 57) (tgt := 64) hx hb h dX11_cell_57 (by decide) (fun h => ?_) (fun h => ?_)
  · refine lv_iconst (pc := 64) (v := 0) hx hb dX11_cell_64 (by decide) ?_
    exact kX11_cell_65 X   h hH (lv_sub hl [1, 2, 4, 0] rfl)
  · refine lv_iload_n (pc := 60) hx hb dX11_cell_60 rfl (lv_at hl 3 rfl) ?_
    refine lv_goto (pc := 61) (tgt := 65) hx hb dX11_cell_61 (by decide) ?_
    exact kX11_cell_65 X   h hH (lv_sub hl [1, 2, 4, 0] rfl)
def bX11_cell_0 (N d : Nat)   (w : Wd) (x1 : Int32) (x2 : Int32) (x3 : Int32) (x4 : Int32) : Option (Wd × Int32) :=
  c_pi w 0 0 fun w1 =>
  if (sI w1 15) = 0 then (
    some (w1, -3)
  ) else (
    c_cl (eX11_in N d w1 (Int32.toInt64 x1) 0 (Int32.toInt64 ((sI w1 1) - 1))) fun w2 v3 =>
    if v3 = 0 then (
      some (w2, -2)
    ) else (
      c_ld w2 1 10 x1 fun v4 =>
      if v4 ≤ 0 then (
        bX11_cell_48 N d   w2 x1 x3 x4 0
      ) else (
        bX11_cell_48 N d   w2 x1 x3 x4 x2
      )
    )
  )
set_option maxHeartbeats 4000000 in
theorem kX11_cell_0 {V : Ev} {p : Program} {l : Launch} {e : Env} {N d : Nat} {s : State} {m : MethodId} {args : Array Value} {below : List Frame} {meth : Method} {c : Code} {z : Wd × Int32} (X : CX V p s m args meth c cX11_cell 9 RX11 (some .int))    {w : Wd} {x1 : Int32} {x2 : Int32} {x3 : Int32} {x4 : Int32} {H : Heap} {locs : List Loc} {ls : Array Slot} (h : bX11_cell_0 N d   w x1 x2 x3 x4 = some z) (hH : wH V (cM V) (AM V) s w H locs) (hl : lv_has ls 9 [(0, .ref (V.2.2 0)), (1, .int x1), (2, .int x2), (3, .int x3), (4, .int x4)]) : W p l e (rmD (d + 1)) s m args below meth c H locs 0 0 (MQ below (CtI V (cM V) (AM V) z) args s 0 0 (AM V)) (F0 m 0 ls []) := by
  unfold bX11_cell_0 at h
  obtain ⟨hx, hb, hml, hown, hg, hrt, hlk, hK⟩ := id X
  refine lv_aload_n (pc := 0) hx hb dX11_cell_0 rfl (lv_at hl 0 rfl) ?_
  refine lv_iconst (pc := 1) (v := 0) hx hb dX11_cell_1 (by decide) ?_
  refine pM_X11_111_0 (pc := 2) X hH h dX11_cell_2 (fun w1 H locs h hH => ?_)
  refine lv_aload_n (pc := 5) hx hb dX11_cell_5 rfl (lv_at hl 0 rfl) ?_
  refine gM_X11_291_0 (pc := 6) X hH dX11_cell_6 ?_
  refine b_if_ne (pc := 9) (tgt := 15) hx hb h dX11_cell_9 (by decide) (fun h => ?_) (fun h => ?_)
  · refine lv_iload_n (pc := 15) hx hb dX11_cell_15 rfl (lv_at hl 1 rfl) ?_
    refine lv_i2l (pc := 16) hx hb dX11_cell_16 rfl ?_
    refine lv_lconst (pc := 17) (v := 0) hx hb dX11_cell_17 (by decide) ?_
    refine lv_aload_n (pc := 18) hx hb dX11_cell_18 rfl (lv_at hl 0 rfl) ?_
    refine gM_X11_226_0 (pc := 19) X hH dX11_cell_19 ?_
    refine lv_iconst (pc := 22) (v := 1) hx hb dX11_cell_22 (by decide) ?_
    refine lv_isub (pc := 23) hx hb dX11_cell_23 ?_
    refine lv_i2l (pc := 24) hx hb dX11_cell_24 rfl ?_
    refine r_csI (pc := 25) (As := [.long (Int32.toInt64 x1), .long 0, .long (Int32.toInt64 ((sI w1 1) - 1))]) (rest := []) X hH (fun x hx => mX11_in hx) cs_X11_132 rfl rfl (Nat.le_of_ble_eq_true rfl) hl.1 h dX11_cell_25 (fun w2 v3 H locs h hH => ?_)
    refine b_if_ne (pc := 28) (tgt := 34) hx hb h dX11_cell_28 (by decide) (fun h => ?_) (fun h => ?_)
    · refine lv_aload_n (pc := 34) hx hb dX11_cell_34 rfl (lv_at hl 0 rfl) ?_
      refine gM_X11_7_0 (pc := 35) X hH dX11_cell_35 ?_
      refine lv_iload_n (pc := 38) hx hb dX11_cell_38 rfl (lv_at hl 1 rfl) ?_
      refine r_ld (pc := 39) X (heM_1 V w2) hH h dX11_cell_39 (fun v4 h => ?_)
      refine b_if_le (pc := 40) (tgt := 47) hx hb h dX11_cell_40 (by decide) (fun h => ?_) (fun h => ?_)
      · refine lv_iconst (pc := 47) (v := 0) hx hb dX11_cell_47 (by decide) ?_
        exact kX11_cell_48 X   h hH (lv_sub hl [0, 1, 3, 4] rfl)
      · refine lv_iload_n (pc := 43) hx hb dX11_cell_43 rfl (lv_at hl 2 rfl) ?_
        refine lv_goto (pc := 44) (tgt := 48) hx hb dX11_cell_44 (by decide) ?_
        exact kX11_cell_48 X   h hH (lv_sub hl [0, 1, 3, 4] rfl)
    · refine lv_bipush (pc := 31) (v := -2) hx hb dX11_cell_31 (by decide) ?_
      exact r_iret (pc := 33) X hH h dX11_cell_33
  · refine lv_bipush (pc := 12) (v := -3) hx hb dX11_cell_12 (by decide) ?_
    exact r_iret (pc := 14) X hH h dX11_cell_14
def eX11_cell (N : Nat) : Nat → Wd → Int32 → Int32 → Int32 → Int32 → Option (Wd × Int32)
  | 0 => fun _ _ _ _ _ => none
  | d + 1 => fun w x1 x2 x3 x4 => bX11_cell_0 N d  w x1 x2 x3 x4
set_option maxHeartbeats 4000000 in
set_option maxRecDepth 20000 in
theorem mX11_cell {l : Launch} {V : Ev} {N d : Nat} {w : Wd} {x1 : Int32} {x2 : Int32} {x3 : Int32} {x4 : Int32} {z : Wd × Int32} (h : eX11_cell N d w x1 x2 x3 x4 = some z) : MetI l V (cM V) (AM V) yX11_cell cX11_cell 9 (some .int) d [.ref (V.2.2 0), .int x1, .int x2, .int x3, .int x4] w z := by
  cases d with
  | zero => exact c_none h
  | succ d =>
    refine Met.ofW (cc := cX11_cell) (maxL := 9) (ret := (some .int)) (by decide) rfl ?_
    intro p e s m args below meth c s₁ B hml hv
    obtain ⟨rfl, hP, hD, hK⟩ := hv
    have hts := atoms_spec (ws := .code yX11_cell cX11_cell 9 (some .int) :: gG) B.pre
    have X : CX V p s m ([.ref (V.2.2 0), .int x1, .int x2, .int x3, .int x4] : List Value).toArray meth c cX11_cell 9 RX11 (some .int) := ⟨B.exec, B.bytes, hml, findClass_of_methodNamed B.named, fun w hw => hts w (List.mem_cons_of_mem _ hw), B.returns, B.notSynchronized, hK⟩
    have hl := lv_entry ([.ref (V.2.2 0), .int x1, .int x2, .int x3, .int x4] : List Value) (n := 9) (Nat.le_of_ble_eq_true rfl)
    rw [lg_entry_eq]
    generalize (lg_sl ([.ref (V.2.2 0), .int x1, .int x2, .int x3, .int x4] : List Value) ++ List.replicate (9 - (lg_sl ([.ref (V.2.2 0), .int x1, .int x2, .int x3, .int x4] : List Value)).length) Slot.unset).toArray = ls at hl ⊢
    have hl : lv_has ls 9 [(0, .ref (V.2.2 0)), (1, .int x1), (2, .int x2), (3, .int x3), (4, .int x4)] := hl
    exact kX11_cell_0 (N := N) X  h ⟨hP, hD, va_S.rf⟩ hl
theorem dX11_has_0 : decode cX11_has 0 = .ok (.aload_n 0, 1) := by decide +kernel
theorem dX11_has_1 : decode cX11_has 1 = .ok (.iconst 0, 1) := by decide +kernel
theorem dX11_has_2 : decode cX11_has 2 = .ok (.putfield 111, 3) := by decide +kernel
theorem dX11_has_5 : decode cX11_has 5 = .ok (.aload_n 0, 1) := by decide +kernel
theorem dX11_has_6 : decode cX11_has 6 = .ok (.getfield 291, 3) := by decide +kernel
theorem dX11_has_9 : decode cX11_has 9 = .ok (.ifCond .ne 6, 3) := by decide +kernel
theorem dX11_has_12 : decode cX11_has 12 = .ok (.bipush (-3), 2) := by decide +kernel
theorem dX11_has_14 : decode cX11_has 14 = .ok (.ireturn, 1) := by decide +kernel
theorem dX11_has_15 : decode cX11_has 15 = .ok (.iload_n 1, 1) := by decide +kernel
theorem dX11_has_16 : decode cX11_has 16 = .ok (.i2l, 1) := by decide +kernel
theorem dX11_has_17 : decode cX11_has 17 = .ok (.lconst 0, 1) := by decide +kernel
theorem dX11_has_18 : decode cX11_has 18 = .ok (.ldc2_w 229, 3) := by decide +kernel
theorem dX11_has_21 : decode cX11_has 21 = .ok (.invokestatic 132, 3) := by decide +kernel
theorem dX11_has_24 : decode cX11_has 24 = .ok (.ifCond .eq 17, 3) := by decide +kernel
theorem dX11_has_27 : decode cX11_has 27 = .ok (.iload_n 2, 1) := by decide +kernel
theorem dX11_has_28 : decode cX11_has 28 = .ok (.i2l, 1) := by decide +kernel
theorem dX11_has_29 : decode cX11_has 29 = .ok (.lconst 0, 1) := by decide +kernel
theorem dX11_has_30 : decode cX11_has 30 = .ok (.aload_n 0, 1) := by decide +kernel
theorem dX11_has_31 : decode cX11_has 31 = .ok (.getfield 291, 3) := by decide +kernel
theorem dX11_has_34 : decode cX11_has 34 = .ok (.i2l, 1) := by decide +kernel
theorem dX11_has_35 : decode cX11_has 35 = .ok (.invokestatic 132, 3) := by decide +kernel
theorem dX11_has_38 : decode cX11_has 38 = .ok (.ifCond .ne 6, 3) := by decide +kernel
theorem dX11_has_41 : decode cX11_has 41 = .ok (.bipush (-2), 2) := by decide +kernel
theorem dX11_has_43 : decode cX11_has 43 = .ok (.ireturn, 1) := by decide +kernel
theorem dX11_has_44 : decode cX11_has 44 = .ok (.aload_n 0, 1) := by decide +kernel
theorem dX11_has_45 : decode cX11_has 45 = .ok (.getfield 99, 3) := by decide +kernel
theorem dX11_has_48 : decode cX11_has 48 = .ok (.iload_n 1, 1) := by decide +kernel
theorem dX11_has_49 : decode cX11_has 49 = .ok (.iaload, 1) := by decide +kernel
theorem dX11_has_50 : decode cX11_has 50 = .ok (.istore_n 3, 1) := by decide +kernel
theorem dX11_has_51 : decode cX11_has 51 = .ok (.aload_n 0, 1) := by decide +kernel
theorem dX11_has_52 : decode cX11_has 52 = .ok (.getfield 99, 3) := by decide +kernel
theorem dX11_has_55 : decode cX11_has 55 = .ok (.iload_n 1, 1) := by decide +kernel
theorem dX11_has_56 : decode cX11_has 56 = .ok (.iload_n 2, 1) := by decide +kernel
theorem dX11_has_57 : decode cX11_has 57 = .ok (.iastore, 1) := by decide +kernel
theorem dX11_has_58 : decode cX11_has 58 = .ok (.iload_n 3, 1) := by decide +kernel
theorem dX11_has_59 : decode cX11_has 59 = .ok (.ireturn, 1) := by decide +kernel
def bX11_has_41 (N d : Nat)   (w : Wd)  : Option (Wd × Int32) :=
  some (w, -2)
set_option maxHeartbeats 4000000 in
theorem kX11_has_41 {V : Ev} {p : Program} {l : Launch} {e : Env} {N d : Nat} {s : State} {m : MethodId} {args : Array Value} {below : List Frame} {meth : Method} {c : Code} {z : Wd × Int32} (X : CX V p s m args meth c cX11_has 4 RX11 (some .int))    {w : Wd}  {H : Heap} {locs : List Loc} {ls : Array Slot} (h : bX11_has_41 N d   w  = some z) (hH : wH V (cM V) (AM V) s w H locs) (hl : lv_has ls 4 []) : W p l e (rmD (d + 1)) s m args below meth c H locs 0 0 (MQ below (CtI V (cM V) (AM V) z) args s 0 0 (AM V)) (F0 m 41 ls []) := by
  unfold bX11_has_41 at h
  obtain ⟨hx, hb, hml, hown, hg, hrt, hlk, hK⟩ := id X
  refine lv_bipush (pc := 41) (v := -2) hx hb dX11_has_41 (by decide) ?_
  exact r_iret (pc := 43) X hH h dX11_has_43
def bX11_has_0 (N d : Nat)   (w : Wd) (x1 : Int32) (x2 : Int32) : Option (Wd × Int32) :=
  c_pi w 0 0 fun w1 =>
  if (sI w1 15) = 0 then (
    some (w1, -3)
  ) else (
    c_cl (eX11_in N d w1 (Int32.toInt64 x1) 0 7) fun w2 v3 =>
    if v3 = 0 then (
      bX11_has_41 N d   w2 
    ) else (
      c_cl (eX11_in N d w2 (Int32.toInt64 x2) 0 (Int32.toInt64 (sI w2 15))) fun w4 v5 =>
      if v5 = 0 then (
        bX11_has_41 N d   w4 
      ) else (
        c_ld w4 30 8 x1 fun v6 =>
        c_st w4 30 8 x1 x2 fun w7 =>
        some (w7, v6)
      )
    )
  )
set_option maxHeartbeats 4000000 in
theorem kX11_has_0 {V : Ev} {p : Program} {l : Launch} {e : Env} {N d : Nat} {s : State} {m : MethodId} {args : Array Value} {below : List Frame} {meth : Method} {c : Code} {z : Wd × Int32} (X : CX V p s m args meth c cX11_has 4 RX11 (some .int))    {w : Wd} {x1 : Int32} {x2 : Int32} {H : Heap} {locs : List Loc} {ls : Array Slot} (h : bX11_has_0 N d   w x1 x2 = some z) (hH : wH V (cM V) (AM V) s w H locs) (hl : lv_has ls 4 [(0, .ref (V.2.2 0)), (1, .int x1), (2, .int x2)]) : W p l e (rmD (d + 1)) s m args below meth c H locs 0 0 (MQ below (CtI V (cM V) (AM V) z) args s 0 0 (AM V)) (F0 m 0 ls []) := by
  unfold bX11_has_0 at h
  obtain ⟨hx, hb, hml, hown, hg, hrt, hlk, hK⟩ := id X
  refine lv_aload_n (pc := 0) hx hb dX11_has_0 rfl (lv_at hl 0 rfl) ?_
  refine lv_iconst (pc := 1) (v := 0) hx hb dX11_has_1 (by decide) ?_
  refine pM_X11_111_0 (pc := 2) X hH h dX11_has_2 (fun w1 H locs h hH => ?_)
  refine lv_aload_n (pc := 5) hx hb dX11_has_5 rfl (lv_at hl 0 rfl) ?_
  refine gM_X11_291_0 (pc := 6) X hH dX11_has_6 ?_
  refine b_if_ne (pc := 9) (tgt := 15) hx hb h dX11_has_9 (by decide) (fun h => ?_) (fun h => ?_)
  · refine lv_iload_n (pc := 15) hx hb dX11_has_15 rfl (lv_at hl 1 rfl) ?_
    refine lv_i2l (pc := 16) hx hb dX11_has_16 rfl ?_
    refine lv_lconst (pc := 17) (v := 0) hx hb dX11_has_17 (by decide) ?_
    refine lv_ldc2 (pc := 18) hx hb hown (hg _ wL_1152) dX11_has_18 ?_
    refine r_csI (pc := 21) (As := [.long (Int32.toInt64 x1), .long 0, .long 7]) (rest := []) X hH (fun x hx => mX11_in hx) cs_X11_132 rfl rfl (Nat.le_of_ble_eq_true rfl) hl.1 h dX11_has_21 (fun w2 v3 H locs h hH => ?_)
    refine b_if_eq (pc := 24) (tgt := 41) hx hb h dX11_has_24 (by decide) (fun h => ?_) (fun h => ?_)
    · exact kX11_has_41 X   h hH (lv_sub hl [] rfl)
    · refine lv_iload_n (pc := 27) hx hb dX11_has_27 rfl (lv_at hl 2 rfl) ?_
      refine lv_i2l (pc := 28) hx hb dX11_has_28 rfl ?_
      refine lv_lconst (pc := 29) (v := 0) hx hb dX11_has_29 (by decide) ?_
      refine lv_aload_n (pc := 30) hx hb dX11_has_30 rfl (lv_at hl 0 rfl) ?_
      refine gM_X11_291_0 (pc := 31) X hH dX11_has_31 ?_
      refine lv_i2l (pc := 34) hx hb dX11_has_34 rfl ?_
      refine r_csI (pc := 35) (As := [.long (Int32.toInt64 x2), .long 0, .long (Int32.toInt64 (sI w2 15))]) (rest := []) X hH (fun x hx => mX11_in hx) cs_X11_132 rfl rfl (Nat.le_of_ble_eq_true rfl) hl.1 h dX11_has_35 (fun w4 v5 H locs h hH => ?_)
      refine b_if_ne (pc := 38) (tgt := 44) hx hb h dX11_has_38 (by decide) (fun h => ?_) (fun h => ?_)
      · refine lv_aload_n (pc := 44) hx hb dX11_has_44 rfl (lv_at hl 0 rfl) ?_
        refine gM_X11_99_0 (pc := 45) X hH dX11_has_45 ?_
        refine lv_iload_n (pc := 48) hx hb dX11_has_48 rfl (lv_at hl 1 rfl) ?_
        refine r_ld (pc := 49) X (heM_30 V w4) hH h dX11_has_49 (fun v6 h => ?_)
        refine lv_istore_n (pc := 50) (lv' := [(3, .int v6), (0, .ref (V.2.2 0)), (1, .int x1), (2, .int x2)]) hx hb dX11_has_50 rfl hl (by decide) rfl (fun ls hl => ?_)
        refine lv_aload_n (pc := 51) hx hb dX11_has_51 rfl (lv_at hl 1 rfl) ?_
        refine gM_X11_99_0 (pc := 52) X hH dX11_has_52 ?_
        refine lv_iload_n (pc := 55) hx hb dX11_has_55 rfl (lv_at hl 2 rfl) ?_
        refine lv_iload_n (pc := 56) hx hb dX11_has_56 rfl (lv_at hl 3 rfl) ?_
        refine r_st (pc := 57) X (heM_30 V w4) (hsM_30 V w4) hH h dX11_has_57 (fun w7 H locs h hH => ?_)
        refine lv_iload_n (pc := 58) hx hb dX11_has_58 rfl (lv_at hl 0 rfl) ?_
        exact r_iret (pc := 59) X hH h dX11_has_59
      · exact kX11_has_41 X   h hH (lv_sub hl [] rfl)
  · refine lv_bipush (pc := 12) (v := -3) hx hb dX11_has_12 (by decide) ?_
    exact r_iret (pc := 14) X hH h dX11_has_14
def eX11_has (N : Nat) : Nat → Wd → Int32 → Int32 → Option (Wd × Int32)
  | 0 => fun _ _ _ => none
  | d + 1 => fun w x1 x2 => bX11_has_0 N d  w x1 x2
set_option maxHeartbeats 4000000 in
set_option maxRecDepth 20000 in
theorem mX11_has {l : Launch} {V : Ev} {N d : Nat} {w : Wd} {x1 : Int32} {x2 : Int32} {z : Wd × Int32} (h : eX11_has N d w x1 x2 = some z) : MetI l V (cM V) (AM V) yX11_has cX11_has 4 (some .int) d [.ref (V.2.2 0), .int x1, .int x2] w z := by
  cases d with
  | zero => exact c_none h
  | succ d =>
    refine Met.ofW (cc := cX11_has) (maxL := 4) (ret := (some .int)) (by decide) rfl ?_
    intro p e s m args below meth c s₁ B hml hv
    obtain ⟨rfl, hP, hD, hK⟩ := hv
    have hts := atoms_spec (ws := .code yX11_has cX11_has 4 (some .int) :: gG) B.pre
    have X : CX V p s m ([.ref (V.2.2 0), .int x1, .int x2] : List Value).toArray meth c cX11_has 4 RX11 (some .int) := ⟨B.exec, B.bytes, hml, findClass_of_methodNamed B.named, fun w hw => hts w (List.mem_cons_of_mem _ hw), B.returns, B.notSynchronized, hK⟩
    have hl := lv_entry ([.ref (V.2.2 0), .int x1, .int x2] : List Value) (n := 4) (Nat.le_of_ble_eq_true rfl)
    rw [lg_entry_eq]
    generalize (lg_sl ([.ref (V.2.2 0), .int x1, .int x2] : List Value) ++ List.replicate (4 - (lg_sl ([.ref (V.2.2 0), .int x1, .int x2] : List Value)).length) Slot.unset).toArray = ls at hl ⊢
    have hl : lv_has ls 4 [(0, .ref (V.2.2 0)), (1, .int x1), (2, .int x2)] := hl
    exact kX11_has_0 (N := N) X  h ⟨hP, hD, va_S.rf⟩ hl
theorem dX11_worthOf_0 : decode cX11_worthOf 0 = .ok (.aload_n 0, 1) := by decide +kernel
theorem dX11_worthOf_1 : decode cX11_worthOf 1 = .ok (.getfield 102, 3) := by decide +kernel
theorem dX11_worthOf_4 : decode cX11_worthOf 4 = .ok (.iload_n 1, 1) := by decide +kernel
theorem dX11_worthOf_5 : decode cX11_worthOf 5 = .ok (.iaload, 1) := by decide +kernel
theorem dX11_worthOf_6 : decode cX11_worthOf 6 = .ok (.iconst (-1), 1) := by decide +kernel
theorem dX11_worthOf_7 : decode cX11_worthOf 7 = .ok (.if_icmp .ne 97, 3) := by decide +kernel
theorem dX11_worthOf_10 : decode cX11_worthOf 10 = .ok (.aload_n 0, 1) := by decide +kernel
theorem dX11_worthOf_11 : decode cX11_worthOf 11 = .ok (.iload_n 1, 1) := by decide +kernel
theorem dX11_worthOf_12 : decode cX11_worthOf 12 = .ok (.invokevirtual 140, 3) := by decide +kernel
theorem dX11_worthOf_15 : decode cX11_worthOf 15 = .ok (.ifCond .le 16, 3) := by decide +kernel
theorem dX11_worthOf_18 : decode cX11_worthOf 18 = .ok (.aload_n 0, 1) := by decide +kernel
theorem dX11_worthOf_19 : decode cX11_worthOf 19 = .ok (.aload_n 0, 1) := by decide +kernel
theorem dX11_worthOf_20 : decode cX11_worthOf 20 = .ok (.getfield 19, 3) := by decide +kernel
theorem dX11_worthOf_23 : decode cX11_worthOf 23 = .ok (.iload_n 1, 1) := by decide +kernel
theorem dX11_worthOf_24 : decode cX11_worthOf 24 = .ok (.iaload, 1) := by decide +kernel
theorem dX11_worthOf_25 : decode cX11_worthOf 25 = .ok (.invokevirtual 294, 3) := by decide +kernel
theorem dX11_worthOf_28 : decode cX11_worthOf 28 = .ok (.goto 4, 3) := by decide +kernel
theorem dX11_worthOf_31 : decode cX11_worthOf 31 = .ok (.iconst 0, 1) := by decide +kernel
theorem dX11_worthOf_32 : decode cX11_worthOf 32 = .ok (.istore_n 2, 1) := by decide +kernel
theorem dX11_worthOf_33 : decode cX11_worthOf 33 = .ok (.aload_n 0, 1) := by decide +kernel
theorem dX11_worthOf_34 : decode cX11_worthOf 34 = .ok (.iload_n 1, 1) := by decide +kernel
theorem dX11_worthOf_35 : decode cX11_worthOf 35 = .ok (.invokevirtual 140, 3) := by decide +kernel
theorem dX11_worthOf_38 : decode cX11_worthOf 38 = .ok (.iconst 1, 1) := by decide +kernel
theorem dX11_worthOf_39 : decode cX11_worthOf 39 = .ok (.if_icmp .le 16, 3) := by decide +kernel
theorem dX11_worthOf_42 : decode cX11_worthOf 42 = .ok (.aload_n 0, 1) := by decide +kernel
theorem dX11_worthOf_43 : decode cX11_worthOf 43 = .ok (.aload_n 0, 1) := by decide +kernel
theorem dX11_worthOf_44 : decode cX11_worthOf 44 = .ok (.getfield 22, 3) := by decide +kernel
theorem dX11_worthOf_47 : decode cX11_worthOf 47 = .ok (.iload_n 1, 1) := by decide +kernel
theorem dX11_worthOf_48 : decode cX11_worthOf 48 = .ok (.iaload, 1) := by decide +kernel
theorem dX11_worthOf_49 : decode cX11_worthOf 49 = .ok (.invokevirtual 294, 3) := by decide +kernel
theorem dX11_worthOf_52 : decode cX11_worthOf 52 = .ok (.goto 4, 3) := by decide +kernel
theorem dX11_worthOf_55 : decode cX11_worthOf 55 = .ok (.iconst 0, 1) := by decide +kernel
theorem dX11_worthOf_56 : decode cX11_worthOf 56 = .ok (.istore_n 3, 1) := by decide +kernel
theorem dX11_worthOf_57 : decode cX11_worthOf 57 = .ok (.aload_n 0, 1) := by decide +kernel
theorem dX11_worthOf_58 : decode cX11_worthOf 58 = .ok (.getfield 102, 3) := by decide +kernel
theorem dX11_worthOf_61 : decode cX11_worthOf 61 = .ok (.iload_n 1, 1) := by decide +kernel
theorem dX11_worthOf_62 : decode cX11_worthOf 62 = .ok (.aload_n 0, 1) := by decide +kernel
theorem dX11_worthOf_63 : decode cX11_worthOf 63 = .ok (.iload_n 1, 1) := by decide +kernel
theorem dX11_worthOf_64 : decode cX11_worthOf 64 = .ok (.invokevirtual 117, 3) := by decide +kernel
theorem dX11_worthOf_67 : decode cX11_worthOf 67 = .ok (.ifCond .eq 16, 3) := by decide +kernel
theorem dX11_worthOf_70 : decode cX11_worthOf 70 = .ok (.aload_n 0, 1) := by decide +kernel
theorem dX11_worthOf_71 : decode cX11_worthOf 71 = .ok (.getfield 105, 3) := by decide +kernel
theorem dX11_worthOf_74 : decode cX11_worthOf 74 = .ok (.aload_n 0, 1) := by decide +kernel
theorem dX11_worthOf_75 : decode cX11_worthOf 75 = .ok (.iload_n 1, 1) := by decide +kernel
theorem dX11_worthOf_76 : decode cX11_worthOf 76 = .ok (.invokevirtual 136, 3) := by decide +kernel
theorem dX11_worthOf_79 : decode cX11_worthOf 79 = .ok (.iaload, 1) := by decide +kernel
theorem dX11_worthOf_80 : decode cX11_worthOf 80 = .ok (.goto 23, 3) := by decide +kernel
theorem dX11_worthOf_83 : decode cX11_worthOf 83 = .ok (.aload_n 0, 1) := by decide +kernel
theorem dX11_worthOf_84 : decode cX11_worthOf 84 = .ok (.getfield 96, 3) := by decide +kernel
theorem dX11_worthOf_87 : decode cX11_worthOf 87 = .ok (.bipush 16, 2) := by decide +kernel
theorem dX11_worthOf_89 : decode cX11_worthOf 89 = .ok (.aload_n 0, 1) := by decide +kernel
theorem dX11_worthOf_90 : decode cX11_worthOf 90 = .ok (.getfield 16, 3) := by decide +kernel
theorem dX11_worthOf_93 : decode cX11_worthOf 93 = .ok (.iload_n 1, 1) := by decide +kernel
theorem dX11_worthOf_94 : decode cX11_worthOf 94 = .ok (.iaload, 1) := by decide +kernel
theorem dX11_worthOf_95 : decode cX11_worthOf 95 = .ok (.imul, 1) := by decide +kernel
theorem dX11_worthOf_96 : decode cX11_worthOf 96 = .ok (.iconst 4, 1) := by decide +kernel
theorem dX11_worthOf_97 : decode cX11_worthOf 97 = .ok (.iload_n 2, 1) := by decide +kernel
theorem dX11_worthOf_98 : decode cX11_worthOf 98 = .ok (.imul, 1) := by decide +kernel
theorem dX11_worthOf_99 : decode cX11_worthOf 99 = .ok (.iadd, 1) := by decide +kernel
theorem dX11_worthOf_100 : decode cX11_worthOf 100 = .ok (.iload_n 3, 1) := by decide +kernel
theorem dX11_worthOf_101 : decode cX11_worthOf 101 = .ok (.iadd, 1) := by decide +kernel
theorem dX11_worthOf_102 : decode cX11_worthOf 102 = .ok (.iaload, 1) := by decide +kernel
theorem dX11_worthOf_103 : decode cX11_worthOf 103 = .ok (.iastore, 1) := by decide +kernel
theorem dX11_worthOf_104 : decode cX11_worthOf 104 = .ok (.aload_n 0, 1) := by decide +kernel
theorem dX11_worthOf_105 : decode cX11_worthOf 105 = .ok (.getfield 102, 3) := by decide +kernel
theorem dX11_worthOf_108 : decode cX11_worthOf 108 = .ok (.iload_n 1, 1) := by decide +kernel
theorem dX11_worthOf_109 : decode cX11_worthOf 109 = .ok (.iaload, 1) := by decide +kernel
theorem dX11_worthOf_110 : decode cX11_worthOf 110 = .ok (.ireturn, 1) := by decide +kernel
def bX11_worthOf_104 (N d : Nat) (self_X11_worthOf : Wd → Int32 → Option (Wd × Int32))  (w : Wd) (x1 : Int32) : Option (Wd × Int32) :=
  c_ld w 31 1000 x1 fun v2 =>
  some (w, v2)
set_option maxHeartbeats 4000000 in
theorem kX11_worthOf_104 {V : Ev} {p : Program} {l : Launch} {e : Env} {N d : Nat} {s : State} {m : MethodId} {args : Array Value} {below : List Frame} {meth : Method} {c : Code} {z : Wd × Int32} (X : CX V p s m args meth c cX11_worthOf 4 RX11 (some .int)) {self_X11_worthOf : Wd → Int32 → Option (Wd × Int32)} (hs_X11_worthOf : ∀ (w : Wd) (a0 : Int32) (x : Wd × Int32), self_X11_worthOf w a0 = some x → MetI l V (cM V) (AM V) yX11_worthOf cX11_worthOf 4 (some .int) d [.ref (V.2.2 0), .int a0] w x)  {w : Wd} {x1 : Int32} {H : Heap} {locs : List Loc} {ls : Array Slot} (h : bX11_worthOf_104 N d self_X11_worthOf  w x1 = some z) (hH : wH V (cM V) (AM V) s w H locs) (hl : lv_has ls 4 [(0, .ref (V.2.2 0)), (1, .int x1)]) : W p l e (rmD (d + 1)) s m args below meth c H locs 0 0 (MQ below (CtI V (cM V) (AM V) z) args s 0 0 (AM V)) (F0 m 104 ls []) := by
  unfold bX11_worthOf_104 at h
  obtain ⟨hx, hb, hml, hown, hg, hrt, hlk, hK⟩ := id X
  refine lv_aload_n (pc := 104) hx hb dX11_worthOf_104 rfl (lv_at hl 0 rfl) ?_
  refine gM_X11_102_0 (pc := 105) X hH dX11_worthOf_105 ?_
  refine lv_iload_n (pc := 108) hx hb dX11_worthOf_108 rfl (lv_at hl 1 rfl) ?_
  refine r_ld (pc := 109) X (heM_31 V w) hH h dX11_worthOf_109 (fun v2 h => ?_)
  exact r_iret (pc := 110) X hH h dX11_worthOf_110
def bX11_worthOf_103 (N d : Nat) (self_X11_worthOf : Wd → Int32 → Option (Wd × Int32))  (w : Wd) (x1 : Int32) (y1 : Int32) (y2 : Int32) : Option (Wd × Int32) :=
  c_st w 31 1000 y1 y2 fun w11 =>
  bX11_worthOf_104 N d self_X11_worthOf  w11 x1
set_option maxHeartbeats 4000000 in
theorem kX11_worthOf_103 {V : Ev} {p : Program} {l : Launch} {e : Env} {N d : Nat} {s : State} {m : MethodId} {args : Array Value} {below : List Frame} {meth : Method} {c : Code} {z : Wd × Int32} (X : CX V p s m args meth c cX11_worthOf 4 RX11 (some .int)) {self_X11_worthOf : Wd → Int32 → Option (Wd × Int32)} (hs_X11_worthOf : ∀ (w : Wd) (a0 : Int32) (x : Wd × Int32), self_X11_worthOf w a0 = some x → MetI l V (cM V) (AM V) yX11_worthOf cX11_worthOf 4 (some .int) d [.ref (V.2.2 0), .int a0] w x)  {w : Wd} {x1 : Int32} {y1 : Int32} {y2 : Int32} {H : Heap} {locs : List Loc} {ls : Array Slot} (h : bX11_worthOf_103 N d self_X11_worthOf  w x1 y1 y2 = some z) (hH : wH V (cM V) (AM V) s w H locs) (hl : lv_has ls 4 [(0, .ref (V.2.2 0)), (1, .int x1)]) : W p l e (rmD (d + 1)) s m args below meth c H locs 0 0 (MQ below (CtI V (cM V) (AM V) z) args s 0 0 (AM V)) (F0 m 103 ls [.int y2, .int y1, .ref (V.2.2 31)]) := by
  unfold bX11_worthOf_103 at h
  obtain ⟨hx, hb, hml, hown, hg, hrt, hlk, hK⟩ := id X
  refine r_st (pc := 103) X (heM_31 V w) (hsM_31 V w) hH h dX11_worthOf_103 (fun w11 H locs h hH => ?_)
  exact kX11_worthOf_104 X hs_X11_worthOf  h hH (lv_sub hl [0, 1] rfl)
def bX11_worthOf_56 (N d : Nat) (self_X11_worthOf : Wd → Int32 → Option (Wd × Int32))  (w : Wd) (x1 : Int32) (x2 : Int32) (y0 : Int32) : Option (Wd × Int32) :=
  c_cl (eX11_isVariable N d w x1) fun w7 v8 =>
  if v8 = 0 then (
    c_ld w7 3 1000 x1 fun v9 =>
    c_ld w7 29 160 (((16 * v9) + (4 * x2)) + y0) fun v10 =>
    bX11_worthOf_103 N d self_X11_worthOf  w7 x1 x1 v10
  ) else (
    c_cl (eX11_variableOf N d w7 x1) fun w12 v13 =>
    c_ld w12 32 8 v13 fun v14 =>
    bX11_worthOf_103 N d self_X11_worthOf  w12 x1 x1 v14
  )
set_option maxHeartbeats 4000000 in
theorem kX11_worthOf_56 {V : Ev} {p : Program} {l : Launch} {e : Env} {N d : Nat} {s : State} {m : MethodId} {args : Array Value} {below : List Frame} {meth : Method} {c : Code} {z : Wd × Int32} (X : CX V p s m args meth c cX11_worthOf 4 RX11 (some .int)) {self_X11_worthOf : Wd → Int32 → Option (Wd × Int32)} (hs_X11_worthOf : ∀ (w : Wd) (a0 : Int32) (x : Wd × Int32), self_X11_worthOf w a0 = some x → MetI l V (cM V) (AM V) yX11_worthOf cX11_worthOf 4 (some .int) d [.ref (V.2.2 0), .int a0] w x)  {w : Wd} {x1 : Int32} {x2 : Int32} {y0 : Int32} {H : Heap} {locs : List Loc} {ls : Array Slot} (h : bX11_worthOf_56 N d self_X11_worthOf  w x1 x2 y0 = some z) (hH : wH V (cM V) (AM V) s w H locs) (hl : lv_has ls 4 [(0, .ref (V.2.2 0)), (1, .int x1), (2, .int x2)]) : W p l e (rmD (d + 1)) s m args below meth c H locs 0 0 (MQ below (CtI V (cM V) (AM V) z) args s 0 0 (AM V)) (F0 m 56 ls [.int y0]) := by
  unfold bX11_worthOf_56 at h
  obtain ⟨hx, hb, hml, hown, hg, hrt, hlk, hK⟩ := id X
  refine lv_istore_n (pc := 56) (lv' := [(3, .int y0), (0, .ref (V.2.2 0)), (1, .int x1), (2, .int x2)]) hx hb dX11_worthOf_56 rfl hl (by decide) rfl (fun ls hl => ?_)
  refine lv_aload_n (pc := 57) hx hb dX11_worthOf_57 rfl (lv_at hl 1 rfl) ?_
  refine gM_X11_102_0 (pc := 58) X hH dX11_worthOf_58 ?_
  refine lv_iload_n (pc := 61) hx hb dX11_worthOf_61 rfl (lv_at hl 2 rfl) ?_
  refine lv_aload_n (pc := 62) hx hb dX11_worthOf_62 rfl (lv_at hl 1 rfl) ?_
  refine lv_iload_n (pc := 63) hx hb dX11_worthOf_63 rfl (lv_at hl 2 rfl) ?_
  refine r_cvI (pc := 64) (As := [.int x1]) (rest := [.int x1, .ref (V.2.2 31)]) X hH (fun x hx => mX11_isVariable hx) cw_X11_117 (heM_0 V w) rfl rfl rfl (Nat.le_of_ble_eq_true rfl) hl.1 h dX11_worthOf_64 (fun w7 v8 H locs h hH => ?_)
  refine b_if_eq (pc := 67) (tgt := 83) hx hb h dX11_worthOf_67 (by decide) (fun h => ?_) (fun h => ?_)
  · refine lv_aload_n (pc := 83) hx hb dX11_worthOf_83 rfl (lv_at hl 1 rfl) ?_
    refine gM_X11_96_0 (pc := 84) X hH dX11_worthOf_84 ?_
    refine lv_bipush (pc := 87) (v := 16) hx hb dX11_worthOf_87 (by decide) ?_
    refine lv_aload_n (pc := 89) hx hb dX11_worthOf_89 rfl (lv_at hl 1 rfl) ?_
    refine gM_X11_16_0 (pc := 90) X hH dX11_worthOf_90 ?_
    refine lv_iload_n (pc := 93) hx hb dX11_worthOf_93 rfl (lv_at hl 2 rfl) ?_
    refine r_ld (pc := 94) X (heM_3 V w7) hH h dX11_worthOf_94 (fun v9 h => ?_)
    refine lv_imul (pc := 95) hx hb dX11_worthOf_95 ?_
    refine lv_iconst (pc := 96) (v := 4) hx hb dX11_worthOf_96 (by decide) ?_
    refine lv_iload_n (pc := 97) hx hb dX11_worthOf_97 rfl (lv_at hl 3 rfl) ?_
    refine lv_imul (pc := 98) hx hb dX11_worthOf_98 ?_
    refine lv_iadd (pc := 99) hx hb dX11_worthOf_99 ?_
    refine lv_iload_n (pc := 100) hx hb dX11_worthOf_100 rfl (lv_at hl 0 rfl) ?_
    refine lv_iadd (pc := 101) hx hb dX11_worthOf_101 ?_
    refine r_ld (pc := 102) X (heM_29 V w7) hH h dX11_worthOf_102 (fun v10 h => ?_)
    exact kX11_worthOf_103 X hs_X11_worthOf  h hH (lv_sub hl [1, 2] rfl)
  · refine lv_aload_n (pc := 70) hx hb dX11_worthOf_70 rfl (lv_at hl 1 rfl) ?_
    refine gM_X11_105_0 (pc := 71) X hH dX11_worthOf_71 ?_
    refine lv_aload_n (pc := 74) hx hb dX11_worthOf_74 rfl (lv_at hl 1 rfl) ?_
    refine lv_iload_n (pc := 75) hx hb dX11_worthOf_75 rfl (lv_at hl 2 rfl) ?_
    refine r_cvI (pc := 76) (As := [.int x1]) (rest := [.ref (V.2.2 32), .int x1, .ref (V.2.2 31)]) X hH (fun x hx => mX11_variableOf hx) cw_X11_136 (heM_0 V w7) rfl rfl rfl (Nat.le_of_ble_eq_true rfl) hl.1 h dX11_worthOf_76 (fun w12 v13 H locs h hH => ?_)
    refine r_ld (pc := 79) X (heM_32 V w12) hH h dX11_worthOf_79 (fun v14 h => ?_)
    refine lv_goto (pc := 80) (tgt := 103) hx hb dX11_worthOf_80 (by decide) ?_
    exact kX11_worthOf_103 X hs_X11_worthOf  h hH (lv_sub hl [1, 2] rfl)
def bX11_worthOf_32 (N d : Nat) (self_X11_worthOf : Wd → Int32 → Option (Wd × Int32))  (w : Wd) (x1 : Int32) (y0 : Int32) : Option (Wd × Int32) :=
  c_cl (eX11_parts N d w x1) fun w5 v6 =>
  if v6 ≤ 1 then (
    bX11_worthOf_56 N d self_X11_worthOf  w5 x1 y0 0
  ) else (
    c_ld w5 5 1000 x1 fun v15 =>
    c_cl (self_X11_worthOf w5 v15) fun w16 v17 =>
    bX11_worthOf_56 N d self_X11_worthOf  w16 x1 y0 v17
  )
set_option maxHeartbeats 4000000 in
theorem kX11_worthOf_32 {V : Ev} {p : Program} {l : Launch} {e : Env} {N d : Nat} {s : State} {m : MethodId} {args : Array Value} {below : List Frame} {meth : Method} {c : Code} {z : Wd × Int32} (X : CX V p s m args meth c cX11_worthOf 4 RX11 (some .int)) {self_X11_worthOf : Wd → Int32 → Option (Wd × Int32)} (hs_X11_worthOf : ∀ (w : Wd) (a0 : Int32) (x : Wd × Int32), self_X11_worthOf w a0 = some x → MetI l V (cM V) (AM V) yX11_worthOf cX11_worthOf 4 (some .int) d [.ref (V.2.2 0), .int a0] w x)  {w : Wd} {x1 : Int32} {y0 : Int32} {H : Heap} {locs : List Loc} {ls : Array Slot} (h : bX11_worthOf_32 N d self_X11_worthOf  w x1 y0 = some z) (hH : wH V (cM V) (AM V) s w H locs) (hl : lv_has ls 4 [(0, .ref (V.2.2 0)), (1, .int x1)]) : W p l e (rmD (d + 1)) s m args below meth c H locs 0 0 (MQ below (CtI V (cM V) (AM V) z) args s 0 0 (AM V)) (F0 m 32 ls [.int y0]) := by
  unfold bX11_worthOf_32 at h
  obtain ⟨hx, hb, hml, hown, hg, hrt, hlk, hK⟩ := id X
  refine lv_istore_n (pc := 32) (lv' := [(2, .int y0), (0, .ref (V.2.2 0)), (1, .int x1)]) hx hb dX11_worthOf_32 rfl hl (by decide) rfl (fun ls hl => ?_)
  refine lv_aload_n (pc := 33) hx hb dX11_worthOf_33 rfl (lv_at hl 1 rfl) ?_
  refine lv_iload_n (pc := 34) hx hb dX11_worthOf_34 rfl (lv_at hl 2 rfl) ?_
  refine r_cvI (pc := 35) (As := [.int x1]) (rest := []) X hH (fun x hx => mX11_parts hx) cw_X11_140 (heM_0 V w) rfl rfl rfl (Nat.le_of_ble_eq_true rfl) hl.1 h dX11_worthOf_35 (fun w5 v6 H locs h hH => ?_)
  refine lv_iconst (pc := 38) (v := 1) hx hb dX11_worthOf_38 (by decide) ?_
  refine b_icmp_le (pc := 39) (tgt := 55) hx hb h dX11_worthOf_39 (by decide) (fun h => ?_) (fun h => ?_)
  · refine lv_iconst (pc := 55) (v := 0) hx hb dX11_worthOf_55 (by decide) ?_
    exact kX11_worthOf_56 X hs_X11_worthOf  h hH (lv_sub hl [1, 2, 0] rfl)
  · refine lv_aload_n (pc := 42) hx hb dX11_worthOf_42 rfl (lv_at hl 1 rfl) ?_
    refine lv_aload_n (pc := 43) hx hb dX11_worthOf_43 rfl (lv_at hl 1 rfl) ?_
    refine gM_X11_22_0 (pc := 44) X hH dX11_worthOf_44 ?_
    refine lv_iload_n (pc := 47) hx hb dX11_worthOf_47 rfl (lv_at hl 2 rfl) ?_
    refine r_ld (pc := 48) X (heM_5 V w5) hH h dX11_worthOf_48 (fun v15 h => ?_)
    refine r_cvI (pc := 49) (As := [.int v15]) (rest := []) X hH (fun x hx => hs_X11_worthOf _ _ _ hx) cw_X11_294 (heM_0 V w5) rfl rfl rfl (Nat.le_of_ble_eq_true rfl) hl.1 h dX11_worthOf_49 (fun w16 v17 H locs h hH => ?_)
    refine lv_goto (pc := 52) (tgt := 56) hx hb dX11_worthOf_52 (by decide) ?_
    exact kX11_worthOf_56 X hs_X11_worthOf  h hH (lv_sub hl [1, 2, 0] rfl)
def bX11_worthOf_0 (N d : Nat) (self_X11_worthOf : Wd → Int32 → Option (Wd × Int32))  (w : Wd) (x1 : Int32) : Option (Wd × Int32) :=
  c_ld w 31 1000 x1 fun v1 =>
  if v1 = (-1) then (
    c_cl (eX11_parts N d w x1) fun w3 v4 =>
    if v4 ≤ 0 then (
      bX11_worthOf_32 N d self_X11_worthOf  w3 x1 0
    ) else (
      c_ld w3 4 1000 x1 fun v18 =>
      c_cl (self_X11_worthOf w3 v18) fun w19 v20 =>
      bX11_worthOf_32 N d self_X11_worthOf  w19 x1 v20
    )
  ) else (
    bX11_worthOf_104 N d self_X11_worthOf  w x1
  )
set_option maxHeartbeats 4000000 in
theorem kX11_worthOf_0 {V : Ev} {p : Program} {l : Launch} {e : Env} {N d : Nat} {s : State} {m : MethodId} {args : Array Value} {below : List Frame} {meth : Method} {c : Code} {z : Wd × Int32} (X : CX V p s m args meth c cX11_worthOf 4 RX11 (some .int)) {self_X11_worthOf : Wd → Int32 → Option (Wd × Int32)} (hs_X11_worthOf : ∀ (w : Wd) (a0 : Int32) (x : Wd × Int32), self_X11_worthOf w a0 = some x → MetI l V (cM V) (AM V) yX11_worthOf cX11_worthOf 4 (some .int) d [.ref (V.2.2 0), .int a0] w x)  {w : Wd} {x1 : Int32} {H : Heap} {locs : List Loc} {ls : Array Slot} (h : bX11_worthOf_0 N d self_X11_worthOf  w x1 = some z) (hH : wH V (cM V) (AM V) s w H locs) (hl : lv_has ls 4 [(0, .ref (V.2.2 0)), (1, .int x1)]) : W p l e (rmD (d + 1)) s m args below meth c H locs 0 0 (MQ below (CtI V (cM V) (AM V) z) args s 0 0 (AM V)) (F0 m 0 ls []) := by
  unfold bX11_worthOf_0 at h
  obtain ⟨hx, hb, hml, hown, hg, hrt, hlk, hK⟩ := id X
  refine lv_aload_n (pc := 0) hx hb dX11_worthOf_0 rfl (lv_at hl 0 rfl) ?_
  refine gM_X11_102_0 (pc := 1) X hH dX11_worthOf_1 ?_
  refine lv_iload_n (pc := 4) hx hb dX11_worthOf_4 rfl (lv_at hl 1 rfl) ?_
  refine r_ld (pc := 5) X (heM_31 V w) hH h dX11_worthOf_5 (fun v1 h => ?_)
  refine lv_iconst (pc := 6) (v := -1) hx hb dX11_worthOf_6 (by decide) ?_
  refine b_icmp_ne (pc := 7) (tgt := 104) hx hb h dX11_worthOf_7 (by decide) (fun h => ?_) (fun h => ?_)
  · exact kX11_worthOf_104 X hs_X11_worthOf  h hH (lv_sub hl [0, 1] rfl)
  · refine lv_aload_n (pc := 10) hx hb dX11_worthOf_10 rfl (lv_at hl 0 rfl) ?_
    refine lv_iload_n (pc := 11) hx hb dX11_worthOf_11 rfl (lv_at hl 1 rfl) ?_
    refine r_cvI (pc := 12) (As := [.int x1]) (rest := []) X hH (fun x hx => mX11_parts hx) cw_X11_140 (heM_0 V w) rfl rfl rfl (Nat.le_of_ble_eq_true rfl) hl.1 h dX11_worthOf_12 (fun w3 v4 H locs h hH => ?_)
    refine b_if_le (pc := 15) (tgt := 31) hx hb h dX11_worthOf_15 (by decide) (fun h => ?_) (fun h => ?_)
    · refine lv_iconst (pc := 31) (v := 0) hx hb dX11_worthOf_31 (by decide) ?_
      exact kX11_worthOf_32 X hs_X11_worthOf  h hH (lv_sub hl [0, 1] rfl)
    · refine lv_aload_n (pc := 18) hx hb dX11_worthOf_18 rfl (lv_at hl 0 rfl) ?_
      refine lv_aload_n (pc := 19) hx hb dX11_worthOf_19 rfl (lv_at hl 0 rfl) ?_
      refine gM_X11_19_0 (pc := 20) X hH dX11_worthOf_20 ?_
      refine lv_iload_n (pc := 23) hx hb dX11_worthOf_23 rfl (lv_at hl 1 rfl) ?_
      refine r_ld (pc := 24) X (heM_4 V w3) hH h dX11_worthOf_24 (fun v18 h => ?_)
      refine r_cvI (pc := 25) (As := [.int v18]) (rest := []) X hH (fun x hx => hs_X11_worthOf _ _ _ hx) cw_X11_294 (heM_0 V w3) rfl rfl rfl (Nat.le_of_ble_eq_true rfl) hl.1 h dX11_worthOf_25 (fun w19 v20 H locs h hH => ?_)
      refine lv_goto (pc := 28) (tgt := 32) hx hb dX11_worthOf_28 (by decide) ?_
      exact kX11_worthOf_32 X hs_X11_worthOf  h hH (lv_sub hl [0, 1] rfl)
def eX11_worthOf (N : Nat) : Nat → Wd → Int32 → Option (Wd × Int32)
  | 0 => fun _ _ => none
  | d + 1 => fun w x1 => bX11_worthOf_0 N d (eX11_worthOf N d) w x1
set_option maxHeartbeats 4000000 in
set_option maxRecDepth 20000 in
theorem mX11_worthOf {l : Launch} {V : Ev} {N d : Nat} {w : Wd} {x1 : Int32} {z : Wd × Int32} (h : eX11_worthOf N d w x1 = some z) : MetI l V (cM V) (AM V) yX11_worthOf cX11_worthOf 4 (some .int) d [.ref (V.2.2 0), .int x1] w z := by
  induction d generalizing w x1 z with
  | zero => exact c_none h
  | succ d ih =>
    refine Met.ofW (cc := cX11_worthOf) (maxL := 4) (ret := (some .int)) (by decide) rfl ?_
    intro p e s m args below meth c s₁ B hml hv
    obtain ⟨rfl, hP, hD, hK⟩ := hv
    have hts := atoms_spec (ws := .code yX11_worthOf cX11_worthOf 4 (some .int) :: gG) B.pre
    have X : CX V p s m ([.ref (V.2.2 0), .int x1] : List Value).toArray meth c cX11_worthOf 4 RX11 (some .int) := ⟨B.exec, B.bytes, hml, findClass_of_methodNamed B.named, fun w hw => hts w (List.mem_cons_of_mem _ hw), B.returns, B.notSynchronized, hK⟩
    have hl := lv_entry ([.ref (V.2.2 0), .int x1] : List Value) (n := 4) (Nat.le_of_ble_eq_true rfl)
    rw [lg_entry_eq]
    generalize (lg_sl ([.ref (V.2.2 0), .int x1] : List Value) ++ List.replicate (4 - (lg_sl ([.ref (V.2.2 0), .int x1] : List Value)).length) Slot.unset).toArray = ls at hl ⊢
    have hl : lv_has ls 4 [(0, .ref (V.2.2 0)), (1, .int x1)] := hl
    exact kX11_worthOf_0 (N := N) X (fun _ _ _ h => ih h) h ⟨hP, hD, va_S.rf⟩ hl
theorem dX11_begin_0 : decode cX11_begin 0 = .ok (.iconst 0, 1) := by decide +kernel
theorem dX11_begin_1 : decode cX11_begin 1 = .ok (.istore_n 1, 1) := by decide +kernel
theorem dX11_begin_2 : decode cX11_begin 2 = .ok (.iload_n 1, 1) := by decide +kernel
theorem dX11_begin_3 : decode cX11_begin 3 = .ok (.aload_n 0, 1) := by decide +kernel
theorem dX11_begin_4 : decode cX11_begin 4 = .ok (.getfield 125, 3) := by decide +kernel
theorem dX11_begin_7 : decode cX11_begin 7 = .ok (.if_icmp .ge 16, 3) := by decide +kernel
theorem dX11_begin_10 : decode cX11_begin 10 = .ok (.aload_n 0, 1) := by decide +kernel
theorem dX11_begin_11 : decode cX11_begin 11 = .ok (.getfield 102, 3) := by decide +kernel
theorem dX11_begin_14 : decode cX11_begin 14 = .ok (.iload_n 1, 1) := by decide +kernel
theorem dX11_begin_15 : decode cX11_begin 15 = .ok (.iconst (-1), 1) := by decide +kernel
theorem dX11_begin_16 : decode cX11_begin 16 = .ok (.iastore, 1) := by decide +kernel
theorem dX11_begin_17 : decode cX11_begin 17 = .ok (.iinc 1 1, 3) := by decide +kernel
theorem dX11_begin_20 : decode cX11_begin 20 = .ok (.goto (-18), 3) := by decide +kernel
theorem dX11_begin_23 : decode cX11_begin 23 = .ok (.return_, 1) := by decide +kernel
def bX11_begin_2 (N d : Nat)  (rec2 : Wd → Int32 → Option (Wd)) (w : Wd) (x1 : Int32) : Option (Wd) :=
  if (sI w 2) ≤ x1 then (
    some w
  ) else (
    c_st w 31 1000 x1 (-1) fun w1 =>
    c_nm (x1 + 1) fun x1_2 =>
    rec2 w1 x1_2
  )
set_option maxHeartbeats 4000000 in
theorem kX11_begin_2 {V : Ev} {p : Program} {l : Launch} {e : Env} {N d : Nat} {s : State} {m : MethodId} {args : Array Value} {below : List Frame} {meth : Method} {c : Code} {z : Wd} (X : CX V p s m args meth c cX11_begin 2 RX11 none)   {rec2 : Wd → Int32 → Option (Wd)} (hr2 : ∀ (w : Wd) (x1 : Int32) (H : Heap) (locs : List Loc) (ls : Array Slot), rec2 w x1 = some z → wH V (cM V) (AM V) s w H locs → lv_has ls 2 [(0, .ref (V.2.2 0)), (1, .int x1)] → W p l e (rmD (d + 1)) s m args below meth c H locs 0 0 (MQ below (CtV V (cM V) (AM V) z) args s 0 0 (AM V)) (F0 m 2 ls [])) {w : Wd} {x1 : Int32} {H : Heap} {locs : List Loc} {ls : Array Slot} (h : bX11_begin_2 N d  rec2 w x1 = some z) (hH : wH V (cM V) (AM V) s w H locs) (hl : lv_has ls 2 [(0, .ref (V.2.2 0)), (1, .int x1)]) : W p l e (rmD (d + 1)) s m args below meth c H locs 0 0 (MQ below (CtV V (cM V) (AM V) z) args s 0 0 (AM V)) (F0 m 2 ls []) := by
  unfold bX11_begin_2 at h
  obtain ⟨hx, hb, hml, hown, hg, hrt, hlk, hK⟩ := id X
  refine lv_iload_n (pc := 2) hx hb dX11_begin_2 rfl (lv_at hl 1 rfl) ?_
  refine lv_aload_n (pc := 3) hx hb dX11_begin_3 rfl (lv_at hl 0 rfl) ?_
  refine gM_X11_125_0 (pc := 4) X hH dX11_begin_4 ?_
  refine b_icmp_ge (pc := 7) (tgt := 23) hx hb h dX11_begin_7 (by decide) (fun h => ?_) (fun h => ?_)
  · exact r_vret (pc := 23) X hH h dX11_begin_23
  · refine lv_aload_n (pc := 10) hx hb dX11_begin_10 rfl (lv_at hl 0 rfl) ?_
    refine gM_X11_102_0 (pc := 11) X hH dX11_begin_11 ?_
    refine lv_iload_n (pc := 14) hx hb dX11_begin_14 rfl (lv_at hl 1 rfl) ?_
    refine lv_iconst (pc := 15) (v := -1) hx hb dX11_begin_15 (by decide) ?_
    refine r_st (pc := 16) X (heM_31 V w) (hsM_31 V w) hH h dX11_begin_16 (fun w1 H locs h hH => ?_)
    obtain ⟨x1_2, ex1_2, h⟩ := c_nm_ex h
    refine lv_iinc (pc := 17) (v := x1_2) (lv' := [(1, .int x1_2), (0, .ref (V.2.2 0))]) hx hb dX11_begin_17 hl (k := 1) rfl (by rw [← ex1_2]; rfl) (by decide) rfl (fun ls hl => ?_)
    refine lv_goto (pc := 20) (tgt := 2) hx hb dX11_begin_20 (by decide) ?_
    exact hr2 _ _ _ _ _ h hH (lv_sub hl [1, 0] rfl)
def fX11_begin_2 (N d : Nat)   : Nat → Wd → Int32 → Option (Wd)
  | 0 => fun _ _ => none
  | n + 1 => fun w x1 => bX11_begin_2 N d   (fX11_begin_2 N d   n) w x1
theorem lX11_begin_2 {V : Ev} {p : Program} {l : Launch} {e : Env} {N d : Nat} {s : State} {m : MethodId} {args : Array Value} {below : List Frame} {meth : Method} {c : Code} {z : Wd} (X : CX V p s m args meth c cX11_begin 2 RX11 none)    (n : Nat) {w : Wd} {x1 : Int32} {H : Heap} {locs : List Loc} {ls : Array Slot} (h : fX11_begin_2 N d   n w x1 = some z) (hH : wH V (cM V) (AM V) s w H locs) (hl : lv_has ls 2 [(0, .ref (V.2.2 0)), (1, .int x1)]) : W p l e (rmD (d + 1)) s m args below meth c H locs 0 0 (MQ below (CtV V (cM V) (AM V) z) args s 0 0 (AM V)) (F0 m 2 ls []) := by
  induction n generalizing w x1 H locs ls with
  | zero => exact c_none h
  | succ n ih => exact kX11_begin_2 (N := N) X  (fun _ _ _ _ _ h hH hl => ih h hH hl) h hH hl
def bX11_begin_0 (N d : Nat)   (w : Wd)  : Option (Wd) :=
  fX11_begin_2 N d   N w ((0 : Int32))
set_option maxHeartbeats 4000000 in
theorem kX11_begin_0 {V : Ev} {p : Program} {l : Launch} {e : Env} {N d : Nat} {s : State} {m : MethodId} {args : Array Value} {below : List Frame} {meth : Method} {c : Code} {z : Wd} (X : CX V p s m args meth c cX11_begin 2 RX11 none)    {w : Wd}  {H : Heap} {locs : List Loc} {ls : Array Slot} (h : bX11_begin_0 N d   w  = some z) (hH : wH V (cM V) (AM V) s w H locs) (hl : lv_has ls 2 [(0, .ref (V.2.2 0))]) : W p l e (rmD (d + 1)) s m args below meth c H locs 0 0 (MQ below (CtV V (cM V) (AM V) z) args s 0 0 (AM V)) (F0 m 0 ls []) := by
  unfold bX11_begin_0 at h
  obtain ⟨hx, hb, hml, hown, hg, hrt, hlk, hK⟩ := id X
  refine lv_iconst (pc := 0) (v := 0) hx hb dX11_begin_0 (by decide) ?_
  refine lv_istore_n (pc := 1) (lv' := [(1, .int ((0 : Int32))), (0, .ref (V.2.2 0))]) hx hb dX11_begin_1 rfl hl (by decide) rfl (fun ls hl => ?_)
  exact lX11_begin_2 X   N h hH (lv_sub hl [1, 0] rfl)
def eX11_begin (N : Nat) : Nat → Wd → Option (Wd)
  | 0 => fun _  => none
  | d + 1 => fun w  => bX11_begin_0 N d  w 
set_option maxHeartbeats 4000000 in
set_option maxRecDepth 20000 in
theorem mX11_begin {l : Launch} {V : Ev} {N d : Nat} {w : Wd}  {z : Wd} (h : eX11_begin N d w  = some z) : MetV l V (cM V) (AM V) yX11_begin cX11_begin 2 none d [.ref (V.2.2 0)] w z := by
  cases d with
  | zero => exact c_none h
  | succ d =>
    refine Met.ofW (cc := cX11_begin) (maxL := 2) (ret := none) (by decide) rfl ?_
    intro p e s m args below meth c s₁ B hml hv
    obtain ⟨rfl, hP, hD, hK⟩ := hv
    have hts := atoms_spec (ws := .code yX11_begin cX11_begin 2 none :: gG) B.pre
    have X : CX V p s m ([.ref (V.2.2 0)] : List Value).toArray meth c cX11_begin 2 RX11 none := ⟨B.exec, B.bytes, hml, findClass_of_methodNamed B.named, fun w hw => hts w (List.mem_cons_of_mem _ hw), B.returns, B.notSynchronized, hK⟩
    have hl := lv_entry ([.ref (V.2.2 0)] : List Value) (n := 2) (Nat.le_of_ble_eq_true rfl)
    rw [lg_entry_eq]
    generalize (lg_sl ([.ref (V.2.2 0)] : List Value) ++ List.replicate (2 - (lg_sl ([.ref (V.2.2 0)] : List Value)).length) Slot.unset).toArray = ls at hl ⊢
    have hl : lv_has ls 2 [(0, .ref (V.2.2 0))] := hl
    exact kX11_begin_0 (N := N) X  h ⟨hP, hD, va_S.rf⟩ hl
