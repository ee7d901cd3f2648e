abbrev aioN : String := "java/lang/ArrayIndexOutOfBoundsException"
abbrev nmX : List String := ["java/lang/IndexOutOfBoundsException", "java/lang/RuntimeException", "java/lang/Exception"]
abbrev atP : List Cond := vx_atS RX10 213 aioN nmX
theorem atP_bad : ∀ w ∈ atP.filter (fun w => !goodWord w), w ∈ [Cond.declares (Bundle.initS "java/lang/IndexOutOfBoundsException"), Cond.declares (Bundle.initS "java/lang/RuntimeException"), Cond.declares (Bundle.initS "java/lang/Exception"), Cond.declares (Bundle.initS "java/lang/Throwable"), Cond.castable aioN aioN] := by decide +kernel
theorem atP_good : ∀ w ∈ atP.filter goodWord, w ∈ gG := fun w hw => gG_of ((show ∀ w ∈ atP.filter goodWord, w ∈ lw_tbl by decide +kernel) w hw) (List.mem_filter.mp hw).2
theorem atP_ot : ∀ w ∈ Cond.classLink RX10 209 aioN :: Cond.initialized aioN :: atP, vx_ot w = true := by decide +kernel
theorem wP_cl : Cond.classLink RX10 209 aioN ∈ gG := gG_t 881 (by decide +kernel) (by first | rfl | decide +kernel)
theorem wP_in : Cond.initialized aioN ∈ gG := gG_t 19 (by decide +kernel) (by first | rfl | decide +kernel)
/-- what the tables say beside the good words, for a throw -/
def KP (sa : Nat) (U : State) : Prop := va_Nw (.declares (Bundle.initS "java/lang/IndexOutOfBoundsException")) U ∧ va_Nw (.declares (Bundle.initS "java/lang/RuntimeException")) U ∧ va_Nw (.declares (Bundle.initS "java/lang/Exception")) U ∧ va_Nw (.declares (Bundle.initS "java/lang/Throwable")) U ∧ va_Nw (.castable aioN aioN) U ∧ vk_R RX10 211 "no such PART" sa U
theorem KP.warm {sa : Nat} {s U : State} (h : KP sa s) (hW : s.WarmedH U.vm) : KP sa U := ⟨va_Nw.warmD hW h.1, va_Nw.warmD hW h.2.1, va_Nw.warmD hW h.2.2.1, va_Nw.warmD hW h.2.2.2.1, va_Nw.warmC hW h.2.2.2.2.1, vk_R.warm hW h.2.2.2.2.2⟩
theorem KP.same {sa : Nat} {s U : State} (h : KP sa s) (hv : s.vm = U.vm) : KP sa U := ⟨va_Nw.same rfl hv h.1, va_Nw.same rfl hv h.2.1, va_Nw.same rfl hv h.2.2.1, va_Nw.same rfl hv h.2.2.2.1, va_Nw.same rfl hv h.2.2.2.2.1, vk_R.same hv.symm h.2.2.2.2.2⟩
abbrev zU (A : Nat → Prop) (U : State) (H : Heap) : Prop := vx_Zq Bundle.tN "UNASSIGNED_STACK" Bundle.steD A U H ∧ vx_Zq Bundle.tN "SUPPRESSED_SENTINEL" Bundle.listD A U H
theorem KP.hat {sa : Nat} {s : State} {args : Array Value} (h : KP sa s) (hg : ∀ w ∈ gG, w.before args s = true) : ∀ w ∈ atP, w.before args s = true :=
  vx_hat (fun w hw => hg w (atP_good w hw)) atP_bad (vx_c (va_Nw.use rfl h.1) (vx_c (va_Nw.use rfl h.2.1) (vx_c (va_Nw.use rfl h.2.2.1) (vx_c (va_Nw.use rfl h.2.2.2.1) (vx_c (va_Nw.use rfl h.2.2.2.2.1) vx_n)))))
section QC
variable {V : Ev} {cw : Wd → va_W} {A1 A0 : Nat → Prop} {p : Program} {l : Launch} {e : Env} {R : Room} {s : State} {m : MethodId} {args : Array Value} {below : List Frame} {meth : Method} {c : Code} {H H0 : Heap} {locs : List Loc} {cells slots d : Nat} {Q : State → Prop} {cc : ByteArray} {nL : Nat} {own : String} {rt : Option FieldType} {w : Wd} {Z : Type} {z : Z} {pc : Nat} {ls : Array Slot} {rest st0 : List Value}
variable {y : MethodName} {b : ByteArray} {mL n idx q ci nf : Nat} {C : String} {T : u_T} {fs As : List Value} {r2 : Option FieldType}
theorem rm_fitR {mL d : Nat} {R : Room} (h : mL ≤ 27) (hR : d + 1 ≤ R.frames ∧ 46 * (d + 1) ≤ R.locals) : (rmD d).frames + 1 ≤ R.frames ∧ 8 + (mL + 11) + (rmD d).locals ≤ R.locals := ⟨hR.1, by show 8 + (mL + 11) + 46 * d ≤ R.locals; omega⟩
theorem q_run {Qc : Array Value → State → Outcome → State → Prop} (X : CX V p s m args meth c cc nL own rt) (hP : va_P V.1 clsAll (cw w) H) (hD : va_D A1 (cw w)) (hM : Met l y (.code y b mL r2 :: gG) (rmD d) (Ctr V cw A1 (.ref (V.2.2 q) :: As) w) Qc 0 0 A1) (hw : CWV own idx C y b mL r2 n) (he : (cw w)[q]? = some (V.2.2 q, .inr (ci, fs))) (hc : clsAll[ci]? = some (C, T, nf)) (hn : As.length = n) (hst : st0 = As.reverse ++ .ref (V.2.2 q) :: rest) (hr : (rest.map fun v => v.category).sum ≤ 8) (hls : ls.size = nL) (hR : d + 1 ≤ R.frames ∧ 46 * (d + 1) ≤ R.locals) (hf : cells ≤ R.cells ∧ slots ≤ R.slots) (dg : decode cc pc = .ok (.invokevirtual idx, 3)) :
    va_Run p l e R s m args below meth c H locs cells slots 0 0 (F0 m pc ls st0) rest (Qc (Value.ref (V.2.2 q) :: As).toArray) A1 := by
  obtain ⟨h1, h2, h3, h4, h5, h6, h7⟩ := hw
  exact va_runV (As := As) (rest := rest) ⟨X.1, X.2.1, X.2.2.1, X.2.2.2.1, X.2.2.2.2.1⟩ hM (cwV n X.2.2.2.2.1 (gi_V h1 h2 h3 h4 h5) rfl rfl rfl h6 (rm_fitR h7 hR)) ⟨Ctr.blind, va_recv X.2.2.2.2.2.2.2.1 hP hc he, fun U hU hW => ⟨rfl, by rw [hU]; exact hP, hD, X.2.2.2.2.2.2.2.warm hW⟩⟩ rfl hn hls hst (lv_room hr) dg hf
theorem q_runS {Qc : Array Value → State → Outcome → State → Prop} (X : CX V p s m args meth c cc nL own rt) (hP : va_P V.1 clsAll (cw w) H) (hD : va_D A1 (cw w)) (hM : Met l y (.code y b mL r2 :: gG) (rmD d) (Ctr V cw A1 As w) Qc 0 0 A1) (hw : CWS own idx y b mL r2 n) (hn : As.length = n) (hst : st0 = As.reverse ++ rest) (hr : (rest.map fun v => v.category).sum ≤ 8) (hls : ls.size = nL) (hR : d + 1 ≤ R.frames ∧ 46 * (d + 1) ≤ R.locals) (hf : cells ≤ R.cells ∧ slots ≤ R.slots) (dg : decode cc pc = .ok (.invokestatic idx, 3)) :
    va_Run p l e R s m args below meth c H locs cells slots 0 0 (F0 m pc ls st0) rest (Qc As.toArray) A1 := by
  obtain ⟨h1, h2, h4, h5, h6, h7⟩ := hw
  exact va_runS (As := As) (rest := rest) ⟨X.1, X.2.1, X.2.2.1, X.2.2.2.1, X.2.2.2.2.1⟩ hM (va_cwS n X.2.2.2.2.1 (gi_S h1 h2 h4 h5) rfl rfl rfl h6 (rm_fitR h7 hR)) ⟨Ctr.blind, fun U hU hW => ⟨rfl, by rw [hU]; exact hP, hD, X.2.2.2.2.2.2.2.warm hW⟩⟩ rfl hn hls hst (lv_room hr) dg hf
theorem q_kI {a : Array Value} {x : Wd × Int32} (hA : ∀ q, A1 q → A0 q) (hS : va_S A0 H0 H locs) (hr : va_Run p l e R s m args below meth c H locs cells slots 0 0 (F0 m pc ls st0) rest (CtI V cw A1 x a) A1)
    (kk : ∀ (H1 : Heap) (locs1 : List Loc), va_P V.1 clsAll (cw x.1) H1 → va_D A1 (cw x.1) → H.size ≤ H1.size → (∀ q : Nat, q < H.size → ¬ A1 q → H1[q]? = H[q]?) → va_S A0 H0 H1 locs1 → W p l e R s m args below meth c H1 locs1 cells slots Q (F0 m (pc + 3) ls (.int x.2 :: rest))) : W p l e R s m args below meth c H locs cells slots Q (F0 m pc ls st0) := by
  refine va_calli hr hS (fun q _ h => hA q h) (fun q h => hA q h) (fun r u t H1 locs1 ht hvm hw hB hz hk hS => ?_)
  obtain ⟨rfl, rfl⟩ := hw
  exact kk H1 locs1 (ht ▸ hB.1) hB.2 hz hk hS
theorem q_kL {a : Array Value} {x : Wd × Int64} (hA : ∀ q, A1 q → A0 q) (hS : va_S A0 H0 H locs) (hr : va_Run p l e R s m args below meth c H locs cells slots 0 0 (F0 m pc ls st0) rest (CtL V cw A1 x a) A1)
    (kk : ∀ (H1 : Heap) (locs1 : List Loc), va_P V.1 clsAll (cw x.1) H1 → va_D A1 (cw x.1) → H.size ≤ H1.size → (∀ q : Nat, q < H.size → ¬ A1 q → H1[q]? = H[q]?) → va_S A0 H0 H1 locs1 → W p l e R s m args below meth c H1 locs1 cells slots Q (F0 m (pc + 3) ls (.long x.2 :: rest))) : W p l e R s m args below meth c H locs cells slots Q (F0 m pc ls st0) := by
  refine va_calll hr hS (fun q _ h => hA q h) (fun q h => hA q h) (fun r u t H1 locs1 ht hvm hw hB hz hk hS => ?_)
  obtain ⟨rfl, rfl⟩ := hw
  exact kk H1 locs1 (ht ▸ hB.1) hB.2 hz hk hS
theorem va_S.mono {A B : Nat → Prop} (h : va_S A H0 H locs) (hAB : ∀ q, A q → B q) : va_S B H0 H locs := ⟨h.1, fun q h1 h2 => h.2.1 q h1 (fun z => h2 (hAB q z)), fun l hl => hAB _ (h.2.2 l hl)⟩
end QC
/-! RewriteChecks.part -/
def A9 (V : Ev) (sz : Nat) (q : Nat) : Prop := AC V q ∨ sz ≤ q
def rmP (d : Nat) : Room := { frames := d + 8, cells := 1, slots := 6, locals := 46 * d + 200 }
def bX10_part_45 (w : Wd) (x1 x2 : Int32) : Option (Wd × Option Int32) :=
  if x2 = 0 then (c_ld w 15 1000 x1 fun v7 => some (w, some v7)) else (c_ld w 16 1000 x1 fun v8 => some (w, some v8))
def eX10_part (N : Nat) : Nat → Wd → Int32 → Int32 → Option (Wd × Option Int32)
  | 0 => fun _ _ _ => none
  | d + 1 => fun w x1 x2 => c_cl (eX10_isTerm N d w x1) fun w1 v2 => if v2 = 0 then some (w1, some (-2)) else (c_ld w1 14 1000 x1 fun v3 => c_ld w1 12 18 v3 fun v4 => c_cl (eX10_isWithin N d w1 x2 v4) fun w5 v6 => if v6 = 0 then some (w5, none) else bX10_part_45 w5 x1 x2)
def PcP (V : Ev) (sa sz : Nat) (av : List Value) (w : Wd) : Array Value → State → Prop := va_Pc av (fun U => U.heap.size = sz ∧ va_P V.1 clsAll (cC V w) U.heap ∧ KX V U ∧ KP sa U ∧ zU (A9 V sz) U U.heap)
def QcP (V : Ev) (sz : Nat) (z : Wd × Option Int32) : Array Value → State → Outcome → State → Prop := va_Qi (fun r (u : Wd) => z.2 = some r ∧ u = z.1) (fun u t => va_P V.1 clsAll (cC V u) t.heap) (A9 V sz)
def XcP (V : Ev) (sz : Nat) (z : Wd × Option Int32) : String → State → State → Prop := vx_X (fun u : Wd => z.2 = none ∧ u = z.1) (fun E u t => E = aioN ∧ va_P V.1 clsAll (cC V u) t.heap) (A9 V sz)
theorem dX10_part_0 : decode cX10_part 0 = .ok (.aload_n 0, 1) := by decide +kernel
theorem dX10_part_1 : decode cX10_part 1 = .ok (.iload_n 1, 1) := by decide +kernel
theorem dX10_part_2 : decode cX10_part 2 = .ok (.invokevirtual 82, 3) := by decide +kernel
theorem dX10_part_5 : decode cX10_part 5 = .ok (.ifCond .ne 6, 3) := by decide +kernel
theorem dX10_part_8 : decode cX10_part 8 = .ok (.bipush (-2), 2) := by decide +kernel
theorem dX10_part_10 : decode cX10_part 10 = .ok (.ireturn, 1) := by decide +kernel
theorem dX10_part_11 : decode cX10_part 11 = .ok (.iload_n 2, 1) := by decide +kernel
theorem dX10_part_12 : decode cX10_part 12 = .ok (.aload_n 0, 1) := by decide +kernel
theorem dX10_part_13 : decode cX10_part 13 = .ok (.getfield 15, 3) := by decide +kernel
theorem dX10_part_16 : decode cX10_part 16 = .ok (.getfield 78, 3) := by decide +kernel
theorem dX10_part_19 : decode cX10_part 19 = .ok (.aload_n 0, 1) := by decide +kernel
theorem dX10_part_20 : decode cX10_part 20 = .ok (.getfield 15, 3) := by decide +kernel
theorem dX10_part_23 : decode cX10_part 23 = .ok (.getfield 197, 3) := by decide +kernel
theorem dX10_part_26 : decode cX10_part 26 = .ok (.iload_n 1, 1) := by decide +kernel
theorem dX10_part_27 : decode cX10_part 27 = .ok (.iaload, 1) := by decide +kernel
theorem dX10_part_28 : decode cX10_part 28 = .ok (.iaload, 1) := by decide +kernel
theorem dX10_part_29 : decode cX10_part 29 = .ok (.invokestatic 66, 3) := by decide +kernel
theorem dX10_part_32 : decode cX10_part 32 = .ok (.ifCond .ne 13, 3) := by decide +kernel
theorem dX10_part_35 : decode cX10_part 35 = .ok (.new 209, 3) := by decide +kernel
theorem dX10_part_38 : decode cX10_part 38 = .ok (.dup, 1) := by decide +kernel
theorem dX10_part_39 : decode cX10_part 39 = .ok (.ldc 211, 2) := by decide +kernel
theorem dX10_part_41 : decode cX10_part 41 = .ok (.invokespecial 213, 3) := by decide +kernel
theorem dX10_part_44 : decode cX10_part 44 = .ok (.athrow, 1) := by decide +kernel
theorem dX10_part_45 : decode cX10_part 45 = .ok (.iload_n 2, 1) := by decide +kernel
theorem dX10_part_46 : decode cX10_part 46 = .ok (.ifCond .ne 15, 3) := by decide +kernel
theorem dX10_part_49 : decode cX10_part 49 = .ok (.aload_n 0, 1) := by decide +kernel
theorem dX10_part_50 : decode cX10_part 50 = .ok (.getfield 15, 3) := by decide +kernel
theorem dX10_part_53 : decode cX10_part 53 = .ok (.getfield 216, 3) := by decide +kernel
theorem dX10_part_56 : decode cX10_part 56 = .ok (.iload_n 1, 1) := by decide +kernel
theorem dX10_part_57 : decode cX10_part 57 = .ok (.iaload, 1) := by decide +kernel
theorem dX10_part_58 : decode cX10_part 58 = .ok (.goto 12, 3) := by decide +kernel
theorem dX10_part_61 : decode cX10_part 61 = .ok (.aload_n 0, 1) := by decide +kernel
theorem dX10_part_62 : decode cX10_part 62 = .ok (.getfield 15, 3) := by decide +kernel
theorem dX10_part_65 : decode cX10_part 65 = .ok (.getfield 219, 3) := by decide +kernel
theorem dX10_part_68 : decode cX10_part 68 = .ok (.iload_n 1, 1) := by decide +kernel
theorem dX10_part_69 : decode cX10_part 69 = .ok (.iaload, 1) := by decide +kernel
theorem dX10_part_70 : decode cX10_part 70 = .ok (.ireturn, 1) := by decide +kernel
theorem dL_part_0 : decode cL_part 0 = .ok (.aload_n 3, 1) := by decide +kernel
theorem dL_part_1 : decode cL_part 1 = .ok (.iconst 0, 1) := by decide +kernel
theorem dL_part_2 : decode cL_part 2 = .ok (.aload_n 0, 1) := by decide +kernel
theorem dL_part_3 : decode cL_part 3 = .ok (.iload_n 1, 1) := by decide +kernel
theorem dL_part_4 : decode cL_part 4 = .ok (.iload_n 2, 1) := by decide +kernel
theorem dL_part_5 : decode cL_part 5 = .ok (.invokevirtual 7, 3) := by decide +kernel
theorem dL_part_8 : decode cL_part 8 = .ok (.i2l, 1) := by decide +kernel
theorem dL_part_9 : decode cL_part 9 = .ok (.lastore, 1) := by decide +kernel
theorem dL_part_10 : decode cL_part 10 = .ok (.goto 7, 3) := by decide +kernel
theorem dL_part_13 : decode cL_part 13 = .ok (.astore 4, 2) := by decide +kernel
theorem dL_part_15 : decode cL_part 15 = .ok (.iconst 1, 1) := by decide +kernel
theorem dL_part_16 : decode cL_part 16 = .ok (.ireturn, 1) := by decide +kernel
theorem dL_part_17 : decode cL_part 17 = .ok (.iconst 0, 1) := by decide +kernel
theorem dL_part_18 : decode cL_part 18 = .ok (.ireturn, 1) := by decide +kernel
theorem r_iretP {V : Ev} {p : Program} {l : Launch} {e : Env} {R : Room} {s : State} {m : MethodId} {args : Array Value} {below : List Frame} {meth : Method} {c : Code} {H : Heap} {locs : List Loc} {cc : ByteArray} {nL : Nat} {own : String} {w : Wd} {pc : Nat} {ls : Array Slot} {v : Int32} {x : Wd × Option Int32} (X : CX V p s m args meth c cc nL own (some .int)) (hH : wH V (cC V) (AC V) s w H locs) (h : some (w, some v) = some x) (dg : decode cc pc = .ok (.ireturn, 1)) :
    W p l e R s m args below meth c H locs 0 0 (vx_MQ below (QcP V s.heap.size x) (XcP V s.heap.size x) args s 1 6 (A9 V s.heap.size)) (F0 m pc ls [.int v]) := by
  cases h
  refine W.widen (k := 1) (n := 6) (Nat.zero_le _) (Nat.zero_le _) ?_
  refine vx_ret ?_
  have hS := hH.2.2.mono (B := A9 V s.heap.size) (fun q h => Or.inl h)
  exact W.iret X.1 X.2.1 X.2.2.2.2.2.1 (fun t ht _ => ⟨⟨v, w, rfl, ⟨rfl, rfl⟩, by show va_P V.1 clsAll (cC V w) t.heap; rw [ht]; exact hH.1⟩, hS.F ht⟩) hS.2.2 dg (hlocks := X.2.2.2.2.2.2.1)
set_option maxHeartbeats 4000000 in
theorem kX10_part_0 {V : Ev} {p : Program} {l : Launch} {e : Env} {N d sa : Nat} {s : State} {m : MethodId} {args : Array Value} {below : List Frame} {meth : Method} {c : Code} {z : Wd × Option Int32} (htr : l.stackTraces = false) (hD1 : ∀ w, va_D (AC V) (cC V w)) (X : CX V p s m args meth c cX10_part 3 RX10 (some .int)) (htab : ∀ x ∈ c.exceptionTable.toList, False) (hKP : KP sa s) (hZ : zU (A9 V s.heap.size) s s.heap) {w : Wd} {x1 x2 : Int32} {H : Heap} {locs : List Loc} {ls : Array Slot} (h : eX10_part N (d + 1) w x1 x2 = some z) (hH : wH V (cC V) (AC V) s w H locs) (hl : lv_has ls 3 [(0, .ref (V.2.2 0)), (1, .int x1), (2, .int x2)]) :
    W p l e (rmP (d + 1)) s m args below meth c H locs 0 0 (vx_MQ below (QcP V s.heap.size z) (XcP V s.heap.size z) args s 1 6 (A9 V s.heap.size)) (F0 m 0 ls []) := by
  have h : (c_cl (eX10_isTerm N d w x1) fun w1 v2 => if v2 = 0 then some (w1, some (-2)) else (c_ld w1 14 1000 x1 fun v3 => c_ld w1 12 18 v3 fun v4 => c_cl (eX10_isWithin N d w1 x2 v4) fun w5 v6 => if v6 = 0 then some (w5, none) else bX10_part_45 w5 x1 x2)) = some z := h
  obtain ⟨hx, hb, hml, hown, hg, hrt, hlk, hK⟩ := id X
  have hR : d + 1 ≤ (rmP (d + 1)).frames ∧ 46 * (d + 1) ≤ (rmP (d + 1)).locals := ⟨by show d + 1 ≤ d + 1 + 8; omega, by show 46 * (d + 1) ≤ 46 * (d + 1) + 200; omega⟩
  have hf : 0 ≤ (rmP (d + 1)).cells ∧ 0 ≤ (rmP (d + 1)).slots := ⟨Nat.zero_le _, Nat.zero_le _⟩
  refine lv_aload_n (pc := 0) hx hb dX10_part_0 rfl (lv_at hl 0 rfl) ?_
  refine lv_iload_n (pc := 1) hx hb dX10_part_1 rfl (lv_at hl 1 rfl) ?_
  obtain ⟨y1, hy1, h⟩ := c_cl_ex h
  refine q_kI (pc := 2) (A1 := AC V) (A0 := AC V) (H0 := s.heap) (cw := cC V) (x := y1) (V := V) (rest := []) (fun _ h => h) hH.2.2 (q_run (pc := 2) (q := 0) (As := [.int x1]) (rest := []) X hH.1 (hD1 w) (mX10_isTerm hy1) cw_X10_82 (heC_0 V w) rfl rfl rfl (Nat.le_of_ble_eq_true rfl) hl.1 hR hf dX10_part_2) (fun H locs hP hD _ _ hS => ?_)
  obtain ⟨w1, v2⟩ := y1
  have hH : wH V (cC V) (AC V) s w1 H locs := ⟨hP, hD, hS⟩
  refine b_if_ne (pc := 5) (tgt := 11) hx hb h dX10_part_5 (by decide) (fun h => ?_) (fun h => ?_)
  · refine lv_iload_n (pc := 11) hx hb dX10_part_11 rfl (lv_at hl 2 rfl) ?_
    refine lv_aload_n (pc := 12) hx hb dX10_part_12 rfl (lv_at hl 0 rfl) ?_
    refine gC_X10_15_0 (pc := 13) X hH dX10_part_13 ?_
    refine gC_X10_78_1 (pc := 16) X hH dX10_part_16 ?_
    refine lv_aload_n (pc := 19) hx hb dX10_part_19 rfl (lv_at hl 0 rfl) ?_
    refine gC_X10_15_0 (pc := 20) X hH dX10_part_20 ?_
    refine gC_X10_197_1 (pc := 23) X hH dX10_part_23 ?_
    refine lv_iload_n (pc := 26) hx hb dX10_part_26 rfl (lv_at hl 1 rfl) ?_
    refine r_ld (pc := 27) X (heC_14 V w1) hH h dX10_part_27 (fun v3 h => ?_)
    refine r_ld (pc := 28) X (heC_12 V w1) hH h dX10_part_28 (fun v4 h => ?_)
    obtain ⟨y5, hy5, h⟩ := c_cl_ex h
    refine q_kI (pc := 29) (A1 := AC V) (A0 := AC V) (H0 := s.heap) (cw := cC V) (x := y5) (V := V) (rest := []) (fun _ h => h) hH.2.2 (q_runS (pc := 29) (As := [.int x2, .int v4]) (rest := []) X hH.1 (hD1 w1) (mX10_isWithin hy5) cs_X10_66 rfl rfl (Nat.le_of_ble_eq_true rfl) hl.1 hR hf dX10_part_29) (fun H locs hP hD _ _ hS => ?_)
    obtain ⟨w5, v6⟩ := y5
    have hH : wH V (cC V) (AC V) s w5 H locs := ⟨hP, hD, hS⟩
    refine b_if_ne (pc := 32) (tgt := 45) hx hb h dX10_part_32 (by decide) (fun h => ?_) (fun h => ?_)
    · have h : (if x2 = 0 then (c_ld w5 15 1000 x1 fun v7 => some (w5, some v7)) else (c_ld w5 16 1000 x1 fun v8 => some (w5, some v8))) = some z := h
      refine lv_iload_n (pc := 45) hx hb dX10_part_45 rfl (lv_at hl 2 rfl) ?_
      refine b_if_ne (pc := 46) (tgt := 61) hx hb h dX10_part_46 (by decide) (fun h => ?_) (fun h => ?_)
      · refine lv_aload_n (pc := 61) hx hb dX10_part_61 rfl (lv_at hl 0 rfl) ?_
        refine gC_X10_15_0 (pc := 62) X hH dX10_part_62 ?_
        refine gC_X10_219_1 (pc := 65) X hH dX10_part_65 ?_
        refine lv_iload_n (pc := 68) hx hb dX10_part_68 rfl (lv_at hl 1 rfl) ?_
        refine r_ld (pc := 69) X (heC_16 V w5) hH h dX10_part_69 (fun v8 h => ?_)
        exact r_iretP (pc := 70) X hH h dX10_part_70
      · refine lv_aload_n (pc := 49) hx hb dX10_part_49 rfl (lv_at hl 0 rfl) ?_
        refine gC_X10_15_0 (pc := 50) X hH dX10_part_50 ?_
        refine gC_X10_216_1 (pc := 53) X hH dX10_part_53 ?_
        refine lv_iload_n (pc := 56) hx hb dX10_part_56 rfl (lv_at hl 1 rfl) ?_
        refine r_ld (pc := 57) X (heC_15 V w5) hH h dX10_part_57 (fun v8 h => ?_)
        refine lv_goto (pc := 58) (tgt := 70) hx hb dX10_part_58 (by decide) ?_
        exact r_iretP (pc := 70) X hH h dX10_part_70
    · have hS9 := hH.2.2.mono (B := A9 V s.heap.size) (fun q h => Or.inl h)
      cases h
      refine vx_throwS (pc := 35) (ik := 209) (is := 211) (ic := 213) (cls := aioN) (text := "no such PART") (names := nmX) (sa := sa) (A := A9 V s.heap.size) hx hb htr hown (by decide +kernel) (by decide +kernel) (hg _ wP_cl) (hg _ wP_in) hKP.2.2.2.2.2 (hKP.hat hg) atP_ot hZ.1 hZ.2 hS9 (by rw [hml]; exact hl.1) dX10_part_35 dX10_part_38 dX10_part_39 dX10_part_41 dX10_part_44 (fun x hx9 => (htab x hx9).elim) (by show 3 + 3 < d + 1 + 8; omega) (by show 0 + (13 * (3 + 1) + 43) ≤ 46 * (d + 1) + 200; omega) (Nat.le_refl _) (Nat.le_refl _) hlk (fun t _ hz hk => ⟨w5, ⟨rfl, rfl⟩, ⟨rfl, hH.1.kept (fun k q9 hq9 => hk q9.1 ((hH.1 k q9 hq9).lt))⟩, Nat.le_trans hS9.1 hz, fun q9 h1 h2 => (hk q9 (Nat.lt_of_lt_of_le h1 hS9.1)).trans (hS9.2.1 q9 h1 h2)⟩) hS9.2.2 (Nat.le_refl _) (Nat.le_refl _)
  · refine lv_bipush (pc := 8) (v := -2) hx hb dX10_part_8 (by decide) ?_
    exact r_iretP (pc := 10) X hH h dX10_part_10
set_option maxHeartbeats 4000000 in
theorem mX10_part {l : Launch} {V : Ev} {N d sa : Nat} {w : Wd} {x1 x2 : Int32} {z : Wd × Option Int32} (htr : l.stackTraces = false) (hD1 : ∀ w, va_D (AC V) (cC V w)) (sz : Nat) (h : eX10_part N d w x1 x2 = some z) : vx_Met l yX10_part (.code yX10_part cX10_part 3 (some .int) :: gG) (rmP d) (PcP V sa sz [.ref (V.2.2 0), .int x1, .int x2] w) (QcP V sz z) (XcP V sz z) 1 6 (A9 V sz) := by
  cases d with
  | zero => exact c_none h
  | succ d =>
    refine vx_ofW (cc := cX10_part) (maxL := 3) (ret := some .int) (by decide) rfl ?_
    intro p e s m args below meth c s₁ B hml htab hv
    obtain ⟨rfl, rfl, hP, hK, hKP, hZ⟩ := hv
    have hts := atoms_spec (ws := .code yX10_part cX10_part 3 (some .int) :: gG) B.pre
    have X : CX V p s m ([.ref (V.2.2 0), .int x1, .int x2] : List Value).toArray meth c cX10_part 3 RX10 (some .int) := ⟨B.exec, B.bytes, hml, findClass_of_methodNamed B.named, fun w hw => hts w (List.mem_cons_of_mem _ hw), B.returns, B.notSynchronized, hK⟩
    have hl := lv_entry ([.ref (V.2.2 0), .int x1, .int x2] : List Value) (n := 3) (Nat.le_of_ble_eq_true rfl)
    rw [lg_entry_eq]
    generalize (lg_sl ([.ref (V.2.2 0), .int x1, .int x2] : List Value) ++ List.replicate (3 - (lg_sl ([.ref (V.2.2 0), .int x1, .int x2] : List Value)).length) Slot.unset).toArray = ls at hl ⊢
    have hl : lv_has ls 3 [(0, .ref (V.2.2 0)), (1, .int x1), (2, .int x2)] := hl
    exact kX10_part_0 (N := N) htr hD1 X htab hKP hZ h ⟨hP, hD1 w, va_S.rf⟩ hl
