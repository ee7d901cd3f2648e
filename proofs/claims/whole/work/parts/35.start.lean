theorem cC_at {V : Ev} {w : Wd} {k : Nat} {q : Nat × va_E} (h : (cC V w)[k]? = some q) : q.1 = V.2.2 k ∧ k < 59 := by
  have hl : k < 59 := (List.getElem?_eq_some_iff.mp h).1
  have h1 : ((cC V w).map Prod.fst)[k]? = some q.1 := by rw [List.getElem?_map, h]; rfl
  rw [show (cC V w).map Prod.fst = (List.range 59).map V.2.2 from rfl, List.getElem?_map, List.getElem?_range hl] at h1
  exact ⟨(Option.some.inj h1).symm, hl⟩
theorem cM_at {V : Ev} {w : Wd} {k : Nat} {q : Nat × va_E} (h : (cM V w)[k]? = some q) : q.1 = V.2.2 k ∧ k < 34 := by
  have hl : k < 34 := (List.getElem?_eq_some_iff.mp h).1
  have h1 : ((cM V w).map Prod.fst)[k]? = some q.1 := by rw [List.getElem?_map, h]; rfl
  rw [show (cM V w).map Prod.fst = (List.range 34).map V.2.2 from rfl, List.getElem?_map, List.getElem?_range hl] at h1
  exact ⟨(Option.some.inj h1).symm, hl⟩
theorem cC_D {V : Ev} {A : Nat → Prop} {w0 : Wd} (h : va_D A (cC V w0)) (w : Wd) : va_D (AC V) (cC V w) := by
  refine ⟨fun i j p q hi hj hpq => ?_, fun k q hk => ⟨k, (cC_at hk).2, (cC_at hk).1⟩⟩
  obtain ⟨e1, l1⟩ := cC_at hi
  obtain ⟨e2, l2⟩ := cC_at hj
  have a1 : (cC V w0)[i]? = some (cC V w0)[i] := List.getElem?_eq_getElem l1
  have a2 : (cC V w0)[j]? = some (cC V w0)[j] := List.getElem?_eq_getElem l2
  exact h.1 i j _ _ a1 a2 (by rw [(cC_at a1).1, (cC_at a2).1, ← e1, ← e2]; exact hpq)
theorem cM_D {V : Ev} {A : Nat → Prop} {w0 : Wd} (h : va_D A (cM V w0)) (w : Wd) : va_D (AM V) (cM V w) := by
  refine ⟨fun i j p q hi hj hpq => ?_, fun k q hk => ⟨k, (cM_at hk).2, (cM_at hk).1⟩⟩
  obtain ⟨e1, l1⟩ := cM_at hi
  obtain ⟨e2, l2⟩ := cM_at hj
  have a1 : (cM V w0)[i]? = some (cM V w0)[i] := List.getElem?_eq_getElem l1
  have a2 : (cM V w0)[j]? = some (cM V w0)[j] := List.getElem?_eq_getElem l2
  exact h.1 i j _ _ a1 a2 (by rw [(cM_at a1).1, (cM_at a2).1, ← e1, ← e2]; exact hpq)
theorem AC_mem {V : Ev} {q : Nat} (h : AC V q) (w : Wd) : ∃ (k : Nat) (x : Nat × va_E), k < 59 ∧ (cC V w)[k]? = some x ∧ x.1 = q := by
  obtain ⟨k, hk, rfl⟩ := h
  have a1 : (cC V w)[k]? = some (cC V w)[k] := List.getElem?_eq_getElem hk
  exact ⟨k, _, hk, a1, (cC_at a1).1⟩
theorem AM_mem {V : Ev} {q : Nat} (h : AM V q) (w : Wd) : ∃ (k : Nat) (x : Nat × va_E), k < 34 ∧ (cM V w)[k]? = some x ∧ x.1 = q := by
  obtain ⟨k, hk, rfl⟩ := h
  have a1 : (cM V w)[k]? = some (cM V w)[k] := List.getElem?_eq_getElem hk
  exact ⟨k, _, hk, a1, (cM_at a1).1⟩
theorem arr_known {s : State} {args : Array Value} {ty : FieldType} (hty : ∀ C, ty ≠ .object C) (h : (Cond.arrayClass ty).before args s = true) : ∃ cA : ClassId, ArrOfT s cA ty ∧ va_RA s cA ty := by
  obtain ⟨cA, kA, comp, h1, h2, h3⟩ := Cond.arrayClass_spec h
  refine ⟨cA, fun n z => ⟨fun k h => (by cases h), kA, h2, comp, h3⟩, ?_⟩
  cases ty with
  | object C => exact absurd rfl (hty C)
  | _ => exact h1
theorem nst_of {i : Nat} {w : Cond} {s : State} {args : Array Value} (hts : ∀ w ∈ lw_tbl, w.before args s = true) (h : tables_1[i]? = some w) (ho : w.onTables = true) : va_Nw w s := va_Nw.of ho (hts _ (List.mem_append_right _ (List.mem_of_getElem? h)))
set_option maxHeartbeats 8000000 in
set_option maxRecDepth 100000 in
/-- THE LAW, from its entry, over a relation that the calls keep -/
theorem whole_start {p : Program} {e : Env} {s : State} {m : MethodId} {below : List Frame} {meth : Method} {c : Code} (l : Launch) (htr : l.stackTraces = false) {N : Nat} {I : Nat → Wd → Wd → Prop} (h0 : I 0 wC0 wM0) (hops : OpsOK N 2000 I) {b L : Nat} {xs : Nat → Int32} (hL : L ≤ 2560) (C0 : lw_At p s m meth c b L xs) : W p l e room_1 s m #[Value.ref b] below meth c s.heap [] 0 0 (lw_Z below #[Value.ref b] s) (entryFrame m ([Value.ref b] : List Value).toArray 7) := by
  obtain ⟨hx, hb, hr, hml, hown, hts, hX, hbl, hlocks, hgv⟩ := id C0
  have hg : ∀ w ∈ gG, w.before #[Value.ref b] s = true := fun w hw => hts w (gG_in hw)
  have hs9 := flat_of_before _ hgv
  obtain ⟨cX0, iX0, hKnX0⟩ := u_known (C := RX0) (T := TX0) (N := 2) (n := 2) hg inX0 (hg (.instantiable RX0 2) wT_191)
  obtain ⟨cX1, iX1, hKnX1⟩ := u_known (C := RX1) (T := TX1) (N := 13) (n := 13) hg inX1 (hg (.instantiable RX1 13) wT_204)
  obtain ⟨cX2, iX2, hKnX2⟩ := u_known (C := RX2) (T := TX2) (N := 9) (n := 9) hg inX2 (hg (.instantiable RX2 9) wT_210)
  obtain ⟨cX3, iX3, hKnX3⟩ := u_known (C := RX3) (T := TX3) (N := 9) (n := 9) hg inX3 (hg (.instantiable RX3 9) wT_136)
  obtain ⟨cX4, iX4, hKnX4⟩ := u_known (C := RX4) (T := TX4) (N := 4) (n := 4) hg inX4 (hg (.instantiable RX4 4) wT_104)
  obtain ⟨cX5, iX5, hKnX5⟩ := u_known (C := RX5) (T := TX5) (N := 9) (n := 9) hg inX5 (hg (.instantiable RX5 9) wT_247)
  obtain ⟨cX6, iX6, hKnX6⟩ := u_known (C := RX6) (T := TX6) (N := 3) (n := 3) hg inX6 (hg (.instantiable RX6 3) wT_142)
  obtain ⟨cX7, iX7, hKnX7⟩ := u_known (C := RX7) (T := TX7) (N := 6) (n := 6) hg inX7 (hg (.instantiable RX7 6) wT_364)
  obtain ⟨cX8, iX8, hKnX8⟩ := u_known (C := RX8) (T := TX8) (N := 13) (n := 13) hg inX8 (hg (.instantiable RX8 13) wT_30)
  obtain ⟨cX9, iX9, hKnX9⟩ := u_known (C := RX9) (T := TX9) (N := 8) (n := 8) hg inX9 (hg (.instantiable RX9 8) wT_291)
  obtain ⟨cX10, iX10, hKnX10⟩ := u_known (C := RX10) (T := TX10) (N := 7) (n := 7) hg inX10 (hg (.instantiable RX10 7) wT_22)
  obtain ⟨cX11, iX11, hKnX11⟩ := u_known (C := RX11) (T := TX11) (N := 51) (n := 51) hg inX11 (hg (.instantiable RX11 51) wT_885)
  obtain ⟨dC, dI, hKc⟩ : ∃ (dC : Nat → ClassId) (dI : Nat → Nat → Nat), ∀ (k : Nat) (q : vw_C), clsAll[k]? = some q → u_Kn s q.1 q.2.1 q.2.2 (dC k) (dI k) := by
    refine ⟨fun k => ([cX0, cX1, cX2, cX3, cX4, cX5, cX6, cX7, cX8, cX9, cX10, cX11] : List ClassId).getD k 0, fun k => ([iX0, iX1, iX2, iX3, iX4, iX5, iX6, iX7, iX8, iX9, iX10, iX11] : List (Nat → Nat)).getD k (fun _ => 0), ?_⟩
    intro k q hq
    match k, hq with
    | 0, hq => cases hq; exact hKnX0
    | 1, hq => cases hq; exact hKnX1
    | 2, hq => cases hq; exact hKnX2
    | 3, hq => cases hq; exact hKnX3
    | 4, hq => cases hq; exact hKnX4
    | 5, hq => cases hq; exact hKnX5
    | 6, hq => cases hq; exact hKnX6
    | 7, hq => cases hq; exact hKnX7
    | 8, hq => cases hq; exact hKnX8
    | 9, hq => cases hq; exact hKnX9
    | 10, hq => cases hq; exact hKnX10
    | 11, hq => cases hq; exact hKnX11
    | k + 12, hq => simp [clsAll] at hq
  obtain ⟨kI, hkI1, hkI2⟩ := arr_known (ty := .int) (fun C h => by cases h) (hg _ wA_int)
  obtain ⟨kJ, hkJ1, hkJ2⟩ := arr_known (ty := .long) (fun C h => by cases h) (hg _ wA_long)
  obtain ⟨kZ, hkZ1, hkZ2⟩ := arr_known (ty := .boolean) (fun C h => by cases h) (hg _ wA_boolean)
  obtain ⟨V, hV⟩ : ∃ V : Ev, V = ((dC, dI), (fun k => ([kI, kJ, kZ] : List ClassId).getD k 0), fun _ => 0) := ⟨_, rfl⟩
  have hKK : va_K V.1 clsAll (tysV V) s := by
    subst hV
    refine ⟨hKc, fun k q h => ?_⟩
    match k, h with
    | 0, h => cases h; exact ⟨hkI1, hkI2⟩
    | 1, h => cases h; exact ⟨hkJ1, hkJ2⟩
    | 2, h => cases h; exact ⟨hkZ1, hkZ2⟩
    | k + 3, h => simp at h
  have hKX : KX V s := ⟨hKK, nst_of (i := 537) hts (by decide +kernel) rfl, nst_of (i := 628) hts (by decide +kernel) rfl⟩
  have hKI : KI V s := ⟨hKX, nst_of (i := 105) hts (by decide +kernel) rfl, nst_of (i := 143) hts (by decide +kernel) rfl, nst_of (i := 211) hts (by decide +kernel) rfl, nst_of (i := 392) hts (by decide +kernel) rfl⟩
  obtain ⟨sa, -, -, -, hsa, -⟩ := Cond.exactly_spec (show (Cond.exactly (.string "RewriteChecks" 211) "java/lang/String").holds #[Value.ref b] s none s [] = true from hs9 _ (by decide +kernel))
  have hKP : KP sa s := ⟨nst_of (i := 854) hts (by decide +kernel) rfl, nst_of (i := 856) hts (by decide +kernel) rfl, nst_of (i := 858) hts (by decide +kernel) rfl, nst_of (i := 860) hts (by decide +kernel) rfl, nst_of (i := 852) hts (by decide +kernel) rfl, vk_R.of (hts (.stringRef RX10 211 "no such PART") (List.mem_append_right _ (List.mem_of_getElem? (i := 882) (by decide +kernel)))) hsa⟩
  have hZ : zU (fun q => s.heap.size ≤ q) s s.heap := ⟨vx_Zqof (hts _ (List.mem_append_right _ (List.mem_of_getElem? (i := 821) (by decide +kernel)))) (hts _ (List.mem_append_right _ (List.mem_of_getElem? (i := 15) (by decide +kernel)))) (hs9 _ (by decide +kernel)) (fun a h h2 => absurd h (Nat.not_lt.mpr h2)), vx_Zqof (hts _ (List.mem_append_right _ (List.mem_of_getElem? (i := 823) (by decide +kernel)))) (hts _ (List.mem_append_right _ (List.mem_of_getElem? (i := 15) (by decide +kernel)))) (hs9 _ (by decide +kernel)) (fun a h h2 => absurd h (Nat.not_lt.mpr h2))⟩
  have hA : ∀ q : Nat, s.heap.size ≤ q → (fun q : Nat => s.heap.size ≤ q) q := fun _ h => h
  have hS : va_S (fun q : Nat => s.heap.size ≤ q) s.heap s.heap [] := va_S.rf
  have hP : va_P V.1 clsAll [] s.heap := fun k q h => by simp at h
  have hD : va_D (fun q : Nat => s.heap.size ≤ q) [] := ⟨fun i j p q h => by simp at h, fun k q h => by simp at h⟩
  have X : CX V p s m #[Value.ref b] meth c code 7 RL (some .boolean) := ⟨hx, hb, hml, hown, hg, hr, hlocks, hKX⟩
  have hl := lv_entry ([.ref b]) (n := 7) (Nat.le_of_ble_eq_true rfl)
  rw [lg_entry_eq]
  generalize (lg_sl ([.ref b]) ++ List.replicate (7 - (lg_sl ([.ref b])).length) Slot.unset).toArray = ls at hl ⊢
  have hl : lv_has ls 7 [(0, .ref b)] := hl
  refine va_new (pc := 0) (ci := 10) (fs := [.null, .null, .null, .null, .null, .null, .null]) (C := RX10) (T := TX10) (N := 7) hx hb hg inX10 tyX10 tyX10_ok hown (hg _ wJ_21) (hg _ wT_22) (hg _ wI_1) hKK hP hD hS hA rfl (fun j hj => by rcases (show j = 0 ∨ j = 1 ∨ j = 2 ∨ j = 3 ∨ j = 4 ∨ j = 5 ∨ j = 6 by omega) with rfl | rfl | rfl | rfl | rfl | rfl | rfl <;> rfl) (Nat.le_of_ble_eq_true rfl) (Nat.le_of_ble_eq_true rfl) dL_law_0 (fun q0 H hP hD hS => ?_)
  refine W.widen (k := 1) (n := 7) (Nat.le_of_ble_eq_true rfl) (Nat.le_of_ble_eq_true rfl) ?_
  have hP : va_P V.1 clsAll [(q0, .inr (10, [.null, .null, .null, .null, .null, .null, .null]))] H := hP
  have hD : va_D (fun q : Nat => s.heap.size ≤ q) [(q0, .inr (10, [.null, .null, .null, .null, .null, .null, .null]))] := hD
  refine lv_dup (pc := 3) hx hb dL_law_3 rfl ?_
  have hPc := hP
  have hDc := hD
  have hFc := va_free (wc := [(q0, .inr (10, [.null, .null, .null, .null, .null, .null, .null]))]) hD hS hA [0] rfl
  refine va_callv (pc := 4) (va_runI (As := []) (rest := [.ref q0]) ⟨hx, hb, hml, hown, hg⟩ (miX10 (l := l) (V := V) q0 H.size) (cwI 0 hg (gi_code wC_25) rfl rfl rfl (hg _ wI_1) (hg _ wM_23) (hg _ wN_24) rfl (by decide +kernel) ⟨Nat.le_of_ble_eq_true rfl, Nat.le_of_ble_eq_true rfl⟩) ⟨fun a U g mk q => ⟨q.1, q.2.1, q.2.2.1, q.2.2.2.1, q.2.2.2.2.same rfl⟩, fun U hU hW => ⟨rfl, by rw [hU], by rw [hU]; exact hPc, hDc.weaken (fun _ _ _ _ => trivial), hKI.warm hW⟩⟩ rfl rfl hl.1 rfl (lv_room (Nat.le_of_ble_eq_true rfl)) dL_law_4 ⟨Nat.le_of_ble_eq_true rfl, Nat.le_of_ble_eq_true rfl⟩) hS (fun q _ h => hFc q h) hFc (fun a1 t H1 locs ht hvm hw hB hz1 hk1 hS => ?_)
  obtain ⟨hP1, hD1⟩ := hB
  rw [ht] at hP1
  obtain ⟨V1, hV1⟩ : ∃ V1 : Ev, V1 = (V.1, V.2.1, adC q0 a1) := ⟨_, rfl⟩
  have hP : va_P V.1 clsAll (cC V1 wC0) H1 := by rw [hV1]; exact finC_P hP1
  have hD : va_D (fun q : Nat => s.heap.size ≤ q) (cC V1 wC0) := by rw [hV1]; exact finC_D (hD1.weaken (fun _ _ _ h => hFc _ h))
  have hq0 : V1.2.2 0 = q0 := by rw [hV1]; rfl
  have hV1a : V1.1 = V.1 := by rw [hV1]
  have hV1b : V1.2.1 = V.2.1 := by rw [hV1]
  clear hP1 hD1 hPc hDc hFc
  generalize H1 = H at hP hS hz1 hk1 ⊢
  refine W.widen (k := 59) (n := 14000) (Nat.le_of_ble_eq_true rfl) (Nat.le_of_ble_eq_true rfl) ?_
  refine lv_astore_n (pc := 7) (lv' := [(1, .ref q0), (0, .ref b)]) hx hb dL_law_7 rfl hl (by decide) rfl (fun ls hl => ?_)
  refine va_new (pc := 8) (ci := 11) (fs := [.int 0, .int 0, .null, .null, .int 0, .null, .null, .null, .null, .null, .null, .int 0, .null, .null, .null, .int 0, .null, .null, .null, .int 0, .int 0, .int 0, .long 0, .int 0, .null, .null, .int 0, .null, .null, .null, .null, .int 0, .int 0, .null, .int 0, .int 0, .null, .null, .null, .null, .null, .int 0, .null, .null, .int 0, .null, .null, .null, .null, .int 0, .null]) (C := RX11) (T := TX11) (N := 51) hx hb hg inX11 tyX11 tyX11_ok hown (hg _ wJ_884) (hg _ wT_885) (hg _ wI_12) hKK hP hD hS hA rfl (fun j hj => by rcases (show j = 0 ∨ j = 1 ∨ j = 2 ∨ j = 3 ∨ j = 4 ∨ j = 5 ∨ j = 6 ∨ j = 7 ∨ j = 8 ∨ j = 9 ∨ j = 10 ∨ j = 11 ∨ j = 12 ∨ j = 13 ∨ j = 14 ∨ j = 15 ∨ j = 16 ∨ j = 17 ∨ j = 18 ∨ j = 19 ∨ j = 20 ∨ j = 21 ∨ j = 22 ∨ j = 23 ∨ j = 24 ∨ j = 25 ∨ j = 26 ∨ j = 27 ∨ j = 28 ∨ j = 29 ∨ j = 30 ∨ j = 31 ∨ j = 32 ∨ j = 33 ∨ j = 34 ∨ j = 35 ∨ j = 36 ∨ j = 37 ∨ j = 38 ∨ j = 39 ∨ j = 40 ∨ j = 41 ∨ j = 42 ∨ j = 43 ∨ j = 44 ∨ j = 45 ∨ j = 46 ∨ j = 47 ∨ j = 48 ∨ j = 49 ∨ j = 50 by omega) with rfl | rfl | rfl | rfl | rfl | rfl | rfl | rfl | rfl | rfl | rfl | rfl | rfl | rfl | rfl | rfl | rfl | rfl | rfl | rfl | rfl | rfl | rfl | rfl | rfl | rfl | rfl | rfl | rfl | rfl | rfl | rfl | rfl | rfl | rfl | rfl | rfl | rfl | rfl | rfl | rfl | rfl | rfl | rfl | rfl | rfl | rfl | rfl | rfl | rfl | rfl <;> rfl) (Nat.le_of_ble_eq_true rfl) (Nat.le_of_ble_eq_true rfl) dL_law_8 (fun q1 H hP hD hS => ?_)
  refine W.widen (k := 60) (n := 14051) (Nat.le_of_ble_eq_true rfl) (Nat.le_of_ble_eq_true rfl) ?_
  have hP : va_P V.1 clsAll (cC V1 wC0 ++ [(q1, .inr (11, [.int 0, .int 0, .null, .null, .int 0, .null, .null, .null, .null, .null, .null, .int 0, .null, .null, .null, .int 0, .null, .null, .null, .int 0, .int 0, .int 0, .long 0, .int 0, .null, .null, .int 0, .null, .null, .null, .null, .int 0, .int 0, .null, .int 0, .int 0, .null, .null, .null, .null, .null, .int 0, .null, .null, .int 0, .null, .null, .null, .null, .int 0, .null]))]) H := hP
  have hD : va_D (fun q : Nat => s.heap.size ≤ q) (cC V1 wC0 ++ [(q1, .inr (11, [.int 0, .int 0, .null, .null, .int 0, .null, .null, .null, .null, .null, .null, .int 0, .null, .null, .null, .int 0, .null, .null, .null, .int 0, .int 0, .int 0, .long 0, .int 0, .null, .null, .int 0, .null, .null, .null, .null, .int 0, .int 0, .null, .int 0, .int 0, .null, .null, .null, .null, .null, .int 0, .null, .null, .int 0, .null, .null, .null, .null, .int 0, .null]))]) := hD
  refine lv_dup (pc := 11) hx hb dL_law_11 rfl ?_
  have hPc := hP.sub (ws' := [(q1, .inr (11, [.int 0, .int 0, .null, .null, .int 0, .null, .null, .null, .null, .null, .null, .int 0, .null, .null, .null, .int 0, .null, .null, .null, .int 0, .int 0, .int 0, .long 0, .int 0, .null, .null, .int 0, .null, .null, .null, .null, .int 0, .int 0, .null, .int 0, .int 0, .null, .null, .null, .null, .null, .int 0, .null, .null, .int 0, .null, .null, .null, .null, .int 0, .null]))]) [59] rfl
  have hDc := hD.sub (ws' := [(q1, .inr (11, [.int 0, .int 0, .null, .null, .int 0, .null, .null, .null, .null, .null, .null, .int 0, .null, .null, .null, .int 0, .null, .null, .null, .int 0, .int 0, .int 0, .long 0, .int 0, .null, .null, .int 0, .null, .null, .null, .null, .int 0, .int 0, .null, .int 0, .int 0, .null, .null, .null, .null, .null, .int 0, .null, .null, .int 0, .null, .null, .null, .null, .int 0, .null]))]) [59] (by decide) rfl
  have hFc := va_free (wc := [(q1, .inr (11, [.int 0, .int 0, .null, .null, .int 0, .null, .null, .null, .null, .null, .null, .int 0, .null, .null, .null, .int 0, .null, .null, .null, .int 0, .int 0, .int 0, .long 0, .int 0, .null, .null, .int 0, .null, .null, .null, .null, .int 0, .int 0, .null, .int 0, .int 0, .null, .null, .null, .null, .null, .int 0, .null, .null, .int 0, .null, .null, .null, .null, .int 0, .null]))]) hD hS hA [59] rfl
  refine va_callv (pc := 12) (va_runI (As := []) (rest := [.ref q1]) ⟨hx, hb, hml, hown, hg⟩ (miX11 (l := l) (V := V) q1 H.size) (cwI 0 hg (gi_code wC_888) rfl rfl rfl (hg _ wI_12) (hg _ wM_886) (hg _ wN_887) rfl (by decide +kernel) ⟨Nat.le_of_ble_eq_true rfl, Nat.le_of_ble_eq_true rfl⟩) ⟨fun a U g mk q => ⟨q.1, q.2.1, q.2.2.1, q.2.2.2.1, q.2.2.2.2.same rfl⟩, fun U hU hW => ⟨rfl, by rw [hU], by rw [hU]; exact hPc, hDc.weaken (fun _ _ _ _ => trivial), hKI.warm hW⟩⟩ rfl rfl hl.1 rfl (lv_room (Nat.le_of_ble_eq_true rfl)) dL_law_12 ⟨Nat.le_of_ble_eq_true rfl, Nat.le_of_ble_eq_true rfl⟩) hS (fun q _ h => hFc q h) hFc (fun a2 t H1 locs ht hvm hw hB hz1 hk1 hS => ?_)
  obtain ⟨hP1, hD1⟩ := hB
  rw [ht] at hP1
  obtain ⟨V2, hV2⟩ : ∃ V2 : Ev, V2 = (V.1, V.2.1, adM q1 a2) := ⟨_, rfl⟩
  have hP1 : va_P V.1 clsAll (cM V2 wM0) H1 := by rw [hV2]; exact finM_P hP1
  have hD1 : va_D (va_A [(q1, .inr (11, [.int 0, .int 0, .null, .null, .int 0, .null, .null, .null, .null, .null, .null, .int 0, .null, .null, .null, .int 0, .null, .null, .null, .int 0, .int 0, .int 0, .long 0, .int 0, .null, .null, .int 0, .null, .null, .null, .null, .int 0, .int 0, .null, .int 0, .int 0, .null, .null, .null, .null, .null, .int 0, .null, .null, .int 0, .null, .null, .null, .null, .int 0, .null]))] H.size) (cM V2 wM0) := by rw [hV2]; exact finM_D hD1
  have hq1 : V2.2.2 0 = q1 := by rw [hV2]; rfl
  have hV2a : V2.1 = V.1 := by rw [hV2]
  have hV2b : V2.2.1 = V.2.1 := by rw [hV2]
  obtain ⟨hP, hD⟩ := va_join (wr := cC V1 wC0) (w1 := cM V2 wM0) hP hD [59] (List.range 59) rfl rfl (by decide) (by decide) hk1 hFc hP1 hD1
  clear hPc hDc hFc hP1 hD1
  generalize H1 = H at hP hS hz1 hk1 ⊢
  refine W.widen (k := 93) (n := 31331) (Nat.le_of_ble_eq_true rfl) (Nat.le_of_ble_eq_true rfl) ?_
  refine lv_astore_n (pc := 15) (lv' := [(2, .ref q1), (1, .ref q0), (0, .ref b)]) hx hb dL_law_15 rfl hl (by decide) rfl (fun ls hl => ?_)
  refine lv_iconst (pc := 16) (v := 1) hx hb dL_law_16 (by decide) ?_
  refine r_newJ (pc := 17) (N9 := 1) X hP hD hS hA (by decide) (by decide) (by decide) (Nat.le_of_ble_eq_true rfl) (Nat.le_of_ble_eq_true rfl) dL_law_17 (fun bo H hP hD hS => ?_)
  refine W.widen (k := 94) (n := 31332) (Nat.le_of_ble_eq_true rfl) (Nat.le_of_ble_eq_true rfl) ?_
  refine lv_astore_n (pc := 19) (lv' := [(3, .ref bo), (2, .ref q1), (1, .ref q0), (0, .ref b)]) hx hb dL_law_19 rfl hl (by decide) rfl (fun ls hl => ?_)
  refine lv_iconst (pc := 20) (v := 0) hx hb dL_law_20 (by decide) ?_
  refine lv_istore (pc := 21) (lv' := [(4, .int 0), (3, .ref bo), (2, .ref q1), (1, .ref q0), (0, .ref b)]) hx hb dL_law_21 hl (by decide) rfl (fun ls hl => ?_)
  have l1 : (cC V1 wC0).length = 59 := rfl
  have l2 : (cM V2 wM0).length = 34 := rfl
  have g1 : ∀ (k : Nat) (q : Nat × va_E), (cC V1 wC0)[k]? = some q → (cC V1 wC0 ++ cM V2 wM0 ++ [(bo, .inl (V.2.1 1, 1, .inr (.inl (fun _ => (0 : Int64)))))])[k]? = some q := fun k q hk => by
    have hl9 := (List.getElem?_eq_some_iff.mp hk).1
    rw [List.append_assoc, List.getElem?_append_left hl9]; exact hk
  have g2 : ∀ (k : Nat) (q : Nat × va_E), (cM V2 wM0)[k]? = some q → (cC V1 wC0 ++ cM V2 wM0 ++ [(bo, .inl (V.2.1 1, 1, .inr (.inl (fun _ => (0 : Int64)))))])[59 + k]? = some q := fun k q hk => by
    have hl9 := (List.getElem?_eq_some_iff.mp hk).1
    rw [List.append_assoc, List.getElem?_append_right (by rw [l1]; omega), l1, show 59 + k - 59 = k by omega, List.getElem?_append_left hl9]; exact hk
  have g3 : (cC V1 wC0 ++ cM V2 wM0 ++ [(bo, .inl (V.2.1 1, 1, .inr (.inl (fun _ => (0 : Int64)))))])[93]? = some (bo, .inl (V.2.1 1, 1, .inr (.inl (fun _ => (0 : Int64))))) := rfl
  have hDC : ∀ w, va_D (AC V1) (cC V1 w) := cC_D (w0 := wC0) (A := fun _ => True) ⟨fun i j p q hi hj e9 => hD.1 i j p q (g1 i p hi) (g1 j q hj) e9, fun _ _ _ => trivial⟩
  have hDM : ∀ w, va_D (AM V2) (cM V2 w) := cM_D (w0 := wM0) (A := fun _ => True) ⟨fun i j p q hi hj e9 => by have := hD.1 (59 + i) (59 + j) p q (g2 i p hi) (g2 j q hj) e9; omega, fun _ _ _ => trivial⟩
  have hCM : ∀ q, AC V1 q → ¬ AM V2 q := fun q h1 h2 => by
    obtain ⟨i, x, hi, hxi, ex⟩ := AC_mem h1 wC0
    obtain ⟨j, y, hj, hyj, ey⟩ := AM_mem h2 wM0
    have := hD.1 i (59 + j) x y (g1 i x hxi) (g2 j y hyj) (ex.trans ey.symm)
    omega
  have hCb : ¬ AC V1 bo := fun h1 => by
    obtain ⟨i, x, hi, hxi, ex⟩ := AC_mem h1 wC0
    have := hD.1 i 93 x _ (g1 i x hxi) g3 ex
    omega
  have hMb : ¬ AM V2 bo := fun h1 => by
    obtain ⟨i, x, hi, hxi, ex⟩ := AM_mem h1 wM0
    have := hD.1 (59 + i) 93 x _ (g2 i x hxi) g3 ex
    omega
  have hCA : ∀ q, AC V1 q → s.heap.size ≤ q := fun q h1 => by
    obtain ⟨i, x, hi, hxi, ex⟩ := AC_mem h1 wC0
    rw [← ex]; exact hD.2 i x (g1 i x hxi)
  have hMA : ∀ q, AM V2 q → s.heap.size ≤ q := fun q h1 => by
    obtain ⟨i, x, hi, hxi, ex⟩ := AM_mem h1 wM0
    rw [← ex]; exact hD.2 (59 + i) x (g2 i x hxi)
  have hbA9 : s.heap.size ≤ bo := hD.2 93 _ g3
  have hKX1 : KX V1 s := by rw [hV1]; exact hKX
  have hKX2 : KX V2 s := by rw [hV2]; exact hKX
  have K : LwC V1 V2 bo sa p s m b L xs meth c := ⟨⟨hx, hb, hml, hown, hg, hr, hlocks, hKX1⟩, ⟨hx, hb, hml, hown, hg, hr, hlocks, hKX2⟩, hV2a.trans hV1a.symm, hV2b.trans hV1b.symm, hDC, hDM, hCM, hCb, hMb, hCA, hMA, hbA9, hKP, hZ, hX, hbl⟩
  have hO9 : va_P V1.1 clsAll [ocell V1 bo (fun _ => 0)] H := by
    intro k q hk
    have hz9 : k < 1 := (List.getElem?_eq_some_iff.mp hk).1
    rw [show k = 0 by omega] at hk
    cases hk
    rw [hV1a]
    show H[bo]? = some (vp_cell (V1.2.1 1) _)
    rw [hV1b]
    exact hP 93 _ g3
  have hLS : LwS V1 V2 bo s wC0 wM0 (fun _ => 0) H locs := ⟨by rw [hV1a]; exact fun k q hk => hP k q (g1 k q hk), hO9, by rw [hV2a]; exact fun k q hk => hP (59 + k) q (g2 k q hk), hS⟩
  refine W.widen (k := 94 + 0) (n := 31332 + 6 * 0) (Nat.le_refl _) (Nat.le_refl _) ?_
  exact law_loop hL htr hops K hlocks hr (L + 1) 0 0 (Nat.zero_le _) (by omega) nI_0.symm wC0 wM0 _ h0 H locs ls hLS (by rw [hq0, hq1]; exact lv_sub hl [4, 3, 2, 1, 0] rfl)
def lw_P (b : Addr) (xs : List Int32) (args : Array Value) (s : State) : Prop := args = #[.ref b] ∧ s.IntsAt b xs ∧ xs.length ≤ 2560 ∧ (Jvm.Cond.and given_1 narrow_1).before args s = true
set_option maxHeartbeats 4000000 in
theorem lw_walk {N : Nat} {I : Nat → Wd → Wd → Prop} (h0 : I 0 wC0 wM0) (hops : OpsOK N 2000 I) (l : Launch) (htr : l.stackTraces = false) (b : Addr) (xs : List Int32) : MetFree l x (headSpec (Jvm.Cond.code x code maxLocals ret :: tables_1) room_1) (lw_P b xs) (fun _ _ _ _ _ => True) lw_Q := by
  refine MetFree.of_bodyS (code := code) (maxLocals := maxLocals) (ret := ret) (by decide) ?_ ?_
  · intro args s m h hn
    obtain ⟨meth, c, h1, h2, h3, h4, h5, h6, -, -⟩ := Cond.code_spec hn (atoms_spec (ws := Jvm.Cond.code x code maxLocals ret :: tables_1) h _ List.mem_cons_self)
    exact ⟨meth, c, h1, h2, h3, h4, h5, h6⟩
  · intro p e s m args below meth c s₁ B hml0 hP _
    obtain ⟨rfl, hx, hbd, hgv⟩ := hP
    obtain ⟨scr, harrAt, hlist, hof, hsmall⟩ := hx
    obtain ⟨hcb, hkn, -, -⟩ := State.arrayAt?_spec harrAt
    have hown : s.vm.findClass R_law = some m.cls := findClass_of_methodNamed B.named
    have hts0 : ∀ c ∈ (Jvm.Cond.code x code maxLocals ret :: tables_1), c.before #[Value.ref b] s = true := atoms_spec (ws := Jvm.Cond.code x code maxLocals ret :: tables_1) B.pre
    have hts : ∀ w ∈ lw_tbl, w.before #[Value.ref b] s = true := k2_hts_sels lw_privs (fun w hw => hts0 w (List.mem_cons_of_mem _ hw)) lw_privs_ok
    have hml : c.maxLocals = 7 := B.maxLocals_eq (hts0 _ List.mem_cons_self)
    have X₀ : Stand p l e room_1 s m #[Value.ref b] below meth c s₁ [] 0 0 := Stand.of_body B
    have hh0 : s₁.heap = s.heap := by rw [B.state]; rfl
    have hsz : scr.slots.size = xs.length := by rw [← Array.length_toList, hlist, List.length_map]
    have hval : ∀ j : Nat, j < xs.length → scr.slots[j]? = some (.int (xs.getD j 0)) := fun j hj => by
      rw [← Array.getElem?_toList, hlist]
      simp [hj]
    have hbl : b < s.heap.size := (Array.getElem?_eq_some_iff.mp hcb).1
    have hX : va_X b xs.length (fun j => xs.getD j 0) s s.heap := ⟨scr, hcb, hof, hkn, hsz, hval⟩
    have K : W p l e room_1 s m #[Value.ref b] below meth c s₁.heap [] 0 0 (lw_Z below #[Value.ref b] s) (entryFrame m ([Value.ref b] : List Value).toArray 7) := by
      rw [hh0]
      exact whole_start l htr h0 hops hbd ⟨B.exec, B.bytes, B.returns, hml, hown, hts, hX, hbl, B.notSynchronized, hgv⟩
    obtain ⟨t, a1, o, b1, b2, b3⟩ := K s₁ rfl X₀
    exact ⟨t, o, a1, b1, b2, b3⟩
theorem lw_pre_spec {args : Array Value} {s : State} (h : (Jvm.Cond.and given_1 narrow_1).before args s = true) (hr : rest_1_c.before args s = true) : ∃ (b : Addr) (xs : List Int32), lw_P b xs args s := by
  have hs := flat_of_before _ h
  have hq := flat_of_before _ hr
  have hc : (Cond.count 1).before args s = true := hs _ (by decide +kernel)
  have harr : (Cond.arrayOf (.arg 0) .int).before args s = true := hs _ (by decide +kernel)
  have hle : (Cond.le (.length (.arg 0)) (.int 2560)).before args s = true := hs _ (by decide +kernel)
  have hlen : (Cond.isInt (.length (.arg 0))).before args s = true := hq _ (by decide +kernel)
  have hall : (Cond.all (.arg 0) (.isInt (.elem (.arg 0) (.index 0)))).before args s = true := hq _ (by decide +kernel)
  obtain ⟨b, xs, hb, hx⟩ := State.ints_of_pre rfl harr hlen hall
  have hsm : xs.length < 2 ^ 31 := hx.choose_spec.2.2.2
  have hev : (Term.length (.arg 0)).eval args s none [] s = some (.int xs.length.toInt32) := hx.length_eval hb
  have hv := Cond.le_ints hev (show (Term.int 2560).eval args s none [] s = some (.int 2560) from rfl)
  have hd : xs.length.toInt32 ≤ 2560 := by
    simpa [Cond.before, Cond.holds, hv] using hle
  have hN : xs.length ≤ 2560 := (Int32.ofNat_le_ofNat hsm (by decide)).mp (show Int32.ofNat xs.length ≤ Int32.ofNat 2560 from hd)
  exact ⟨b, xs, Cond.one_arg hc (show args[0]? = some (.ref b) from hb), hx, hN, h⟩
theorem lw_comes {N : Nat} {I : Nat → Wd → Wd → Prop} (h0 : I 0 wC0 wM0) (hops : OpsOK N 2000 I) (l : Launch) (htr : l.stackTraces = false) : Comes l x (Jvm.Cond.code x code maxLocals ret :: tables_1) room_1 (fun tb e args s => Calls_1 tb e args s ∧ rest_1 tb e args s ∧ Pre_1 tb e args s)
    (fun _ _ args s o t => lw_Q args s o t) := by
  intro p e ha hc hk s m args below hf hfit hheap happ hpre
  obtain ⟨b, xs, hP⟩ := lw_pre_spec hpre.2.2 hpre.2.1
  obtain ⟨k, o, h1, h2, h3, hQ⟩ := lw_walk h0 hops l htr b xs p e ha hc hk s m args below hf ((Spec.applies_iff_loose hf).mp happ).1 hP trivial
  exact ⟨k, o, h1, h2, h3, hQ⟩
theorem lw_frame {s t : State} {o : Outcome} {args : Array Value} (h : Framed s o t [] 603072 7194730) :
    Framed s o t (fieldLocs frame_1_writes args s ++ arrayLocs frame_1_arrays args s ++ staticLocs frame_1_statics s) 603072 7194730 := h
theorem lw_limb {N : Nat} {I : Nat → Wd → Wd → Prop} (h0 : I 0 wC0 wM0) (hops : OpsOK N 2000 I) (L : Cond) (hL : ∀ (args : Array Value) (s t : State), L.after args s (.returned (some (.int 1))) t = true) :
    ArmFor flags0 classFile x code maxLocals ret World_1 tables_1 room_1 Calls_1 rest_1 Pre_1
      (fun tb e a s o t => postC L tb e a s o t ∧ Framed s o t (fieldLocs frame_1_writes a s ++ arrayLocs frame_1_arrays a s ++ staticLocs frame_1_statics s) 603072 7194730) := by
  intro l hfl _ _ p e ha hc hk s m args below hf hfit hheap happ hpre
  obtain ⟨k, o, h1, h2, h3, rfl, hF⟩ := lw_comes h0 hops l (by rw [Launch.stackTraces, hfl]; decide +kernel) p e ha hc hk s m args below hf hfit hheap happ hpre
  exact ⟨k, _, h1, h2, h3, hL args s _, lw_frame hF⟩
theorem i_vc_of {N : Nat} {I : Nat → Wd → Wd → Prop} (h0 : I 0 wC0 wM0) (hops : OpsOK N 2000 I) : Claimed_1_1 ∧ Claimed_1_2 := ⟨lw_limb h0 hops limb_1_1 (fun args s t => by simp [limb_1_1, Cond.after, Cond.holds, Cond.value]), lw_limb h0 hops limb_1_2 (fun args s t => Cond.after_iff.mpr (by
  first | (rw [show limb_1_2 = Cond.eq .result (.int 1) from rfl, Cond.eq_ints (x := 1) (y := 1) rfl rfl]; simp; done) | (simp [limb_1_2, Cond.value, Term.eval]; done)))⟩

