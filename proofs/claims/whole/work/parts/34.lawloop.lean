set_option maxHeartbeats 8000000 in
theorem law_loop {V V2 : Ev} {bo sa : Nat} {p : Program} {l : Launch} {e : Env} {s : State} {m : MethodId} {b L N : Nat} {xs : Nat → Int32} {below : List Frame} {meth : Method} {c : Code} {I : Nat → Wd → Wd → Prop} (hL : L ≤ 2560) (htr : l.stackTraces = false) (hops : OpsOK N 2000 I) (K : LwC V V2 bo sa p s m b L xs meth c) (hlk9 : meth.locks = false) (hr9 : meth.sig.returnType = ret) :
    ∀ (k t : Nat) (x4 : Int32), 5 * t ≤ L → L < 5 * t + k → x4 = nI (5 * t) → ∀ (wc wm : Wd) (o : Nat → Int64), I t wc wm → ∀ (H : Heap) (locs : List Loc) (ls : Array Slot), LwS V V2 bo s wc wm o H locs → lv_has ls 7 [(0, .ref b), (1, .ref (V.2.2 0)), (2, .ref (V2.2.2 0)), (3, .ref bo), (4, .int x4)] → W p l e room_1 s m #[Value.ref b] below meth c H locs (94 + t) (31332 + 6 * t) (lw_Z below #[Value.ref b] s) (F0 m 23 ls []) := by
  intro k
  induction k with
  | zero => intro t x4 h1 h2; omega
  | succ k ih =>
    intro t x4 h1 h2 ex4 wc wm o hI H locs ls h hl
    obtain ⟨hx, hb, hml, hown, hg, hrt, hlk, hKX⟩ := id K.1
    have hX := K.2.2.2.2.2.2.2.2.2.2.2.2.2.2.1
    have hbl := K.2.2.2.2.2.2.2.2.2.2.2.2.2.2.2
    have hbA : ¬ (fun q : Nat => s.heap.size ≤ q) b := Nat.not_le.mpr hbl
    refine lv_iload (pc := 23) hx hb dL_law_23 (lv_at hl 4 rfl) ?_
    refine lv_aload_n (pc := 25) hx hb dL_law_25 rfl (lv_at hl 0 rfl) ?_
    refine va_slen (pc := 26) hx hb hX hbl hbA h.2.2.2 dL_law_26 ?_
    refine lv_iconst (pc := 27) (v := 5) hx hb dL_law_27 (by decide) ?_
    refine lv_isub (pc := 28) hx hb dL_law_28 ?_
    have hsub : ((Int32.ofNat L) - 5).toInt = (L : Int) - 5 := pk_sub_toInt (a := L) (b := 5) (by omega) (by omega)
    have hx4 : x4.toInt = ((5 * t : Nat) : Int) := by rw [ex4]; exact nI_toInt (by omega)
    refine lv_icmp_gt (pc := 29) (tgt := 926) hx hb dL_law_29 (by decide) (fun q => ?_) (fun q => ?_)
    · refine lv_iconst (pc := 926) (v := 1) hx hb dL_law_926 (by decide) ?_
      refine va_forget (fun q9 hq9 => h.2.2.2.2.2 q9 hq9) ?_
      refine W.widen (k := 603072) (n := 7194730) (by omega) (by omega) ?_
      exact lw_ret (pc := 927) hx hb hr9 hlk9 dL_law_927
    · have hlt : 5 * t + 5 ≤ L := by
        rw [Int32.lt_iff_toInt_lt, hsub, hx4] at q
        omega
      have hin0 : vp_in x4 L := by rw [ex4]; exact vp_in_nI (by omega) (by omega)
      have hin1 : vp_in (x4 + 1) L := by rw [ex4, show (1 : Int32) = nI 1 from rfl, nI_add]; exact vp_in_nI (by omega) (by omega)
      have hin2 : vp_in (x4 + 2) L := by rw [ex4, show (2 : Int32) = nI 2 from rfl, nI_add]; exact vp_in_nI (by omega) (by omega)
      have hin3 : vp_in (x4 + 3) L := by rw [ex4, show (3 : Int32) = nI 3 from rfl, nI_add]; exact vp_in_nI (by omega) (by omega)
      have hin4 : vp_in (x4 + 4) L := by rw [ex4, show (4 : Int32) = nI 4 from rfl, nI_add]; exact vp_in_nI (by omega) (by omega)
      have hcs1 : 94 + t + 1 ≤ 603072 ∧ 31332 + 6 * t + 6 ≤ 7194730 := ⟨by omega, by omega⟩
      have next1 : ∀ (wc wm : Wd) (o : Nat → Int64), I (t + 1) wc wm → ∀ (H : Heap) (locs : List Loc) (ls : Array Slot), LwS V V2 bo s wc wm o H locs → lv_has ls 7 [(0, .ref b), (1, .ref (V.2.2 0)), (2, .ref (V2.2.2 0)), (3, .ref bo), (4, .int x4)] → W p l e room_1 s m #[Value.ref b] below meth c H locs (94 + t + 1) (31332 + 6 * t + 6) (lw_Z below #[Value.ref b] s) (F0 m 920 ls []) := by
        intro wc wm o hI H locs ls h hl
        obtain ⟨x6, e6⟩ : ∃ x6 : Int32, x6 = x4 + 5 := ⟨_, rfl⟩
        refine lv_iinc (pc := 920) (v := x6) (lv' := [(4, .int x6), (0, .ref b), (1, .ref (V.2.2 0)), (2, .ref (V2.2.2 0)), (3, .ref bo)]) hx hb dL_law_920 hl (k := 4) rfl (by rw [e6]; rfl) (by decide) rfl (fun ls hl => ?_)
        refine lv_goto (pc := 923) (tgt := 23) hx hb dL_law_923 (by decide) ?_
        exact ih (t + 1) x6 (by omega) (by omega) (by rw [e6, ex4, show (5 : Int32) = nI 5 from rfl, nI_add]; rfl) wc wm o hI H locs ls h (lv_sub hl [1, 2, 3, 4, 0] rfl)
      have next : ∀ (wc wm : Wd) (o : Nat → Int64), I (t + 1) wc wm → ∀ (H : Heap) (locs : List Loc) (ls : Array Slot), LwS V V2 bo s wc wm o H locs → lv_has ls 7 [(0, .ref b), (1, .ref (V.2.2 0)), (2, .ref (V2.2.2 0)), (3, .ref bo), (4, .int x4)] → W p l e room_1 s m #[Value.ref b] below meth c H locs (94 + t) (31332 + 6 * t) (lw_Z below #[Value.ref b] s) (F0 m 920 ls []) :=
        fun wc wm o hI H locs ls h hl => W.widen (k := 94 + t + 1) (n := 31332 + 6 * t + 6) (by omega) (by omega) (next1 wc wm o hI H locs ls h hl)
      refine lv_aload_n (pc := 32) hx hb dL_law_32 rfl (lv_at hl 0 rfl) ?_
      refine lv_iload (pc := 33) hx hb dL_law_33 (lv_at hl 4 rfl) ?_
      refine va_sld (pc := 35) hx hb hX hbl hbA h.2.2.2 hin0 dL_law_35 ?_
      refine lv_bipush (pc := 36) (v := 31) hx hb dL_law_36 (by decide) ?_
      refine lv_iand (pc := 38) hx hb dL_law_38 ?_
      refine lv_topi (fun x5 ex5 => ?_)
      by_cases q0 : x5 = 0
      · refine lv_tableIn (pc := 39) (tgt := 140) hx hb dL_law_39 (by rw [q0]; decide) (by rw [q0]; decide) (by rw [q0]; rfl) (by decide) ?_
        exact lawc_sign (by omega) htr hops K hcs1 hin1 hin2 hin3 hin4 next next1 hI h hl
      by_cases q1 : x5 = 1
      · refine lv_tableIn (pc := 39) (tgt := 177) hx hb dL_law_39 (by rw [q1]; decide) (by rw [q1]; decide) (by rw [q1]; rfl) (by decide) ?_
        exact lawc_variable (by omega) htr hops K hcs1 hin1 hin2 hin3 hin4 next next1 hI h hl
      by_cases q2 : x5 = 2
      · refine lv_tableIn (pc := 39) (tgt := 202) hx hb dL_law_39 (by rw [q2]; decide) (by rw [q2]; decide) (by rw [q2]; rfl) (by decide) ?_
        exact lawc_term (by omega) htr hops K hcs1 hin1 hin2 hin3 hin4 next next1 hI h hl
      by_cases q3 : x5 = 3
      · refine lv_tableIn (pc := 39) (tgt := 251) hx hb dL_law_39 (by rw [q3]; decide) (by rw [q3]; decide) (by rw [q3]; rfl) (by decide) ?_
        exact lawc_rule (by omega) htr hops K hcs1 hin1 hin2 hin3 hin4 next next1 hI h hl
      by_cases q4 : x5 = 4
      · refine lv_tableIn (pc := 39) (tgt := 288) hx hb dL_law_39 (by rw [q4]; decide) (by rw [q4]; decide) (by rw [q4]; rfl) (by decide) ?_
        exact lawc_on (by omega) htr hops K hcs1 hin1 hin2 hin3 hin4 next next1 hI h hl
      by_cases q5 : x5 = 5
      · refine lv_tableIn (pc := 39) (tgt := 341) hx hb dL_law_39 (by rw [q5]; decide) (by rw [q5]; decide) (by rw [q5]; rfl) (by decide) ?_
        exact lawc_step (by omega) htr hops K hcs1 hin1 hin2 hin3 hin4 next next1 hI h hl
      by_cases q6 : x5 = 6
      · refine lv_tableIn (pc := 39) (tgt := 378) hx hb dL_law_39 (by rw [q6]; decide) (by rw [q6]; decide) (by rw [q6]; rfl) (by decide) ?_
        exact lawc_normal (by omega) htr hops K hcs1 hin1 hin2 hin3 hin4 next next1 hI h hl
      by_cases q7 : x5 = 7
      · refine lv_tableIn (pc := 39) (tgt := 415) hx hb dL_law_39 (by rw [q7]; decide) (by rw [q7]; decide) (by rw [q7]; rfl) (by decide) ?_
        exact lawc_used (by omega) htr hops K hcs1 hin1 hin2 hin3 hin4 next next1 hI h hl
      by_cases q8 : x5 = 8
      · refine lv_tableIn (pc := 39) (tgt := 453) hx hb dL_law_39 (by rw [q8]; decide) (by rw [q8]; decide) (by rw [q8]; rfl) (by decide) ?_
        exact lawc_ends (by omega) htr hops K hcs1 hin1 hin2 hin3 hin4 next next1 hI h hl
      by_cases q9 : x5 = 9
      · refine lv_tableIn (pc := 39) (tgt := 478) hx hb dL_law_39 (by rw [q9]; decide) (by rw [q9]; decide) (by rw [q9]; rfl) (by decide) ?_
        exact lawc_above (by omega) htr hops K hcs1 hin1 hin2 hin3 hin4 next next1 hI h hl
      by_cases q10 : x5 = 10
      · refine lv_tableIn (pc := 39) (tgt := 515) hx hb dL_law_39 (by rw [q10]; decide) (by rw [q10]; decide) (by rw [q10]; rfl) (by decide) ?_
        exact lawc_pairs (by omega) htr hops K hcs1 hin1 hin2 hin3 hin4 next next1 hI h hl
      by_cases q11 : x5 = 11
      · refine lv_tableIn (pc := 39) (tgt := 528) hx hb dL_law_39 (by rw [q11]; decide) (by rw [q11]; decide) (by rw [q11]; rfl) (by decide) ?_
        exact lawc_pair (by omega) htr hops K hcs1 hin1 hin2 hin3 hin4 next next1 hI h hl
      by_cases q12 : x5 = 12
      · refine lv_tableIn (pc := 39) (tgt := 566) hx hb dL_law_39 (by rw [q12]; decide) (by rw [q12]; decide) (by rw [q12]; rfl) (by decide) ?_
        exact lawc_tables (by omega) htr hops K hcs1 hin1 hin2 hin3 hin4 next next1 hI h hl
      by_cases q13 : x5 = 13
      · refine lv_tableIn (pc := 39) (tgt := 591) hx hb dL_law_39 (by rw [q13]; decide) (by rw [q13]; decide) (by rw [q13]; rfl) (by decide) ?_
        exact lawc_cell (by omega) htr hops K hcs1 hin1 hin2 hin3 hin4 next next1 hI h hl
      by_cases q14 : x5 = 14
      · refine lv_tableIn (pc := 39) (tgt := 652) hx hb dL_law_39 (by rw [q14]; decide) (by rw [q14]; decide) (by rw [q14]; rfl) (by decide) ?_
        exact lawc_has (by omega) htr hops K hcs1 hin1 hin2 hin3 hin4 next next1 hI h hl
      by_cases q15 : x5 = 15
      · refine lv_tableIn (pc := 39) (tgt := 689) hx hb dL_law_39 (by rw [q15]; decide) (by rw [q15]; decide) (by rw [q15]; rfl) (by decide) ?_
        exact lawc_value (by omega) htr hops K hcs1 hin1 hin2 hin3 hin4 next next1 hI h hl
      by_cases q16 : x5 = 16
      · refine lv_tableIn (pc := 39) (tgt := 714) hx hb dL_law_39 (by rw [q16]; decide) (by rw [q16]; decide) (by rw [q16]; rfl) (by decide) ?_
        exact lawc_judge (by omega) htr hops K hcs1 hin1 hin2 hin3 hin4 next next1 hI h hl
      by_cases q17 : x5 = 17
      · refine lv_tableIn (pc := 39) (tgt := 739) hx hb dL_law_39 (by rw [q17]; decide) (by rw [q17]; decide) (by rw [q17]; rfl) (by decide) ?_
        exact lawc_refuted (by omega) htr hops K hcs1 hin1 hin2 hin3 hin4 next next1 hI h hl
      by_cases q18 : x5 = 18
      · refine lv_tableIn (pc := 39) (tgt := 764) hx hb dL_law_39 (by rw [q18]; decide) (by rw [q18]; decide) (by rw [q18]; rfl) (by decide) ?_
        exact lawc_of (by omega) htr hops K hcs1 hin1 hin2 hin3 hin4 next next1 hI h hl
      by_cases q19 : x5 = 19
      · refine lv_tableIn (pc := 39) (tgt := 814) hx hb dL_law_39 (by rw [q19]; decide) (by rw [q19]; decide) (by rw [q19]; rfl) (by decide) ?_
        exact lawc_part (by omega) htr hops K hcs1 hin1 hin2 hin3 hin4 next next1 hI h hl
      by_cases q20 : x5 = 20
      · refine lv_tableIn (pc := 39) (tgt := 882) hx hb dL_law_39 (by rw [q20]; decide) (by rw [q20]; decide) (by rw [q20]; rfl) (by decide) ?_
        exact lawc_count (by omega) htr hops K hcs1 hin1 hin2 hin3 hin4 next next1 hI h hl
      by_cases q21 : x5 = 21
      · refine lv_tableIn (pc := 39) (tgt := 907) hx hb dL_law_39 (by rw [q21]; decide) (by rw [q21]; decide) (by rw [q21]; rfl) (by decide) ?_
        exact lawc_clear (by omega) htr hops K hcs1 hin1 hin2 hin3 hin4 next next1 hI h hl
      have qd : x5.toInt < 0 ∨ 21 < x5.toInt := by
        have := lv_neT q0 (show (0 : Int32).toInt = 0 from rfl); have := lv_neT q1 (show (1 : Int32).toInt = 1 from rfl); have := lv_neT q2 (show (2 : Int32).toInt = 2 from rfl); have := lv_neT q3 (show (3 : Int32).toInt = 3 from rfl); have := lv_neT q4 (show (4 : Int32).toInt = 4 from rfl); have := lv_neT q5 (show (5 : Int32).toInt = 5 from rfl); have := lv_neT q6 (show (6 : Int32).toInt = 6 from rfl); have := lv_neT q7 (show (7 : Int32).toInt = 7 from rfl); have := lv_neT q8 (show (8 : Int32).toInt = 8 from rfl); have := lv_neT q9 (show (9 : Int32).toInt = 9 from rfl); have := lv_neT q10 (show (10 : Int32).toInt = 10 from rfl); have := lv_neT q11 (show (11 : Int32).toInt = 11 from rfl); have := lv_neT q12 (show (12 : Int32).toInt = 12 from rfl); have := lv_neT q13 (show (13 : Int32).toInt = 13 from rfl); have := lv_neT q14 (show (14 : Int32).toInt = 14 from rfl); have := lv_neT q15 (show (15 : Int32).toInt = 15 from rfl); have := lv_neT q16 (show (16 : Int32).toInt = 16 from rfl); have := lv_neT q17 (show (17 : Int32).toInt = 17 from rfl); have := lv_neT q18 (show (18 : Int32).toInt = 18 from rfl); have := lv_neT q19 (show (19 : Int32).toInt = 19 from rfl); have := lv_neT q20 (show (20 : Int32).toInt = 20 from rfl); have := lv_neT q21 (show (21 : Int32).toInt = 21 from rfl)
        omega
      refine lv_tableOut (pc := 39) (tgt := 920) hx hb dL_law_39 qd (by decide) ?_
      exact next wc wm o (hops.1 t wc wm hI) H locs ls h hl
