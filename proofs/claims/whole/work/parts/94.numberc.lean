/-- what stands on the stack's top is worked off -/
def NumG (N d n : Nat) (T : Nat → Tr) (y : Nat) (st l : List Nat) (M : Nat → Bool) (w : Wd) (lk top : Nat) : Prop :=
  ∃ j l2 M2 w2, (∀ f, fX1_numberVariables_38 N d (f + j) w (nI l.length) (nI top) (nI lk) = fX1_numberVariables_38 N d f w2 (nI l2.length) (nI st.length) (nI (lk + j))) ∧
    Fr noS nvA w w2 ∧ (∀ i, i < st.length → aI w2 34 i = aI w 34 i) ∧ MW n M2 w2 ∧ NW l2 w2 ∧ LN l2 ∧ (∀ v, v ∈ l2 → M2 v = true) ∧ l2 = addV l (vs (T y)) ∧
    (∀ x, x < n → M2 x = true → M x = true ∨ ∀ u, u ∈ vs (T x) → u ∈ l2) ∧ j + 2 * cU M2 n ≤ 1 + 2 * cU M n
theorem cNumOne {N d n : Nat} {hd f1 f2 bc : Nat → Nat} {T : Nat → Tr} (ts : TS n hd f1 f2 bc T) : ∀ k y st l M w lk, tsz (T y) ≤ k → y < n → SA (y :: st) w → TW n hd f1 f2 bc w → MW n M w → NW l w → LN l → (∀ v, v ∈ l → M v = true) →
    (∀ x, x < n → M x = true → tsz (T x) ≤ tsz (T y) → ∀ u, u ∈ vs (T x) → u ∈ l) → st.length + cU M n ≤ 150 → lk + 2 * cU M n + 1 ≤ 1000 → NumG N (d + 1) n T y st l M w lk (st.length + 1) := by
  obtain ⟨t1, t2, t3, t4, hn⟩ := ts
  intro k
  induction k with
  | zero =>
    intro y st l M w lk hk hy
    exfalso
    obtain ⟨x1, x2, x3⟩ := t1 y hy
    rw [← x3] at hk
    by_cases q : bc y < 8
    · rw [t2 _ x1 x2 q] at hk
      exact absurd hk (by show ¬ 1 ≤ 0; omega)
    · rw [(t3 _ x1 (by omega)).1] at hk
      have : tsz (nd (hd (bc y)) (T (f1 (bc y))) (T (f2 (bc y)))) = 1 + tsz (T (f1 (bc y))) + tsz (T (f2 (bc y))) := rfl
      omega
  | succ k ih =>
    -- one that may not be there
    have opt : ∀ y st l M w lk, tsz (T y) ≤ k → (y < n ∨ y = 2000) → SA (ps y st) w → TW n hd f1 f2 bc w → MW n M w → NW l w → LN l → (∀ v, v ∈ l → M v = true) → (∀ x, x < n → M x = true → tsz (T x) ≤ tsz (T y) → ∀ u, u ∈ vs (T x) → u ∈ l) → st.length + cU M n ≤ 150 → lk + 2 * cU M n + 1 ≤ 1000 → NumG N (d + 1) n T y st l M w lk (ps y st).length := by
      intro y st l M w lk hk hy sa tw mw nw ln lm cl bd1 bd2
      by_cases q : y = 2000
      · unfold ps
        rw [if_pos q]
        refine ⟨0, l, M, w, fun f => by rw [Nat.add_zero f, Nat.add_zero lk], Fr.rf w, fun _ _ => rfl, mw, nw, ln, lm, ?_, fun x _ h => Or.inl h, by omega⟩
        rw [q, t4]
        rfl
      · unfold ps at sa ⊢
        rw [if_neg q] at sa ⊢
        exact ih y st l M w lk hk (hy.resolve_right q) sa tw mw nw ln lm cl bd1 bd2
    intro y st l M w lk hk hy sa tw mw nw ln lm cl bd1 bd2
    obtain ⟨x1, x2, x3⟩ := t1 y hy
    cases qm : M (bc y) with
    | true =>
      refine ⟨1, l, M, w, fun f => ?_, Fr.rf w, fun _ _ => rfl, mw, nw, ln, lm, (addV_in _ _ (fun u hu => ?_)).symm, fun x _ h => Or.inl h, by omega⟩
      · exact cNumT (by omega) sa.1 (by omega) (tw.1 y hy) (by omega) (by rw [mw _ x1, qm]; rfl) (by omega) f
      · exact cl _ x1 qm (by rw [x3]; omega) u (by rw [x3]; exact hu)
    | false =>
      have cu := cU_upd qm n x1
      have fw : Fr noS nvA w (pA w 32 (upd (aI w 32) (bc y) (vp_nar .boolean 1))) := (Fr.rf w).pa (k := 32) rfl
      have mw1 : MW n (fu M (bc y) true) (pA w 32 (upd (aI w 32) (bc y) (vp_nar .boolean 1))) := fun x hx => by
        show upd (aI w 32) (bc y) (vp_nar .boolean 1) x = _
        by_cases z : x = bc y
        · rw [z, upd_s, fu_s]; rfl
        · rw [upd_n z, fu_n z]; exact mw x hx
      have step : ∀ f, fX1_numberVariables_38 N (d + 1) (f + 1) w (nI l.length) (nI (st.length + 1)) (nI lk) = (c_cl (eX5_isVariable N (d + 1) (pA w 32 (upd (aI w 32) (bc y) (vp_nar .boolean 1))) (nI (bc y))) fun w8 v9 =>
          if v9 = 0 then (c_ld w8 52 158 (nI (bc y)) fun v10 => c_cl (eX1_push N (d + 1) w8 v10 (nI st.length)) fun w11 v12 => c_ld w11 51 158 (nI (bc y)) fun v13 => c_cl (eX1_push N (d + 1) w11 v13 v12) fun w14 v15 => fX1_numberVariables_38 N (d + 1) f w14 (nI l.length) v15 (nI (lk + 1)))
          else c_st w8 31 8 (nI (bc y)) (nI l.length) fun w17 => fX1_numberVariables_38 N (d + 1) f w17 (nI (l.length + 1)) (nI st.length) (nI (lk + 1))) := fun f => by
        rw [cNumF (by omega) sa.1 (by omega) (tw.1 y hy) (by omega) (by rw [mw _ x1, qm]; rfl) (by omega) f, nI_1]
      have sa1 : SA st (pA w 32 (upd (aI w 32) (bc y) (vp_nar .boolean 1))) := SA.k (w := w) st (fun _ _ => rfl) sa.2
      have tw1 : TW n hd f1 f2 bc (pA w 32 (upd (aI w 32) (bc y) (vp_nar .boolean 1))) := tw.k fw
      have k34 : aI (pA w 32 (upd (aI w 32) (bc y) (vp_nar .boolean 1))) 34 = aI w 34 := rfl
      have k31 : aI (pA w 32 (upd (aI w 32) (bc y) (vp_nar .boolean 1))) 31 = aI w 31 := rfl
      have nw1 : NW l (pA w 32 (upd (aI w 32) (bc y) (vp_nar .boolean 1))) := fun v hv => by rw [k31]; exact nw v hv
      generalize pA w 32 (upd (aI w 32) (bc y) (vp_nar .boolean 1)) = w7 at *
      by_cases q8 : bc y < 8
      · have hno : bc y ∉ l := fun z => by rw [lm _ z] at qm; cases qm
        have ty : T y = vr (bc y) := by rw [← x3]; exact t2 _ x1 x2 q8
        have el : addV l (vs (T y)) = l ++ [bc y] := by
          rw [ty]
          show addV l [bc y] = _
          show addV (if bc y ∈ l then l else l ++ [bc y]) [] = _
          rw [if_neg hno, addV_nil]
        refine ⟨1, l ++ [bc y], fu M (bc y) true, pA w7 31 (upd (aI w7 31) (bc y) (nI l.length)), fun f => ?_, fw.pa (k := 31) rfl, fun i hi => congrFun k34 i, fun x hx => mw1 x hx, ?_, ln.add q8 hno, ?_, el.symm, ?_, by omega⟩
        · rw [step, cSv (by omega), cl_s, if_pos q8, if_neg i10, st_n q8 (by omega), List.length_append, List.length_singleton]
        · intro v hv
          show upd (aI w7 31) (bc y) (nI l.length) v = _
          rcases List.mem_append.mp hv with z | z
          · rw [upd_n (fun e => hno (by rw [← e]; exact z)), ix_app l z]
            exact nw1 v z
          · rw [List.mem_singleton.mp z, upd_s, ix_new l hno]
        · intro v hv
          by_cases e : v = bc y
          · rw [e, fu_s]
          · rw [fu_n e]
            rcases List.mem_append.mp hv with z | z
            · exact lm v z
            · exact absurd (List.mem_singleton.mp z) e
        · intro x hx hm
          by_cases e : x = bc y
          · refine Or.inr (fun u hu => ?_)
            rw [e, x3, ty] at hu
            rw [List.mem_singleton.mp hu]
            exact List.mem_append.mpr (Or.inr (List.mem_singleton.mpr rfl))
          · rw [fu_n e] at hm
            exact Or.inl hm
      · obtain ⟨e1, e2, e3⟩ := t3 _ x1 (by omega)
        have ty : T y = nd (hd (bc y)) (T (f1 (bc y))) (T (f2 (bc y))) := by rw [← x3]; exact e1
        have sz : tsz (T y) = 1 + tsz (T (f1 (bc y))) + tsz (T (f2 (bc y))) := by rw [ty]; rfl
        have svs : vs (T y) = vs (T (f1 (bc y))) ++ vs (T (f2 (bc y))) := by rw [ty]; rfl
        have lm1 : ∀ v, v ∈ l → fu M (bc y) true v = true := fun v hv => by
          by_cases e : v = bc y
          · rw [e, fu_s]
          · rw [fu_n e]; exact lm v hv
        obtain ⟨w11, p1, p2, p3, p4⟩ := cPush (N := N) (d := d) (y := f2 (bc y)) (w := w7) (st := st) (by omega) (by omega) sa1
        have lp := ps_len (f2 (bc y)) st
        obtain ⟨w14, r1, r2, r3, r4⟩ := cPush (N := N) (d := d) (y := f1 (bc y)) (w := w11) (st := ps (f2 (bc y)) st) (by omega) (by omega) p3
        have fr : Fr noS skA w7 w14 := p2.tr r2
        have mw14 : MW n (fu M (bc y) true) w14 := fun x hx => by rw [(fr.2 32 rfl).1]; exact mw1 x hx
        have nw14 : NW l w14 := fun v hv => by rw [(fr.2 31 rfl).1]; exact nw1 v hv
        obtain ⟨j1, l1, M1, w15, a1, a2, a3, a4, a5, a6, a7, a8, a9, a10⟩ := opt (f1 (bc y)) (ps (f2 (bc y)) st) l (fu M (bc y) true) w14 (lk + 1) (by omega) e2 r3 (tw1.k fr) mw14 nw14 ln lm1 (fun x hx hm hz => by
          by_cases e : x = bc y
          · rw [e, x3] at hz; omega
          · rw [fu_n e] at hm
            exact cl x hx hm (by omega)) (by omega) (by omega)
        have sa15 : SA (ps (f2 (bc y)) st) w15 := SA.k _ (fun i hi => by rw [a3 i hi, r4 i hi]) p3
        have fr15 : Fr noS nvA w7 w15 := fr.sk.tr a2
        obtain ⟨j2, l2, M2, w16, d1, d2, d3, d4, d5, d6, d7, d8, d9, d10⟩ := opt (f2 (bc y)) st l1 M1 w15 (lk + 1 + j1) (by omega) e3 sa15 ((tw1.k fr).k a2) a4 a5 a6 a7 (fun x hx hm hz u hu => by
          rcases a9 x hx hm with z | z
          · by_cases e : x = bc y
            · rw [e, x3] at hz; omega
            · rw [fu_n e] at z
              rw [a8, addV_mem]
              exact Or.inl (cl x hx z (by omega) u hu)
          · exact z u hu) (by omega) (by omega)
        have hl2 : l2 = addV l (vs (T y)) := by rw [svs, addV_app, ← a8]; exact d8
        refine ⟨1 + j1 + j2, l2, M2, w16, fun f => ?_, (fw.tr fr15).tr d2, fun i hi => ?_, d4, d5, d6, d7, hl2, ?_, by omega⟩
        · have := step (f + j2 + j1)
          rw [show f + (1 + j1 + j2) = f + j2 + j1 + 1 by omega, this, cSv (by omega), cl_s, if_neg q8, if_pos i00, ld_n (by omega) (by omega), (tw1.2 _ (by omega) x1).2.2, p1, cl_s, ld_n (by omega) (by omega), (p2.2 51 rfl).1, (tw1.2 _ (by omega) x1).2.1, r1, cl_s, a1, d1]
          rw [show lk + 1 + j1 + j2 = lk + (1 + j1 + j2) by omega]
        · rw [d3 i hi, a3 i (by omega), r4 i (by omega), p4 i hi, k34]
        · intro x hx hm
          rcases d9 x hx hm with z | z
          · rcases a9 x hx z with y1 | y1
            · by_cases e : x = bc y
              · refine Or.inr (fun u hu => ?_)
                rw [e, x3] at hu
                rw [hl2, addV_mem]
                exact Or.inr hu
              · rw [fu_n e] at y1
                exact Or.inl y1
            · refine Or.inr (fun u hu => ?_)
              rw [d8, addV_mem]
              exact Or.inl (y1 u hu)
          · exact Or.inr z
theorem cNumInit {N D n : Nat} (hn : n ≤ 158) : ∀ k f j w, n - j ≤ k → j ≤ n → k < f → sI w 19 = nI n → (∀ x, x < j → aI w 32 x = 0) →
    ∃ w2, fX1_numberVariables_2 N D f w (nI j) = (c_cl (eX1_push N D w2 8 0) fun w1 v2 => fX1_numberVariables_38 N D N w1 (nI 0) v2 (nI 0)) ∧ Fr noS nvA w w2 ∧ ∀ x, x < n → aI w2 32 x = 0 := by
  intro k
  induction k with
  | zero =>
    intro f j w hk hj hf h19 hx
    obtain ⟨f, rfl⟩ : ∃ f2, f = f2 + 1 := ⟨f - 1, by omega⟩
    have key : fX1_numberVariables_2 N D (f + 1) w (nI j) = bX1_numberVariables_2 N D (fX1_numberVariables_2 N D f) w (nI j) := rfl
    rw [key]
    unfold bX1_numberVariables_2
    rw [h19, if_pos (by rw [nI_leI (by omega) (by omega)]; omega)]
    exact ⟨w, rfl, Fr.rf w, fun x h1 => hx x (by omega)⟩
  | succ k ih =>
    intro f j w hk hj hf h19 hx
    obtain ⟨f, rfl⟩ : ∃ f2, f = f2 + 1 := ⟨f - 1, by omega⟩
    have key : fX1_numberVariables_2 N D (f + 1) w (nI j) = bX1_numberVariables_2 N D (fX1_numberVariables_2 N D f) w (nI j) := rfl
    rw [key]
    unfold bX1_numberVariables_2
    by_cases e : j = n
    · rw [h19, if_pos (by rw [nI_leI (by omega) (by omega)]; omega)]
      exact ⟨w, rfl, Fr.rf w, fun x h1 => hx x (by omega)⟩
    · rw [h19, if_neg (by rw [nI_leI (by omega) (by omega)]; omega), sz_n (by omega) (by omega)]
      simp only [c_nm]
      rw [nI_1]
      obtain ⟨w2, o1, o2, o3⟩ := ih f (j + 1) (pA w 32 (upd (aI w 32) j (vp_nar .boolean 0))) (by omega) (by omega) (by omega) h19 (fun x hx1 => by
        show upd (aI w 32) j (vp_nar .boolean 0) x = _
        by_cases z : x = j
        · rw [z, upd_s]; rfl
        · rw [upd_n z]; exact hx x (by omega))
      exact ⟨w2, o1, ((Fr.rf w).pa (k := 32) rfl).tr o2, o3⟩
theorem cNumber {N d n : Nat} {hd f1 f2 bc : Nat → Nat} {T : Nat → Tr} {w : Wd} (hN : 2000000 ≤ N) (ts : TS n hd f1 f2 bc T) (h8 : 8 < n) (hn2 : n ≤ 150) (tw : TW n hd f1 f2 bc w) (h19 : sI w 19 = nI n) :
    ∃ w2, eX1_numberVariables N (d + 2) w = some w2 ∧ Fr noS nvA w w2 ∧ NW (addV [] (vs (T 8))) w2 ∧ LN (addV [] (vs (T 8))) := by
  have hn := ts.2.2.2.2
  have key : eX1_numberVariables N (d + 2) w = fX1_numberVariables_2 N (d + 1) N w (nI 0) := rfl
  rw [key]
  obtain ⟨w1, o1, o2, o3⟩ := cNumInit (N := N) (D := d + 1) hn n N 0 w (by omega) (by omega) (by omega) h19 (fun x h => by omega)
  rw [o1]
  obtain ⟨w2, p1, p2, p3, p4⟩ := cPush (N := N) (d := d) (y := 8) (w := w1) (st := []) (by omega) (by decide) trivial
  have p1' : eX1_push N (d + 1) w1 8 0 = some (w2, nI 1) := p1
  rw [p1', cl_s]
  have p3' : SA [8] w2 := p3
  have cu := cU_le (M := fun _ => false) n
  obtain ⟨j, l2, M2, w3, a1, a2, a3, a4, a5, a6, a7, a8, a9, a10⟩ := cNumOne (N := N) (d := d) ts (tsz (T 8)) 8 [] [] (fun _ => false) w2 0 (Nat.le_refl _) h8 p3' ((tw.k o2).k p2) (fun x hx => by rw [(p2.2 32 rfl).1]; exact o3 x hx) (fun v hv => by cases hv) LN.nil (fun v hv => by cases hv) (fun x _ h => by cases h) (by show 0 + _ ≤ _; omega) (by omega)
  have := a1 (N - j)
  rw [show N - j + j = N by omega] at this
  have this' : fX1_numberVariables_38 N (d + 1) N w2 (nI 0) (nI 1) (nI 0) = _ := this
  rw [this']
  obtain ⟨f, hf⟩ : ∃ f2, N - j = f2 + 1 := ⟨N - j - 1, by omega⟩
  rw [hf]
  have key2 : fX1_numberVariables_38 N (d + 1) (f + 1) w3 (nI l2.length) (nI ([] : List Nat).length) (nI (0 + j)) = bX1_numberVariables_38 N (d + 1) (fX1_numberVariables_38 N (d + 1) f) w3 (nI l2.length) (nI 0) (nI (0 + j)) := rfl
  rw [key2]
  unfold bX1_numberVariables_38 bX1_numberVariables_148
  rw [if_neg (by rw [show (1000000 : Int32) = nI 1000000 from rfl, nI_leI (by omega) (by omega)]; omega), if_pos (by decide)]
  rw [a8] at a5 a6
  exact ⟨w3, rfl, (o2.tr p2.sk).tr a2, a5, a6⟩
