/-! of -/
theorem bitat : ∀ v, v < 8 → ∀ a, a < 256 → (((nI a >>> (nI v &&& 31)) &&& 1) = 1 ↔ a.testBit v = true) := by decide +kernel
theorem mB_cap {B : Bk} (G : GB B) {t v : Nat} (ht : t < nB B) (hv : v < 8) : ctB B t v = capN ((if hB B t = 10 + v then 1 else 0) + two (npB B t) (ctB B (aB B t) v) (ctB B (bB B t) v)) := G.2.2.2.2.2.2.2.2 t ht v hv
theorem GB.np {B : Bk} (G : GB B) {t : Nat} (ht : t < nB B) : npB B t ≤ 2 ∧ (10 ≤ hB B t → npB B t = 0) ∧ (1 ≤ npB B t → aB B t < t) ∧ (2 ≤ npB B t → bB B t < t) ∧ (¬ 1 ≤ npB B t → aB B t = 2000) ∧ (¬ 2 ≤ npB B t → bB B t = 2000) := by
  have h5 := G.2.2.2.2.1 t ht
  have hv : 10 ≤ hB B t → npB B t = 0 := fun z => (G.2.2.2.1 _ z).1
  refine ⟨?_, hv, fun q => ?_, fun q => ?_, fun q => ?_, fun q => ?_⟩
  · rcases h5.1 with z | z
    · exact (G.2.2.1 _ z).1
    · rw [hv z.1]; omega
  · have := h5.2.1; rw [if_pos q] at this; exact this
  · have := h5.2.2; rw [if_pos q] at this; exact this
  · have := h5.2.1; rw [if_neg q] at this; exact this
  · have := h5.2.2; rw [if_neg q] at this; exact this
theorem cOftenL {N d x v : Nat} {B : Bk} (G : GB B) (hx : x < nB B) (hv : v < 8) : ∀ n j w, RB B w → j ≤ x + 1 → x + 1 < n + j → (∀ q, q < j → aL w 22 q = lN (ctB B q v)) → ∃ f, fX8_howOften_2 N (d + 1) n w (nI x) (nI v) (nI j) = some (pB w 22 f, lN (ctB B x v)) := by
  have g1 := G.1
  intro n
  induction n with
  | zero => intro j w R h1 h2; omega
  | succ n ih =>
    intro j w R h1 h2 h3
    show ∃ f, bX8_howOften_2 N (d + 1) (fX8_howOften_2 N (d + 1) n) w (nI x) (nI v) (nI j) = _
    unfold bX8_howOften_2
    by_cases e : x < j
    · rw [if_pos ((nI_ltI (by omega) (by omega)).mpr e), ll_n (by omega) (by omega), h3 x e]
      refine ⟨aL w 22, ?_⟩
      have : pB w 22 (aL w 22) = w := by
        obtain ⟨a, b, c, z⟩ := w
        unfold pB aL
        refine congrArg (fun y => (a, b, y, z)) (funext fun i => ?_)
        show (if i = 22 then c 22 else c i) = c i
        split
        · rename_i q; rw [q]
        · rfl
      rw [this]
    · rw [if_neg (fun z => e ((nI_ltI (by omega) (by omega)).mp z))]
      have hj : j < nB B := by omega
      obtain ⟨M, m1, m2, m3⟩ := R.2.2.2.2.1 j hj
      have hbit := bitat v hv M m1
      have hr := R.2.2.2.1 j hj
      have hal := G.a_le hj
      have hnp := G.np hj
      rw [ld_n (by omega) (by omega), m2]
      have fin : ∀ S, S < 2 ^ 62 → capN S = ctB B j v → ∃ f, bX8_howOften_99 N (d + 1) (fX8_howOften_2 N (d + 1) n) w (nI x) (nI v) (nI j) (lN S) = some (pB w 22 f, lN (ctB B x v)) := by
        intro S hS hc
        have hcb := capN_le S
        have go : ∃ f, bX8_howOften_121 N (d + 1) (fX8_howOften_2 N (d + 1) n) w (nI x) (nI v) (nI j) (nI j) (lN (capN S)) = some (pB w 22 f, lN (ctB B x v)) := by
          unfold bX8_howOften_121
          simp only [c_nm]
          rw [sl_n (by omega) (by omega), nI_1]
          obtain ⟨f, hf⟩ := ih (j + 1) (pB w 22 (vp_updL (aL w 22) j (lN (capN S)))) R (by omega) (by omega) (fun q hq => by
            show vp_updL (aL w 22) j (lN (capN S)) q = _
            by_cases eq : q = j
            · rw [eq, updL_s, hc]
            · rw [updL_n eq]; exact h3 q (by omega))
          refine ⟨f, ?_⟩
          rw [hf]
          congr 2
          unfold pB
          refine congrArg (fun y => (w.1, w.2.1, y, w.2.2.2)) (funext fun i => ?_)
          show (if i = 22 then f else if i = 22 then _ else w.2.2.1 i) = _
          split <;> rfl
        unfold bX8_howOften_99
        rw [lN_cap]
        by_cases q : S ≤ 1000000000000000
        · rw [if_pos ((lc_le (by omega) (by omega)).mpr q)]
          have : capN S = S := by unfold capN; rw [if_neg (by omega)]
          rw [this] at go
          exact go
        · rw [if_neg (fun z => q ((lc_le (by omega) (by omega)).mp z))]
          have : capN S = 1000000000000000 := by unfold capN; rw [if_pos (by omega)]
          rw [this] at go
          exact go
      by_cases q : 0 < ctB B j v
      · have hb : M.testBit v = true := by rw [m3 v hv, decide_eq_true_iff]; exact q
        rw [if_pos (hbit.mpr hb), cIsVar G R hj, cl_s]
        have hcc := mB_cap G hj hv
        by_cases hvar : hB B j < 10
        · rw [if_pos hvar, if_pos i00]
          unfold bX8_howOften_37
          rw [ld_n (by omega) (by omega), hr.2.1, ld_n (by omega) (by omega), hr.2.1]
          have hne : ¬ hB B j = 10 + v := by omega
          rw [if_neg hne] at hcc
          have hn1 : 1 ≤ npB B j := by
            apply Decidable.byContradiction
            intro z
            have : two (npB B j) (ctB B (aB B j) v) (ctB B (bB B j) v) = 0 := by unfold two; rw [if_neg z, if_neg (by omega)]
            rw [this] at hcc
            rw [hcc] at q
            exact absurd q (by decide)
          have ha := hnp.2.2.1 hn1
          have ca := (G.sz_le (t := aB B j) (by omega)).2.2.2 v hv
          rw [if_neg (eN_m1 (by omega)), eN_n (by omega), ll_n (by omega) (by omega), h3 _ ha]
          unfold bX8_howOften_66
          simp only [c_nm]
          rw [ld_n (by omega) (by omega), hr.2.2.1, ld_n (by omega) (by omega), hr.2.2.1]
          by_cases hn2 : 2 ≤ npB B j
          · have hb3 := hnp.2.2.2.1 hn2
            have cb := (G.sz_le (t := bB B j) (by omega)).2.2.2 v hv
            rw [if_neg (eN_m1 (by omega)), eN_n (by omega), ll_n (by omega) (by omega), h3 _ hb3]
            unfold bX8_howOften_96
            simp only [c_nm]
            rw [show (0 : Int64) = lN 0 from rfl, lN_add, lN_add]
            refine fin _ (by omega) ?_
            rw [hcc]
            unfold two
            rw [if_pos hn1, if_pos hn2, Nat.add_assoc]
          · rw [hnp.2.2.2.2.2 hn2, if_pos eN_no]
            unfold bX8_howOften_96
            simp only [c_nm]
            rw [show (0 : Int64) = lN 0 from rfl, lN_add, lN_add]
            refine fin _ (by omega) ?_
            rw [hcc]
            unfold two
            simp only [if_pos hn1, if_neg hn2, Nat.add_zero]
        · rw [if_neg hvar, if_neg i10]
          unfold bX8_howOften_37
          have hn0 := hnp.2.1 (by omega)
          have h2 : two (npB B j) (ctB B (aB B j) v) (ctB B (bB B j) v) = 0 := by unfold two; rw [if_neg (by omega), if_neg (by omega)]
          rw [ld_n (by omega) (by omega), hr.2.1, hnp.2.2.2.2.1 (by omega), if_pos eN_no]
          unfold bX8_howOften_66
          simp only [c_nm]
          rw [ld_n (by omega) (by omega), hr.2.2.1, hnp.2.2.2.2.2 (by omega), if_pos eN_no]
          unfold bX8_howOften_96
          simp only [c_nm]
          rw [show (1 : Int64) = lN 1 from rfl, show (0 : Int64) = lN 0 from rfl, lN_add, lN_add]
          refine fin _ (by omega) ?_
          rw [h2] at hcc
          rw [hcc]
          rw [hcc] at q
          by_cases hz : hB B j = 10 + v
          · rw [if_pos hz]
          · rw [if_neg hz] at q
            exact absurd q (by decide)
      · have hb : ¬ M.testBit v = true := by rw [m3 v hv, decide_eq_true_iff]; exact q
        rw [if_neg (fun z => hb (hbit.mp z))]
        refine fin 0 (by omega) ?_
        have : ctB B j v = 0 := by omega
        rw [this]
        rfl
theorem op_of {N d : Nat} (hN : 2000000 ≤ N) : Op_of N (d + 6) II := by
  intro t wc wm x y z _ h
  obtain ⟨B, R, G, gr, rb, rm, rc, rr, ru, rp, rt, rs⟩ := id h
  have key : eX10_of N (d + 6) wc x y z = bX10_of_0 N (d + 5) wc x y z := rfl
  have key2 : eX11_of N (d + 6) wm x y z = bX11_of_0 N (d + 5) wm x y z := rfl
  have g1 := G.1
  have rm2 : RM B (pI wm 0 0) := rm
  rw [key, key2]
  unfold bX10_of_0 bX11_of_0 bX10_of_30 bX11_of_42
  simp only [c_pi]
  rw [cIsTerm rb, cl_s, mIsTerm G rm2, cl_s, iw_k 5 (y := 5) rfl, cl_s, in_k 5 (y := 4) (by omega) (by decide), cl_s, iw_k 8 (y := 8) rfl, cl_s, in_k 8 (y := 7) (by omega) (by decide), cl_s]
  rcases iw_cases (n := nB B) (by omega) x with ⟨l, hl, el, ql⟩ | ⟨_, q⟩
  · rcases iw_cases (n := 5) (by omega) y with ⟨i, hi, ei, qi⟩ | ⟨_, q⟩
    · simp only [ql, qi, i10, if_false]
      have hal := G.a_le hl
      have sga := sg_all _ hal.2.2
      have hr := rb.2.2.2.1 l hl
      have hm := rm2.2.2.2.2.1 l hl
      have body : (y = 4 → ∃ v, v < 8 ∧ z = nI v) → ∃ wc2 wm2 r, bX10_of_34 N (d + 5) wc x y z = some (wc2, r) ∧ bX11_of_46 N (d + 5) (pI wm 0 0) x y z = some (wm2, r) ∧ II (t + 1) wc2 wm2 := by
        intro hz
        unfold bX10_of_34 bX11_of_46 bX10_of_92 bX11_of_97 bX10_of_112 bX11_of_118
        rw [el, ld_n (by omega) (by omega), hr.1, mIsVar G rm2 hl, cl_s, cl_s, ld_n (by omega) (by omega), hm.1]
        have e10 : (10 : Int32) ≤ nI (hB B l) ↔ ¬ hB B l < 10 := by rw [show (10 : Int32) = nI 10 from rfl, nI_leI (by omega) (by omega)]; omega
        by_cases y0 : y = 0
        · simp only [y0, if_true]
          by_cases q1 : hB B l < 10
          · refine two_th (r := (nI (hB B l)).toInt64) ?_ ?_ h
            · simp only [e10, q1, not_true_eq_false, if_false]
            · simp only [q1, if_true, sga.2.1 q1]
          · refine two_th (r := -1) ?_ ?_ h
            · simp only [e10, q1, not_false_eq_true, if_true]
            · simp only [q1, if_false, i10]
        simp only [y0, if_false]
        by_cases y1 : y = 1
        · simp only [y1, if_true]
          by_cases q1 : hB B l < 10
          · refine two_th (r := -1) ?_ ?_ h
            · simp only [e10, q1, not_true_eq_false, if_false]
            · simp only [q1, if_true]
          · refine two_th (r := (nI (hB B l - 10)).toInt64) ?_ ?_ h
            · simp only [e10, q1, not_false_eq_true, if_true]
              rw [show (10 : Int32) = nI 10 from rfl, pk_sub (by omega)]
            · simp only [q1, if_false, i10]
              rw [mVarOf G rm2 hl (by omega), cl_s]
        simp only [y1, if_false]
        by_cases y2 : y = 2
        · simp only [y2, if_true]
          rw [ll_n (by omega) (by omega), hr.2.2.2.1, ll_n (by omega) (by omega), hm.2.2.2.1]
          exact two_th rfl rfl h
        simp only [y2, if_false]
        by_cases y3 : y = 3
        · simp only [y3, if_true]
          rw [ll_n (by omega) (by omega), hr.2.2.2.2, ll_n (by omega) (by omega), hm.2.2.2.2]
          exact two_th rfl rfl h
        simp only [y3, if_false]
        have y4 : y = 4 := by
          have hi5 : i = 0 ∨ i = 1 ∨ i = 2 ∨ i = 3 ∨ i = 4 := by omega
          rcases hi5 with q | q | q | q | q
          · exact absurd (by rw [ei, q]; rfl) y0
          · exact absurd (by rw [ei, q]; rfl) y1
          · exact absurd (by rw [ei, q]; rfl) y2
          · exact absurd (by rw [ei, q]; rfl) y3
          · rw [ei, q]; rfl
        obtain ⟨v, hv, ev⟩ := hz y4
        obtain ⟨f, hf⟩ := cOftenL (N := N) (d := d + 3) G hl hv N 0 wc rb (by omega) (by omega) (fun q hq => by omega)
        have hf2 : eX8_howOften N (d + 5) wc (nI l) (nI v) = _ := hf
        rw [ev, hf2, cl_s, show (8 : Int32) = nI 8 from rfl, pk_mul, nI_add, ll_n (by omega) (by omega), rm2.2.2.2.2.2 l hl v hv]
        exact ⟨pB wc 22 f, pI wm 0 0, _, rfl, rfl, B, R, G, gr, rb, rm, rc, rr, ru, rp, rt, rs.up⟩
      by_cases y4 : y = 4
      · rcases iw_cases (n := 8) (by omega) z with ⟨v, hv, ev, qv⟩ | ⟨_, qv⟩
        · simp only [y4, if_true, qv, i10, if_false]
          rw [← y4]
          exact body (fun _ => ⟨v, hv, ev⟩)
        · refine two_th (r := -2) ?_ ?_ h
          · simp only [y4, qv, if_true]
          · simp only [y4, qv, if_true]
      · simp only [y4, if_false]
        exact body (fun q => absurd q y4)
    · refine two_th (r := -2) ?_ ?_ h
      · simp only [ql, q, i10, if_true, if_false]
      · simp only [ql, q, i10, if_true, if_false]
  · refine two_th (r := -2) ?_ ?_ h
    · simp only [q, if_true]
    · simp only [q, if_true]
