/-! sign -/
def signB (B : Bk) (a q : Nat) : Bk := (nB B, hB B, aB B, bB B, sB B + 1, fu (arB B) (sB B) a, fu (wtB B) (sB B) q, szB B, wgB B, ctB B)
theorem GB.sign {B : Bk} (G : GB B) {a q : Nat} (ha : a ≤ 2) (h1 : 1 ≤ q) (h9 : q ≤ 9) (hs : sB B < 10) : GB (signB B a q) := by
  obtain ⟨g1, g2, g3, g4, g5, g6, g7, g8, g9⟩ := G
  have hn : ∀ t, t < nB B → hB B t ≠ sB B := fun t ht e => by rcases (g5 t ht).1 with z | z <;> omega
  have en : ∀ t, t < nB B → npB (signB B a q) t = npB B t := fun t ht => fu_n (hn t ht)
  refine ⟨g1, by show sB B + 1 ≤ 10; omega, fun k hk => ?_, fun k hk => ?_, fun t ht => ?_, g6, fun t ht => ?_, fun t ht => ?_, fun t ht => ?_⟩
  · show fu (arB B) (sB B) a k ≤ 2 ∧ 1 ≤ fu (wtB B) (sB B) q k ∧ fu (wtB B) (sB B) q k ≤ 9
    have hk2 : k < sB B + 1 := hk
    by_cases e : k = sB B
    · rw [e, fu_s, fu_s]; exact ⟨ha, h1, h9⟩
    · rw [fu_n e, fu_n e]; exact g3 k (by omega)
  · show fu (arB B) (sB B) a k = 0 ∧ fu (wtB B) (sB B) q k = 1
    rw [fu_n (by omega), fu_n (by omega)]; exact g4 k hk
  · rw [en t ht]
    refine ⟨?_, (g5 t ht).2⟩
    rcases (g5 t ht).1 with z | z
    · exact Or.inl (Nat.lt_succ_of_lt z)
    · exact Or.inr z
  · rw [en t ht]; exact g7 t ht
  · rw [en t ht]
    show wgB B t = capN (fu (wtB B) (sB B) q (hB B t) + _)
    rw [fu_n (hn t ht)]; exact g8 t ht
  · rw [en t ht]; exact g9 t ht
theorem GR.sign {B : Bk} {R : Ru} {a q : Nat} (h : GR B R) : GR (signB B a q) R := h
theorem RP.sign {B : Bk} {a q : Nat} {wc wm : Wd} (h : RP B wc wm) : RP (signB B a q) wc wm := h
theorem pvB_cg {B B2 : Bk} {k m : Nat} (h : ∀ t, t < m → bkB B2 t = bkB B t) : pvB B2 k m = pvB B k m := by
  induction m with
  | zero => rfl
  | succ m ih => unfold pvB; rw [h m (by omega), ih (fun t ht => h t (by omega))]
theorem signL {N d s : Nat} (hs : s < 10) : ∀ m j w, j ≤ 16 → 16 < m + j → sI w 1 = nI s → fX11_sign_66 N d m w (nI j) = some (pI (pA w 29 (fil (aI w 29) (16 * s + j) (16 * s + 16) 0)) 1 (nI (s + 1)), nI s) := by
  intro m
  induction m with
  | zero => intro j w h1 h2; omega
  | succ m ih =>
    intro j w h1 h2 h3
    show bX11_sign_66 N d (fX11_sign_66 N d m) w (nI j) = _
    unfold bX11_sign_66
    simp only [c_nm, c_pi]
    by_cases e : 16 ≤ j
    · rw [if_pos (by rw [show (16 : Int32) = nI 16 from rfl, nI_leI (by omega) (by omega)]; exact e)]
      have : pA w 29 (fil (aI w 29) (16 * s + j) (16 * s + 16) 0) = w := pA_self (funext fun i => fil_out (by omega))
      rw [this, h3, nI_1]
      congr 2
      show nI (s + 1) - 1 = nI s
      exact nI_pred s
    · rw [if_neg (fun z => e (by rw [show (16 : Int32) = nI 16 from rfl, nI_leI (by omega) (by omega)] at z; exact z)), h3, show (16 : Int32) * nI s = nI (16 * s) from pk_mul 16 s, nI_add, st_n (by omega) (by omega), nI_1, ih (j + 1) (pA w 29 (upd (aI w 29) (16 * s + j) 0)) (by omega) (by omega) h3, pA_pA]
      congr 3
      congr 1
      funext i
      show (if 16 * s + (j + 1) ≤ i ∧ i < 16 * s + 16 then (0 : Int32) else aI (pA w 29 _) 29 i) = _
      rw [aI_pA, if_pos rfl]
      by_cases q : 16 * s + (j + 1) ≤ i ∧ i < 16 * s + 16
      · rw [if_pos q, fil_in (by omega) q.2]
      · rw [if_neg q]
        by_cases q2 : i = 16 * s + j
        · rw [q2, upd_s, fil_in (by omega) (by omega)]
        · rw [upd_n q2, fil_out (by omega)]
theorem op_sign {N d : Nat} (hN : 2000000 ≤ N) : Op_sign N (d + 5) II := by
  intro t wc wm x y _ h
  obtain ⟨B, R, G, gr, rb, rm, rc, rr, ru, rp, ⟨n, t1, t2, t3, t4, t5, t6, t7⟩, rs⟩ := id h
  have key : eX10_sign N (d + 5) wc x y = bX10_sign_0 N (d + 4) wc x y := rfl
  have key2 : eX11_sign N (d + 5) wm x y = bX11_sign_0 N (d + 4) wm x y := rfl
  have g2 := G.2.1
  rw [key, key2]
  unfold bX10_sign_0 bX11_sign_0 bX10_sign_20 bX11_sign_29
  simp only [c_pi]
  rw [in_lit (lo := 0) (hi := 2) (by decide) (by decide), cl_s, in_lit (lo := 1) (hi := 9) (by decide) (by decide), cl_s]
  by_cases q1 : x < 0
  · rw [if_pos q1, if_pos q1, if_pos i00]; exact two_th rfl rfl h
  rw [if_neg q1, if_neg q1]
  by_cases q2 : 2 < x
  · rw [if_pos q2, if_pos q2, if_pos i00]; exact two_th rfl rfl h
  rw [if_neg q2, if_neg q2, if_neg i10]
  by_cases q3 : y < 1
  · rw [if_pos q3, if_pos q3, if_pos i00]; exact two_th rfl rfl h
  rw [if_neg q3, if_neg q3]
  by_cases q4 : 9 < y
  · rw [if_neg (fun z => by rw [Int32.lt_iff_toInt_lt] at q4; rw [Int32.le_iff_toInt_le] at z; omega), if_pos q4, if_pos i00]; exact two_th rfl rfl h
  rw [if_pos (by rw [Int32.lt_iff_toInt_lt] at q4; rw [Int32.le_iff_toInt_le]; omega), if_neg q4, if_neg i10]
  obtain ⟨a, a1, a2, ax⟩ := rng (lo := 0) (hi := 2) (by omega) q1 q2 (by omega)
  obtain ⟨e, e1, e2, ey⟩ := rng (lo := 1) (hi := 9) (by omega) q3 q4 (by omega)
  have key3 : eX8_addSign N (d + 4) wc x y = bX8_addSign_0 N (d + 3) wc x y := rfl
  have hm1 : sI (pI wm 0 0) 1 = nI (sB B) := rm.1
  rw [key3]
  unfold bX8_addSign_0
  simp only [c_pi]
  rw [rb.1, hm1]
  by_cases q5 : sB B = 10
  · rw [q5, if_neg (by decide), if_pos (by decide), cl_s]
    exact two_th rfl rfl h
  rw [if_pos (by rw [show (10 : Int32) = nI 10 from rfl, nI_ltI (by omega) (by omega)]; omega), if_neg (show ¬ nI (sB B) = (10 : Int32) from fun z => q5 ((nI_eq (b := 10) (by omega) (by omega)).mp z))]
  rw [st_n (by omega) (by omega), st_n (by omega) (by omega)]
  have z1 : sI (pA wc 12 (upd (aI wc 12) (sB B) x)) 0 = nI (sB B) := rb.1
  have z2 : sI (pA (pI wm 0 0) 1 (upd (aI (pI wm 0 0) 1) (sB B) x)) 1 = nI (sB B) := rm.1
  rw [z1, z2, st_n (by omega) (by omega), st_n (by omega) (by omega)]
  generalize hw5 : pA (pA (pI wm 0 0) 1 (upd (aI (pI wm 0 0) 1) (sB B) x)) 2 (upd (aI (pA (pI wm 0 0) 1 (upd (aI (pI wm 0 0) 1) (sB B) x)) 2) (sB B) y) = w5
  generalize hw4 : pA (pA wc 12 (upd (aI wc 12) (sB B) x)) 13 (upd (aI (pA wc 12 (upd (aI wc 12) (sB B) x)) 13) (sB B) y) = w4
  have hsg := signL (N := N) (d := d + 4) (s := sB B) (by omega) N 0 w5 (by omega) (by omega) (by rw [← hw5]; exact rm.1)
  have hsg2 : fX11_sign_66 N (d + 4) N w5 0 = _ := hsg
  have hk : sI w4 0 = nI (sB B) := by rw [← hw4]; exact rb.1
  rw [hsg2, cl_s, hk, nI_1]
  refine ⟨pI w4 0 (nI (sB B + 1)), _, nI (sB B), ?_, rfl, ?_⟩
  · show some (_, nI (sB B + 1) - 1) = _
    rw [nI_pred]
  · subst hw4
    subst hw5
    refine ⟨signB B a e, R, G.sign a2 e1 e2 (by omega), gr, ⟨rfl, rb.2.1, fun k hk => ?_, rb.2.2.2.1, rb.2.2.2.2.1, fun k hk => by rw [pvB_cg (B := B) (B2 := signB B a e) (fun _ _ => rfl)]; exact rb.2.2.2.2.2.1 k hk, fun t ht => by rw [pvB_cg (B := B) (B2 := signB B a e) (fun _ _ => rfl)]; exact rb.2.2.2.2.2.2 t ht⟩, ⟨rfl, rm.2.1, rm.2.2.1, fun k hk => ?_, rm.2.2.2.2.1, rm.2.2.2.2.2⟩, rc, rr, ru, rp, ⟨n, t1, t2, t3, t4, t5, t6, fun hn => ?_⟩, rs.up⟩
    · show upd (aI wc 12) (sB B) x k = nI (fu (arB B) (sB B) a k) ∧ upd (aI wc 13) (sB B) y k = nI (fu (wtB B) (sB B) e k)
      by_cases ek : k = sB B
      · rw [ek, upd_s, upd_s, fu_s, fu_s]; exact ⟨ax, ey⟩
      · rw [upd_n ek, upd_n ek, fu_n ek, fu_n ek]
        refine rb.2.2.1 k ?_
        have hk2 : k < sB B + 1 ∨ 10 ≤ k ∧ k < 18 := hk
        omega
    · show upd (aI wm 1) (sB B) x k = nI (fu (arB B) (sB B) a k) ∧ upd (aI wm 2) (sB B) y k = nI (fu (wtB B) (sB B) e k)
      by_cases ek : k = sB B
      · rw [ek, upd_s, upd_s, fu_s, fu_s]; exact ⟨ax, ey⟩
      · rw [upd_n ek, upd_n ek, fu_n ek, fu_n ek]
        refine rm.2.2.2.1 k ?_
        have hk2 : k < sB B + 1 := hk
        omega
    · obtain ⟨c1, c2, c3⟩ := t7 hn
      refine ⟨fun j hj => ⟨?_, (c1 j hj).2⟩, fun j hj hj2 => c2 j ?_ hj2, c3⟩
      · show fil (aI wm 29) (16 * sB B + 0) (16 * sB B + 16) 0 j = aI wc 35 j
        by_cases q6 : 16 * sB B + 0 ≤ j ∧ j < 16 * sB B + 16
        · rw [fil_in q6.1 q6.2, c2 j (by omega) hj]
        · rw [fil_out (by omega)]; exact (c1 j hj).1
      · have : 16 * (sB B + 1) ≤ j := hj
        omega
/-! term -/
theorem op_term {N d : Nat} (hN : 2000000 ≤ N) : Op_term N (d + 6) II := by
  intro t wc wm x y z _ h
  obtain ⟨B, R, G, gr, rb, rm, rc, rr, ru, rp, rt, rs⟩ := id h
  have key : eX10_term N (d + 6) wc x y z = bX10_term_0 N (d + 5) wc x y z := rfl
  have key2 : eX11_term N (d + 6) wm x y z = bX11_term_0 N (d + 5) wm x y z := rfl
  have g1 := G.1
  have g2 := G.2.1
  have rm2 : RM B (pI wm 0 0) := rm
  rw [key, key2]
  unfold bX10_term_0 bX11_term_0 bX10_term_41 bX11_term_38 bX10_term_55 bX11_term_56 bX10_term_58 bX11_term_59 bX10_term_73 bX10_term_84
  simp only [c_pi]
  rw [iw_k (sB B) rb.1, cl_s, rm2.1, in_n (by omega), cl_s]
  rcases iw_cases (n := sB B) (by omega) x with ⟨k, hk, e, q⟩ | ⟨_, q⟩
  · rw [q, if_neg i10, if_neg i10, e]
    have L1 : ∀ K : Int32 → Option (Wd × Int32), c_ld wc 12 18 (nI k) K = K (nI (arB B k)) := fun K => by rw [ld_n (by omega) (by omega), (rb.2.2.1 k (Or.inl hk)).1]
    have L2 : ∀ K : Int32 → Option (Wd × Int32), c_ld (pI wm 0 0) 1 10 (nI k) K = K (nI (arB B k)) := fun K => by rw [ld_n (by omega) (by omega), (rm2.2.2.2.1 k hk).1]
    have T1 : ∀ x, eX10_isTerm N (d + 5) wc x = _ := fun x => cIsTerm rb
    have T2 : ∀ x, eX11_isTerm N (d + 5) (pI wm 0 0) x = _ := fun x => mIsTerm G rm2
    have g3 := G.2.2.1 k hk
    have l0 : nI (arB B k) ≤ 0 ↔ arB B k = 0 := by rw [show (0 : Int32) = nI 0 from rfl, nI_leI (by omega) (by omega)]; omega
    have l1 : nI (arB B k) ≤ 1 ↔ arB B k ≤ 1 := by rw [show (1 : Int32) = nI 1 from rfl, nI_leI (by omega) (by omega)]
    have hsg : sg k = nI k := (sg_all k (by omega)).2.1 (by omega)
    simp only [L1, L2, T1, T2, cl_s]
    by_cases a0 : arB B k = 0
    · have f0 := l0.mpr a0
      have f1 := l1.mpr (by omega)
      have hv : VN B k 2000 2000 := ⟨Or.inl hk, by rw [if_neg (by omega)], by rw [if_neg (by omega)]⟩
      obtain ⟨c2, m2, r, e1, e2, e3⟩ := op_mk (dc := d + 3) (dm := d + 2) (x2 := y) (x3 := z) G gr rb rm2 rc rr ru rp rt rs hN hv (fun q => by omega) (fun q => by omega)
      rw [eN_no] at e1
      rw [hsg] at e2
      refine ⟨c2, m2, r, ?_, ?_, e3⟩
      · simp only [f0, f1, if_true, e1, cl_s]
      · simp only [f0, f1, if_true, e2, cl_s]
    · have f0 : ¬ nI (arB B k) ≤ 0 := fun z => a0 (l0.mp z)
      rcases iw_cases (n := nB B) (by omega) y with ⟨i, hi, ei, qi⟩ | ⟨_, qi⟩
      · by_cases a1 : arB B k ≤ 1
        · have f1 := l1.mpr a1
          have hv : VN B k i 2000 := ⟨Or.inl hk, by rw [if_pos (by omega)]; exact hi, by rw [if_neg (by omega)]⟩
          obtain ⟨c2, m2, r, e1, e2, e3⟩ := op_mk (dc := d + 3) (dm := d + 2) (x2 := y) (x3 := z) G gr rb rm2 rc rr ru rp rt rs hN hv (fun q => by rw [ei, eN_n (by omega)]) (fun q => by omega)
          rw [eN_no, eN_n (by omega), ← ei] at e1
          rw [hsg] at e2
          refine ⟨c2, m2, r, ?_, ?_, e3⟩
          · simp only [f0, f1, qi, i10, if_true, if_false, e1, cl_s]
          · simp only [f0, f1, qi, i10, if_true, if_false, e2, cl_s]
        · have f1 : ¬ nI (arB B k) ≤ 1 := fun z => a1 (l1.mp z)
          rcases iw_cases (n := nB B) (by omega) z with ⟨j, hj, ej, qj⟩ | ⟨_, qj⟩
          · have hv : VN B k i j := ⟨Or.inl hk, by rw [if_pos (by omega)]; exact hi, by rw [if_pos (by omega)]; exact hj⟩
            obtain ⟨c2, m2, r, e1, e2, e3⟩ := op_mk (dc := d + 3) (dm := d + 2) (x2 := y) (x3 := z) G gr rb rm2 rc rr ru rp rt rs hN hv (fun q => by rw [ei, eN_n (by omega)]) (fun q => by rw [ej, eN_n (by omega)])
            rw [eN_n (by omega), eN_n (by omega), ← ei, ← ej] at e1
            rw [hsg] at e2
            refine ⟨c2, m2, r, ?_, ?_, e3⟩
            · simp only [f0, f1, qi, qj, i10, if_true, if_false, e1, cl_s]
            · simp only [f0, f1, qi, qj, i10, if_true, if_false, e2, cl_s]
          · refine two_th (r := -2) ?_ ?_ h
            · simp only [f0, f1, qi, qj, i10, if_true, if_false]
            · simp only [f0, f1, qi, qj, i10, if_true, if_false]
      · refine two_th (r := -2) ?_ ?_ h
        · simp only [f0, qi, if_true, if_false]
        · simp only [f0, qi, if_true, if_false]
  · rw [q, if_pos i00, if_pos i00]
    exact two_th rfl rfl h
