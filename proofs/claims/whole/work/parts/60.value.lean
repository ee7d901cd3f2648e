/-! the reference's values -/
def Mv (B : Bk) (tab hv : Nat → Nat) (w : Wd) : Prop := ∀ t, t < nB B → aI w 31 t = -1 ∨ aI w 31 t = nI (vlu B tab hv t)
theorem mWorth {B : Bk} (G : GB B) {N : Nat} {tab hv : Nat → Nat} (h1 : ∀ j, j < 160 → tab j ≤ 3) : ∀ k d t w, t < k → RM B w → t < nB B → (∀ j, j < 160 → aI w 29 j = nI (tab j)) → (∀ v, v < 8 → 0 < ctB B t v → aI w 32 v = nI (hv v) ∧ hv v ≤ 3) → Mv B tab hv w →
    ∃ f, eX11_worthOf N (d + k + 2) w (nI t) = some (pA w 31 f, nI (vlu B tab hv t)) ∧ Mv B tab hv (pA w 31 f) := by
  have g1 := G.1
  have g2 := G.2.1
  intro k
  induction k with
  | zero => intro d t w h; omega
  | succ k ih =>
    intro d t w hk R ht h29 h32 hm
    have key : eX11_worthOf N (d + (k + 1) + 2) w (nI t) = bX11_worthOf_0 N (d + k + 2) (eX11_worthOf N (d + k + 2)) w (nI t) := rfl
    rw [key]
    have hnp := G.np ht
    have hal := G.a_le ht
    have hc : ∀ v, v < 8 → (1 ≤ npB B t → 0 < ctB B (aB B t) v → 0 < ctB B t v) ∧ (2 ≤ npB B t → 0 < ctB B (bB B t) v → 0 < ctB B t v) := fun v hv => by
      rw [mB_cap G ht hv]
      refine ⟨fun q q2 => capN_pos ?_, fun q q2 => capN_pos ?_⟩
      · unfold two; rw [if_pos q]; omega
      · unfold two; rw [if_pos q]; omega
    have hve := vlu_eq G (tab := tab) (hv := hv) ht
    have hle := vlu_le G (tab := tab) (hv := hv) h1 (t + 1) t (by omega) ht (fun v hv8 q => (h32 v hv8 q).2)
    unfold bX11_worthOf_0
    rw [ld_n (by omega) (by omega)]
    by_cases e : aI w 31 t = -1
    · rw [if_pos e, mParts G R ht, cl_s]
      -- the last piece: the value is written
      have fin : ∀ f x, x = nI (vlu B tab hv t) → Mv B tab hv (pA w 31 f) → ∃ f2, bX11_worthOf_103 N (d + k + 2) (eX11_worthOf N (d + k + 2)) (pA w 31 f) (nI t) (nI t) x = some (pA w 31 f2, nI (vlu B tab hv t)) ∧ Mv B tab hv (pA w 31 f2) := by
        intro f x hx hmf
        unfold bX11_worthOf_103 bX11_worthOf_104
        rw [st_n (by omega) (by omega), ld_n (by omega) (by omega), pA_pA, aI_pA, if_pos rfl]
        refine ⟨upd f t x, by rw [aI_pA, if_pos rfl, upd_s, hx], fun u hu => ?_⟩
        rw [aI_pA, if_pos rfl]
        by_cases eu : u = t
        · rw [eu, upd_s]; exact Or.inr hx
        · rw [upd_n eu]; exact hmf u hu
      have go2 : ∀ f x y, x = (if 1 ≤ npB B t then vlu B tab hv (aB B t) else 0) → y = (if 2 ≤ npB B t then vlu B tab hv (bB B t) else 0) → Mv B tab hv (pA w 31 f) → ∃ f2, bX11_worthOf_56 N (d + k + 2) (eX11_worthOf N (d + k + 2)) (pA w 31 f) (nI t) (nI x) (nI y) = some (pA w 31 f2, nI (vlu B tab hv t)) ∧ Mv B tab hv (pA w 31 f2) := by
        intro f x y hx hy hmf
        have Rf : RM B (pA w 31 f) := R
        unfold bX11_worthOf_56
        rw [mIsVar G Rf ht, cl_s]
        by_cases hb : hB B t < 10
        · rw [if_pos hb, if_pos i00, ld_n (by omega) (by omega), (Rf.2.2.2.2.1 t ht).1, (sg_all _ hal.2.2).2.1 hb]
          have hix := hle.2 hb
          rw [if_pos hb] at hve
          rw [← hx, ← hy] at hix hve
          rw [show (16 : Int32) = nI 16 from rfl, show (4 : Int32) = nI 4 from rfl, pk_mul, pk_mul, nI_add, nI_add, ld_n (by omega) (by omega)]
          have e29 : aI (pA w 31 f) 29 (16 * hB B t + 4 * x + y) = nI (vlu B tab hv t) := by
            rw [hve]
            exact h29 _ (by omega)
          rw [e29]
          exact fin f _ rfl hmf
        · rw [if_neg hb, if_neg i10, mVarOf G Rf ht (by omega), cl_s, ld_n (by omega) (by omega)]
          rw [if_neg hb] at hve
          have e32 : aI (pA w 31 f) 32 (hB B t - 10) = nI (vlu B tab hv t) := by
            rw [hve]
            refine (h32 _ (by omega) ?_).1
            rw [mB_cap G ht (by omega)]
            refine capN_pos ?_
            rw [if_pos (by omega)]
            omega
          rw [e32]
          exact fin f _ rfl hmf
      have go1 : ∀ f x, x = (if 1 ≤ npB B t then vlu B tab hv (aB B t) else 0) → Mv B tab hv (pA w 31 f) → ∃ f2, bX11_worthOf_32 N (d + k + 2) (eX11_worthOf N (d + k + 2)) (pA w 31 f) (nI t) (nI x) = some (pA w 31 f2, nI (vlu B tab hv t)) ∧ Mv B tab hv (pA w 31 f2) := by
        intro f x hx hmf
        have Rf : RM B (pA w 31 f) := R
        unfold bX11_worthOf_32
        rw [mParts G Rf ht, cl_s]
        by_cases z : 2 ≤ npB B t
        · have hlt := hnp.2.2.2.1 z
          rw [if_neg (show ¬ nI (npB B t) ≤ 1 from fun y => by rw [show (1 : Int32) = nI 1 from rfl, nI_leI (by omega) (by omega)] at y; omega), ld_n (by omega) (by omega), (Rf.2.2.2.2.1 t ht).2.2.1, eN_n (by omega)]
          obtain ⟨f2, e1, e2⟩ := ih d (bB B t) (pA w 31 f) (by omega) Rf (by omega) h29 (fun v hv8 q => h32 v hv8 ((hc v hv8).2 z q)) hmf
          rw [e1, cl_s, pA_pA]
          rw [pA_pA] at e2
          exact go2 f2 x _ hx (by rw [if_pos z]) e2
        · rw [if_pos (show nI (npB B t) ≤ 1 by rw [show (1 : Int32) = nI 1 from rfl, nI_leI (by omega) (by omega)]; omega)]
          exact go2 f x 0 hx (by rw [if_neg z]) hmf
      by_cases z : 1 ≤ npB B t
      · have hlt := hnp.2.2.1 z
        rw [if_neg (show ¬ nI (npB B t) ≤ 0 from fun y => by rw [show (0 : Int32) = nI 0 from rfl, nI_leI (by omega) (by omega)] at y; omega), ld_n (by omega) (by omega), (R.2.2.2.2.1 t ht).2.1, eN_n (by omega)]
        obtain ⟨f2, e1, e2⟩ := ih d (aB B t) w (by omega) R (by omega) h29 (fun v hv8 q => h32 v hv8 ((hc v hv8).1 z q)) hm
        rw [e1, cl_s]
        exact go1 f2 _ (by rw [if_pos z]) e2
      · rw [if_pos (show nI (npB B t) ≤ 0 by rw [show (0 : Int32) = nI 0 from rfl, nI_leI (by omega) (by omega)]; omega)]
        have := go1 (aI w 31) 0 (by rw [if_neg z])
        rw [pA_eta] at this
        exact this hm
    · rw [if_neg e]
      unfold bX11_worthOf_104
      rw [ld_n (by omega) (by omega)]
      refine ⟨aI w 31, ?_, by rw [pA_eta]; exact hm⟩
      rw [pA_eta, (hm t ht).resolve_left e]
theorem mBeginL {B : Bk} (G : GB B) {N d : Nat} : ∀ n j w, RM B w → j ≤ nB B → nB B < n + j → ∃ f, fX11_begin_2 N d n w (nI j) = some (pA w 31 f) ∧ ∀ i, f i = if j ≤ i ∧ i < nB B then -1 else aI w 31 i := by
  have g1 := G.1
  intro n
  induction n with
  | zero => intro j w R h1 h2; omega
  | succ n ih =>
    intro j w R h1 h2
    have key : fX11_begin_2 N d (n + 1) w (nI j) = bX11_begin_2 N d (fX11_begin_2 N d n) w (nI j) := rfl
    rw [key]
    unfold bX11_begin_2
    simp only [c_nm]
    rw [R.2.1]
    by_cases e : nB B ≤ j
    · rw [if_pos ((nI_leI (by omega) (by omega)).mpr e)]
      exact ⟨aI w 31, by rw [pA_eta], fun i => by rw [if_neg (by omega)]⟩
    · rw [if_neg (fun z => e ((nI_leI (by omega) (by omega)).mp z)), st_n (by omega) (by omega), nI_1]
      obtain ⟨f, f1, f2⟩ := ih (j + 1) (pA w 31 (upd (aI w 31) j (-1))) R (by omega) (by omega)
      refine ⟨f, by rw [f1, pA_pA], fun i => ?_⟩
      rw [f2, aI_pA, if_pos rfl]
      by_cases q : j + 1 ≤ i ∧ i < nB B
      · rw [if_pos q, if_pos (by omega)]
      · rw [if_neg q]
        by_cases q2 : i = j
        · rw [q2, upd_s, if_pos (by omega)]
        · rw [upd_n q2, if_neg (by omega)]
theorem mBegin {B : Bk} (G : GB B) {N d : Nat} {w : Wd} {tab hv : Nat → Nat} (hN : 2000000 ≤ N) (R : RM B w) : ∃ f, eX11_begin N (d + 1) w = some (pA w 31 f) ∧ Mv B tab hv (pA w 31 f) := by
  have g1 := G.1
  obtain ⟨f, f1, f2⟩ := mBeginL G (N := N) (d := d) N 0 w R (by omega) (by omega)
  exact ⟨f, f1, fun t ht => Or.inl (by rw [aI_pA, if_pos rfl, f2, if_pos ⟨by omega, ht⟩])⟩
theorem mGivenL {N d : Nat} {x : Int32} : ∀ n j w, j ≤ 8 → 8 < n + j → ∃ f n2, fX11_value_28 N d n w x (nI j) = bX11_value_28 N d (fX11_value_28 N d n2) (pA w 32 f) x 8 ∧ (∀ v, v < 8 → f v = if j ≤ v then aI w 30 v else aI w 32 v) := by
  intro n
  induction n with
  | zero => intro j w h1 h2; omega
  | succ n ih =>
    intro j w h1 h2
    have key : fX11_value_28 N d (n + 1) w x (nI j) = bX11_value_28 N d (fX11_value_28 N d n) w x (nI j) := rfl
    by_cases e : j = 8
    · refine ⟨aI w 32, n, ?_, fun v hv => by rw [if_neg (by omega)]⟩
      rw [key, e, pA_eta]
      rfl
    · obtain ⟨f, n2, f1, f2⟩ := ih (j + 1) (pA w 32 (upd (aI w 32) j (aI w 30 j))) (by omega) (by omega)
      refine ⟨f, n2, ?_, fun v hv => ?_⟩
      · rw [key]
        unfold bX11_value_28
        simp only [c_nm]
        rw [if_neg (fun z => e (by rw [show (8 : Int32) = nI 8 from rfl, nI_leI (by omega) (by omega)] at z; omega)), ld_n (by omega) (by omega), st_n (by omega) (by omega), nI_1, f1, pA_pA]
        rfl
      · rw [f2 v hv]
        by_cases q : j + 1 ≤ v
        · rw [if_pos q, if_pos (by omega)]
          rfl
        · rw [if_neg q, aI_pA, if_pos rfl]
          by_cases q2 : v = j
          · rw [q2, upd_s, if_pos (by omega)]
          · rw [upd_n q2, if_neg (by omega)]
/-- values as numbers -/
def tI (f : Nat → Int32) (j : Nat) : Nat := (f j).toNatClampNeg
theorem tI_n {f : Nat → Int32} {j n : Nat} (hn : n ≤ 3) (h : ∃ x, x ≤ n ∧ f j = nI x) : f j = nI (tI f j) ∧ tI f j ≤ n := by
  obtain ⟨x, h1, h2⟩ := h
  unfold tI
  rw [h2, nI_clamp (by omega)]
  exact ⟨rfl, h1⟩
theorem op_value {N d : Nat} (hN : 2000000 ≤ N) : Op_value N (d + 1010) II := by
  intro t wc wm x _ h
  obtain ⟨B, R, G, gr, rb, rm, rc, rr, ru, rp, rt, rs⟩ := id h
  obtain ⟨n, t1, t2, t3, t4, t5, t6, t7⟩ := id rt
  have key : eX10_value N (d + 1010) wc x = bX10_value_0 N (d + 1009) wc x := rfl
  have key2 : eX11_value N (d + 1010) wm x = bX11_value_0 N (d + 1009) wm x := rfl
  have t8 : sI (pI wm 0 0) 15 = nI n := t3
  have g1 := G.1
  have rm2 : RM B (pI wm 0 0) := rm
  rw [key, key2]
  unfold bX10_value_0 bX11_value_0 bX10_value_34
  simp only [c_pi]
  by_cases q0 : n = 0
  · refine two_th (r := -3) ?_ ?_ h
    · rw [if_pos (by rw [t2]; exact (n0 t1).mpr q0)]
    · rw [if_pos (by rw [t8]; exact (n0 t1).mpr q0)]
  have e1 : ¬ sI wc 10 = 0 := fun z => q0 ((n0 t1).mp (t2.symm.trans z))
  have e2 : ¬ sI (pI wm 0 0) 15 = 0 := fun z => q0 ((n0 t1).mp (t8.symm.trans z))
  rw [if_neg e1, if_neg e2, cIsTerm rb, cl_s, mIsTerm G rm2, cl_s]
  rcases iw_cases (n := nB B) (by omega) x with ⟨k, hk, e, q⟩ | ⟨_, q⟩
  · rw [q, if_neg i10, if_neg i10, e]
    obtain ⟨c1, c2, c3⟩ := t7 (by omega)
    have tb := fun j hj => tI_n t1 (c1 j hj).2
    have tg := fun v hv => tI_n t1 (c3 v hv).2
    -- the class
    obtain ⟨f, b1⟩ := cValueOf G (N := N) (d := d + 1007) (T := k) (tab := tI (aI wc 35)) (hv := tI (aI wc 36)) hN hk (fun j hj => by have := (tb j hj).2; omega) (fun v hv => by have := (tg v hv).2; omega) rb (fun j hj => (tb j hj).1) (fun v hv => (tg v hv).1)
    have ec : eX7_valueOf N (d + 1009) wc (nI k) = some (pB wc 22 f, nI (vlu B (tI (aI wc 35)) (tI (aI wc 36)) k)) := b1
    -- the reference
    obtain ⟨g, n2, g1', g2'⟩ := mGivenL (N := N) (d := d + 1009) (x := nI k) N 0 (pI wm 0 0) (by omega) (by omega)
    have rm3 : RM B (pA (pI wm 0 0) 32 g) := rm
    obtain ⟨f2, h1, h2⟩ := mBegin G (N := N) (d := d + 1008) (tab := tI (aI wc 35)) (hv := tI (aI wc 36)) hN rm3
    have rm4 : RM B (pA (pA (pI wm 0 0) 32 g) 31 f2) := rm
    obtain ⟨f3, h3, h4⟩ := mWorth G (N := N) (tab := tI (aI wc 35)) (hv := tI (aI wc 36)) (fun j hj => by have := (tb j hj).2; omega) 1000 (d + 7) k (pA (pA (pI wm 0 0) 32 g) 31 f2) (by omega) rm4 hk (fun j hj => by
      rw [← (tb j hj).1]
      exact (c1 j hj).1) (fun v hv _ => by
      have z := g2' v hv
      rw [if_pos (Nat.zero_le _)] at z
      refine ⟨?_, by have := (tg v hv).2; omega⟩
      rw [← (tg v hv).1, ← (c3 v hv).1]
      exact z) h2
    have em : fX11_value_28 N (d + 1009) N (pI wm 0 0) (nI k) 0 = some (pA (pA (pI wm 0 0) 32 g) 31 f3, nI (vlu B (tI (aI wc 35)) (tI (aI wc 36)) k)) := by
      have g3' : fX11_value_28 N (d + 1009) N (pI wm 0 0) (nI k) 0 = _ := g1'
      rw [g3']
      unfold bX11_value_28
      rw [if_pos (show (8 : Int32) ≤ 8 by decide), h1, cv_s]
      have h5 : eX11_worthOf N (d + 1009) (pA (pA (pI wm 0 0) 32 g) 31 f2) (nI k) = _ := h3
      rw [h5, cl_s, pA_pA]
    rw [ec, cl_s, em]
    have fc : Fr (fun _ => false) (fun k => k == 22) wc (pB wc 22 f) := (Fr.rf wc).pb rfl
    have fm : Fr (fun k => k == 0) (fun k => k == 31 || k == 32) wm (pA (pA (pI wm 0 0) 32 g) 31 f3) := (((Fr.rf wm).pi rfl).pa rfl).pa rfl
    refine ⟨_, _, _, rfl, rfl, B, R, G, gr, rb.k fc, rm.k fm, rc.k fc, rr.k fm, ru.k fc fm, rp.k (Nat.le_refl _) fc fm, rt.k rfl fc fm, (rs.k fc).up⟩
  · rw [q, if_pos i00, if_pos i00]
    exact two_th rfl rfl h
