/-! a tree with another one at a place -/
def rpF (B : Bk) (β : Be) (other : Nat) (at' : Int64) : Nat → Nat → Int64 → Tr
  | 0 => fun _ _ => no
  | f + 1 => fun t p => if p = at' then TR B β 4 other else if hB B t < 10 then nd (hB B t) (if 1 ≤ npB B t then rpF B β other at' f (aB B t) (blw p 0) else no) (if 2 ≤ npB B t then rpF B β other at' f (bB B t) (blw p 1) else no) else TR B β 0 t
theorem rpF.ext {B B2 : Bk} (G : GB B) (G2 : GB B2) (e : Ext B B2) {β : Be} (gb : Gb B β) {other : Nat} {at' : Int64} (ho : VT B other 4) : ∀ k t p, VT B t 0 → rpF B2 β other at' k t p = rpF B β other at' k t p := by
  intro k
  induction k with
  | zero => intro t p _; rfl
  | succ k ih =>
    intro t p hvt
    have et := e.2.2.2.2 t hvt.1
    have vp := hvt.pa G
    unfold rpF
    rw [TR.ext G G2 e gb ho, TR.ext G G2 e gb hvt, et.1, et.2.1, et.2.2.1, e.np hvt.1]
    have ha : (if 1 ≤ npB B t then rpF B2 β other at' k (aB B t) (blw p 0) else no) = (if 1 ≤ npB B t then rpF B β other at' k (aB B t) (blw p 0) else no) := by
      by_cases q : 1 ≤ npB B t
      · rw [if_pos q, if_pos q, ih _ _ (vp.1 q)]
      · rw [if_neg q, if_neg q]
    have hb : (if 2 ≤ npB B t then rpF B2 β other at' k (bB B t) (blw p 1) else no) = (if 2 ≤ npB B t then rpF B β other at' k (bB B t) (blw p 1) else no) := by
      by_cases q : 2 ≤ npB B t
      · rw [if_pos q, if_pos q, ih _ _ (vp.2.1 q)]
      · rw [if_neg q, if_neg q]
    rw [ha, hb]
theorem mBuiltWithO {B : Bk} (G : GB B) {N other : Nat} {at' : Int64} {β : Be} (hN : 2000000 ≤ N) (gb : Gb B β) (ho : VT B other 4) : ∀ k d t p w, ¬ sI w 4 = 0 → RM B (pI w 4 0) → Rb β w → VT B t 0 → szB B t ≤ k → ∃ w2 y, eX11_builtWith N (d + k + 274) w (nI t) p at' (nI other) = some (w2, y) ∧ Fr wkS noA w w2 := by
  have g1 := G.1
  intro k
  induction k with
  | zero => intro d t p w _ _ _ hvt hh; have := (G.sz_le hvt.1).2.1; omega
  | succ k ih =>
    intro d t p w hov rm hb hvt hs
    have ht := hvt.1
    have key : eX11_builtWith N (d + (k + 1) + 274) w (nI t) p at' (nI other) = bX11_builtWith_0 N (d + k + 274) (eX11_builtWith N (d + k + 274)) w (nI t) p at' (nI other) := rfl
    have hnp := (G.np ht).1
    have vpa := hvt.pa G
    have mv : eX11_isVariable N (d + k + 274) w (nI t) = some (w, if hB B t < 10 then 0 else 1) := mIsVarO G rm ht
    have blt : ∀ x m, VT B x m → ∀ w3, Fr wkS noA w w3 → ∃ w4 y, eX11_built N (d + k + 274) w3 (nI x) (nI m) = some (w4, y) ∧ Fr wkS noA w w4 := fun x m hx w3 f3 => by
      obtain ⟨w4, y, e1, e2⟩ := mBuiltO G (N := N) hN gb 270 (d + k + 1) x m w3 (by rw [f3.1 4 rfl]; exact hov) (rm.xk f3) (hb.k f3) hx (tv_ht270 G gb hx)
      exact ⟨w4, y, e1, f3.tr e2⟩
    rw [key]
    unfold bX11_builtWith_0
    by_cases q : lg_cmp p at' = 0
    · rw [if_pos q]
      obtain ⟨w4, y, e1, e2⟩ := blt other 4 ho w (Fr.rf w)
      have e3 : eX11_built N (d + k + 274) w (nI other) 4 = _ := e1
      rw [e3, cl_s]
      exact ⟨w4, y, rfl, e2⟩
    · rw [if_neg q, mv, cl_s]
      have mk95 : ∀ w3 x y, ¬ sI w3 4 = 0 → ∃ z, bX11_builtWith_95 N (d + k + 274) (eX11_builtWith N (d + k + 274)) w3 (nI t) x y = some (w3, z) := fun w3 x y h3 => by
        unfold bX11_builtWith_95
        rw [ld_n (by omega) (by omega)]
        have : eX11_make N (d + k + 274) w3 (aI w3 3 t) x y = some (w3, -1) := mMakeOver h3
        rw [this, cl_s]
        exact ⟨-1, rfl⟩
      by_cases s1 : hB B t < 10
      · have s61 : ∀ w3 x, Fr wkS noA w w3 → ∃ w4 z, bX11_builtWith_61 N (d + k + 274) (eX11_builtWith N (d + k + 274)) w3 (nI t) p at' (nI other) x = some (w4, z) ∧ Fr wkS noA w w4 := fun w3 x f3 => by
          have R3 : RM B (pI w3 4 0) := rm.xk f3
          have ho3 : ¬ sI w3 4 = 0 := by rw [f3.1 4 rfl]; exact hov
          unfold bX11_builtWith_61
          rw [mPartsO G R3 ht, cl_s]
          by_cases n2 : 2 ≤ npB B t
          · have lb := (G.np ht).2.2.2.1 n2
            have sb := sz_b G ht hvt.2.1 n2
            have h5 : aI w3 5 t = eN (bB B t) := (R3.2.2.2.2.1 t ht).2.2.1
            have hbl : eX11_below N (d + k + 274) w3 p 1 = some (w3, blw p 1) := mBelow
            obtain ⟨w4, y, e1, e2⟩ := ih d (bB B t) (blw p 1) w3 ho3 R3 (hb.k f3) (vpa.2.1 n2) (by omega)
            rw [if_neg (show ¬ nI (npB B t) ≤ 1 from fun z => by rw [show (1 : Int32) = nI 1 from rfl, nI_leI (by omega) (by omega)] at z; omega), ld_n (by omega) (by omega), h5, eN_n (by omega), hbl, cl_s, e1, cl_s]
            obtain ⟨z, hz⟩ := mk95 w4 x y (by rw [e2.1 4 rfl]; exact ho3)
            exact ⟨w4, z, hz, f3.tr e2⟩
          · rw [if_pos (show nI (npB B t) ≤ 1 by rw [show (1 : Int32) = nI 1 from rfl, nI_leI (by omega) (by omega)]; omega)]
            obtain ⟨z, hz⟩ := mk95 w3 x (-1) ho3
            exact ⟨w3, z, hz, f3⟩
        rw [if_pos s1, if_pos i00, mPartsO G rm ht, cl_s]
        by_cases n1 : 1 ≤ npB B t
        · have la := (G.np ht).2.2.1 n1
          have sa := sz_a G ht hvt.2.1 n1
          have h4 : aI w 4 t = eN (aB B t) := (rm.2.2.2.2.1 t ht).2.1
          have hbl : eX11_below N (d + k + 274) w p 0 = some (w, blw p 0) := mBelow
          obtain ⟨w2, y, e1, e2⟩ := ih d (aB B t) (blw p 0) w hov rm hb (vpa.1 n1) (by omega)
          rw [if_neg (show ¬ nI (npB B t) ≤ 0 from fun z => by rw [show (0 : Int32) = nI 0 from rfl, nI_leI (by omega) (by omega)] at z; omega), ld_n (by omega) (by omega), h4, eN_n (by omega), hbl, cl_s, e1, cl_s]
          exact s61 w2 y e2
        · rw [if_pos (show nI (npB B t) ≤ 0 by rw [show (0 : Int32) = nI 0 from rfl, nI_leI (by omega) (by omega)]; omega)]
          exact s61 w _ (Fr.rf w)
      · rw [if_neg s1, if_neg i10]
        obtain ⟨w4, y, e1, e2⟩ := blt t 0 hvt w (Fr.rf w)
        have e3 : eX11_built N (d + k + 274) w (nI t) 0 = _ := e1
        rw [e3, cl_s]
        exact ⟨w4, y, rfl, e2⟩
theorem mBuiltWith {N other : Nat} {at' : Int64} {β : Be} {num : Nat → Nat} (hN : 2000000 ≤ N) : ∀ k d t p B w, GB B → Gb B β → VT B other 4 → RM B w → Rb β w → VT B t 0 → szB B t ≤ k → NOK num (rpF B β other at' k t p) w →
    (∀ B2 x, bt (nmT num (rpF B β other at' k t p)) B = some (B2, x) → ∃ w2, eX11_builtWith N (d + k + 274) w (nI t) p at' (nI other) = some (w2, nI x) ∧ RM B2 w2 ∧ GB B2 ∧ Ext B B2 ∧ x < nB B2 ∧ Fr buS buA w w2) ∧
    (bt (nmT num (rpF B β other at' k t p)) B = none → ∃ w2 y, eX11_builtWith N (d + k + 274) w (nI t) p at' (nI other) = some (w2, y) ∧ OvB B w2 ∧ Fr buS buA w w2) := by
  intro k
  induction k with
  | zero => intro d t p B w G gb _ _ _ hvt hh; have := (G.sz_le hvt.1).2.1; omega
  | succ k ih =>
    intro d t p B w G gb ho rm hb hvt hs hnum
    have g1 := G.1
    have ht := hvt.1
    have key : eX11_builtWith N (d + (k + 1) + 274) w (nI t) p at' (nI other) = bX11_builtWith_0 N (d + k + 274) (eX11_builtWith N (d + k + 274)) w (nI t) p at' (nI other) := rfl
    have hnp := (G.np ht).1
    have vpa := hvt.pa G
    have hal := G.a_le ht
    have mv : eX11_isVariable N (d + k + 274) w (nI t) = some (w, if hB B t < 10 then 0 else 1) := mIsVar G rm ht
    rw [key]
    unfold bX11_builtWith_0
    have re : rpF B β other at' (k + 1) t p = if p = at' then TR B β 4 other else if hB B t < 10 then nd (hB B t) (if 1 ≤ npB B t then rpF B β other at' k (aB B t) (blw p 0) else no) (if 2 ≤ npB B t then rpF B β other at' k (bB B t) (blw p 1) else no) else TR B β 0 t := rfl
    -- a plain tree
    have plain : ∀ x m, VT B x m → NOK num (TR B β m x) w →
        (∀ B2 z, bt (nmT num (TR B β m x)) B = some (B2, z) → ∃ w2, (c_cl (eX11_built N (d + k + 274) w (nI x) (nI m)) fun w22 v23 => some (w22, v23)) = some (w2, nI z) ∧ RM B2 w2 ∧ GB B2 ∧ Ext B B2 ∧ z < nB B2 ∧ Fr buS buA w w2) ∧
        (bt (nmT num (TR B β m x)) B = none → ∃ w2 y, (c_cl (eX11_built N (d + k + 274) w (nI x) (nI m)) fun w22 v23 => some (w22, v23)) = some (w2, y) ∧ OvB B w2 ∧ Fr buS buA w w2) := fun x m hx hn => by
      obtain ⟨i1, i2⟩ := mBuilt (N := N) (β := β) (num := num) hN 270 (d + k + 1) x m B w G gb rm hb hx (tv_ht270 G gb hx) hn
      refine ⟨fun B2 z h => ?_, fun h => ?_⟩
      · obtain ⟨w2, j1, j2⟩ := i1 B2 z h
        have j3 : eX11_built N (d + k + 274) w (nI x) (nI m) = _ := j1
        rw [j3, cl_s]
        exact ⟨w2, rfl, j2⟩
      · obtain ⟨w2, y, j1, j2⟩ := i2 h
        have j3 : eX11_built N (d + k + 274) w (nI x) (nI m) = _ := j1
        rw [j3, cl_s]
        exact ⟨w2, y, rfl, j2⟩
    by_cases q : p = at'
    · rw [if_pos ((lg_cmp_eq p at').mpr q)]
      rw [if_pos q] at re
      rw [re] at hnum ⊢
      exact plain other 4 ho hnum
    · rw [if_neg (fun z => q ((lg_cmp_eq p at').mp z)), mv, cl_s]
      rw [if_neg q] at re
      by_cases s1 : hB B t < 10
      · rw [if_pos s1] at re
        rw [re] at hnum ⊢
        have hsb : hB B t < sB B := by rcases (G.2.2.2.2.1 t ht).1 with z | z <;> omega
        have hna : 1 ≤ npB B t → NOK num (rpF B β other at' k (aB B t) (blw p 0)) w := fun z u hu => hnum u (by
          refine List.mem_append.mpr (Or.inl ?_)
          rw [if_pos z]
          exact hu)
        have hnb : 2 ≤ npB B t → NOK num (rpF B β other at' k (bB B t) (blw p 1)) w := fun z u hu => hnum u (by
          refine List.mem_append.mpr (Or.inr ?_)
          rw [if_pos z]
          exact hu)
        have eT2 : nmT num (nd (hB B t) (if 1 ≤ npB B t then rpF B β other at' k (aB B t) (blw p 0) else no) (if 2 ≤ npB B t then rpF B β other at' k (bB B t) (blw p 1) else no)) = nd (hB B t) (nmT num (if 1 ≤ npB B t then rpF B β other at' k (aB B t) (blw p 0) else no)) (nmT num (if 2 ≤ npB B t then rpF B β other at' k (bB B t) (blw p 1) else no)) := rfl
        -- the last make
        have last : ∀ B1 w3 p' q' x2 x3, GB B1 → Ext B B1 → RM B1 w3 → Fr buS buA w w3 → VN B1 (hB B t) p' q' → (1 ≤ npB B t → x2 = eN p') → (2 ≤ npB B t → x3 = eN q') →
            (∀ B2 x, mkB B1 (hB B t) p' q' = some (B2, x) → ∃ w2, bX11_builtWith_95 N (d + k + 274) (eX11_builtWith N (d + k + 274)) w3 (nI t) x2 x3 = some (w2, nI x) ∧ RM B2 w2 ∧ GB B2 ∧ Ext B B2 ∧ x < nB B2 ∧ Fr buS buA w w2) ∧ (mkB B1 (hB B t) p' q' = none → ∃ w2 y, bX11_builtWith_95 N (d + k + 274) (eX11_builtWith N (d + k + 274)) w3 (nI t) x2 x3 = some (w2, y) ∧ OvB B w2 ∧ Fr buS buA w w2) := by
          intro B1 w3 p' q' x2 x3 G1 e1 R3 f3 hvn hx2 hx3
          have et1 := e1.2.2.2.2 t ht
          have en1 := e1.1
          have hr1 := (R3.2.2.2.2.1 t (by omega)).1
          rw [et1.1] at hr1
          have ear : arB B1 (hB B t) = npB B t := by rw [e1.2.2.1]; rfl
          obtain ⟨m1, m2⟩ := mMk (d := d + k + 272) (N := N) G1 R3 hN hvn (x2 := x2) (x3 := x3) (fun z => hx2 (by rw [ear] at z; exact z)) (fun z => hx3 (by rw [ear] at z; exact z))
          unfold bX11_builtWith_95
          rw [ld_n (by omega) (by omega), hr1]
          refine ⟨fun B2 x h => ?_, fun h => ?_⟩
          · obtain ⟨w2, n1, n2, n3⟩ := m1 B2 x h
            have mk := mkB_ok G1 hvn h
            have n4 : eX11_make N (d + k + 274) w3 (sg (hB B t)) x2 x3 = _ := n1
            rw [n4, cl_s]
            exact ⟨w2, rfl, n2, mk.1, e1.tr mk.2.1, mk.2.2.1, f3.tr n3.o.bu⟩
          · have n4 : eX11_make N (d + k + 274) w3 (sg (hB B t)) x2 x3 = _ := m2 h
            rw [n4, cl_s]
            have ov := Ov.mk (w1 := w3) G1 R3
            obtain ⟨o1, ⟨B4, o2, o3, o4⟩, o5⟩ := ov
            exact ⟨_, _, rfl, ⟨o1, B4, o2, e1.tr o3, o4⟩, f3.tr o5.bu⟩
        have over95 : ∀ w3 x y, OvB B w3 → ∃ z, bX11_builtWith_95 N (d + k + 274) (eX11_builtWith N (d + k + 274)) w3 (nI t) x y = some (w3, z) := fun w3 x y h3 => by
          unfold bX11_builtWith_95
          rw [ld_n (by omega) (by omega)]
          have : eX11_make N (d + k + 274) w3 (aI w3 3 t) x y = some (w3, -1) := mMakeOver h3.1
          rw [this, cl_s]
          exact ⟨-1, rfl⟩
        have over61 : ∀ w3 x, OvB B w3 → Rb β w3 → ∃ w4 z, bX11_builtWith_61 N (d + k + 274) (eX11_builtWith N (d + k + 274)) w3 (nI t) p at' (nI other) x = some (w4, z) ∧ OvB B w4 ∧ Fr buS buA w3 w4 := fun w3 x h3 hb3 => by
          obtain ⟨o1, B3, o2, o3, o4⟩ := id h3
          have on := o3.1
          have ot := o3.2.2.2.2 t ht
          unfold bX11_builtWith_61
          rw [mPartsO o2 o4 (by omega), cl_s, o3.np ht]
          by_cases n2 : 2 ≤ npB B t
          · have lb := (G.np ht).2.2.2.1 n2
            have sb := sz_b G ht hvt.2.1 n2
            have h5 : aI w3 5 t = eN (bB B t) := by
              have := (o4.2.2.2.2.1 t (by omega)).2.2.1
              rw [ot.2.2.1] at this
              exact this
            have hbl : eX11_below N (d + k + 274) w3 p 1 = some (w3, blw p 1) := mBelow
            obtain ⟨w4, y, e1, e2⟩ := mBuiltWithO o2 (N := N) (at' := at') hN (gb.ext o3) (ho.ext o3) k d (bB B t) (blw p 1) w3 o1 o4 hb3 ((vpa.2.1 n2).ext o3) (by rw [(o3.2.2.2.2 _ sb.1).2.2.2.1]; omega)
            have ov4 : OvB B w4 := ⟨by rw [e2.1 4 rfl]; exact o1, B3, o2, o3, o4.xk e2⟩
            rw [if_neg (show ¬ nI (npB B t) ≤ 1 from fun z => by rw [show (1 : Int32) = nI 1 from rfl, nI_leI (by omega) (by omega)] at z; omega), ld_n (by omega) (by omega), h5, eN_n (by omega), hbl, cl_s, e1, cl_s]
            obtain ⟨z, hz⟩ := over95 w4 x y ov4
            exact ⟨w4, z, hz, ov4, e2.buw⟩
          · rw [if_pos (show nI (npB B t) ≤ 1 by rw [show (1 : Int32) = nI 1 from rfl, nI_leI (by omega) (by omega)]; omega)]
            obtain ⟨z, hz⟩ := over95 w3 x (-1) h3
            exact ⟨w3, z, hz, h3, Fr.rf w3⟩
        rw [if_pos s1, if_pos i00, mParts G rm ht, cl_s, eT2, bt_nd]
        have ear0 : arB B (hB B t) = npB B t := rfl
        rw [ear0]
        by_cases n1 : 1 ≤ npB B t
        · have la := (G.np ht).2.2.1 n1
          have sa := sz_a G ht hvt.2.1 n1
          have hbl : eX11_below N (d + k + 274) w p 0 = some (w, blw p 0) := mBelow
          rw [if_pos n1, if_neg (show ¬ nI (npB B t) ≤ 0 from fun z => by rw [show (0 : Int32) = nI 0 from rfl, nI_leI (by omega) (by omega)] at z; omega), ld_n (by omega) (by omega), (rm.2.2.2.2.1 t ht).2.1, eN_n (by omega), hbl, cl_s, if_pos n1]
          obtain ⟨i1, i2⟩ := ih d (aB B t) (blw p 0) B w G gb ho rm hb (vpa.1 n1) (by omega) (hna n1)
          cases h1 : bt (nmT num (rpF B β other at' k (aB B t) (blw p 0))) B with
          | none =>
            obtain ⟨w2, y, j1, j2, j3⟩ := i2 h1
            rw [j1, cl_s]
            obtain ⟨w4, z, hz, oz, fz⟩ := over61 w2 y j2 (hb.bu j3)
            exact ⟨fun B2 x h => (by cases h), fun _ => ⟨w4, z, hz, oz, j3.tr fz⟩⟩
          | some y =>
            obtain ⟨B3, p'⟩ := y
            obtain ⟨w2, j1, j2, G3, e3, hp, j3⟩ := i1 B3 p' h1
            have g31 := G3.1
            have en3 := e3.1
            have et3 := e3.2.2.2.2 t ht
            have hr3 := (j2.2.2.2.2.1 t (by omega)).2.2.1
            rw [et3.2.2.1] at hr3
            rw [j1, cl_s]
            unfold bX11_builtWith_61
            rw [mParts G3 j2 (by omega), cl_s, e3.np ht]
            by_cases n2 : 2 ≤ npB B t
            · have lb := (G.np ht).2.2.2.1 n2
              have sb := sz_b G ht hvt.2.1 n2
              have hbl2 : eX11_below N (d + k + 274) w2 p 1 = some (w2, blw p 1) := mBelow
              rw [if_neg (show ¬ nI (npB B t) ≤ 1 from fun z => by rw [show (1 : Int32) = nI 1 from rfl, nI_leI (by omega) (by omega)] at z; omega), ld_n (by omega) (by omega), hr3, eN_n (by omega), hbl2, cl_s]
              have eTb := rpF.ext G G3 e3 gb (at' := at') ho k (bB B t) (blw p 1) (vpa.2.1 n2)
              obtain ⟨k1, k2⟩ := ih d (bB B t) (blw p 1) B3 w2 G3 (gb.ext e3) (ho.ext e3) j2 (hb.bu j3) ((vpa.2.1 n2).ext e3) (by rw [(e3.2.2.2.2 _ sb.1).2.2.2.1]; omega) (by rw [eTb]; exact (hnb n2).k j3)
              rw [eTb] at k1 k2
              simp only [if_pos n2]
              cases h2 : bt (nmT num (rpF B β other at' k (bB B t) (blw p 1))) B3 with
              | none =>
                obtain ⟨w4, y, l1, l2, l3⟩ := k2 h2
                have ov : OvB B w4 := by
                  obtain ⟨o1, B5, o2, o3, o4⟩ := l2
                  exact ⟨o1, B5, o2, e3.tr o3, o4⟩
                rw [l1, cl_s]
                obtain ⟨z, hz⟩ := over95 w4 (nI p') y ov
                exact ⟨fun B2 x h => (by cases h), fun _ => ⟨w4, z, hz, ov, j3.tr l3⟩⟩
              | some z =>
                obtain ⟨B4, q'⟩ := z
                obtain ⟨w4, l1, l2, G4, e4, hq, l3⟩ := k1 B4 q' h2
                have en4 := e4.1
                have g41 := G4.1
                have ext := e3.tr e4
                have hvn : VN B4 (hB B t) p' q' := VN.of G ext ht (by rw [if_pos n1]; omega) (by rw [if_pos n2]; exact hq)
                rw [l1, cl_s]
                exact last B4 w4 p' q' _ _ G4 ext l2 (j3.tr l3) hvn (fun _ => by rw [eN_n (by omega)]) (fun _ => by rw [eN_n (by omega)])
            · rw [if_pos (show nI (npB B t) ≤ 1 by rw [show (1 : Int32) = nI 1 from rfl, nI_leI (by omega) (by omega)]; omega)]
              simp only [if_neg n2]
              have hvn : VN B3 (hB B t) p' 2000 := VN.of G e3 ht (by rw [if_pos n1]; exact hp) (by rw [if_neg n2])
              exact last B3 w2 p' 2000 _ _ G3 e3 j2 j3 hvn (fun _ => by rw [eN_n (by omega)]) (fun z => absurd z n2)
        · rw [if_neg n1, if_pos (show nI (npB B t) ≤ 0 by rw [show (0 : Int32) = nI 0 from rfl, nI_leI (by omega) (by omega)]; omega)]
          unfold bX11_builtWith_61
          rw [mParts G rm ht, cl_s, if_pos (show nI (npB B t) ≤ 1 by rw [show (1 : Int32) = nI 1 from rfl, nI_leI (by omega) (by omega)]; omega)]
          have hvn : VN B (hB B t) 2000 2000 := VN.of G (Ext.rf B) ht (by rw [if_neg n1]) (by rw [if_neg (by omega)])
          exact last B w 2000 2000 _ _ G (Ext.rf B) rm (Fr.rf w) hvn (fun z => absurd z n1) (fun z => by omega)
      · rw [if_neg s1] at re
        rw [re] at hnum ⊢
        rw [if_neg s1, if_neg i10]
        exact plain t 0 hvt hnum
