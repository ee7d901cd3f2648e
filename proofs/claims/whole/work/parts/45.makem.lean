theorem mTail {B : Bk} (G : GB B) {N d h a b : Nat} {w : Wd} (hl : nB B < 1000) (hN : 2000000 ≤ N) (hv : VN B h a b) (r2 : ∀ k, k < sB B → aI w 2 k = nI (wtB B k)) (r6 : ∀ t, t < nB B → aL w 6 t = lN (szB B t)) (r7 : ∀ t, t < nB B → aL w 7 t = lN (wgB B t)) (r8 : ∀ t, t < nB B → ∀ v, v < 8 → aL w 8 (8 * t + v) = lN (ctB B t v)) :
    ∃ g : Nat → Int64, (∀ v, v < 8 → g (8 * nB B + v) = lN (capN ((if h = 10 + v then 1 else 0) + two (arB B h) (ctB B a v) (ctB B b v)))) ∧ (∀ j, (j < 8 * nB B ∨ 8 * nB B + 8 ≤ j) → g j = aL w 8 j) ∧
      (if nI (arB B h) ≤ 0 then bX11_make_188 N (d + 1) w (sg h) (nI (arB B h)) (eN a) (eN b) (nI (nB B)) (nI (nB B)) 1 0 else c_ll w 6 1000 (eN a) fun v23 => bX11_make_188 N (d + 1) w (sg h) (nI (arB B h)) (eN a) (eN b) (nI (nB B)) (nI (nB B)) 1 v23) =
        some (pB (pB (pB w 6 (vp_updL (aL w 6) (nB B) (lN (capN (1 + two (arB B h) (szB B a) (szB B b)))))) 7 (vp_updL (aL w 7) (nB B) (lN (capN (wtB B h + two (arB B h) (wgB B a) (wgB B b)))))) 8 g, nI (nB B)) := by
  have hn := G.1
  have hs10 := G.2.1
  have hh : h < 18 := by rcases hv.1 with q | q <;> omega
  have hk2 : arB B h ≤ 2 := by
    rcases hv.1 with q | q
    · exact (G.2.2.1 h q).1
    · rw [(G.2.2.2.1 h q.1).1]; omega
  have hwt : wtB B h ≤ 9 := by
    rcases hv.1 with q | q
    · exact (G.2.2.1 h q).2.2
    · rw [(G.2.2.2.1 h q.1).2]; omega
  have hle : ∀ q, q < nB B → szB B q ≤ 1000000000000000 ∧ wgB B q ≤ 1000000000000000 ∧ ∀ v, v < 8 → ctB B q v ≤ 1000000000000000 := fun q hq => ⟨by rw [G.2.2.2.2.2.2.1 q hq]; exact capN_le _, by rw [G.2.2.2.2.2.2.2.1 q hq]; exact capN_le _, fun v hv8 => by rw [G.2.2.2.2.2.2.2.2 q hq v hv8]; exact capN_le _⟩
  have ha : 1 ≤ arB B h → a < nB B := fun q => by have := hv.2.1; rw [if_pos q] at this; exact this
  have hb : 2 ≤ arB B h → b < nB B := fun q => by have := hv.2.2; rw [if_pos q] at this; exact this
  -- the world in which counts are laid down
  obtain ⟨w9, hw9⟩ : ∃ w9, w9 = pB (pB w 6 (vp_updL (aL w 6) (nB B) (lN (capN (1 + two (arB B h) (szB B a) (szB B b)))))) 7 (vp_updL (aL w 7) (nB B) (lN (capN (wtB B h + two (arB B h) (wgB B a) (wgB B b))))) := ⟨_, rfl⟩
  have e8 : aL w9 8 = aL w 8 := by rw [hw9]; rfl
  obtain ⟨g, g1, g2, g3⟩ := mCounts (N := N) (d := d) (h := h) (a := a) (b := b) (t := nB B) (k := arB B h) (c := fun v => capN ((if h = 10 + v then 1 else 0) + two (arB B h) (ctB B a v) (ctB B b v))) hl hh (fun v => ctB B a v) (fun v => ctB B b v) (fun v hv8 q => (hle a (ha q)).2.2 v hv8) (fun v hv8 q => (hle b (hb q)).2.2 v hv8) ha hb hk2 (fun v _ => rfl) N 0 w9 (by omega) (by omega) (fun u hu q => by rw [e8]; exact r8 a (ha q) u hu) (fun u hu q => by rw [e8]; exact r8 b (hb q) u hu)
  refine ⟨g, fun v hv8 => g1 v (by omega) hv8, fun j hj => by rw [g2 j (by omega), e8], ?_⟩
  have t266 : ∀ (w1 : Wd) (x y : Nat), x + y < 2 ^ 62 → pB w1 7 (vp_updL (aL w1 7) (nB B) (lN (capN (x + y)))) = w9 → bX11_make_266 N (d + 1) w1 (sg h) (nI (arB B h)) (eN a) (eN b) (nI (nB B)) (nI (nB B)) (lN x) (lN y) = some (pB w9 8 g, nI (nB B)) := by
    intro w1 x y hxy he
    unfold bX11_make_266
    rw [lN_add, mCap hxy, cl_s, sl_n (by omega) (by omega), he]
    exact g3
  have t248 : ∀ (w1 : Wd) (x y : Nat), x + y ≤ 1000000000000009 → (∀ t, t < nB B → aL w1 7 t = lN (wgB B t)) → pB w1 7 (vp_updL (aL w1 7) (nB B) (lN (capN (x + y + (if 2 ≤ arB B h then wgB B b else 0))))) = w9 → bX11_make_248 N (d + 1) w1 (sg h) (nI (arB B h)) (eN a) (eN b) (nI (nB B)) (nI (nB B)) (lN x) (lN y) = some (pB w9 8 g, nI (nB B)) := by
    intro w1 x y hxy hr he
    unfold bX11_make_248
    by_cases q : 2 ≤ arB B h
    · rw [if_neg (fun z => by rw [show (1 : Int32) = nI 1 from rfl, nI_leI (by omega) (by omega)] at z; omega)]
      have hb' := hb q
      rw [if_pos q] at he
      rw [eN_n (x := b) (by omega)] at t266 ⊢
      rw [ll_n (by omega) (by omega), hr b hb', lN_add]
      exact t266 w1 (x + y) (wgB B b) (by have := (hle b hb').2.1; omega) he
    · rw [if_pos (by rw [show (1 : Int32) = nI 1 from rfl, nI_leI (by omega) (by omega)]; omega), lN_add]
      rw [if_neg q] at he
      exact t266 w1 (x + y) 0 (by omega) he
  have t232 : ∀ (w1 : Wd) (x : Nat), x ≤ 9 → (∀ t, t < nB B → aL w1 7 t = lN (wgB B t)) → pB w1 7 (vp_updL (aL w1 7) (nB B) (lN (capN (x + two (arB B h) (wgB B a) (wgB B b))))) = w9 → bX11_make_232 N (d + 1) w1 (sg h) (nI (arB B h)) (eN a) (eN b) (nI (nB B)) (nI (nB B)) (lN x) = some (pB w9 8 g, nI (nB B)) := by
    intro w1 x hx hr he
    unfold bX11_make_232
    unfold two at he
    by_cases q : 1 ≤ arB B h
    · rw [if_neg (fun z => by rw [show (0 : Int32) = nI 0 from rfl, nI_leI (by omega) (by omega)] at z; omega)]
      have ha' := ha q
      rw [if_pos q, ← Nat.add_assoc] at he
      rw [eN_n (x := a) (by omega)] at t248 ⊢
      rw [ll_n (by omega) (by omega), hr a ha']
      exact t248 w1 x (wgB B a) (by have := (hle a ha').2.1; omega) hr he
    · rw [if_pos (by rw [show (0 : Int32) = nI 0 from rfl, nI_leI (by omega) (by omega)]; omega)]
      rw [if_neg q, Nat.zero_add] at he
      exact t248 w1 x 0 (by omega) hr he
  have t206 : ∀ (x y : Nat), x + y < 2 ^ 62 → capN (x + y) = capN (1 + two (arB B h) (szB B a) (szB B b)) → bX11_make_206 N (d + 1) w (sg h) (nI (arB B h)) (eN a) (eN b) (nI (nB B)) (nI (nB B)) (lN x) (lN y) = some (pB w9 8 g, nI (nB B)) := by
    intro x y hxy he
    unfold bX11_make_206
    rw [lN_add, mCap hxy, cl_s, sl_n (by omega) (by omega), he]
    have hr7 : ∀ t, t < nB B → aL (pB w 6 (vp_updL (aL w 6) (nB B) (lN (capN (1 + two (arB B h) (szB B a) (szB B b)))))) 7 t = lN (wgB B t) := fun t ht => by rw [aL_pB, if_neg (by omega)]; exact r7 t ht
    by_cases q : h < 10
    · have hs : h < sB B := by rcases hv.1 with z | z <;> omega
      rw [if_pos ((sg_all h hh).1.mpr q)]
      have e1 := (sg_all h hh).2.1 q
      rw [e1, ld_n q (by omega), show aI (pB w 6 (vp_updL (aL w 6) (nB B) (lN (capN (1 + two (arB B h) (szB B a) (szB B b)))))) 2 = aI w 2 from rfl, r2 h hs, nI_l (by omega), ← e1]
      exact t232 _ (wtB B h) hwt hr7 (by rw [hw9]; rfl)
    · rw [if_neg (fun z => q ((sg_all h hh).1.mp z))]
      have e1 : wtB B h = 1 := (G.2.2.2.1 h (by omega)).2
      exact t232 _ 1 (by omega) hr7 (by rw [hw9, e1]; rfl)
  have t188 : ∀ (x y : Nat), x + y ≤ 1000000000000001 → capN (x + y + (if 2 ≤ arB B h then szB B b else 0)) = capN (1 + two (arB B h) (szB B a) (szB B b)) → bX11_make_188 N (d + 1) w (sg h) (nI (arB B h)) (eN a) (eN b) (nI (nB B)) (nI (nB B)) (lN x) (lN y) = some (pB w9 8 g, nI (nB B)) := by
    intro x y hxy he
    unfold bX11_make_188
    by_cases q : 2 ≤ arB B h
    · rw [if_neg (fun z => by rw [show (1 : Int32) = nI 1 from rfl, nI_leI (by omega) (by omega)] at z; omega)]
      have hb' := hb q
      rw [if_pos q] at he
      rw [eN_n (x := b) (by omega)] at t206 ⊢
      rw [ll_n (by omega) (by omega), r6 b hb', lN_add]
      exact t206 (x + y) (szB B b) (by have := (hle b hb').1; omega) he
    · rw [if_pos (by rw [show (1 : Int32) = nI 1 from rfl, nI_leI (by omega) (by omega)]; omega), lN_add]
      rw [if_neg q] at he
      exact t206 (x + y) 0 (by omega) he
  rw [← hw9]
  by_cases q : 1 ≤ arB B h
  · rw [if_neg (fun z => by rw [show (0 : Int32) = nI 0 from rfl, nI_leI (by omega) (by omega)] at z; omega)]
    have ha' := ha q
    rw [eN_n (x := a) (by omega)] at t188 ⊢
    rw [ll_n (by omega) (by omega), r6 a ha']
    exact t188 1 (szB B a) (by have := (hle a ha').1; omega) (by unfold two; rw [if_pos q, Nat.add_assoc])
  · rw [if_pos (by rw [show (0 : Int32) = nI 0 from rfl, nI_leI (by omega) (by omega)]; omega)]
    exact t188 1 0 (by omega) (by unfold two; rw [if_neg q, Nat.zero_add, Nat.add_zero])
theorem mMake {B : Bk} {w : Wd} (G : GB B) (R : RM B w) {N d h a b : Nat} {x2 x3 : Int32} (hN : 2000000 ≤ N) (hv : VN B h a b) (hx2 : 1 ≤ arB B h → x2 = eN a) (hx3 : 2 ≤ arB B h → x3 = eN b) :
    (∀ t, t < nB B → hB B t = h → aB B t = a → bB B t = b → eX11_make N (d + 2) w (sg h) x2 x3 = some (w, nI t)) ∧
    (NewN B h a b → nB B < 1000 → ∃ w2, eX11_make N (d + 2) w (sg h) x2 x3 = some (w2, nI (nB B)) ∧ RM (pushB B h a b) w2 ∧ FrM w w2) ∧
    (NewN B h a b → nB B = 1000 → eX11_make N (d + 2) w (sg h) x2 x3 = some (pI w 4 1, -1)) := by
  have g1 := G.1
  have g2 := G.2.1
  have hh : h < 18 := by rcases hv.1 with q | q <;> omega
  have ha : a ≤ 2000 := by have := hv.2.1; split at this <;> omega
  have hb : b ≤ 2000 := by have := hv.2.2; split at this <;> omega
  have hk2 : arB B h ≤ 2 := by
    rcases hv.1 with q | q
    · exact (G.2.2.1 h q).1
    · rw [(G.2.2.2.1 h q.1).1]; omega
  have key : eX11_make N (d + 2) w (sg h) x2 x3 = fX11_make_53 N (d + 1) N w (sg h) (nI (arB B h)) (eN a) (eN b) (nI 0) := by
    have h35 : ∀ (x : Int32), x = eN a → bX11_make_35 N (d + 1) w (sg h) x3 (nI (arB B h)) x = fX11_make_53 N (d + 1) N w (sg h) (nI (arB B h)) (eN a) (eN b) (nI 0) := by
      intro x hx
      unfold bX11_make_35 bX11_make_48
      rw [hx]
      by_cases q : 2 ≤ arB B h
      · rw [if_neg (fun z => by rw [show (1 : Int32) = nI 1 from rfl, nI_leI (by omega) (by omega)] at z; omega), hx3 q]
        rfl
      · have hb0 := hv.2.2
        rw [if_neg q] at hb0
        rw [if_pos (by rw [show (1 : Int32) = nI 1 from rfl, nI_leI (by omega) (by omega)]; omega), hb0]
        rfl
    have h23 : bX11_make_23 N (d + 1) w (sg h) x2 x3 (nI (arB B h)) = fX11_make_53 N (d + 1) N w (sg h) (nI (arB B h)) (eN a) (eN b) (nI 0) := by
      unfold bX11_make_23
      by_cases q : 1 ≤ arB B h
      · rw [if_neg (fun z => by rw [show (0 : Int32) = nI 0 from rfl, nI_leI (by omega) (by omega)] at z; omega)]
        exact h35 x2 (hx2 q)
      · have ha0 := hv.2.1
        rw [if_neg q] at ha0
        rw [if_pos (by rw [show (0 : Int32) = nI 0 from rfl, nI_leI (by omega) (by omega)]; omega)]
        exact h35 (-1) (by rw [ha0]; rfl)
    show bX11_make_0 N (d + 1) w (sg h) x2 x3 = _
    unfold bX11_make_0
    rw [R.2.2.1, if_pos rfl]
    by_cases q : h < 10
    · have hs : h < sB B := by rcases hv.1 with z | z <;> omega
      rw [if_pos ((sg_all h hh).1.mpr q)]
      have e1 := (sg_all h hh).2.1 q
      rw [e1] at h23 ⊢
      rw [ld_n q (by omega), (R.2.2.2.1 h hs).1]
      exact h23
    · rw [if_neg (fun z => q ((sg_all h hh).1.mp z))]
      have e1 : arB B h = 0 := (G.2.2.2.1 h (by omega)).1
      rw [e1] at h23
      rw [e1]
      exact h23
  refine ⟨fun t ht e1 e2 e3 => ?_, fun hno hl => ?_, fun hno hl => ?_⟩
  · rw [key]
    exact mMakeA G R hh ha hb ht e1 e2 e3 N 0 (by omega) (by omega)
  · rw [key, mMakeB G R hh ha hb hno N 0 (by omega) (by omega)]
    unfold bX11_make_53
    have hc : nI (nB B) ≤ nI (nB B) := by rw [nI_leI (by omega) (by omega)]; omega
    rw [R.2.1, if_pos hc, if_neg (fun z => by rw [show (1000 : Int32) = nI 1000 from rfl, nI_eq (by omega) (by omega)] at z; omega)]
    simp only [c_nm, c_pi]
    rw [st_n hl (by omega), st_n hl (by omega), st_n hl (by omega)]
    generalize hw6 : pA (pA (pA (pI w 2 (nI (nB B) + 1)) 3 _) 4 _) 5 _ = w6
    have c2 : ∀ j, j ≠ 2 → sI w6 j = sI w j := fun j hj => by rw [← hw6]; simp only [sI_pA, sI_pI, if_neg hj]
    have c1 : sI w6 2 = nI (nB B + 1) := by rw [← hw6]; simp only [sI_pA, sI_pI, if_true]; exact nI_1 _
    have a3 : aI w6 3 = upd (aI w 3) (nB B) (sg h) := by rw [← hw6]; rfl
    have a4 : aI w6 4 = upd (aI w 4) (nB B) (eN a) := by rw [← hw6]; rfl
    have a5 : aI w6 5 = upd (aI w 5) (nB B) (eN b) := by rw [← hw6]; rfl
    have aoff : ∀ j, j < 3 ∨ 8 < j → aI w6 j = aI w j := fun j hj => by
      rw [← hw6]
      simp only [aI_pA, aI_pI]
      rw [if_neg (by omega), if_neg (by omega), if_neg (by omega)]
    have l6 : ∀ j, aL w6 j = aL w j := fun j => by rw [← hw6]; rfl
    have sl6 : ∀ j, sL w6 j = sL w j := fun j => by rw [← hw6]; rfl
    obtain ⟨g, e1, e2, e3⟩ := mTail (N := N) (d := d) (w := w6) (h := h) (a := a) (b := b) G hl hN hv (fun k hk => by rw [aoff 2 (by omega)]; exact (R.2.2.2.1 k hk).2) (fun t ht => by rw [l6]; exact (R.2.2.2.2.1 t ht).2.2.2.1) (fun t ht => by rw [l6]; exact (R.2.2.2.2.1 t ht).2.2.2.2) (fun t ht v hv8 => by rw [l6]; exact R.2.2.2.2.2 t ht v hv8)
    rw [e3]
    generalize hw9 : pB (pB (pB w6 6 _) 7 _) 8 g = w9
    have b3 : aI w9 3 = upd (aI w 3) (nB B) (sg h) := by rw [← a3, ← hw9]; rfl
    have b4 : aI w9 4 = upd (aI w 4) (nB B) (eN a) := by rw [← a4, ← hw9]; rfl
    have b5 : aI w9 5 = upd (aI w 5) (nB B) (eN b) := by rw [← a5, ← hw9]; rfl
    have b6 : aL w9 6 = vp_updL (aL w 6) (nB B) (lN (capN (1 + two (arB B h) (szB B a) (szB B b)))) := by rw [← l6, ← hw9]; rfl
    have b7 : aL w9 7 = vp_updL (aL w 7) (nB B) (lN (capN (wtB B h + two (arB B h) (wgB B a) (wgB B b)))) := by rw [← l6, ← hw9]; rfl
    have b8 : aL w9 8 = g := by rw [← hw9]; rfl
    have boff : ∀ j, j < 3 ∨ 8 < j → aI w9 j = aI w j ∧ aL w9 j = aL w j := fun j hj => by
      rw [← aoff j hj, ← l6 j, ← hw9]
      simp only [aI_pB, aL_pB]
      rw [if_neg (by omega), if_neg (by omega), if_neg (by omega)]
      refine ⟨?_, ?_⟩ <;> first | trivial | rfl
    have bs : ∀ j, sI w9 j = sI w6 j := fun j => by rw [← hw9]; rfl
    have bsl : ∀ j, sL w9 j = sL w j := fun j => by rw [← sl6 j, ← hw9]; rfl
    refine ⟨w9, rfl, ⟨?_, ?_, ?_, ?_, ?_, ?_⟩, ⟨?_, boff, bsl⟩⟩
    · rw [bs, c2 1 (by omega)]; exact R.1
    · rw [bs]; exact c1
    · rw [bs, c2 4 (by omega)]; exact R.2.2.1
    · intro k hk
      rw [(boff 1 (by omega)).1, (boff 2 (by omega)).1]
      exact R.2.2.2.1 k hk
    · intro t ht
      have ht : t < nB B + 1 := ht
      rw [b3, b4, b5, b6, b7]
      by_cases e : t = nB B
      · subst e
        rw [upd_s, upd_s, upd_s, updL_s, updL_s, show hB (pushB B h a b) (nB B) = h from fu_s, show aB (pushB B h a b) (nB B) = a from fu_s, show bB (pushB B h a b) (nB B) = b from fu_s, show szB (pushB B h a b) (nB B) = _ from fu_s, show wgB (pushB B h a b) (nB B) = _ from fu_s]
        exact ⟨rfl, rfl, rfl, rfl, rfl⟩
      · rw [upd_n e, upd_n e, upd_n e, updL_n e, updL_n e, show hB (pushB B h a b) t = hB B t from fu_n e, show aB (pushB B h a b) t = aB B t from fu_n e, show bB (pushB B h a b) t = bB B t from fu_n e, show szB (pushB B h a b) t = szB B t from fu_n e, show wgB (pushB B h a b) t = wgB B t from fu_n e]
        exact R.2.2.2.2.1 t (by omega)
    · intro t ht v hv8
      have ht : t < nB B + 1 := ht
      rw [b8]
      by_cases e : t = nB B
      · subst e
        rw [e1 v hv8, show ctB (pushB B h a b) (nB B) = _ from fu_s]
      · rw [e2 (8 * t + v) (by omega), l6, show ctB (pushB B h a b) t = ctB B t from fu_n e]
        exact R.2.2.2.2.2 t (by omega) v hv8
    · intro j hj
      rw [bs]
      exact c2 j hj
  · rw [key, mMakeB G R hh ha hb hno N 0 (by omega) (by omega)]
    unfold bX11_make_53
    have hc : nI (nB B) ≤ nI (nB B) := by rw [nI_leI (by omega) (by omega)]; omega
    rw [R.2.1, if_pos hc, if_pos (by rw [hl]; rfl)]
    rfl
theorem mMakeOver {N d : Nat} {w : Wd} {x1 x2 x3 : Int32} (h : ¬ sI w 4 = 0) : eX11_make N (d + 1) w x1 x2 x3 = some (w, -1) := by
  show bX11_make_0 N d w x1 x2 x3 = _
  unfold bX11_make_0
  rw [if_neg h]
