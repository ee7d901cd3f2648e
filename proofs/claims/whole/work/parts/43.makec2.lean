theorem pvB_push {B : Bk} {h a b k m : Nat} (hm : m ≤ nB B) : pvB (pushB B h a b) k m = pvB B k m := by
  induction m with
  | zero => rfl
  | succ m ih =>
    unfold pvB
    rw [ih (by omega)]
    have e : bkB (pushB B h a b) m = bkB B m := by
      unfold bkB
      rw [show hB (pushB B h a b) m = hB B m from fu_n (by omega), show aB (pushB B h a b) m = aB B m from fu_n (by omega), show bB (pushB B h a b) m = bB B m from fu_n (by omega)]
    rw [e]
theorem bkB_push {B : Bk} {h a b : Nat} : bkB (pushB B h a b) (nB B) = bkI (nI h) (eN a) (eN b) := by
  unfold bkB
  rw [show hB (pushB B h a b) (nB B) = h from fu_s, show aB (pushB B h a b) (nB B) = a from fu_s, show bB (pushB B h a b) (nB B) = b from fu_s]
theorem cl_s {α Z : Type} {w : Wd} {a : α} {K : Wd → α → Option Z} : c_cl (some (w, a)) K = K w a := rfl
theorem cv_s {Z : Type} {w : Wd} {K : Wd → Option Z} : c_cv (some w) K = K w := rfl
theorem upd_s {f : Nat → Int32} {k : Nat} {x : Int32} : upd f k x k = x := pk_us
theorem upd_n {f : Nat → Int32} {k j : Nat} {x : Int32} (h : j ≠ k) : upd f k x j = f j := pk_un h
theorem updL_s {f : Nat → Int64} {k : Nat} {x : Int64} : vp_updL f k x k = x := pk_uLs
theorem updL_n {f : Nat → Int64} {k j : Nat} {x : Int64} (h : j ≠ k) : vp_updL f k x j = f j := pk_uLn h
theorem cMake {B : Bk} {w : Wd} (G : GB B) (R : RB B w) {N d h a b : Nat} (hN : 2000000 ≤ N) (hv : VN B h a b) :
    (∀ t, t < nB B → hB B t = h → aB B t = a → bB B t = b → eX8_make N (d + 2) w (nI h) (eN a) (eN b) = some (w, nI t)) ∧
    (NewN B h a b → nB B < 1000 → ∃ w2, eX8_make N (d + 2) w (nI h) (eN a) (eN b) = some (w2, nI (nB B)) ∧ RB (pushB B h a b) w2 ∧ FrB w w2) ∧
    (NewN B h a b → nB B = 1000 → eX8_make N (d + 2) w (nI h) (eN a) (eN b) = some (w, -4)) := by
  have g1 := G.1
  have g2 := G.2.1
  have hh : h < 18 := by rcases hv.1 with q | q <;> omega
  have ha : a ≤ 2000 := by have := hv.2.1; split at this <;> omega
  have hb : b ≤ 2000 := by have := hv.2.2; split at this <;> omega
  obtain ⟨f1, f2⟩ := cFind (N := N) (d := d) (h := h) (a := a) (b := b) G R hN hh ha hb
  have key : eX8_make N (d + 2) w (nI h) (eN a) (eN b) = bX8_make_0 N (d + 1) w (nI h) (eN a) (eN b) := rfl
  have hbk : eX8_bucketOf N (d + 1) w (nI h) (eN a) (eN b) = some (w, nI (bkI (nI h) (eN a) (eN b))) := by
    show some (w, _) = _
    rw [(bkI_eq (nI h) (eN a) (eN b)).1]
  have hk := (bkI_eq (nI h) (eN a) (eN b)).2
  rw [key]
  unfold bX8_make_0
  rw [hbk, cl_s]
  generalize hkk : bkI (nI h) (eN a) (eN b) = k at *
  refine ⟨fun t ht e1 e2 e3 => ?_, fun hno hl => ?_, fun hno hl => ?_⟩
  · rw [f1 t ht e1 e2 e3, cl_s, if_neg (nI_m1 (by omega))]
  · rw [f2 hno, cl_s, if_pos rfl]
    simp only [c_nm, c_pi]
    have hlt : nI (nB B) < (1000 : Int32) := by rw [show (1000 : Int32) = nI 1000 from rfl, nI_ltI (by omega) (by omega)]; exact hl
    rw [R.2.1, if_pos hlt, st_n hl (by omega), st_n hl (by omega), st_n hl (by omega), ld_n hk (by omega), st_n hl (by omega), st_n hk (by omega)]
    generalize hw12 : pA (pA (pA (pA (pA (pI w 1 (nI (nB B) + 1)) 14 _) 15 _) 16 _) 21 _) 20 _ = w12
    have c12 : ∀ j, j ≠ 1 → sI w12 j = sI w j := fun j hj => by rw [← hw12]; simp only [sI_pA, sI_pI, if_neg hj]
    have c1 : sI w12 1 = nI (nB B + 1) := by rw [← hw12]; simp only [sI_pA, sI_pI, if_true]; exact nI_1 _
    have a14 : aI w12 14 = upd (aI w 14) (nB B) (nI h) := by rw [← hw12]; rfl
    have a15 : aI w12 15 = upd (aI w 15) (nB B) (eN a) := by rw [← hw12]; rfl
    have a16 : aI w12 16 = upd (aI w 16) (nB B) (eN b) := by rw [← hw12]; rfl
    have a21 : aI w12 21 = upd (aI w 21) (nB B) (aI w 20 k) := by rw [← hw12]; rfl
    have a20 : aI w12 20 = upd (aI w 20) k (nI (nB B) + 1) := by rw [← hw12]; rfl
    have a19 : aI w12 19 = aI w 19 := by rw [← hw12]; rfl
    have aoff : ∀ j, j < 14 ∨ 22 < j → aI w12 j = aI w j := fun j hj => by
      rw [← hw12]
      simp only [aI_pA, aI_pI]
      rw [if_neg (by omega), if_neg (by omega), if_neg (by omega), if_neg (by omega), if_neg (by omega)]
    have l12 : ∀ j, aL w12 j = aL w j := fun j => by rw [← hw12]; rfl
    have sl12 : ∀ j, sL w12 j = sL w j := fun j => by rw [← hw12]; rfl
    obtain ⟨M, hM, hE⟩ := cMeas (N := N) (d := d) (w := w12) (t := nB B) (h := h) (a := a) (b := b) G hl (by rw [a14]; exact upd_s) (by rw [a15]; exact upd_s) (by rw [a16]; exact upd_s) (by rw [aoff 13 (by omega)]; exact (R.2.2.1 h hv.1).2) hv (fun q hq => by
      rw [l12, l12, a19]
      have r := R.2.2.2.1 q hq
      obtain ⟨M, m1, m2, m3⟩ := R.2.2.2.2.1 q hq
      exact ⟨r.2.2.2.1, r.2.2.2.2, M, ⟨m1, m3⟩, m2⟩)
    rw [hE, cv_s]
    generalize hw13 : pA (pB (pB w12 17 _) 18 _) 19 _ = w13
    have b14 : aI w13 14 = upd (aI w 14) (nB B) (nI h) := by rw [← a14, ← hw13]; rfl
    have b15 : aI w13 15 = upd (aI w 15) (nB B) (eN a) := by rw [← a15, ← hw13]; rfl
    have b16 : aI w13 16 = upd (aI w 16) (nB B) (eN b) := by rw [← a16, ← hw13]; rfl
    have b21 : aI w13 21 = upd (aI w 21) (nB B) (aI w 20 k) := by rw [← a21, ← hw13]; rfl
    have b20 : aI w13 20 = upd (aI w 20) k (nI (nB B) + 1) := by rw [← a20, ← hw13]; rfl
    have b19 : aI w13 19 = upd (aI w 19) (nB B) (nI M) := by rw [← a19, ← hw13]; rfl
    have b17 : aL w13 17 = vp_updL (aL w 17) (nB B) (lN (capN (1 + two (arB B h) (szB B a) (szB B b)))) := by rw [← l12, ← hw13]; rfl
    have b18 : aL w13 18 = vp_updL (aL w 18) (nB B) (lN (capN (wtB B h + two (arB B h) (wgB B a) (wgB B b)))) := by rw [← l12, ← hw13]; rfl
    have boff : ∀ j, j < 14 ∨ 22 < j → aI w13 j = aI w j ∧ aL w13 j = aL w j := fun j hj => by
      rw [← aoff j hj, ← l12 j, ← hw13]
      simp only [aI_pA, aI_pB, aL_pA, aL_pB]
      rw [if_neg (by omega), if_neg (by omega), if_neg (by omega)]
      exact ⟨rfl, rfl⟩
    have bs : ∀ j, sI w13 j = sI w12 j := fun j => by rw [← hw13]; rfl
    have bsl : ∀ j, sL w13 j = sL w j := fun j => by rw [← sl12 j, ← hw13]; rfl
    refine ⟨w13, rfl, ⟨?_, ?_, ?_, ?_, ?_, ?_, ?_⟩, ⟨?_, boff, bsl⟩⟩
    · rw [bs, c12 0 (by omega)]
      exact R.1
    · rw [bs]
      exact c1
    · intro j hj
      rw [(boff 12 (by omega)).1, (boff 13 (by omega)).1]
      exact R.2.2.1 j hj
    · intro t ht
      have ht : t < nB B + 1 := ht
      rw [b14, b15, b16, b17, b18]
      by_cases e : t = nB B
      · subst e
        rw [upd_s, upd_s, upd_s, updL_s, updL_s, show hB (pushB B h a b) (nB B) = h from fu_s, show aB (pushB B h a b) (nB B) = a from fu_s, show bB (pushB B h a b) (nB B) = b from fu_s, show szB (pushB B h a b) (nB B) = _ from fu_s, show wgB (pushB B h a b) (nB B) = _ from fu_s]
        exact ⟨rfl, rfl, rfl, rfl, rfl⟩
      · rw [upd_n e, upd_n e, upd_n e, updL_n e, updL_n e, show hB (pushB B h a b) t = hB B t from fu_n e, show aB (pushB B h a b) t = aB B t from fu_n e, show bB (pushB B h a b) t = bB B t from fu_n e, show szB (pushB B h a b) t = szB B t from fu_n e, show wgB (pushB B h a b) t = wgB B t from fu_n e]
        exact R.2.2.2.1 t (by omega)
    · intro t ht
      have ht : t < nB B + 1 := ht
      rw [b19]
      by_cases e : t = nB B
      · subst e
        rw [upd_s]
        refine ⟨M, hM.1, rfl, fun v hv8 => ?_⟩
        rw [hM.2 v hv8, show ctB (pushB B h a b) (nB B) = _ from fu_s]
      · obtain ⟨M, m1, m2, m3⟩ := R.2.2.2.2.1 t (by omega)
        rw [upd_n e]
        refine ⟨M, m1, m2, fun v hv8 => ?_⟩
        rw [m3 v hv8, show ctB (pushB B h a b) t = ctB B t from fu_n e]
    · intro j hj
      rw [b20]
      show upd (aI w 20) k (nI (nB B) + 1) j = nI (pvB (pushB B h a b) j (nB B + 1))
      unfold pvB
      rw [bkB_push, hkk, pvB_push (Nat.le_refl _)]
      by_cases e : j = k
      · rw [e, upd_s, if_pos rfl]
        exact nI_1 _
      · rw [upd_n e, if_neg (fun q => e q.symm)]
        exact R.2.2.2.2.2.1 j hj
    · intro t ht
      have ht : t < nB B + 1 := ht
      rw [b21]
      by_cases e : t = nB B
      · subst e
        rw [upd_s, bkB_push, hkk, pvB_push (Nat.le_refl _)]
        exact R.2.2.2.2.2.1 k hk
      · rw [upd_n e, pvB_push (by omega)]
        have e2 : bkB (pushB B h a b) t = bkB B t := by
          unfold bkB
          rw [show hB (pushB B h a b) t = hB B t from fu_n e, show aB (pushB B h a b) t = aB B t from fu_n e, show bB (pushB B h a b) t = bB B t from fu_n e]
        rw [e2]
        exact R.2.2.2.2.2.2 t (by omega)
    · intro j hj
      rw [bs]
      exact c12 j hj
  · rw [f2 hno, cl_s, if_pos rfl, R.2.1, hl, if_neg (by decide)]
